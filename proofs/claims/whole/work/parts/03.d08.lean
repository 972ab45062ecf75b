theorem d_Model_takeSymbols_0 : decode b_Model_takeSymbols 0 = .ok (.aload_n 0, 1) := by decide +kernel
theorem d_Model_takeSymbols_1 : decode b_Model_takeSymbols 1 = .ok (.getfield 136, 3) := by decide +kernel
theorem d_Model_takeSymbols_4 : decode b_Model_takeSymbols 4 = .ok (.ifCond .ne 270, 3) := by decide +kernel
theorem d_Model_takeSymbols_7 : decode b_Model_takeSymbols 7 = .ok (.aload_n 0, 1) := by decide +kernel
theorem d_Model_takeSymbols_8 : decode b_Model_takeSymbols 8 = .ok (.invokevirtual 142, 3) := by decide +kernel
theorem d_Model_takeSymbols_11 : decode b_Model_takeSymbols 11 = .ok (.bipush 105, 2) := by decide +kernel
theorem d_Model_takeSymbols_13 : decode b_Model_takeSymbols 13 = .ok (.if_icmp .eq 21, 3) := by decide +kernel
theorem d_Model_takeSymbols_16 : decode b_Model_takeSymbols 16 = .ok (.aload_n 0, 1) := by decide +kernel
theorem d_Model_takeSymbols_17 : decode b_Model_takeSymbols 17 = .ok (.invokevirtual 142, 3) := by decide +kernel
theorem d_Model_takeSymbols_20 : decode b_Model_takeSymbols 20 = .ok (.bipush 108, 2) := by decide +kernel
theorem d_Model_takeSymbols_22 : decode b_Model_takeSymbols 22 = .ok (.if_icmp .eq 12, 3) := by decide +kernel
theorem d_Model_takeSymbols_25 : decode b_Model_takeSymbols 25 = .ok (.aload_n 0, 1) := by decide +kernel
theorem d_Model_takeSymbols_26 : decode b_Model_takeSymbols 26 = .ok (.invokevirtual 142, 3) := by decide +kernel
theorem d_Model_takeSymbols_29 : decode b_Model_takeSymbols 29 = .ok (.bipush 111, 2) := by decide +kernel
theorem d_Model_takeSymbols_31 : decode b_Model_takeSymbols 31 = .ok (.if_icmp .ne 243, 3) := by decide +kernel
theorem d_Model_takeSymbols_34 : decode b_Model_takeSymbols 34 = .ok (.aload_n 0, 1) := by decide +kernel
theorem d_Model_takeSymbols_35 : decode b_Model_takeSymbols 35 = .ok (.invokevirtual 142, 3) := by decide +kernel
theorem d_Model_takeSymbols_38 : decode b_Model_takeSymbols 38 = .ok (.bipush 105, 2) := by decide +kernel
theorem d_Model_takeSymbols_40 : decode b_Model_takeSymbols 40 = .ok (.if_icmp .ne 7, 3) := by decide +kernel
theorem d_Model_takeSymbols_43 : decode b_Model_takeSymbols 43 = .ok (.iconst 0, 1) := by decide +kernel
theorem d_Model_takeSymbols_44 : decode b_Model_takeSymbols 44 = .ok (.goto 17, 3) := by decide +kernel
theorem d_Model_takeSymbols_47 : decode b_Model_takeSymbols 47 = .ok (.aload_n 0, 1) := by decide +kernel
theorem d_Model_takeSymbols_48 : decode b_Model_takeSymbols 48 = .ok (.invokevirtual 142, 3) := by decide +kernel
theorem d_Model_takeSymbols_51 : decode b_Model_takeSymbols 51 = .ok (.bipush 108, 2) := by decide +kernel
theorem d_Model_takeSymbols_53 : decode b_Model_takeSymbols 53 = .ok (.if_icmp .ne 7, 3) := by decide +kernel
theorem d_Model_takeSymbols_56 : decode b_Model_takeSymbols 56 = .ok (.iconst 1, 1) := by decide +kernel
theorem d_Model_takeSymbols_57 : decode b_Model_takeSymbols 57 = .ok (.goto 4, 3) := by decide +kernel
theorem d_Model_takeSymbols_60 : decode b_Model_takeSymbols 60 = .ok (.iconst 2, 1) := by decide +kernel
theorem d_Model_takeSymbols_61 : decode b_Model_takeSymbols 61 = .ok (.istore_n 1, 1) := by decide +kernel
theorem d_Model_takeSymbols_62 : decode b_Model_takeSymbols 62 = .ok (.aload_n 0, 1) := by decide +kernel
theorem d_Model_takeSymbols_63 : decode b_Model_takeSymbols 63 = .ok (.dup, 1) := by decide +kernel
theorem d_Model_takeSymbols_64 : decode b_Model_takeSymbols 64 = .ok (.getfield 133, 3) := by decide +kernel
theorem d_Model_takeSymbols_67 : decode b_Model_takeSymbols 67 = .ok (.iconst 1, 1) := by decide +kernel
theorem d_Model_takeSymbols_68 : decode b_Model_takeSymbols 68 = .ok (.iadd, 1) := by decide +kernel
theorem d_Model_takeSymbols_69 : decode b_Model_takeSymbols 69 = .ok (.putfield 133, 3) := by decide +kernel
theorem d_Model_takeSymbols_72 : decode b_Model_takeSymbols 72 = .ok (.aload_n 0, 1) := by decide +kernel
theorem d_Model_takeSymbols_73 : decode b_Model_takeSymbols 73 = .ok (.invokevirtual 157, 3) := by decide +kernel
theorem d_Model_takeSymbols_76 : decode b_Model_takeSymbols 76 = .ok (.iload_n 1, 1) := by decide +kernel
theorem d_Model_takeSymbols_77 : decode b_Model_takeSymbols 77 = .ok (.ifCond .ne 8, 3) := by decide +kernel
theorem d_Model_takeSymbols_80 : decode b_Model_takeSymbols 80 = .ok (.bipush 44, 2) := by decide +kernel
theorem d_Model_takeSymbols_82 : decode b_Model_takeSymbols 82 = .ok (.goto 15, 3) := by decide +kernel
theorem d_Model_takeSymbols_85 : decode b_Model_takeSymbols 85 = .ok (.iload_n 1, 1) := by decide +kernel
theorem d_Model_takeSymbols_86 : decode b_Model_takeSymbols 86 = .ok (.iconst 1, 1) := by decide +kernel
theorem d_Model_takeSymbols_87 : decode b_Model_takeSymbols 87 = .ok (.if_icmp .ne 8, 3) := by decide +kernel
theorem d_Model_takeSymbols_90 : decode b_Model_takeSymbols 90 = .ok (.bipush 50, 2) := by decide +kernel
theorem d_Model_takeSymbols_92 : decode b_Model_takeSymbols 92 = .ok (.goto 5, 3) := by decide +kernel
theorem d_Model_takeSymbols_95 : decode b_Model_takeSymbols 95 = .ok (.bipush 58, 2) := by decide +kernel
theorem d_Model_takeSymbols_97 : decode b_Model_takeSymbols 97 = .ok (.aload_n 0, 1) := by decide +kernel
theorem d_Model_takeSymbols_98 : decode b_Model_takeSymbols 98 = .ok (.getfield 150, 3) := by decide +kernel
theorem d_Model_takeSymbols_101 : decode b_Model_takeSymbols 101 = .ok (.iadd, 1) := by decide +kernel
theorem d_Model_takeSymbols_102 : decode b_Model_takeSymbols 102 = .ok (.istore_n 2, 1) := by decide +kernel
theorem d_Model_takeSymbols_103 : decode b_Model_takeSymbols 103 = .ok (.aload_n 0, 1) := by decide +kernel
theorem d_Model_takeSymbols_104 : decode b_Model_takeSymbols 104 = .ok (.getfield 136, 3) := by decide +kernel
theorem d_Model_takeSymbols_107 : decode b_Model_takeSymbols 107 = .ok (.ifCond .ne 37, 3) := by decide +kernel
theorem d_Model_takeSymbols_110 : decode b_Model_takeSymbols 110 = .ok (.aload_n 0, 1) := by decide +kernel
theorem d_Model_takeSymbols_111 : decode b_Model_takeSymbols 111 = .ok (.getfield 150, 3) := by decide +kernel
theorem d_Model_takeSymbols_114 : decode b_Model_takeSymbols 114 = .ok (.aload_n 0, 1) := by decide +kernel
theorem d_Model_takeSymbols_115 : decode b_Model_takeSymbols 115 = .ok (.getfield 20, 3) := by decide +kernel
theorem d_Model_takeSymbols_118 : decode b_Model_takeSymbols 118 = .ok (.bipush 11, 2) := by decide +kernel
theorem d_Model_takeSymbols_120 : decode b_Model_takeSymbols 120 = .ok (.iload_n 1, 1) := by decide +kernel
theorem d_Model_takeSymbols_121 : decode b_Model_takeSymbols 121 = .ok (.iadd, 1) := by decide +kernel
theorem d_Model_takeSymbols_122 : decode b_Model_takeSymbols 122 = .ok (.iaload, 1) := by decide +kernel
theorem d_Model_takeSymbols_123 : decode b_Model_takeSymbols 123 = .ok (.if_icmp .ge 12, 3) := by decide +kernel
theorem d_Model_takeSymbols_126 : decode b_Model_takeSymbols 126 = .ok (.aload_n 0, 1) := by decide +kernel
theorem d_Model_takeSymbols_127 : decode b_Model_takeSymbols 127 = .ok (.getfield 66, 3) := by decide +kernel
theorem d_Model_takeSymbols_130 : decode b_Model_takeSymbols 130 = .ok (.iload_n 2, 1) := by decide +kernel
theorem d_Model_takeSymbols_131 : decode b_Model_takeSymbols 131 = .ok (.iaload, 1) := by decide +kernel
theorem d_Model_takeSymbols_132 : decode b_Model_takeSymbols 132 = .ok (.ifCond .le 12, 3) := by decide +kernel
theorem d_Model_takeSymbols_135 : decode b_Model_takeSymbols 135 = .ok (.aload_n 0, 1) := by decide +kernel
theorem d_Model_takeSymbols_136 : decode b_Model_takeSymbols 136 = .ok (.iconst 1, 1) := by decide +kernel
theorem d_Model_takeSymbols_137 : decode b_Model_takeSymbols 137 = .ok (.aload_n 0, 1) := by decide +kernel
theorem d_Model_takeSymbols_138 : decode b_Model_takeSymbols 138 = .ok (.getfield 133, 3) := by decide +kernel
theorem d_Model_takeSymbols_141 : decode b_Model_takeSymbols 141 = .ok (.invokevirtual 146, 3) := by decide +kernel
theorem d_Model_takeSymbols_144 : decode b_Model_takeSymbols 144 = .ok (.aload_n 0, 1) := by decide +kernel
theorem d_Model_takeSymbols_145 : decode b_Model_takeSymbols 145 = .ok (.bipush 32, 2) := by decide +kernel
theorem d_Model_takeSymbols_147 : decode b_Model_takeSymbols 147 = .ok (.invokevirtual 167, 3) := by decide +kernel
theorem d_Model_takeSymbols_150 : decode b_Model_takeSymbols 150 = .ok (.aload_n 0, 1) := by decide +kernel
theorem d_Model_takeSymbols_151 : decode b_Model_takeSymbols 151 = .ok (.getfield 136, 3) := by decide +kernel
theorem d_Model_takeSymbols_154 : decode b_Model_takeSymbols 154 = .ok (.ifCond .ne 86, 3) := by decide +kernel
theorem d_Model_takeSymbols_157 : decode b_Model_takeSymbols 157 = .ok (.aload_n 0, 1) := by decide +kernel
theorem d_Model_takeSymbols_158 : decode b_Model_takeSymbols 158 = .ok (.invokevirtual 142, 3) := by decide +kernel
theorem d_Model_takeSymbols_161 : decode b_Model_takeSymbols 161 = .ok (.ifCond .lt 79, 3) := by decide +kernel
theorem d_Model_takeSymbols_164 : decode b_Model_takeSymbols 164 = .ok (.aload_n 0, 1) := by decide +kernel
theorem d_Model_takeSymbols_165 : decode b_Model_takeSymbols 165 = .ok (.invokevirtual 142, 3) := by decide +kernel
theorem d_Model_takeSymbols_168 : decode b_Model_takeSymbols 168 = .ok (.bipush 10, 2) := by decide +kernel
theorem d_Model_takeSymbols_170 : decode b_Model_takeSymbols 170 = .ok (.if_icmp .eq 70, 3) := by decide +kernel
theorem d_Model_takeSymbols_173 : decode b_Model_takeSymbols 173 = .ok (.aload_n 0, 1) := by decide +kernel
theorem d_Model_takeSymbols_174 : decode b_Model_takeSymbols 174 = .ok (.getfield 66, 3) := by decide +kernel
theorem d_Model_takeSymbols_177 : decode b_Model_takeSymbols 177 = .ok (.iload_n 2, 1) := by decide +kernel
theorem d_Model_takeSymbols_178 : decode b_Model_takeSymbols 178 = .ok (.iaload, 1) := by decide +kernel
theorem d_Model_takeSymbols_179 : decode b_Model_takeSymbols 179 = .ok (.bipush 40, 2) := by decide +kernel
theorem d_Model_takeSymbols_181 : decode b_Model_takeSymbols 181 = .ok (.if_icmp .ne 15, 3) := by decide +kernel
theorem d_Model_takeSymbols_184 : decode b_Model_takeSymbols 184 = .ok (.aload_n 0, 1) := by decide +kernel
theorem d_Model_takeSymbols_185 : decode b_Model_takeSymbols 185 = .ok (.iconst 1, 1) := by decide +kernel
theorem d_Model_takeSymbols_186 : decode b_Model_takeSymbols 186 = .ok (.aload_n 0, 1) := by decide +kernel
theorem d_Model_takeSymbols_187 : decode b_Model_takeSymbols 187 = .ok (.getfield 133, 3) := by decide +kernel
theorem d_Model_takeSymbols_190 : decode b_Model_takeSymbols 190 = .ok (.invokevirtual 146, 3) := by decide +kernel
theorem d_Model_takeSymbols_193 : decode b_Model_takeSymbols 193 = .ok (.goto (-43), 3) := by decide +kernel
theorem d_Model_takeSymbols_196 : decode b_Model_takeSymbols 196 = .ok (.aload_n 0, 1) := by decide +kernel
theorem d_Model_takeSymbols_197 : decode b_Model_takeSymbols 197 = .ok (.getfield 63, 3) := by decide +kernel
theorem d_Model_takeSymbols_200 : decode b_Model_takeSymbols 200 = .ok (.bipush 40, 2) := by decide +kernel
theorem d_Model_takeSymbols_202 : decode b_Model_takeSymbols 202 = .ok (.iload_n 2, 1) := by decide +kernel
theorem d_Model_takeSymbols_203 : decode b_Model_takeSymbols 203 = .ok (.imul, 1) := by decide +kernel
theorem d_Model_takeSymbols_204 : decode b_Model_takeSymbols 204 = .ok (.aload_n 0, 1) := by decide +kernel
theorem d_Model_takeSymbols_205 : decode b_Model_takeSymbols 205 = .ok (.getfield 66, 3) := by decide +kernel
theorem d_Model_takeSymbols_208 : decode b_Model_takeSymbols 208 = .ok (.iload_n 2, 1) := by decide +kernel
theorem d_Model_takeSymbols_209 : decode b_Model_takeSymbols 209 = .ok (.iaload, 1) := by decide +kernel
theorem d_Model_takeSymbols_210 : decode b_Model_takeSymbols 210 = .ok (.iadd, 1) := by decide +kernel
theorem d_Model_takeSymbols_211 : decode b_Model_takeSymbols 211 = .ok (.aload_n 0, 1) := by decide +kernel
theorem d_Model_takeSymbols_212 : decode b_Model_takeSymbols 212 = .ok (.invokevirtual 142, 3) := by decide +kernel
theorem d_Model_takeSymbols_215 : decode b_Model_takeSymbols 215 = .ok (.i2b, 1) := by decide +kernel
theorem d_Model_takeSymbols_216 : decode b_Model_takeSymbols 216 = .ok (.bastore, 1) := by decide +kernel
theorem d_Model_takeSymbols_217 : decode b_Model_takeSymbols 217 = .ok (.aload_n 0, 1) := by decide +kernel
theorem d_Model_takeSymbols_218 : decode b_Model_takeSymbols 218 = .ok (.getfield 66, 3) := by decide +kernel
theorem d_Model_takeSymbols_221 : decode b_Model_takeSymbols 221 = .ok (.iload_n 2, 1) := by decide +kernel
theorem d_Model_takeSymbols_222 : decode b_Model_takeSymbols 222 = .ok (.dup2, 1) := by decide +kernel
theorem d_Model_takeSymbols_223 : decode b_Model_takeSymbols 223 = .ok (.iaload, 1) := by decide +kernel
theorem d_Model_takeSymbols_224 : decode b_Model_takeSymbols 224 = .ok (.iconst 1, 1) := by decide +kernel
theorem d_Model_takeSymbols_225 : decode b_Model_takeSymbols 225 = .ok (.iadd, 1) := by decide +kernel
theorem d_Model_takeSymbols_226 : decode b_Model_takeSymbols 226 = .ok (.iastore, 1) := by decide +kernel
theorem d_Model_takeSymbols_227 : decode b_Model_takeSymbols 227 = .ok (.aload_n 0, 1) := by decide +kernel
theorem d_Model_takeSymbols_228 : decode b_Model_takeSymbols 228 = .ok (.dup, 1) := by decide +kernel
theorem d_Model_takeSymbols_229 : decode b_Model_takeSymbols 229 = .ok (.getfield 133, 3) := by decide +kernel
theorem d_Model_takeSymbols_232 : decode b_Model_takeSymbols 232 = .ok (.iconst 1, 1) := by decide +kernel
theorem d_Model_takeSymbols_233 : decode b_Model_takeSymbols 233 = .ok (.iadd, 1) := by decide +kernel
theorem d_Model_takeSymbols_234 : decode b_Model_takeSymbols 234 = .ok (.putfield 133, 3) := by decide +kernel
theorem d_Model_takeSymbols_237 : decode b_Model_takeSymbols 237 = .ok (.goto (-87), 3) := by decide +kernel
theorem d_Model_takeSymbols_240 : decode b_Model_takeSymbols 240 = .ok (.aload_n 0, 1) := by decide +kernel
theorem d_Model_takeSymbols_241 : decode b_Model_takeSymbols 241 = .ok (.getfield 136, 3) := by decide +kernel
theorem d_Model_takeSymbols_244 : decode b_Model_takeSymbols 244 = .ok (.ifCond .ne 21, 3) := by decide +kernel
theorem d_Model_takeSymbols_247 : decode b_Model_takeSymbols 247 = .ok (.aload_n 0, 1) := by decide +kernel
theorem d_Model_takeSymbols_248 : decode b_Model_takeSymbols 248 = .ok (.getfield 66, 3) := by decide +kernel
theorem d_Model_takeSymbols_251 : decode b_Model_takeSymbols 251 = .ok (.iload_n 2, 1) := by decide +kernel
theorem d_Model_takeSymbols_252 : decode b_Model_takeSymbols 252 = .ok (.iaload, 1) := by decide +kernel
theorem d_Model_takeSymbols_253 : decode b_Model_takeSymbols 253 = .ok (.ifCond .ne 12, 3) := by decide +kernel
theorem d_Model_takeSymbols_256 : decode b_Model_takeSymbols 256 = .ok (.aload_n 0, 1) := by decide +kernel
theorem d_Model_takeSymbols_257 : decode b_Model_takeSymbols 257 = .ok (.iconst 1, 1) := by decide +kernel
theorem d_Model_takeSymbols_258 : decode b_Model_takeSymbols 258 = .ok (.aload_n 0, 1) := by decide +kernel
theorem d_Model_takeSymbols_259 : decode b_Model_takeSymbols 259 = .ok (.getfield 133, 3) := by decide +kernel
theorem d_Model_takeSymbols_262 : decode b_Model_takeSymbols 262 = .ok (.invokevirtual 146, 3) := by decide +kernel
theorem d_Model_takeSymbols_265 : decode b_Model_takeSymbols 265 = .ok (.aload_n 0, 1) := by decide +kernel
theorem d_Model_takeSymbols_266 : decode b_Model_takeSymbols 266 = .ok (.bipush 10, 2) := by decide +kernel
theorem d_Model_takeSymbols_268 : decode b_Model_takeSymbols 268 = .ok (.invokevirtual 167, 3) := by decide +kernel
theorem d_Model_takeSymbols_271 : decode b_Model_takeSymbols 271 = .ok (.goto (-271), 3) := by decide +kernel
theorem d_Model_takeSymbols_274 : decode b_Model_takeSymbols 274 = .ok (.aload_n 0, 1) := by decide +kernel
theorem d_Model_takeSymbols_275 : decode b_Model_takeSymbols 275 = .ok (.getfield 136, 3) := by decide +kernel
theorem d_Model_takeSymbols_278 : decode b_Model_takeSymbols 278 = .ok (.ifCond .gt 11, 3) := by decide +kernel
theorem d_Model_takeSymbols_281 : decode b_Model_takeSymbols 281 = .ok (.aload_n 0, 1) := by decide +kernel
theorem d_Model_takeSymbols_282 : decode b_Model_takeSymbols 282 = .ok (.invokevirtual 142, 3) := by decide +kernel
theorem d_Model_takeSymbols_285 : decode b_Model_takeSymbols 285 = .ok (.iconst (-1), 1) := by decide +kernel
theorem d_Model_takeSymbols_286 : decode b_Model_takeSymbols 286 = .ok (.if_icmp .ne 4, 3) := by decide +kernel
theorem d_Model_takeSymbols_289 : decode b_Model_takeSymbols 289 = .ok (.return_, 1) := by decide +kernel
theorem d_Model_takeSymbols_290 : decode b_Model_takeSymbols 290 = .ok (.aload_n 0, 1) := by decide +kernel
theorem d_Model_takeSymbols_291 : decode b_Model_takeSymbols 291 = .ok (.bipush 99, 2) := by decide +kernel
theorem d_Model_takeSymbols_293 : decode b_Model_takeSymbols 293 = .ok (.invokevirtual 167, 3) := by decide +kernel
theorem d_Model_takeSymbols_296 : decode b_Model_takeSymbols 296 = .ok (.aload_n 0, 1) := by decide +kernel
theorem d_Model_takeSymbols_297 : decode b_Model_takeSymbols 297 = .ok (.bipush 10, 2) := by decide +kernel
theorem d_Model_takeSymbols_299 : decode b_Model_takeSymbols 299 = .ok (.invokevirtual 167, 3) := by decide +kernel
theorem d_Model_takeSymbols_302 : decode b_Model_takeSymbols 302 = .ok (.return_, 1) := by decide +kernel
theorem d_Model_isNowhere_0 : decode b_Model_isNowhere 0 = .ok (.iload_n 1, 1) := by decide +kernel
theorem d_Model_isNowhere_1 : decode b_Model_isNowhere 1 = .ok (.iconst 1, 1) := by decide +kernel
theorem d_Model_isNowhere_2 : decode b_Model_isNowhere 2 = .ok (.if_icmp .le 22, 3) := by decide +kernel
theorem d_Model_isNowhere_5 : decode b_Model_isNowhere 5 = .ok (.aload_n 0, 1) := by decide +kernel
theorem d_Model_isNowhere_6 : decode b_Model_isNowhere 6 = .ok (.getfield 45, 3) := by decide +kernel
theorem d_Model_isNowhere_9 : decode b_Model_isNowhere 9 = .ok (.sipush 402, 3) := by decide +kernel
theorem d_Model_isNowhere_12 : decode b_Model_isNowhere 12 = .ok (.iload_n 1, 1) := by decide +kernel
theorem d_Model_isNowhere_13 : decode b_Model_isNowhere 13 = .ok (.iconst 2, 1) := by decide +kernel
theorem d_Model_isNowhere_14 : decode b_Model_isNowhere 14 = .ok (.idiv, 1) := by decide +kernel
theorem d_Model_isNowhere_15 : decode b_Model_isNowhere 15 = .ok (.iadd, 1) := by decide +kernel
theorem d_Model_isNowhere_16 : decode b_Model_isNowhere 16 = .ok (.iaload, 1) := by decide +kernel
theorem d_Model_isNowhere_17 : decode b_Model_isNowhere 17 = .ok (.ifCond .ne 7, 3) := by decide +kernel
theorem d_Model_isNowhere_20 : decode b_Model_isNowhere 20 = .ok (.iconst 1, 1) := by decide +kernel
theorem d_Model_isNowhere_21 : decode b_Model_isNowhere 21 = .ok (.goto 4, 3) := by decide +kernel
theorem d_Model_isNowhere_24 : decode b_Model_isNowhere 24 = .ok (.iconst 0, 1) := by decide +kernel
theorem d_Model_isNowhere_25 : decode b_Model_isNowhere 25 = .ok (.ireturn, 1) := by decide +kernel
theorem d_Model_findNowhere_0 : decode b_Model_findNowhere 0 = .ok (.iconst 0, 1) := by decide +kernel
theorem d_Model_findNowhere_1 : decode b_Model_findNowhere 1 = .ok (.istore_n 1, 1) := by decide +kernel
theorem d_Model_findNowhere_2 : decode b_Model_findNowhere 2 = .ok (.iload_n 1, 1) := by decide +kernel
theorem d_Model_findNowhere_3 : decode b_Model_findNowhere 3 = .ok (.aload_n 0, 1) := by decide +kernel
theorem d_Model_findNowhere_4 : decode b_Model_findNowhere 4 = .ok (.getfield 20, 3) := by decide +kernel
theorem d_Model_findNowhere_7 : decode b_Model_findNowhere 7 = .ok (.bipush 12, 2) := by decide +kernel
theorem d_Model_findNowhere_9 : decode b_Model_findNowhere 9 = .ok (.iaload, 1) := by decide +kernel
theorem d_Model_findNowhere_10 : decode b_Model_findNowhere 10 = .ok (.if_icmp .ge 36, 3) := by decide +kernel
theorem d_Model_findNowhere_13 : decode b_Model_findNowhere 13 = .ok (.aload_n 0, 1) := by decide +kernel
theorem d_Model_findNowhere_14 : decode b_Model_findNowhere 14 = .ok (.aload_n 0, 1) := by decide +kernel
theorem d_Model_findNowhere_15 : decode b_Model_findNowhere 15 = .ok (.getfield 30, 3) := by decide +kernel
theorem d_Model_findNowhere_18 : decode b_Model_findNowhere 18 = .ok (.bipush 14, 2) := by decide +kernel
theorem d_Model_findNowhere_20 : decode b_Model_findNowhere 20 = .ok (.iload_n 1, 1) := by decide +kernel
theorem d_Model_findNowhere_21 : decode b_Model_findNowhere 21 = .ok (.iadd, 1) := by decide +kernel
theorem d_Model_findNowhere_22 : decode b_Model_findNowhere 22 = .ok (.iaload, 1) := by decide +kernel
theorem d_Model_findNowhere_23 : decode b_Model_findNowhere 23 = .ok (.invokevirtual 184, 3) := by decide +kernel
theorem d_Model_findNowhere_26 : decode b_Model_findNowhere 26 = .ok (.ifCond .eq 14, 3) := by decide +kernel
theorem d_Model_findNowhere_29 : decode b_Model_findNowhere 29 = .ok (.aload_n 0, 1) := by decide +kernel
theorem d_Model_findNowhere_30 : decode b_Model_findNowhere 30 = .ok (.iconst 5, 1) := by decide +kernel
theorem d_Model_findNowhere_31 : decode b_Model_findNowhere 31 = .ok (.aload_n 0, 1) := by decide +kernel
theorem d_Model_findNowhere_32 : decode b_Model_findNowhere 32 = .ok (.getfield 51, 3) := by decide +kernel
theorem d_Model_findNowhere_35 : decode b_Model_findNowhere 35 = .ok (.iload_n 1, 1) := by decide +kernel
theorem d_Model_findNowhere_36 : decode b_Model_findNowhere 36 = .ok (.iaload, 1) := by decide +kernel
theorem d_Model_findNowhere_37 : decode b_Model_findNowhere 37 = .ok (.invokevirtual 146, 3) := by decide +kernel
theorem d_Model_findNowhere_40 : decode b_Model_findNowhere 40 = .ok (.iinc 1 1, 3) := by decide +kernel
theorem d_Model_findNowhere_43 : decode b_Model_findNowhere 43 = .ok (.goto (-41), 3) := by decide +kernel
theorem d_Model_findNowhere_46 : decode b_Model_findNowhere 46 = .ok (.iconst 0, 1) := by decide +kernel
theorem d_Model_findNowhere_47 : decode b_Model_findNowhere 47 = .ok (.istore_n 1, 1) := by decide +kernel
theorem d_Model_findNowhere_48 : decode b_Model_findNowhere 48 = .ok (.iload_n 1, 1) := by decide +kernel
theorem d_Model_findNowhere_49 : decode b_Model_findNowhere 49 = .ok (.aload_n 0, 1) := by decide +kernel
theorem d_Model_findNowhere_50 : decode b_Model_findNowhere 50 = .ok (.getfield 20, 3) := by decide +kernel
theorem d_Model_findNowhere_53 : decode b_Model_findNowhere 53 = .ok (.bipush 13, 2) := by decide +kernel
theorem d_Model_findNowhere_55 : decode b_Model_findNowhere 55 = .ok (.iaload, 1) := by decide +kernel
theorem d_Model_findNowhere_56 : decode b_Model_findNowhere 56 = .ok (.if_icmp .ge 36, 3) := by decide +kernel
theorem d_Model_findNowhere_59 : decode b_Model_findNowhere 59 = .ok (.aload_n 0, 1) := by decide +kernel
theorem d_Model_findNowhere_60 : decode b_Model_findNowhere 60 = .ok (.aload_n 0, 1) := by decide +kernel
theorem d_Model_findNowhere_61 : decode b_Model_findNowhere 61 = .ok (.getfield 33, 3) := by decide +kernel
theorem d_Model_findNowhere_64 : decode b_Model_findNowhere 64 = .ok (.bipush 16, 2) := by decide +kernel
theorem d_Model_findNowhere_66 : decode b_Model_findNowhere 66 = .ok (.iload_n 1, 1) := by decide +kernel
theorem d_Model_findNowhere_67 : decode b_Model_findNowhere 67 = .ok (.iadd, 1) := by decide +kernel
theorem d_Model_findNowhere_68 : decode b_Model_findNowhere 68 = .ok (.iaload, 1) := by decide +kernel
theorem d_Model_findNowhere_69 : decode b_Model_findNowhere 69 = .ok (.invokevirtual 184, 3) := by decide +kernel
theorem d_Model_findNowhere_72 : decode b_Model_findNowhere 72 = .ok (.ifCond .eq 14, 3) := by decide +kernel
theorem d_Model_findNowhere_75 : decode b_Model_findNowhere 75 = .ok (.aload_n 0, 1) := by decide +kernel
theorem d_Model_findNowhere_76 : decode b_Model_findNowhere 76 = .ok (.iconst 5, 1) := by decide +kernel
theorem d_Model_findNowhere_77 : decode b_Model_findNowhere 77 = .ok (.aload_n 0, 1) := by decide +kernel
theorem d_Model_findNowhere_78 : decode b_Model_findNowhere 78 = .ok (.getfield 54, 3) := by decide +kernel
theorem d_Model_findNowhere_81 : decode b_Model_findNowhere 81 = .ok (.iload_n 1, 1) := by decide +kernel
theorem d_Model_findNowhere_82 : decode b_Model_findNowhere 82 = .ok (.iaload, 1) := by decide +kernel
theorem d_Model_findNowhere_83 : decode b_Model_findNowhere 83 = .ok (.invokevirtual 146, 3) := by decide +kernel
theorem d_Model_findNowhere_86 : decode b_Model_findNowhere 86 = .ok (.iinc 1 1, 3) := by decide +kernel
theorem d_Model_findNowhere_89 : decode b_Model_findNowhere 89 = .ok (.goto (-41), 3) := by decide +kernel
theorem d_Model_findNowhere_92 : decode b_Model_findNowhere 92 = .ok (.iconst 0, 1) := by decide +kernel
theorem d_Model_findNowhere_93 : decode b_Model_findNowhere 93 = .ok (.istore_n 1, 1) := by decide +kernel
theorem d_Model_findNowhere_94 : decode b_Model_findNowhere 94 = .ok (.iload_n 1, 1) := by decide +kernel
theorem d_Model_findNowhere_95 : decode b_Model_findNowhere 95 = .ok (.aload_n 0, 1) := by decide +kernel
theorem d_Model_findNowhere_96 : decode b_Model_findNowhere 96 = .ok (.getfield 20, 3) := by decide +kernel
theorem d_Model_findNowhere_99 : decode b_Model_findNowhere 99 = .ok (.bipush 14, 2) := by decide +kernel
theorem d_Model_findNowhere_101 : decode b_Model_findNowhere 101 = .ok (.iaload, 1) := by decide +kernel
theorem d_Model_findNowhere_102 : decode b_Model_findNowhere 102 = .ok (.if_icmp .ge 65, 3) := by decide +kernel
theorem d_Model_findNowhere_105 : decode b_Model_findNowhere 105 = .ok (.aload_n 0, 1) := by decide +kernel
theorem d_Model_findNowhere_106 : decode b_Model_findNowhere 106 = .ok (.aload_n 0, 1) := by decide +kernel
theorem d_Model_findNowhere_107 : decode b_Model_findNowhere 107 = .ok (.getfield 39, 3) := by decide +kernel
theorem d_Model_findNowhere_110 : decode b_Model_findNowhere 110 = .ok (.sipush 300, 3) := by decide +kernel
theorem d_Model_findNowhere_113 : decode b_Model_findNowhere 113 = .ok (.iload_n 1, 1) := by decide +kernel
theorem d_Model_findNowhere_114 : decode b_Model_findNowhere 114 = .ok (.iadd, 1) := by decide +kernel
theorem d_Model_findNowhere_115 : decode b_Model_findNowhere 115 = .ok (.iaload, 1) := by decide +kernel
theorem d_Model_findNowhere_116 : decode b_Model_findNowhere 116 = .ok (.invokevirtual 184, 3) := by decide +kernel
theorem d_Model_findNowhere_119 : decode b_Model_findNowhere 119 = .ok (.ifCond .eq 14, 3) := by decide +kernel
theorem d_Model_findNowhere_122 : decode b_Model_findNowhere 122 = .ok (.aload_n 0, 1) := by decide +kernel
theorem d_Model_findNowhere_123 : decode b_Model_findNowhere 123 = .ok (.iconst 5, 1) := by decide +kernel
theorem d_Model_findNowhere_124 : decode b_Model_findNowhere 124 = .ok (.aload_n 0, 1) := by decide +kernel
theorem d_Model_findNowhere_125 : decode b_Model_findNowhere 125 = .ok (.getfield 57, 3) := by decide +kernel
theorem d_Model_findNowhere_128 : decode b_Model_findNowhere 128 = .ok (.iload_n 1, 1) := by decide +kernel
theorem d_Model_findNowhere_129 : decode b_Model_findNowhere 129 = .ok (.iaload, 1) := by decide +kernel
theorem d_Model_findNowhere_130 : decode b_Model_findNowhere 130 = .ok (.invokevirtual 146, 3) := by decide +kernel
theorem d_Model_findNowhere_133 : decode b_Model_findNowhere 133 = .ok (.aload_n 0, 1) := by decide +kernel
theorem d_Model_findNowhere_134 : decode b_Model_findNowhere 134 = .ok (.aload_n 0, 1) := by decide +kernel
theorem d_Model_findNowhere_135 : decode b_Model_findNowhere 135 = .ok (.getfield 42, 3) := by decide +kernel
theorem d_Model_findNowhere_138 : decode b_Model_findNowhere 138 = .ok (.sipush 300, 3) := by decide +kernel
theorem d_Model_findNowhere_141 : decode b_Model_findNowhere 141 = .ok (.iload_n 1, 1) := by decide +kernel
theorem d_Model_findNowhere_142 : decode b_Model_findNowhere 142 = .ok (.iadd, 1) := by decide +kernel
theorem d_Model_findNowhere_143 : decode b_Model_findNowhere 143 = .ok (.iaload, 1) := by decide +kernel
theorem d_Model_findNowhere_144 : decode b_Model_findNowhere 144 = .ok (.invokevirtual 184, 3) := by decide +kernel
theorem d_Model_findNowhere_147 : decode b_Model_findNowhere 147 = .ok (.ifCond .eq 14, 3) := by decide +kernel
theorem d_Model_findNowhere_150 : decode b_Model_findNowhere 150 = .ok (.aload_n 0, 1) := by decide +kernel
theorem d_Model_findNowhere_151 : decode b_Model_findNowhere 151 = .ok (.iconst 5, 1) := by decide +kernel
theorem d_Model_findNowhere_152 : decode b_Model_findNowhere 152 = .ok (.aload_n 0, 1) := by decide +kernel
theorem d_Model_findNowhere_153 : decode b_Model_findNowhere 153 = .ok (.getfield 60, 3) := by decide +kernel
theorem d_Model_findNowhere_156 : decode b_Model_findNowhere 156 = .ok (.iload_n 1, 1) := by decide +kernel
theorem d_Model_findNowhere_157 : decode b_Model_findNowhere 157 = .ok (.iaload, 1) := by decide +kernel
theorem d_Model_findNowhere_158 : decode b_Model_findNowhere 158 = .ok (.invokevirtual 146, 3) := by decide +kernel
theorem d_Model_findNowhere_161 : decode b_Model_findNowhere 161 = .ok (.iinc 1 1, 3) := by decide +kernel
theorem d_Model_findNowhere_164 : decode b_Model_findNowhere 164 = .ok (.goto (-70), 3) := by decide +kernel
theorem d_Model_findNowhere_167 : decode b_Model_findNowhere 167 = .ok (.return_, 1) := by decide +kernel
theorem d_Model_hasCome_0 : decode b_Model_hasCome 0 = .ok (.iload_n 1, 1) := by decide +kernel
theorem d_Model_hasCome_1 : decode b_Model_hasCome 1 = .ok (.iconst 2, 1) := by decide +kernel
theorem d_Model_hasCome_2 : decode b_Model_hasCome 2 = .ok (.if_icmp .lt 14, 3) := by decide +kernel
theorem d_Model_hasCome_5 : decode b_Model_hasCome 5 = .ok (.aload_n 0, 1) := by decide +kernel
theorem d_Model_hasCome_6 : decode b_Model_hasCome 6 = .ok (.getfield 75, 3) := by decide +kernel
theorem d_Model_hasCome_9 : decode b_Model_hasCome 9 = .ok (.iload_n 1, 1) := by decide +kernel
theorem d_Model_hasCome_10 : decode b_Model_hasCome 10 = .ok (.iconst 2, 1) := by decide +kernel
theorem d_Model_hasCome_11 : decode b_Model_hasCome 11 = .ok (.idiv, 1) := by decide +kernel
theorem d_Model_hasCome_12 : decode b_Model_hasCome 12 = .ok (.baload, 1) := by decide +kernel
theorem d_Model_hasCome_13 : decode b_Model_hasCome 13 = .ok (.ifCond .eq 7, 3) := by decide +kernel
theorem d_Model_hasCome_16 : decode b_Model_hasCome 16 = .ok (.iconst 1, 1) := by decide +kernel
theorem d_Model_hasCome_17 : decode b_Model_hasCome 17 = .ok (.goto 4, 3) := by decide +kernel
theorem d_Model_hasCome_20 : decode b_Model_hasCome 20 = .ok (.iconst 0, 1) := by decide +kernel
theorem d_Model_hasCome_21 : decode b_Model_hasCome 21 = .ok (.ireturn, 1) := by decide +kernel
theorem d_Model_sort_0 : decode b_Model_sort 0 = .ok (.iconst 0, 1) := by decide +kernel
theorem d_Model_sort_1 : decode b_Model_sort 1 = .ok (.istore_n 1, 1) := by decide +kernel
theorem d_Model_sort_2 : decode b_Model_sort 2 = .ok (.iload_n 1, 1) := by decide +kernel
theorem d_Model_sort_3 : decode b_Model_sort 3 = .ok (.sipush 201, 3) := by decide +kernel
theorem d_Model_sort_6 : decode b_Model_sort 6 = .ok (.if_icmp .ge 48, 3) := by decide +kernel
theorem d_Model_sort_9 : decode b_Model_sort 9 = .ok (.aload_n 0, 1) := by decide +kernel
theorem d_Model_sort_10 : decode b_Model_sort 10 = .ok (.getfield 75, 3) := by decide +kernel
theorem d_Model_sort_13 : decode b_Model_sort 13 = .ok (.iload_n 1, 1) := by decide +kernel
theorem d_Model_sort_14 : decode b_Model_sort 14 = .ok (.aload_n 0, 1) := by decide +kernel
theorem d_Model_sort_15 : decode b_Model_sort 15 = .ok (.getfield 45, 3) := by decide +kernel
theorem d_Model_sort_18 : decode b_Model_sort 18 = .ok (.sipush 402, 3) := by decide +kernel
theorem d_Model_sort_21 : decode b_Model_sort 21 = .ok (.iload_n 1, 1) := by decide +kernel
theorem d_Model_sort_22 : decode b_Model_sort 22 = .ok (.iadd, 1) := by decide +kernel
theorem d_Model_sort_23 : decode b_Model_sort 23 = .ok (.iaload, 1) := by decide +kernel
theorem d_Model_sort_24 : decode b_Model_sort 24 = .ok (.iconst 1, 1) := by decide +kernel
theorem d_Model_sort_25 : decode b_Model_sort 25 = .ok (.if_icmp .eq 17, 3) := by decide +kernel
theorem d_Model_sort_28 : decode b_Model_sort 28 = .ok (.aload_n 0, 1) := by decide +kernel
theorem d_Model_sort_29 : decode b_Model_sort 29 = .ok (.getfield 45, 3) := by decide +kernel
theorem d_Model_sort_32 : decode b_Model_sort 32 = .ok (.sipush 402, 3) := by decide +kernel
theorem d_Model_sort_35 : decode b_Model_sort 35 = .ok (.iload_n 1, 1) := by decide +kernel
theorem d_Model_sort_36 : decode b_Model_sort 36 = .ok (.iadd, 1) := by decide +kernel
theorem d_Model_sort_37 : decode b_Model_sort 37 = .ok (.iaload, 1) := by decide +kernel
theorem d_Model_sort_38 : decode b_Model_sort 38 = .ok (.iconst 2, 1) := by decide +kernel
theorem d_Model_sort_39 : decode b_Model_sort 39 = .ok (.if_icmp .ne 7, 3) := by decide +kernel
theorem d_Model_sort_42 : decode b_Model_sort 42 = .ok (.iconst 1, 1) := by decide +kernel
theorem d_Model_sort_43 : decode b_Model_sort 43 = .ok (.goto 4, 3) := by decide +kernel
theorem d_Model_sort_46 : decode b_Model_sort 46 = .ok (.iconst 0, 1) := by decide +kernel
theorem d_Model_sort_47 : decode b_Model_sort 47 = .ok (.bastore, 1) := by decide +kernel
theorem d_Model_sort_48 : decode b_Model_sort 48 = .ok (.iinc 1 1, 3) := by decide +kernel
theorem d_Model_sort_51 : decode b_Model_sort 51 = .ok (.goto (-49), 3) := by decide +kernel
theorem d_Model_sort_54 : decode b_Model_sort 54 = .ok (.aload_n 0, 1) := by decide +kernel
theorem d_Model_sort_55 : decode b_Model_sort 55 = .ok (.iconst 0, 1) := by decide +kernel
theorem d_Model_sort_56 : decode b_Model_sort 56 = .ok (.putfield 188, 3) := by decide +kernel
theorem d_Model_sort_59 : decode b_Model_sort 59 = .ok (.iconst 0, 1) := by decide +kernel
theorem d_Model_sort_60 : decode b_Model_sort 60 = .ok (.istore_n 1, 1) := by decide +kernel
theorem d_Model_sort_61 : decode b_Model_sort 61 = .ok (.iload_n 1, 1) := by decide +kernel
theorem d_Model_sort_62 : decode b_Model_sort 62 = .ok (.aload_n 0, 1) := by decide +kernel
theorem d_Model_sort_63 : decode b_Model_sort 63 = .ok (.getfield 20, 3) := by decide +kernel
theorem d_Model_sort_66 : decode b_Model_sort 66 = .ok (.bipush 14, 2) := by decide +kernel
theorem d_Model_sort_68 : decode b_Model_sort 68 = .ok (.iaload, 1) := by decide +kernel
theorem d_Model_sort_69 : decode b_Model_sort 69 = .ok (.if_icmp .ge 97, 3) := by decide +kernel
theorem d_Model_sort_72 : decode b_Model_sort 72 = .ok (.aload_n 0, 1) := by decide +kernel
theorem d_Model_sort_73 : decode b_Model_sort 73 = .ok (.getfield 36, 3) := by decide +kernel
theorem d_Model_sort_76 : decode b_Model_sort 76 = .ok (.sipush 300, 3) := by decide +kernel
theorem d_Model_sort_79 : decode b_Model_sort 79 = .ok (.iload_n 1, 1) := by decide +kernel
theorem d_Model_sort_80 : decode b_Model_sort 80 = .ok (.iadd, 1) := by decide +kernel
theorem d_Model_sort_81 : decode b_Model_sort 81 = .ok (.iaload, 1) := by decide +kernel
theorem d_Model_sort_82 : decode b_Model_sort 82 = .ok (.iconst 2, 1) := by decide +kernel
theorem d_Model_sort_83 : decode b_Model_sort 83 = .ok (.idiv, 1) := by decide +kernel
theorem d_Model_sort_84 : decode b_Model_sort 84 = .ok (.istore_n 2, 1) := by decide +kernel
theorem d_Model_sort_85 : decode b_Model_sort 85 = .ok (.aload_n 0, 1) := by decide +kernel
theorem d_Model_sort_86 : decode b_Model_sort 86 = .ok (.getfield 75, 3) := by decide +kernel
theorem d_Model_sort_89 : decode b_Model_sort 89 = .ok (.iload_n 2, 1) := by decide +kernel
theorem d_Model_sort_90 : decode b_Model_sort 90 = .ok (.baload, 1) := by decide +kernel
theorem d_Model_sort_91 : decode b_Model_sort 91 = .ok (.ifCond .ne 69, 3) := by decide +kernel
theorem d_Model_sort_94 : decode b_Model_sort 94 = .ok (.aload_n 0, 1) := by decide +kernel
theorem d_Model_sort_95 : decode b_Model_sort 95 = .ok (.aload_n 0, 1) := by decide +kernel
theorem d_Model_sort_96 : decode b_Model_sort 96 = .ok (.getfield 39, 3) := by decide +kernel
theorem d_Model_sort_99 : decode b_Model_sort 99 = .ok (.sipush 300, 3) := by decide +kernel
theorem d_Model_sort_102 : decode b_Model_sort 102 = .ok (.iload_n 1, 1) := by decide +kernel
theorem d_Model_sort_103 : decode b_Model_sort 103 = .ok (.iadd, 1) := by decide +kernel
theorem d_Model_sort_104 : decode b_Model_sort 104 = .ok (.iaload, 1) := by decide +kernel
theorem d_Model_sort_105 : decode b_Model_sort 105 = .ok (.invokevirtual 191, 3) := by decide +kernel
theorem d_Model_sort_108 : decode b_Model_sort 108 = .ok (.ifCond .eq 52, 3) := by decide +kernel
theorem d_Model_sort_111 : decode b_Model_sort 111 = .ok (.aload_n 0, 1) := by decide +kernel
theorem d_Model_sort_112 : decode b_Model_sort 112 = .ok (.aload_n 0, 1) := by decide +kernel
theorem d_Model_sort_113 : decode b_Model_sort 113 = .ok (.getfield 42, 3) := by decide +kernel
theorem d_Model_sort_116 : decode b_Model_sort 116 = .ok (.sipush 300, 3) := by decide +kernel
theorem d_Model_sort_119 : decode b_Model_sort 119 = .ok (.iload_n 1, 1) := by decide +kernel
theorem d_Model_sort_120 : decode b_Model_sort 120 = .ok (.iadd, 1) := by decide +kernel
theorem d_Model_sort_121 : decode b_Model_sort 121 = .ok (.iaload, 1) := by decide +kernel
theorem d_Model_sort_122 : decode b_Model_sort 122 = .ok (.invokevirtual 191, 3) := by decide +kernel
theorem d_Model_sort_125 : decode b_Model_sort 125 = .ok (.ifCond .eq 35, 3) := by decide +kernel
theorem d_Model_sort_128 : decode b_Model_sort 128 = .ok (.aload_n 0, 1) := by decide +kernel
theorem d_Model_sort_129 : decode b_Model_sort 129 = .ok (.getfield 75, 3) := by decide +kernel
theorem d_Model_sort_132 : decode b_Model_sort 132 = .ok (.iload_n 2, 1) := by decide +kernel
theorem d_Model_sort_133 : decode b_Model_sort 133 = .ok (.iconst 1, 1) := by decide +kernel
theorem d_Model_sort_134 : decode b_Model_sort 134 = .ok (.bastore, 1) := by decide +kernel
theorem d_Model_sort_135 : decode b_Model_sort 135 = .ok (.aload_n 0, 1) := by decide +kernel
theorem d_Model_sort_136 : decode b_Model_sort 136 = .ok (.getfield 69, 3) := by decide +kernel
theorem d_Model_sort_139 : decode b_Model_sort 139 = .ok (.aload_n 0, 1) := by decide +kernel
theorem d_Model_sort_140 : decode b_Model_sort 140 = .ok (.getfield 188, 3) := by decide +kernel
theorem d_Model_sort_143 : decode b_Model_sort 143 = .ok (.iload_n 1, 1) := by decide +kernel
theorem d_Model_sort_144 : decode b_Model_sort 144 = .ok (.iastore, 1) := by decide +kernel
theorem d_Model_sort_145 : decode b_Model_sort 145 = .ok (.aload_n 0, 1) := by decide +kernel
theorem d_Model_sort_146 : decode b_Model_sort 146 = .ok (.dup, 1) := by decide +kernel
theorem d_Model_sort_147 : decode b_Model_sort 147 = .ok (.getfield 188, 3) := by decide +kernel
theorem d_Model_sort_150 : decode b_Model_sort 150 = .ok (.iconst 1, 1) := by decide +kernel
theorem d_Model_sort_151 : decode b_Model_sort 151 = .ok (.iadd, 1) := by decide +kernel
theorem d_Model_sort_152 : decode b_Model_sort 152 = .ok (.putfield 188, 3) := by decide +kernel
theorem d_Model_sort_155 : decode b_Model_sort 155 = .ok (.iconst 0, 1) := by decide +kernel
theorem d_Model_sort_156 : decode b_Model_sort 156 = .ok (.istore_n 1, 1) := by decide +kernel
theorem d_Model_sort_157 : decode b_Model_sort 157 = .ok (.goto 6, 3) := by decide +kernel
theorem d_Model_sort_160 : decode b_Model_sort 160 = .ok (.iinc 1 1, 3) := by decide +kernel
theorem d_Model_sort_163 : decode b_Model_sort 163 = .ok (.goto (-102), 3) := by decide +kernel
theorem d_Model_sort_166 : decode b_Model_sort 166 = .ok (.return_, 1) := by decide +kernel
theorem d_Model_hangs_0 : decode b_Model_hangs 0 = .ok (.aload_n 0, 1) := by decide +kernel
theorem d_Model_hangs_1 : decode b_Model_hangs 1 = .ok (.getfield 75, 3) := by decide +kernel
theorem d_Model_hangs_4 : decode b_Model_hangs 4 = .ok (.astore_n 2, 1) := by decide +kernel
theorem d_Model_hangs_5 : decode b_Model_hangs 5 = .ok (.iconst 0, 1) := by decide +kernel
theorem d_Model_hangs_6 : decode b_Model_hangs 6 = .ok (.istore_n 3, 1) := by decide +kernel
theorem d_Model_hangs_7 : decode b_Model_hangs 7 = .ok (.iload_n 3, 1) := by decide +kernel
theorem d_Model_hangs_8 : decode b_Model_hangs 8 = .ok (.sipush 201, 3) := by decide +kernel
theorem d_Model_hangs_11 : decode b_Model_hangs 11 = .ok (.if_icmp .ge 13, 3) := by decide +kernel
theorem d_Model_hangs_14 : decode b_Model_hangs 14 = .ok (.aload_n 2, 1) := by decide +kernel
theorem d_Model_hangs_15 : decode b_Model_hangs 15 = .ok (.iload_n 3, 1) := by decide +kernel
theorem d_Model_hangs_16 : decode b_Model_hangs 16 = .ok (.iconst 0, 1) := by decide +kernel
theorem d_Model_hangs_17 : decode b_Model_hangs 17 = .ok (.bastore, 1) := by decide +kernel
theorem d_Model_hangs_18 : decode b_Model_hangs 18 = .ok (.iinc 3 1, 3) := by decide +kernel
theorem d_Model_hangs_21 : decode b_Model_hangs 21 = .ok (.goto (-14), 3) := by decide +kernel
theorem d_Model_hangs_24 : decode b_Model_hangs 24 = .ok (.iconst 1, 1) := by decide +kernel
theorem d_Model_hangs_25 : decode b_Model_hangs 25 = .ok (.istore_n 3, 1) := by decide +kernel
theorem d_Model_hangs_26 : decode b_Model_hangs 26 = .ok (.iconst 0, 1) := by decide +kernel
theorem d_Model_hangs_27 : decode b_Model_hangs 27 = .ok (.istore 4, 2) := by decide +kernel
theorem d_Model_hangs_29 : decode b_Model_hangs 29 = .ok (.iload_n 3, 1) := by decide +kernel
theorem d_Model_hangs_30 : decode b_Model_hangs 30 = .ok (.ifCond .eq 137, 3) := by decide +kernel
theorem d_Model_hangs_33 : decode b_Model_hangs 33 = .ok (.iconst 0, 1) := by decide +kernel
theorem d_Model_hangs_34 : decode b_Model_hangs 34 = .ok (.istore_n 3, 1) := by decide +kernel
theorem d_Model_hangs_35 : decode b_Model_hangs 35 = .ok (.iconst 0, 1) := by decide +kernel
theorem d_Model_hangs_36 : decode b_Model_hangs 36 = .ok (.istore 5, 2) := by decide +kernel
theorem d_Model_hangs_38 : decode b_Model_hangs 38 = .ok (.iload 5, 2) := by decide +kernel
theorem d_Model_hangs_40 : decode b_Model_hangs 40 = .ok (.aload_n 0, 1) := by decide +kernel
theorem d_Model_hangs_41 : decode b_Model_hangs 41 = .ok (.getfield 20, 3) := by decide +kernel
theorem d_Model_hangs_44 : decode b_Model_hangs 44 = .ok (.bipush 14, 2) := by decide +kernel
theorem d_Model_hangs_46 : decode b_Model_hangs 46 = .ok (.iaload, 1) := by decide +kernel
theorem d_Model_hangs_47 : decode b_Model_hangs 47 = .ok (.if_icmp .ge 114, 3) := by decide +kernel
theorem d_Model_hangs_50 : decode b_Model_hangs 50 = .ok (.aload_n 0, 1) := by decide +kernel
theorem d_Model_hangs_51 : decode b_Model_hangs 51 = .ok (.getfield 36, 3) := by decide +kernel
theorem d_Model_hangs_54 : decode b_Model_hangs 54 = .ok (.sipush 300, 3) := by decide +kernel
theorem d_Model_hangs_57 : decode b_Model_hangs 57 = .ok (.iload 5, 2) := by decide +kernel
theorem d_Model_hangs_59 : decode b_Model_hangs 59 = .ok (.iadd, 1) := by decide +kernel
theorem d_Model_hangs_60 : decode b_Model_hangs 60 = .ok (.iaload, 1) := by decide +kernel
theorem d_Model_hangs_61 : decode b_Model_hangs 61 = .ok (.iconst 2, 1) := by decide +kernel
theorem d_Model_hangs_62 : decode b_Model_hangs 62 = .ok (.idiv, 1) := by decide +kernel
theorem d_Model_hangs_63 : decode b_Model_hangs 63 = .ok (.istore 6, 2) := by decide +kernel
theorem d_Model_hangs_65 : decode b_Model_hangs 65 = .ok (.iload 6, 2) := by decide +kernel
theorem d_Model_hangs_67 : decode b_Model_hangs 67 = .ok (.iload_n 1, 1) := by decide +kernel
theorem d_Model_hangs_68 : decode b_Model_hangs 68 = .ok (.if_icmp .eq 10, 3) := by decide +kernel
theorem d_Model_hangs_71 : decode b_Model_hangs 71 = .ok (.aload_n 2, 1) := by decide +kernel
theorem d_Model_hangs_72 : decode b_Model_hangs 72 = .ok (.iload 6, 2) := by decide +kernel
theorem d_Model_hangs_74 : decode b_Model_hangs 74 = .ok (.baload, 1) := by decide +kernel
theorem d_Model_hangs_75 : decode b_Model_hangs 75 = .ok (.ifCond .eq 80, 3) := by decide +kernel
theorem d_Model_hangs_78 : decode b_Model_hangs 78 = .ok (.iload 6, 2) := by decide +kernel
theorem d_Model_hangs_80 : decode b_Model_hangs 80 = .ok (.iload_n 1, 1) := by decide +kernel
theorem d_Model_hangs_81 : decode b_Model_hangs 81 = .ok (.if_icmp .ne 18, 3) := by decide +kernel
theorem d_Model_hangs_84 : decode b_Model_hangs 84 = .ok (.iload 4, 2) := by decide +kernel
theorem d_Model_hangs_86 : decode b_Model_hangs 86 = .ok (.ifCond .eq 13, 3) := by decide +kernel
theorem d_Model_hangs_89 : decode b_Model_hangs 89 = .ok (.aload_n 2, 1) := by decide +kernel
theorem d_Model_hangs_90 : decode b_Model_hangs 90 = .ok (.iload 6, 2) := by decide +kernel
theorem d_Model_hangs_92 : decode b_Model_hangs 92 = .ok (.baload, 1) := by decide +kernel
theorem d_Model_hangs_93 : decode b_Model_hangs 93 = .ok (.ifCond .ne 6, 3) := by decide +kernel
theorem d_Model_hangs_96 : decode b_Model_hangs 96 = .ok (.goto 59, 3) := by decide +kernel
theorem d_Model_hangs_99 : decode b_Model_hangs 99 = .ok (.aload_n 0, 1) := by decide +kernel
theorem d_Model_hangs_100 : decode b_Model_hangs 100 = .ok (.getfield 39, 3) := by decide +kernel
theorem d_Model_hangs_103 : decode b_Model_hangs 103 = .ok (.sipush 300, 3) := by decide +kernel
theorem d_Model_hangs_106 : decode b_Model_hangs 106 = .ok (.iload 5, 2) := by decide +kernel
theorem d_Model_hangs_108 : decode b_Model_hangs 108 = .ok (.iadd, 1) := by decide +kernel
theorem d_Model_hangs_109 : decode b_Model_hangs 109 = .ok (.iaload, 1) := by decide +kernel
theorem d_Model_hangs_110 : decode b_Model_hangs 110 = .ok (.iconst 2, 1) := by decide +kernel
theorem d_Model_hangs_111 : decode b_Model_hangs 111 = .ok (.idiv, 1) := by decide +kernel
theorem d_Model_hangs_112 : decode b_Model_hangs 112 = .ok (.istore 7, 2) := by decide +kernel
theorem d_Model_hangs_114 : decode b_Model_hangs 114 = .ok (.aload_n 0, 1) := by decide +kernel
theorem d_Model_hangs_115 : decode b_Model_hangs 115 = .ok (.getfield 42, 3) := by decide +kernel
theorem d_Model_hangs_118 : decode b_Model_hangs 118 = .ok (.sipush 300, 3) := by decide +kernel
theorem d_Model_hangs_121 : decode b_Model_hangs 121 = .ok (.iload 5, 2) := by decide +kernel
theorem d_Model_hangs_123 : decode b_Model_hangs 123 = .ok (.iadd, 1) := by decide +kernel
theorem d_Model_hangs_124 : decode b_Model_hangs 124 = .ok (.iaload, 1) := by decide +kernel
theorem d_Model_hangs_125 : decode b_Model_hangs 125 = .ok (.iconst 2, 1) := by decide +kernel
theorem d_Model_hangs_126 : decode b_Model_hangs 126 = .ok (.idiv, 1) := by decide +kernel
theorem d_Model_hangs_127 : decode b_Model_hangs 127 = .ok (.istore 8, 2) := by decide +kernel
theorem d_Model_hangs_129 : decode b_Model_hangs 129 = .ok (.aload_n 2, 1) := by decide +kernel
theorem d_Model_hangs_130 : decode b_Model_hangs 130 = .ok (.iload 7, 2) := by decide +kernel
theorem d_Model_hangs_132 : decode b_Model_hangs 132 = .ok (.baload, 1) := by decide +kernel
theorem d_Model_hangs_133 : decode b_Model_hangs 133 = .ok (.ifCond .eq 10, 3) := by decide +kernel
theorem d_Model_hangs_136 : decode b_Model_hangs 136 = .ok (.aload_n 2, 1) := by decide +kernel
theorem d_Model_hangs_137 : decode b_Model_hangs 137 = .ok (.iload 8, 2) := by decide +kernel
theorem d_Model_hangs_139 : decode b_Model_hangs 139 = .ok (.baload, 1) := by decide +kernel
theorem d_Model_hangs_140 : decode b_Model_hangs 140 = .ok (.ifCond .ne 5, 3) := by decide +kernel
theorem d_Model_hangs_143 : decode b_Model_hangs 143 = .ok (.iconst 1, 1) := by decide +kernel
theorem d_Model_hangs_144 : decode b_Model_hangs 144 = .ok (.istore_n 3, 1) := by decide +kernel
theorem d_Model_hangs_145 : decode b_Model_hangs 145 = .ok (.aload_n 2, 1) := by decide +kernel
theorem d_Model_hangs_146 : decode b_Model_hangs 146 = .ok (.iload 7, 2) := by decide +kernel
theorem d_Model_hangs_148 : decode b_Model_hangs 148 = .ok (.iconst 1, 1) := by decide +kernel
theorem d_Model_hangs_149 : decode b_Model_hangs 149 = .ok (.bastore, 1) := by decide +kernel
theorem d_Model_hangs_150 : decode b_Model_hangs 150 = .ok (.aload_n 2, 1) := by decide +kernel
theorem d_Model_hangs_151 : decode b_Model_hangs 151 = .ok (.iload 8, 2) := by decide +kernel
theorem d_Model_hangs_153 : decode b_Model_hangs 153 = .ok (.iconst 1, 1) := by decide +kernel
theorem d_Model_hangs_154 : decode b_Model_hangs 154 = .ok (.bastore, 1) := by decide +kernel
theorem d_Model_hangs_155 : decode b_Model_hangs 155 = .ok (.iinc 5 1, 3) := by decide +kernel
theorem d_Model_hangs_158 : decode b_Model_hangs 158 = .ok (.goto (-120), 3) := by decide +kernel
theorem d_Model_hangs_161 : decode b_Model_hangs 161 = .ok (.iconst 1, 1) := by decide +kernel
theorem d_Model_hangs_162 : decode b_Model_hangs 162 = .ok (.istore 4, 2) := by decide +kernel
theorem d_Model_hangs_164 : decode b_Model_hangs 164 = .ok (.goto (-135), 3) := by decide +kernel
theorem d_Model_hangs_167 : decode b_Model_hangs 167 = .ok (.aload_n 2, 1) := by decide +kernel
theorem d_Model_hangs_168 : decode b_Model_hangs 168 = .ok (.iload_n 1, 1) := by decide +kernel
theorem d_Model_hangs_169 : decode b_Model_hangs 169 = .ok (.baload, 1) := by decide +kernel
theorem d_Model_hangs_170 : decode b_Model_hangs 170 = .ok (.ireturn, 1) := by decide +kernel
theorem d_Model_findRing_0 : decode b_Model_findRing 0 = .ok (.aload_n 0, 1) := by decide +kernel
theorem d_Model_findRing_1 : decode b_Model_findRing 1 = .ok (.invokevirtual 194, 3) := by decide +kernel
theorem d_Model_findRing_4 : decode b_Model_findRing 4 = .ok (.aload_n 0, 1) := by decide +kernel
theorem d_Model_findRing_5 : decode b_Model_findRing 5 = .ok (.getfield 188, 3) := by decide +kernel
theorem d_Model_findRing_8 : decode b_Model_findRing 8 = .ok (.aload_n 0, 1) := by decide +kernel
theorem d_Model_findRing_9 : decode b_Model_findRing 9 = .ok (.getfield 20, 3) := by decide +kernel
theorem d_Model_findRing_12 : decode b_Model_findRing 12 = .ok (.bipush 14, 2) := by decide +kernel
theorem d_Model_findRing_14 : decode b_Model_findRing 14 = .ok (.iaload, 1) := by decide +kernel
theorem d_Model_findRing_15 : decode b_Model_findRing 15 = .ok (.if_icmp .ne 4, 3) := by decide +kernel
theorem d_Model_findRing_18 : decode b_Model_findRing 18 = .ok (.return_, 1) := by decide +kernel
theorem d_Model_findRing_19 : decode b_Model_findRing 19 = .ok (.iconst 1, 1) := by decide +kernel
theorem d_Model_findRing_20 : decode b_Model_findRing 20 = .ok (.istore_n 1, 1) := by decide +kernel
theorem d_Model_findRing_21 : decode b_Model_findRing 21 = .ok (.iload_n 1, 1) := by decide +kernel
theorem d_Model_findRing_22 : decode b_Model_findRing 22 = .ok (.aload_n 0, 1) := by decide +kernel
theorem d_Model_findRing_23 : decode b_Model_findRing 23 = .ok (.getfield 20, 3) := by decide +kernel
theorem d_Model_findRing_26 : decode b_Model_findRing 26 = .ok (.bipush 10, 2) := by decide +kernel
theorem d_Model_findRing_28 : decode b_Model_findRing 28 = .ok (.iaload, 1) := by decide +kernel
theorem d_Model_findRing_29 : decode b_Model_findRing 29 = .ok (.if_icmp .gt 45, 3) := by decide +kernel
theorem d_Model_findRing_32 : decode b_Model_findRing 32 = .ok (.aload_n 0, 1) := by decide +kernel
theorem d_Model_findRing_33 : decode b_Model_findRing 33 = .ok (.getfield 136, 3) := by decide +kernel
theorem d_Model_findRing_36 : decode b_Model_findRing 36 = .ok (.ifCond .ne 38, 3) := by decide +kernel
theorem d_Model_findRing_39 : decode b_Model_findRing 39 = .ok (.aload_n 0, 1) := by decide +kernel
theorem d_Model_findRing_40 : decode b_Model_findRing 40 = .ok (.getfield 45, 3) := by decide +kernel
theorem d_Model_findRing_43 : decode b_Model_findRing 43 = .ok (.sipush 402, 3) := by decide +kernel
theorem d_Model_findRing_46 : decode b_Model_findRing 46 = .ok (.iload_n 1, 1) := by decide +kernel
theorem d_Model_findRing_47 : decode b_Model_findRing 47 = .ok (.iadd, 1) := by decide +kernel
theorem d_Model_findRing_48 : decode b_Model_findRing 48 = .ok (.iaload, 1) := by decide +kernel
theorem d_Model_findRing_49 : decode b_Model_findRing 49 = .ok (.iconst 3, 1) := by decide +kernel
theorem d_Model_findRing_50 : decode b_Model_findRing 50 = .ok (.if_icmp .ne 18, 3) := by decide +kernel
theorem d_Model_findRing_53 : decode b_Model_findRing 53 = .ok (.aload_n 0, 1) := by decide +kernel
theorem d_Model_findRing_54 : decode b_Model_findRing 54 = .ok (.iload_n 1, 1) := by decide +kernel
theorem d_Model_findRing_55 : decode b_Model_findRing 55 = .ok (.invokevirtual 197, 3) := by decide +kernel
theorem d_Model_findRing_58 : decode b_Model_findRing 58 = .ok (.ifCond .eq 10, 3) := by decide +kernel
theorem d_Model_findRing_61 : decode b_Model_findRing 61 = .ok (.aload_n 0, 1) := by decide +kernel
theorem d_Model_findRing_62 : decode b_Model_findRing 62 = .ok (.bipush 6, 2) := by decide +kernel
theorem d_Model_findRing_64 : decode b_Model_findRing 64 = .ok (.iload_n 1, 1) := by decide +kernel
theorem d_Model_findRing_65 : decode b_Model_findRing 65 = .ok (.invokevirtual 146, 3) := by decide +kernel
theorem d_Model_findRing_68 : decode b_Model_findRing 68 = .ok (.iinc 1 1, 3) := by decide +kernel
theorem d_Model_findRing_71 : decode b_Model_findRing 71 = .ok (.goto (-50), 3) := by decide +kernel
theorem d_Model_findRing_74 : decode b_Model_findRing 74 = .ok (.return_, 1) := by decide +kernel
theorem d_Model_keep_0 : decode b_Model_keep 0 = .ok (.iconst 0, 1) := by decide +kernel
theorem d_Model_keep_1 : decode b_Model_keep 1 = .ok (.istore_n 2, 1) := by decide +kernel
theorem d_Model_keep_2 : decode b_Model_keep 2 = .ok (.iload_n 2, 1) := by decide +kernel
theorem d_Model_keep_3 : decode b_Model_keep 3 = .ok (.iconst 5, 1) := by decide +kernel
theorem d_Model_keep_4 : decode b_Model_keep 4 = .ok (.if_icmp .ge 28, 3) := by decide +kernel
theorem d_Model_keep_7 : decode b_Model_keep 7 = .ok (.aload_n 0, 1) := by decide +kernel
theorem d_Model_keep_8 : decode b_Model_keep 8 = .ok (.getfield 20, 3) := by decide +kernel
theorem d_Model_keep_11 : decode b_Model_keep 11 = .ok (.iconst 5, 1) := by decide +kernel
theorem d_Model_keep_12 : decode b_Model_keep 12 = .ok (.iload_n 1, 1) := by decide +kernel
theorem d_Model_keep_13 : decode b_Model_keep 13 = .ok (.imul, 1) := by decide +kernel
theorem d_Model_keep_14 : decode b_Model_keep 14 = .ok (.iload_n 2, 1) := by decide +kernel
theorem d_Model_keep_15 : decode b_Model_keep 15 = .ok (.iadd, 1) := by decide +kernel
theorem d_Model_keep_16 : decode b_Model_keep 16 = .ok (.aload_n 0, 1) := by decide +kernel
theorem d_Model_keep_17 : decode b_Model_keep 17 = .ok (.getfield 20, 3) := by decide +kernel
theorem d_Model_keep_20 : decode b_Model_keep 20 = .ok (.bipush 10, 2) := by decide +kernel
theorem d_Model_keep_22 : decode b_Model_keep 22 = .ok (.iload_n 2, 1) := by decide +kernel
theorem d_Model_keep_23 : decode b_Model_keep 23 = .ok (.iadd, 1) := by decide +kernel
theorem d_Model_keep_24 : decode b_Model_keep 24 = .ok (.iaload, 1) := by decide +kernel
theorem d_Model_keep_25 : decode b_Model_keep 25 = .ok (.iastore, 1) := by decide +kernel
theorem d_Model_keep_26 : decode b_Model_keep 26 = .ok (.iinc 2 1, 3) := by decide +kernel
theorem d_Model_keep_29 : decode b_Model_keep 29 = .ok (.goto (-27), 3) := by decide +kernel
theorem d_Model_keep_32 : decode b_Model_keep 32 = .ok (.iconst 0, 1) := by decide +kernel
theorem d_Model_keep_33 : decode b_Model_keep 33 = .ok (.istore_n 2, 1) := by decide +kernel
theorem d_Model_keep_34 : decode b_Model_keep 34 = .ok (.iload_n 2, 1) := by decide +kernel
theorem d_Model_keep_35 : decode b_Model_keep 35 = .ok (.iconst 5, 1) := by decide +kernel
theorem d_Model_keep_36 : decode b_Model_keep 36 = .ok (.if_icmp .ge 28, 3) := by decide +kernel
theorem d_Model_keep_39 : decode b_Model_keep 39 = .ok (.aload_n 0, 1) := by decide +kernel
theorem d_Model_keep_40 : decode b_Model_keep 40 = .ok (.getfield 24, 3) := by decide +kernel
theorem d_Model_keep_43 : decode b_Model_keep 43 = .ok (.iconst 5, 1) := by decide +kernel
theorem d_Model_keep_44 : decode b_Model_keep 44 = .ok (.iload_n 1, 1) := by decide +kernel
theorem d_Model_keep_45 : decode b_Model_keep 45 = .ok (.imul, 1) := by decide +kernel
theorem d_Model_keep_46 : decode b_Model_keep 46 = .ok (.iload_n 2, 1) := by decide +kernel
theorem d_Model_keep_47 : decode b_Model_keep 47 = .ok (.iadd, 1) := by decide +kernel
theorem d_Model_keep_48 : decode b_Model_keep 48 = .ok (.aload_n 0, 1) := by decide +kernel
theorem d_Model_keep_49 : decode b_Model_keep 49 = .ok (.getfield 24, 3) := by decide +kernel
theorem d_Model_keep_52 : decode b_Model_keep 52 = .ok (.bipush 10, 2) := by decide +kernel
theorem d_Model_keep_54 : decode b_Model_keep 54 = .ok (.iload_n 2, 1) := by decide +kernel
theorem d_Model_keep_55 : decode b_Model_keep 55 = .ok (.iadd, 1) := by decide +kernel
theorem d_Model_keep_56 : decode b_Model_keep 56 = .ok (.iaload, 1) := by decide +kernel
theorem d_Model_keep_57 : decode b_Model_keep 57 = .ok (.iastore, 1) := by decide +kernel
theorem d_Model_keep_58 : decode b_Model_keep 58 = .ok (.iinc 2 1, 3) := by decide +kernel
theorem d_Model_keep_61 : decode b_Model_keep 61 = .ok (.goto (-27), 3) := by decide +kernel
theorem d_Model_keep_64 : decode b_Model_keep 64 = .ok (.iconst 0, 1) := by decide +kernel
theorem d_Model_keep_65 : decode b_Model_keep 65 = .ok (.istore_n 2, 1) := by decide +kernel
theorem d_Model_keep_66 : decode b_Model_keep 66 = .ok (.iload_n 2, 1) := by decide +kernel
theorem d_Model_keep_67 : decode b_Model_keep 67 = .ok (.bipush 7, 2) := by decide +kernel
theorem d_Model_keep_69 : decode b_Model_keep 69 = .ok (.if_icmp .ge 49, 3) := by decide +kernel
theorem d_Model_keep_72 : decode b_Model_keep 72 = .ok (.aload_n 0, 1) := by decide +kernel
theorem d_Model_keep_73 : decode b_Model_keep 73 = .ok (.getfield 27, 3) := by decide +kernel
theorem d_Model_keep_76 : decode b_Model_keep 76 = .ok (.bipush 7, 2) := by decide +kernel
theorem d_Model_keep_78 : decode b_Model_keep 78 = .ok (.iload_n 1, 1) := by decide +kernel
theorem d_Model_keep_79 : decode b_Model_keep 79 = .ok (.imul, 1) := by decide +kernel
theorem d_Model_keep_80 : decode b_Model_keep 80 = .ok (.iload_n 2, 1) := by decide +kernel
theorem d_Model_keep_81 : decode b_Model_keep 81 = .ok (.iadd, 1) := by decide +kernel
theorem d_Model_keep_82 : decode b_Model_keep 82 = .ok (.aload_n 0, 1) := by decide +kernel
theorem d_Model_keep_83 : decode b_Model_keep 83 = .ok (.getfield 27, 3) := by decide +kernel
theorem d_Model_keep_86 : decode b_Model_keep 86 = .ok (.bipush 14, 2) := by decide +kernel
theorem d_Model_keep_88 : decode b_Model_keep 88 = .ok (.iload_n 2, 1) := by decide +kernel
theorem d_Model_keep_89 : decode b_Model_keep 89 = .ok (.iadd, 1) := by decide +kernel
theorem d_Model_keep_90 : decode b_Model_keep 90 = .ok (.iaload, 1) := by decide +kernel
theorem d_Model_keep_91 : decode b_Model_keep 91 = .ok (.iastore, 1) := by decide +kernel
theorem d_Model_keep_92 : decode b_Model_keep 92 = .ok (.aload_n 0, 1) := by decide +kernel
theorem d_Model_keep_93 : decode b_Model_keep 93 = .ok (.getfield 30, 3) := by decide +kernel
theorem d_Model_keep_96 : decode b_Model_keep 96 = .ok (.bipush 7, 2) := by decide +kernel
theorem d_Model_keep_98 : decode b_Model_keep 98 = .ok (.iload_n 1, 1) := by decide +kernel
theorem d_Model_keep_99 : decode b_Model_keep 99 = .ok (.imul, 1) := by decide +kernel
theorem d_Model_keep_100 : decode b_Model_keep 100 = .ok (.iload_n 2, 1) := by decide +kernel
theorem d_Model_keep_101 : decode b_Model_keep 101 = .ok (.iadd, 1) := by decide +kernel
theorem d_Model_keep_102 : decode b_Model_keep 102 = .ok (.aload_n 0, 1) := by decide +kernel
theorem d_Model_keep_103 : decode b_Model_keep 103 = .ok (.getfield 30, 3) := by decide +kernel
theorem d_Model_keep_106 : decode b_Model_keep 106 = .ok (.bipush 14, 2) := by decide +kernel
theorem d_Model_keep_108 : decode b_Model_keep 108 = .ok (.iload_n 2, 1) := by decide +kernel
theorem d_Model_keep_109 : decode b_Model_keep 109 = .ok (.iadd, 1) := by decide +kernel
theorem d_Model_keep_110 : decode b_Model_keep 110 = .ok (.iaload, 1) := by decide +kernel
theorem d_Model_keep_111 : decode b_Model_keep 111 = .ok (.iastore, 1) := by decide +kernel
theorem d_Model_keep_112 : decode b_Model_keep 112 = .ok (.iinc 2 1, 3) := by decide +kernel
theorem d_Model_keep_115 : decode b_Model_keep 115 = .ok (.goto (-49), 3) := by decide +kernel
theorem d_Model_keep_118 : decode b_Model_keep 118 = .ok (.iconst 0, 1) := by decide +kernel
theorem d_Model_keep_119 : decode b_Model_keep 119 = .ok (.istore_n 2, 1) := by decide +kernel
theorem d_Model_keep_120 : decode b_Model_keep 120 = .ok (.iload_n 2, 1) := by decide +kernel
theorem d_Model_keep_121 : decode b_Model_keep 121 = .ok (.bipush 8, 2) := by decide +kernel
theorem d_Model_keep_123 : decode b_Model_keep 123 = .ok (.if_icmp .ge 29, 3) := by decide +kernel
theorem d_Model_keep_126 : decode b_Model_keep 126 = .ok (.aload_n 0, 1) := by decide +kernel
theorem d_Model_keep_127 : decode b_Model_keep 127 = .ok (.getfield 33, 3) := by decide +kernel
theorem d_Model_keep_130 : decode b_Model_keep 130 = .ok (.bipush 8, 2) := by decide +kernel
theorem d_Model_keep_132 : decode b_Model_keep 132 = .ok (.iload_n 1, 1) := by decide +kernel
theorem d_Model_keep_133 : decode b_Model_keep 133 = .ok (.imul, 1) := by decide +kernel
theorem d_Model_keep_134 : decode b_Model_keep 134 = .ok (.iload_n 2, 1) := by decide +kernel
theorem d_Model_keep_135 : decode b_Model_keep 135 = .ok (.iadd, 1) := by decide +kernel
theorem d_Model_keep_136 : decode b_Model_keep 136 = .ok (.aload_n 0, 1) := by decide +kernel
theorem d_Model_keep_137 : decode b_Model_keep 137 = .ok (.getfield 33, 3) := by decide +kernel
theorem d_Model_keep_140 : decode b_Model_keep 140 = .ok (.bipush 16, 2) := by decide +kernel
theorem d_Model_keep_142 : decode b_Model_keep 142 = .ok (.iload_n 2, 1) := by decide +kernel
theorem d_Model_keep_143 : decode b_Model_keep 143 = .ok (.iadd, 1) := by decide +kernel
theorem d_Model_keep_144 : decode b_Model_keep 144 = .ok (.iaload, 1) := by decide +kernel
theorem d_Model_keep_145 : decode b_Model_keep 145 = .ok (.iastore, 1) := by decide +kernel
theorem d_Model_keep_146 : decode b_Model_keep 146 = .ok (.iinc 2 1, 3) := by decide +kernel
theorem d_Model_keep_149 : decode b_Model_keep 149 = .ok (.goto (-29), 3) := by decide +kernel
theorem d_Model_keep_152 : decode b_Model_keep 152 = .ok (.iconst 0, 1) := by decide +kernel
theorem d_Model_keep_153 : decode b_Model_keep 153 = .ok (.istore_n 2, 1) := by decide +kernel
theorem d_Model_keep_154 : decode b_Model_keep 154 = .ok (.iload_n 2, 1) := by decide +kernel
theorem d_Model_keep_155 : decode b_Model_keep 155 = .ok (.sipush 150, 3) := by decide +kernel
theorem d_Model_keep_158 : decode b_Model_keep 158 = .ok (.if_icmp .ge 93, 3) := by decide +kernel
theorem d_Model_keep_161 : decode b_Model_keep 161 = .ok (.aload_n 0, 1) := by decide +kernel
theorem d_Model_keep_162 : decode b_Model_keep 162 = .ok (.getfield 36, 3) := by decide +kernel
theorem d_Model_keep_165 : decode b_Model_keep 165 = .ok (.sipush 150, 3) := by decide +kernel
theorem d_Model_keep_168 : decode b_Model_keep 168 = .ok (.iload_n 1, 1) := by decide +kernel
theorem d_Model_keep_169 : decode b_Model_keep 169 = .ok (.imul, 1) := by decide +kernel
theorem d_Model_keep_170 : decode b_Model_keep 170 = .ok (.iload_n 2, 1) := by decide +kernel
theorem d_Model_keep_171 : decode b_Model_keep 171 = .ok (.iadd, 1) := by decide +kernel
theorem d_Model_keep_172 : decode b_Model_keep 172 = .ok (.aload_n 0, 1) := by decide +kernel
theorem d_Model_keep_173 : decode b_Model_keep 173 = .ok (.getfield 36, 3) := by decide +kernel
theorem d_Model_keep_176 : decode b_Model_keep 176 = .ok (.sipush 300, 3) := by decide +kernel
theorem d_Model_keep_179 : decode b_Model_keep 179 = .ok (.iload_n 2, 1) := by decide +kernel
theorem d_Model_keep_180 : decode b_Model_keep 180 = .ok (.iadd, 1) := by decide +kernel
theorem d_Model_keep_181 : decode b_Model_keep 181 = .ok (.iaload, 1) := by decide +kernel
theorem d_Model_keep_182 : decode b_Model_keep 182 = .ok (.iastore, 1) := by decide +kernel
theorem d_Model_keep_183 : decode b_Model_keep 183 = .ok (.aload_n 0, 1) := by decide +kernel
theorem d_Model_keep_184 : decode b_Model_keep 184 = .ok (.getfield 39, 3) := by decide +kernel
theorem d_Model_keep_187 : decode b_Model_keep 187 = .ok (.sipush 150, 3) := by decide +kernel
theorem d_Model_keep_190 : decode b_Model_keep 190 = .ok (.iload_n 1, 1) := by decide +kernel
theorem d_Model_keep_191 : decode b_Model_keep 191 = .ok (.imul, 1) := by decide +kernel
theorem d_Model_keep_192 : decode b_Model_keep 192 = .ok (.iload_n 2, 1) := by decide +kernel
theorem d_Model_keep_193 : decode b_Model_keep 193 = .ok (.iadd, 1) := by decide +kernel
theorem d_Model_keep_194 : decode b_Model_keep 194 = .ok (.aload_n 0, 1) := by decide +kernel
theorem d_Model_keep_195 : decode b_Model_keep 195 = .ok (.getfield 39, 3) := by decide +kernel
theorem d_Model_keep_198 : decode b_Model_keep 198 = .ok (.sipush 300, 3) := by decide +kernel
theorem d_Model_keep_201 : decode b_Model_keep 201 = .ok (.iload_n 2, 1) := by decide +kernel
theorem d_Model_keep_202 : decode b_Model_keep 202 = .ok (.iadd, 1) := by decide +kernel
theorem d_Model_keep_203 : decode b_Model_keep 203 = .ok (.iaload, 1) := by decide +kernel
theorem d_Model_keep_204 : decode b_Model_keep 204 = .ok (.iastore, 1) := by decide +kernel
theorem d_Model_keep_205 : decode b_Model_keep 205 = .ok (.aload_n 0, 1) := by decide +kernel
theorem d_Model_keep_206 : decode b_Model_keep 206 = .ok (.getfield 42, 3) := by decide +kernel
theorem d_Model_keep_209 : decode b_Model_keep 209 = .ok (.sipush 150, 3) := by decide +kernel
theorem d_Model_keep_212 : decode b_Model_keep 212 = .ok (.iload_n 1, 1) := by decide +kernel
theorem d_Model_keep_213 : decode b_Model_keep 213 = .ok (.imul, 1) := by decide +kernel
theorem d_Model_keep_214 : decode b_Model_keep 214 = .ok (.iload_n 2, 1) := by decide +kernel
theorem d_Model_keep_215 : decode b_Model_keep 215 = .ok (.iadd, 1) := by decide +kernel
theorem d_Model_keep_216 : decode b_Model_keep 216 = .ok (.aload_n 0, 1) := by decide +kernel
theorem d_Model_keep_217 : decode b_Model_keep 217 = .ok (.getfield 42, 3) := by decide +kernel
theorem d_Model_keep_220 : decode b_Model_keep 220 = .ok (.sipush 300, 3) := by decide +kernel
theorem d_Model_keep_223 : decode b_Model_keep 223 = .ok (.iload_n 2, 1) := by decide +kernel
theorem d_Model_keep_224 : decode b_Model_keep 224 = .ok (.iadd, 1) := by decide +kernel
theorem d_Model_keep_225 : decode b_Model_keep 225 = .ok (.iaload, 1) := by decide +kernel
theorem d_Model_keep_226 : decode b_Model_keep 226 = .ok (.iastore, 1) := by decide +kernel
theorem d_Model_keep_227 : decode b_Model_keep 227 = .ok (.aload_n 0, 1) := by decide +kernel
theorem d_Model_keep_228 : decode b_Model_keep 228 = .ok (.getfield 72, 3) := by decide +kernel
theorem d_Model_keep_231 : decode b_Model_keep 231 = .ok (.sipush 150, 3) := by decide +kernel
theorem d_Model_keep_234 : decode b_Model_keep 234 = .ok (.iload_n 1, 1) := by decide +kernel
theorem d_Model_keep_235 : decode b_Model_keep 235 = .ok (.imul, 1) := by decide +kernel
theorem d_Model_keep_236 : decode b_Model_keep 236 = .ok (.iload_n 2, 1) := by decide +kernel
theorem d_Model_keep_237 : decode b_Model_keep 237 = .ok (.iadd, 1) := by decide +kernel
theorem d_Model_keep_238 : decode b_Model_keep 238 = .ok (.aload_n 0, 1) := by decide +kernel
theorem d_Model_keep_239 : decode b_Model_keep 239 = .ok (.getfield 69, 3) := by decide +kernel
theorem d_Model_keep_242 : decode b_Model_keep 242 = .ok (.iload_n 2, 1) := by decide +kernel
theorem d_Model_keep_243 : decode b_Model_keep 243 = .ok (.iaload, 1) := by decide +kernel
theorem d_Model_keep_244 : decode b_Model_keep 244 = .ok (.iastore, 1) := by decide +kernel
theorem d_Model_keep_245 : decode b_Model_keep 245 = .ok (.iinc 2 1, 3) := by decide +kernel
theorem d_Model_keep_248 : decode b_Model_keep 248 = .ok (.goto (-94), 3) := by decide +kernel
theorem d_Model_keep_251 : decode b_Model_keep 251 = .ok (.iconst 0, 1) := by decide +kernel
theorem d_Model_keep_252 : decode b_Model_keep 252 = .ok (.istore_n 2, 1) := by decide +kernel
theorem d_Model_keep_253 : decode b_Model_keep 253 = .ok (.iload_n 2, 1) := by decide +kernel
theorem d_Model_keep_254 : decode b_Model_keep 254 = .ok (.sipush 201, 3) := by decide +kernel
theorem d_Model_keep_257 : decode b_Model_keep 257 = .ok (.if_icmp .ge 31, 3) := by decide +kernel
theorem d_Model_keep_260 : decode b_Model_keep 260 = .ok (.aload_n 0, 1) := by decide +kernel
theorem d_Model_keep_261 : decode b_Model_keep 261 = .ok (.getfield 45, 3) := by decide +kernel
theorem d_Model_keep_264 : decode b_Model_keep 264 = .ok (.sipush 201, 3) := by decide +kernel
theorem d_Model_keep_267 : decode b_Model_keep 267 = .ok (.iload_n 1, 1) := by decide +kernel
theorem d_Model_keep_268 : decode b_Model_keep 268 = .ok (.imul, 1) := by decide +kernel
theorem d_Model_keep_269 : decode b_Model_keep 269 = .ok (.iload_n 2, 1) := by decide +kernel
theorem d_Model_keep_270 : decode b_Model_keep 270 = .ok (.iadd, 1) := by decide +kernel
theorem d_Model_keep_271 : decode b_Model_keep 271 = .ok (.aload_n 0, 1) := by decide +kernel
theorem d_Model_keep_272 : decode b_Model_keep 272 = .ok (.getfield 45, 3) := by decide +kernel
theorem d_Model_keep_275 : decode b_Model_keep 275 = .ok (.sipush 402, 3) := by decide +kernel
theorem d_Model_keep_278 : decode b_Model_keep 278 = .ok (.iload_n 2, 1) := by decide +kernel
theorem d_Model_keep_279 : decode b_Model_keep 279 = .ok (.iadd, 1) := by decide +kernel
theorem d_Model_keep_280 : decode b_Model_keep 280 = .ok (.iaload, 1) := by decide +kernel
theorem d_Model_keep_281 : decode b_Model_keep 281 = .ok (.iastore, 1) := by decide +kernel
theorem d_Model_keep_282 : decode b_Model_keep 282 = .ok (.iinc 2 1, 3) := by decide +kernel
theorem d_Model_keep_285 : decode b_Model_keep 285 = .ok (.goto (-32), 3) := by decide +kernel
theorem d_Model_keep_288 : decode b_Model_keep 288 = .ok (.iconst 0, 1) := by decide +kernel
theorem d_Model_keep_289 : decode b_Model_keep 289 = .ok (.istore_n 2, 1) := by decide +kernel
theorem d_Model_keep_290 : decode b_Model_keep 290 = .ok (.iload_n 2, 1) := by decide +kernel
theorem d_Model_keep_291 : decode b_Model_keep 291 = .ok (.bipush 22, 2) := by decide +kernel
theorem d_Model_keep_293 : decode b_Model_keep 293 = .ok (.if_icmp .ge 29, 3) := by decide +kernel
theorem d_Model_keep_296 : decode b_Model_keep 296 = .ok (.aload_n 0, 1) := by decide +kernel
theorem d_Model_keep_297 : decode b_Model_keep 297 = .ok (.getfield 66, 3) := by decide +kernel
theorem d_Model_keep_300 : decode b_Model_keep 300 = .ok (.bipush 22, 2) := by decide +kernel
theorem d_Model_keep_302 : decode b_Model_keep 302 = .ok (.iload_n 1, 1) := by decide +kernel
theorem d_Model_keep_303 : decode b_Model_keep 303 = .ok (.imul, 1) := by decide +kernel
theorem d_Model_keep_304 : decode b_Model_keep 304 = .ok (.iload_n 2, 1) := by decide +kernel
theorem d_Model_keep_305 : decode b_Model_keep 305 = .ok (.iadd, 1) := by decide +kernel
theorem d_Model_keep_306 : decode b_Model_keep 306 = .ok (.aload_n 0, 1) := by decide +kernel
theorem d_Model_keep_307 : decode b_Model_keep 307 = .ok (.getfield 66, 3) := by decide +kernel
theorem d_Model_keep_310 : decode b_Model_keep 310 = .ok (.bipush 44, 2) := by decide +kernel
theorem d_Model_keep_312 : decode b_Model_keep 312 = .ok (.iload_n 2, 1) := by decide +kernel
theorem d_Model_keep_313 : decode b_Model_keep 313 = .ok (.iadd, 1) := by decide +kernel
theorem d_Model_keep_314 : decode b_Model_keep 314 = .ok (.iaload, 1) := by decide +kernel
theorem d_Model_keep_315 : decode b_Model_keep 315 = .ok (.iastore, 1) := by decide +kernel
theorem d_Model_keep_316 : decode b_Model_keep 316 = .ok (.iinc 2 1, 3) := by decide +kernel
theorem d_Model_keep_319 : decode b_Model_keep 319 = .ok (.goto (-29), 3) := by decide +kernel
theorem d_Model_keep_322 : decode b_Model_keep 322 = .ok (.iconst 0, 1) := by decide +kernel
theorem d_Model_keep_323 : decode b_Model_keep 323 = .ok (.istore_n 2, 1) := by decide +kernel
theorem d_Model_keep_324 : decode b_Model_keep 324 = .ok (.iload_n 2, 1) := by decide +kernel
theorem d_Model_keep_325 : decode b_Model_keep 325 = .ok (.sipush 880, 3) := by decide +kernel
theorem d_Model_keep_328 : decode b_Model_keep 328 = .ok (.if_icmp .ge 31, 3) := by decide +kernel
theorem d_Model_keep_331 : decode b_Model_keep 331 = .ok (.aload_n 0, 1) := by decide +kernel
theorem d_Model_keep_332 : decode b_Model_keep 332 = .ok (.getfield 63, 3) := by decide +kernel
theorem d_Model_keep_335 : decode b_Model_keep 335 = .ok (.sipush 880, 3) := by decide +kernel
theorem d_Model_keep_338 : decode b_Model_keep 338 = .ok (.iload_n 1, 1) := by decide +kernel
theorem d_Model_keep_339 : decode b_Model_keep 339 = .ok (.imul, 1) := by decide +kernel
theorem d_Model_keep_340 : decode b_Model_keep 340 = .ok (.iload_n 2, 1) := by decide +kernel
theorem d_Model_keep_341 : decode b_Model_keep 341 = .ok (.iadd, 1) := by decide +kernel
theorem d_Model_keep_342 : decode b_Model_keep 342 = .ok (.aload_n 0, 1) := by decide +kernel
theorem d_Model_keep_343 : decode b_Model_keep 343 = .ok (.getfield 63, 3) := by decide +kernel
theorem d_Model_keep_346 : decode b_Model_keep 346 = .ok (.sipush 1760, 3) := by decide +kernel
theorem d_Model_keep_349 : decode b_Model_keep 349 = .ok (.iload_n 2, 1) := by decide +kernel
theorem d_Model_keep_350 : decode b_Model_keep 350 = .ok (.iadd, 1) := by decide +kernel
theorem d_Model_keep_351 : decode b_Model_keep 351 = .ok (.baload, 1) := by decide +kernel
theorem d_Model_keep_352 : decode b_Model_keep 352 = .ok (.bastore, 1) := by decide +kernel
theorem d_Model_keep_353 : decode b_Model_keep 353 = .ok (.iinc 2 1, 3) := by decide +kernel
theorem d_Model_keep_356 : decode b_Model_keep 356 = .ok (.goto (-32), 3) := by decide +kernel
theorem d_Model_keep_359 : decode b_Model_keep 359 = .ok (.aload_n 0, 1) := by decide +kernel
theorem d_Model_keep_360 : decode b_Model_keep 360 = .ok (.getfield 79, 3) := by decide +kernel
theorem d_Model_keep_363 : decode b_Model_keep 363 = .ok (.iload_n 1, 1) := by decide +kernel
theorem d_Model_keep_364 : decode b_Model_keep 364 = .ok (.iconst 1, 1) := by decide +kernel
theorem d_Model_keep_365 : decode b_Model_keep 365 = .ok (.bastore, 1) := by decide +kernel
theorem d_Model_keep_366 : decode b_Model_keep 366 = .ok (.aload_n 0, 1) := by decide +kernel
theorem d_Model_keep_367 : decode b_Model_keep 367 = .ok (.getfield 82, 3) := by decide +kernel
theorem d_Model_keep_370 : decode b_Model_keep 370 = .ok (.iconst 0, 1) := by decide +kernel
theorem d_Model_keep_371 : decode b_Model_keep 371 = .ok (.iconst 0, 1) := by decide +kernel
theorem d_Model_keep_372 : decode b_Model_keep 372 = .ok (.iastore, 1) := by decide +kernel
theorem d_Model_keep_373 : decode b_Model_keep 373 = .ok (.aload_n 0, 1) := by decide +kernel
theorem d_Model_keep_374 : decode b_Model_keep 374 = .ok (.getfield 82, 3) := by decide +kernel
theorem d_Model_keep_377 : decode b_Model_keep 377 = .ok (.iconst 1, 1) := by decide +kernel
theorem d_Model_keep_378 : decode b_Model_keep 378 = .ok (.iconst 0, 1) := by decide +kernel
theorem d_Model_keep_379 : decode b_Model_keep 379 = .ok (.iastore, 1) := by decide +kernel
theorem d_Model_keep_380 : decode b_Model_keep 380 = .ok (.aload_n 0, 1) := by decide +kernel
theorem d_Model_keep_381 : decode b_Model_keep 381 = .ok (.iconst 0, 1) := by decide +kernel
theorem d_Model_keep_382 : decode b_Model_keep 382 = .ok (.putfield 200, 3) := by decide +kernel
theorem d_Model_keep_385 : decode b_Model_keep 385 = .ok (.return_, 1) := by decide +kernel
