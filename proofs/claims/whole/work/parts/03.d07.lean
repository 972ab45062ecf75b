theorem d_Model_define_0 : decode b_Model_define 0 = .ok (.aload_n 0, 1) := by decide +kernel
theorem d_Model_define_1 : decode b_Model_define 1 = .ok (.getfield 45, 3) := by decide +kernel
theorem d_Model_define_4 : decode b_Model_define 4 = .ok (.sipush 402, 3) := by decide +kernel
theorem d_Model_define_7 : decode b_Model_define 7 = .ok (.iload_n 1, 1) := by decide +kernel
theorem d_Model_define_8 : decode b_Model_define 8 = .ok (.iadd, 1) := by decide +kernel
theorem d_Model_define_9 : decode b_Model_define 9 = .ok (.iload_n 2, 1) := by decide +kernel
theorem d_Model_define_10 : decode b_Model_define 10 = .ok (.iastore, 1) := by decide +kernel
theorem d_Model_define_11 : decode b_Model_define 11 = .ok (.aload_n 0, 1) := by decide +kernel
theorem d_Model_define_12 : decode b_Model_define 12 = .ok (.getfield 48, 3) := by decide +kernel
theorem d_Model_define_15 : decode b_Model_define 15 = .ok (.sipush 402, 3) := by decide +kernel
theorem d_Model_define_18 : decode b_Model_define 18 = .ok (.iload_n 1, 1) := by decide +kernel
theorem d_Model_define_19 : decode b_Model_define 19 = .ok (.iadd, 1) := by decide +kernel
theorem d_Model_define_20 : decode b_Model_define 20 = .ok (.iload_n 3, 1) := by decide +kernel
theorem d_Model_define_21 : decode b_Model_define 21 = .ok (.iastore, 1) := by decide +kernel
theorem d_Model_define_22 : decode b_Model_define 22 = .ok (.return_, 1) := by decide +kernel
theorem d_Model_defines_0 : decode b_Model_defines 0 = .ok (.aload_n 0, 1) := by decide +kernel
theorem d_Model_defines_1 : decode b_Model_defines 1 = .ok (.getfield 133, 3) := by decide +kernel
theorem d_Model_defines_4 : decode b_Model_defines 4 = .ok (.istore_n 3, 1) := by decide +kernel
theorem d_Model_defines_5 : decode b_Model_defines 5 = .ok (.aload_n 0, 1) := by decide +kernel
theorem d_Model_defines_6 : decode b_Model_defines 6 = .ok (.invokevirtual 160, 3) := by decide +kernel
theorem d_Model_defines_9 : decode b_Model_defines 9 = .ok (.istore 4, 2) := by decide +kernel
theorem d_Model_defines_11 : decode b_Model_defines 11 = .ok (.aload_n 0, 1) := by decide +kernel
theorem d_Model_defines_12 : decode b_Model_defines 12 = .ok (.getfield 136, 3) := by decide +kernel
theorem d_Model_defines_15 : decode b_Model_defines 15 = .ok (.ifCond .ne 39, 3) := by decide +kernel
theorem d_Model_defines_18 : decode b_Model_defines 18 = .ok (.iload 4, 2) := by decide +kernel
theorem d_Model_defines_20 : decode b_Model_defines 20 = .ok (.iconst 2, 1) := by decide +kernel
theorem d_Model_defines_21 : decode b_Model_defines 21 = .ok (.if_icmp .lt 27, 3) := by decide +kernel
theorem d_Model_defines_24 : decode b_Model_defines 24 = .ok (.iload 4, 2) := by decide +kernel
theorem d_Model_defines_26 : decode b_Model_defines 26 = .ok (.iconst 2, 1) := by decide +kernel
theorem d_Model_defines_27 : decode b_Model_defines 27 = .ok (.irem, 1) := by decide +kernel
theorem d_Model_defines_28 : decode b_Model_defines 28 = .ok (.iconst 1, 1) := by decide +kernel
theorem d_Model_defines_29 : decode b_Model_defines 29 = .ok (.if_icmp .eq 19, 3) := by decide +kernel
theorem d_Model_defines_32 : decode b_Model_defines 32 = .ok (.aload_n 0, 1) := by decide +kernel
theorem d_Model_defines_33 : decode b_Model_defines 33 = .ok (.getfield 45, 3) := by decide +kernel
theorem d_Model_defines_36 : decode b_Model_defines 36 = .ok (.sipush 402, 3) := by decide +kernel
theorem d_Model_defines_39 : decode b_Model_defines 39 = .ok (.iload 4, 2) := by decide +kernel
theorem d_Model_defines_41 : decode b_Model_defines 41 = .ok (.iconst 2, 1) := by decide +kernel
theorem d_Model_defines_42 : decode b_Model_defines 42 = .ok (.idiv, 1) := by decide +kernel
theorem d_Model_defines_43 : decode b_Model_defines 43 = .ok (.iadd, 1) := by decide +kernel
theorem d_Model_defines_44 : decode b_Model_defines 44 = .ok (.iaload, 1) := by decide +kernel
theorem d_Model_defines_45 : decode b_Model_defines 45 = .ok (.ifCond .eq 9, 3) := by decide +kernel
theorem d_Model_defines_48 : decode b_Model_defines 48 = .ok (.aload_n 0, 1) := by decide +kernel
theorem d_Model_defines_49 : decode b_Model_defines 49 = .ok (.iconst 4, 1) := by decide +kernel
theorem d_Model_defines_50 : decode b_Model_defines 50 = .ok (.iload_n 3, 1) := by decide +kernel
theorem d_Model_defines_51 : decode b_Model_defines 51 = .ok (.invokevirtual 146, 3) := by decide +kernel
theorem d_Model_defines_54 : decode b_Model_defines 54 = .ok (.aload_n 0, 1) := by decide +kernel
theorem d_Model_defines_55 : decode b_Model_defines 55 = .ok (.getfield 136, 3) := by decide +kernel
theorem d_Model_defines_58 : decode b_Model_defines 58 = .ok (.ifCond .ne 13, 3) := by decide +kernel
theorem d_Model_defines_61 : decode b_Model_defines 61 = .ok (.aload_n 0, 1) := by decide +kernel
theorem d_Model_defines_62 : decode b_Model_defines 62 = .ok (.iload 4, 2) := by decide +kernel
theorem d_Model_defines_64 : decode b_Model_defines 64 = .ok (.iconst 2, 1) := by decide +kernel
theorem d_Model_defines_65 : decode b_Model_defines 65 = .ok (.idiv, 1) := by decide +kernel
theorem d_Model_defines_66 : decode b_Model_defines 66 = .ok (.iload_n 1, 1) := by decide +kernel
theorem d_Model_defines_67 : decode b_Model_defines 67 = .ok (.iload_n 2, 1) := by decide +kernel
theorem d_Model_defines_68 : decode b_Model_defines 68 = .ok (.invokevirtual 163, 3) := by decide +kernel
theorem d_Model_defines_71 : decode b_Model_defines 71 = .ok (.iload 4, 2) := by decide +kernel
theorem d_Model_defines_73 : decode b_Model_defines 73 = .ok (.ireturn, 1) := by decide +kernel
theorem d_Model_takeHead_0 : decode b_Model_takeHead 0 = .ok (.aload_n 0, 1) := by decide +kernel
theorem d_Model_takeHead_1 : decode b_Model_takeHead 1 = .ok (.bipush 97, 2) := by decide +kernel
theorem d_Model_takeHead_3 : decode b_Model_takeHead 3 = .ok (.invokevirtual 167, 3) := by decide +kernel
theorem d_Model_takeHead_6 : decode b_Model_takeHead 6 = .ok (.aload_n 0, 1) := by decide +kernel
theorem d_Model_takeHead_7 : decode b_Model_takeHead 7 = .ok (.invokevirtual 142, 3) := by decide +kernel
theorem d_Model_takeHead_10 : decode b_Model_takeHead 10 = .ok (.bipush 105, 2) := by decide +kernel
theorem d_Model_takeHead_12 : decode b_Model_takeHead 12 = .ok (.if_icmp .ne 7, 3) := by decide +kernel
theorem d_Model_takeHead_15 : decode b_Model_takeHead 15 = .ok (.iconst 1, 1) := by decide +kernel
theorem d_Model_takeHead_16 : decode b_Model_takeHead 16 = .ok (.goto 4, 3) := by decide +kernel
theorem d_Model_takeHead_19 : decode b_Model_takeHead 19 = .ok (.iconst 0, 1) := by decide +kernel
theorem d_Model_takeHead_20 : decode b_Model_takeHead 20 = .ok (.istore_n 1, 1) := by decide +kernel
theorem d_Model_takeHead_21 : decode b_Model_takeHead 21 = .ok (.aload_n 0, 1) := by decide +kernel
theorem d_Model_takeHead_22 : decode b_Model_takeHead 22 = .ok (.iload_n 1, 1) := by decide +kernel
theorem d_Model_takeHead_23 : decode b_Model_takeHead 23 = .ok (.ifCond .eq 8, 3) := by decide +kernel
theorem d_Model_takeHead_26 : decode b_Model_takeHead 26 = .ok (.bipush 105, 2) := by decide +kernel
theorem d_Model_takeHead_28 : decode b_Model_takeHead 28 = .ok (.goto 5, 3) := by decide +kernel
theorem d_Model_takeHead_31 : decode b_Model_takeHead 31 = .ok (.bipush 97, 2) := by decide +kernel
theorem d_Model_takeHead_33 : decode b_Model_takeHead 33 = .ok (.invokevirtual 167, 3) := by decide +kernel
theorem d_Model_takeHead_36 : decode b_Model_takeHead 36 = .ok (.aload_n 0, 1) := by decide +kernel
theorem d_Model_takeHead_37 : decode b_Model_takeHead 37 = .ok (.bipush 103, 2) := by decide +kernel
theorem d_Model_takeHead_39 : decode b_Model_takeHead 39 = .ok (.invokevirtual 167, 3) := by decide +kernel
theorem d_Model_takeHead_42 : decode b_Model_takeHead 42 = .ok (.iconst 0, 1) := by decide +kernel
theorem d_Model_takeHead_43 : decode b_Model_takeHead 43 = .ok (.istore_n 2, 1) := by decide +kernel
theorem d_Model_takeHead_44 : decode b_Model_takeHead 44 = .ok (.iload_n 2, 1) := by decide +kernel
theorem d_Model_takeHead_45 : decode b_Model_takeHead 45 = .ok (.iconst 5, 1) := by decide +kernel
theorem d_Model_takeHead_46 : decode b_Model_takeHead 46 = .ok (.if_icmp .ge 32, 3) := by decide +kernel
theorem d_Model_takeHead_49 : decode b_Model_takeHead 49 = .ok (.aload_n 0, 1) := by decide +kernel
theorem d_Model_takeHead_50 : decode b_Model_takeHead 50 = .ok (.bipush 32, 2) := by decide +kernel
theorem d_Model_takeHead_52 : decode b_Model_takeHead 52 = .ok (.invokevirtual 167, 3) := by decide +kernel
theorem d_Model_takeHead_55 : decode b_Model_takeHead 55 = .ok (.aload_n 0, 1) := by decide +kernel
theorem d_Model_takeHead_56 : decode b_Model_takeHead 56 = .ok (.invokevirtual 157, 3) := by decide +kernel
theorem d_Model_takeHead_59 : decode b_Model_takeHead 59 = .ok (.aload_n 0, 1) := by decide +kernel
theorem d_Model_takeHead_60 : decode b_Model_takeHead 60 = .ok (.getfield 20, 3) := by decide +kernel
theorem d_Model_takeHead_63 : decode b_Model_takeHead 63 = .ok (.bipush 10, 2) := by decide +kernel
theorem d_Model_takeHead_65 : decode b_Model_takeHead 65 = .ok (.iload_n 2, 1) := by decide +kernel
theorem d_Model_takeHead_66 : decode b_Model_takeHead 66 = .ok (.iadd, 1) := by decide +kernel
theorem d_Model_takeHead_67 : decode b_Model_takeHead 67 = .ok (.aload_n 0, 1) := by decide +kernel
theorem d_Model_takeHead_68 : decode b_Model_takeHead 68 = .ok (.getfield 150, 3) := by decide +kernel
theorem d_Model_takeHead_71 : decode b_Model_takeHead 71 = .ok (.iastore, 1) := by decide +kernel
theorem d_Model_takeHead_72 : decode b_Model_takeHead 72 = .ok (.iinc 2 1, 3) := by decide +kernel
theorem d_Model_takeHead_75 : decode b_Model_takeHead 75 = .ok (.goto (-31), 3) := by decide +kernel
theorem d_Model_takeHead_78 : decode b_Model_takeHead 78 = .ok (.aload_n 0, 1) := by decide +kernel
theorem d_Model_takeHead_79 : decode b_Model_takeHead 79 = .ok (.bipush 10, 2) := by decide +kernel
theorem d_Model_takeHead_81 : decode b_Model_takeHead 81 = .ok (.invokevirtual 167, 3) := by decide +kernel
theorem d_Model_takeHead_84 : decode b_Model_takeHead 84 = .ok (.aload_n 0, 1) := by decide +kernel
theorem d_Model_takeHead_85 : decode b_Model_takeHead 85 = .ok (.getfield 20, 3) := by decide +kernel
theorem d_Model_takeHead_88 : decode b_Model_takeHead 88 = .ok (.bipush 11, 2) := by decide +kernel
theorem d_Model_takeHead_90 : decode b_Model_takeHead 90 = .ok (.iaload, 1) := by decide +kernel
theorem d_Model_takeHead_91 : decode b_Model_takeHead 91 = .ok (.aload_n 0, 1) := by decide +kernel
theorem d_Model_takeHead_92 : decode b_Model_takeHead 92 = .ok (.getfield 20, 3) := by decide +kernel
theorem d_Model_takeHead_95 : decode b_Model_takeHead 95 = .ok (.bipush 12, 2) := by decide +kernel
theorem d_Model_takeHead_97 : decode b_Model_takeHead 97 = .ok (.iaload, 1) := by decide +kernel
theorem d_Model_takeHead_98 : decode b_Model_takeHead 98 = .ok (.iadd, 1) := by decide +kernel
theorem d_Model_takeHead_99 : decode b_Model_takeHead 99 = .ok (.aload_n 0, 1) := by decide +kernel
theorem d_Model_takeHead_100 : decode b_Model_takeHead 100 = .ok (.getfield 20, 3) := by decide +kernel
theorem d_Model_takeHead_103 : decode b_Model_takeHead 103 = .ok (.bipush 14, 2) := by decide +kernel
theorem d_Model_takeHead_105 : decode b_Model_takeHead 105 = .ok (.iaload, 1) := by decide +kernel
theorem d_Model_takeHead_106 : decode b_Model_takeHead 106 = .ok (.iadd, 1) := by decide +kernel
theorem d_Model_takeHead_107 : decode b_Model_takeHead 107 = .ok (.istore_n 2, 1) := by decide +kernel
theorem d_Model_takeHead_108 : decode b_Model_takeHead 108 = .ok (.aload_n 0, 1) := by decide +kernel
theorem d_Model_takeHead_109 : decode b_Model_takeHead 109 = .ok (.getfield 20, 3) := by decide +kernel
theorem d_Model_takeHead_112 : decode b_Model_takeHead 112 = .ok (.bipush 10, 2) := by decide +kernel
theorem d_Model_takeHead_114 : decode b_Model_takeHead 114 = .ok (.iaload, 1) := by decide +kernel
theorem d_Model_takeHead_115 : decode b_Model_takeHead 115 = .ok (.sipush 200, 3) := by decide +kernel
theorem d_Model_takeHead_118 : decode b_Model_takeHead 118 = .ok (.if_icmp .gt 84, 3) := by decide +kernel
theorem d_Model_takeHead_121 : decode b_Model_takeHead 121 = .ok (.aload_n 0, 1) := by decide +kernel
theorem d_Model_takeHead_122 : decode b_Model_takeHead 122 = .ok (.getfield 20, 3) := by decide +kernel
theorem d_Model_takeHead_125 : decode b_Model_takeHead 125 = .ok (.bipush 11, 2) := by decide +kernel
theorem d_Model_takeHead_127 : decode b_Model_takeHead 127 = .ok (.iaload, 1) := by decide +kernel
theorem d_Model_takeHead_128 : decode b_Model_takeHead 128 = .ok (.iconst 5, 1) := by decide +kernel
theorem d_Model_takeHead_129 : decode b_Model_takeHead 129 = .ok (.if_icmp .gt 73, 3) := by decide +kernel
theorem d_Model_takeHead_132 : decode b_Model_takeHead 132 = .ok (.aload_n 0, 1) := by decide +kernel
theorem d_Model_takeHead_133 : decode b_Model_takeHead 133 = .ok (.getfield 20, 3) := by decide +kernel
theorem d_Model_takeHead_136 : decode b_Model_takeHead 136 = .ok (.bipush 12, 2) := by decide +kernel
theorem d_Model_takeHead_138 : decode b_Model_takeHead 138 = .ok (.iaload, 1) := by decide +kernel
theorem d_Model_takeHead_139 : decode b_Model_takeHead 139 = .ok (.bipush 6, 2) := by decide +kernel
theorem d_Model_takeHead_141 : decode b_Model_takeHead 141 = .ok (.if_icmp .gt 61, 3) := by decide +kernel
theorem d_Model_takeHead_144 : decode b_Model_takeHead 144 = .ok (.aload_n 0, 1) := by decide +kernel
theorem d_Model_takeHead_145 : decode b_Model_takeHead 145 = .ok (.getfield 20, 3) := by decide +kernel
theorem d_Model_takeHead_148 : decode b_Model_takeHead 148 = .ok (.bipush 13, 2) := by decide +kernel
theorem d_Model_takeHead_150 : decode b_Model_takeHead 150 = .ok (.iaload, 1) := by decide +kernel
theorem d_Model_takeHead_151 : decode b_Model_takeHead 151 = .ok (.bipush 8, 2) := by decide +kernel
theorem d_Model_takeHead_153 : decode b_Model_takeHead 153 = .ok (.if_icmp .gt 49, 3) := by decide +kernel
theorem d_Model_takeHead_156 : decode b_Model_takeHead 156 = .ok (.aload_n 0, 1) := by decide +kernel
theorem d_Model_takeHead_157 : decode b_Model_takeHead 157 = .ok (.getfield 20, 3) := by decide +kernel
theorem d_Model_takeHead_160 : decode b_Model_takeHead 160 = .ok (.bipush 14, 2) := by decide +kernel
theorem d_Model_takeHead_162 : decode b_Model_takeHead 162 = .ok (.iaload, 1) := by decide +kernel
theorem d_Model_takeHead_163 : decode b_Model_takeHead 163 = .ok (.sipush 150, 3) := by decide +kernel
theorem d_Model_takeHead_166 : decode b_Model_takeHead 166 = .ok (.if_icmp .gt 36, 3) := by decide +kernel
theorem d_Model_takeHead_169 : decode b_Model_takeHead 169 = .ok (.iload_n 1, 1) := by decide +kernel
theorem d_Model_takeHead_170 : decode b_Model_takeHead 170 = .ok (.ifCond .eq 17, 3) := by decide +kernel
theorem d_Model_takeHead_173 : decode b_Model_takeHead 173 = .ok (.aload_n 0, 1) := by decide +kernel
theorem d_Model_takeHead_174 : decode b_Model_takeHead 174 = .ok (.getfield 20, 3) := by decide +kernel
theorem d_Model_takeHead_177 : decode b_Model_takeHead 177 = .ok (.bipush 10, 2) := by decide +kernel
theorem d_Model_takeHead_179 : decode b_Model_takeHead 179 = .ok (.iaload, 1) := by decide +kernel
theorem d_Model_takeHead_180 : decode b_Model_takeHead 180 = .ok (.iload_n 2, 1) := by decide +kernel
theorem d_Model_takeHead_181 : decode b_Model_takeHead 181 = .ok (.if_icmp .ne 21, 3) := by decide +kernel
theorem d_Model_takeHead_184 : decode b_Model_takeHead 184 = .ok (.goto 14, 3) := by decide +kernel
theorem d_Model_takeHead_187 : decode b_Model_takeHead 187 = .ok (.aload_n 0, 1) := by decide +kernel
theorem d_Model_takeHead_188 : decode b_Model_takeHead 188 = .ok (.getfield 20, 3) := by decide +kernel
theorem d_Model_takeHead_191 : decode b_Model_takeHead 191 = .ok (.bipush 10, 2) := by decide +kernel
theorem d_Model_takeHead_193 : decode b_Model_takeHead 193 = .ok (.iaload, 1) := by decide +kernel
theorem d_Model_takeHead_194 : decode b_Model_takeHead 194 = .ok (.iload_n 2, 1) := by decide +kernel
theorem d_Model_takeHead_195 : decode b_Model_takeHead 195 = .ok (.if_icmp .lt 7, 3) := by decide +kernel
theorem d_Model_takeHead_198 : decode b_Model_takeHead 198 = .ok (.iconst 1, 1) := by decide +kernel
theorem d_Model_takeHead_199 : decode b_Model_takeHead 199 = .ok (.goto 4, 3) := by decide +kernel
theorem d_Model_takeHead_202 : decode b_Model_takeHead 202 = .ok (.iconst 0, 1) := by decide +kernel
theorem d_Model_takeHead_203 : decode b_Model_takeHead 203 = .ok (.istore_n 3, 1) := by decide +kernel
theorem d_Model_takeHead_204 : decode b_Model_takeHead 204 = .ok (.aload_n 0, 1) := by decide +kernel
theorem d_Model_takeHead_205 : decode b_Model_takeHead 205 = .ok (.getfield 136, 3) := by decide +kernel
theorem d_Model_takeHead_208 : decode b_Model_takeHead 208 = .ok (.ifCond .ne 16, 3) := by decide +kernel
theorem d_Model_takeHead_211 : decode b_Model_takeHead 211 = .ok (.iload_n 3, 1) := by decide +kernel
theorem d_Model_takeHead_212 : decode b_Model_takeHead 212 = .ok (.ifCond .ne 12, 3) := by decide +kernel
theorem d_Model_takeHead_215 : decode b_Model_takeHead 215 = .ok (.aload_n 0, 1) := by decide +kernel
theorem d_Model_takeHead_216 : decode b_Model_takeHead 216 = .ok (.iconst 2, 1) := by decide +kernel
theorem d_Model_takeHead_217 : decode b_Model_takeHead 217 = .ok (.aload_n 0, 1) := by decide +kernel
theorem d_Model_takeHead_218 : decode b_Model_takeHead 218 = .ok (.getfield 133, 3) := by decide +kernel
theorem d_Model_takeHead_221 : decode b_Model_takeHead 221 = .ok (.invokevirtual 146, 3) := by decide +kernel
theorem d_Model_takeHead_224 : decode b_Model_takeHead 224 = .ok (.iload_n 1, 1) := by decide +kernel
theorem d_Model_takeHead_225 : decode b_Model_takeHead 225 = .ok (.ireturn, 1) := by decide +kernel
theorem d_Model_takeNext_0 : decode b_Model_takeNext 0 = .ok (.aload_n 0, 1) := by decide +kernel
theorem d_Model_takeNext_1 : decode b_Model_takeNext 1 = .ok (.getfield 51, 3) := by decide +kernel
theorem d_Model_takeNext_4 : decode b_Model_takeNext 4 = .ok (.iload_n 1, 1) := by decide +kernel
theorem d_Model_takeNext_5 : decode b_Model_takeNext 5 = .ok (.aload_n 0, 1) := by decide +kernel
theorem d_Model_takeNext_6 : decode b_Model_takeNext 6 = .ok (.getfield 133, 3) := by decide +kernel
theorem d_Model_takeNext_9 : decode b_Model_takeNext 9 = .ok (.iastore, 1) := by decide +kernel
theorem d_Model_takeNext_10 : decode b_Model_takeNext 10 = .ok (.aload_n 0, 1) := by decide +kernel
theorem d_Model_takeNext_11 : decode b_Model_takeNext 11 = .ok (.getfield 30, 3) := by decide +kernel
theorem d_Model_takeNext_14 : decode b_Model_takeNext 14 = .ok (.bipush 14, 2) := by decide +kernel
theorem d_Model_takeNext_16 : decode b_Model_takeNext 16 = .ok (.iload_n 1, 1) := by decide +kernel
theorem d_Model_takeNext_17 : decode b_Model_takeNext 17 = .ok (.iadd, 1) := by decide +kernel
theorem d_Model_takeNext_18 : decode b_Model_takeNext 18 = .ok (.aload_n 0, 1) := by decide +kernel
theorem d_Model_takeNext_19 : decode b_Model_takeNext 19 = .ok (.invokevirtual 160, 3) := by decide +kernel
theorem d_Model_takeNext_22 : decode b_Model_takeNext 22 = .ok (.iastore, 1) := by decide +kernel
theorem d_Model_takeNext_23 : decode b_Model_takeNext 23 = .ok (.aload_n 0, 1) := by decide +kernel
theorem d_Model_takeNext_24 : decode b_Model_takeNext 24 = .ok (.bipush 10, 2) := by decide +kernel
theorem d_Model_takeNext_26 : decode b_Model_takeNext 26 = .ok (.invokevirtual 167, 3) := by decide +kernel
theorem d_Model_takeNext_29 : decode b_Model_takeNext 29 = .ok (.return_, 1) := by decide +kernel
theorem d_Model_takeOutputs_0 : decode b_Model_takeOutputs 0 = .ok (.iconst 0, 1) := by decide +kernel
theorem d_Model_takeOutputs_1 : decode b_Model_takeOutputs 1 = .ok (.istore_n 1, 1) := by decide +kernel
theorem d_Model_takeOutputs_2 : decode b_Model_takeOutputs 2 = .ok (.iload_n 1, 1) := by decide +kernel
theorem d_Model_takeOutputs_3 : decode b_Model_takeOutputs 3 = .ok (.aload_n 0, 1) := by decide +kernel
theorem d_Model_takeOutputs_4 : decode b_Model_takeOutputs 4 = .ok (.getfield 20, 3) := by decide +kernel
theorem d_Model_takeOutputs_7 : decode b_Model_takeOutputs 7 = .ok (.bipush 13, 2) := by decide +kernel
theorem d_Model_takeOutputs_9 : decode b_Model_takeOutputs 9 = .ok (.iaload, 1) := by decide +kernel
theorem d_Model_takeOutputs_10 : decode b_Model_takeOutputs 10 = .ok (.if_icmp .ge 45, 3) := by decide +kernel
theorem d_Model_takeOutputs_13 : decode b_Model_takeOutputs 13 = .ok (.aload_n 0, 1) := by decide +kernel
theorem d_Model_takeOutputs_14 : decode b_Model_takeOutputs 14 = .ok (.getfield 136, 3) := by decide +kernel
theorem d_Model_takeOutputs_17 : decode b_Model_takeOutputs 17 = .ok (.ifCond .ne 38, 3) := by decide +kernel
theorem d_Model_takeOutputs_20 : decode b_Model_takeOutputs 20 = .ok (.aload_n 0, 1) := by decide +kernel
theorem d_Model_takeOutputs_21 : decode b_Model_takeOutputs 21 = .ok (.getfield 54, 3) := by decide +kernel
theorem d_Model_takeOutputs_24 : decode b_Model_takeOutputs 24 = .ok (.iload_n 1, 1) := by decide +kernel
theorem d_Model_takeOutputs_25 : decode b_Model_takeOutputs 25 = .ok (.aload_n 0, 1) := by decide +kernel
theorem d_Model_takeOutputs_26 : decode b_Model_takeOutputs 26 = .ok (.getfield 133, 3) := by decide +kernel
theorem d_Model_takeOutputs_29 : decode b_Model_takeOutputs 29 = .ok (.iastore, 1) := by decide +kernel
theorem d_Model_takeOutputs_30 : decode b_Model_takeOutputs 30 = .ok (.aload_n 0, 1) := by decide +kernel
theorem d_Model_takeOutputs_31 : decode b_Model_takeOutputs 31 = .ok (.getfield 33, 3) := by decide +kernel
theorem d_Model_takeOutputs_34 : decode b_Model_takeOutputs 34 = .ok (.bipush 16, 2) := by decide +kernel
theorem d_Model_takeOutputs_36 : decode b_Model_takeOutputs 36 = .ok (.iload_n 1, 1) := by decide +kernel
theorem d_Model_takeOutputs_37 : decode b_Model_takeOutputs 37 = .ok (.iadd, 1) := by decide +kernel
theorem d_Model_takeOutputs_38 : decode b_Model_takeOutputs 38 = .ok (.aload_n 0, 1) := by decide +kernel
theorem d_Model_takeOutputs_39 : decode b_Model_takeOutputs 39 = .ok (.invokevirtual 160, 3) := by decide +kernel
theorem d_Model_takeOutputs_42 : decode b_Model_takeOutputs 42 = .ok (.iastore, 1) := by decide +kernel
theorem d_Model_takeOutputs_43 : decode b_Model_takeOutputs 43 = .ok (.aload_n 0, 1) := by decide +kernel
theorem d_Model_takeOutputs_44 : decode b_Model_takeOutputs 44 = .ok (.bipush 10, 2) := by decide +kernel
theorem d_Model_takeOutputs_46 : decode b_Model_takeOutputs 46 = .ok (.invokevirtual 167, 3) := by decide +kernel
theorem d_Model_takeOutputs_49 : decode b_Model_takeOutputs 49 = .ok (.iinc 1 1, 3) := by decide +kernel
theorem d_Model_takeOutputs_52 : decode b_Model_takeOutputs 52 = .ok (.goto (-50), 3) := by decide +kernel
theorem d_Model_takeOutputs_55 : decode b_Model_takeOutputs 55 = .ok (.return_, 1) := by decide +kernel
theorem d_Model_takeText_0 : decode b_Model_takeText 0 = .ok (.iconst 0, 1) := by decide +kernel
theorem d_Model_takeText_1 : decode b_Model_takeText 1 = .ok (.istore_n 1, 1) := by decide +kernel
theorem d_Model_takeText_2 : decode b_Model_takeText 2 = .ok (.iload_n 1, 1) := by decide +kernel
theorem d_Model_takeText_3 : decode b_Model_takeText 3 = .ok (.aload_n 0, 1) := by decide +kernel
theorem d_Model_takeText_4 : decode b_Model_takeText 4 = .ok (.getfield 20, 3) := by decide +kernel
theorem d_Model_takeText_7 : decode b_Model_takeText 7 = .ok (.bipush 11, 2) := by decide +kernel
theorem d_Model_takeText_9 : decode b_Model_takeText 9 = .ok (.iaload, 1) := by decide +kernel
theorem d_Model_takeText_10 : decode b_Model_takeText 10 = .ok (.if_icmp .ge 37, 3) := by decide +kernel
theorem d_Model_takeText_13 : decode b_Model_takeText 13 = .ok (.aload_n 0, 1) := by decide +kernel
theorem d_Model_takeText_14 : decode b_Model_takeText 14 = .ok (.getfield 136, 3) := by decide +kernel
theorem d_Model_takeText_17 : decode b_Model_takeText 17 = .ok (.ifCond .ne 30, 3) := by decide +kernel
theorem d_Model_takeText_20 : decode b_Model_takeText 20 = .ok (.aload_n 0, 1) := by decide +kernel
theorem d_Model_takeText_21 : decode b_Model_takeText 21 = .ok (.getfield 24, 3) := by decide +kernel
theorem d_Model_takeText_24 : decode b_Model_takeText 24 = .ok (.bipush 10, 2) := by decide +kernel
theorem d_Model_takeText_26 : decode b_Model_takeText 26 = .ok (.iload_n 1, 1) := by decide +kernel
theorem d_Model_takeText_27 : decode b_Model_takeText 27 = .ok (.iadd, 1) := by decide +kernel
theorem d_Model_takeText_28 : decode b_Model_takeText 28 = .ok (.aload_n 0, 1) := by decide +kernel
theorem d_Model_takeText_29 : decode b_Model_takeText 29 = .ok (.iconst 1, 1) := by decide +kernel
theorem d_Model_takeText_30 : decode b_Model_takeText 30 = .ok (.iload_n 1, 1) := by decide +kernel
theorem d_Model_takeText_31 : decode b_Model_takeText 31 = .ok (.invokevirtual 171, 3) := by decide +kernel
theorem d_Model_takeText_34 : decode b_Model_takeText 34 = .ok (.iastore, 1) := by decide +kernel
theorem d_Model_takeText_35 : decode b_Model_takeText 35 = .ok (.aload_n 0, 1) := by decide +kernel
theorem d_Model_takeText_36 : decode b_Model_takeText 36 = .ok (.bipush 10, 2) := by decide +kernel
theorem d_Model_takeText_38 : decode b_Model_takeText 38 = .ok (.invokevirtual 167, 3) := by decide +kernel
theorem d_Model_takeText_41 : decode b_Model_takeText 41 = .ok (.iinc 1 1, 3) := by decide +kernel
theorem d_Model_takeText_44 : decode b_Model_takeText 44 = .ok (.goto (-42), 3) := by decide +kernel
theorem d_Model_takeText_47 : decode b_Model_takeText 47 = .ok (.iconst 0, 1) := by decide +kernel
theorem d_Model_takeText_48 : decode b_Model_takeText 48 = .ok (.istore_n 1, 1) := by decide +kernel
theorem d_Model_takeText_49 : decode b_Model_takeText 49 = .ok (.iload_n 1, 1) := by decide +kernel
theorem d_Model_takeText_50 : decode b_Model_takeText 50 = .ok (.aload_n 0, 1) := by decide +kernel
theorem d_Model_takeText_51 : decode b_Model_takeText 51 = .ok (.getfield 20, 3) := by decide +kernel
theorem d_Model_takeText_54 : decode b_Model_takeText 54 = .ok (.bipush 12, 2) := by decide +kernel
theorem d_Model_takeText_56 : decode b_Model_takeText 56 = .ok (.iaload, 1) := by decide +kernel
theorem d_Model_takeText_57 : decode b_Model_takeText 57 = .ok (.if_icmp .ge 42, 3) := by decide +kernel
theorem d_Model_takeText_60 : decode b_Model_takeText 60 = .ok (.aload_n 0, 1) := by decide +kernel
theorem d_Model_takeText_61 : decode b_Model_takeText 61 = .ok (.getfield 136, 3) := by decide +kernel
theorem d_Model_takeText_64 : decode b_Model_takeText 64 = .ok (.ifCond .ne 35, 3) := by decide +kernel
theorem d_Model_takeText_67 : decode b_Model_takeText 67 = .ok (.aload_n 0, 1) := by decide +kernel
theorem d_Model_takeText_68 : decode b_Model_takeText 68 = .ok (.getfield 27, 3) := by decide +kernel
theorem d_Model_takeText_71 : decode b_Model_takeText 71 = .ok (.bipush 14, 2) := by decide +kernel
theorem d_Model_takeText_73 : decode b_Model_takeText 73 = .ok (.iload_n 1, 1) := by decide +kernel
theorem d_Model_takeText_74 : decode b_Model_takeText 74 = .ok (.iadd, 1) := by decide +kernel
theorem d_Model_takeText_75 : decode b_Model_takeText 75 = .ok (.aload_n 0, 1) := by decide +kernel
theorem d_Model_takeText_76 : decode b_Model_takeText 76 = .ok (.iconst 2, 1) := by decide +kernel
theorem d_Model_takeText_77 : decode b_Model_takeText 77 = .ok (.iload_n 1, 1) := by decide +kernel
theorem d_Model_takeText_78 : decode b_Model_takeText 78 = .ok (.invokevirtual 171, 3) := by decide +kernel
theorem d_Model_takeText_81 : decode b_Model_takeText 81 = .ok (.iastore, 1) := by decide +kernel
theorem d_Model_takeText_82 : decode b_Model_takeText 82 = .ok (.aload_n 0, 1) := by decide +kernel
theorem d_Model_takeText_83 : decode b_Model_takeText 83 = .ok (.bipush 32, 2) := by decide +kernel
theorem d_Model_takeText_85 : decode b_Model_takeText 85 = .ok (.invokevirtual 167, 3) := by decide +kernel
theorem d_Model_takeText_88 : decode b_Model_takeText 88 = .ok (.aload_n 0, 1) := by decide +kernel
theorem d_Model_takeText_89 : decode b_Model_takeText 89 = .ok (.iload_n 1, 1) := by decide +kernel
theorem d_Model_takeText_90 : decode b_Model_takeText 90 = .ok (.invokevirtual 175, 3) := by decide +kernel
theorem d_Model_takeText_93 : decode b_Model_takeText 93 = .ok (.iinc 1 1, 3) := by decide +kernel
theorem d_Model_takeText_96 : decode b_Model_takeText 96 = .ok (.goto (-47), 3) := by decide +kernel
theorem d_Model_takeText_99 : decode b_Model_takeText 99 = .ok (.aload_n 0, 1) := by decide +kernel
theorem d_Model_takeText_100 : decode b_Model_takeText 100 = .ok (.invokevirtual 178, 3) := by decide +kernel
theorem d_Model_takeText_103 : decode b_Model_takeText 103 = .ok (.iconst 0, 1) := by decide +kernel
theorem d_Model_takeText_104 : decode b_Model_takeText 104 = .ok (.istore_n 1, 1) := by decide +kernel
theorem d_Model_takeText_105 : decode b_Model_takeText 105 = .ok (.iload_n 1, 1) := by decide +kernel
theorem d_Model_takeText_106 : decode b_Model_takeText 106 = .ok (.aload_n 0, 1) := by decide +kernel
theorem d_Model_takeText_107 : decode b_Model_takeText 107 = .ok (.getfield 20, 3) := by decide +kernel
theorem d_Model_takeText_110 : decode b_Model_takeText 110 = .ok (.bipush 14, 2) := by decide +kernel
theorem d_Model_takeText_112 : decode b_Model_takeText 112 = .ok (.iaload, 1) := by decide +kernel
theorem d_Model_takeText_113 : decode b_Model_takeText 113 = .ok (.if_icmp .ge 98, 3) := by decide +kernel
theorem d_Model_takeText_116 : decode b_Model_takeText 116 = .ok (.aload_n 0, 1) := by decide +kernel
theorem d_Model_takeText_117 : decode b_Model_takeText 117 = .ok (.getfield 136, 3) := by decide +kernel
theorem d_Model_takeText_120 : decode b_Model_takeText 120 = .ok (.ifCond .ne 91, 3) := by decide +kernel
theorem d_Model_takeText_123 : decode b_Model_takeText 123 = .ok (.aload_n 0, 1) := by decide +kernel
theorem d_Model_takeText_124 : decode b_Model_takeText 124 = .ok (.getfield 36, 3) := by decide +kernel
theorem d_Model_takeText_127 : decode b_Model_takeText 127 = .ok (.sipush 300, 3) := by decide +kernel
theorem d_Model_takeText_130 : decode b_Model_takeText 130 = .ok (.iload_n 1, 1) := by decide +kernel
theorem d_Model_takeText_131 : decode b_Model_takeText 131 = .ok (.iadd, 1) := by decide +kernel
theorem d_Model_takeText_132 : decode b_Model_takeText 132 = .ok (.aload_n 0, 1) := by decide +kernel
theorem d_Model_takeText_133 : decode b_Model_takeText 133 = .ok (.iconst 3, 1) := by decide +kernel
theorem d_Model_takeText_134 : decode b_Model_takeText 134 = .ok (.iload_n 1, 1) := by decide +kernel
theorem d_Model_takeText_135 : decode b_Model_takeText 135 = .ok (.invokevirtual 171, 3) := by decide +kernel
theorem d_Model_takeText_138 : decode b_Model_takeText 138 = .ok (.iastore, 1) := by decide +kernel
theorem d_Model_takeText_139 : decode b_Model_takeText 139 = .ok (.aload_n 0, 1) := by decide +kernel
theorem d_Model_takeText_140 : decode b_Model_takeText 140 = .ok (.bipush 32, 2) := by decide +kernel
theorem d_Model_takeText_142 : decode b_Model_takeText 142 = .ok (.invokevirtual 167, 3) := by decide +kernel
theorem d_Model_takeText_145 : decode b_Model_takeText 145 = .ok (.aload_n 0, 1) := by decide +kernel
theorem d_Model_takeText_146 : decode b_Model_takeText 146 = .ok (.getfield 57, 3) := by decide +kernel
theorem d_Model_takeText_149 : decode b_Model_takeText 149 = .ok (.iload_n 1, 1) := by decide +kernel
theorem d_Model_takeText_150 : decode b_Model_takeText 150 = .ok (.aload_n 0, 1) := by decide +kernel
theorem d_Model_takeText_151 : decode b_Model_takeText 151 = .ok (.getfield 133, 3) := by decide +kernel
theorem d_Model_takeText_154 : decode b_Model_takeText 154 = .ok (.iastore, 1) := by decide +kernel
theorem d_Model_takeText_155 : decode b_Model_takeText 155 = .ok (.aload_n 0, 1) := by decide +kernel
theorem d_Model_takeText_156 : decode b_Model_takeText 156 = .ok (.getfield 39, 3) := by decide +kernel
theorem d_Model_takeText_159 : decode b_Model_takeText 159 = .ok (.sipush 300, 3) := by decide +kernel
theorem d_Model_takeText_162 : decode b_Model_takeText 162 = .ok (.iload_n 1, 1) := by decide +kernel
theorem d_Model_takeText_163 : decode b_Model_takeText 163 = .ok (.iadd, 1) := by decide +kernel
theorem d_Model_takeText_164 : decode b_Model_takeText 164 = .ok (.aload_n 0, 1) := by decide +kernel
theorem d_Model_takeText_165 : decode b_Model_takeText 165 = .ok (.invokevirtual 160, 3) := by decide +kernel
theorem d_Model_takeText_168 : decode b_Model_takeText 168 = .ok (.iastore, 1) := by decide +kernel
theorem d_Model_takeText_169 : decode b_Model_takeText 169 = .ok (.aload_n 0, 1) := by decide +kernel
theorem d_Model_takeText_170 : decode b_Model_takeText 170 = .ok (.bipush 32, 2) := by decide +kernel
theorem d_Model_takeText_172 : decode b_Model_takeText 172 = .ok (.invokevirtual 167, 3) := by decide +kernel
theorem d_Model_takeText_175 : decode b_Model_takeText 175 = .ok (.aload_n 0, 1) := by decide +kernel
theorem d_Model_takeText_176 : decode b_Model_takeText 176 = .ok (.getfield 60, 3) := by decide +kernel
theorem d_Model_takeText_179 : decode b_Model_takeText 179 = .ok (.iload_n 1, 1) := by decide +kernel
theorem d_Model_takeText_180 : decode b_Model_takeText 180 = .ok (.aload_n 0, 1) := by decide +kernel
theorem d_Model_takeText_181 : decode b_Model_takeText 181 = .ok (.getfield 133, 3) := by decide +kernel
theorem d_Model_takeText_184 : decode b_Model_takeText 184 = .ok (.iastore, 1) := by decide +kernel
theorem d_Model_takeText_185 : decode b_Model_takeText 185 = .ok (.aload_n 0, 1) := by decide +kernel
theorem d_Model_takeText_186 : decode b_Model_takeText 186 = .ok (.getfield 42, 3) := by decide +kernel
theorem d_Model_takeText_189 : decode b_Model_takeText 189 = .ok (.sipush 300, 3) := by decide +kernel
theorem d_Model_takeText_192 : decode b_Model_takeText 192 = .ok (.iload_n 1, 1) := by decide +kernel
theorem d_Model_takeText_193 : decode b_Model_takeText 193 = .ok (.iadd, 1) := by decide +kernel
theorem d_Model_takeText_194 : decode b_Model_takeText 194 = .ok (.aload_n 0, 1) := by decide +kernel
theorem d_Model_takeText_195 : decode b_Model_takeText 195 = .ok (.invokevirtual 160, 3) := by decide +kernel
theorem d_Model_takeText_198 : decode b_Model_takeText 198 = .ok (.iastore, 1) := by decide +kernel
theorem d_Model_takeText_199 : decode b_Model_takeText 199 = .ok (.aload_n 0, 1) := by decide +kernel
theorem d_Model_takeText_200 : decode b_Model_takeText 200 = .ok (.bipush 10, 2) := by decide +kernel
theorem d_Model_takeText_202 : decode b_Model_takeText 202 = .ok (.invokevirtual 167, 3) := by decide +kernel
theorem d_Model_takeText_205 : decode b_Model_takeText 205 = .ok (.iinc 1 1, 3) := by decide +kernel
theorem d_Model_takeText_208 : decode b_Model_takeText 208 = .ok (.goto (-103), 3) := by decide +kernel
theorem d_Model_takeText_211 : decode b_Model_takeText 211 = .ok (.return_, 1) := by decide +kernel
theorem d_Model_delta_0 : decode b_Model_delta 0 = .ok (.aload_n 0, 1) := by decide +kernel
theorem d_Model_delta_1 : decode b_Model_delta 1 = .ok (.getfield 133, 3) := by decide +kernel
theorem d_Model_delta_4 : decode b_Model_delta 4 = .ok (.istore_n 3, 1) := by decide +kernel
theorem d_Model_delta_5 : decode b_Model_delta 5 = .ok (.iconst 0, 1) := by decide +kernel
theorem d_Model_delta_6 : decode b_Model_delta 6 = .ok (.istore 4, 2) := by decide +kernel
theorem d_Model_delta_8 : decode b_Model_delta 8 = .ok (.iconst 1, 1) := by decide +kernel
theorem d_Model_delta_9 : decode b_Model_delta 9 = .ok (.istore 5, 2) := by decide +kernel
theorem d_Model_delta_11 : decode b_Model_delta 11 = .ok (.iconst 0, 1) := by decide +kernel
theorem d_Model_delta_12 : decode b_Model_delta 12 = .ok (.istore 6, 2) := by decide +kernel
theorem d_Model_delta_14 : decode b_Model_delta 14 = .ok (.iload 6, 2) := by decide +kernel
theorem d_Model_delta_16 : decode b_Model_delta 16 = .ok (.iconst 3, 1) := by decide +kernel
theorem d_Model_delta_17 : decode b_Model_delta 17 = .ok (.if_icmp .ge 88, 3) := by decide +kernel
theorem d_Model_delta_20 : decode b_Model_delta 20 = .ok (.iload 5, 2) := by decide +kernel
theorem d_Model_delta_22 : decode b_Model_delta 22 = .ok (.ifCond .eq 83, 3) := by decide +kernel
theorem d_Model_delta_25 : decode b_Model_delta 25 = .ok (.aload_n 0, 1) := by decide +kernel
theorem d_Model_delta_26 : decode b_Model_delta 26 = .ok (.getfield 136, 3) := by decide +kernel
theorem d_Model_delta_29 : decode b_Model_delta 29 = .ok (.ifCond .ne 76, 3) := by decide +kernel
theorem d_Model_delta_32 : decode b_Model_delta 32 = .ok (.aload_n 0, 1) := by decide +kernel
theorem d_Model_delta_33 : decode b_Model_delta 33 = .ok (.invokevirtual 142, 3) := by decide +kernel
theorem d_Model_delta_36 : decode b_Model_delta 36 = .ok (.istore 7, 2) := by decide +kernel
theorem d_Model_delta_38 : decode b_Model_delta 38 = .ok (.iload 7, 2) := by decide +kernel
theorem d_Model_delta_40 : decode b_Model_delta 40 = .ok (.ifCond .ge 12, 3) := by decide +kernel
theorem d_Model_delta_43 : decode b_Model_delta 43 = .ok (.aload_n 0, 1) := by decide +kernel
theorem d_Model_delta_44 : decode b_Model_delta 44 = .ok (.iconst 1, 1) := by decide +kernel
theorem d_Model_delta_45 : decode b_Model_delta 45 = .ok (.aload_n 0, 1) := by decide +kernel
theorem d_Model_delta_46 : decode b_Model_delta 46 = .ok (.getfield 133, 3) := by decide +kernel
theorem d_Model_delta_49 : decode b_Model_delta 49 = .ok (.invokevirtual 146, 3) := by decide +kernel
theorem d_Model_delta_52 : decode b_Model_delta 52 = .ok (.iload 4, 2) := by decide +kernel
theorem d_Model_delta_54 : decode b_Model_delta 54 = .ok (.iload 7, 2) := by decide +kernel
theorem d_Model_delta_56 : decode b_Model_delta 56 = .ok (.bipush 127, 2) := by decide +kernel
theorem d_Model_delta_58 : decode b_Model_delta 58 = .ok (.iand, 1) := by decide +kernel
theorem d_Model_delta_59 : decode b_Model_delta 59 = .ok (.bipush 7, 2) := by decide +kernel
theorem d_Model_delta_61 : decode b_Model_delta 61 = .ok (.iload 6, 2) := by decide +kernel
theorem d_Model_delta_63 : decode b_Model_delta 63 = .ok (.imul, 1) := by decide +kernel
theorem d_Model_delta_64 : decode b_Model_delta 64 = .ok (.ishl, 1) := by decide +kernel
theorem d_Model_delta_65 : decode b_Model_delta 65 = .ok (.iadd, 1) := by decide +kernel
theorem d_Model_delta_66 : decode b_Model_delta 66 = .ok (.istore 4, 2) := by decide +kernel
theorem d_Model_delta_68 : decode b_Model_delta 68 = .ok (.iload 7, 2) := by decide +kernel
theorem d_Model_delta_70 : decode b_Model_delta 70 = .ok (.bipush 127, 2) := by decide +kernel
theorem d_Model_delta_72 : decode b_Model_delta 72 = .ok (.if_icmp .le 7, 3) := by decide +kernel
theorem d_Model_delta_75 : decode b_Model_delta 75 = .ok (.iconst 1, 1) := by decide +kernel
theorem d_Model_delta_76 : decode b_Model_delta 76 = .ok (.goto 4, 3) := by decide +kernel
theorem d_Model_delta_79 : decode b_Model_delta 79 = .ok (.iconst 0, 1) := by decide +kernel
theorem d_Model_delta_80 : decode b_Model_delta 80 = .ok (.istore 5, 2) := by decide +kernel
theorem d_Model_delta_82 : decode b_Model_delta 82 = .ok (.aload_n 0, 1) := by decide +kernel
theorem d_Model_delta_83 : decode b_Model_delta 83 = .ok (.getfield 136, 3) := by decide +kernel
theorem d_Model_delta_86 : decode b_Model_delta 86 = .ok (.ifCond .ne 13, 3) := by decide +kernel
theorem d_Model_delta_89 : decode b_Model_delta 89 = .ok (.aload_n 0, 1) := by decide +kernel
theorem d_Model_delta_90 : decode b_Model_delta 90 = .ok (.dup, 1) := by decide +kernel
theorem d_Model_delta_91 : decode b_Model_delta 91 = .ok (.getfield 133, 3) := by decide +kernel
theorem d_Model_delta_94 : decode b_Model_delta 94 = .ok (.iconst 1, 1) := by decide +kernel
theorem d_Model_delta_95 : decode b_Model_delta 95 = .ok (.iadd, 1) := by decide +kernel
theorem d_Model_delta_96 : decode b_Model_delta 96 = .ok (.putfield 133, 3) := by decide +kernel
theorem d_Model_delta_99 : decode b_Model_delta 99 = .ok (.iinc 6 1, 3) := by decide +kernel
theorem d_Model_delta_102 : decode b_Model_delta 102 = .ok (.goto (-88), 3) := by decide +kernel
theorem d_Model_delta_105 : decode b_Model_delta 105 = .ok (.iload 5, 2) := by decide +kernel
theorem d_Model_delta_107 : decode b_Model_delta 107 = .ok (.ifCond .eq 12, 3) := by decide +kernel
theorem d_Model_delta_110 : decode b_Model_delta 110 = .ok (.aload_n 0, 1) := by decide +kernel
theorem d_Model_delta_111 : decode b_Model_delta 111 = .ok (.iconst 1, 1) := by decide +kernel
theorem d_Model_delta_112 : decode b_Model_delta 112 = .ok (.aload_n 0, 1) := by decide +kernel
theorem d_Model_delta_113 : decode b_Model_delta 113 = .ok (.getfield 133, 3) := by decide +kernel
theorem d_Model_delta_116 : decode b_Model_delta 116 = .ok (.invokevirtual 146, 3) := by decide +kernel
theorem d_Model_delta_119 : decode b_Model_delta 119 = .ok (.aload_n 0, 1) := by decide +kernel
theorem d_Model_delta_120 : decode b_Model_delta 120 = .ok (.getfield 136, 3) := by decide +kernel
theorem d_Model_delta_123 : decode b_Model_delta 123 = .ok (.ifCond .ne 21, 3) := by decide +kernel
theorem d_Model_delta_126 : decode b_Model_delta 126 = .ok (.iload 4, 2) := by decide +kernel
theorem d_Model_delta_128 : decode b_Model_delta 128 = .ok (.iload_n 2, 1) := by decide +kernel
theorem d_Model_delta_129 : decode b_Model_delta 129 = .ok (.if_icmp .lt 9, 3) := by decide +kernel
theorem d_Model_delta_132 : decode b_Model_delta 132 = .ok (.iload 4, 2) := by decide +kernel
theorem d_Model_delta_134 : decode b_Model_delta 134 = .ok (.iload_n 1, 1) := by decide +kernel
theorem d_Model_delta_135 : decode b_Model_delta 135 = .ok (.if_icmp .le 9, 3) := by decide +kernel
theorem d_Model_delta_138 : decode b_Model_delta 138 = .ok (.aload_n 0, 1) := by decide +kernel
theorem d_Model_delta_139 : decode b_Model_delta 139 = .ok (.iconst 3, 1) := by decide +kernel
theorem d_Model_delta_140 : decode b_Model_delta 140 = .ok (.iload_n 3, 1) := by decide +kernel
theorem d_Model_delta_141 : decode b_Model_delta 141 = .ok (.invokevirtual 146, 3) := by decide +kernel
theorem d_Model_delta_144 : decode b_Model_delta 144 = .ok (.iload_n 1, 1) := by decide +kernel
theorem d_Model_delta_145 : decode b_Model_delta 145 = .ok (.iload 4, 2) := by decide +kernel
theorem d_Model_delta_147 : decode b_Model_delta 147 = .ok (.isub, 1) := by decide +kernel
theorem d_Model_delta_148 : decode b_Model_delta 148 = .ok (.ireturn, 1) := by decide +kernel
theorem d_Model_takeBinary_0 : decode b_Model_takeBinary 0 = .ok (.iconst 1, 1) := by decide +kernel
theorem d_Model_takeBinary_1 : decode b_Model_takeBinary 1 = .ok (.istore_n 1, 1) := by decide +kernel
theorem d_Model_takeBinary_2 : decode b_Model_takeBinary 2 = .ok (.iload_n 1, 1) := by decide +kernel
theorem d_Model_takeBinary_3 : decode b_Model_takeBinary 3 = .ok (.aload_n 0, 1) := by decide +kernel
theorem d_Model_takeBinary_4 : decode b_Model_takeBinary 4 = .ok (.getfield 20, 3) := by decide +kernel
theorem d_Model_takeBinary_7 : decode b_Model_takeBinary 7 = .ok (.bipush 10, 2) := by decide +kernel
theorem d_Model_takeBinary_9 : decode b_Model_takeBinary 9 = .ok (.iaload, 1) := by decide +kernel
theorem d_Model_takeBinary_10 : decode b_Model_takeBinary 10 = .ok (.if_icmp .gt 169, 3) := by decide +kernel
theorem d_Model_takeBinary_13 : decode b_Model_takeBinary 13 = .ok (.iload_n 1, 1) := by decide +kernel
theorem d_Model_takeBinary_14 : decode b_Model_takeBinary 14 = .ok (.iconst 1, 1) := by decide +kernel
theorem d_Model_takeBinary_15 : decode b_Model_takeBinary 15 = .ok (.isub, 1) := by decide +kernel
theorem d_Model_takeBinary_16 : decode b_Model_takeBinary 16 = .ok (.istore_n 2, 1) := by decide +kernel
theorem d_Model_takeBinary_17 : decode b_Model_takeBinary 17 = .ok (.iload_n 2, 1) := by decide +kernel
theorem d_Model_takeBinary_18 : decode b_Model_takeBinary 18 = .ok (.aload_n 0, 1) := by decide +kernel
theorem d_Model_takeBinary_19 : decode b_Model_takeBinary 19 = .ok (.getfield 20, 3) := by decide +kernel
theorem d_Model_takeBinary_22 : decode b_Model_takeBinary 22 = .ok (.bipush 11, 2) := by decide +kernel
theorem d_Model_takeBinary_24 : decode b_Model_takeBinary 24 = .ok (.iaload, 1) := by decide +kernel
theorem d_Model_takeBinary_25 : decode b_Model_takeBinary 25 = .ok (.if_icmp .ge 7, 3) := by decide +kernel
theorem d_Model_takeBinary_28 : decode b_Model_takeBinary 28 = .ok (.iconst 1, 1) := by decide +kernel
theorem d_Model_takeBinary_29 : decode b_Model_takeBinary 29 = .ok (.goto 4, 3) := by decide +kernel
theorem d_Model_takeBinary_32 : decode b_Model_takeBinary 32 = .ok (.iconst 0, 1) := by decide +kernel
theorem d_Model_takeBinary_33 : decode b_Model_takeBinary 33 = .ok (.istore_n 3, 1) := by decide +kernel
theorem d_Model_takeBinary_34 : decode b_Model_takeBinary 34 = .ok (.iload_n 3, 1) := by decide +kernel
theorem d_Model_takeBinary_35 : decode b_Model_takeBinary 35 = .ok (.ifCond .ne 26, 3) := by decide +kernel
theorem d_Model_takeBinary_38 : decode b_Model_takeBinary 38 = .ok (.iload_n 2, 1) := by decide +kernel
theorem d_Model_takeBinary_39 : decode b_Model_takeBinary 39 = .ok (.aload_n 0, 1) := by decide +kernel
theorem d_Model_takeBinary_40 : decode b_Model_takeBinary 40 = .ok (.getfield 20, 3) := by decide +kernel
theorem d_Model_takeBinary_43 : decode b_Model_takeBinary 43 = .ok (.bipush 11, 2) := by decide +kernel
theorem d_Model_takeBinary_45 : decode b_Model_takeBinary 45 = .ok (.iaload, 1) := by decide +kernel
theorem d_Model_takeBinary_46 : decode b_Model_takeBinary 46 = .ok (.aload_n 0, 1) := by decide +kernel
theorem d_Model_takeBinary_47 : decode b_Model_takeBinary 47 = .ok (.getfield 20, 3) := by decide +kernel
theorem d_Model_takeBinary_50 : decode b_Model_takeBinary 50 = .ok (.bipush 12, 2) := by decide +kernel
theorem d_Model_takeBinary_52 : decode b_Model_takeBinary 52 = .ok (.iaload, 1) := by decide +kernel
theorem d_Model_takeBinary_53 : decode b_Model_takeBinary 53 = .ok (.iadd, 1) := by decide +kernel
theorem d_Model_takeBinary_54 : decode b_Model_takeBinary 54 = .ok (.if_icmp .ge 7, 3) := by decide +kernel
theorem d_Model_takeBinary_57 : decode b_Model_takeBinary 57 = .ok (.iconst 1, 1) := by decide +kernel
theorem d_Model_takeBinary_58 : decode b_Model_takeBinary 58 = .ok (.goto 4, 3) := by decide +kernel
theorem d_Model_takeBinary_61 : decode b_Model_takeBinary 61 = .ok (.iconst 0, 1) := by decide +kernel
theorem d_Model_takeBinary_62 : decode b_Model_takeBinary 62 = .ok (.istore 4, 2) := by decide +kernel
theorem d_Model_takeBinary_64 : decode b_Model_takeBinary 64 = .ok (.aload_n 0, 1) := by decide +kernel
theorem d_Model_takeBinary_65 : decode b_Model_takeBinary 65 = .ok (.iload_n 1, 1) := by decide +kernel
theorem d_Model_takeBinary_66 : decode b_Model_takeBinary 66 = .ok (.iload_n 3, 1) := by decide +kernel
theorem d_Model_takeBinary_67 : decode b_Model_takeBinary 67 = .ok (.ifCond .eq 7, 3) := by decide +kernel
theorem d_Model_takeBinary_70 : decode b_Model_takeBinary 70 = .ok (.iconst 1, 1) := by decide +kernel
theorem d_Model_takeBinary_71 : decode b_Model_takeBinary 71 = .ok (.goto 13, 3) := by decide +kernel
theorem d_Model_takeBinary_74 : decode b_Model_takeBinary 74 = .ok (.iload 4, 2) := by decide +kernel
theorem d_Model_takeBinary_76 : decode b_Model_takeBinary 76 = .ok (.ifCond .eq 7, 3) := by decide +kernel
theorem d_Model_takeBinary_79 : decode b_Model_takeBinary 79 = .ok (.iconst 2, 1) := by decide +kernel
theorem d_Model_takeBinary_80 : decode b_Model_takeBinary 80 = .ok (.goto 4, 3) := by decide +kernel
theorem d_Model_takeBinary_83 : decode b_Model_takeBinary 83 = .ok (.iconst 3, 1) := by decide +kernel
theorem d_Model_takeBinary_84 : decode b_Model_takeBinary 84 = .ok (.iload_n 3, 1) := by decide +kernel
theorem d_Model_takeBinary_85 : decode b_Model_takeBinary 85 = .ok (.ifCond .eq 7, 3) := by decide +kernel
theorem d_Model_takeBinary_88 : decode b_Model_takeBinary 88 = .ok (.iload_n 2, 1) := by decide +kernel
theorem d_Model_takeBinary_89 : decode b_Model_takeBinary 89 = .ok (.goto 37, 3) := by decide +kernel
theorem d_Model_takeBinary_92 : decode b_Model_takeBinary 92 = .ok (.iload 4, 2) := by decide +kernel
theorem d_Model_takeBinary_94 : decode b_Model_takeBinary 94 = .ok (.ifCond .eq 15, 3) := by decide +kernel
theorem d_Model_takeBinary_97 : decode b_Model_takeBinary 97 = .ok (.iload_n 2, 1) := by decide +kernel
theorem d_Model_takeBinary_98 : decode b_Model_takeBinary 98 = .ok (.aload_n 0, 1) := by decide +kernel
theorem d_Model_takeBinary_99 : decode b_Model_takeBinary 99 = .ok (.getfield 20, 3) := by decide +kernel
theorem d_Model_takeBinary_102 : decode b_Model_takeBinary 102 = .ok (.bipush 11, 2) := by decide +kernel
theorem d_Model_takeBinary_104 : decode b_Model_takeBinary 104 = .ok (.iaload, 1) := by decide +kernel
theorem d_Model_takeBinary_105 : decode b_Model_takeBinary 105 = .ok (.isub, 1) := by decide +kernel
theorem d_Model_takeBinary_106 : decode b_Model_takeBinary 106 = .ok (.goto 20, 3) := by decide +kernel
theorem d_Model_takeBinary_109 : decode b_Model_takeBinary 109 = .ok (.iload_n 2, 1) := by decide +kernel
theorem d_Model_takeBinary_110 : decode b_Model_takeBinary 110 = .ok (.aload_n 0, 1) := by decide +kernel
theorem d_Model_takeBinary_111 : decode b_Model_takeBinary 111 = .ok (.getfield 20, 3) := by decide +kernel
theorem d_Model_takeBinary_114 : decode b_Model_takeBinary 114 = .ok (.bipush 11, 2) := by decide +kernel
theorem d_Model_takeBinary_116 : decode b_Model_takeBinary 116 = .ok (.iaload, 1) := by decide +kernel
theorem d_Model_takeBinary_117 : decode b_Model_takeBinary 117 = .ok (.isub, 1) := by decide +kernel
theorem d_Model_takeBinary_118 : decode b_Model_takeBinary 118 = .ok (.aload_n 0, 1) := by decide +kernel
theorem d_Model_takeBinary_119 : decode b_Model_takeBinary 119 = .ok (.getfield 20, 3) := by decide +kernel
theorem d_Model_takeBinary_122 : decode b_Model_takeBinary 122 = .ok (.bipush 12, 2) := by decide +kernel
theorem d_Model_takeBinary_124 : decode b_Model_takeBinary 124 = .ok (.iaload, 1) := by decide +kernel
theorem d_Model_takeBinary_125 : decode b_Model_takeBinary 125 = .ok (.isub, 1) := by decide +kernel
theorem d_Model_takeBinary_126 : decode b_Model_takeBinary 126 = .ok (.invokevirtual 163, 3) := by decide +kernel
theorem d_Model_takeBinary_129 : decode b_Model_takeBinary 129 = .ok (.iload_n 3, 1) := by decide +kernel
theorem d_Model_takeBinary_130 : decode b_Model_takeBinary 130 = .ok (.ifCond .eq 18, 3) := by decide +kernel
theorem d_Model_takeBinary_133 : decode b_Model_takeBinary 133 = .ok (.aload_n 0, 1) := by decide +kernel
theorem d_Model_takeBinary_134 : decode b_Model_takeBinary 134 = .ok (.getfield 24, 3) := by decide +kernel
theorem d_Model_takeBinary_137 : decode b_Model_takeBinary 137 = .ok (.bipush 10, 2) := by decide +kernel
theorem d_Model_takeBinary_139 : decode b_Model_takeBinary 139 = .ok (.iload_n 2, 1) := by decide +kernel
theorem d_Model_takeBinary_140 : decode b_Model_takeBinary 140 = .ok (.iadd, 1) := by decide +kernel
theorem d_Model_takeBinary_141 : decode b_Model_takeBinary 141 = .ok (.iconst 2, 1) := by decide +kernel
theorem d_Model_takeBinary_142 : decode b_Model_takeBinary 142 = .ok (.iload_n 1, 1) := by decide +kernel
theorem d_Model_takeBinary_143 : decode b_Model_takeBinary 143 = .ok (.imul, 1) := by decide +kernel
theorem d_Model_takeBinary_144 : decode b_Model_takeBinary 144 = .ok (.iastore, 1) := by decide +kernel
theorem d_Model_takeBinary_145 : decode b_Model_takeBinary 145 = .ok (.goto 28, 3) := by decide +kernel
theorem d_Model_takeBinary_148 : decode b_Model_takeBinary 148 = .ok (.iload 4, 2) := by decide +kernel
theorem d_Model_takeBinary_150 : decode b_Model_takeBinary 150 = .ok (.ifCond .eq 23, 3) := by decide +kernel
theorem d_Model_takeBinary_153 : decode b_Model_takeBinary 153 = .ok (.aload_n 0, 1) := by decide +kernel
theorem d_Model_takeBinary_154 : decode b_Model_takeBinary 154 = .ok (.getfield 27, 3) := by decide +kernel
theorem d_Model_takeBinary_157 : decode b_Model_takeBinary 157 = .ok (.bipush 14, 2) := by decide +kernel
theorem d_Model_takeBinary_159 : decode b_Model_takeBinary 159 = .ok (.iload_n 2, 1) := by decide +kernel
theorem d_Model_takeBinary_160 : decode b_Model_takeBinary 160 = .ok (.iadd, 1) := by decide +kernel
theorem d_Model_takeBinary_161 : decode b_Model_takeBinary 161 = .ok (.aload_n 0, 1) := by decide +kernel
theorem d_Model_takeBinary_162 : decode b_Model_takeBinary 162 = .ok (.getfield 20, 3) := by decide +kernel
theorem d_Model_takeBinary_165 : decode b_Model_takeBinary 165 = .ok (.bipush 11, 2) := by decide +kernel
theorem d_Model_takeBinary_167 : decode b_Model_takeBinary 167 = .ok (.iaload, 1) := by decide +kernel
theorem d_Model_takeBinary_168 : decode b_Model_takeBinary 168 = .ok (.isub, 1) := by decide +kernel
theorem d_Model_takeBinary_169 : decode b_Model_takeBinary 169 = .ok (.iconst 2, 1) := by decide +kernel
theorem d_Model_takeBinary_170 : decode b_Model_takeBinary 170 = .ok (.iload_n 1, 1) := by decide +kernel
theorem d_Model_takeBinary_171 : decode b_Model_takeBinary 171 = .ok (.imul, 1) := by decide +kernel
theorem d_Model_takeBinary_172 : decode b_Model_takeBinary 172 = .ok (.iastore, 1) := by decide +kernel
theorem d_Model_takeBinary_173 : decode b_Model_takeBinary 173 = .ok (.iinc 1 1, 3) := by decide +kernel
theorem d_Model_takeBinary_176 : decode b_Model_takeBinary 176 = .ok (.goto (-174), 3) := by decide +kernel
theorem d_Model_takeBinary_179 : decode b_Model_takeBinary 179 = .ok (.iconst 0, 1) := by decide +kernel
theorem d_Model_takeBinary_180 : decode b_Model_takeBinary 180 = .ok (.istore_n 1, 1) := by decide +kernel
theorem d_Model_takeBinary_181 : decode b_Model_takeBinary 181 = .ok (.iload_n 1, 1) := by decide +kernel
theorem d_Model_takeBinary_182 : decode b_Model_takeBinary 182 = .ok (.aload_n 0, 1) := by decide +kernel
theorem d_Model_takeBinary_183 : decode b_Model_takeBinary 183 = .ok (.getfield 20, 3) := by decide +kernel
theorem d_Model_takeBinary_186 : decode b_Model_takeBinary 186 = .ok (.bipush 12, 2) := by decide +kernel
theorem d_Model_takeBinary_188 : decode b_Model_takeBinary 188 = .ok (.iaload, 1) := by decide +kernel
theorem d_Model_takeBinary_189 : decode b_Model_takeBinary 189 = .ok (.if_icmp .ge 21, 3) := by decide +kernel
theorem d_Model_takeBinary_192 : decode b_Model_takeBinary 192 = .ok (.aload_n 0, 1) := by decide +kernel
theorem d_Model_takeBinary_193 : decode b_Model_takeBinary 193 = .ok (.getfield 136, 3) := by decide +kernel
theorem d_Model_takeBinary_196 : decode b_Model_takeBinary 196 = .ok (.ifCond .ne 14, 3) := by decide +kernel
theorem d_Model_takeBinary_199 : decode b_Model_takeBinary 199 = .ok (.aload_n 0, 1) := by decide +kernel
theorem d_Model_takeBinary_200 : decode b_Model_takeBinary 200 = .ok (.iload_n 1, 1) := by decide +kernel
theorem d_Model_takeBinary_201 : decode b_Model_takeBinary 201 = .ok (.invokevirtual 175, 3) := by decide +kernel
theorem d_Model_takeBinary_204 : decode b_Model_takeBinary 204 = .ok (.iinc 1 1, 3) := by decide +kernel
theorem d_Model_takeBinary_207 : decode b_Model_takeBinary 207 = .ok (.goto (-26), 3) := by decide +kernel
theorem d_Model_takeBinary_210 : decode b_Model_takeBinary 210 = .ok (.aload_n 0, 1) := by decide +kernel
theorem d_Model_takeBinary_211 : decode b_Model_takeBinary 211 = .ok (.invokevirtual 178, 3) := by decide +kernel
theorem d_Model_takeBinary_214 : decode b_Model_takeBinary 214 = .ok (.iconst 0, 1) := by decide +kernel
theorem d_Model_takeBinary_215 : decode b_Model_takeBinary 215 = .ok (.istore_n 1, 1) := by decide +kernel
theorem d_Model_takeBinary_216 : decode b_Model_takeBinary 216 = .ok (.iload_n 1, 1) := by decide +kernel
theorem d_Model_takeBinary_217 : decode b_Model_takeBinary 217 = .ok (.aload_n 0, 1) := by decide +kernel
theorem d_Model_takeBinary_218 : decode b_Model_takeBinary 218 = .ok (.getfield 20, 3) := by decide +kernel
theorem d_Model_takeBinary_221 : decode b_Model_takeBinary 221 = .ok (.bipush 14, 2) := by decide +kernel
theorem d_Model_takeBinary_223 : decode b_Model_takeBinary 223 = .ok (.iaload, 1) := by decide +kernel
theorem d_Model_takeBinary_224 : decode b_Model_takeBinary 224 = .ok (.if_icmp .ge 128, 3) := by decide +kernel
theorem d_Model_takeBinary_227 : decode b_Model_takeBinary 227 = .ok (.aload_n 0, 1) := by decide +kernel
theorem d_Model_takeBinary_228 : decode b_Model_takeBinary 228 = .ok (.getfield 136, 3) := by decide +kernel
theorem d_Model_takeBinary_231 : decode b_Model_takeBinary 231 = .ok (.ifCond .ne 121, 3) := by decide +kernel
theorem d_Model_takeBinary_234 : decode b_Model_takeBinary 234 = .ok (.aload_n 0, 1) := by decide +kernel
theorem d_Model_takeBinary_235 : decode b_Model_takeBinary 235 = .ok (.getfield 36, 3) := by decide +kernel
theorem d_Model_takeBinary_238 : decode b_Model_takeBinary 238 = .ok (.sipush 300, 3) := by decide +kernel
theorem d_Model_takeBinary_241 : decode b_Model_takeBinary 241 = .ok (.iload_n 1, 1) := by decide +kernel
theorem d_Model_takeBinary_242 : decode b_Model_takeBinary 242 = .ok (.iadd, 1) := by decide +kernel
theorem d_Model_takeBinary_243 : decode b_Model_takeBinary 243 = .ok (.iconst 2, 1) := by decide +kernel
theorem d_Model_takeBinary_244 : decode b_Model_takeBinary 244 = .ok (.aload_n 0, 1) := by decide +kernel
theorem d_Model_takeBinary_245 : decode b_Model_takeBinary 245 = .ok (.getfield 20, 3) := by decide +kernel
theorem d_Model_takeBinary_248 : decode b_Model_takeBinary 248 = .ok (.bipush 11, 2) := by decide +kernel
theorem d_Model_takeBinary_250 : decode b_Model_takeBinary 250 = .ok (.iaload, 1) := by decide +kernel
theorem d_Model_takeBinary_251 : decode b_Model_takeBinary 251 = .ok (.aload_n 0, 1) := by decide +kernel
theorem d_Model_takeBinary_252 : decode b_Model_takeBinary 252 = .ok (.getfield 20, 3) := by decide +kernel
theorem d_Model_takeBinary_255 : decode b_Model_takeBinary 255 = .ok (.bipush 12, 2) := by decide +kernel
theorem d_Model_takeBinary_257 : decode b_Model_takeBinary 257 = .ok (.iaload, 1) := by decide +kernel
theorem d_Model_takeBinary_258 : decode b_Model_takeBinary 258 = .ok (.iadd, 1) := by decide +kernel
theorem d_Model_takeBinary_259 : decode b_Model_takeBinary 259 = .ok (.iload_n 1, 1) := by decide +kernel
theorem d_Model_takeBinary_260 : decode b_Model_takeBinary 260 = .ok (.iadd, 1) := by decide +kernel
theorem d_Model_takeBinary_261 : decode b_Model_takeBinary 261 = .ok (.iconst 1, 1) := by decide +kernel
theorem d_Model_takeBinary_262 : decode b_Model_takeBinary 262 = .ok (.iadd, 1) := by decide +kernel
theorem d_Model_takeBinary_263 : decode b_Model_takeBinary 263 = .ok (.imul, 1) := by decide +kernel
theorem d_Model_takeBinary_264 : decode b_Model_takeBinary 264 = .ok (.iastore, 1) := by decide +kernel
theorem d_Model_takeBinary_265 : decode b_Model_takeBinary 265 = .ok (.aload_n 0, 1) := by decide +kernel
theorem d_Model_takeBinary_266 : decode b_Model_takeBinary 266 = .ok (.getfield 57, 3) := by decide +kernel
theorem d_Model_takeBinary_269 : decode b_Model_takeBinary 269 = .ok (.iload_n 1, 1) := by decide +kernel
theorem d_Model_takeBinary_270 : decode b_Model_takeBinary 270 = .ok (.aload_n 0, 1) := by decide +kernel
theorem d_Model_takeBinary_271 : decode b_Model_takeBinary 271 = .ok (.getfield 133, 3) := by decide +kernel
theorem d_Model_takeBinary_274 : decode b_Model_takeBinary 274 = .ok (.iastore, 1) := by decide +kernel
theorem d_Model_takeBinary_275 : decode b_Model_takeBinary 275 = .ok (.aload_n 0, 1) := by decide +kernel
theorem d_Model_takeBinary_276 : decode b_Model_takeBinary 276 = .ok (.getfield 39, 3) := by decide +kernel
theorem d_Model_takeBinary_279 : decode b_Model_takeBinary 279 = .ok (.sipush 300, 3) := by decide +kernel
theorem d_Model_takeBinary_282 : decode b_Model_takeBinary 282 = .ok (.iload_n 1, 1) := by decide +kernel
theorem d_Model_takeBinary_283 : decode b_Model_takeBinary 283 = .ok (.iadd, 1) := by decide +kernel
theorem d_Model_takeBinary_284 : decode b_Model_takeBinary 284 = .ok (.aload_n 0, 1) := by decide +kernel
theorem d_Model_takeBinary_285 : decode b_Model_takeBinary 285 = .ok (.aload_n 0, 1) := by decide +kernel
theorem d_Model_takeBinary_286 : decode b_Model_takeBinary 286 = .ok (.getfield 36, 3) := by decide +kernel
theorem d_Model_takeBinary_289 : decode b_Model_takeBinary 289 = .ok (.sipush 300, 3) := by decide +kernel
theorem d_Model_takeBinary_292 : decode b_Model_takeBinary 292 = .ok (.iload_n 1, 1) := by decide +kernel
theorem d_Model_takeBinary_293 : decode b_Model_takeBinary 293 = .ok (.iadd, 1) := by decide +kernel
theorem d_Model_takeBinary_294 : decode b_Model_takeBinary 294 = .ok (.iaload, 1) := by decide +kernel
theorem d_Model_takeBinary_295 : decode b_Model_takeBinary 295 = .ok (.iconst 1, 1) := by decide +kernel
theorem d_Model_takeBinary_296 : decode b_Model_takeBinary 296 = .ok (.invokevirtual 181, 3) := by decide +kernel
theorem d_Model_takeBinary_299 : decode b_Model_takeBinary 299 = .ok (.iastore, 1) := by decide +kernel
theorem d_Model_takeBinary_300 : decode b_Model_takeBinary 300 = .ok (.aload_n 0, 1) := by decide +kernel
theorem d_Model_takeBinary_301 : decode b_Model_takeBinary 301 = .ok (.getfield 60, 3) := by decide +kernel
theorem d_Model_takeBinary_304 : decode b_Model_takeBinary 304 = .ok (.iload_n 1, 1) := by decide +kernel
theorem d_Model_takeBinary_305 : decode b_Model_takeBinary 305 = .ok (.aload_n 0, 1) := by decide +kernel
theorem d_Model_takeBinary_306 : decode b_Model_takeBinary 306 = .ok (.getfield 133, 3) := by decide +kernel
theorem d_Model_takeBinary_309 : decode b_Model_takeBinary 309 = .ok (.iastore, 1) := by decide +kernel
theorem d_Model_takeBinary_310 : decode b_Model_takeBinary 310 = .ok (.aload_n 0, 1) := by decide +kernel
theorem d_Model_takeBinary_311 : decode b_Model_takeBinary 311 = .ok (.getfield 42, 3) := by decide +kernel
theorem d_Model_takeBinary_314 : decode b_Model_takeBinary 314 = .ok (.sipush 300, 3) := by decide +kernel
theorem d_Model_takeBinary_317 : decode b_Model_takeBinary 317 = .ok (.iload_n 1, 1) := by decide +kernel
theorem d_Model_takeBinary_318 : decode b_Model_takeBinary 318 = .ok (.iadd, 1) := by decide +kernel
theorem d_Model_takeBinary_319 : decode b_Model_takeBinary 319 = .ok (.aload_n 0, 1) := by decide +kernel
theorem d_Model_takeBinary_320 : decode b_Model_takeBinary 320 = .ok (.getfield 136, 3) := by decide +kernel
theorem d_Model_takeBinary_323 : decode b_Model_takeBinary 323 = .ok (.ifCond .ne 21, 3) := by decide +kernel
theorem d_Model_takeBinary_326 : decode b_Model_takeBinary 326 = .ok (.aload_n 0, 1) := by decide +kernel
theorem d_Model_takeBinary_327 : decode b_Model_takeBinary 327 = .ok (.aload_n 0, 1) := by decide +kernel
theorem d_Model_takeBinary_328 : decode b_Model_takeBinary 328 = .ok (.getfield 39, 3) := by decide +kernel
theorem d_Model_takeBinary_331 : decode b_Model_takeBinary 331 = .ok (.sipush 300, 3) := by decide +kernel
theorem d_Model_takeBinary_334 : decode b_Model_takeBinary 334 = .ok (.iload_n 1, 1) := by decide +kernel
theorem d_Model_takeBinary_335 : decode b_Model_takeBinary 335 = .ok (.iadd, 1) := by decide +kernel
theorem d_Model_takeBinary_336 : decode b_Model_takeBinary 336 = .ok (.iaload, 1) := by decide +kernel
theorem d_Model_takeBinary_337 : decode b_Model_takeBinary 337 = .ok (.iconst 0, 1) := by decide +kernel
theorem d_Model_takeBinary_338 : decode b_Model_takeBinary 338 = .ok (.invokevirtual 181, 3) := by decide +kernel
theorem d_Model_takeBinary_341 : decode b_Model_takeBinary 341 = .ok (.goto 4, 3) := by decide +kernel
theorem d_Model_takeBinary_344 : decode b_Model_takeBinary 344 = .ok (.iconst 0, 1) := by decide +kernel
theorem d_Model_takeBinary_345 : decode b_Model_takeBinary 345 = .ok (.iastore, 1) := by decide +kernel
theorem d_Model_takeBinary_346 : decode b_Model_takeBinary 346 = .ok (.iinc 1 1, 3) := by decide +kernel
theorem d_Model_takeBinary_349 : decode b_Model_takeBinary 349 = .ok (.goto (-133), 3) := by decide +kernel
theorem d_Model_takeBinary_352 : decode b_Model_takeBinary 352 = .ok (.return_, 1) := by decide +kernel
