theorem d_Overlay_build_0 : decode b_Overlay_build 0 = .ok (.aload_n 0, 1) := by decide +kernel
theorem d_Overlay_build_1 : decode b_Overlay_build 1 = .ok (.iconst 0, 1) := by decide +kernel
theorem d_Overlay_build_2 : decode b_Overlay_build 2 = .ok (.putfield 21, 3) := by decide +kernel
theorem d_Overlay_build_5 : decode b_Overlay_build 5 = .ok (.iconst 0, 1) := by decide +kernel
theorem d_Overlay_build_6 : decode b_Overlay_build 6 = .ok (.istore_n 2, 1) := by decide +kernel
theorem d_Overlay_build_7 : decode b_Overlay_build 7 = .ok (.iload_n 2, 1) := by decide +kernel
theorem d_Overlay_build_8 : decode b_Overlay_build 8 = .ok (.iconst 2, 1) := by decide +kernel
theorem d_Overlay_build_9 : decode b_Overlay_build 9 = .ok (.if_icmp .ge 23, 3) := by decide +kernel
theorem d_Overlay_build_12 : decode b_Overlay_build 12 = .ok (.aload_n 0, 1) := by decide +kernel
theorem d_Overlay_build_13 : decode b_Overlay_build 13 = .ok (.aload_n 1, 1) := by decide +kernel
theorem d_Overlay_build_14 : decode b_Overlay_build 14 = .ok (.iload_n 2, 1) := by decide +kernel
theorem d_Overlay_build_15 : decode b_Overlay_build 15 = .ok (.aaload, 1) := by decide +kernel
theorem d_Overlay_build_16 : decode b_Overlay_build 16 = .ok (.bipush 6, 2) := by decide +kernel
theorem d_Overlay_build_18 : decode b_Overlay_build 18 = .ok (.iload_n 2, 1) := by decide +kernel
theorem d_Overlay_build_19 : decode b_Overlay_build 19 = .ok (.bipush 6, 2) := by decide +kernel
theorem d_Overlay_build_21 : decode b_Overlay_build 21 = .ok (.imul, 1) := by decide +kernel
theorem d_Overlay_build_22 : decode b_Overlay_build 22 = .ok (.iadd, 1) := by decide +kernel
theorem d_Overlay_build_23 : decode b_Overlay_build 23 = .ok (.invokevirtual 25, 3) := by decide +kernel
theorem d_Overlay_build_26 : decode b_Overlay_build 26 = .ok (.iinc 2 1, 3) := by decide +kernel
theorem d_Overlay_build_29 : decode b_Overlay_build 29 = .ok (.goto (-22), 3) := by decide +kernel
theorem d_Overlay_build_32 : decode b_Overlay_build 32 = .ok (.return_, 1) := by decide +kernel
theorem d_Works_countGates_0 : decode b_Works_countGates 0 = .ok (.aload_n 0, 1) := by decide +kernel
theorem d_Works_countGates_1 : decode b_Works_countGates 1 = .ok (.getfield 68, 3) := by decide +kernel
theorem d_Works_countGates_4 : decode b_Works_countGates 4 = .ok (.ifCond .ne 19, 3) := by decide +kernel
theorem d_Works_countGates_7 : decode b_Works_countGates 7 = .ok (.aload_n 0, 1) := by decide +kernel
theorem d_Works_countGates_8 : decode b_Works_countGates 8 = .ok (.getfield 44, 3) := by decide +kernel
theorem d_Works_countGates_11 : decode b_Works_countGates 11 = .ok (.aload_n 0, 1) := by decide +kernel
theorem d_Works_countGates_12 : decode b_Works_countGates 12 = .ok (.getfield 48, 3) := by decide +kernel
theorem d_Works_countGates_15 : decode b_Works_countGates 15 = .ok (.invokevirtual 135, 3) := by decide +kernel
theorem d_Works_countGates_18 : decode b_Works_countGates 18 = .ok (.aload_n 0, 1) := by decide +kernel
theorem d_Works_countGates_19 : decode b_Works_countGates 19 = .ok (.iconst 1, 1) := by decide +kernel
theorem d_Works_countGates_20 : decode b_Works_countGates 20 = .ok (.putfield 68, 3) := by decide +kernel
theorem d_Works_countGates_23 : decode b_Works_countGates 23 = .ok (.aload_n 0, 1) := by decide +kernel
theorem d_Works_countGates_24 : decode b_Works_countGates 24 = .ok (.getfield 44, 3) := by decide +kernel
theorem d_Works_countGates_27 : decode b_Works_countGates 27 = .ok (.getfield 138, 3) := by decide +kernel
theorem d_Works_countGates_30 : decode b_Works_countGates 30 = .ok (.ireturn, 1) := by decide +kernel
theorem d_Judge_gates_0 : decode b_Judge_gates 0 = .ok (.aload_n 0, 1) := by decide +kernel
theorem d_Judge_gates_1 : decode b_Judge_gates 1 = .ok (.invokevirtual 120, 3) := by decide +kernel
theorem d_Judge_gates_4 : decode b_Judge_gates 4 = .ok (.aload_n 0, 1) := by decide +kernel
theorem d_Judge_gates_5 : decode b_Judge_gates 5 = .ok (.invokevirtual 123, 3) := by decide +kernel
theorem d_Judge_gates_8 : decode b_Judge_gates 8 = .ok (.invokevirtual 127, 3) := by decide +kernel
theorem d_Judge_gates_11 : decode b_Judge_gates 11 = .ok (.ireturn, 1) := by decide +kernel
theorem d_Table_fillLine_0 : decode b_Table_fillLine 0 = .ok (.aload_n 1, 1) := by decide +kernel
theorem d_Table_fillLine_1 : decode b_Table_fillLine 1 = .ok (.iload_n 3, 1) := by decide +kernel
theorem d_Table_fillLine_2 : decode b_Table_fillLine 2 = .ok (.getstatic 50, 3) := by decide +kernel
theorem d_Table_fillLine_5 : decode b_Table_fillLine 5 = .ok (.aload_n 0, 1) := by decide +kernel
theorem d_Table_fillLine_6 : decode b_Table_fillLine 6 = .ok (.getfield 9, 3) := by decide +kernel
theorem d_Table_fillLine_9 : decode b_Table_fillLine 9 = .ok (.iload_n 2, 1) := by decide +kernel
theorem d_Table_fillLine_10 : decode b_Table_fillLine 10 = .ok (.sipush 201, 3) := by decide +kernel
theorem d_Table_fillLine_13 : decode b_Table_fillLine 13 = .ok (.imul, 1) := by decide +kernel
theorem d_Table_fillLine_14 : decode b_Table_fillLine 14 = .ok (.invokevirtual 53, 3) := by decide +kernel
theorem d_Table_fillLine_17 : decode b_Table_fillLine 17 = .ok (.iconst 0, 1) := by decide +kernel
theorem d_Table_fillLine_18 : decode b_Table_fillLine 18 = .ok (.istore 4, 2) := by decide +kernel
theorem d_Table_fillLine_20 : decode b_Table_fillLine 20 = .ok (.iload 4, 2) := by decide +kernel
theorem d_Table_fillLine_22 : decode b_Table_fillLine 22 = .ok (.aload_n 0, 1) := by decide +kernel
theorem d_Table_fillLine_23 : decode b_Table_fillLine 23 = .ok (.getfield 36, 3) := by decide +kernel
theorem d_Table_fillLine_26 : decode b_Table_fillLine 26 = .ok (.if_icmp .ge 40, 3) := by decide +kernel
theorem d_Table_fillLine_29 : decode b_Table_fillLine 29 = .ok (.aload_n 0, 1) := by decide +kernel
theorem d_Table_fillLine_30 : decode b_Table_fillLine 30 = .ok (.getfield 15, 3) := by decide +kernel
theorem d_Table_fillLine_33 : decode b_Table_fillLine 33 = .ok (.iload_n 2, 1) := by decide +kernel
theorem d_Table_fillLine_34 : decode b_Table_fillLine 34 = .ok (.bipush 8, 2) := by decide +kernel
theorem d_Table_fillLine_36 : decode b_Table_fillLine 36 = .ok (.imul, 1) := by decide +kernel
theorem d_Table_fillLine_37 : decode b_Table_fillLine 37 = .ok (.iload 4, 2) := by decide +kernel
theorem d_Table_fillLine_39 : decode b_Table_fillLine 39 = .ok (.iadd, 1) := by decide +kernel
theorem d_Table_fillLine_40 : decode b_Table_fillLine 40 = .ok (.aload_n 0, 1) := by decide +kernel
theorem d_Table_fillLine_41 : decode b_Table_fillLine 41 = .ok (.getfield 9, 3) := by decide +kernel
theorem d_Table_fillLine_44 : decode b_Table_fillLine 44 = .ok (.iload_n 2, 1) := by decide +kernel
theorem d_Table_fillLine_45 : decode b_Table_fillLine 45 = .ok (.sipush 201, 3) := by decide +kernel
theorem d_Table_fillLine_48 : decode b_Table_fillLine 48 = .ok (.imul, 1) := by decide +kernel
theorem d_Table_fillLine_49 : decode b_Table_fillLine 49 = .ok (.aload_n 1, 1) := by decide +kernel
theorem d_Table_fillLine_50 : decode b_Table_fillLine 50 = .ok (.getfield 57, 3) := by decide +kernel
theorem d_Table_fillLine_53 : decode b_Table_fillLine 53 = .ok (.iload 4, 2) := by decide +kernel
theorem d_Table_fillLine_55 : decode b_Table_fillLine 55 = .ok (.iaload, 1) := by decide +kernel
theorem d_Table_fillLine_56 : decode b_Table_fillLine 56 = .ok (.invokestatic 60, 3) := by decide +kernel
theorem d_Table_fillLine_59 : decode b_Table_fillLine 59 = .ok (.iastore, 1) := by decide +kernel
theorem d_Table_fillLine_60 : decode b_Table_fillLine 60 = .ok (.iinc 4 1, 3) := by decide +kernel
theorem d_Table_fillLine_63 : decode b_Table_fillLine 63 = .ok (.goto (-43), 3) := by decide +kernel
theorem d_Table_fillLine_66 : decode b_Table_fillLine 66 = .ok (.iconst 0, 1) := by decide +kernel
theorem d_Table_fillLine_67 : decode b_Table_fillLine 67 = .ok (.istore 4, 2) := by decide +kernel
theorem d_Table_fillLine_69 : decode b_Table_fillLine 69 = .ok (.iload 4, 2) := by decide +kernel
theorem d_Table_fillLine_71 : decode b_Table_fillLine 71 = .ok (.aload_n 1, 1) := by decide +kernel
theorem d_Table_fillLine_72 : decode b_Table_fillLine 72 = .ok (.getfield 43, 3) := by decide +kernel
theorem d_Table_fillLine_75 : decode b_Table_fillLine 75 = .ok (.if_icmp .ge 73, 3) := by decide +kernel
theorem d_Table_fillLine_78 : decode b_Table_fillLine 78 = .ok (.aload_n 0, 1) := by decide +kernel
theorem d_Table_fillLine_79 : decode b_Table_fillLine 79 = .ok (.getfield 9, 3) := by decide +kernel
theorem d_Table_fillLine_82 : decode b_Table_fillLine 82 = .ok (.iload_n 2, 1) := by decide +kernel
theorem d_Table_fillLine_83 : decode b_Table_fillLine 83 = .ok (.sipush 201, 3) := by decide +kernel
theorem d_Table_fillLine_86 : decode b_Table_fillLine 86 = .ok (.imul, 1) := by decide +kernel
theorem d_Table_fillLine_87 : decode b_Table_fillLine 87 = .ok (.aload_n 1, 1) := by decide +kernel
theorem d_Table_fillLine_88 : decode b_Table_fillLine 88 = .ok (.getfield 64, 3) := by decide +kernel
theorem d_Table_fillLine_91 : decode b_Table_fillLine 91 = .ok (.iload 4, 2) := by decide +kernel
theorem d_Table_fillLine_93 : decode b_Table_fillLine 93 = .ok (.iaload, 1) := by decide +kernel
theorem d_Table_fillLine_94 : decode b_Table_fillLine 94 = .ok (.invokestatic 60, 3) := by decide +kernel
theorem d_Table_fillLine_97 : decode b_Table_fillLine 97 = .ok (.istore 5, 2) := by decide +kernel
theorem d_Table_fillLine_99 : decode b_Table_fillLine 99 = .ok (.iconst 0, 1) := by decide +kernel
theorem d_Table_fillLine_100 : decode b_Table_fillLine 100 = .ok (.istore 6, 2) := by decide +kernel
theorem d_Table_fillLine_102 : decode b_Table_fillLine 102 = .ok (.iload 6, 2) := by decide +kernel
theorem d_Table_fillLine_104 : decode b_Table_fillLine 104 = .ok (.aload_n 0, 1) := by decide +kernel
theorem d_Table_fillLine_105 : decode b_Table_fillLine 105 = .ok (.getfield 30, 3) := by decide +kernel
theorem d_Table_fillLine_108 : decode b_Table_fillLine 108 = .ok (.if_icmp .ge 34, 3) := by decide +kernel
theorem d_Table_fillLine_111 : decode b_Table_fillLine 111 = .ok (.aload_n 0, 1) := by decide +kernel
theorem d_Table_fillLine_112 : decode b_Table_fillLine 112 = .ok (.getfield 18, 3) := by decide +kernel
theorem d_Table_fillLine_115 : decode b_Table_fillLine 115 = .ok (.iload_n 2, 1) := by decide +kernel
theorem d_Table_fillLine_116 : decode b_Table_fillLine 116 = .ok (.bipush 32, 2) := by decide +kernel
theorem d_Table_fillLine_118 : decode b_Table_fillLine 118 = .ok (.imul, 1) := by decide +kernel
theorem d_Table_fillLine_119 : decode b_Table_fillLine 119 = .ok (.iload 6, 2) := by decide +kernel
theorem d_Table_fillLine_121 : decode b_Table_fillLine 121 = .ok (.iadd, 1) := by decide +kernel
theorem d_Table_fillLine_122 : decode b_Table_fillLine 122 = .ok (.dup2, 1) := by decide +kernel
theorem d_Table_fillLine_123 : decode b_Table_fillLine 123 = .ok (.iaload, 1) := by decide +kernel
theorem d_Table_fillLine_124 : decode b_Table_fillLine 124 = .ok (.iload 5, 2) := by decide +kernel
theorem d_Table_fillLine_126 : decode b_Table_fillLine 126 = .ok (.iload 6, 2) := by decide +kernel
theorem d_Table_fillLine_128 : decode b_Table_fillLine 128 = .ok (.ishr, 1) := by decide +kernel
theorem d_Table_fillLine_129 : decode b_Table_fillLine 129 = .ok (.iconst 1, 1) := by decide +kernel
theorem d_Table_fillLine_130 : decode b_Table_fillLine 130 = .ok (.iand, 1) := by decide +kernel
theorem d_Table_fillLine_131 : decode b_Table_fillLine 131 = .ok (.iload 4, 2) := by decide +kernel
theorem d_Table_fillLine_133 : decode b_Table_fillLine 133 = .ok (.ishl, 1) := by decide +kernel
theorem d_Table_fillLine_134 : decode b_Table_fillLine 134 = .ok (.ior, 1) := by decide +kernel
theorem d_Table_fillLine_135 : decode b_Table_fillLine 135 = .ok (.iastore, 1) := by decide +kernel
theorem d_Table_fillLine_136 : decode b_Table_fillLine 136 = .ok (.iinc 6 1, 3) := by decide +kernel
theorem d_Table_fillLine_139 : decode b_Table_fillLine 139 = .ok (.goto (-37), 3) := by decide +kernel
theorem d_Table_fillLine_142 : decode b_Table_fillLine 142 = .ok (.iinc 4 1, 3) := by decide +kernel
theorem d_Table_fillLine_145 : decode b_Table_fillLine 145 = .ok (.goto (-76), 3) := by decide +kernel
theorem d_Table_fillLine_148 : decode b_Table_fillLine 148 = .ok (.return_, 1) := by decide +kernel
theorem d_Table_fill_0 : decode b_Table_fill 0 = .ok (.aload_n 0, 1) := by decide +kernel
theorem d_Table_fill_1 : decode b_Table_fill 1 = .ok (.iconst 1, 1) := by decide +kernel
theorem d_Table_fill_2 : decode b_Table_fill 2 = .ok (.aload_n 1, 1) := by decide +kernel
theorem d_Table_fill_3 : decode b_Table_fill 3 = .ok (.iconst 0, 1) := by decide +kernel
theorem d_Table_fill_4 : decode b_Table_fill 4 = .ok (.aaload, 1) := by decide +kernel
theorem d_Table_fill_5 : decode b_Table_fill 5 = .ok (.getfield 24, 3) := by decide +kernel
theorem d_Table_fill_8 : decode b_Table_fill 8 = .ok (.ishl, 1) := by decide +kernel
theorem d_Table_fill_9 : decode b_Table_fill 9 = .ok (.putfield 30, 3) := by decide +kernel
theorem d_Table_fill_12 : decode b_Table_fill 12 = .ok (.aload_n 0, 1) := by decide +kernel
theorem d_Table_fill_13 : decode b_Table_fill 13 = .ok (.aload_n 1, 1) := by decide +kernel
theorem d_Table_fill_14 : decode b_Table_fill 14 = .ok (.iconst 0, 1) := by decide +kernel
theorem d_Table_fill_15 : decode b_Table_fill 15 = .ok (.aaload, 1) := by decide +kernel
theorem d_Table_fill_16 : decode b_Table_fill 16 = .ok (.getfield 33, 3) := by decide +kernel
theorem d_Table_fill_19 : decode b_Table_fill 19 = .ok (.putfield 36, 3) := by decide +kernel
theorem d_Table_fill_22 : decode b_Table_fill 22 = .ok (.aload_n 0, 1) := by decide +kernel
theorem d_Table_fill_23 : decode b_Table_fill 23 = .ok (.getfield 18, 3) := by decide +kernel
theorem d_Table_fill_26 : decode b_Table_fill 26 = .ok (.iconst 0, 1) := by decide +kernel
theorem d_Table_fill_27 : decode b_Table_fill 27 = .ok (.invokestatic 37, 3) := by decide +kernel
theorem d_Table_fill_30 : decode b_Table_fill 30 = .ok (.iconst 0, 1) := by decide +kernel
theorem d_Table_fill_31 : decode b_Table_fill 31 = .ok (.istore_n 2, 1) := by decide +kernel
theorem d_Table_fill_32 : decode b_Table_fill 32 = .ok (.iload_n 2, 1) := by decide +kernel
theorem d_Table_fill_33 : decode b_Table_fill 33 = .ok (.iconst 2, 1) := by decide +kernel
theorem d_Table_fill_34 : decode b_Table_fill 34 = .ok (.if_icmp .ge 55, 3) := by decide +kernel
theorem d_Table_fill_37 : decode b_Table_fill 37 = .ok (.aload_n 0, 1) := by decide +kernel
theorem d_Table_fill_38 : decode b_Table_fill 38 = .ok (.getfield 21, 3) := by decide +kernel
theorem d_Table_fill_41 : decode b_Table_fill 41 = .ok (.iload_n 2, 1) := by decide +kernel
theorem d_Table_fill_42 : decode b_Table_fill 42 = .ok (.iconst 1, 1) := by decide +kernel
theorem d_Table_fill_43 : decode b_Table_fill 43 = .ok (.aload_n 1, 1) := by decide +kernel
theorem d_Table_fill_44 : decode b_Table_fill 44 = .ok (.iload_n 2, 1) := by decide +kernel
theorem d_Table_fill_45 : decode b_Table_fill 45 = .ok (.aaload, 1) := by decide +kernel
theorem d_Table_fill_46 : decode b_Table_fill 46 = .ok (.getfield 43, 3) := by decide +kernel
theorem d_Table_fill_49 : decode b_Table_fill 49 = .ok (.ishl, 1) := by decide +kernel
theorem d_Table_fill_50 : decode b_Table_fill 50 = .ok (.iastore, 1) := by decide +kernel
theorem d_Table_fill_51 : decode b_Table_fill 51 = .ok (.iconst 0, 1) := by decide +kernel
theorem d_Table_fill_52 : decode b_Table_fill 52 = .ok (.istore_n 3, 1) := by decide +kernel
theorem d_Table_fill_53 : decode b_Table_fill 53 = .ok (.iload_n 3, 1) := by decide +kernel
theorem d_Table_fill_54 : decode b_Table_fill 54 = .ok (.aload_n 0, 1) := by decide +kernel
theorem d_Table_fill_55 : decode b_Table_fill 55 = .ok (.getfield 21, 3) := by decide +kernel
theorem d_Table_fill_58 : decode b_Table_fill 58 = .ok (.iload_n 2, 1) := by decide +kernel
theorem d_Table_fill_59 : decode b_Table_fill 59 = .ok (.iaload, 1) := by decide +kernel
theorem d_Table_fill_60 : decode b_Table_fill 60 = .ok (.if_icmp .ge 23, 3) := by decide +kernel
theorem d_Table_fill_63 : decode b_Table_fill 63 = .ok (.aload_n 0, 1) := by decide +kernel
theorem d_Table_fill_64 : decode b_Table_fill 64 = .ok (.aload_n 1, 1) := by decide +kernel
theorem d_Table_fill_65 : decode b_Table_fill 65 = .ok (.iload_n 2, 1) := by decide +kernel
theorem d_Table_fill_66 : decode b_Table_fill 66 = .ok (.aaload, 1) := by decide +kernel
theorem d_Table_fill_67 : decode b_Table_fill 67 = .ok (.iload_n 2, 1) := by decide +kernel
theorem d_Table_fill_68 : decode b_Table_fill 68 = .ok (.bipush 64, 2) := by decide +kernel
theorem d_Table_fill_70 : decode b_Table_fill 70 = .ok (.imul, 1) := by decide +kernel
theorem d_Table_fill_71 : decode b_Table_fill 71 = .ok (.iload_n 3, 1) := by decide +kernel
theorem d_Table_fill_72 : decode b_Table_fill 72 = .ok (.iadd, 1) := by decide +kernel
theorem d_Table_fill_73 : decode b_Table_fill 73 = .ok (.iload_n 3, 1) := by decide +kernel
theorem d_Table_fill_74 : decode b_Table_fill 74 = .ok (.invokevirtual 46, 3) := by decide +kernel
theorem d_Table_fill_77 : decode b_Table_fill 77 = .ok (.iinc 3 1, 3) := by decide +kernel
theorem d_Table_fill_80 : decode b_Table_fill 80 = .ok (.goto (-27), 3) := by decide +kernel
theorem d_Table_fill_83 : decode b_Table_fill 83 = .ok (.iinc 2 1, 3) := by decide +kernel
theorem d_Table_fill_86 : decode b_Table_fill 86 = .ok (.goto (-54), 3) := by decide +kernel
theorem d_Table_fill_89 : decode b_Table_fill 89 = .ok (.return_, 1) := by decide +kernel
theorem d_Table_unlike_0 : decode b_Table_unlike 0 = .ok (.iload_n 1, 1) := by decide +kernel
theorem d_Table_unlike_1 : decode b_Table_unlike 1 = .ok (.bipush 64, 2) := by decide +kernel
theorem d_Table_unlike_3 : decode b_Table_unlike 3 = .ok (.idiv, 1) := by decide +kernel
theorem d_Table_unlike_4 : decode b_Table_unlike 4 = .ok (.istore_n 3, 1) := by decide +kernel
theorem d_Table_unlike_5 : decode b_Table_unlike 5 = .ok (.bipush 64, 2) := by decide +kernel
theorem d_Table_unlike_7 : decode b_Table_unlike 7 = .ok (.iload_n 1, 1) := by decide +kernel
theorem d_Table_unlike_8 : decode b_Table_unlike 8 = .ok (.bipush 64, 2) := by decide +kernel
theorem d_Table_unlike_10 : decode b_Table_unlike 10 = .ok (.irem, 1) := by decide +kernel
theorem d_Table_unlike_11 : decode b_Table_unlike 11 = .ok (.iadd, 1) := by decide +kernel
theorem d_Table_unlike_12 : decode b_Table_unlike 12 = .ok (.istore 4, 2) := by decide +kernel
theorem d_Table_unlike_14 : decode b_Table_unlike 14 = .ok (.aload_n 0, 1) := by decide +kernel
theorem d_Table_unlike_15 : decode b_Table_unlike 15 = .ok (.getfield 15, 3) := by decide +kernel
theorem d_Table_unlike_18 : decode b_Table_unlike 18 = .ok (.iload_n 3, 1) := by decide +kernel
theorem d_Table_unlike_19 : decode b_Table_unlike 19 = .ok (.bipush 8, 2) := by decide +kernel
theorem d_Table_unlike_21 : decode b_Table_unlike 21 = .ok (.imul, 1) := by decide +kernel
theorem d_Table_unlike_22 : decode b_Table_unlike 22 = .ok (.iload_n 2, 1) := by decide +kernel
theorem d_Table_unlike_23 : decode b_Table_unlike 23 = .ok (.iadd, 1) := by decide +kernel
theorem d_Table_unlike_24 : decode b_Table_unlike 24 = .ok (.iaload, 1) := by decide +kernel
theorem d_Table_unlike_25 : decode b_Table_unlike 25 = .ok (.aload_n 0, 1) := by decide +kernel
theorem d_Table_unlike_26 : decode b_Table_unlike 26 = .ok (.getfield 15, 3) := by decide +kernel
theorem d_Table_unlike_29 : decode b_Table_unlike 29 = .ok (.iload 4, 2) := by decide +kernel
theorem d_Table_unlike_31 : decode b_Table_unlike 31 = .ok (.bipush 8, 2) := by decide +kernel
theorem d_Table_unlike_33 : decode b_Table_unlike 33 = .ok (.imul, 1) := by decide +kernel
theorem d_Table_unlike_34 : decode b_Table_unlike 34 = .ok (.iload_n 2, 1) := by decide +kernel
theorem d_Table_unlike_35 : decode b_Table_unlike 35 = .ok (.iadd, 1) := by decide +kernel
theorem d_Table_unlike_36 : decode b_Table_unlike 36 = .ok (.iaload, 1) := by decide +kernel
theorem d_Table_unlike_37 : decode b_Table_unlike 37 = .ok (.ixor, 1) := by decide +kernel
theorem d_Table_unlike_38 : decode b_Table_unlike 38 = .ok (.ireturn, 1) := by decide +kernel
theorem d_Table_telling_0 : decode b_Table_telling 0 = .ok (.iconst 0, 1) := by decide +kernel
theorem d_Table_telling_1 : decode b_Table_telling 1 = .ok (.istore_n 2, 1) := by decide +kernel
theorem d_Table_telling_2 : decode b_Table_telling 2 = .ok (.iconst 0, 1) := by decide +kernel
theorem d_Table_telling_3 : decode b_Table_telling 3 = .ok (.istore_n 3, 1) := by decide +kernel
theorem d_Table_telling_4 : decode b_Table_telling 4 = .ok (.iload_n 3, 1) := by decide +kernel
theorem d_Table_telling_5 : decode b_Table_telling 5 = .ok (.aload_n 0, 1) := by decide +kernel
theorem d_Table_telling_6 : decode b_Table_telling 6 = .ok (.getfield 36, 3) := by decide +kernel
theorem d_Table_telling_9 : decode b_Table_telling 9 = .ok (.if_icmp .ge 18, 3) := by decide +kernel
theorem d_Table_telling_12 : decode b_Table_telling 12 = .ok (.iload_n 2, 1) := by decide +kernel
theorem d_Table_telling_13 : decode b_Table_telling 13 = .ok (.aload_n 0, 1) := by decide +kernel
theorem d_Table_telling_14 : decode b_Table_telling 14 = .ok (.iload_n 1, 1) := by decide +kernel
theorem d_Table_telling_15 : decode b_Table_telling 15 = .ok (.iload_n 3, 1) := by decide +kernel
theorem d_Table_telling_16 : decode b_Table_telling 16 = .ok (.invokevirtual 65, 3) := by decide +kernel
theorem d_Table_telling_19 : decode b_Table_telling 19 = .ok (.ior, 1) := by decide +kernel
theorem d_Table_telling_20 : decode b_Table_telling 20 = .ok (.istore_n 2, 1) := by decide +kernel
theorem d_Table_telling_21 : decode b_Table_telling 21 = .ok (.iinc 3 1, 3) := by decide +kernel
theorem d_Table_telling_24 : decode b_Table_telling 24 = .ok (.goto (-20), 3) := by decide +kernel
theorem d_Table_telling_27 : decode b_Table_telling 27 = .ok (.iload_n 2, 1) := by decide +kernel
theorem d_Table_telling_28 : decode b_Table_telling 28 = .ok (.ireturn, 1) := by decide +kernel
theorem d_Integer_numberOfTrailingZeros_0 : decode b_Integer_numberOfTrailingZeros 0 = .ok (.iload_n 0, 1) := by decide +kernel
theorem d_Integer_numberOfTrailingZeros_1 : decode b_Integer_numberOfTrailingZeros 1 = .ok (.iconst (-1), 1) := by decide +kernel
theorem d_Integer_numberOfTrailingZeros_2 : decode b_Integer_numberOfTrailingZeros 2 = .ok (.ixor, 1) := by decide +kernel
theorem d_Integer_numberOfTrailingZeros_3 : decode b_Integer_numberOfTrailingZeros 3 = .ok (.iload_n 0, 1) := by decide +kernel
theorem d_Integer_numberOfTrailingZeros_4 : decode b_Integer_numberOfTrailingZeros 4 = .ok (.iconst 1, 1) := by decide +kernel
theorem d_Integer_numberOfTrailingZeros_5 : decode b_Integer_numberOfTrailingZeros 5 = .ok (.isub, 1) := by decide +kernel
theorem d_Integer_numberOfTrailingZeros_6 : decode b_Integer_numberOfTrailingZeros 6 = .ok (.iand, 1) := by decide +kernel
theorem d_Integer_numberOfTrailingZeros_7 : decode b_Integer_numberOfTrailingZeros 7 = .ok (.istore_n 0, 1) := by decide +kernel
theorem d_Integer_numberOfTrailingZeros_8 : decode b_Integer_numberOfTrailingZeros 8 = .ok (.iload_n 0, 1) := by decide +kernel
theorem d_Integer_numberOfTrailingZeros_9 : decode b_Integer_numberOfTrailingZeros 9 = .ok (.ifCond .gt 8, 3) := by decide +kernel
theorem d_Integer_numberOfTrailingZeros_12 : decode b_Integer_numberOfTrailingZeros 12 = .ok (.iload_n 0, 1) := by decide +kernel
theorem d_Integer_numberOfTrailingZeros_13 : decode b_Integer_numberOfTrailingZeros 13 = .ok (.bipush 32, 2) := by decide +kernel
theorem d_Integer_numberOfTrailingZeros_15 : decode b_Integer_numberOfTrailingZeros 15 = .ok (.iand, 1) := by decide +kernel
theorem d_Integer_numberOfTrailingZeros_16 : decode b_Integer_numberOfTrailingZeros 16 = .ok (.ireturn, 1) := by decide +kernel
theorem d_Integer_numberOfTrailingZeros_17 : decode b_Integer_numberOfTrailingZeros 17 = .ok (.iconst 1, 1) := by decide +kernel
theorem d_Integer_numberOfTrailingZeros_18 : decode b_Integer_numberOfTrailingZeros 18 = .ok (.istore_n 1, 1) := by decide +kernel
theorem d_Integer_numberOfTrailingZeros_19 : decode b_Integer_numberOfTrailingZeros 19 = .ok (.iload_n 0, 1) := by decide +kernel
theorem d_Integer_numberOfTrailingZeros_20 : decode b_Integer_numberOfTrailingZeros 20 = .ok (.ldc_w 264, 3) := by decide +kernel
theorem d_Integer_numberOfTrailingZeros_23 : decode b_Integer_numberOfTrailingZeros 23 = .ok (.if_icmp .le 11, 3) := by decide +kernel
theorem d_Integer_numberOfTrailingZeros_26 : decode b_Integer_numberOfTrailingZeros 26 = .ok (.iinc 1 16, 3) := by decide +kernel
theorem d_Integer_numberOfTrailingZeros_29 : decode b_Integer_numberOfTrailingZeros 29 = .ok (.iload_n 0, 1) := by decide +kernel
theorem d_Integer_numberOfTrailingZeros_30 : decode b_Integer_numberOfTrailingZeros 30 = .ok (.bipush 16, 2) := by decide +kernel
theorem d_Integer_numberOfTrailingZeros_32 : decode b_Integer_numberOfTrailingZeros 32 = .ok (.iushr, 1) := by decide +kernel
theorem d_Integer_numberOfTrailingZeros_33 : decode b_Integer_numberOfTrailingZeros 33 = .ok (.istore_n 0, 1) := by decide +kernel
theorem d_Integer_numberOfTrailingZeros_34 : decode b_Integer_numberOfTrailingZeros 34 = .ok (.iload_n 0, 1) := by decide +kernel
theorem d_Integer_numberOfTrailingZeros_35 : decode b_Integer_numberOfTrailingZeros 35 = .ok (.sipush 256, 3) := by decide +kernel
theorem d_Integer_numberOfTrailingZeros_38 : decode b_Integer_numberOfTrailingZeros 38 = .ok (.if_icmp .le 11, 3) := by decide +kernel
theorem d_Integer_numberOfTrailingZeros_41 : decode b_Integer_numberOfTrailingZeros 41 = .ok (.iinc 1 8, 3) := by decide +kernel
theorem d_Integer_numberOfTrailingZeros_44 : decode b_Integer_numberOfTrailingZeros 44 = .ok (.iload_n 0, 1) := by decide +kernel
theorem d_Integer_numberOfTrailingZeros_45 : decode b_Integer_numberOfTrailingZeros 45 = .ok (.bipush 8, 2) := by decide +kernel
theorem d_Integer_numberOfTrailingZeros_47 : decode b_Integer_numberOfTrailingZeros 47 = .ok (.iushr, 1) := by decide +kernel
theorem d_Integer_numberOfTrailingZeros_48 : decode b_Integer_numberOfTrailingZeros 48 = .ok (.istore_n 0, 1) := by decide +kernel
theorem d_Integer_numberOfTrailingZeros_49 : decode b_Integer_numberOfTrailingZeros 49 = .ok (.iload_n 0, 1) := by decide +kernel
theorem d_Integer_numberOfTrailingZeros_50 : decode b_Integer_numberOfTrailingZeros 50 = .ok (.bipush 16, 2) := by decide +kernel
theorem d_Integer_numberOfTrailingZeros_52 : decode b_Integer_numberOfTrailingZeros 52 = .ok (.if_icmp .le 10, 3) := by decide +kernel
theorem d_Integer_numberOfTrailingZeros_55 : decode b_Integer_numberOfTrailingZeros 55 = .ok (.iinc 1 4, 3) := by decide +kernel
theorem d_Integer_numberOfTrailingZeros_58 : decode b_Integer_numberOfTrailingZeros 58 = .ok (.iload_n 0, 1) := by decide +kernel
theorem d_Integer_numberOfTrailingZeros_59 : decode b_Integer_numberOfTrailingZeros 59 = .ok (.iconst 4, 1) := by decide +kernel
theorem d_Integer_numberOfTrailingZeros_60 : decode b_Integer_numberOfTrailingZeros 60 = .ok (.iushr, 1) := by decide +kernel
theorem d_Integer_numberOfTrailingZeros_61 : decode b_Integer_numberOfTrailingZeros 61 = .ok (.istore_n 0, 1) := by decide +kernel
theorem d_Integer_numberOfTrailingZeros_62 : decode b_Integer_numberOfTrailingZeros 62 = .ok (.iload_n 0, 1) := by decide +kernel
theorem d_Integer_numberOfTrailingZeros_63 : decode b_Integer_numberOfTrailingZeros 63 = .ok (.iconst 4, 1) := by decide +kernel
theorem d_Integer_numberOfTrailingZeros_64 : decode b_Integer_numberOfTrailingZeros 64 = .ok (.if_icmp .le 10, 3) := by decide +kernel
theorem d_Integer_numberOfTrailingZeros_67 : decode b_Integer_numberOfTrailingZeros 67 = .ok (.iinc 1 2, 3) := by decide +kernel
theorem d_Integer_numberOfTrailingZeros_70 : decode b_Integer_numberOfTrailingZeros 70 = .ok (.iload_n 0, 1) := by decide +kernel
theorem d_Integer_numberOfTrailingZeros_71 : decode b_Integer_numberOfTrailingZeros 71 = .ok (.iconst 2, 1) := by decide +kernel
theorem d_Integer_numberOfTrailingZeros_72 : decode b_Integer_numberOfTrailingZeros 72 = .ok (.iushr, 1) := by decide +kernel
theorem d_Integer_numberOfTrailingZeros_73 : decode b_Integer_numberOfTrailingZeros 73 = .ok (.istore_n 0, 1) := by decide +kernel
theorem d_Integer_numberOfTrailingZeros_74 : decode b_Integer_numberOfTrailingZeros 74 = .ok (.iload_n 1, 1) := by decide +kernel
theorem d_Integer_numberOfTrailingZeros_75 : decode b_Integer_numberOfTrailingZeros 75 = .ok (.iload_n 0, 1) := by decide +kernel
theorem d_Integer_numberOfTrailingZeros_76 : decode b_Integer_numberOfTrailingZeros 76 = .ok (.iconst 1, 1) := by decide +kernel
theorem d_Integer_numberOfTrailingZeros_77 : decode b_Integer_numberOfTrailingZeros 77 = .ok (.iushr, 1) := by decide +kernel
theorem d_Integer_numberOfTrailingZeros_78 : decode b_Integer_numberOfTrailingZeros 78 = .ok (.iadd, 1) := by decide +kernel
theorem d_Integer_numberOfTrailingZeros_79 : decode b_Integer_numberOfTrailingZeros 79 = .ok (.ireturn, 1) := by decide +kernel
theorem d_Table_lowestUnlike_0 : decode b_Table_lowestUnlike 0 = .ok (.iconst 0, 1) := by decide +kernel
theorem d_Table_lowestUnlike_1 : decode b_Table_lowestUnlike 1 = .ok (.istore_n 3, 1) := by decide +kernel
theorem d_Table_lowestUnlike_2 : decode b_Table_lowestUnlike 2 = .ok (.iload_n 3, 1) := by decide +kernel
theorem d_Table_lowestUnlike_3 : decode b_Table_lowestUnlike 3 = .ok (.aload_n 0, 1) := by decide +kernel
theorem d_Table_lowestUnlike_4 : decode b_Table_lowestUnlike 4 = .ok (.getfield 36, 3) := by decide +kernel
theorem d_Table_lowestUnlike_7 : decode b_Table_lowestUnlike 7 = .ok (.iconst 1, 1) := by decide +kernel
theorem d_Table_lowestUnlike_8 : decode b_Table_lowestUnlike 8 = .ok (.isub, 1) := by decide +kernel
theorem d_Table_lowestUnlike_9 : decode b_Table_lowestUnlike 9 = .ok (.if_icmp .ge 22, 3) := by decide +kernel
theorem d_Table_lowestUnlike_12 : decode b_Table_lowestUnlike 12 = .ok (.aload_n 0, 1) := by decide +kernel
theorem d_Table_lowestUnlike_13 : decode b_Table_lowestUnlike 13 = .ok (.iload_n 1, 1) := by decide +kernel
theorem d_Table_lowestUnlike_14 : decode b_Table_lowestUnlike 14 = .ok (.iload_n 3, 1) := by decide +kernel
theorem d_Table_lowestUnlike_15 : decode b_Table_lowestUnlike 15 = .ok (.invokevirtual 65, 3) := by decide +kernel
theorem d_Table_lowestUnlike_18 : decode b_Table_lowestUnlike 18 = .ok (.iload_n 2, 1) := by decide +kernel
theorem d_Table_lowestUnlike_19 : decode b_Table_lowestUnlike 19 = .ok (.ishr, 1) := by decide +kernel
theorem d_Table_lowestUnlike_20 : decode b_Table_lowestUnlike 20 = .ok (.iconst 1, 1) := by decide +kernel
theorem d_Table_lowestUnlike_21 : decode b_Table_lowestUnlike 21 = .ok (.iand, 1) := by decide +kernel
theorem d_Table_lowestUnlike_22 : decode b_Table_lowestUnlike 22 = .ok (.ifCond .ne 9, 3) := by decide +kernel
theorem d_Table_lowestUnlike_25 : decode b_Table_lowestUnlike 25 = .ok (.iinc 3 1, 3) := by decide +kernel
theorem d_Table_lowestUnlike_28 : decode b_Table_lowestUnlike 28 = .ok (.goto (-26), 3) := by decide +kernel
theorem d_Table_lowestUnlike_31 : decode b_Table_lowestUnlike 31 = .ok (.iload_n 3, 1) := by decide +kernel
theorem d_Table_lowestUnlike_32 : decode b_Table_lowestUnlike 32 = .ok (.ireturn, 1) := by decide +kernel
theorem d_Walk_traceBack_0 : decode b_Walk_traceBack 0 = .ok (.iload_n 1, 1) := by decide +kernel
theorem d_Walk_traceBack_1 : decode b_Walk_traceBack 1 = .ok (.istore_n 2, 1) := by decide +kernel
theorem d_Walk_traceBack_2 : decode b_Walk_traceBack 2 = .ok (.aload_n 0, 1) := by decide +kernel
theorem d_Walk_traceBack_3 : decode b_Walk_traceBack 3 = .ok (.getfield 15, 3) := by decide +kernel
theorem d_Walk_traceBack_6 : decode b_Walk_traceBack 6 = .ok (.iload_n 1, 1) := by decide +kernel
theorem d_Walk_traceBack_7 : decode b_Walk_traceBack 7 = .ok (.iaload, 1) := by decide +kernel
theorem d_Walk_traceBack_8 : decode b_Walk_traceBack 8 = .ok (.istore_n 3, 1) := by decide +kernel
theorem d_Walk_traceBack_9 : decode b_Walk_traceBack 9 = .ok (.iload_n 3, 1) := by decide +kernel
theorem d_Walk_traceBack_10 : decode b_Walk_traceBack 10 = .ok (.ifCond .le 36, 3) := by decide +kernel
theorem d_Walk_traceBack_13 : decode b_Walk_traceBack 13 = .ok (.aload_n 0, 1) := by decide +kernel
theorem d_Walk_traceBack_14 : decode b_Walk_traceBack 14 = .ok (.getfield 21, 3) := by decide +kernel
theorem d_Walk_traceBack_17 : decode b_Walk_traceBack 17 = .ok (.iload_n 3, 1) := by decide +kernel
theorem d_Walk_traceBack_18 : decode b_Walk_traceBack 18 = .ok (.iconst 1, 1) := by decide +kernel
theorem d_Walk_traceBack_19 : decode b_Walk_traceBack 19 = .ok (.isub, 1) := by decide +kernel
theorem d_Walk_traceBack_20 : decode b_Walk_traceBack 20 = .ok (.aload_n 0, 1) := by decide +kernel
theorem d_Walk_traceBack_21 : decode b_Walk_traceBack 21 = .ok (.getfield 18, 3) := by decide +kernel
theorem d_Walk_traceBack_24 : decode b_Walk_traceBack 24 = .ok (.iload_n 2, 1) := by decide +kernel
theorem d_Walk_traceBack_25 : decode b_Walk_traceBack 25 = .ok (.iaload, 1) := by decide +kernel
theorem d_Walk_traceBack_26 : decode b_Walk_traceBack 26 = .ok (.bipush 32, 2) := by decide +kernel
theorem d_Walk_traceBack_28 : decode b_Walk_traceBack 28 = .ok (.irem, 1) := by decide +kernel
theorem d_Walk_traceBack_29 : decode b_Walk_traceBack 29 = .ok (.iastore, 1) := by decide +kernel
theorem d_Walk_traceBack_30 : decode b_Walk_traceBack 30 = .ok (.aload_n 0, 1) := by decide +kernel
theorem d_Walk_traceBack_31 : decode b_Walk_traceBack 31 = .ok (.getfield 18, 3) := by decide +kernel
theorem d_Walk_traceBack_34 : decode b_Walk_traceBack 34 = .ok (.iload_n 2, 1) := by decide +kernel
theorem d_Walk_traceBack_35 : decode b_Walk_traceBack 35 = .ok (.iaload, 1) := by decide +kernel
theorem d_Walk_traceBack_36 : decode b_Walk_traceBack 36 = .ok (.bipush 32, 2) := by decide +kernel
theorem d_Walk_traceBack_38 : decode b_Walk_traceBack 38 = .ok (.idiv, 1) := by decide +kernel
theorem d_Walk_traceBack_39 : decode b_Walk_traceBack 39 = .ok (.istore_n 2, 1) := by decide +kernel
theorem d_Walk_traceBack_40 : decode b_Walk_traceBack 40 = .ok (.iinc 3 (-1), 3) := by decide +kernel
theorem d_Walk_traceBack_43 : decode b_Walk_traceBack 43 = .ok (.goto (-34), 3) := by decide +kernel
theorem d_Walk_traceBack_46 : decode b_Walk_traceBack 46 = .ok (.return_, 1) := by decide +kernel
theorem d_Walk_tryToTell_0 : decode b_Walk_tryToTell 0 = .ok (.aload_n 0, 1) := by decide +kernel
theorem d_Walk_tryToTell_1 : decode b_Walk_tryToTell 1 = .ok (.getfield 24, 3) := by decide +kernel
theorem d_Walk_tryToTell_4 : decode b_Walk_tryToTell 4 = .ok (.iload_n 1, 1) := by decide +kernel
theorem d_Walk_tryToTell_5 : decode b_Walk_tryToTell 5 = .ok (.invokevirtual 59, 3) := by decide +kernel
theorem d_Walk_tryToTell_8 : decode b_Walk_tryToTell 8 = .ok (.istore_n 2, 1) := by decide +kernel
theorem d_Walk_tryToTell_9 : decode b_Walk_tryToTell 9 = .ok (.iload_n 2, 1) := by decide +kernel
theorem d_Walk_tryToTell_10 : decode b_Walk_tryToTell 10 = .ok (.ifCond .eq 50, 3) := by decide +kernel
theorem d_Walk_tryToTell_13 : decode b_Walk_tryToTell 13 = .ok (.iload_n 2, 1) := by decide +kernel
theorem d_Walk_tryToTell_14 : decode b_Walk_tryToTell 14 = .ok (.invokestatic 63, 3) := by decide +kernel
theorem d_Walk_tryToTell_17 : decode b_Walk_tryToTell 17 = .ok (.istore_n 3, 1) := by decide +kernel
theorem d_Walk_tryToTell_18 : decode b_Walk_tryToTell 18 = .ok (.aload_n 0, 1) := by decide +kernel
theorem d_Walk_tryToTell_19 : decode b_Walk_tryToTell 19 = .ok (.aload_n 0, 1) := by decide +kernel
theorem d_Walk_tryToTell_20 : decode b_Walk_tryToTell 20 = .ok (.getfield 24, 3) := by decide +kernel
theorem d_Walk_tryToTell_23 : decode b_Walk_tryToTell 23 = .ok (.iload_n 1, 1) := by decide +kernel
theorem d_Walk_tryToTell_24 : decode b_Walk_tryToTell 24 = .ok (.iload_n 3, 1) := by decide +kernel
theorem d_Walk_tryToTell_25 : decode b_Walk_tryToTell 25 = .ok (.invokevirtual 68, 3) := by decide +kernel
theorem d_Walk_tryToTell_28 : decode b_Walk_tryToTell 28 = .ok (.putfield 41, 3) := by decide +kernel
theorem d_Walk_tryToTell_31 : decode b_Walk_tryToTell 31 = .ok (.aload_n 0, 1) := by decide +kernel
theorem d_Walk_tryToTell_32 : decode b_Walk_tryToTell 32 = .ok (.aload_n 0, 1) := by decide +kernel
theorem d_Walk_tryToTell_33 : decode b_Walk_tryToTell 33 = .ok (.getfield 15, 3) := by decide +kernel
theorem d_Walk_tryToTell_36 : decode b_Walk_tryToTell 36 = .ok (.iload_n 1, 1) := by decide +kernel
theorem d_Walk_tryToTell_37 : decode b_Walk_tryToTell 37 = .ok (.iaload, 1) := by decide +kernel
theorem d_Walk_tryToTell_38 : decode b_Walk_tryToTell 38 = .ok (.iconst 1, 1) := by decide +kernel
theorem d_Walk_tryToTell_39 : decode b_Walk_tryToTell 39 = .ok (.iadd, 1) := by decide +kernel
theorem d_Walk_tryToTell_40 : decode b_Walk_tryToTell 40 = .ok (.putfield 38, 3) := by decide +kernel
theorem d_Walk_tryToTell_43 : decode b_Walk_tryToTell 43 = .ok (.aload_n 0, 1) := by decide +kernel
theorem d_Walk_tryToTell_44 : decode b_Walk_tryToTell 44 = .ok (.getfield 21, 3) := by decide +kernel
theorem d_Walk_tryToTell_47 : decode b_Walk_tryToTell 47 = .ok (.aload_n 0, 1) := by decide +kernel
theorem d_Walk_tryToTell_48 : decode b_Walk_tryToTell 48 = .ok (.getfield 38, 3) := by decide +kernel
theorem d_Walk_tryToTell_51 : decode b_Walk_tryToTell 51 = .ok (.iconst 1, 1) := by decide +kernel
theorem d_Walk_tryToTell_52 : decode b_Walk_tryToTell 52 = .ok (.isub, 1) := by decide +kernel
theorem d_Walk_tryToTell_53 : decode b_Walk_tryToTell 53 = .ok (.iload_n 3, 1) := by decide +kernel
theorem d_Walk_tryToTell_54 : decode b_Walk_tryToTell 54 = .ok (.iastore, 1) := by decide +kernel
theorem d_Walk_tryToTell_55 : decode b_Walk_tryToTell 55 = .ok (.aload_n 0, 1) := by decide +kernel
theorem d_Walk_tryToTell_56 : decode b_Walk_tryToTell 56 = .ok (.iload_n 1, 1) := by decide +kernel
theorem d_Walk_tryToTell_57 : decode b_Walk_tryToTell 57 = .ok (.invokevirtual 71, 3) := by decide +kernel
theorem d_Walk_tryToTell_60 : decode b_Walk_tryToTell 60 = .ok (.return_, 1) := by decide +kernel
theorem d_Table_next_0 : decode b_Table_next 0 = .ok (.iload_n 1, 1) := by decide +kernel
theorem d_Table_next_1 : decode b_Table_next 1 = .ok (.bipush 64, 2) := by decide +kernel
theorem d_Table_next_3 : decode b_Table_next 3 = .ok (.idiv, 1) := by decide +kernel
theorem d_Table_next_4 : decode b_Table_next 4 = .ok (.istore_n 3, 1) := by decide +kernel
theorem d_Table_next_5 : decode b_Table_next 5 = .ok (.bipush 64, 2) := by decide +kernel
theorem d_Table_next_7 : decode b_Table_next 7 = .ok (.iload_n 1, 1) := by decide +kernel
theorem d_Table_next_8 : decode b_Table_next 8 = .ok (.bipush 64, 2) := by decide +kernel
theorem d_Table_next_10 : decode b_Table_next 10 = .ok (.irem, 1) := by decide +kernel
theorem d_Table_next_11 : decode b_Table_next 11 = .ok (.iadd, 1) := by decide +kernel
theorem d_Table_next_12 : decode b_Table_next 12 = .ok (.istore 4, 2) := by decide +kernel
theorem d_Table_next_14 : decode b_Table_next 14 = .ok (.aload_n 0, 1) := by decide +kernel
theorem d_Table_next_15 : decode b_Table_next 15 = .ok (.getfield 18, 3) := by decide +kernel
theorem d_Table_next_18 : decode b_Table_next 18 = .ok (.iload_n 3, 1) := by decide +kernel
theorem d_Table_next_19 : decode b_Table_next 19 = .ok (.bipush 32, 2) := by decide +kernel
theorem d_Table_next_21 : decode b_Table_next 21 = .ok (.imul, 1) := by decide +kernel
theorem d_Table_next_22 : decode b_Table_next 22 = .ok (.iload_n 2, 1) := by decide +kernel
theorem d_Table_next_23 : decode b_Table_next 23 = .ok (.iadd, 1) := by decide +kernel
theorem d_Table_next_24 : decode b_Table_next 24 = .ok (.iaload, 1) := by decide +kernel
theorem d_Table_next_25 : decode b_Table_next 25 = .ok (.bipush 64, 2) := by decide +kernel
theorem d_Table_next_27 : decode b_Table_next 27 = .ok (.imul, 1) := by decide +kernel
theorem d_Table_next_28 : decode b_Table_next 28 = .ok (.aload_n 0, 1) := by decide +kernel
theorem d_Table_next_29 : decode b_Table_next 29 = .ok (.getfield 18, 3) := by decide +kernel
theorem d_Table_next_32 : decode b_Table_next 32 = .ok (.iload 4, 2) := by decide +kernel
theorem d_Table_next_34 : decode b_Table_next 34 = .ok (.bipush 32, 2) := by decide +kernel
theorem d_Table_next_36 : decode b_Table_next 36 = .ok (.imul, 1) := by decide +kernel
theorem d_Table_next_37 : decode b_Table_next 37 = .ok (.iload_n 2, 1) := by decide +kernel
theorem d_Table_next_38 : decode b_Table_next 38 = .ok (.iadd, 1) := by decide +kernel
theorem d_Table_next_39 : decode b_Table_next 39 = .ok (.iaload, 1) := by decide +kernel
theorem d_Table_next_40 : decode b_Table_next 40 = .ok (.iadd, 1) := by decide +kernel
theorem d_Table_next_41 : decode b_Table_next 41 = .ok (.ireturn, 1) := by decide +kernel
theorem d_Walk_expand_0 : decode b_Walk_expand 0 = .ok (.iconst 0, 1) := by decide +kernel
theorem d_Walk_expand_1 : decode b_Walk_expand 1 = .ok (.istore_n 2, 1) := by decide +kernel
theorem d_Walk_expand_2 : decode b_Walk_expand 2 = .ok (.iload_n 2, 1) := by decide +kernel
theorem d_Walk_expand_3 : decode b_Walk_expand 3 = .ok (.aload_n 0, 1) := by decide +kernel
theorem d_Walk_expand_4 : decode b_Walk_expand 4 = .ok (.getfield 24, 3) := by decide +kernel
theorem d_Walk_expand_7 : decode b_Walk_expand 7 = .ok (.getfield 51, 3) := by decide +kernel
theorem d_Walk_expand_10 : decode b_Walk_expand 10 = .ok (.if_icmp .ge 75, 3) := by decide +kernel
theorem d_Walk_expand_13 : decode b_Walk_expand 13 = .ok (.aload_n 0, 1) := by decide +kernel
theorem d_Walk_expand_14 : decode b_Walk_expand 14 = .ok (.getfield 24, 3) := by decide +kernel
theorem d_Walk_expand_17 : decode b_Walk_expand 17 = .ok (.iload_n 1, 1) := by decide +kernel
theorem d_Walk_expand_18 : decode b_Walk_expand 18 = .ok (.iload_n 2, 1) := by decide +kernel
theorem d_Walk_expand_19 : decode b_Walk_expand 19 = .ok (.invokevirtual 55, 3) := by decide +kernel
theorem d_Walk_expand_22 : decode b_Walk_expand 22 = .ok (.istore_n 3, 1) := by decide +kernel
theorem d_Walk_expand_23 : decode b_Walk_expand 23 = .ok (.aload_n 0, 1) := by decide +kernel
theorem d_Walk_expand_24 : decode b_Walk_expand 24 = .ok (.getfield 15, 3) := by decide +kernel
theorem d_Walk_expand_27 : decode b_Walk_expand 27 = .ok (.iload_n 3, 1) := by decide +kernel
theorem d_Walk_expand_28 : decode b_Walk_expand 28 = .ok (.iaload, 1) := by decide +kernel
theorem d_Walk_expand_29 : decode b_Walk_expand 29 = .ok (.iconst (-1), 1) := by decide +kernel
theorem d_Walk_expand_30 : decode b_Walk_expand 30 = .ok (.if_icmp .ne 49, 3) := by decide +kernel
theorem d_Walk_expand_33 : decode b_Walk_expand 33 = .ok (.aload_n 0, 1) := by decide +kernel
theorem d_Walk_expand_34 : decode b_Walk_expand 34 = .ok (.getfield 15, 3) := by decide +kernel
theorem d_Walk_expand_37 : decode b_Walk_expand 37 = .ok (.iload_n 3, 1) := by decide +kernel
theorem d_Walk_expand_38 : decode b_Walk_expand 38 = .ok (.aload_n 0, 1) := by decide +kernel
theorem d_Walk_expand_39 : decode b_Walk_expand 39 = .ok (.getfield 15, 3) := by decide +kernel
theorem d_Walk_expand_42 : decode b_Walk_expand 42 = .ok (.iload_n 1, 1) := by decide +kernel
theorem d_Walk_expand_43 : decode b_Walk_expand 43 = .ok (.iaload, 1) := by decide +kernel
theorem d_Walk_expand_44 : decode b_Walk_expand 44 = .ok (.iconst 1, 1) := by decide +kernel
theorem d_Walk_expand_45 : decode b_Walk_expand 45 = .ok (.iadd, 1) := by decide +kernel
theorem d_Walk_expand_46 : decode b_Walk_expand 46 = .ok (.iastore, 1) := by decide +kernel
theorem d_Walk_expand_47 : decode b_Walk_expand 47 = .ok (.aload_n 0, 1) := by decide +kernel
theorem d_Walk_expand_48 : decode b_Walk_expand 48 = .ok (.getfield 18, 3) := by decide +kernel
theorem d_Walk_expand_51 : decode b_Walk_expand 51 = .ok (.iload_n 3, 1) := by decide +kernel
theorem d_Walk_expand_52 : decode b_Walk_expand 52 = .ok (.iload_n 1, 1) := by decide +kernel
theorem d_Walk_expand_53 : decode b_Walk_expand 53 = .ok (.bipush 32, 2) := by decide +kernel
theorem d_Walk_expand_55 : decode b_Walk_expand 55 = .ok (.imul, 1) := by decide +kernel
theorem d_Walk_expand_56 : decode b_Walk_expand 56 = .ok (.iload_n 2, 1) := by decide +kernel
theorem d_Walk_expand_57 : decode b_Walk_expand 57 = .ok (.iadd, 1) := by decide +kernel
theorem d_Walk_expand_58 : decode b_Walk_expand 58 = .ok (.iastore, 1) := by decide +kernel
theorem d_Walk_expand_59 : decode b_Walk_expand 59 = .ok (.aload_n 0, 1) := by decide +kernel
theorem d_Walk_expand_60 : decode b_Walk_expand 60 = .ok (.getfield 9, 3) := by decide +kernel
theorem d_Walk_expand_63 : decode b_Walk_expand 63 = .ok (.aload_n 0, 1) := by decide +kernel
theorem d_Walk_expand_64 : decode b_Walk_expand 64 = .ok (.getfield 34, 3) := by decide +kernel
theorem d_Walk_expand_67 : decode b_Walk_expand 67 = .ok (.iload_n 3, 1) := by decide +kernel
theorem d_Walk_expand_68 : decode b_Walk_expand 68 = .ok (.iastore, 1) := by decide +kernel
theorem d_Walk_expand_69 : decode b_Walk_expand 69 = .ok (.aload_n 0, 1) := by decide +kernel
theorem d_Walk_expand_70 : decode b_Walk_expand 70 = .ok (.dup, 1) := by decide +kernel
theorem d_Walk_expand_71 : decode b_Walk_expand 71 = .ok (.getfield 34, 3) := by decide +kernel
theorem d_Walk_expand_74 : decode b_Walk_expand 74 = .ok (.iconst 1, 1) := by decide +kernel
theorem d_Walk_expand_75 : decode b_Walk_expand 75 = .ok (.iadd, 1) := by decide +kernel
theorem d_Walk_expand_76 : decode b_Walk_expand 76 = .ok (.putfield 34, 3) := by decide +kernel
theorem d_Walk_expand_79 : decode b_Walk_expand 79 = .ok (.iinc 2 1, 3) := by decide +kernel
theorem d_Walk_expand_82 : decode b_Walk_expand 82 = .ok (.goto (-80), 3) := by decide +kernel
theorem d_Walk_expand_85 : decode b_Walk_expand 85 = .ok (.return_, 1) := by decide +kernel
theorem d_Walk_explore_0 : decode b_Walk_explore 0 = .ok (.aload_n 0, 1) := by decide +kernel
theorem d_Walk_explore_1 : decode b_Walk_explore 1 = .ok (.getfield 15, 3) := by decide +kernel
theorem d_Walk_explore_4 : decode b_Walk_explore 4 = .ok (.iconst (-1), 1) := by decide +kernel
theorem d_Walk_explore_5 : decode b_Walk_explore 5 = .ok (.invokestatic 28, 3) := by decide +kernel
theorem d_Walk_explore_8 : decode b_Walk_explore 8 = .ok (.aload_n 0, 1) := by decide +kernel
theorem d_Walk_explore_9 : decode b_Walk_explore 9 = .ok (.getfield 15, 3) := by decide +kernel
theorem d_Walk_explore_12 : decode b_Walk_explore 12 = .ok (.iconst 0, 1) := by decide +kernel
theorem d_Walk_explore_13 : decode b_Walk_explore 13 = .ok (.iconst 0, 1) := by decide +kernel
theorem d_Walk_explore_14 : decode b_Walk_explore 14 = .ok (.iastore, 1) := by decide +kernel
theorem d_Walk_explore_15 : decode b_Walk_explore 15 = .ok (.aload_n 0, 1) := by decide +kernel
theorem d_Walk_explore_16 : decode b_Walk_explore 16 = .ok (.getfield 9, 3) := by decide +kernel
theorem d_Walk_explore_19 : decode b_Walk_explore 19 = .ok (.iconst 0, 1) := by decide +kernel
theorem d_Walk_explore_20 : decode b_Walk_explore 20 = .ok (.iconst 0, 1) := by decide +kernel
theorem d_Walk_explore_21 : decode b_Walk_explore 21 = .ok (.iastore, 1) := by decide +kernel
theorem d_Walk_explore_22 : decode b_Walk_explore 22 = .ok (.aload_n 0, 1) := by decide +kernel
theorem d_Walk_explore_23 : decode b_Walk_explore 23 = .ok (.iconst 1, 1) := by decide +kernel
theorem d_Walk_explore_24 : decode b_Walk_explore 24 = .ok (.putfield 34, 3) := by decide +kernel
theorem d_Walk_explore_27 : decode b_Walk_explore 27 = .ok (.aload_n 0, 1) := by decide +kernel
theorem d_Walk_explore_28 : decode b_Walk_explore 28 = .ok (.iconst 0, 1) := by decide +kernel
theorem d_Walk_explore_29 : decode b_Walk_explore 29 = .ok (.putfield 38, 3) := by decide +kernel
theorem d_Walk_explore_32 : decode b_Walk_explore 32 = .ok (.aload_n 0, 1) := by decide +kernel
theorem d_Walk_explore_33 : decode b_Walk_explore 33 = .ok (.iconst (-1), 1) := by decide +kernel
theorem d_Walk_explore_34 : decode b_Walk_explore 34 = .ok (.putfield 41, 3) := by decide +kernel
theorem d_Walk_explore_37 : decode b_Walk_explore 37 = .ok (.iconst 0, 1) := by decide +kernel
theorem d_Walk_explore_38 : decode b_Walk_explore 38 = .ok (.istore_n 1, 1) := by decide +kernel
theorem d_Walk_explore_39 : decode b_Walk_explore 39 = .ok (.iload_n 1, 1) := by decide +kernel
theorem d_Walk_explore_40 : decode b_Walk_explore 40 = .ok (.aload_n 0, 1) := by decide +kernel
theorem d_Walk_explore_41 : decode b_Walk_explore 41 = .ok (.getfield 34, 3) := by decide +kernel
theorem d_Walk_explore_44 : decode b_Walk_explore 44 = .ok (.if_icmp .ge 43, 3) := by decide +kernel
theorem d_Walk_explore_47 : decode b_Walk_explore 47 = .ok (.iload_n 1, 1) := by decide +kernel
theorem d_Walk_explore_48 : decode b_Walk_explore 48 = .ok (.sipush 4096, 3) := by decide +kernel
theorem d_Walk_explore_51 : decode b_Walk_explore 51 = .ok (.if_icmp .ge 36, 3) := by decide +kernel
theorem d_Walk_explore_54 : decode b_Walk_explore 54 = .ok (.aload_n 0, 1) := by decide +kernel
theorem d_Walk_explore_55 : decode b_Walk_explore 55 = .ok (.getfield 38, 3) := by decide +kernel
theorem d_Walk_explore_58 : decode b_Walk_explore 58 = .ok (.ifCond .ne 13, 3) := by decide +kernel
theorem d_Walk_explore_61 : decode b_Walk_explore 61 = .ok (.aload_n 0, 1) := by decide +kernel
theorem d_Walk_explore_62 : decode b_Walk_explore 62 = .ok (.aload_n 0, 1) := by decide +kernel
theorem d_Walk_explore_63 : decode b_Walk_explore 63 = .ok (.getfield 9, 3) := by decide +kernel
theorem d_Walk_explore_66 : decode b_Walk_explore 66 = .ok (.iload_n 1, 1) := by decide +kernel
theorem d_Walk_explore_67 : decode b_Walk_explore 67 = .ok (.iaload, 1) := by decide +kernel
theorem d_Walk_explore_68 : decode b_Walk_explore 68 = .ok (.invokevirtual 44, 3) := by decide +kernel
theorem d_Walk_explore_71 : decode b_Walk_explore 71 = .ok (.aload_n 0, 1) := by decide +kernel
theorem d_Walk_explore_72 : decode b_Walk_explore 72 = .ok (.aload_n 0, 1) := by decide +kernel
theorem d_Walk_explore_73 : decode b_Walk_explore 73 = .ok (.getfield 9, 3) := by decide +kernel
theorem d_Walk_explore_76 : decode b_Walk_explore 76 = .ok (.iload_n 1, 1) := by decide +kernel
theorem d_Walk_explore_77 : decode b_Walk_explore 77 = .ok (.iaload, 1) := by decide +kernel
theorem d_Walk_explore_78 : decode b_Walk_explore 78 = .ok (.invokevirtual 48, 3) := by decide +kernel
theorem d_Walk_explore_81 : decode b_Walk_explore 81 = .ok (.iinc 1 1, 3) := by decide +kernel
theorem d_Walk_explore_84 : decode b_Walk_explore 84 = .ok (.goto (-45), 3) := by decide +kernel
theorem d_Walk_explore_87 : decode b_Walk_explore 87 = .ok (.return_, 1) := by decide +kernel
theorem d_Layers_clear_0 : decode b_Layers_clear 0 = .ok (.aload_n 0, 1) := by decide +kernel
theorem d_Layers_clear_1 : decode b_Layers_clear 1 = .ok (.iconst 0, 1) := by decide +kernel
theorem d_Layers_clear_2 : decode b_Layers_clear 2 = .ok (.putfield 22, 3) := by decide +kernel
theorem d_Layers_clear_5 : decode b_Layers_clear 5 = .ok (.aload_n 0, 1) := by decide +kernel
theorem d_Layers_clear_6 : decode b_Layers_clear 6 = .ok (.iconst (-1), 1) := by decide +kernel
theorem d_Layers_clear_7 : decode b_Layers_clear 7 = .ok (.putfield 26, 3) := by decide +kernel
theorem d_Layers_clear_10 : decode b_Layers_clear 10 = .ok (.aload_n 0, 1) := by decide +kernel
theorem d_Layers_clear_11 : decode b_Layers_clear 11 = .ok (.iconst (-1), 1) := by decide +kernel
theorem d_Layers_clear_12 : decode b_Layers_clear 12 = .ok (.putfield 29, 3) := by decide +kernel
theorem d_Layers_clear_15 : decode b_Layers_clear 15 = .ok (.aload_n 0, 1) := by decide +kernel
theorem d_Layers_clear_16 : decode b_Layers_clear 16 = .ok (.iconst 0, 1) := by decide +kernel
theorem d_Layers_clear_17 : decode b_Layers_clear 17 = .ok (.putfield 32, 3) := by decide +kernel
theorem d_Layers_clear_20 : decode b_Layers_clear 20 = .ok (.return_, 1) := by decide +kernel
theorem d_Works_witnessTells_0 : decode b_Works_witnessTells 0 = .ok (.aload_n 0, 1) := by decide +kernel
theorem d_Works_witnessTells_1 : decode b_Works_witnessTells 1 = .ok (.getfield 57, 3) := by decide +kernel
theorem d_Works_witnessTells_4 : decode b_Works_witnessTells 4 = .ok (.invokevirtual 92, 3) := by decide +kernel
theorem d_Works_witnessTells_7 : decode b_Works_witnessTells 7 = .ok (.iconst 0, 1) := by decide +kernel
theorem d_Works_witnessTells_8 : decode b_Works_witnessTells 8 = .ok (.istore_n 1, 1) := by decide +kernel
theorem d_Works_witnessTells_9 : decode b_Works_witnessTells 9 = .ok (.iload_n 1, 1) := by decide +kernel
theorem d_Works_witnessTells_10 : decode b_Works_witnessTells 10 = .ok (.aload_n 0, 1) := by decide +kernel
theorem d_Works_witnessTells_11 : decode b_Works_witnessTells 11 = .ok (.getfield 23, 3) := by decide +kernel
theorem d_Works_witnessTells_14 : decode b_Works_witnessTells 14 = .ok (.getfield 95, 3) := by decide +kernel
theorem d_Works_witnessTells_17 : decode b_Works_witnessTells 17 = .ok (.if_icmp .ge 68, 3) := by decide +kernel
theorem d_Works_witnessTells_20 : decode b_Works_witnessTells 20 = .ok (.aload_n 0, 1) := by decide +kernel
theorem d_Works_witnessTells_21 : decode b_Works_witnessTells 21 = .ok (.getfield 57, 3) := by decide +kernel
theorem d_Works_witnessTells_24 : decode b_Works_witnessTells 24 = .ok (.aload_n 0, 1) := by decide +kernel
theorem d_Works_witnessTells_25 : decode b_Works_witnessTells 25 = .ok (.getfield 23, 3) := by decide +kernel
theorem d_Works_witnessTells_28 : decode b_Works_witnessTells 28 = .ok (.getfield 98, 3) := by decide +kernel
theorem d_Works_witnessTells_31 : decode b_Works_witnessTells 31 = .ok (.iload_n 1, 1) := by decide +kernel
theorem d_Works_witnessTells_32 : decode b_Works_witnessTells 32 = .ok (.iaload, 1) := by decide +kernel
theorem d_Works_witnessTells_33 : decode b_Works_witnessTells 33 = .ok (.invokevirtual 102, 3) := by decide +kernel
theorem d_Works_witnessTells_36 : decode b_Works_witnessTells 36 = .ok (.istore_n 2, 1) := by decide +kernel
theorem d_Works_witnessTells_37 : decode b_Works_witnessTells 37 = .ok (.iload_n 2, 1) := by decide +kernel
theorem d_Works_witnessTells_38 : decode b_Works_witnessTells 38 = .ok (.sipush 255, 3) := by decide +kernel
theorem d_Works_witnessTells_41 : decode b_Works_witnessTells 41 = .ok (.iand, 1) := by decide +kernel
theorem d_Works_witnessTells_42 : decode b_Works_witnessTells 42 = .ok (.iload_n 2, 1) := by decide +kernel
theorem d_Works_witnessTells_43 : decode b_Works_witnessTells 43 = .ok (.bipush 8, 2) := by decide +kernel
theorem d_Works_witnessTells_45 : decode b_Works_witnessTells 45 = .ok (.ishr, 1) := by decide +kernel
theorem d_Works_witnessTells_46 : decode b_Works_witnessTells 46 = .ok (.if_icmp .eq 7, 3) := by decide +kernel
theorem d_Works_witnessTells_49 : decode b_Works_witnessTells 49 = .ok (.iconst 1, 1) := by decide +kernel
theorem d_Works_witnessTells_50 : decode b_Works_witnessTells 50 = .ok (.goto 4, 3) := by decide +kernel
theorem d_Works_witnessTells_53 : decode b_Works_witnessTells 53 = .ok (.iconst 0, 1) := by decide +kernel
theorem d_Works_witnessTells_54 : decode b_Works_witnessTells 54 = .ok (.istore_n 3, 1) := by decide +kernel
theorem d_Works_witnessTells_55 : decode b_Works_witnessTells 55 = .ok (.iload_n 3, 1) := by decide +kernel
theorem d_Works_witnessTells_56 : decode b_Works_witnessTells 56 = .ok (.iload_n 1, 1) := by decide +kernel
theorem d_Works_witnessTells_57 : decode b_Works_witnessTells 57 = .ok (.aload_n 0, 1) := by decide +kernel
theorem d_Works_witnessTells_58 : decode b_Works_witnessTells 58 = .ok (.getfield 23, 3) := by decide +kernel
theorem d_Works_witnessTells_61 : decode b_Works_witnessTells 61 = .ok (.getfield 95, 3) := by decide +kernel
theorem d_Works_witnessTells_64 : decode b_Works_witnessTells 64 = .ok (.iconst 1, 1) := by decide +kernel
theorem d_Works_witnessTells_65 : decode b_Works_witnessTells 65 = .ok (.isub, 1) := by decide +kernel
theorem d_Works_witnessTells_66 : decode b_Works_witnessTells 66 = .ok (.if_icmp .ne 7, 3) := by decide +kernel
theorem d_Works_witnessTells_69 : decode b_Works_witnessTells 69 = .ok (.iconst 1, 1) := by decide +kernel
theorem d_Works_witnessTells_70 : decode b_Works_witnessTells 70 = .ok (.goto 4, 3) := by decide +kernel
theorem d_Works_witnessTells_73 : decode b_Works_witnessTells 73 = .ok (.iconst 0, 1) := by decide +kernel
theorem d_Works_witnessTells_74 : decode b_Works_witnessTells 74 = .ok (.if_icmp .eq 5, 3) := by decide +kernel
theorem d_Works_witnessTells_77 : decode b_Works_witnessTells 77 = .ok (.iconst 0, 1) := by decide +kernel
theorem d_Works_witnessTells_78 : decode b_Works_witnessTells 78 = .ok (.ireturn, 1) := by decide +kernel
theorem d_Works_witnessTells_79 : decode b_Works_witnessTells 79 = .ok (.iinc 1 1, 3) := by decide +kernel
theorem d_Works_witnessTells_82 : decode b_Works_witnessTells 82 = .ok (.goto (-73), 3) := by decide +kernel
theorem d_Works_witnessTells_85 : decode b_Works_witnessTells 85 = .ok (.iconst 1, 1) := by decide +kernel
theorem d_Works_witnessTells_86 : decode b_Works_witnessTells 86 = .ok (.ireturn, 1) := by decide +kernel
theorem d_Works_doubtUnless_0 : decode b_Works_doubtUnless 0 = .ok (.iload_n 1, 1) := by decide +kernel
theorem d_Works_doubtUnless_1 : decode b_Works_doubtUnless 1 = .ok (.ifCond .ne 13, 3) := by decide +kernel
theorem d_Works_doubtUnless_4 : decode b_Works_doubtUnless 4 = .ok (.aload_n 0, 1) := by decide +kernel
theorem d_Works_doubtUnless_5 : decode b_Works_doubtUnless 5 = .ok (.dup, 1) := by decide +kernel
theorem d_Works_doubtUnless_6 : decode b_Works_doubtUnless 6 = .ok (.getfield 71, 3) := by decide +kernel
theorem d_Works_doubtUnless_9 : decode b_Works_doubtUnless 9 = .ok (.iconst 1, 1) := by decide +kernel
theorem d_Works_doubtUnless_10 : decode b_Works_doubtUnless 10 = .ok (.iadd, 1) := by decide +kernel
theorem d_Works_doubtUnless_11 : decode b_Works_doubtUnless 11 = .ok (.putfield 71, 3) := by decide +kernel
theorem d_Works_doubtUnless_14 : decode b_Works_doubtUnless 14 = .ok (.return_, 1) := by decide +kernel
theorem d_Works_explore_0 : decode b_Works_explore 0 = .ok (.aload_n 0, 1) := by decide +kernel
theorem d_Works_explore_1 : decode b_Works_explore 1 = .ok (.getfield 61, 3) := by decide +kernel
theorem d_Works_explore_4 : decode b_Works_explore 4 = .ok (.ifCond .ne 41, 3) := by decide +kernel
theorem d_Works_explore_7 : decode b_Works_explore 7 = .ok (.aload_n 0, 1) := by decide +kernel
theorem d_Works_explore_8 : decode b_Works_explore 8 = .ok (.getfield 12, 3) := by decide +kernel
theorem d_Works_explore_11 : decode b_Works_explore 11 = .ok (.aload_n 0, 1) := by decide +kernel
theorem d_Works_explore_12 : decode b_Works_explore 12 = .ok (.getfield 48, 3) := by decide +kernel
theorem d_Works_explore_15 : decode b_Works_explore 15 = .ok (.invokevirtual 75, 3) := by decide +kernel
theorem d_Works_explore_18 : decode b_Works_explore 18 = .ok (.aload_n 0, 1) := by decide +kernel
theorem d_Works_explore_19 : decode b_Works_explore 19 = .ok (.getfield 23, 3) := by decide +kernel
theorem d_Works_explore_22 : decode b_Works_explore 22 = .ok (.invokevirtual 78, 3) := by decide +kernel
theorem d_Works_explore_25 : decode b_Works_explore 25 = .ok (.aload_n 0, 1) := by decide +kernel
theorem d_Works_explore_26 : decode b_Works_explore 26 = .ok (.getfield 30, 3) := by decide +kernel
theorem d_Works_explore_29 : decode b_Works_explore 29 = .ok (.invokevirtual 81, 3) := by decide +kernel
theorem d_Works_explore_32 : decode b_Works_explore 32 = .ok (.aload_n 0, 1) := by decide +kernel
theorem d_Works_explore_33 : decode b_Works_explore 33 = .ok (.iconst 1, 1) := by decide +kernel
theorem d_Works_explore_34 : decode b_Works_explore 34 = .ok (.putfield 61, 3) := by decide +kernel
theorem d_Works_explore_37 : decode b_Works_explore 37 = .ok (.aload_n 0, 1) := by decide +kernel
theorem d_Works_explore_38 : decode b_Works_explore 38 = .ok (.aload_n 0, 1) := by decide +kernel
theorem d_Works_explore_39 : decode b_Works_explore 39 = .ok (.invokevirtual 84, 3) := by decide +kernel
theorem d_Works_explore_42 : decode b_Works_explore 42 = .ok (.invokevirtual 88, 3) := by decide +kernel
theorem d_Works_explore_45 : decode b_Works_explore 45 = .ok (.return_, 1) := by decide +kernel
theorem d_Judge_exploredWorks_0 : decode b_Judge_exploredWorks 0 = .ok (.aload_n 0, 1) := by decide +kernel
theorem d_Judge_exploredWorks_1 : decode b_Judge_exploredWorks 1 = .ok (.invokevirtual 123, 3) := by decide +kernel
theorem d_Judge_exploredWorks_4 : decode b_Judge_exploredWorks 4 = .ok (.astore_n 1, 1) := by decide +kernel
theorem d_Judge_exploredWorks_5 : decode b_Judge_exploredWorks 5 = .ok (.aload_n 1, 1) := by decide +kernel
theorem d_Judge_exploredWorks_6 : decode b_Judge_exploredWorks 6 = .ok (.invokevirtual 201, 3) := by decide +kernel
theorem d_Judge_exploredWorks_9 : decode b_Judge_exploredWorks 9 = .ok (.aload_n 1, 1) := by decide +kernel
theorem d_Judge_exploredWorks_10 : decode b_Judge_exploredWorks 10 = .ok (.areturn, 1) := by decide +kernel
