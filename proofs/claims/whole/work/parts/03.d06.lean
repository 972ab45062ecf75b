theorem d_Likeness_sort_0 : decode b_Likeness_sort 0 = .ok (.aload_n 0, 1) := by decide +kernel
theorem d_Likeness_sort_1 : decode b_Likeness_sort 1 = .ok (.iconst 0, 1) := by decide +kernel
theorem d_Likeness_sort_2 : decode b_Likeness_sort 2 = .ok (.putfield 30, 3) := by decide +kernel
theorem d_Likeness_sort_5 : decode b_Likeness_sort 5 = .ok (.iconst 0, 1) := by decide +kernel
theorem d_Likeness_sort_6 : decode b_Likeness_sort 6 = .ok (.istore 4, 2) := by decide +kernel
theorem d_Likeness_sort_8 : decode b_Likeness_sort 8 = .ok (.iload 4, 2) := by decide +kernel
theorem d_Likeness_sort_10 : decode b_Likeness_sort 10 = .ok (.sipush 402, 3) := by decide +kernel
theorem d_Likeness_sort_13 : decode b_Likeness_sort 13 = .ok (.if_icmp .ge 97, 3) := by decide +kernel
theorem d_Likeness_sort_16 : decode b_Likeness_sort 16 = .ok (.aload_n 0, 1) := by decide +kernel
theorem d_Likeness_sort_17 : decode b_Likeness_sort 17 = .ok (.getfield 11, 3) := by decide +kernel
theorem d_Likeness_sort_20 : decode b_Likeness_sort 20 = .ok (.iload 4, 2) := by decide +kernel
theorem d_Likeness_sort_22 : decode b_Likeness_sort 22 = .ok (.iconst 0, 1) := by decide +kernel
theorem d_Likeness_sort_23 : decode b_Likeness_sort 23 = .ok (.iastore, 1) := by decide +kernel
theorem d_Likeness_sort_24 : decode b_Likeness_sort 24 = .ok (.aload_n 0, 1) := by decide +kernel
theorem d_Likeness_sort_25 : decode b_Likeness_sort 25 = .ok (.getfield 15, 3) := by decide +kernel
theorem d_Likeness_sort_28 : decode b_Likeness_sort 28 = .ok (.iload 4, 2) := by decide +kernel
theorem d_Likeness_sort_30 : decode b_Likeness_sort 30 = .ok (.iconst 0, 1) := by decide +kernel
theorem d_Likeness_sort_31 : decode b_Likeness_sort 31 = .ok (.iastore, 1) := by decide +kernel
theorem d_Likeness_sort_32 : decode b_Likeness_sort 32 = .ok (.aload_n 1, 1) := by decide +kernel
theorem d_Likeness_sort_33 : decode b_Likeness_sort 33 = .ok (.iload 4, 2) := by decide +kernel
theorem d_Likeness_sort_35 : decode b_Likeness_sort 35 = .ok (.sipush 201, 3) := by decide +kernel
theorem d_Likeness_sort_38 : decode b_Likeness_sort 38 = .ok (.idiv, 1) := by decide +kernel
theorem d_Likeness_sort_39 : decode b_Likeness_sort 39 = .ok (.aaload, 1) := by decide +kernel
theorem d_Likeness_sort_40 : decode b_Likeness_sort 40 = .ok (.iconst 2, 1) := by decide +kernel
theorem d_Likeness_sort_41 : decode b_Likeness_sort 41 = .ok (.iload 4, 2) := by decide +kernel
theorem d_Likeness_sort_43 : decode b_Likeness_sort 43 = .ok (.sipush 201, 3) := by decide +kernel
theorem d_Likeness_sort_46 : decode b_Likeness_sort 46 = .ok (.irem, 1) := by decide +kernel
theorem d_Likeness_sort_47 : decode b_Likeness_sort 47 = .ok (.imul, 1) := by decide +kernel
theorem d_Likeness_sort_48 : decode b_Likeness_sort 48 = .ok (.invokevirtual 34, 3) := by decide +kernel
theorem d_Likeness_sort_51 : decode b_Likeness_sort 51 = .ok (.ifCond .eq 53, 3) := by decide +kernel
theorem d_Likeness_sort_54 : decode b_Likeness_sort 54 = .ok (.aload_n 0, 1) := by decide +kernel
theorem d_Likeness_sort_55 : decode b_Likeness_sort 55 = .ok (.getfield 15, 3) := by decide +kernel
theorem d_Likeness_sort_58 : decode b_Likeness_sort 58 = .ok (.iload 4, 2) := by decide +kernel
theorem d_Likeness_sort_60 : decode b_Likeness_sort 60 = .ok (.aload_n 2, 1) := by decide +kernel
theorem d_Likeness_sort_61 : decode b_Likeness_sort 61 = .ok (.iconst 0, 1) := by decide +kernel
theorem d_Likeness_sort_62 : decode b_Likeness_sort 62 = .ok (.iload 4, 2) := by decide +kernel
theorem d_Likeness_sort_64 : decode b_Likeness_sort 64 = .ok (.sipush 201, 3) := by decide +kernel
theorem d_Likeness_sort_67 : decode b_Likeness_sort 67 = .ok (.idiv, 1) := by decide +kernel
theorem d_Likeness_sort_68 : decode b_Likeness_sort 68 = .ok (.iconst 2, 1) := by decide +kernel
theorem d_Likeness_sort_69 : decode b_Likeness_sort 69 = .ok (.iload 4, 2) := by decide +kernel
theorem d_Likeness_sort_71 : decode b_Likeness_sort 71 = .ok (.sipush 201, 3) := by decide +kernel
theorem d_Likeness_sort_74 : decode b_Likeness_sort 74 = .ok (.irem, 1) := by decide +kernel
theorem d_Likeness_sort_75 : decode b_Likeness_sort 75 = .ok (.imul, 1) := by decide +kernel
theorem d_Likeness_sort_76 : decode b_Likeness_sort 76 = .ok (.invokevirtual 40, 3) := by decide +kernel
theorem d_Likeness_sort_79 : decode b_Likeness_sort 79 = .ok (.iconst 1, 1) := by decide +kernel
theorem d_Likeness_sort_80 : decode b_Likeness_sort 80 = .ok (.iand, 1) := by decide +kernel
theorem d_Likeness_sort_81 : decode b_Likeness_sort 81 = .ok (.ineg, 1) := by decide +kernel
theorem d_Likeness_sort_82 : decode b_Likeness_sort 82 = .ok (.iastore, 1) := by decide +kernel
theorem d_Likeness_sort_83 : decode b_Likeness_sort 83 = .ok (.aload_n 0, 1) := by decide +kernel
theorem d_Likeness_sort_84 : decode b_Likeness_sort 84 = .ok (.getfield 27, 3) := by decide +kernel
theorem d_Likeness_sort_87 : decode b_Likeness_sort 87 = .ok (.aload_n 0, 1) := by decide +kernel
theorem d_Likeness_sort_88 : decode b_Likeness_sort 88 = .ok (.getfield 30, 3) := by decide +kernel
theorem d_Likeness_sort_91 : decode b_Likeness_sort 91 = .ok (.iload 4, 2) := by decide +kernel
theorem d_Likeness_sort_93 : decode b_Likeness_sort 93 = .ok (.iastore, 1) := by decide +kernel
theorem d_Likeness_sort_94 : decode b_Likeness_sort 94 = .ok (.aload_n 0, 1) := by decide +kernel
theorem d_Likeness_sort_95 : decode b_Likeness_sort 95 = .ok (.dup, 1) := by decide +kernel
theorem d_Likeness_sort_96 : decode b_Likeness_sort 96 = .ok (.getfield 30, 3) := by decide +kernel
theorem d_Likeness_sort_99 : decode b_Likeness_sort 99 = .ok (.iconst 1, 1) := by decide +kernel
theorem d_Likeness_sort_100 : decode b_Likeness_sort 100 = .ok (.iadd, 1) := by decide +kernel
theorem d_Likeness_sort_101 : decode b_Likeness_sort 101 = .ok (.putfield 30, 3) := by decide +kernel
theorem d_Likeness_sort_104 : decode b_Likeness_sort 104 = .ok (.iinc 4 1, 3) := by decide +kernel
theorem d_Likeness_sort_107 : decode b_Likeness_sort 107 = .ok (.goto (-99), 3) := by decide +kernel
theorem d_Likeness_sort_110 : decode b_Likeness_sort 110 = .ok (.iconst 0, 1) := by decide +kernel
theorem d_Likeness_sort_111 : decode b_Likeness_sort 111 = .ok (.istore 4, 2) := by decide +kernel
theorem d_Likeness_sort_113 : decode b_Likeness_sort 113 = .ok (.iload 4, 2) := by decide +kernel
theorem d_Likeness_sort_115 : decode b_Likeness_sort 115 = .ok (.aload_n 3, 1) := by decide +kernel
theorem d_Likeness_sort_116 : decode b_Likeness_sort 116 = .ok (.getfield 46, 3) := by decide +kernel
theorem d_Likeness_sort_119 : decode b_Likeness_sort 119 = .ok (.if_icmp .ge 28, 3) := by decide +kernel
theorem d_Likeness_sort_122 : decode b_Likeness_sort 122 = .ok (.aload_n 0, 1) := by decide +kernel
theorem d_Likeness_sort_123 : decode b_Likeness_sort 123 = .ok (.aload_n 2, 1) := by decide +kernel
theorem d_Likeness_sort_124 : decode b_Likeness_sort 124 = .ok (.aload_n 3, 1) := by decide +kernel
theorem d_Likeness_sort_125 : decode b_Likeness_sort 125 = .ok (.getfield 51, 3) := by decide +kernel
theorem d_Likeness_sort_128 : decode b_Likeness_sort 128 = .ok (.iload 4, 2) := by decide +kernel
theorem d_Likeness_sort_130 : decode b_Likeness_sort 130 = .ok (.iaload, 1) := by decide +kernel
theorem d_Likeness_sort_131 : decode b_Likeness_sort 131 = .ok (.invokevirtual 54, 3) := by decide +kernel
theorem d_Likeness_sort_134 : decode b_Likeness_sort 134 = .ok (.ifCond .eq 7, 3) := by decide +kernel
theorem d_Likeness_sort_137 : decode b_Likeness_sort 137 = .ok (.aload_n 0, 1) := by decide +kernel
theorem d_Likeness_sort_138 : decode b_Likeness_sort 138 = .ok (.invokevirtual 58, 3) := by decide +kernel
theorem d_Likeness_sort_141 : decode b_Likeness_sort 141 = .ok (.iinc 4 1, 3) := by decide +kernel
theorem d_Likeness_sort_144 : decode b_Likeness_sort 144 = .ok (.goto (-31), 3) := by decide +kernel
theorem d_Likeness_sort_147 : decode b_Likeness_sort 147 = .ok (.return_, 1) := by decide +kernel
theorem d_Likeness_firstLike_0 : decode b_Likeness_firstLike 0 = .ok (.iload_n 1, 1) := by decide +kernel
theorem d_Likeness_firstLike_1 : decode b_Likeness_firstLike 1 = .ok (.sipush 201, 3) := by decide +kernel
theorem d_Likeness_firstLike_4 : decode b_Likeness_firstLike 4 = .ok (.imul, 1) := by decide +kernel
theorem d_Likeness_firstLike_5 : decode b_Likeness_firstLike 5 = .ok (.iload_n 2, 1) := by decide +kernel
theorem d_Likeness_firstLike_6 : decode b_Likeness_firstLike 6 = .ok (.iconst 1, 1) := by decide +kernel
theorem d_Likeness_firstLike_7 : decode b_Likeness_firstLike 7 = .ok (.ishr, 1) := by decide +kernel
theorem d_Likeness_firstLike_8 : decode b_Likeness_firstLike 8 = .ok (.iadd, 1) := by decide +kernel
theorem d_Likeness_firstLike_9 : decode b_Likeness_firstLike 9 = .ok (.istore_n 3, 1) := by decide +kernel
theorem d_Likeness_firstLike_10 : decode b_Likeness_firstLike 10 = .ok (.aload_n 0, 1) := by decide +kernel
theorem d_Likeness_firstLike_11 : decode b_Likeness_firstLike 11 = .ok (.getfield 11, 3) := by decide +kernel
theorem d_Likeness_firstLike_14 : decode b_Likeness_firstLike 14 = .ok (.iload_n 3, 1) := by decide +kernel
theorem d_Likeness_firstLike_15 : decode b_Likeness_firstLike 15 = .ok (.iaload, 1) := by decide +kernel
theorem d_Likeness_firstLike_16 : decode b_Likeness_firstLike 16 = .ok (.istore 4, 2) := by decide +kernel
theorem d_Likeness_firstLike_18 : decode b_Likeness_firstLike 18 = .ok (.iload_n 2, 1) := by decide +kernel
theorem d_Likeness_firstLike_19 : decode b_Likeness_firstLike 19 = .ok (.aload_n 0, 1) := by decide +kernel
theorem d_Likeness_firstLike_20 : decode b_Likeness_firstLike 20 = .ok (.getfield 15, 3) := by decide +kernel
theorem d_Likeness_firstLike_23 : decode b_Likeness_firstLike 23 = .ok (.iload_n 3, 1) := by decide +kernel
theorem d_Likeness_firstLike_24 : decode b_Likeness_firstLike 24 = .ok (.iaload, 1) := by decide +kernel
theorem d_Likeness_firstLike_25 : decode b_Likeness_firstLike 25 = .ok (.ixor, 1) := by decide +kernel
theorem d_Likeness_firstLike_26 : decode b_Likeness_firstLike 26 = .ok (.aload_n 0, 1) := by decide +kernel
theorem d_Likeness_firstLike_27 : decode b_Likeness_firstLike 27 = .ok (.getfield 15, 3) := by decide +kernel
theorem d_Likeness_firstLike_30 : decode b_Likeness_firstLike 30 = .ok (.iload 4, 2) := by decide +kernel
theorem d_Likeness_firstLike_32 : decode b_Likeness_firstLike 32 = .ok (.iaload, 1) := by decide +kernel
theorem d_Likeness_firstLike_33 : decode b_Likeness_firstLike 33 = .ok (.ixor, 1) := by decide +kernel
theorem d_Likeness_firstLike_34 : decode b_Likeness_firstLike 34 = .ok (.iconst 1, 1) := by decide +kernel
theorem d_Likeness_firstLike_35 : decode b_Likeness_firstLike 35 = .ok (.iand, 1) := by decide +kernel
theorem d_Likeness_firstLike_36 : decode b_Likeness_firstLike 36 = .ok (.istore 5, 2) := by decide +kernel
theorem d_Likeness_firstLike_38 : decode b_Likeness_firstLike 38 = .ok (.iload 4, 2) := by decide +kernel
theorem d_Likeness_firstLike_40 : decode b_Likeness_firstLike 40 = .ok (.sipush 201, 3) := by decide +kernel
theorem d_Likeness_firstLike_43 : decode b_Likeness_firstLike 43 = .ok (.if_icmp .ge 13, 3) := by decide +kernel
theorem d_Likeness_firstLike_46 : decode b_Likeness_firstLike 46 = .ok (.iconst 2, 1) := by decide +kernel
theorem d_Likeness_firstLike_47 : decode b_Likeness_firstLike 47 = .ok (.iload 4, 2) := by decide +kernel
theorem d_Likeness_firstLike_49 : decode b_Likeness_firstLike 49 = .ok (.imul, 1) := by decide +kernel
theorem d_Likeness_firstLike_50 : decode b_Likeness_firstLike 50 = .ok (.iload 5, 2) := by decide +kernel
theorem d_Likeness_firstLike_52 : decode b_Likeness_firstLike 52 = .ok (.iadd, 1) := by decide +kernel
theorem d_Likeness_firstLike_53 : decode b_Likeness_firstLike 53 = .ok (.goto 18, 3) := by decide +kernel
theorem d_Likeness_firstLike_56 : decode b_Likeness_firstLike 56 = .ok (.sipush 1000, 3) := by decide +kernel
theorem d_Likeness_firstLike_59 : decode b_Likeness_firstLike 59 = .ok (.iconst 2, 1) := by decide +kernel
theorem d_Likeness_firstLike_60 : decode b_Likeness_firstLike 60 = .ok (.iload 4, 2) := by decide +kernel
theorem d_Likeness_firstLike_62 : decode b_Likeness_firstLike 62 = .ok (.sipush 201, 3) := by decide +kernel
theorem d_Likeness_firstLike_65 : decode b_Likeness_firstLike 65 = .ok (.isub, 1) := by decide +kernel
theorem d_Likeness_firstLike_66 : decode b_Likeness_firstLike 66 = .ok (.imul, 1) := by decide +kernel
theorem d_Likeness_firstLike_67 : decode b_Likeness_firstLike 67 = .ok (.iadd, 1) := by decide +kernel
theorem d_Likeness_firstLike_68 : decode b_Likeness_firstLike 68 = .ok (.iload 5, 2) := by decide +kernel
theorem d_Likeness_firstLike_70 : decode b_Likeness_firstLike 70 = .ok (.iadd, 1) := by decide +kernel
theorem d_Likeness_firstLike_71 : decode b_Likeness_firstLike 71 = .ok (.ireturn, 1) := by decide +kernel
theorem d_Works_firstLike_0 : decode b_Works_firstLike 0 = .ok (.aload_n 0, 1) := by decide +kernel
theorem d_Works_firstLike_1 : decode b_Works_firstLike 1 = .ok (.getfield 65, 3) := by decide +kernel
theorem d_Works_firstLike_4 : decode b_Works_firstLike 4 = .ok (.ifCond .ne 27, 3) := by decide +kernel
theorem d_Works_firstLike_7 : decode b_Works_firstLike 7 = .ok (.aload_n 0, 1) := by decide +kernel
theorem d_Works_firstLike_8 : decode b_Works_firstLike 8 = .ok (.getfield 37, 3) := by decide +kernel
theorem d_Works_firstLike_11 : decode b_Works_firstLike 11 = .ok (.aload_n 0, 1) := by decide +kernel
theorem d_Works_firstLike_12 : decode b_Works_firstLike 12 = .ok (.getfield 48, 3) := by decide +kernel
theorem d_Works_firstLike_15 : decode b_Works_firstLike 15 = .ok (.aload_n 0, 1) := by decide +kernel
theorem d_Works_firstLike_16 : decode b_Works_firstLike 16 = .ok (.getfield 12, 3) := by decide +kernel
theorem d_Works_firstLike_19 : decode b_Works_firstLike 19 = .ok (.aload_n 0, 1) := by decide +kernel
theorem d_Works_firstLike_20 : decode b_Works_firstLike 20 = .ok (.getfield 23, 3) := by decide +kernel
theorem d_Works_firstLike_23 : decode b_Works_firstLike 23 = .ok (.invokevirtual 123, 3) := by decide +kernel
theorem d_Works_firstLike_26 : decode b_Works_firstLike 26 = .ok (.aload_n 0, 1) := by decide +kernel
theorem d_Works_firstLike_27 : decode b_Works_firstLike 27 = .ok (.iconst 1, 1) := by decide +kernel
theorem d_Works_firstLike_28 : decode b_Works_firstLike 28 = .ok (.putfield 65, 3) := by decide +kernel
theorem d_Works_firstLike_31 : decode b_Works_firstLike 31 = .ok (.aload_n 0, 1) := by decide +kernel
theorem d_Works_firstLike_32 : decode b_Works_firstLike 32 = .ok (.getfield 37, 3) := by decide +kernel
theorem d_Works_firstLike_35 : decode b_Works_firstLike 35 = .ok (.iload_n 1, 1) := by decide +kernel
theorem d_Works_firstLike_36 : decode b_Works_firstLike 36 = .ok (.iload_n 2, 1) := by decide +kernel
theorem d_Works_firstLike_37 : decode b_Works_firstLike 37 = .ok (.invokevirtual 127, 3) := by decide +kernel
theorem d_Works_firstLike_40 : decode b_Works_firstLike 40 = .ok (.istore_n 3, 1) := by decide +kernel
theorem d_Works_firstLike_41 : decode b_Works_firstLike 41 = .ok (.iload_n 3, 1) := by decide +kernel
theorem d_Works_firstLike_42 : decode b_Works_firstLike 42 = .ok (.sipush 1000, 3) := by decide +kernel
theorem d_Works_firstLike_45 : decode b_Works_firstLike 45 = .ok (.if_icmp .lt 7, 3) := by decide +kernel
theorem d_Works_firstLike_48 : decode b_Works_firstLike 48 = .ok (.iconst 1, 1) := by decide +kernel
theorem d_Works_firstLike_49 : decode b_Works_firstLike 49 = .ok (.goto 4, 3) := by decide +kernel
theorem d_Works_firstLike_52 : decode b_Works_firstLike 52 = .ok (.iconst 0, 1) := by decide +kernel
theorem d_Works_firstLike_53 : decode b_Works_firstLike 53 = .ok (.istore 4, 2) := by decide +kernel
theorem d_Works_firstLike_55 : decode b_Works_firstLike 55 = .ok (.aload_n 0, 1) := by decide +kernel
theorem d_Works_firstLike_56 : decode b_Works_firstLike 56 = .ok (.aload_n 0, 1) := by decide +kernel
theorem d_Works_firstLike_57 : decode b_Works_firstLike 57 = .ok (.iload_n 1, 1) := by decide +kernel
theorem d_Works_firstLike_58 : decode b_Works_firstLike 58 = .ok (.iload_n 2, 1) := by decide +kernel
theorem d_Works_firstLike_59 : decode b_Works_firstLike 59 = .ok (.iload 4, 2) := by decide +kernel
theorem d_Works_firstLike_61 : decode b_Works_firstLike 61 = .ok (.ifCond .eq 7, 3) := by decide +kernel
theorem d_Works_firstLike_64 : decode b_Works_firstLike 64 = .ok (.iconst 1, 1) := by decide +kernel
theorem d_Works_firstLike_65 : decode b_Works_firstLike 65 = .ok (.goto 4, 3) := by decide +kernel
theorem d_Works_firstLike_68 : decode b_Works_firstLike 68 = .ok (.iconst 0, 1) := by decide +kernel
theorem d_Works_firstLike_69 : decode b_Works_firstLike 69 = .ok (.iload 4, 2) := by decide +kernel
theorem d_Works_firstLike_71 : decode b_Works_firstLike 71 = .ok (.ifCond .eq 11, 3) := by decide +kernel
theorem d_Works_firstLike_74 : decode b_Works_firstLike 74 = .ok (.iload_n 3, 1) := by decide +kernel
theorem d_Works_firstLike_75 : decode b_Works_firstLike 75 = .ok (.sipush 1000, 3) := by decide +kernel
theorem d_Works_firstLike_78 : decode b_Works_firstLike 78 = .ok (.isub, 1) := by decide +kernel
theorem d_Works_firstLike_79 : decode b_Works_firstLike 79 = .ok (.goto 4, 3) := by decide +kernel
theorem d_Works_firstLike_82 : decode b_Works_firstLike 82 = .ok (.iload_n 3, 1) := by decide +kernel
theorem d_Works_firstLike_83 : decode b_Works_firstLike 83 = .ok (.invokevirtual 131, 3) := by decide +kernel
theorem d_Works_firstLike_86 : decode b_Works_firstLike 86 = .ok (.invokevirtual 88, 3) := by decide +kernel
theorem d_Works_firstLike_89 : decode b_Works_firstLike 89 = .ok (.iload_n 3, 1) := by decide +kernel
theorem d_Works_firstLike_90 : decode b_Works_firstLike 90 = .ok (.ireturn, 1) := by decide +kernel
theorem d_Judge_twin_0 : decode b_Judge_twin 0 = .ok (.aload_n 0, 1) := by decide +kernel
theorem d_Judge_twin_1 : decode b_Judge_twin 1 = .ok (.invokevirtual 120, 3) := by decide +kernel
theorem d_Judge_twin_4 : decode b_Judge_twin 4 = .ok (.aload_n 0, 1) := by decide +kernel
theorem d_Judge_twin_5 : decode b_Judge_twin 5 = .ok (.iload_n 1, 1) := by decide +kernel
theorem d_Judge_twin_6 : decode b_Judge_twin 6 = .ok (.iload_n 2, 1) := by decide +kernel
theorem d_Judge_twin_7 : decode b_Judge_twin 7 = .ok (.invokevirtual 110, 3) := by decide +kernel
theorem d_Judge_twin_10 : decode b_Judge_twin 10 = .ok (.invokestatic 150, 3) := by decide +kernel
theorem d_Judge_twin_13 : decode b_Judge_twin 13 = .ok (.aload_n 0, 1) := by decide +kernel
theorem d_Judge_twin_14 : decode b_Judge_twin 14 = .ok (.invokevirtual 131, 3) := by decide +kernel
theorem d_Judge_twin_17 : decode b_Judge_twin 17 = .ok (.iload_n 1, 1) := by decide +kernel
theorem d_Judge_twin_18 : decode b_Judge_twin 18 = .ok (.iload_n 2, 1) := by decide +kernel
theorem d_Judge_twin_19 : decode b_Judge_twin 19 = .ok (.invokevirtual 173, 3) := by decide +kernel
theorem d_Judge_twin_22 : decode b_Judge_twin 22 = .ok (.ireturn, 1) := by decide +kernel
theorem d_Judge_doubts_0 : decode b_Judge_doubts 0 = .ok (.aload_n 0, 1) := by decide +kernel
theorem d_Judge_doubts_1 : decode b_Judge_doubts 1 = .ok (.getfield 78, 3) := by decide +kernel
theorem d_Judge_doubts_4 : decode b_Judge_doubts 4 = .ok (.ifnonnull 7, 3) := by decide +kernel
theorem d_Judge_doubts_7 : decode b_Judge_doubts 7 = .ok (.iconst 0, 1) := by decide +kernel
theorem d_Judge_doubts_8 : decode b_Judge_doubts 8 = .ok (.goto 10, 3) := by decide +kernel
theorem d_Judge_doubts_11 : decode b_Judge_doubts 11 = .ok (.aload_n 0, 1) := by decide +kernel
theorem d_Judge_doubts_12 : decode b_Judge_doubts 12 = .ok (.getfield 78, 3) := by decide +kernel
theorem d_Judge_doubts_15 : decode b_Judge_doubts 15 = .ok (.getfield 177, 3) := by decide +kernel
theorem d_Judge_doubts_18 : decode b_Judge_doubts 18 = .ok (.ireturn, 1) := by decide +kernel
theorem d_Model_init_0 : decode b_Model_init 0 = .ok (.aload_n 0, 1) := by decide +kernel
theorem d_Model_init_1 : decode b_Model_init 1 = .ok (.invokespecial 1, 3) := by decide +kernel
theorem d_Model_init_4 : decode b_Model_init 4 = .ok (.aload_n 0, 1) := by decide +kernel
theorem d_Model_init_5 : decode b_Model_init 5 = .ok (.sipush 6000, 3) := by decide +kernel
theorem d_Model_init_8 : decode b_Model_init 8 = .ok (.newarray .byte, 2) := by decide +kernel
theorem d_Model_init_10 : decode b_Model_init 10 = .ok (.putfield 7, 3) := by decide +kernel
theorem d_Model_init_13 : decode b_Model_init 13 = .ok (.aload_n 0, 1) := by decide +kernel
theorem d_Model_init_14 : decode b_Model_init 14 = .ok (.bipush 20, 2) := by decide +kernel
theorem d_Model_init_16 : decode b_Model_init 16 = .ok (.newarray .byte, 2) := by decide +kernel
theorem d_Model_init_18 : decode b_Model_init 18 = .ok (.putfield 13, 3) := by decide +kernel
theorem d_Model_init_21 : decode b_Model_init 21 = .ok (.aload_n 0, 1) := by decide +kernel
theorem d_Model_init_22 : decode b_Model_init 22 = .ok (.iconst (-1), 1) := by decide +kernel
theorem d_Model_init_23 : decode b_Model_init 23 = .ok (.putfield 16, 3) := by decide +kernel
theorem d_Model_init_26 : decode b_Model_init 26 = .ok (.aload_n 0, 1) := by decide +kernel
theorem d_Model_init_27 : decode b_Model_init 27 = .ok (.bipush 15, 2) := by decide +kernel
theorem d_Model_init_29 : decode b_Model_init 29 = .ok (.newarray .int, 2) := by decide +kernel
theorem d_Model_init_31 : decode b_Model_init 31 = .ok (.putfield 20, 3) := by decide +kernel
theorem d_Model_init_34 : decode b_Model_init 34 = .ok (.aload_n 0, 1) := by decide +kernel
theorem d_Model_init_35 : decode b_Model_init 35 = .ok (.bipush 15, 2) := by decide +kernel
theorem d_Model_init_37 : decode b_Model_init 37 = .ok (.newarray .int, 2) := by decide +kernel
theorem d_Model_init_39 : decode b_Model_init 39 = .ok (.putfield 24, 3) := by decide +kernel
theorem d_Model_init_42 : decode b_Model_init 42 = .ok (.aload_n 0, 1) := by decide +kernel
theorem d_Model_init_43 : decode b_Model_init 43 = .ok (.bipush 21, 2) := by decide +kernel
theorem d_Model_init_45 : decode b_Model_init 45 = .ok (.newarray .int, 2) := by decide +kernel
theorem d_Model_init_47 : decode b_Model_init 47 = .ok (.putfield 27, 3) := by decide +kernel
theorem d_Model_init_50 : decode b_Model_init 50 = .ok (.aload_n 0, 1) := by decide +kernel
theorem d_Model_init_51 : decode b_Model_init 51 = .ok (.bipush 21, 2) := by decide +kernel
theorem d_Model_init_53 : decode b_Model_init 53 = .ok (.newarray .int, 2) := by decide +kernel
theorem d_Model_init_55 : decode b_Model_init 55 = .ok (.putfield 30, 3) := by decide +kernel
theorem d_Model_init_58 : decode b_Model_init 58 = .ok (.aload_n 0, 1) := by decide +kernel
theorem d_Model_init_59 : decode b_Model_init 59 = .ok (.bipush 24, 2) := by decide +kernel
theorem d_Model_init_61 : decode b_Model_init 61 = .ok (.newarray .int, 2) := by decide +kernel
theorem d_Model_init_63 : decode b_Model_init 63 = .ok (.putfield 33, 3) := by decide +kernel
theorem d_Model_init_66 : decode b_Model_init 66 = .ok (.aload_n 0, 1) := by decide +kernel
theorem d_Model_init_67 : decode b_Model_init 67 = .ok (.sipush 450, 3) := by decide +kernel
theorem d_Model_init_70 : decode b_Model_init 70 = .ok (.newarray .int, 2) := by decide +kernel
theorem d_Model_init_72 : decode b_Model_init 72 = .ok (.putfield 36, 3) := by decide +kernel
theorem d_Model_init_75 : decode b_Model_init 75 = .ok (.aload_n 0, 1) := by decide +kernel
theorem d_Model_init_76 : decode b_Model_init 76 = .ok (.sipush 450, 3) := by decide +kernel
theorem d_Model_init_79 : decode b_Model_init 79 = .ok (.newarray .int, 2) := by decide +kernel
theorem d_Model_init_81 : decode b_Model_init 81 = .ok (.putfield 39, 3) := by decide +kernel
theorem d_Model_init_84 : decode b_Model_init 84 = .ok (.aload_n 0, 1) := by decide +kernel
theorem d_Model_init_85 : decode b_Model_init 85 = .ok (.sipush 450, 3) := by decide +kernel
theorem d_Model_init_88 : decode b_Model_init 88 = .ok (.newarray .int, 2) := by decide +kernel
theorem d_Model_init_90 : decode b_Model_init 90 = .ok (.putfield 42, 3) := by decide +kernel
theorem d_Model_init_93 : decode b_Model_init 93 = .ok (.aload_n 0, 1) := by decide +kernel
theorem d_Model_init_94 : decode b_Model_init 94 = .ok (.sipush 603, 3) := by decide +kernel
theorem d_Model_init_97 : decode b_Model_init 97 = .ok (.newarray .int, 2) := by decide +kernel
theorem d_Model_init_99 : decode b_Model_init 99 = .ok (.putfield 45, 3) := by decide +kernel
theorem d_Model_init_102 : decode b_Model_init 102 = .ok (.aload_n 0, 1) := by decide +kernel
theorem d_Model_init_103 : decode b_Model_init 103 = .ok (.sipush 603, 3) := by decide +kernel
theorem d_Model_init_106 : decode b_Model_init 106 = .ok (.newarray .int, 2) := by decide +kernel
theorem d_Model_init_108 : decode b_Model_init 108 = .ok (.putfield 48, 3) := by decide +kernel
theorem d_Model_init_111 : decode b_Model_init 111 = .ok (.aload_n 0, 1) := by decide +kernel
theorem d_Model_init_112 : decode b_Model_init 112 = .ok (.bipush 8, 2) := by decide +kernel
theorem d_Model_init_114 : decode b_Model_init 114 = .ok (.newarray .int, 2) := by decide +kernel
theorem d_Model_init_116 : decode b_Model_init 116 = .ok (.putfield 51, 3) := by decide +kernel
theorem d_Model_init_119 : decode b_Model_init 119 = .ok (.aload_n 0, 1) := by decide +kernel
theorem d_Model_init_120 : decode b_Model_init 120 = .ok (.bipush 8, 2) := by decide +kernel
theorem d_Model_init_122 : decode b_Model_init 122 = .ok (.newarray .int, 2) := by decide +kernel
theorem d_Model_init_124 : decode b_Model_init 124 = .ok (.putfield 54, 3) := by decide +kernel
theorem d_Model_init_127 : decode b_Model_init 127 = .ok (.aload_n 0, 1) := by decide +kernel
theorem d_Model_init_128 : decode b_Model_init 128 = .ok (.sipush 150, 3) := by decide +kernel
theorem d_Model_init_131 : decode b_Model_init 131 = .ok (.newarray .int, 2) := by decide +kernel
theorem d_Model_init_133 : decode b_Model_init 133 = .ok (.putfield 57, 3) := by decide +kernel
theorem d_Model_init_136 : decode b_Model_init 136 = .ok (.aload_n 0, 1) := by decide +kernel
theorem d_Model_init_137 : decode b_Model_init 137 = .ok (.sipush 150, 3) := by decide +kernel
theorem d_Model_init_140 : decode b_Model_init 140 = .ok (.newarray .int, 2) := by decide +kernel
theorem d_Model_init_142 : decode b_Model_init 142 = .ok (.putfield 60, 3) := by decide +kernel
theorem d_Model_init_145 : decode b_Model_init 145 = .ok (.aload_n 0, 1) := by decide +kernel
theorem d_Model_init_146 : decode b_Model_init 146 = .ok (.sipush 2640, 3) := by decide +kernel
theorem d_Model_init_149 : decode b_Model_init 149 = .ok (.newarray .byte, 2) := by decide +kernel
theorem d_Model_init_151 : decode b_Model_init 151 = .ok (.putfield 63, 3) := by decide +kernel
theorem d_Model_init_154 : decode b_Model_init 154 = .ok (.aload_n 0, 1) := by decide +kernel
theorem d_Model_init_155 : decode b_Model_init 155 = .ok (.bipush 66, 2) := by decide +kernel
theorem d_Model_init_157 : decode b_Model_init 157 = .ok (.newarray .int, 2) := by decide +kernel
theorem d_Model_init_159 : decode b_Model_init 159 = .ok (.putfield 66, 3) := by decide +kernel
theorem d_Model_init_162 : decode b_Model_init 162 = .ok (.aload_n 0, 1) := by decide +kernel
theorem d_Model_init_163 : decode b_Model_init 163 = .ok (.sipush 150, 3) := by decide +kernel
theorem d_Model_init_166 : decode b_Model_init 166 = .ok (.newarray .int, 2) := by decide +kernel
theorem d_Model_init_168 : decode b_Model_init 168 = .ok (.putfield 69, 3) := by decide +kernel
theorem d_Model_init_171 : decode b_Model_init 171 = .ok (.aload_n 0, 1) := by decide +kernel
theorem d_Model_init_172 : decode b_Model_init 172 = .ok (.sipush 300, 3) := by decide +kernel
theorem d_Model_init_175 : decode b_Model_init 175 = .ok (.newarray .int, 2) := by decide +kernel
theorem d_Model_init_177 : decode b_Model_init 177 = .ok (.putfield 72, 3) := by decide +kernel
theorem d_Model_init_180 : decode b_Model_init 180 = .ok (.aload_n 0, 1) := by decide +kernel
theorem d_Model_init_181 : decode b_Model_init 181 = .ok (.sipush 201, 3) := by decide +kernel
theorem d_Model_init_184 : decode b_Model_init 184 = .ok (.newarray .boolean, 2) := by decide +kernel
theorem d_Model_init_186 : decode b_Model_init 186 = .ok (.putfield 75, 3) := by decide +kernel
theorem d_Model_init_189 : decode b_Model_init 189 = .ok (.aload_n 0, 1) := by decide +kernel
theorem d_Model_init_190 : decode b_Model_init 190 = .ok (.iconst 2, 1) := by decide +kernel
theorem d_Model_init_191 : decode b_Model_init 191 = .ok (.newarray .boolean, 2) := by decide +kernel
theorem d_Model_init_193 : decode b_Model_init 193 = .ok (.putfield 79, 3) := by decide +kernel
theorem d_Model_init_196 : decode b_Model_init 196 = .ok (.aload_n 0, 1) := by decide +kernel
theorem d_Model_init_197 : decode b_Model_init 197 = .ok (.iconst 2, 1) := by decide +kernel
theorem d_Model_init_198 : decode b_Model_init 198 = .ok (.newarray .int, 2) := by decide +kernel
theorem d_Model_init_200 : decode b_Model_init 200 = .ok (.putfield 82, 3) := by decide +kernel
theorem d_Model_init_203 : decode b_Model_init 203 = .ok (.aload_n 0, 1) := by decide +kernel
theorem d_Model_init_204 : decode b_Model_init 204 = .ok (.sipush 402, 3) := by decide +kernel
theorem d_Model_init_207 : decode b_Model_init 207 = .ok (.newarray .long, 2) := by decide +kernel
theorem d_Model_init_209 : decode b_Model_init 209 = .ok (.putfield 85, 3) := by decide +kernel
theorem d_Model_init_212 : decode b_Model_init 212 = .ok (.aload_n 0, 1) := by decide +kernel
theorem d_Model_init_213 : decode b_Model_init 213 = .ok (.sipush 4096, 3) := by decide +kernel
theorem d_Model_init_216 : decode b_Model_init 216 = .ok (.newarray .long, 2) := by decide +kernel
theorem d_Model_init_218 : decode b_Model_init 218 = .ok (.putfield 89, 3) := by decide +kernel
theorem d_Model_init_221 : decode b_Model_init 221 = .ok (.aload_n 0, 1) := by decide +kernel
theorem d_Model_init_222 : decode b_Model_init 222 = .ok (.ldc 92, 2) := by decide +kernel
theorem d_Model_init_224 : decode b_Model_init 224 = .ok (.newarray .char, 2) := by decide +kernel
theorem d_Model_init_226 : decode b_Model_init 226 = .ok (.putfield 93, 3) := by decide +kernel
theorem d_Model_init_229 : decode b_Model_init 229 = .ok (.aload_n 0, 1) := by decide +kernel
theorem d_Model_init_230 : decode b_Model_init 230 = .ok (.sipush 4096, 3) := by decide +kernel
theorem d_Model_init_233 : decode b_Model_init 233 = .ok (.newarray .int, 2) := by decide +kernel
theorem d_Model_init_235 : decode b_Model_init 235 = .ok (.putfield 97, 3) := by decide +kernel
theorem d_Model_init_238 : decode b_Model_init 238 = .ok (.aload_n 0, 1) := by decide +kernel
theorem d_Model_init_239 : decode b_Model_init 239 = .ok (.sipush 4096, 3) := by decide +kernel
theorem d_Model_init_242 : decode b_Model_init 242 = .ok (.newarray .int, 2) := by decide +kernel
theorem d_Model_init_244 : decode b_Model_init 244 = .ok (.putfield 100, 3) := by decide +kernel
theorem d_Model_init_247 : decode b_Model_init 247 = .ok (.aload_n 0, 1) := by decide +kernel
theorem d_Model_init_248 : decode b_Model_init 248 = .ok (.sipush 4096, 3) := by decide +kernel
theorem d_Model_init_251 : decode b_Model_init 251 = .ok (.newarray .boolean, 2) := by decide +kernel
theorem d_Model_init_253 : decode b_Model_init 253 = .ok (.putfield 103, 3) := by decide +kernel
theorem d_Model_init_256 : decode b_Model_init 256 = .ok (.aload_n 0, 1) := by decide +kernel
theorem d_Model_init_257 : decode b_Model_init 257 = .ok (.sipush 4096, 3) := by decide +kernel
theorem d_Model_init_260 : decode b_Model_init 260 = .ok (.newarray .boolean, 2) := by decide +kernel
theorem d_Model_init_262 : decode b_Model_init 262 = .ok (.putfield 106, 3) := by decide +kernel
theorem d_Model_init_265 : decode b_Model_init 265 = .ok (.aload_n 0, 1) := by decide +kernel
theorem d_Model_init_266 : decode b_Model_init 266 = .ok (.sipush 4096, 3) := by decide +kernel
theorem d_Model_init_269 : decode b_Model_init 269 = .ok (.newarray .boolean, 2) := by decide +kernel
theorem d_Model_init_271 : decode b_Model_init 271 = .ok (.putfield 109, 3) := by decide +kernel
theorem d_Model_init_274 : decode b_Model_init 274 = .ok (.aload_n 0, 1) := by decide +kernel
theorem d_Model_init_275 : decode b_Model_init 275 = .ok (.sipush 256, 3) := by decide +kernel
theorem d_Model_init_278 : decode b_Model_init 278 = .ok (.newarray .int, 2) := by decide +kernel
theorem d_Model_init_280 : decode b_Model_init 280 = .ok (.putfield 112, 3) := by decide +kernel
theorem d_Model_init_283 : decode b_Model_init 283 = .ok (.aload_n 0, 1) := by decide +kernel
theorem d_Model_init_284 : decode b_Model_init 284 = .ok (.sipush 804, 3) := by decide +kernel
theorem d_Model_init_287 : decode b_Model_init 287 = .ok (.newarray .boolean, 2) := by decide +kernel
theorem d_Model_init_289 : decode b_Model_init 289 = .ok (.putfield 115, 3) := by decide +kernel
theorem d_Model_init_292 : decode b_Model_init 292 = .ok (.aload_n 0, 1) := by decide +kernel
theorem d_Model_init_293 : decode b_Model_init 293 = .ok (.sipush 402, 3) := by decide +kernel
theorem d_Model_init_296 : decode b_Model_init 296 = .ok (.newarray .int, 2) := by decide +kernel
theorem d_Model_init_298 : decode b_Model_init 298 = .ok (.putfield 118, 3) := by decide +kernel
theorem d_Model_init_301 : decode b_Model_init 301 = .ok (.aload_n 0, 1) := by decide +kernel
theorem d_Model_init_302 : decode b_Model_init 302 = .ok (.sipush 300, 3) := by decide +kernel
theorem d_Model_init_305 : decode b_Model_init 305 = .ok (.newarray .int, 2) := by decide +kernel
theorem d_Model_init_307 : decode b_Model_init 307 = .ok (.putfield 121, 3) := by decide +kernel
theorem d_Model_init_310 : decode b_Model_init 310 = .ok (.aload_n 0, 1) := by decide +kernel
theorem d_Model_init_311 : decode b_Model_init 311 = .ok (.sipush 300, 3) := by decide +kernel
theorem d_Model_init_314 : decode b_Model_init 314 = .ok (.newarray .int, 2) := by decide +kernel
theorem d_Model_init_316 : decode b_Model_init 316 = .ok (.putfield 124, 3) := by decide +kernel
theorem d_Model_init_319 : decode b_Model_init 319 = .ok (.return_, 1) := by decide +kernel
theorem d_Model_thrown_0 : decode b_Model_thrown 0 = .ok (.aload_n 0, 1) := by decide +kernel
theorem d_Model_thrown_1 : decode b_Model_thrown 1 = .ok (.getfield 127, 3) := by decide +kernel
theorem d_Model_thrown_4 : decode b_Model_thrown 4 = .ok (.ireturn, 1) := by decide +kernel
theorem d_Model_fails_0 : decode b_Model_fails 0 = .ok (.iload_n 1, 1) := by decide +kernel
theorem d_Model_fails_1 : decode b_Model_fails 1 = .ok (.ifCond .eq 15, 3) := by decide +kernel
theorem d_Model_fails_4 : decode b_Model_fails 4 = .ok (.aload_n 0, 1) := by decide +kernel
theorem d_Model_fails_5 : decode b_Model_fails 5 = .ok (.getfield 127, 3) := by decide +kernel
theorem d_Model_fails_8 : decode b_Model_fails 8 = .ok (.ifCond .ne 8, 3) := by decide +kernel
theorem d_Model_fails_11 : decode b_Model_fails 11 = .ok (.aload_n 0, 1) := by decide +kernel
theorem d_Model_fails_12 : decode b_Model_fails 12 = .ok (.iload_n 2, 1) := by decide +kernel
theorem d_Model_fails_13 : decode b_Model_fails 13 = .ok (.putfield 127, 3) := by decide +kernel
theorem d_Model_fails_16 : decode b_Model_fails 16 = .ok (.aload_n 0, 1) := by decide +kernel
theorem d_Model_fails_17 : decode b_Model_fails 17 = .ok (.getfield 127, 3) := by decide +kernel
theorem d_Model_fails_20 : decode b_Model_fails 20 = .ok (.ifCond .eq 7, 3) := by decide +kernel
theorem d_Model_fails_23 : decode b_Model_fails 23 = .ok (.iconst 1, 1) := by decide +kernel
theorem d_Model_fails_24 : decode b_Model_fails 24 = .ok (.goto 4, 3) := by decide +kernel
theorem d_Model_fails_27 : decode b_Model_fails 27 = .ok (.iconst 0, 1) := by decide +kernel
theorem d_Model_fails_28 : decode b_Model_fails 28 = .ok (.ireturn, 1) := by decide +kernel
theorem d_Model_feed_0 : decode b_Model_feed 0 = .ok (.aload_n 0, 1) := by decide +kernel
theorem d_Model_feed_1 : decode b_Model_feed 1 = .ok (.iconst 0, 1) := by decide +kernel
theorem d_Model_feed_2 : decode b_Model_feed 2 = .ok (.putfield 127, 3) := by decide +kernel
theorem d_Model_feed_5 : decode b_Model_feed 5 = .ok (.iconst 0, 1) := by decide +kernel
theorem d_Model_feed_6 : decode b_Model_feed 6 = .ok (.istore 6, 2) := by decide +kernel
theorem d_Model_feed_8 : decode b_Model_feed 8 = .ok (.iload 6, 2) := by decide +kernel
theorem d_Model_feed_10 : decode b_Model_feed 10 = .ok (.bipush 20, 2) := by decide +kernel
theorem d_Model_feed_12 : decode b_Model_feed 12 = .ok (.if_icmp .ge 78, 3) := by decide +kernel
theorem d_Model_feed_15 : decode b_Model_feed 15 = .ok (.iload 6, 2) := by decide +kernel
theorem d_Model_feed_17 : decode b_Model_feed 17 = .ok (.iconst 4, 1) := by decide +kernel
theorem d_Model_feed_18 : decode b_Model_feed 18 = .ok (.if_icmp .ge 7, 3) := by decide +kernel
theorem d_Model_feed_21 : decode b_Model_feed 21 = .ok (.iload_n 1, 1) := by decide +kernel
theorem d_Model_feed_22 : decode b_Model_feed 22 = .ok (.goto 39, 3) := by decide +kernel
theorem d_Model_feed_25 : decode b_Model_feed 25 = .ok (.iload 6, 2) := by decide +kernel
theorem d_Model_feed_27 : decode b_Model_feed 27 = .ok (.bipush 8, 2) := by decide +kernel
theorem d_Model_feed_29 : decode b_Model_feed 29 = .ok (.if_icmp .ge 7, 3) := by decide +kernel
theorem d_Model_feed_32 : decode b_Model_feed 32 = .ok (.iload_n 2, 1) := by decide +kernel
theorem d_Model_feed_33 : decode b_Model_feed 33 = .ok (.goto 28, 3) := by decide +kernel
theorem d_Model_feed_36 : decode b_Model_feed 36 = .ok (.iload 6, 2) := by decide +kernel
theorem d_Model_feed_38 : decode b_Model_feed 38 = .ok (.bipush 12, 2) := by decide +kernel
theorem d_Model_feed_40 : decode b_Model_feed 40 = .ok (.if_icmp .ge 7, 3) := by decide +kernel
theorem d_Model_feed_43 : decode b_Model_feed 43 = .ok (.iload_n 3, 1) := by decide +kernel
theorem d_Model_feed_44 : decode b_Model_feed 44 = .ok (.goto 17, 3) := by decide +kernel
theorem d_Model_feed_47 : decode b_Model_feed 47 = .ok (.iload 6, 2) := by decide +kernel
theorem d_Model_feed_49 : decode b_Model_feed 49 = .ok (.bipush 16, 2) := by decide +kernel
theorem d_Model_feed_51 : decode b_Model_feed 51 = .ok (.if_icmp .ge 8, 3) := by decide +kernel
theorem d_Model_feed_54 : decode b_Model_feed 54 = .ok (.iload 4, 2) := by decide +kernel
theorem d_Model_feed_56 : decode b_Model_feed 56 = .ok (.goto 5, 3) := by decide +kernel
theorem d_Model_feed_59 : decode b_Model_feed 59 = .ok (.iload 5, 2) := by decide +kernel
theorem d_Model_feed_61 : decode b_Model_feed 61 = .ok (.istore 7, 2) := by decide +kernel
theorem d_Model_feed_63 : decode b_Model_feed 63 = .ok (.aload_n 0, 1) := by decide +kernel
theorem d_Model_feed_64 : decode b_Model_feed 64 = .ok (.getfield 13, 3) := by decide +kernel
theorem d_Model_feed_67 : decode b_Model_feed 67 = .ok (.iload 6, 2) := by decide +kernel
theorem d_Model_feed_69 : decode b_Model_feed 69 = .ok (.iload 7, 2) := by decide +kernel
theorem d_Model_feed_71 : decode b_Model_feed 71 = .ok (.bipush 24, 2) := by decide +kernel
theorem d_Model_feed_73 : decode b_Model_feed 73 = .ok (.bipush 8, 2) := by decide +kernel
theorem d_Model_feed_75 : decode b_Model_feed 75 = .ok (.iload 6, 2) := by decide +kernel
theorem d_Model_feed_77 : decode b_Model_feed 77 = .ok (.iconst 4, 1) := by decide +kernel
theorem d_Model_feed_78 : decode b_Model_feed 78 = .ok (.irem, 1) := by decide +kernel
theorem d_Model_feed_79 : decode b_Model_feed 79 = .ok (.imul, 1) := by decide +kernel
theorem d_Model_feed_80 : decode b_Model_feed 80 = .ok (.isub, 1) := by decide +kernel
theorem d_Model_feed_81 : decode b_Model_feed 81 = .ok (.ishr, 1) := by decide +kernel
theorem d_Model_feed_82 : decode b_Model_feed 82 = .ok (.i2b, 1) := by decide +kernel
theorem d_Model_feed_83 : decode b_Model_feed 83 = .ok (.bastore, 1) := by decide +kernel
theorem d_Model_feed_84 : decode b_Model_feed 84 = .ok (.iinc 6 1, 3) := by decide +kernel
theorem d_Model_feed_87 : decode b_Model_feed 87 = .ok (.goto (-79), 3) := by decide +kernel
theorem d_Model_feed_90 : decode b_Model_feed 90 = .ok (.return_, 1) := by decide +kernel
theorem d_Model_end_0 : decode b_Model_end 0 = .ok (.aload_n 0, 1) := by decide +kernel
theorem d_Model_end_1 : decode b_Model_end 1 = .ok (.iconst 0, 1) := by decide +kernel
theorem d_Model_end_2 : decode b_Model_end 2 = .ok (.putfield 127, 3) := by decide +kernel
theorem d_Model_end_5 : decode b_Model_end 5 = .ok (.iload_n 1, 1) := by decide +kernel
theorem d_Model_end_6 : decode b_Model_end 6 = .ok (.ifCond .lt 21, 3) := by decide +kernel
theorem d_Model_end_9 : decode b_Model_end 9 = .ok (.iload_n 1, 1) := by decide +kernel
theorem d_Model_end_10 : decode b_Model_end 10 = .ok (.bipush 20, 2) := by decide +kernel
theorem d_Model_end_12 : decode b_Model_end 12 = .ok (.if_icmp .gt 15, 3) := by decide +kernel
theorem d_Model_end_15 : decode b_Model_end 15 = .ok (.aload_n 0, 1) := by decide +kernel
theorem d_Model_end_16 : decode b_Model_end 16 = .ok (.getfield 130, 3) := by decide +kernel
theorem d_Model_end_19 : decode b_Model_end 19 = .ok (.iload_n 1, 1) := by decide +kernel
theorem d_Model_end_20 : decode b_Model_end 20 = .ok (.iadd, 1) := by decide +kernel
theorem d_Model_end_21 : decode b_Model_end 21 = .ok (.sipush 6000, 3) := by decide +kernel
theorem d_Model_end_24 : decode b_Model_end 24 = .ok (.if_icmp .le 5, 3) := by decide +kernel
theorem d_Model_end_27 : decode b_Model_end 27 = .ok (.iconst (-1), 1) := by decide +kernel
theorem d_Model_end_28 : decode b_Model_end 28 = .ok (.ireturn, 1) := by decide +kernel
theorem d_Model_end_29 : decode b_Model_end 29 = .ok (.iconst 0, 1) := by decide +kernel
theorem d_Model_end_30 : decode b_Model_end 30 = .ok (.istore_n 2, 1) := by decide +kernel
theorem d_Model_end_31 : decode b_Model_end 31 = .ok (.iload_n 2, 1) := by decide +kernel
theorem d_Model_end_32 : decode b_Model_end 32 = .ok (.iload_n 1, 1) := by decide +kernel
theorem d_Model_end_33 : decode b_Model_end 33 = .ok (.if_icmp .ge 26, 3) := by decide +kernel
theorem d_Model_end_36 : decode b_Model_end 36 = .ok (.aload_n 0, 1) := by decide +kernel
theorem d_Model_end_37 : decode b_Model_end 37 = .ok (.getfield 7, 3) := by decide +kernel
theorem d_Model_end_40 : decode b_Model_end 40 = .ok (.aload_n 0, 1) := by decide +kernel
theorem d_Model_end_41 : decode b_Model_end 41 = .ok (.getfield 130, 3) := by decide +kernel
theorem d_Model_end_44 : decode b_Model_end 44 = .ok (.iload_n 2, 1) := by decide +kernel
theorem d_Model_end_45 : decode b_Model_end 45 = .ok (.iadd, 1) := by decide +kernel
theorem d_Model_end_46 : decode b_Model_end 46 = .ok (.aload_n 0, 1) := by decide +kernel
theorem d_Model_end_47 : decode b_Model_end 47 = .ok (.getfield 13, 3) := by decide +kernel
theorem d_Model_end_50 : decode b_Model_end 50 = .ok (.iload_n 2, 1) := by decide +kernel
theorem d_Model_end_51 : decode b_Model_end 51 = .ok (.baload, 1) := by decide +kernel
theorem d_Model_end_52 : decode b_Model_end 52 = .ok (.bastore, 1) := by decide +kernel
theorem d_Model_end_53 : decode b_Model_end 53 = .ok (.iinc 2 1, 3) := by decide +kernel
theorem d_Model_end_56 : decode b_Model_end 56 = .ok (.goto (-25), 3) := by decide +kernel
theorem d_Model_end_59 : decode b_Model_end 59 = .ok (.iconst 0, 1) := by decide +kernel
theorem d_Model_end_60 : decode b_Model_end 60 = .ok (.istore_n 2, 1) := by decide +kernel
theorem d_Model_end_61 : decode b_Model_end 61 = .ok (.iload_n 2, 1) := by decide +kernel
theorem d_Model_end_62 : decode b_Model_end 62 = .ok (.bipush 20, 2) := by decide +kernel
theorem d_Model_end_64 : decode b_Model_end 64 = .ok (.if_icmp .ge 16, 3) := by decide +kernel
theorem d_Model_end_67 : decode b_Model_end 67 = .ok (.aload_n 0, 1) := by decide +kernel
theorem d_Model_end_68 : decode b_Model_end 68 = .ok (.getfield 13, 3) := by decide +kernel
theorem d_Model_end_71 : decode b_Model_end 71 = .ok (.iload_n 2, 1) := by decide +kernel
theorem d_Model_end_72 : decode b_Model_end 72 = .ok (.iconst 0, 1) := by decide +kernel
theorem d_Model_end_73 : decode b_Model_end 73 = .ok (.bastore, 1) := by decide +kernel
theorem d_Model_end_74 : decode b_Model_end 74 = .ok (.iinc 2 1, 3) := by decide +kernel
theorem d_Model_end_77 : decode b_Model_end 77 = .ok (.goto (-16), 3) := by decide +kernel
theorem d_Model_end_80 : decode b_Model_end 80 = .ok (.aload_n 0, 1) := by decide +kernel
theorem d_Model_end_81 : decode b_Model_end 81 = .ok (.dup, 1) := by decide +kernel
theorem d_Model_end_82 : decode b_Model_end 82 = .ok (.getfield 130, 3) := by decide +kernel
theorem d_Model_end_85 : decode b_Model_end 85 = .ok (.iload_n 1, 1) := by decide +kernel
theorem d_Model_end_86 : decode b_Model_end 86 = .ok (.iadd, 1) := by decide +kernel
theorem d_Model_end_87 : decode b_Model_end 87 = .ok (.putfield 130, 3) := by decide +kernel
theorem d_Model_end_90 : decode b_Model_end 90 = .ok (.aload_n 0, 1) := by decide +kernel
theorem d_Model_end_91 : decode b_Model_end 91 = .ok (.getfield 130, 3) := by decide +kernel
theorem d_Model_end_94 : decode b_Model_end 94 = .ok (.ireturn, 1) := by decide +kernel
theorem d_Model_here_0 : decode b_Model_here 0 = .ok (.aload_n 0, 1) := by decide +kernel
theorem d_Model_here_1 : decode b_Model_here 1 = .ok (.getfield 133, 3) := by decide +kernel
theorem d_Model_here_4 : decode b_Model_here 4 = .ok (.aload_n 0, 1) := by decide +kernel
theorem d_Model_here_5 : decode b_Model_here 5 = .ok (.getfield 130, 3) := by decide +kernel
theorem d_Model_here_8 : decode b_Model_here 8 = .ok (.if_icmp .ge 19, 3) := by decide +kernel
theorem d_Model_here_11 : decode b_Model_here 11 = .ok (.aload_n 0, 1) := by decide +kernel
theorem d_Model_here_12 : decode b_Model_here 12 = .ok (.getfield 7, 3) := by decide +kernel
theorem d_Model_here_15 : decode b_Model_here 15 = .ok (.aload_n 0, 1) := by decide +kernel
theorem d_Model_here_16 : decode b_Model_here 16 = .ok (.getfield 133, 3) := by decide +kernel
theorem d_Model_here_19 : decode b_Model_here 19 = .ok (.baload, 1) := by decide +kernel
theorem d_Model_here_20 : decode b_Model_here 20 = .ok (.sipush 255, 3) := by decide +kernel
theorem d_Model_here_23 : decode b_Model_here 23 = .ok (.iand, 1) := by decide +kernel
theorem d_Model_here_24 : decode b_Model_here 24 = .ok (.goto 4, 3) := by decide +kernel
theorem d_Model_here_27 : decode b_Model_here 27 = .ok (.iconst (-1), 1) := by decide +kernel
theorem d_Model_here_28 : decode b_Model_here 28 = .ok (.ireturn, 1) := by decide +kernel
theorem d_Model_wrong_0 : decode b_Model_wrong 0 = .ok (.aload_n 0, 1) := by decide +kernel
theorem d_Model_wrong_1 : decode b_Model_wrong 1 = .ok (.getfield 136, 3) := by decide +kernel
theorem d_Model_wrong_4 : decode b_Model_wrong 4 = .ok (.ifCond .le 4, 3) := by decide +kernel
theorem d_Model_wrong_7 : decode b_Model_wrong 7 = .ok (.return_, 1) := by decide +kernel
theorem d_Model_wrong_8 : decode b_Model_wrong 8 = .ok (.aload_n 0, 1) := by decide +kernel
theorem d_Model_wrong_9 : decode b_Model_wrong 9 = .ok (.iload_n 1, 1) := by decide +kernel
theorem d_Model_wrong_10 : decode b_Model_wrong 10 = .ok (.putfield 136, 3) := by decide +kernel
theorem d_Model_wrong_13 : decode b_Model_wrong 13 = .ok (.aload_n 0, 1) := by decide +kernel
theorem d_Model_wrong_14 : decode b_Model_wrong 14 = .ok (.iload_n 2, 1) := by decide +kernel
theorem d_Model_wrong_15 : decode b_Model_wrong 15 = .ok (.putfield 139, 3) := by decide +kernel
theorem d_Model_wrong_18 : decode b_Model_wrong 18 = .ok (.return_, 1) := by decide +kernel
theorem d_Model_take_0 : decode b_Model_take 0 = .ok (.aload_n 0, 1) := by decide +kernel
theorem d_Model_take_1 : decode b_Model_take 1 = .ok (.getfield 136, 3) := by decide +kernel
theorem d_Model_take_4 : decode b_Model_take 4 = .ok (.ifCond .le 4, 3) := by decide +kernel
theorem d_Model_take_7 : decode b_Model_take 7 = .ok (.return_, 1) := by decide +kernel
theorem d_Model_take_8 : decode b_Model_take 8 = .ok (.aload_n 0, 1) := by decide +kernel
theorem d_Model_take_9 : decode b_Model_take 9 = .ok (.invokevirtual 142, 3) := by decide +kernel
theorem d_Model_take_12 : decode b_Model_take 12 = .ok (.iload_n 1, 1) := by decide +kernel
theorem d_Model_take_13 : decode b_Model_take 13 = .ok (.if_icmp .ne 16, 3) := by decide +kernel
theorem d_Model_take_16 : decode b_Model_take 16 = .ok (.aload_n 0, 1) := by decide +kernel
theorem d_Model_take_17 : decode b_Model_take 17 = .ok (.dup, 1) := by decide +kernel
theorem d_Model_take_18 : decode b_Model_take 18 = .ok (.getfield 133, 3) := by decide +kernel
theorem d_Model_take_21 : decode b_Model_take 21 = .ok (.iconst 1, 1) := by decide +kernel
theorem d_Model_take_22 : decode b_Model_take 22 = .ok (.iadd, 1) := by decide +kernel
theorem d_Model_take_23 : decode b_Model_take 23 = .ok (.putfield 133, 3) := by decide +kernel
theorem d_Model_take_26 : decode b_Model_take 26 = .ok (.goto 12, 3) := by decide +kernel
theorem d_Model_take_29 : decode b_Model_take 29 = .ok (.aload_n 0, 1) := by decide +kernel
theorem d_Model_take_30 : decode b_Model_take 30 = .ok (.iconst 1, 1) := by decide +kernel
theorem d_Model_take_31 : decode b_Model_take 31 = .ok (.aload_n 0, 1) := by decide +kernel
theorem d_Model_take_32 : decode b_Model_take 32 = .ok (.getfield 133, 3) := by decide +kernel
theorem d_Model_take_35 : decode b_Model_take 35 = .ok (.invokevirtual 146, 3) := by decide +kernel
theorem d_Model_take_38 : decode b_Model_take 38 = .ok (.return_, 1) := by decide +kernel
theorem d_Model_isDigit_0 : decode b_Model_isDigit 0 = .ok (.aload_n 0, 1) := by decide +kernel
theorem d_Model_isDigit_1 : decode b_Model_isDigit 1 = .ok (.invokevirtual 142, 3) := by decide +kernel
theorem d_Model_isDigit_4 : decode b_Model_isDigit 4 = .ok (.bipush 48, 2) := by decide +kernel
theorem d_Model_isDigit_6 : decode b_Model_isDigit 6 = .ok (.if_icmp .lt 16, 3) := by decide +kernel
theorem d_Model_isDigit_9 : decode b_Model_isDigit 9 = .ok (.aload_n 0, 1) := by decide +kernel
theorem d_Model_isDigit_10 : decode b_Model_isDigit 10 = .ok (.invokevirtual 142, 3) := by decide +kernel
theorem d_Model_isDigit_13 : decode b_Model_isDigit 13 = .ok (.bipush 57, 2) := by decide +kernel
theorem d_Model_isDigit_15 : decode b_Model_isDigit 15 = .ok (.if_icmp .gt 7, 3) := by decide +kernel
theorem d_Model_isDigit_18 : decode b_Model_isDigit 18 = .ok (.iconst 1, 1) := by decide +kernel
theorem d_Model_isDigit_19 : decode b_Model_isDigit 19 = .ok (.goto 4, 3) := by decide +kernel
theorem d_Model_isDigit_22 : decode b_Model_isDigit 22 = .ok (.iconst 0, 1) := by decide +kernel
theorem d_Model_isDigit_23 : decode b_Model_isDigit 23 = .ok (.ireturn, 1) := by decide +kernel
theorem d_Model_takeNumber_0 : decode b_Model_takeNumber 0 = .ok (.aload_n 0, 1) := by decide +kernel
theorem d_Model_takeNumber_1 : decode b_Model_takeNumber 1 = .ok (.getfield 136, 3) := by decide +kernel
theorem d_Model_takeNumber_4 : decode b_Model_takeNumber 4 = .ok (.ifCond .le 4, 3) := by decide +kernel
theorem d_Model_takeNumber_7 : decode b_Model_takeNumber 7 = .ok (.return_, 1) := by decide +kernel
theorem d_Model_takeNumber_8 : decode b_Model_takeNumber 8 = .ok (.iconst 0, 1) := by decide +kernel
theorem d_Model_takeNumber_9 : decode b_Model_takeNumber 9 = .ok (.istore_n 1, 1) := by decide +kernel
theorem d_Model_takeNumber_10 : decode b_Model_takeNumber 10 = .ok (.aload_n 0, 1) := by decide +kernel
theorem d_Model_takeNumber_11 : decode b_Model_takeNumber 11 = .ok (.iconst 0, 1) := by decide +kernel
theorem d_Model_takeNumber_12 : decode b_Model_takeNumber 12 = .ok (.putfield 150, 3) := by decide +kernel
theorem d_Model_takeNumber_15 : decode b_Model_takeNumber 15 = .ok (.aload_n 0, 1) := by decide +kernel
theorem d_Model_takeNumber_16 : decode b_Model_takeNumber 16 = .ok (.invokevirtual 153, 3) := by decide +kernel
theorem d_Model_takeNumber_19 : decode b_Model_takeNumber 19 = .ok (.ifCond .ne 12, 3) := by decide +kernel
theorem d_Model_takeNumber_22 : decode b_Model_takeNumber 22 = .ok (.aload_n 0, 1) := by decide +kernel
theorem d_Model_takeNumber_23 : decode b_Model_takeNumber 23 = .ok (.iconst 1, 1) := by decide +kernel
theorem d_Model_takeNumber_24 : decode b_Model_takeNumber 24 = .ok (.aload_n 0, 1) := by decide +kernel
theorem d_Model_takeNumber_25 : decode b_Model_takeNumber 25 = .ok (.getfield 133, 3) := by decide +kernel
theorem d_Model_takeNumber_28 : decode b_Model_takeNumber 28 = .ok (.invokevirtual 146, 3) := by decide +kernel
theorem d_Model_takeNumber_31 : decode b_Model_takeNumber 31 = .ok (.aload_n 0, 1) := by decide +kernel
theorem d_Model_takeNumber_32 : decode b_Model_takeNumber 32 = .ok (.invokevirtual 153, 3) := by decide +kernel
theorem d_Model_takeNumber_35 : decode b_Model_takeNumber 35 = .ok (.ifCond .eq 74, 3) := by decide +kernel
theorem d_Model_takeNumber_38 : decode b_Model_takeNumber 38 = .ok (.aload_n 0, 1) := by decide +kernel
theorem d_Model_takeNumber_39 : decode b_Model_takeNumber 39 = .ok (.getfield 136, 3) := by decide +kernel
theorem d_Model_takeNumber_42 : decode b_Model_takeNumber 42 = .ok (.ifCond .ne 67, 3) := by decide +kernel
theorem d_Model_takeNumber_45 : decode b_Model_takeNumber 45 = .ok (.iload_n 1, 1) := by decide +kernel
theorem d_Model_takeNumber_46 : decode b_Model_takeNumber 46 = .ok (.iconst 4, 1) := by decide +kernel
theorem d_Model_takeNumber_47 : decode b_Model_takeNumber 47 = .ok (.if_icmp .eq 15, 3) := by decide +kernel
theorem d_Model_takeNumber_50 : decode b_Model_takeNumber 50 = .ok (.iload_n 1, 1) := by decide +kernel
theorem d_Model_takeNumber_51 : decode b_Model_takeNumber 51 = .ok (.iconst 1, 1) := by decide +kernel
theorem d_Model_takeNumber_52 : decode b_Model_takeNumber 52 = .ok (.if_icmp .ne 22, 3) := by decide +kernel
theorem d_Model_takeNumber_55 : decode b_Model_takeNumber 55 = .ok (.aload_n 0, 1) := by decide +kernel
theorem d_Model_takeNumber_56 : decode b_Model_takeNumber 56 = .ok (.getfield 150, 3) := by decide +kernel
theorem d_Model_takeNumber_59 : decode b_Model_takeNumber 59 = .ok (.ifCond .ne 15, 3) := by decide +kernel
theorem d_Model_takeNumber_62 : decode b_Model_takeNumber 62 = .ok (.aload_n 0, 1) := by decide +kernel
theorem d_Model_takeNumber_63 : decode b_Model_takeNumber 63 = .ok (.iconst 1, 1) := by decide +kernel
theorem d_Model_takeNumber_64 : decode b_Model_takeNumber 64 = .ok (.aload_n 0, 1) := by decide +kernel
theorem d_Model_takeNumber_65 : decode b_Model_takeNumber 65 = .ok (.getfield 133, 3) := by decide +kernel
theorem d_Model_takeNumber_68 : decode b_Model_takeNumber 68 = .ok (.invokevirtual 146, 3) := by decide +kernel
theorem d_Model_takeNumber_71 : decode b_Model_takeNumber 71 = .ok (.goto (-40), 3) := by decide +kernel
theorem d_Model_takeNumber_74 : decode b_Model_takeNumber 74 = .ok (.aload_n 0, 1) := by decide +kernel
theorem d_Model_takeNumber_75 : decode b_Model_takeNumber 75 = .ok (.bipush 10, 2) := by decide +kernel
theorem d_Model_takeNumber_77 : decode b_Model_takeNumber 77 = .ok (.aload_n 0, 1) := by decide +kernel
theorem d_Model_takeNumber_78 : decode b_Model_takeNumber 78 = .ok (.getfield 150, 3) := by decide +kernel
theorem d_Model_takeNumber_81 : decode b_Model_takeNumber 81 = .ok (.imul, 1) := by decide +kernel
theorem d_Model_takeNumber_82 : decode b_Model_takeNumber 82 = .ok (.aload_n 0, 1) := by decide +kernel
theorem d_Model_takeNumber_83 : decode b_Model_takeNumber 83 = .ok (.invokevirtual 142, 3) := by decide +kernel
theorem d_Model_takeNumber_86 : decode b_Model_takeNumber 86 = .ok (.iadd, 1) := by decide +kernel
theorem d_Model_takeNumber_87 : decode b_Model_takeNumber 87 = .ok (.bipush 48, 2) := by decide +kernel
theorem d_Model_takeNumber_89 : decode b_Model_takeNumber 89 = .ok (.isub, 1) := by decide +kernel
theorem d_Model_takeNumber_90 : decode b_Model_takeNumber 90 = .ok (.putfield 150, 3) := by decide +kernel
theorem d_Model_takeNumber_93 : decode b_Model_takeNumber 93 = .ok (.iinc 1 1, 3) := by decide +kernel
theorem d_Model_takeNumber_96 : decode b_Model_takeNumber 96 = .ok (.aload_n 0, 1) := by decide +kernel
theorem d_Model_takeNumber_97 : decode b_Model_takeNumber 97 = .ok (.dup, 1) := by decide +kernel
theorem d_Model_takeNumber_98 : decode b_Model_takeNumber 98 = .ok (.getfield 133, 3) := by decide +kernel
theorem d_Model_takeNumber_101 : decode b_Model_takeNumber 101 = .ok (.iconst 1, 1) := by decide +kernel
theorem d_Model_takeNumber_102 : decode b_Model_takeNumber 102 = .ok (.iadd, 1) := by decide +kernel
theorem d_Model_takeNumber_103 : decode b_Model_takeNumber 103 = .ok (.putfield 133, 3) := by decide +kernel
theorem d_Model_takeNumber_106 : decode b_Model_takeNumber 106 = .ok (.goto (-75), 3) := by decide +kernel
theorem d_Model_takeNumber_109 : decode b_Model_takeNumber 109 = .ok (.return_, 1) := by decide +kernel
theorem d_Model_literal_0 : decode b_Model_literal 0 = .ok (.aload_n 0, 1) := by decide +kernel
theorem d_Model_literal_1 : decode b_Model_literal 1 = .ok (.getfield 133, 3) := by decide +kernel
theorem d_Model_literal_4 : decode b_Model_literal 4 = .ok (.istore_n 1, 1) := by decide +kernel
theorem d_Model_literal_5 : decode b_Model_literal 5 = .ok (.aload_n 0, 1) := by decide +kernel
theorem d_Model_literal_6 : decode b_Model_literal 6 = .ok (.invokevirtual 157, 3) := by decide +kernel
theorem d_Model_literal_9 : decode b_Model_literal 9 = .ok (.aload_n 0, 1) := by decide +kernel
theorem d_Model_literal_10 : decode b_Model_literal 10 = .ok (.getfield 136, 3) := by decide +kernel
theorem d_Model_literal_13 : decode b_Model_literal 13 = .ok (.ifCond .ne 27, 3) := by decide +kernel
theorem d_Model_literal_16 : decode b_Model_literal 16 = .ok (.aload_n 0, 1) := by decide +kernel
theorem d_Model_literal_17 : decode b_Model_literal 17 = .ok (.getfield 150, 3) := by decide +kernel
theorem d_Model_literal_20 : decode b_Model_literal 20 = .ok (.iconst 2, 1) := by decide +kernel
theorem d_Model_literal_21 : decode b_Model_literal 21 = .ok (.aload_n 0, 1) := by decide +kernel
theorem d_Model_literal_22 : decode b_Model_literal 22 = .ok (.getfield 20, 3) := by decide +kernel
theorem d_Model_literal_25 : decode b_Model_literal 25 = .ok (.bipush 10, 2) := by decide +kernel
theorem d_Model_literal_27 : decode b_Model_literal 27 = .ok (.iaload, 1) := by decide +kernel
theorem d_Model_literal_28 : decode b_Model_literal 28 = .ok (.imul, 1) := by decide +kernel
theorem d_Model_literal_29 : decode b_Model_literal 29 = .ok (.iconst 1, 1) := by decide +kernel
theorem d_Model_literal_30 : decode b_Model_literal 30 = .ok (.iadd, 1) := by decide +kernel
theorem d_Model_literal_31 : decode b_Model_literal 31 = .ok (.if_icmp .le 9, 3) := by decide +kernel
theorem d_Model_literal_34 : decode b_Model_literal 34 = .ok (.aload_n 0, 1) := by decide +kernel
theorem d_Model_literal_35 : decode b_Model_literal 35 = .ok (.iconst 3, 1) := by decide +kernel
theorem d_Model_literal_36 : decode b_Model_literal 36 = .ok (.iload_n 1, 1) := by decide +kernel
theorem d_Model_literal_37 : decode b_Model_literal 37 = .ok (.invokevirtual 146, 3) := by decide +kernel
theorem d_Model_literal_40 : decode b_Model_literal 40 = .ok (.aload_n 0, 1) := by decide +kernel
theorem d_Model_literal_41 : decode b_Model_literal 41 = .ok (.getfield 150, 3) := by decide +kernel
theorem d_Model_literal_44 : decode b_Model_literal 44 = .ok (.ireturn, 1) := by decide +kernel
