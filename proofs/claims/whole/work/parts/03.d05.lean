theorem d_Judge_judge_0 : decode b_Judge_judge 0 = .ok (.aload_n 0, 1) := by decide +kernel
theorem d_Judge_judge_1 : decode b_Judge_judge 1 = .ok (.invokevirtual 120, 3) := by decide +kernel
theorem d_Judge_judge_4 : decode b_Judge_judge 4 = .ok (.aload_n 0, 1) := by decide +kernel
theorem d_Judge_judge_5 : decode b_Judge_judge 5 = .ok (.invokevirtual 131, 3) := by decide +kernel
theorem d_Judge_judge_8 : decode b_Judge_judge 8 = .ok (.getfield 134, 3) := by decide +kernel
theorem d_Judge_judge_11 : decode b_Judge_judge 11 = .ok (.getfield 138, 3) := by decide +kernel
theorem d_Judge_judge_14 : decode b_Judge_judge 14 = .ok (.ireturn, 1) := by decide +kernel
theorem d_Judge_witness_0 : decode b_Judge_witness 0 = .ok (.iload_n 1, 1) := by decide +kernel
theorem d_Judge_witness_1 : decode b_Judge_witness 1 = .ok (.ifCond .lt 17, 3) := by decide +kernel
theorem d_Judge_witness_4 : decode b_Judge_witness 4 = .ok (.iload_n 1, 1) := by decide +kernel
theorem d_Judge_witness_5 : decode b_Judge_witness 5 = .ok (.sipush 256, 3) := by decide +kernel
theorem d_Judge_witness_8 : decode b_Judge_witness 8 = .ok (.if_icmp .ge 10, 3) := by decide +kernel
theorem d_Judge_witness_11 : decode b_Judge_witness 11 = .ok (.aload_n 0, 1) := by decide +kernel
theorem d_Judge_witness_12 : decode b_Judge_witness 12 = .ok (.invokevirtual 141, 3) := by decide +kernel
theorem d_Judge_witness_15 : decode b_Judge_witness 15 = .ok (.ifCond .ne 5, 3) := by decide +kernel
theorem d_Judge_witness_18 : decode b_Judge_witness 18 = .ok (.iconst (-1), 1) := by decide +kernel
theorem d_Judge_witness_19 : decode b_Judge_witness 19 = .ok (.ireturn, 1) := by decide +kernel
theorem d_Judge_witness_20 : decode b_Judge_witness 20 = .ok (.aload_n 0, 1) := by decide +kernel
theorem d_Judge_witness_21 : decode b_Judge_witness 21 = .ok (.invokevirtual 131, 3) := by decide +kernel
theorem d_Judge_witness_24 : decode b_Judge_witness 24 = .ok (.getfield 134, 3) := by decide +kernel
theorem d_Judge_witness_27 : decode b_Judge_witness 27 = .ok (.astore_n 2, 1) := by decide +kernel
theorem d_Judge_witness_28 : decode b_Judge_witness 28 = .ok (.iload_n 1, 1) := by decide +kernel
theorem d_Judge_witness_29 : decode b_Judge_witness 29 = .ok (.aload_n 2, 1) := by decide +kernel
theorem d_Judge_witness_30 : decode b_Judge_witness 30 = .ok (.getfield 138, 3) := by decide +kernel
theorem d_Judge_witness_33 : decode b_Judge_witness 33 = .ok (.if_icmp .ge 12, 3) := by decide +kernel
theorem d_Judge_witness_36 : decode b_Judge_witness 36 = .ok (.aload_n 2, 1) := by decide +kernel
theorem d_Judge_witness_37 : decode b_Judge_witness 37 = .ok (.getfield 144, 3) := by decide +kernel
theorem d_Judge_witness_40 : decode b_Judge_witness 40 = .ok (.iload_n 1, 1) := by decide +kernel
theorem d_Judge_witness_41 : decode b_Judge_witness 41 = .ok (.iaload, 1) := by decide +kernel
theorem d_Judge_witness_42 : decode b_Judge_witness 42 = .ok (.goto 4, 3) := by decide +kernel
theorem d_Judge_witness_45 : decode b_Judge_witness 45 = .ok (.iconst (-1), 1) := by decide +kernel
theorem d_Judge_witness_46 : decode b_Judge_witness 46 = .ok (.ireturn, 1) := by decide +kernel
theorem d_Judge_blame_0 : decode b_Judge_blame 0 = .ok (.aload_n 0, 1) := by decide +kernel
theorem d_Judge_blame_1 : decode b_Judge_blame 1 = .ok (.invokevirtual 141, 3) := by decide +kernel
theorem d_Judge_blame_4 : decode b_Judge_blame 4 = .ok (.ifCond .ne 5, 3) := by decide +kernel
theorem d_Judge_blame_7 : decode b_Judge_blame 7 = .ok (.iconst (-1), 1) := by decide +kernel
theorem d_Judge_blame_8 : decode b_Judge_blame 8 = .ok (.ireturn, 1) := by decide +kernel
theorem d_Judge_blame_9 : decode b_Judge_blame 9 = .ok (.aload_n 0, 1) := by decide +kernel
theorem d_Judge_blame_10 : decode b_Judge_blame 10 = .ok (.invokevirtual 131, 3) := by decide +kernel
theorem d_Judge_blame_13 : decode b_Judge_blame 13 = .ok (.getfield 134, 3) := by decide +kernel
theorem d_Judge_blame_16 : decode b_Judge_blame 16 = .ok (.astore_n 1, 1) := by decide +kernel
theorem d_Judge_blame_17 : decode b_Judge_blame 17 = .ok (.aload_n 1, 1) := by decide +kernel
theorem d_Judge_blame_18 : decode b_Judge_blame 18 = .ok (.getfield 138, 3) := by decide +kernel
theorem d_Judge_blame_21 : decode b_Judge_blame 21 = .ok (.sipush 256, 3) := by decide +kernel
theorem d_Judge_blame_24 : decode b_Judge_blame 24 = .ok (.if_icmp .gt 10, 3) := by decide +kernel
theorem d_Judge_blame_27 : decode b_Judge_blame 27 = .ok (.aload_n 1, 1) := by decide +kernel
theorem d_Judge_blame_28 : decode b_Judge_blame 28 = .ok (.getfield 147, 3) := by decide +kernel
theorem d_Judge_blame_31 : decode b_Judge_blame 31 = .ok (.goto 4, 3) := by decide +kernel
theorem d_Judge_blame_34 : decode b_Judge_blame 34 = .ok (.iconst (-1), 1) := by decide +kernel
theorem d_Judge_blame_35 : decode b_Judge_blame 35 = .ok (.ireturn, 1) := by decide +kernel
theorem d_Judge_must_0 : decode b_Judge_must 0 = .ok (.iload_n 0, 1) := by decide +kernel
theorem d_Judge_must_1 : decode b_Judge_must 1 = .ok (.ifCond .ne 13, 3) := by decide +kernel
theorem d_Judge_must_4 : decode b_Judge_must 4 = .ok (.new 64, 3) := by decide +kernel
theorem d_Judge_must_7 : decode b_Judge_must 7 = .ok (.dup, 1) := by decide +kernel
theorem d_Judge_must_8 : decode b_Judge_must 8 = .ok (.ldc 198, 2) := by decide +kernel
theorem d_Judge_must_10 : decode b_Judge_must 10 = .ok (.invokespecial 68, 3) := by decide +kernel
theorem d_Judge_must_13 : decode b_Judge_must 13 = .ok (.athrow, 1) := by decide +kernel
theorem d_Judge_must_14 : decode b_Judge_must 14 = .ok (.return_, 1) := by decide +kernel
theorem d_Judge_differs_0 : decode b_Judge_differs 0 = .ok (.aload_n 0, 1) := by decide +kernel
theorem d_Judge_differs_1 : decode b_Judge_differs 1 = .ok (.invokevirtual 120, 3) := by decide +kernel
theorem d_Judge_differs_4 : decode b_Judge_differs 4 = .ok (.iload_n 1, 1) := by decide +kernel
theorem d_Judge_differs_5 : decode b_Judge_differs 5 = .ok (.iconst 1, 1) := by decide +kernel
theorem d_Judge_differs_6 : decode b_Judge_differs 6 = .ok (.if_icmp .lt 13, 3) := by decide +kernel
theorem d_Judge_differs_9 : decode b_Judge_differs 9 = .ok (.iload_n 1, 1) := by decide +kernel
theorem d_Judge_differs_10 : decode b_Judge_differs 10 = .ok (.bipush 16, 2) := by decide +kernel
theorem d_Judge_differs_12 : decode b_Judge_differs 12 = .ok (.if_icmp .gt 7, 3) := by decide +kernel
theorem d_Judge_differs_15 : decode b_Judge_differs 15 = .ok (.iconst 1, 1) := by decide +kernel
theorem d_Judge_differs_16 : decode b_Judge_differs 16 = .ok (.goto 4, 3) := by decide +kernel
theorem d_Judge_differs_19 : decode b_Judge_differs 19 = .ok (.iconst 0, 1) := by decide +kernel
theorem d_Judge_differs_20 : decode b_Judge_differs 20 = .ok (.invokestatic 150, 3) := by decide +kernel
theorem d_Judge_differs_23 : decode b_Judge_differs 23 = .ok (.aload_n 0, 1) := by decide +kernel
theorem d_Judge_differs_24 : decode b_Judge_differs 24 = .ok (.invokevirtual 131, 3) := by decide +kernel
theorem d_Judge_differs_27 : decode b_Judge_differs 27 = .ok (.getfield 134, 3) := by decide +kernel
theorem d_Judge_differs_30 : decode b_Judge_differs 30 = .ok (.getfield 138, 3) := by decide +kernel
theorem d_Judge_differs_33 : decode b_Judge_differs 33 = .ok (.istore_n 2, 1) := by decide +kernel
theorem d_Judge_differs_34 : decode b_Judge_differs 34 = .ok (.iload_n 2, 1) := by decide +kernel
theorem d_Judge_differs_35 : decode b_Judge_differs 35 = .ok (.iload_n 1, 1) := by decide +kernel
theorem d_Judge_differs_36 : decode b_Judge_differs 36 = .ok (.if_icmp .gt 7, 3) := by decide +kernel
theorem d_Judge_differs_39 : decode b_Judge_differs 39 = .ok (.iload_n 2, 1) := by decide +kernel
theorem d_Judge_differs_40 : decode b_Judge_differs 40 = .ok (.goto 4, 3) := by decide +kernel
theorem d_Judge_differs_43 : decode b_Judge_differs 43 = .ok (.iconst 0, 1) := by decide +kernel
theorem d_Judge_differs_44 : decode b_Judge_differs 44 = .ok (.ireturn, 1) := by decide +kernel
theorem d_Table_isPair_0 : decode b_Table_isPair 0 = .ok (.iload_n 1, 1) := by decide +kernel
theorem d_Table_isPair_1 : decode b_Table_isPair 1 = .ok (.bipush 64, 2) := by decide +kernel
theorem d_Table_isPair_3 : decode b_Table_isPair 3 = .ok (.idiv, 1) := by decide +kernel
theorem d_Table_isPair_4 : decode b_Table_isPair 4 = .ok (.aload_n 0, 1) := by decide +kernel
theorem d_Table_isPair_5 : decode b_Table_isPair 5 = .ok (.getfield 21, 3) := by decide +kernel
theorem d_Table_isPair_8 : decode b_Table_isPair 8 = .ok (.iconst 0, 1) := by decide +kernel
theorem d_Table_isPair_9 : decode b_Table_isPair 9 = .ok (.iaload, 1) := by decide +kernel
theorem d_Table_isPair_10 : decode b_Table_isPair 10 = .ok (.if_icmp .ge 20, 3) := by decide +kernel
theorem d_Table_isPair_13 : decode b_Table_isPair 13 = .ok (.iload_n 1, 1) := by decide +kernel
theorem d_Table_isPair_14 : decode b_Table_isPair 14 = .ok (.bipush 64, 2) := by decide +kernel
theorem d_Table_isPair_16 : decode b_Table_isPair 16 = .ok (.irem, 1) := by decide +kernel
theorem d_Table_isPair_17 : decode b_Table_isPair 17 = .ok (.aload_n 0, 1) := by decide +kernel
theorem d_Table_isPair_18 : decode b_Table_isPair 18 = .ok (.getfield 21, 3) := by decide +kernel
theorem d_Table_isPair_21 : decode b_Table_isPair 21 = .ok (.iconst 1, 1) := by decide +kernel
theorem d_Table_isPair_22 : decode b_Table_isPair 22 = .ok (.iaload, 1) := by decide +kernel
theorem d_Table_isPair_23 : decode b_Table_isPair 23 = .ok (.if_icmp .ge 7, 3) := by decide +kernel
theorem d_Table_isPair_26 : decode b_Table_isPair 26 = .ok (.iconst 1, 1) := by decide +kernel
theorem d_Table_isPair_27 : decode b_Table_isPair 27 = .ok (.goto 4, 3) := by decide +kernel
theorem d_Table_isPair_30 : decode b_Table_isPair 30 = .ok (.iconst 0, 1) := by decide +kernel
theorem d_Table_isPair_31 : decode b_Table_isPair 31 = .ok (.ireturn, 1) := by decide +kernel
theorem d_Layers_isInLayer_0 : decode b_Layers_isInLayer 0 = .ok (.aload_n 0, 1) := by decide +kernel
theorem d_Layers_isInLayer_1 : decode b_Layers_isInLayer 1 = .ok (.getfield 18, 3) := by decide +kernel
theorem d_Layers_isInLayer_4 : decode b_Layers_isInLayer 4 = .ok (.iload_n 1, 1) := by decide +kernel
theorem d_Layers_isInLayer_5 : decode b_Layers_isInLayer 5 = .ok (.invokevirtual 48, 3) := by decide +kernel
theorem d_Layers_isInLayer_8 : decode b_Layers_isInLayer 8 = .ok (.istore_n 2, 1) := by decide +kernel
theorem d_Layers_isInLayer_9 : decode b_Layers_isInLayer 9 = .ok (.aload_n 0, 1) := by decide +kernel
theorem d_Layers_isInLayer_10 : decode b_Layers_isInLayer 10 = .ok (.getfield 22, 3) := by decide +kernel
theorem d_Layers_isInLayer_13 : decode b_Layers_isInLayer 13 = .ok (.ifCond .ne 13, 3) := by decide +kernel
theorem d_Layers_isInLayer_16 : decode b_Layers_isInLayer 16 = .ok (.iload_n 2, 1) := by decide +kernel
theorem d_Layers_isInLayer_17 : decode b_Layers_isInLayer 17 = .ok (.ifCond .eq 7, 3) := by decide +kernel
theorem d_Layers_isInLayer_20 : decode b_Layers_isInLayer 20 = .ok (.iconst 1, 1) := by decide +kernel
theorem d_Layers_isInLayer_21 : decode b_Layers_isInLayer 21 = .ok (.goto 4, 3) := by decide +kernel
theorem d_Layers_isInLayer_24 : decode b_Layers_isInLayer 24 = .ok (.iconst 0, 1) := by decide +kernel
theorem d_Layers_isInLayer_25 : decode b_Layers_isInLayer 25 = .ok (.ireturn, 1) := by decide +kernel
theorem d_Layers_isInLayer_26 : decode b_Layers_isInLayer 26 = .ok (.iconst 0, 1) := by decide +kernel
theorem d_Layers_isInLayer_27 : decode b_Layers_isInLayer 27 = .ok (.istore_n 3, 1) := by decide +kernel
theorem d_Layers_isInLayer_28 : decode b_Layers_isInLayer 28 = .ok (.iload_n 3, 1) := by decide +kernel
theorem d_Layers_isInLayer_29 : decode b_Layers_isInLayer 29 = .ok (.aload_n 0, 1) := by decide +kernel
theorem d_Layers_isInLayer_30 : decode b_Layers_isInLayer 30 = .ok (.getfield 18, 3) := by decide +kernel
theorem d_Layers_isInLayer_33 : decode b_Layers_isInLayer 33 = .ok (.getfield 52, 3) := by decide +kernel
theorem d_Layers_isInLayer_36 : decode b_Layers_isInLayer 36 = .ok (.if_icmp .ge 36, 3) := by decide +kernel
theorem d_Layers_isInLayer_39 : decode b_Layers_isInLayer 39 = .ok (.iload_n 2, 1) := by decide +kernel
theorem d_Layers_isInLayer_40 : decode b_Layers_isInLayer 40 = .ok (.iload_n 3, 1) := by decide +kernel
theorem d_Layers_isInLayer_41 : decode b_Layers_isInLayer 41 = .ok (.ishr, 1) := by decide +kernel
theorem d_Layers_isInLayer_42 : decode b_Layers_isInLayer 42 = .ok (.iconst 1, 1) := by decide +kernel
theorem d_Layers_isInLayer_43 : decode b_Layers_isInLayer 43 = .ok (.iand, 1) := by decide +kernel
theorem d_Layers_isInLayer_44 : decode b_Layers_isInLayer 44 = .ok (.ifCond .ne 22, 3) := by decide +kernel
theorem d_Layers_isInLayer_47 : decode b_Layers_isInLayer 47 = .ok (.aload_n 0, 1) := by decide +kernel
theorem d_Layers_isInLayer_48 : decode b_Layers_isInLayer 48 = .ok (.getfield 9, 3) := by decide +kernel
theorem d_Layers_isInLayer_51 : decode b_Layers_isInLayer 51 = .ok (.aload_n 0, 1) := by decide +kernel
theorem d_Layers_isInLayer_52 : decode b_Layers_isInLayer 52 = .ok (.getfield 18, 3) := by decide +kernel
theorem d_Layers_isInLayer_55 : decode b_Layers_isInLayer 55 = .ok (.iload_n 1, 1) := by decide +kernel
theorem d_Layers_isInLayer_56 : decode b_Layers_isInLayer 56 = .ok (.iload_n 3, 1) := by decide +kernel
theorem d_Layers_isInLayer_57 : decode b_Layers_isInLayer 57 = .ok (.invokevirtual 55, 3) := by decide +kernel
theorem d_Layers_isInLayer_60 : decode b_Layers_isInLayer 60 = .ok (.baload, 1) := by decide +kernel
theorem d_Layers_isInLayer_61 : decode b_Layers_isInLayer 61 = .ok (.ifCond .eq 5, 3) := by decide +kernel
theorem d_Layers_isInLayer_64 : decode b_Layers_isInLayer 64 = .ok (.iconst 1, 1) := by decide +kernel
theorem d_Layers_isInLayer_65 : decode b_Layers_isInLayer 65 = .ok (.ireturn, 1) := by decide +kernel
theorem d_Layers_isInLayer_66 : decode b_Layers_isInLayer 66 = .ok (.iinc 3 1, 3) := by decide +kernel
theorem d_Layers_isInLayer_69 : decode b_Layers_isInLayer 69 = .ok (.goto (-41), 3) := by decide +kernel
theorem d_Layers_isInLayer_72 : decode b_Layers_isInLayer 72 = .ok (.iconst 0, 1) := by decide +kernel
theorem d_Layers_isInLayer_73 : decode b_Layers_isInLayer 73 = .ok (.ireturn, 1) := by decide +kernel
theorem d_Layers_addLayer_0 : decode b_Layers_addLayer 0 = .ok (.iconst 1, 1) := by decide +kernel
theorem d_Layers_addLayer_1 : decode b_Layers_addLayer 1 = .ok (.istore_n 1, 1) := by decide +kernel
theorem d_Layers_addLayer_2 : decode b_Layers_addLayer 2 = .ok (.aload_n 0, 1) := by decide +kernel
theorem d_Layers_addLayer_3 : decode b_Layers_addLayer 3 = .ok (.getfield 22, 3) := by decide +kernel
theorem d_Layers_addLayer_6 : decode b_Layers_addLayer 6 = .ok (.ifCond .ne 7, 3) := by decide +kernel
theorem d_Layers_addLayer_9 : decode b_Layers_addLayer 9 = .ok (.iconst 1, 1) := by decide +kernel
theorem d_Layers_addLayer_10 : decode b_Layers_addLayer 10 = .ok (.goto 4, 3) := by decide +kernel
theorem d_Layers_addLayer_13 : decode b_Layers_addLayer 13 = .ok (.iconst 0, 1) := by decide +kernel
theorem d_Layers_addLayer_14 : decode b_Layers_addLayer 14 = .ok (.istore_n 2, 1) := by decide +kernel
theorem d_Layers_addLayer_15 : decode b_Layers_addLayer 15 = .ok (.iconst 0, 1) := by decide +kernel
theorem d_Layers_addLayer_16 : decode b_Layers_addLayer 16 = .ok (.istore_n 3, 1) := by decide +kernel
theorem d_Layers_addLayer_17 : decode b_Layers_addLayer 17 = .ok (.iload_n 3, 1) := by decide +kernel
theorem d_Layers_addLayer_18 : decode b_Layers_addLayer 18 = .ok (.sipush 4096, 3) := by decide +kernel
theorem d_Layers_addLayer_21 : decode b_Layers_addLayer 21 = .ok (.if_icmp .ge 83, 3) := by decide +kernel
theorem d_Layers_addLayer_24 : decode b_Layers_addLayer 24 = .ok (.aload_n 0, 1) := by decide +kernel
theorem d_Layers_addLayer_25 : decode b_Layers_addLayer 25 = .ok (.getfield 15, 3) := by decide +kernel
theorem d_Layers_addLayer_28 : decode b_Layers_addLayer 28 = .ok (.iload_n 3, 1) := by decide +kernel
theorem d_Layers_addLayer_29 : decode b_Layers_addLayer 29 = .ok (.aload_n 0, 1) := by decide +kernel
theorem d_Layers_addLayer_30 : decode b_Layers_addLayer 30 = .ok (.getfield 18, 3) := by decide +kernel
theorem d_Layers_addLayer_33 : decode b_Layers_addLayer 33 = .ok (.iload_n 3, 1) := by decide +kernel
theorem d_Layers_addLayer_34 : decode b_Layers_addLayer 34 = .ok (.invokevirtual 39, 3) := by decide +kernel
theorem d_Layers_addLayer_37 : decode b_Layers_addLayer 37 = .ok (.ifCond .eq 15, 3) := by decide +kernel
theorem d_Layers_addLayer_40 : decode b_Layers_addLayer 40 = .ok (.aload_n 0, 1) := by decide +kernel
theorem d_Layers_addLayer_41 : decode b_Layers_addLayer 41 = .ok (.iload_n 3, 1) := by decide +kernel
theorem d_Layers_addLayer_42 : decode b_Layers_addLayer 42 = .ok (.invokevirtual 45, 3) := by decide +kernel
theorem d_Layers_addLayer_45 : decode b_Layers_addLayer 45 = .ok (.ifCond .eq 7, 3) := by decide +kernel
theorem d_Layers_addLayer_48 : decode b_Layers_addLayer 48 = .ok (.iconst 1, 1) := by decide +kernel
theorem d_Layers_addLayer_49 : decode b_Layers_addLayer 49 = .ok (.goto 4, 3) := by decide +kernel
theorem d_Layers_addLayer_52 : decode b_Layers_addLayer 52 = .ok (.iconst 0, 1) := by decide +kernel
theorem d_Layers_addLayer_53 : decode b_Layers_addLayer 53 = .ok (.bastore, 1) := by decide +kernel
theorem d_Layers_addLayer_54 : decode b_Layers_addLayer 54 = .ok (.iload_n 1, 1) := by decide +kernel
theorem d_Layers_addLayer_55 : decode b_Layers_addLayer 55 = .ok (.ifCond .eq 16, 3) := by decide +kernel
theorem d_Layers_addLayer_58 : decode b_Layers_addLayer 58 = .ok (.aload_n 0, 1) := by decide +kernel
theorem d_Layers_addLayer_59 : decode b_Layers_addLayer 59 = .ok (.getfield 15, 3) := by decide +kernel
theorem d_Layers_addLayer_62 : decode b_Layers_addLayer 62 = .ok (.iload_n 3, 1) := by decide +kernel
theorem d_Layers_addLayer_63 : decode b_Layers_addLayer 63 = .ok (.baload, 1) := by decide +kernel
theorem d_Layers_addLayer_64 : decode b_Layers_addLayer 64 = .ok (.ifCond .ne 7, 3) := by decide +kernel
theorem d_Layers_addLayer_67 : decode b_Layers_addLayer 67 = .ok (.iconst 1, 1) := by decide +kernel
theorem d_Layers_addLayer_68 : decode b_Layers_addLayer 68 = .ok (.goto 4, 3) := by decide +kernel
theorem d_Layers_addLayer_71 : decode b_Layers_addLayer 71 = .ok (.iconst 0, 1) := by decide +kernel
theorem d_Layers_addLayer_72 : decode b_Layers_addLayer 72 = .ok (.istore_n 1, 1) := by decide +kernel
theorem d_Layers_addLayer_73 : decode b_Layers_addLayer 73 = .ok (.iload_n 2, 1) := by decide +kernel
theorem d_Layers_addLayer_74 : decode b_Layers_addLayer 74 = .ok (.ifCond .ne 18, 3) := by decide +kernel
theorem d_Layers_addLayer_77 : decode b_Layers_addLayer 77 = .ok (.aload_n 0, 1) := by decide +kernel
theorem d_Layers_addLayer_78 : decode b_Layers_addLayer 78 = .ok (.getfield 15, 3) := by decide +kernel
theorem d_Layers_addLayer_81 : decode b_Layers_addLayer 81 = .ok (.iload_n 3, 1) := by decide +kernel
theorem d_Layers_addLayer_82 : decode b_Layers_addLayer 82 = .ok (.baload, 1) := by decide +kernel
theorem d_Layers_addLayer_83 : decode b_Layers_addLayer 83 = .ok (.aload_n 0, 1) := by decide +kernel
theorem d_Layers_addLayer_84 : decode b_Layers_addLayer 84 = .ok (.getfield 9, 3) := by decide +kernel
theorem d_Layers_addLayer_87 : decode b_Layers_addLayer 87 = .ok (.iload_n 3, 1) := by decide +kernel
theorem d_Layers_addLayer_88 : decode b_Layers_addLayer 88 = .ok (.baload, 1) := by decide +kernel
theorem d_Layers_addLayer_89 : decode b_Layers_addLayer 89 = .ok (.if_icmp .eq 7, 3) := by decide +kernel
theorem d_Layers_addLayer_92 : decode b_Layers_addLayer 92 = .ok (.iconst 1, 1) := by decide +kernel
theorem d_Layers_addLayer_93 : decode b_Layers_addLayer 93 = .ok (.goto 4, 3) := by decide +kernel
theorem d_Layers_addLayer_96 : decode b_Layers_addLayer 96 = .ok (.iconst 0, 1) := by decide +kernel
theorem d_Layers_addLayer_97 : decode b_Layers_addLayer 97 = .ok (.istore_n 2, 1) := by decide +kernel
theorem d_Layers_addLayer_98 : decode b_Layers_addLayer 98 = .ok (.iinc 3 1, 3) := by decide +kernel
theorem d_Layers_addLayer_101 : decode b_Layers_addLayer 101 = .ok (.goto (-84), 3) := by decide +kernel
theorem d_Layers_addLayer_104 : decode b_Layers_addLayer 104 = .ok (.aload_n 0, 1) := by decide +kernel
theorem d_Layers_addLayer_105 : decode b_Layers_addLayer 105 = .ok (.getfield 15, 3) := by decide +kernel
theorem d_Layers_addLayer_108 : decode b_Layers_addLayer 108 = .ok (.astore_n 3, 1) := by decide +kernel
theorem d_Layers_addLayer_109 : decode b_Layers_addLayer 109 = .ok (.aload_n 0, 1) := by decide +kernel
theorem d_Layers_addLayer_110 : decode b_Layers_addLayer 110 = .ok (.aload_n 0, 1) := by decide +kernel
theorem d_Layers_addLayer_111 : decode b_Layers_addLayer 111 = .ok (.getfield 9, 3) := by decide +kernel
theorem d_Layers_addLayer_114 : decode b_Layers_addLayer 114 = .ok (.putfield 15, 3) := by decide +kernel
theorem d_Layers_addLayer_117 : decode b_Layers_addLayer 117 = .ok (.aload_n 0, 1) := by decide +kernel
theorem d_Layers_addLayer_118 : decode b_Layers_addLayer 118 = .ok (.aload_n 3, 1) := by decide +kernel
theorem d_Layers_addLayer_119 : decode b_Layers_addLayer 119 = .ok (.putfield 9, 3) := by decide +kernel
theorem d_Layers_addLayer_122 : decode b_Layers_addLayer 122 = .ok (.aload_n 0, 1) := by decide +kernel
theorem d_Layers_addLayer_123 : decode b_Layers_addLayer 123 = .ok (.iload_n 1, 1) := by decide +kernel
theorem d_Layers_addLayer_124 : decode b_Layers_addLayer 124 = .ok (.ifCond .ne 7, 3) := by decide +kernel
theorem d_Layers_addLayer_127 : decode b_Layers_addLayer 127 = .ok (.iload_n 2, 1) := by decide +kernel
theorem d_Layers_addLayer_128 : decode b_Layers_addLayer 128 = .ok (.ifCond .ne 7, 3) := by decide +kernel
theorem d_Layers_addLayer_131 : decode b_Layers_addLayer 131 = .ok (.iconst 1, 1) := by decide +kernel
theorem d_Layers_addLayer_132 : decode b_Layers_addLayer 132 = .ok (.goto 4, 3) := by decide +kernel
theorem d_Layers_addLayer_135 : decode b_Layers_addLayer 135 = .ok (.iconst 0, 1) := by decide +kernel
theorem d_Layers_addLayer_136 : decode b_Layers_addLayer 136 = .ok (.putfield 32, 3) := by decide +kernel
theorem d_Layers_addLayer_139 : decode b_Layers_addLayer 139 = .ok (.iload_n 1, 1) := by decide +kernel
theorem d_Layers_addLayer_140 : decode b_Layers_addLayer 140 = .ok (.ifCond .eq 11, 3) := by decide +kernel
theorem d_Layers_addLayer_143 : decode b_Layers_addLayer 143 = .ok (.aload_n 0, 1) := by decide +kernel
theorem d_Layers_addLayer_144 : decode b_Layers_addLayer 144 = .ok (.aload_n 0, 1) := by decide +kernel
theorem d_Layers_addLayer_145 : decode b_Layers_addLayer 145 = .ok (.getfield 22, 3) := by decide +kernel
theorem d_Layers_addLayer_148 : decode b_Layers_addLayer 148 = .ok (.putfield 26, 3) := by decide +kernel
theorem d_Layers_addLayer_151 : decode b_Layers_addLayer 151 = .ok (.aload_n 0, 1) := by decide +kernel
theorem d_Layers_addLayer_152 : decode b_Layers_addLayer 152 = .ok (.getfield 9, 3) := by decide +kernel
theorem d_Layers_addLayer_155 : decode b_Layers_addLayer 155 = .ok (.iconst 0, 1) := by decide +kernel
theorem d_Layers_addLayer_156 : decode b_Layers_addLayer 156 = .ok (.baload, 1) := by decide +kernel
theorem d_Layers_addLayer_157 : decode b_Layers_addLayer 157 = .ok (.ifCond .eq 19, 3) := by decide +kernel
theorem d_Layers_addLayer_160 : decode b_Layers_addLayer 160 = .ok (.aload_n 0, 1) := by decide +kernel
theorem d_Layers_addLayer_161 : decode b_Layers_addLayer 161 = .ok (.getfield 29, 3) := by decide +kernel
theorem d_Layers_addLayer_164 : decode b_Layers_addLayer 164 = .ok (.iconst (-1), 1) := by decide +kernel
theorem d_Layers_addLayer_165 : decode b_Layers_addLayer 165 = .ok (.if_icmp .ne 11, 3) := by decide +kernel
theorem d_Layers_addLayer_168 : decode b_Layers_addLayer 168 = .ok (.aload_n 0, 1) := by decide +kernel
theorem d_Layers_addLayer_169 : decode b_Layers_addLayer 169 = .ok (.aload_n 0, 1) := by decide +kernel
theorem d_Layers_addLayer_170 : decode b_Layers_addLayer 170 = .ok (.getfield 22, 3) := by decide +kernel
theorem d_Layers_addLayer_173 : decode b_Layers_addLayer 173 = .ok (.putfield 29, 3) := by decide +kernel
theorem d_Layers_addLayer_176 : decode b_Layers_addLayer 176 = .ok (.return_, 1) := by decide +kernel
theorem d_Layers_isEmpty_0 : decode b_Layers_isEmpty 0 = .ok (.aload_n 0, 1) := by decide +kernel
theorem d_Layers_isEmpty_1 : decode b_Layers_isEmpty 1 = .ok (.getfield 22, 3) := by decide +kernel
theorem d_Layers_isEmpty_4 : decode b_Layers_isEmpty 4 = .ok (.iload_n 1, 1) := by decide +kernel
theorem d_Layers_isEmpty_5 : decode b_Layers_isEmpty 5 = .ok (.if_icmp .gt 27, 3) := by decide +kernel
theorem d_Layers_isEmpty_8 : decode b_Layers_isEmpty 8 = .ok (.aload_n 0, 1) := by decide +kernel
theorem d_Layers_isEmpty_9 : decode b_Layers_isEmpty 9 = .ok (.getfield 32, 3) := by decide +kernel
theorem d_Layers_isEmpty_12 : decode b_Layers_isEmpty 12 = .ok (.ifCond .ne 20, 3) := by decide +kernel
theorem d_Layers_isEmpty_15 : decode b_Layers_isEmpty 15 = .ok (.aload_n 0, 1) := by decide +kernel
theorem d_Layers_isEmpty_16 : decode b_Layers_isEmpty 16 = .ok (.invokevirtual 36, 3) := by decide +kernel
theorem d_Layers_isEmpty_19 : decode b_Layers_isEmpty 19 = .ok (.aload_n 0, 1) := by decide +kernel
theorem d_Layers_isEmpty_20 : decode b_Layers_isEmpty 20 = .ok (.dup, 1) := by decide +kernel
theorem d_Layers_isEmpty_21 : decode b_Layers_isEmpty 21 = .ok (.getfield 22, 3) := by decide +kernel
theorem d_Layers_isEmpty_24 : decode b_Layers_isEmpty 24 = .ok (.iconst 1, 1) := by decide +kernel
theorem d_Layers_isEmpty_25 : decode b_Layers_isEmpty 25 = .ok (.iadd, 1) := by decide +kernel
theorem d_Layers_isEmpty_26 : decode b_Layers_isEmpty 26 = .ok (.putfield 22, 3) := by decide +kernel
theorem d_Layers_isEmpty_29 : decode b_Layers_isEmpty 29 = .ok (.goto (-29), 3) := by decide +kernel
theorem d_Layers_isEmpty_32 : decode b_Layers_isEmpty 32 = .ok (.aload_n 0, 1) := by decide +kernel
theorem d_Layers_isEmpty_33 : decode b_Layers_isEmpty 33 = .ok (.getfield 26, 3) := by decide +kernel
theorem d_Layers_isEmpty_36 : decode b_Layers_isEmpty 36 = .ok (.iconst (-1), 1) := by decide +kernel
theorem d_Layers_isEmpty_37 : decode b_Layers_isEmpty 37 = .ok (.if_icmp .eq 15, 3) := by decide +kernel
theorem d_Layers_isEmpty_40 : decode b_Layers_isEmpty 40 = .ok (.aload_n 0, 1) := by decide +kernel
theorem d_Layers_isEmpty_41 : decode b_Layers_isEmpty 41 = .ok (.getfield 26, 3) := by decide +kernel
theorem d_Layers_isEmpty_44 : decode b_Layers_isEmpty 44 = .ok (.iload_n 1, 1) := by decide +kernel
theorem d_Layers_isEmpty_45 : decode b_Layers_isEmpty 45 = .ok (.if_icmp .gt 7, 3) := by decide +kernel
theorem d_Layers_isEmpty_48 : decode b_Layers_isEmpty 48 = .ok (.iconst 1, 1) := by decide +kernel
theorem d_Layers_isEmpty_49 : decode b_Layers_isEmpty 49 = .ok (.goto 4, 3) := by decide +kernel
theorem d_Layers_isEmpty_52 : decode b_Layers_isEmpty 52 = .ok (.iconst 0, 1) := by decide +kernel
theorem d_Layers_isEmpty_53 : decode b_Layers_isEmpty 53 = .ok (.ireturn, 1) := by decide +kernel
theorem d_Layers_fits_0 : decode b_Layers_fits 0 = .ok (.iload_n 1, 1) := by decide +kernel
theorem d_Layers_fits_1 : decode b_Layers_fits 1 = .ok (.iconst 1, 1) := by decide +kernel
theorem d_Layers_fits_2 : decode b_Layers_fits 2 = .ok (.if_icmp .lt 17, 3) := by decide +kernel
theorem d_Layers_fits_5 : decode b_Layers_fits 5 = .ok (.iload_n 1, 1) := by decide +kernel
theorem d_Layers_fits_6 : decode b_Layers_fits 6 = .ok (.aload_n 0, 1) := by decide +kernel
theorem d_Layers_fits_7 : decode b_Layers_fits 7 = .ok (.getfield 22, 3) := by decide +kernel
theorem d_Layers_fits_10 : decode b_Layers_fits 10 = .ok (.if_icmp .gt 9, 3) := by decide +kernel
theorem d_Layers_fits_13 : decode b_Layers_fits 13 = .ok (.iload_n 1, 1) := by decide +kernel
theorem d_Layers_fits_14 : decode b_Layers_fits 14 = .ok (.iconst 1, 1) := by decide +kernel
theorem d_Layers_fits_15 : decode b_Layers_fits 15 = .ok (.isub, 1) := by decide +kernel
theorem d_Layers_fits_16 : decode b_Layers_fits 16 = .ok (.goto 4, 3) := by decide +kernel
theorem d_Layers_fits_19 : decode b_Layers_fits 19 = .ok (.iconst (-1), 1) := by decide +kernel
theorem d_Layers_fits_20 : decode b_Layers_fits 20 = .ok (.istore_n 2, 1) := by decide +kernel
theorem d_Layers_fits_21 : decode b_Layers_fits 21 = .ok (.aload_n 0, 1) := by decide +kernel
theorem d_Layers_fits_22 : decode b_Layers_fits 22 = .ok (.getfield 29, 3) := by decide +kernel
theorem d_Layers_fits_25 : decode b_Layers_fits 25 = .ok (.iload_n 2, 1) := by decide +kernel
theorem d_Layers_fits_26 : decode b_Layers_fits 26 = .ok (.if_icmp .ne 7, 3) := by decide +kernel
theorem d_Layers_fits_29 : decode b_Layers_fits 29 = .ok (.iconst 1, 1) := by decide +kernel
theorem d_Layers_fits_30 : decode b_Layers_fits 30 = .ok (.goto 4, 3) := by decide +kernel
theorem d_Layers_fits_33 : decode b_Layers_fits 33 = .ok (.iconst 0, 1) := by decide +kernel
theorem d_Layers_fits_34 : decode b_Layers_fits 34 = .ok (.ireturn, 1) := by decide +kernel
theorem d_Works_holdsByInduction_0 : decode b_Works_holdsByInduction 0 = .ok (.aload_n 0, 1) := by decide +kernel
theorem d_Works_holdsByInduction_1 : decode b_Works_holdsByInduction 1 = .ok (.getfield 30, 3) := by decide +kernel
theorem d_Works_holdsByInduction_4 : decode b_Works_holdsByInduction 4 = .ok (.iload_n 1, 1) := by decide +kernel
theorem d_Works_holdsByInduction_5 : decode b_Works_holdsByInduction 5 = .ok (.invokevirtual 106, 3) := by decide +kernel
theorem d_Works_holdsByInduction_8 : decode b_Works_holdsByInduction 8 = .ok (.istore_n 2, 1) := by decide +kernel
theorem d_Works_holdsByInduction_9 : decode b_Works_holdsByInduction 9 = .ok (.aload_n 0, 1) := by decide +kernel
theorem d_Works_holdsByInduction_10 : decode b_Works_holdsByInduction 10 = .ok (.aload_n 0, 1) := by decide +kernel
theorem d_Works_holdsByInduction_11 : decode b_Works_holdsByInduction 11 = .ok (.getfield 30, 3) := by decide +kernel
theorem d_Works_holdsByInduction_14 : decode b_Works_holdsByInduction 14 = .ok (.aload_n 0, 1) := by decide +kernel
theorem d_Works_holdsByInduction_15 : decode b_Works_holdsByInduction 15 = .ok (.getfield 23, 3) := by decide +kernel
theorem d_Works_holdsByInduction_18 : decode b_Works_holdsByInduction 18 = .ok (.getfield 95, 3) := by decide +kernel
theorem d_Works_holdsByInduction_21 : decode b_Works_holdsByInduction 21 = .ok (.invokevirtual 110, 3) := by decide +kernel
theorem d_Works_holdsByInduction_24 : decode b_Works_holdsByInduction 24 = .ok (.invokevirtual 88, 3) := by decide +kernel
theorem d_Works_holdsByInduction_27 : decode b_Works_holdsByInduction 27 = .ok (.aload_n 0, 1) := by decide +kernel
theorem d_Works_holdsByInduction_28 : decode b_Works_holdsByInduction 28 = .ok (.iload_n 2, 1) := by decide +kernel
theorem d_Works_holdsByInduction_29 : decode b_Works_holdsByInduction 29 = .ok (.ifCond .eq 14, 3) := by decide +kernel
theorem d_Works_holdsByInduction_32 : decode b_Works_holdsByInduction 32 = .ok (.aload_n 0, 1) := by decide +kernel
theorem d_Works_holdsByInduction_33 : decode b_Works_holdsByInduction 33 = .ok (.getfield 23, 3) := by decide +kernel
theorem d_Works_holdsByInduction_36 : decode b_Works_holdsByInduction 36 = .ok (.getfield 95, 3) := by decide +kernel
theorem d_Works_holdsByInduction_39 : decode b_Works_holdsByInduction 39 = .ok (.iload_n 1, 1) := by decide +kernel
theorem d_Works_holdsByInduction_40 : decode b_Works_holdsByInduction 40 = .ok (.if_icmp .gt 7, 3) := by decide +kernel
theorem d_Works_holdsByInduction_43 : decode b_Works_holdsByInduction 43 = .ok (.iconst 1, 1) := by decide +kernel
theorem d_Works_holdsByInduction_44 : decode b_Works_holdsByInduction 44 = .ok (.goto 4, 3) := by decide +kernel
theorem d_Works_holdsByInduction_47 : decode b_Works_holdsByInduction 47 = .ok (.iconst 0, 1) := by decide +kernel
theorem d_Works_holdsByInduction_48 : decode b_Works_holdsByInduction 48 = .ok (.invokevirtual 88, 3) := by decide +kernel
theorem d_Works_holdsByInduction_51 : decode b_Works_holdsByInduction 51 = .ok (.iload_n 2, 1) := by decide +kernel
theorem d_Works_holdsByInduction_52 : decode b_Works_holdsByInduction 52 = .ok (.ireturn, 1) := by decide +kernel
theorem d_Judge_inductive_0 : decode b_Judge_inductive 0 = .ok (.aload_n 0, 1) := by decide +kernel
theorem d_Judge_inductive_1 : decode b_Judge_inductive 1 = .ok (.invokevirtual 120, 3) := by decide +kernel
theorem d_Judge_inductive_4 : decode b_Judge_inductive 4 = .ok (.iload_n 1, 1) := by decide +kernel
theorem d_Judge_inductive_5 : decode b_Judge_inductive 5 = .ok (.ifCond .lt 13, 3) := by decide +kernel
theorem d_Judge_inductive_8 : decode b_Judge_inductive 8 = .ok (.iload_n 1, 1) := by decide +kernel
theorem d_Judge_inductive_9 : decode b_Judge_inductive 9 = .ok (.bipush 8, 2) := by decide +kernel
theorem d_Judge_inductive_11 : decode b_Judge_inductive 11 = .ok (.if_icmp .gt 7, 3) := by decide +kernel
theorem d_Judge_inductive_14 : decode b_Judge_inductive 14 = .ok (.iconst 1, 1) := by decide +kernel
theorem d_Judge_inductive_15 : decode b_Judge_inductive 15 = .ok (.goto 4, 3) := by decide +kernel
theorem d_Judge_inductive_18 : decode b_Judge_inductive 18 = .ok (.iconst 0, 1) := by decide +kernel
theorem d_Judge_inductive_19 : decode b_Judge_inductive 19 = .ok (.invokestatic 150, 3) := by decide +kernel
theorem d_Judge_inductive_22 : decode b_Judge_inductive 22 = .ok (.aload_n 0, 1) := by decide +kernel
theorem d_Judge_inductive_23 : decode b_Judge_inductive 23 = .ok (.invokevirtual 131, 3) := by decide +kernel
theorem d_Judge_inductive_26 : decode b_Judge_inductive 26 = .ok (.iload_n 1, 1) := by decide +kernel
theorem d_Judge_inductive_27 : decode b_Judge_inductive 27 = .ok (.invokevirtual 154, 3) := by decide +kernel
theorem d_Judge_inductive_30 : decode b_Judge_inductive 30 = .ok (.ireturn, 1) := by decide +kernel
theorem d_Walk_greatestDepth_0 : decode b_Walk_greatestDepth 0 = .ok (.aload_n 0, 1) := by decide +kernel
theorem d_Walk_greatestDepth_1 : decode b_Walk_greatestDepth 1 = .ok (.getfield 15, 3) := by decide +kernel
theorem d_Walk_greatestDepth_4 : decode b_Walk_greatestDepth 4 = .ok (.aload_n 0, 1) := by decide +kernel
theorem d_Walk_greatestDepth_5 : decode b_Walk_greatestDepth 5 = .ok (.getfield 9, 3) := by decide +kernel
theorem d_Walk_greatestDepth_8 : decode b_Walk_greatestDepth 8 = .ok (.aload_n 0, 1) := by decide +kernel
theorem d_Walk_greatestDepth_9 : decode b_Walk_greatestDepth 9 = .ok (.getfield 34, 3) := by decide +kernel
theorem d_Walk_greatestDepth_12 : decode b_Walk_greatestDepth 12 = .ok (.iconst 1, 1) := by decide +kernel
theorem d_Walk_greatestDepth_13 : decode b_Walk_greatestDepth 13 = .ok (.isub, 1) := by decide +kernel
theorem d_Walk_greatestDepth_14 : decode b_Walk_greatestDepth 14 = .ok (.iaload, 1) := by decide +kernel
theorem d_Walk_greatestDepth_15 : decode b_Walk_greatestDepth 15 = .ok (.iaload, 1) := by decide +kernel
theorem d_Walk_greatestDepth_16 : decode b_Walk_greatestDepth 16 = .ok (.ireturn, 1) := by decide +kernel
theorem d_Judge_pairs_0 : decode b_Judge_pairs 0 = .ok (.aload_n 0, 1) := by decide +kernel
theorem d_Judge_pairs_1 : decode b_Judge_pairs 1 = .ok (.invokevirtual 120, 3) := by decide +kernel
theorem d_Judge_pairs_4 : decode b_Judge_pairs 4 = .ok (.iload_n 1, 1) := by decide +kernel
theorem d_Judge_pairs_5 : decode b_Judge_pairs 5 = .ok (.ifCond .eq 8, 3) := by decide +kernel
theorem d_Judge_pairs_8 : decode b_Judge_pairs 8 = .ok (.iload_n 1, 1) := by decide +kernel
theorem d_Judge_pairs_9 : decode b_Judge_pairs 9 = .ok (.iconst 1, 1) := by decide +kernel
theorem d_Judge_pairs_10 : decode b_Judge_pairs 10 = .ok (.if_icmp .ne 7, 3) := by decide +kernel
theorem d_Judge_pairs_13 : decode b_Judge_pairs 13 = .ok (.iconst 1, 1) := by decide +kernel
theorem d_Judge_pairs_14 : decode b_Judge_pairs 14 = .ok (.goto 4, 3) := by decide +kernel
theorem d_Judge_pairs_17 : decode b_Judge_pairs 17 = .ok (.iconst 0, 1) := by decide +kernel
theorem d_Judge_pairs_18 : decode b_Judge_pairs 18 = .ok (.invokestatic 150, 3) := by decide +kernel
theorem d_Judge_pairs_21 : decode b_Judge_pairs 21 = .ok (.aload_n 0, 1) := by decide +kernel
theorem d_Judge_pairs_22 : decode b_Judge_pairs 22 = .ok (.invokevirtual 131, 3) := by decide +kernel
theorem d_Judge_pairs_25 : decode b_Judge_pairs 25 = .ok (.getfield 134, 3) := by decide +kernel
theorem d_Judge_pairs_28 : decode b_Judge_pairs 28 = .ok (.astore_n 2, 1) := by decide +kernel
theorem d_Judge_pairs_29 : decode b_Judge_pairs 29 = .ok (.iload_n 1, 1) := by decide +kernel
theorem d_Judge_pairs_30 : decode b_Judge_pairs 30 = .ok (.ifCond .ne 10, 3) := by decide +kernel
theorem d_Judge_pairs_33 : decode b_Judge_pairs 33 = .ok (.aload_n 2, 1) := by decide +kernel
theorem d_Judge_pairs_34 : decode b_Judge_pairs 34 = .ok (.getfield 157, 3) := by decide +kernel
theorem d_Judge_pairs_37 : decode b_Judge_pairs 37 = .ok (.goto 7, 3) := by decide +kernel
theorem d_Judge_pairs_40 : decode b_Judge_pairs 40 = .ok (.aload_n 2, 1) := by decide +kernel
theorem d_Judge_pairs_41 : decode b_Judge_pairs 41 = .ok (.invokevirtual 160, 3) := by decide +kernel
theorem d_Judge_pairs_44 : decode b_Judge_pairs 44 = .ok (.ireturn, 1) := by decide +kernel
theorem d_Circuit_isState_0 : decode b_Circuit_isState 0 = .ok (.iload_n 1, 1) := by decide +kernel
theorem d_Circuit_isState_1 : decode b_Circuit_isState 1 = .ok (.ifCond .lt 17, 3) := by decide +kernel
theorem d_Circuit_isState_4 : decode b_Circuit_isState 4 = .ok (.iload_n 1, 1) := by decide +kernel
theorem d_Circuit_isState_5 : decode b_Circuit_isState 5 = .ok (.iconst 1, 1) := by decide +kernel
theorem d_Circuit_isState_6 : decode b_Circuit_isState 6 = .ok (.aload_n 0, 1) := by decide +kernel
theorem d_Circuit_isState_7 : decode b_Circuit_isState 7 = .ok (.getfield 59, 3) := by decide +kernel
theorem d_Circuit_isState_10 : decode b_Circuit_isState 10 = .ok (.ishl, 1) := by decide +kernel
theorem d_Circuit_isState_11 : decode b_Circuit_isState 11 = .ok (.if_icmp .ge 7, 3) := by decide +kernel
theorem d_Circuit_isState_14 : decode b_Circuit_isState 14 = .ok (.iconst 1, 1) := by decide +kernel
theorem d_Circuit_isState_15 : decode b_Circuit_isState 15 = .ok (.goto 4, 3) := by decide +kernel
theorem d_Circuit_isState_18 : decode b_Circuit_isState 18 = .ok (.iconst 0, 1) := by decide +kernel
theorem d_Circuit_isState_19 : decode b_Circuit_isState 19 = .ok (.ireturn, 1) := by decide +kernel
theorem d_Judge_depth_0 : decode b_Judge_depth 0 = .ok (.aload_n 0, 1) := by decide +kernel
theorem d_Judge_depth_1 : decode b_Judge_depth 1 = .ok (.invokevirtual 120, 3) := by decide +kernel
theorem d_Judge_depth_4 : decode b_Judge_depth 4 = .ok (.aload_n 0, 1) := by decide +kernel
theorem d_Judge_depth_5 : decode b_Judge_depth 5 = .ok (.getfield 27, 3) := by decide +kernel
theorem d_Judge_depth_8 : decode b_Judge_depth 8 = .ok (.iconst 0, 1) := by decide +kernel
theorem d_Judge_depth_9 : decode b_Judge_depth 9 = .ok (.aaload, 1) := by decide +kernel
theorem d_Judge_depth_10 : decode b_Judge_depth 10 = .ok (.iload_n 1, 1) := by decide +kernel
theorem d_Judge_depth_11 : decode b_Judge_depth 11 = .ok (.invokevirtual 163, 3) := by decide +kernel
theorem d_Judge_depth_14 : decode b_Judge_depth 14 = .ok (.ifCond .eq 20, 3) := by decide +kernel
theorem d_Judge_depth_17 : decode b_Judge_depth 17 = .ok (.aload_n 0, 1) := by decide +kernel
theorem d_Judge_depth_18 : decode b_Judge_depth 18 = .ok (.getfield 27, 3) := by decide +kernel
theorem d_Judge_depth_21 : decode b_Judge_depth 21 = .ok (.iconst 1, 1) := by decide +kernel
theorem d_Judge_depth_22 : decode b_Judge_depth 22 = .ok (.aaload, 1) := by decide +kernel
theorem d_Judge_depth_23 : decode b_Judge_depth 23 = .ok (.iload_n 2, 1) := by decide +kernel
theorem d_Judge_depth_24 : decode b_Judge_depth 24 = .ok (.invokevirtual 163, 3) := by decide +kernel
theorem d_Judge_depth_27 : decode b_Judge_depth 27 = .ok (.ifCond .eq 7, 3) := by decide +kernel
theorem d_Judge_depth_30 : decode b_Judge_depth 30 = .ok (.iconst 1, 1) := by decide +kernel
theorem d_Judge_depth_31 : decode b_Judge_depth 31 = .ok (.goto 4, 3) := by decide +kernel
theorem d_Judge_depth_34 : decode b_Judge_depth 34 = .ok (.iconst 0, 1) := by decide +kernel
theorem d_Judge_depth_35 : decode b_Judge_depth 35 = .ok (.invokestatic 150, 3) := by decide +kernel
theorem d_Judge_depth_38 : decode b_Judge_depth 38 = .ok (.aload_n 0, 1) := by decide +kernel
theorem d_Judge_depth_39 : decode b_Judge_depth 39 = .ok (.invokevirtual 131, 3) := by decide +kernel
theorem d_Judge_depth_42 : decode b_Judge_depth 42 = .ok (.getfield 134, 3) := by decide +kernel
theorem d_Judge_depth_45 : decode b_Judge_depth 45 = .ok (.getfield 166, 3) := by decide +kernel
theorem d_Judge_depth_48 : decode b_Judge_depth 48 = .ok (.iload_n 1, 1) := by decide +kernel
theorem d_Judge_depth_49 : decode b_Judge_depth 49 = .ok (.bipush 64, 2) := by decide +kernel
theorem d_Judge_depth_51 : decode b_Judge_depth 51 = .ok (.imul, 1) := by decide +kernel
theorem d_Judge_depth_52 : decode b_Judge_depth 52 = .ok (.iload_n 2, 1) := by decide +kernel
theorem d_Judge_depth_53 : decode b_Judge_depth 53 = .ok (.iadd, 1) := by decide +kernel
theorem d_Judge_depth_54 : decode b_Judge_depth 54 = .ok (.iaload, 1) := by decide +kernel
theorem d_Judge_depth_55 : decode b_Judge_depth 55 = .ok (.ireturn, 1) := by decide +kernel
theorem d_Table_word_0 : decode b_Table_word 0 = .ok (.iload_n 2, 1) := by decide +kernel
theorem d_Table_word_1 : decode b_Table_word 1 = .ok (.ifCond .ne 10, 3) := by decide +kernel
theorem d_Table_word_4 : decode b_Table_word 4 = .ok (.iload_n 1, 1) := by decide +kernel
theorem d_Table_word_5 : decode b_Table_word 5 = .ok (.bipush 64, 2) := by decide +kernel
theorem d_Table_word_7 : decode b_Table_word 7 = .ok (.idiv, 1) := by decide +kernel
theorem d_Table_word_8 : decode b_Table_word 8 = .ok (.goto 10, 3) := by decide +kernel
theorem d_Table_word_11 : decode b_Table_word 11 = .ok (.bipush 64, 2) := by decide +kernel
theorem d_Table_word_13 : decode b_Table_word 13 = .ok (.iload_n 1, 1) := by decide +kernel
theorem d_Table_word_14 : decode b_Table_word 14 = .ok (.bipush 64, 2) := by decide +kernel
theorem d_Table_word_16 : decode b_Table_word 16 = .ok (.irem, 1) := by decide +kernel
theorem d_Table_word_17 : decode b_Table_word 17 = .ok (.iadd, 1) := by decide +kernel
theorem d_Table_word_18 : decode b_Table_word 18 = .ok (.istore 4, 2) := by decide +kernel
theorem d_Table_word_20 : decode b_Table_word 20 = .ok (.aload_n 0, 1) := by decide +kernel
theorem d_Table_word_21 : decode b_Table_word 21 = .ok (.getfield 9, 3) := by decide +kernel
theorem d_Table_word_24 : decode b_Table_word 24 = .ok (.iload 4, 2) := by decide +kernel
theorem d_Table_word_26 : decode b_Table_word 26 = .ok (.sipush 201, 3) := by decide +kernel
theorem d_Table_word_29 : decode b_Table_word 29 = .ok (.imul, 1) := by decide +kernel
theorem d_Table_word_30 : decode b_Table_word 30 = .ok (.iload_n 3, 1) := by decide +kernel
theorem d_Table_word_31 : decode b_Table_word 31 = .ok (.invokestatic 60, 3) := by decide +kernel
theorem d_Table_word_34 : decode b_Table_word 34 = .ok (.ireturn, 1) := by decide +kernel
theorem d_Works_agree_0 : decode b_Works_agree 0 = .ok (.iconst 0, 1) := by decide +kernel
theorem d_Works_agree_1 : decode b_Works_agree 1 = .ok (.istore 5, 2) := by decide +kernel
theorem d_Works_agree_3 : decode b_Works_agree 3 = .ok (.iload 5, 2) := by decide +kernel
theorem d_Works_agree_5 : decode b_Works_agree 5 = .ok (.aload_n 0, 1) := by decide +kernel
theorem d_Works_agree_6 : decode b_Works_agree 6 = .ok (.getfield 23, 3) := by decide +kernel
theorem d_Works_agree_9 : decode b_Works_agree 9 = .ok (.getfield 113, 3) := by decide +kernel
theorem d_Works_agree_12 : decode b_Works_agree 12 = .ok (.if_icmp .ge 49, 3) := by decide +kernel
theorem d_Works_agree_15 : decode b_Works_agree 15 = .ok (.aload_n 0, 1) := by decide +kernel
theorem d_Works_agree_16 : decode b_Works_agree 16 = .ok (.getfield 23, 3) := by decide +kernel
theorem d_Works_agree_19 : decode b_Works_agree 19 = .ok (.getfield 116, 3) := by decide +kernel
theorem d_Works_agree_22 : decode b_Works_agree 22 = .ok (.iload 5, 2) := by decide +kernel
theorem d_Works_agree_24 : decode b_Works_agree 24 = .ok (.iaload, 1) := by decide +kernel
theorem d_Works_agree_25 : decode b_Works_agree 25 = .ok (.istore 6, 2) := by decide +kernel
theorem d_Works_agree_27 : decode b_Works_agree 27 = .ok (.aload_n 0, 1) := by decide +kernel
theorem d_Works_agree_28 : decode b_Works_agree 28 = .ok (.getfield 12, 3) := by decide +kernel
theorem d_Works_agree_31 : decode b_Works_agree 31 = .ok (.iload 6, 2) := by decide +kernel
theorem d_Works_agree_33 : decode b_Works_agree 33 = .ok (.iload_n 1, 1) := by decide +kernel
theorem d_Works_agree_34 : decode b_Works_agree 34 = .ok (.iload_n 2, 1) := by decide +kernel
theorem d_Works_agree_35 : decode b_Works_agree 35 = .ok (.invokevirtual 119, 3) := by decide +kernel
theorem d_Works_agree_38 : decode b_Works_agree 38 = .ok (.aload_n 0, 1) := by decide +kernel
theorem d_Works_agree_39 : decode b_Works_agree 39 = .ok (.getfield 12, 3) := by decide +kernel
theorem d_Works_agree_42 : decode b_Works_agree 42 = .ok (.iload 6, 2) := by decide +kernel
theorem d_Works_agree_44 : decode b_Works_agree 44 = .ok (.iload_n 3, 1) := by decide +kernel
theorem d_Works_agree_45 : decode b_Works_agree 45 = .ok (.iload 4, 2) := by decide +kernel
theorem d_Works_agree_47 : decode b_Works_agree 47 = .ok (.invokevirtual 119, 3) := by decide +kernel
theorem d_Works_agree_50 : decode b_Works_agree 50 = .ok (.if_icmp .eq 5, 3) := by decide +kernel
theorem d_Works_agree_53 : decode b_Works_agree 53 = .ok (.iconst 0, 1) := by decide +kernel
theorem d_Works_agree_54 : decode b_Works_agree 54 = .ok (.ireturn, 1) := by decide +kernel
theorem d_Works_agree_55 : decode b_Works_agree 55 = .ok (.iinc 5 1, 3) := by decide +kernel
theorem d_Works_agree_58 : decode b_Works_agree 58 = .ok (.goto (-55), 3) := by decide +kernel
theorem d_Works_agree_61 : decode b_Works_agree 61 = .ok (.iconst 1, 1) := by decide +kernel
theorem d_Works_agree_62 : decode b_Works_agree 62 = .ok (.ireturn, 1) := by decide +kernel
theorem d_Judge_same_0 : decode b_Judge_same 0 = .ok (.aload_n 0, 1) := by decide +kernel
theorem d_Judge_same_1 : decode b_Judge_same 1 = .ok (.invokevirtual 120, 3) := by decide +kernel
theorem d_Judge_same_4 : decode b_Judge_same 4 = .ok (.aload_n 0, 1) := by decide +kernel
theorem d_Judge_same_5 : decode b_Judge_same 5 = .ok (.iload_n 1, 1) := by decide +kernel
theorem d_Judge_same_6 : decode b_Judge_same 6 = .ok (.iload_n 2, 1) := by decide +kernel
theorem d_Judge_same_7 : decode b_Judge_same 7 = .ok (.invokevirtual 110, 3) := by decide +kernel
theorem d_Judge_same_10 : decode b_Judge_same 10 = .ok (.ifCond .eq 17, 3) := by decide +kernel
theorem d_Judge_same_13 : decode b_Judge_same 13 = .ok (.aload_n 0, 1) := by decide +kernel
theorem d_Judge_same_14 : decode b_Judge_same 14 = .ok (.iload_n 3, 1) := by decide +kernel
theorem d_Judge_same_15 : decode b_Judge_same 15 = .ok (.iload 4, 2) := by decide +kernel
theorem d_Judge_same_17 : decode b_Judge_same 17 = .ok (.invokevirtual 110, 3) := by decide +kernel
theorem d_Judge_same_20 : decode b_Judge_same 20 = .ok (.ifCond .eq 7, 3) := by decide +kernel
theorem d_Judge_same_23 : decode b_Judge_same 23 = .ok (.iconst 1, 1) := by decide +kernel
theorem d_Judge_same_24 : decode b_Judge_same 24 = .ok (.goto 4, 3) := by decide +kernel
theorem d_Judge_same_27 : decode b_Judge_same 27 = .ok (.iconst 0, 1) := by decide +kernel
theorem d_Judge_same_28 : decode b_Judge_same 28 = .ok (.invokestatic 150, 3) := by decide +kernel
theorem d_Judge_same_31 : decode b_Judge_same 31 = .ok (.aload_n 0, 1) := by decide +kernel
theorem d_Judge_same_32 : decode b_Judge_same 32 = .ok (.invokevirtual 131, 3) := by decide +kernel
theorem d_Judge_same_35 : decode b_Judge_same 35 = .ok (.iload_n 1, 1) := by decide +kernel
theorem d_Judge_same_36 : decode b_Judge_same 36 = .ok (.iload_n 2, 1) := by decide +kernel
theorem d_Judge_same_37 : decode b_Judge_same 37 = .ok (.iload_n 3, 1) := by decide +kernel
theorem d_Judge_same_38 : decode b_Judge_same 38 = .ok (.iload 4, 2) := by decide +kernel
theorem d_Judge_same_40 : decode b_Judge_same 40 = .ok (.invokevirtual 169, 3) := by decide +kernel
theorem d_Judge_same_43 : decode b_Judge_same 43 = .ok (.ireturn, 1) := by decide +kernel
theorem d_Likeness_findLeader_0 : decode b_Likeness_findLeader 0 = .ok (.aload_n 0, 1) := by decide +kernel
theorem d_Likeness_findLeader_1 : decode b_Likeness_findLeader 1 = .ok (.getfield 21, 3) := by decide +kernel
theorem d_Likeness_findLeader_4 : decode b_Likeness_findLeader 4 = .ok (.iload_n 1, 1) := by decide +kernel
theorem d_Likeness_findLeader_5 : decode b_Likeness_findLeader 5 = .ok (.iconst (-1), 1) := by decide +kernel
theorem d_Likeness_findLeader_6 : decode b_Likeness_findLeader 6 = .ok (.iastore, 1) := by decide +kernel
theorem d_Likeness_findLeader_7 : decode b_Likeness_findLeader 7 = .ok (.aload_n 0, 1) := by decide +kernel
theorem d_Likeness_findLeader_8 : decode b_Likeness_findLeader 8 = .ok (.getfield 11, 3) := by decide +kernel
theorem d_Likeness_findLeader_11 : decode b_Likeness_findLeader 11 = .ok (.iload_n 1, 1) := by decide +kernel
theorem d_Likeness_findLeader_12 : decode b_Likeness_findLeader 12 = .ok (.iaload, 1) := by decide +kernel
theorem d_Likeness_findLeader_13 : decode b_Likeness_findLeader 13 = .ok (.istore_n 2, 1) := by decide +kernel
theorem d_Likeness_findLeader_14 : decode b_Likeness_findLeader 14 = .ok (.iload_n 2, 1) := by decide +kernel
theorem d_Likeness_findLeader_15 : decode b_Likeness_findLeader 15 = .ok (.istore_n 3, 1) := by decide +kernel
theorem d_Likeness_findLeader_16 : decode b_Likeness_findLeader 16 = .ok (.iconst 0, 1) := by decide +kernel
theorem d_Likeness_findLeader_17 : decode b_Likeness_findLeader 17 = .ok (.istore 4, 2) := by decide +kernel
theorem d_Likeness_findLeader_19 : decode b_Likeness_findLeader 19 = .ok (.iload 4, 2) := by decide +kernel
theorem d_Likeness_findLeader_21 : decode b_Likeness_findLeader 21 = .ok (.sipush 402, 3) := by decide +kernel
theorem d_Likeness_findLeader_24 : decode b_Likeness_findLeader 24 = .ok (.if_icmp .ge 38, 3) := by decide +kernel
theorem d_Likeness_findLeader_27 : decode b_Likeness_findLeader 27 = .ok (.iload_n 2, 1) := by decide +kernel
theorem d_Likeness_findLeader_28 : decode b_Likeness_findLeader 28 = .ok (.iconst (-1), 1) := by decide +kernel
theorem d_Likeness_findLeader_29 : decode b_Likeness_findLeader 29 = .ok (.if_icmp .eq 33, 3) := by decide +kernel
theorem d_Likeness_findLeader_32 : decode b_Likeness_findLeader 32 = .ok (.aload_n 0, 1) := by decide +kernel
theorem d_Likeness_findLeader_33 : decode b_Likeness_findLeader 33 = .ok (.getfield 18, 3) := by decide +kernel
theorem d_Likeness_findLeader_36 : decode b_Likeness_findLeader 36 = .ok (.iload_n 2, 1) := by decide +kernel
theorem d_Likeness_findLeader_37 : decode b_Likeness_findLeader 37 = .ok (.iaload, 1) := by decide +kernel
theorem d_Likeness_findLeader_38 : decode b_Likeness_findLeader 38 = .ok (.aload_n 0, 1) := by decide +kernel
theorem d_Likeness_findLeader_39 : decode b_Likeness_findLeader 39 = .ok (.getfield 18, 3) := by decide +kernel
theorem d_Likeness_findLeader_42 : decode b_Likeness_findLeader 42 = .ok (.iload_n 1, 1) := by decide +kernel
theorem d_Likeness_findLeader_43 : decode b_Likeness_findLeader 43 = .ok (.iaload, 1) := by decide +kernel
theorem d_Likeness_findLeader_44 : decode b_Likeness_findLeader 44 = .ok (.if_icmp .eq 18, 3) := by decide +kernel
theorem d_Likeness_findLeader_47 : decode b_Likeness_findLeader 47 = .ok (.iload_n 2, 1) := by decide +kernel
theorem d_Likeness_findLeader_48 : decode b_Likeness_findLeader 48 = .ok (.istore_n 3, 1) := by decide +kernel
theorem d_Likeness_findLeader_49 : decode b_Likeness_findLeader 49 = .ok (.aload_n 0, 1) := by decide +kernel
theorem d_Likeness_findLeader_50 : decode b_Likeness_findLeader 50 = .ok (.getfield 21, 3) := by decide +kernel
theorem d_Likeness_findLeader_53 : decode b_Likeness_findLeader 53 = .ok (.iload_n 2, 1) := by decide +kernel
theorem d_Likeness_findLeader_54 : decode b_Likeness_findLeader 54 = .ok (.iaload, 1) := by decide +kernel
theorem d_Likeness_findLeader_55 : decode b_Likeness_findLeader 55 = .ok (.istore_n 2, 1) := by decide +kernel
theorem d_Likeness_findLeader_56 : decode b_Likeness_findLeader 56 = .ok (.iinc 4 1, 3) := by decide +kernel
theorem d_Likeness_findLeader_59 : decode b_Likeness_findLeader 59 = .ok (.goto (-40), 3) := by decide +kernel
theorem d_Likeness_findLeader_62 : decode b_Likeness_findLeader 62 = .ok (.iload_n 2, 1) := by decide +kernel
theorem d_Likeness_findLeader_63 : decode b_Likeness_findLeader 63 = .ok (.iconst (-1), 1) := by decide +kernel
theorem d_Likeness_findLeader_64 : decode b_Likeness_findLeader 64 = .ok (.if_icmp .ne 12, 3) := by decide +kernel
theorem d_Likeness_findLeader_67 : decode b_Likeness_findLeader 67 = .ok (.aload_n 0, 1) := by decide +kernel
theorem d_Likeness_findLeader_68 : decode b_Likeness_findLeader 68 = .ok (.getfield 21, 3) := by decide +kernel
theorem d_Likeness_findLeader_71 : decode b_Likeness_findLeader 71 = .ok (.iload_n 3, 1) := by decide +kernel
theorem d_Likeness_findLeader_72 : decode b_Likeness_findLeader 72 = .ok (.iload_n 1, 1) := by decide +kernel
theorem d_Likeness_findLeader_73 : decode b_Likeness_findLeader 73 = .ok (.iastore, 1) := by decide +kernel
theorem d_Likeness_findLeader_74 : decode b_Likeness_findLeader 74 = .ok (.iload_n 1, 1) := by decide +kernel
theorem d_Likeness_findLeader_75 : decode b_Likeness_findLeader 75 = .ok (.istore_n 2, 1) := by decide +kernel
theorem d_Likeness_findLeader_76 : decode b_Likeness_findLeader 76 = .ok (.aload_n 0, 1) := by decide +kernel
theorem d_Likeness_findLeader_77 : decode b_Likeness_findLeader 77 = .ok (.getfield 11, 3) := by decide +kernel
theorem d_Likeness_findLeader_80 : decode b_Likeness_findLeader 80 = .ok (.iload_n 1, 1) := by decide +kernel
theorem d_Likeness_findLeader_81 : decode b_Likeness_findLeader 81 = .ok (.iload_n 2, 1) := by decide +kernel
theorem d_Likeness_findLeader_82 : decode b_Likeness_findLeader 82 = .ok (.iastore, 1) := by decide +kernel
theorem d_Likeness_findLeader_83 : decode b_Likeness_findLeader 83 = .ok (.return_, 1) := by decide +kernel
theorem d_Likeness_isSplitBy_0 : decode b_Likeness_isSplitBy 0 = .ok (.iconst 0, 1) := by decide +kernel
theorem d_Likeness_isSplitBy_1 : decode b_Likeness_isSplitBy 1 = .ok (.istore_n 3, 1) := by decide +kernel
theorem d_Likeness_isSplitBy_2 : decode b_Likeness_isSplitBy 2 = .ok (.iconst 0, 1) := by decide +kernel
theorem d_Likeness_isSplitBy_3 : decode b_Likeness_isSplitBy 3 = .ok (.istore 4, 2) := by decide +kernel
theorem d_Likeness_isSplitBy_5 : decode b_Likeness_isSplitBy 5 = .ok (.iload 4, 2) := by decide +kernel
theorem d_Likeness_isSplitBy_7 : decode b_Likeness_isSplitBy 7 = .ok (.aload_n 0, 1) := by decide +kernel
theorem d_Likeness_isSplitBy_8 : decode b_Likeness_isSplitBy 8 = .ok (.getfield 30, 3) := by decide +kernel
theorem d_Likeness_isSplitBy_11 : decode b_Likeness_isSplitBy 11 = .ok (.if_icmp .ge 89, 3) := by decide +kernel
theorem d_Likeness_isSplitBy_14 : decode b_Likeness_isSplitBy 14 = .ok (.aload_n 0, 1) := by decide +kernel
theorem d_Likeness_isSplitBy_15 : decode b_Likeness_isSplitBy 15 = .ok (.getfield 27, 3) := by decide +kernel
theorem d_Likeness_isSplitBy_18 : decode b_Likeness_isSplitBy 18 = .ok (.iload 4, 2) := by decide +kernel
theorem d_Likeness_isSplitBy_20 : decode b_Likeness_isSplitBy 20 = .ok (.iaload, 1) := by decide +kernel
theorem d_Likeness_isSplitBy_21 : decode b_Likeness_isSplitBy 21 = .ok (.istore 5, 2) := by decide +kernel
theorem d_Likeness_isSplitBy_23 : decode b_Likeness_isSplitBy 23 = .ok (.aload_n 0, 1) := by decide +kernel
theorem d_Likeness_isSplitBy_24 : decode b_Likeness_isSplitBy 24 = .ok (.getfield 11, 3) := by decide +kernel
theorem d_Likeness_isSplitBy_27 : decode b_Likeness_isSplitBy 27 = .ok (.iload 5, 2) := by decide +kernel
theorem d_Likeness_isSplitBy_29 : decode b_Likeness_isSplitBy 29 = .ok (.iaload, 1) := by decide +kernel
theorem d_Likeness_isSplitBy_30 : decode b_Likeness_isSplitBy 30 = .ok (.istore 6, 2) := by decide +kernel
theorem d_Likeness_isSplitBy_32 : decode b_Likeness_isSplitBy 32 = .ok (.aload_n 0, 1) := by decide +kernel
theorem d_Likeness_isSplitBy_33 : decode b_Likeness_isSplitBy 33 = .ok (.getfield 18, 3) := by decide +kernel
theorem d_Likeness_isSplitBy_36 : decode b_Likeness_isSplitBy 36 = .ok (.iload 5, 2) := by decide +kernel
theorem d_Likeness_isSplitBy_38 : decode b_Likeness_isSplitBy 38 = .ok (.aload_n 1, 1) := by decide +kernel
theorem d_Likeness_isSplitBy_39 : decode b_Likeness_isSplitBy 39 = .ok (.iload_n 2, 1) := by decide +kernel
theorem d_Likeness_isSplitBy_40 : decode b_Likeness_isSplitBy 40 = .ok (.iload 5, 2) := by decide +kernel
theorem d_Likeness_isSplitBy_42 : decode b_Likeness_isSplitBy 42 = .ok (.sipush 201, 3) := by decide +kernel
theorem d_Likeness_isSplitBy_45 : decode b_Likeness_isSplitBy 45 = .ok (.idiv, 1) := by decide +kernel
theorem d_Likeness_isSplitBy_46 : decode b_Likeness_isSplitBy 46 = .ok (.iconst 2, 1) := by decide +kernel
theorem d_Likeness_isSplitBy_47 : decode b_Likeness_isSplitBy 47 = .ok (.iload 5, 2) := by decide +kernel
theorem d_Likeness_isSplitBy_49 : decode b_Likeness_isSplitBy 49 = .ok (.sipush 201, 3) := by decide +kernel
theorem d_Likeness_isSplitBy_52 : decode b_Likeness_isSplitBy 52 = .ok (.irem, 1) := by decide +kernel
theorem d_Likeness_isSplitBy_53 : decode b_Likeness_isSplitBy 53 = .ok (.imul, 1) := by decide +kernel
theorem d_Likeness_isSplitBy_54 : decode b_Likeness_isSplitBy 54 = .ok (.invokevirtual 40, 3) := by decide +kernel
theorem d_Likeness_isSplitBy_57 : decode b_Likeness_isSplitBy 57 = .ok (.aload_n 0, 1) := by decide +kernel
theorem d_Likeness_isSplitBy_58 : decode b_Likeness_isSplitBy 58 = .ok (.getfield 15, 3) := by decide +kernel
theorem d_Likeness_isSplitBy_61 : decode b_Likeness_isSplitBy 61 = .ok (.iload 5, 2) := by decide +kernel
theorem d_Likeness_isSplitBy_63 : decode b_Likeness_isSplitBy 63 = .ok (.iaload, 1) := by decide +kernel
theorem d_Likeness_isSplitBy_64 : decode b_Likeness_isSplitBy 64 = .ok (.ixor, 1) := by decide +kernel
theorem d_Likeness_isSplitBy_65 : decode b_Likeness_isSplitBy 65 = .ok (.iastore, 1) := by decide +kernel
theorem d_Likeness_isSplitBy_66 : decode b_Likeness_isSplitBy 66 = .ok (.aload_n 0, 1) := by decide +kernel
theorem d_Likeness_isSplitBy_67 : decode b_Likeness_isSplitBy 67 = .ok (.iload 5, 2) := by decide +kernel
theorem d_Likeness_isSplitBy_69 : decode b_Likeness_isSplitBy 69 = .ok (.invokevirtual 61, 3) := by decide +kernel
theorem d_Likeness_isSplitBy_72 : decode b_Likeness_isSplitBy 72 = .ok (.iload_n 3, 1) := by decide +kernel
theorem d_Likeness_isSplitBy_73 : decode b_Likeness_isSplitBy 73 = .ok (.ifCond .ne 15, 3) := by decide +kernel
theorem d_Likeness_isSplitBy_76 : decode b_Likeness_isSplitBy 76 = .ok (.aload_n 0, 1) := by decide +kernel
theorem d_Likeness_isSplitBy_77 : decode b_Likeness_isSplitBy 77 = .ok (.getfield 11, 3) := by decide +kernel
theorem d_Likeness_isSplitBy_80 : decode b_Likeness_isSplitBy 80 = .ok (.iload 5, 2) := by decide +kernel
theorem d_Likeness_isSplitBy_82 : decode b_Likeness_isSplitBy 82 = .ok (.iaload, 1) := by decide +kernel
theorem d_Likeness_isSplitBy_83 : decode b_Likeness_isSplitBy 83 = .ok (.iload 6, 2) := by decide +kernel
theorem d_Likeness_isSplitBy_85 : decode b_Likeness_isSplitBy 85 = .ok (.if_icmp .eq 7, 3) := by decide +kernel
theorem d_Likeness_isSplitBy_88 : decode b_Likeness_isSplitBy 88 = .ok (.iconst 1, 1) := by decide +kernel
theorem d_Likeness_isSplitBy_89 : decode b_Likeness_isSplitBy 89 = .ok (.goto 4, 3) := by decide +kernel
theorem d_Likeness_isSplitBy_92 : decode b_Likeness_isSplitBy 92 = .ok (.iconst 0, 1) := by decide +kernel
theorem d_Likeness_isSplitBy_93 : decode b_Likeness_isSplitBy 93 = .ok (.istore_n 3, 1) := by decide +kernel
theorem d_Likeness_isSplitBy_94 : decode b_Likeness_isSplitBy 94 = .ok (.iinc 4 1, 3) := by decide +kernel
theorem d_Likeness_isSplitBy_97 : decode b_Likeness_isSplitBy 97 = .ok (.goto (-92), 3) := by decide +kernel
theorem d_Likeness_isSplitBy_100 : decode b_Likeness_isSplitBy 100 = .ok (.iload_n 3, 1) := by decide +kernel
theorem d_Likeness_isSplitBy_101 : decode b_Likeness_isSplitBy 101 = .ok (.ireturn, 1) := by decide +kernel
theorem d_Likeness_leaveLone_0 : decode b_Likeness_leaveLone 0 = .ok (.aload_n 0, 1) := by decide +kernel
theorem d_Likeness_leaveLone_1 : decode b_Likeness_leaveLone 1 = .ok (.getfield 24, 3) := by decide +kernel
theorem d_Likeness_leaveLone_4 : decode b_Likeness_leaveLone 4 = .ok (.iconst 0, 1) := by decide +kernel
theorem d_Likeness_leaveLone_5 : decode b_Likeness_leaveLone 5 = .ok (.invokestatic 65, 3) := by decide +kernel
theorem d_Likeness_leaveLone_8 : decode b_Likeness_leaveLone 8 = .ok (.iconst 0, 1) := by decide +kernel
theorem d_Likeness_leaveLone_9 : decode b_Likeness_leaveLone 9 = .ok (.istore_n 1, 1) := by decide +kernel
theorem d_Likeness_leaveLone_10 : decode b_Likeness_leaveLone 10 = .ok (.iload_n 1, 1) := by decide +kernel
theorem d_Likeness_leaveLone_11 : decode b_Likeness_leaveLone 11 = .ok (.aload_n 0, 1) := by decide +kernel
theorem d_Likeness_leaveLone_12 : decode b_Likeness_leaveLone 12 = .ok (.getfield 30, 3) := by decide +kernel
theorem d_Likeness_leaveLone_15 : decode b_Likeness_leaveLone 15 = .ok (.if_icmp .ge 29, 3) := by decide +kernel
theorem d_Likeness_leaveLone_18 : decode b_Likeness_leaveLone 18 = .ok (.aload_n 0, 1) := by decide +kernel
theorem d_Likeness_leaveLone_19 : decode b_Likeness_leaveLone 19 = .ok (.getfield 24, 3) := by decide +kernel
theorem d_Likeness_leaveLone_22 : decode b_Likeness_leaveLone 22 = .ok (.aload_n 0, 1) := by decide +kernel
theorem d_Likeness_leaveLone_23 : decode b_Likeness_leaveLone 23 = .ok (.getfield 11, 3) := by decide +kernel
theorem d_Likeness_leaveLone_26 : decode b_Likeness_leaveLone 26 = .ok (.aload_n 0, 1) := by decide +kernel
theorem d_Likeness_leaveLone_27 : decode b_Likeness_leaveLone 27 = .ok (.getfield 27, 3) := by decide +kernel
theorem d_Likeness_leaveLone_30 : decode b_Likeness_leaveLone 30 = .ok (.iload_n 1, 1) := by decide +kernel
theorem d_Likeness_leaveLone_31 : decode b_Likeness_leaveLone 31 = .ok (.iaload, 1) := by decide +kernel
theorem d_Likeness_leaveLone_32 : decode b_Likeness_leaveLone 32 = .ok (.iaload, 1) := by decide +kernel
theorem d_Likeness_leaveLone_33 : decode b_Likeness_leaveLone 33 = .ok (.dup2, 1) := by decide +kernel
theorem d_Likeness_leaveLone_34 : decode b_Likeness_leaveLone 34 = .ok (.iaload, 1) := by decide +kernel
theorem d_Likeness_leaveLone_35 : decode b_Likeness_leaveLone 35 = .ok (.iconst 1, 1) := by decide +kernel
theorem d_Likeness_leaveLone_36 : decode b_Likeness_leaveLone 36 = .ok (.iadd, 1) := by decide +kernel
theorem d_Likeness_leaveLone_37 : decode b_Likeness_leaveLone 37 = .ok (.iastore, 1) := by decide +kernel
theorem d_Likeness_leaveLone_38 : decode b_Likeness_leaveLone 38 = .ok (.iinc 1 1, 3) := by decide +kernel
theorem d_Likeness_leaveLone_41 : decode b_Likeness_leaveLone 41 = .ok (.goto (-31), 3) := by decide +kernel
theorem d_Likeness_leaveLone_44 : decode b_Likeness_leaveLone 44 = .ok (.iconst 0, 1) := by decide +kernel
theorem d_Likeness_leaveLone_45 : decode b_Likeness_leaveLone 45 = .ok (.istore_n 1, 1) := by decide +kernel
theorem d_Likeness_leaveLone_46 : decode b_Likeness_leaveLone 46 = .ok (.iconst 0, 1) := by decide +kernel
theorem d_Likeness_leaveLone_47 : decode b_Likeness_leaveLone 47 = .ok (.istore_n 2, 1) := by decide +kernel
theorem d_Likeness_leaveLone_48 : decode b_Likeness_leaveLone 48 = .ok (.iload_n 2, 1) := by decide +kernel
theorem d_Likeness_leaveLone_49 : decode b_Likeness_leaveLone 49 = .ok (.aload_n 0, 1) := by decide +kernel
theorem d_Likeness_leaveLone_50 : decode b_Likeness_leaveLone 50 = .ok (.getfield 30, 3) := by decide +kernel
theorem d_Likeness_leaveLone_53 : decode b_Likeness_leaveLone 53 = .ok (.if_icmp .ge 44, 3) := by decide +kernel
theorem d_Likeness_leaveLone_56 : decode b_Likeness_leaveLone 56 = .ok (.aload_n 0, 1) := by decide +kernel
theorem d_Likeness_leaveLone_57 : decode b_Likeness_leaveLone 57 = .ok (.getfield 24, 3) := by decide +kernel
theorem d_Likeness_leaveLone_60 : decode b_Likeness_leaveLone 60 = .ok (.aload_n 0, 1) := by decide +kernel
theorem d_Likeness_leaveLone_61 : decode b_Likeness_leaveLone 61 = .ok (.getfield 11, 3) := by decide +kernel
theorem d_Likeness_leaveLone_64 : decode b_Likeness_leaveLone 64 = .ok (.aload_n 0, 1) := by decide +kernel
theorem d_Likeness_leaveLone_65 : decode b_Likeness_leaveLone 65 = .ok (.getfield 27, 3) := by decide +kernel
theorem d_Likeness_leaveLone_68 : decode b_Likeness_leaveLone 68 = .ok (.iload_n 2, 1) := by decide +kernel
theorem d_Likeness_leaveLone_69 : decode b_Likeness_leaveLone 69 = .ok (.iaload, 1) := by decide +kernel
theorem d_Likeness_leaveLone_70 : decode b_Likeness_leaveLone 70 = .ok (.iaload, 1) := by decide +kernel
theorem d_Likeness_leaveLone_71 : decode b_Likeness_leaveLone 71 = .ok (.iaload, 1) := by decide +kernel
theorem d_Likeness_leaveLone_72 : decode b_Likeness_leaveLone 72 = .ok (.iconst 1, 1) := by decide +kernel
theorem d_Likeness_leaveLone_73 : decode b_Likeness_leaveLone 73 = .ok (.if_icmp .le 18, 3) := by decide +kernel
theorem d_Likeness_leaveLone_76 : decode b_Likeness_leaveLone 76 = .ok (.aload_n 0, 1) := by decide +kernel
theorem d_Likeness_leaveLone_77 : decode b_Likeness_leaveLone 77 = .ok (.getfield 27, 3) := by decide +kernel
theorem d_Likeness_leaveLone_80 : decode b_Likeness_leaveLone 80 = .ok (.iload_n 1, 1) := by decide +kernel
theorem d_Likeness_leaveLone_81 : decode b_Likeness_leaveLone 81 = .ok (.aload_n 0, 1) := by decide +kernel
theorem d_Likeness_leaveLone_82 : decode b_Likeness_leaveLone 82 = .ok (.getfield 27, 3) := by decide +kernel
theorem d_Likeness_leaveLone_85 : decode b_Likeness_leaveLone 85 = .ok (.iload_n 2, 1) := by decide +kernel
theorem d_Likeness_leaveLone_86 : decode b_Likeness_leaveLone 86 = .ok (.iaload, 1) := by decide +kernel
theorem d_Likeness_leaveLone_87 : decode b_Likeness_leaveLone 87 = .ok (.iastore, 1) := by decide +kernel
theorem d_Likeness_leaveLone_88 : decode b_Likeness_leaveLone 88 = .ok (.iinc 1 1, 3) := by decide +kernel
theorem d_Likeness_leaveLone_91 : decode b_Likeness_leaveLone 91 = .ok (.iinc 2 1, 3) := by decide +kernel
theorem d_Likeness_leaveLone_94 : decode b_Likeness_leaveLone 94 = .ok (.goto (-46), 3) := by decide +kernel
theorem d_Likeness_leaveLone_97 : decode b_Likeness_leaveLone 97 = .ok (.aload_n 0, 1) := by decide +kernel
theorem d_Likeness_leaveLone_98 : decode b_Likeness_leaveLone 98 = .ok (.iload_n 1, 1) := by decide +kernel
theorem d_Likeness_leaveLone_99 : decode b_Likeness_leaveLone 99 = .ok (.putfield 30, 3) := by decide +kernel
theorem d_Likeness_leaveLone_102 : decode b_Likeness_leaveLone 102 = .ok (.return_, 1) := by decide +kernel
