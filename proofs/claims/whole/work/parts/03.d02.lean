theorem d_Reader_readSymbol_0 : decode b_Reader_readSymbol 0 = .ok (.aload_n 0, 1) := by decide +kernel
theorem d_Reader_readSymbol_1 : decode b_Reader_readSymbol 1 = .ok (.getfield 39, 3) := by decide +kernel
theorem d_Reader_readSymbol_4 : decode b_Reader_readSymbol 4 = .ok (.aload_n 0, 1) := by decide +kernel
theorem d_Reader_readSymbol_5 : decode b_Reader_readSymbol 5 = .ok (.getfield 46, 3) := by decide +kernel
theorem d_Reader_readSymbol_8 : decode b_Reader_readSymbol 8 = .ok (.invokevirtual 96, 3) := by decide +kernel
theorem d_Reader_readSymbol_11 : decode b_Reader_readSymbol 11 = .ok (.invokestatic 185, 3) := by decide +kernel
theorem d_Reader_readSymbol_14 : decode b_Reader_readSymbol 14 = .ok (.istore_n 1, 1) := by decide +kernel
theorem d_Reader_readSymbol_15 : decode b_Reader_readSymbol 15 = .ok (.iload_n 1, 1) := by decide +kernel
theorem d_Reader_readSymbol_16 : decode b_Reader_readSymbol 16 = .ok (.iconst (-1), 1) := by decide +kernel
theorem d_Reader_readSymbol_17 : decode b_Reader_readSymbol 17 = .ok (.if_icmp .ne 13, 3) := by decide +kernel
theorem d_Reader_readSymbol_20 : decode b_Reader_readSymbol 20 = .ok (.aload_n 0, 1) := by decide +kernel
theorem d_Reader_readSymbol_21 : decode b_Reader_readSymbol 21 = .ok (.iconst 1, 1) := by decide +kernel
theorem d_Reader_readSymbol_22 : decode b_Reader_readSymbol 22 = .ok (.aload_n 0, 1) := by decide +kernel
theorem d_Reader_readSymbol_23 : decode b_Reader_readSymbol 23 = .ok (.getfield 46, 3) := by decide +kernel
theorem d_Reader_readSymbol_26 : decode b_Reader_readSymbol 26 = .ok (.invokevirtual 101, 3) := by decide +kernel
theorem d_Reader_readSymbol_29 : decode b_Reader_readSymbol 29 = .ok (.ireturn, 1) := by decide +kernel
theorem d_Reader_readSymbol_30 : decode b_Reader_readSymbol 30 = .ok (.aload_n 0, 1) := by decide +kernel
theorem d_Reader_readSymbol_31 : decode b_Reader_readSymbol 31 = .ok (.dup, 1) := by decide +kernel
theorem d_Reader_readSymbol_32 : decode b_Reader_readSymbol 32 = .ok (.getfield 46, 3) := by decide +kernel
theorem d_Reader_readSymbol_35 : decode b_Reader_readSymbol 35 = .ok (.iconst 1, 1) := by decide +kernel
theorem d_Reader_readSymbol_36 : decode b_Reader_readSymbol 36 = .ok (.iadd, 1) := by decide +kernel
theorem d_Reader_readSymbol_37 : decode b_Reader_readSymbol 37 = .ok (.putfield 46, 3) := by decide +kernel
theorem d_Reader_readSymbol_40 : decode b_Reader_readSymbol 40 = .ok (.aload_n 0, 1) := by decide +kernel
theorem d_Reader_readSymbol_41 : decode b_Reader_readSymbol 41 = .ok (.invokevirtual 118, 3) := by decide +kernel
theorem d_Reader_readSymbol_44 : decode b_Reader_readSymbol 44 = .ok (.ifCond .ne 5, 3) := by decide +kernel
theorem d_Reader_readSymbol_47 : decode b_Reader_readSymbol 47 = .ok (.iconst 0, 1) := by decide +kernel
theorem d_Reader_readSymbol_48 : decode b_Reader_readSymbol 48 = .ok (.ireturn, 1) := by decide +kernel
theorem d_Reader_readSymbol_49 : decode b_Reader_readSymbol 49 = .ok (.aload_n 0, 1) := by decide +kernel
theorem d_Reader_readSymbol_50 : decode b_Reader_readSymbol 50 = .ok (.getfield 21, 3) := by decide +kernel
theorem d_Reader_readSymbol_53 : decode b_Reader_readSymbol 53 = .ok (.iload_n 1, 1) := by decide +kernel
theorem d_Reader_readSymbol_54 : decode b_Reader_readSymbol 54 = .ok (.aload_n 0, 1) := by decide +kernel
theorem d_Reader_readSymbol_55 : decode b_Reader_readSymbol 55 = .ok (.getfield 108, 3) := by decide +kernel
theorem d_Reader_readSymbol_58 : decode b_Reader_readSymbol 58 = .ok (.invokevirtual 188, 3) := by decide +kernel
theorem d_Reader_readSymbol_61 : decode b_Reader_readSymbol 61 = .ok (.istore_n 2, 1) := by decide +kernel
theorem d_Reader_readSymbol_62 : decode b_Reader_readSymbol 62 = .ok (.iload_n 2, 1) := by decide +kernel
theorem d_Reader_readSymbol_63 : decode b_Reader_readSymbol 63 = .ok (.iconst (-1), 1) := by decide +kernel
theorem d_Reader_readSymbol_64 : decode b_Reader_readSymbol 64 = .ok (.if_icmp .eq 15, 3) := by decide +kernel
theorem d_Reader_readSymbol_67 : decode b_Reader_readSymbol 67 = .ok (.aload_n 0, 1) := by decide +kernel
theorem d_Reader_readSymbol_68 : decode b_Reader_readSymbol 68 = .ok (.getfield 21, 3) := by decide +kernel
theorem d_Reader_readSymbol_71 : decode b_Reader_readSymbol 71 = .ok (.getfield 192, 3) := by decide +kernel
theorem d_Reader_readSymbol_74 : decode b_Reader_readSymbol 74 = .ok (.iload_n 2, 1) := by decide +kernel
theorem d_Reader_readSymbol_75 : decode b_Reader_readSymbol 75 = .ok (.iaload, 1) := by decide +kernel
theorem d_Reader_readSymbol_76 : decode b_Reader_readSymbol 76 = .ok (.ifCond .le 13, 3) := by decide +kernel
theorem d_Reader_readSymbol_79 : decode b_Reader_readSymbol 79 = .ok (.aload_n 0, 1) := by decide +kernel
theorem d_Reader_readSymbol_80 : decode b_Reader_readSymbol 80 = .ok (.iconst 1, 1) := by decide +kernel
theorem d_Reader_readSymbol_81 : decode b_Reader_readSymbol 81 = .ok (.aload_n 0, 1) := by decide +kernel
theorem d_Reader_readSymbol_82 : decode b_Reader_readSymbol 82 = .ok (.getfield 46, 3) := by decide +kernel
theorem d_Reader_readSymbol_85 : decode b_Reader_readSymbol 85 = .ok (.invokevirtual 101, 3) := by decide +kernel
theorem d_Reader_readSymbol_88 : decode b_Reader_readSymbol 88 = .ok (.ireturn, 1) := by decide +kernel
theorem d_Reader_readSymbol_89 : decode b_Reader_readSymbol 89 = .ok (.aload_n 0, 1) := by decide +kernel
theorem d_Reader_readSymbol_90 : decode b_Reader_readSymbol 90 = .ok (.bipush 32, 2) := by decide +kernel
theorem d_Reader_readSymbol_92 : decode b_Reader_readSymbol 92 = .ok (.invokevirtual 115, 3) := by decide +kernel
theorem d_Reader_readSymbol_95 : decode b_Reader_readSymbol 95 = .ok (.ifCond .eq 15, 3) := by decide +kernel
theorem d_Reader_readSymbol_98 : decode b_Reader_readSymbol 98 = .ok (.aload_n 0, 1) := by decide +kernel
theorem d_Reader_readSymbol_99 : decode b_Reader_readSymbol 99 = .ok (.iload_n 2, 1) := by decide +kernel
theorem d_Reader_readSymbol_100 : decode b_Reader_readSymbol 100 = .ok (.invokevirtual 195, 3) := by decide +kernel
theorem d_Reader_readSymbol_103 : decode b_Reader_readSymbol 103 = .ok (.ifCond .eq 7, 3) := by decide +kernel
theorem d_Reader_readSymbol_106 : decode b_Reader_readSymbol 106 = .ok (.iconst 1, 1) := by decide +kernel
theorem d_Reader_readSymbol_107 : decode b_Reader_readSymbol 107 = .ok (.goto 4, 3) := by decide +kernel
theorem d_Reader_readSymbol_110 : decode b_Reader_readSymbol 110 = .ok (.iconst 0, 1) := by decide +kernel
theorem d_Reader_readSymbol_111 : decode b_Reader_readSymbol 111 = .ok (.ireturn, 1) := by decide +kernel
theorem d_Reader_readSymbols_0 : decode b_Reader_readSymbols 0 = .ok (.iconst 0, 1) := by decide +kernel
theorem d_Reader_readSymbols_1 : decode b_Reader_readSymbols 1 = .ok (.istore_n 1, 1) := by decide +kernel
theorem d_Reader_readSymbols_2 : decode b_Reader_readSymbols 2 = .ok (.iload_n 1, 1) := by decide +kernel
theorem d_Reader_readSymbols_3 : decode b_Reader_readSymbols 3 = .ok (.sipush 6000, 3) := by decide +kernel
theorem d_Reader_readSymbols_6 : decode b_Reader_readSymbols 6 = .ok (.if_icmp .ge 65, 3) := by decide +kernel
theorem d_Reader_readSymbols_9 : decode b_Reader_readSymbols 9 = .ok (.aload_n 0, 1) := by decide +kernel
theorem d_Reader_readSymbols_10 : decode b_Reader_readSymbols 10 = .ok (.getfield 46, 3) := by decide +kernel
theorem d_Reader_readSymbols_13 : decode b_Reader_readSymbols 13 = .ok (.aload_n 0, 1) := by decide +kernel
theorem d_Reader_readSymbols_14 : decode b_Reader_readSymbols 14 = .ok (.getfield 39, 3) := by decide +kernel
theorem d_Reader_readSymbols_17 : decode b_Reader_readSymbols 17 = .ok (.getfield 179, 3) := by decide +kernel
theorem d_Reader_readSymbols_20 : decode b_Reader_readSymbols 20 = .ok (.if_icmp .ge 51, 3) := by decide +kernel
theorem d_Reader_readSymbols_23 : decode b_Reader_readSymbols 23 = .ok (.aload_n 0, 1) := by decide +kernel
theorem d_Reader_readSymbols_24 : decode b_Reader_readSymbols 24 = .ok (.getfield 39, 3) := by decide +kernel
theorem d_Reader_readSymbols_27 : decode b_Reader_readSymbols 27 = .ok (.aload_n 0, 1) := by decide +kernel
theorem d_Reader_readSymbols_28 : decode b_Reader_readSymbols 28 = .ok (.getfield 46, 3) := by decide +kernel
theorem d_Reader_readSymbols_31 : decode b_Reader_readSymbols 31 = .ok (.invokevirtual 96, 3) := by decide +kernel
theorem d_Reader_readSymbols_34 : decode b_Reader_readSymbols 34 = .ok (.bipush 99, 2) := by decide +kernel
theorem d_Reader_readSymbols_36 : decode b_Reader_readSymbols 36 = .ok (.if_icmp .ne 20, 3) := by decide +kernel
theorem d_Reader_readSymbols_39 : decode b_Reader_readSymbols 39 = .ok (.aload_n 0, 1) := by decide +kernel
theorem d_Reader_readSymbols_40 : decode b_Reader_readSymbols 40 = .ok (.dup, 1) := by decide +kernel
theorem d_Reader_readSymbols_41 : decode b_Reader_readSymbols 41 = .ok (.getfield 46, 3) := by decide +kernel
theorem d_Reader_readSymbols_44 : decode b_Reader_readSymbols 44 = .ok (.iconst 1, 1) := by decide +kernel
theorem d_Reader_readSymbols_45 : decode b_Reader_readSymbols 45 = .ok (.iadd, 1) := by decide +kernel
theorem d_Reader_readSymbols_46 : decode b_Reader_readSymbols 46 = .ok (.putfield 46, 3) := by decide +kernel
theorem d_Reader_readSymbols_49 : decode b_Reader_readSymbols 49 = .ok (.aload_n 0, 1) := by decide +kernel
theorem d_Reader_readSymbols_50 : decode b_Reader_readSymbols 50 = .ok (.bipush 10, 2) := by decide +kernel
theorem d_Reader_readSymbols_52 : decode b_Reader_readSymbols 52 = .ok (.invokevirtual 115, 3) := by decide +kernel
theorem d_Reader_readSymbols_55 : decode b_Reader_readSymbols 55 = .ok (.ireturn, 1) := by decide +kernel
theorem d_Reader_readSymbols_56 : decode b_Reader_readSymbols 56 = .ok (.aload_n 0, 1) := by decide +kernel
theorem d_Reader_readSymbols_57 : decode b_Reader_readSymbols 57 = .ok (.invokevirtual 182, 3) := by decide +kernel
theorem d_Reader_readSymbols_60 : decode b_Reader_readSymbols 60 = .ok (.ifCond .ne 5, 3) := by decide +kernel
theorem d_Reader_readSymbols_63 : decode b_Reader_readSymbols 63 = .ok (.iconst 0, 1) := by decide +kernel
theorem d_Reader_readSymbols_64 : decode b_Reader_readSymbols 64 = .ok (.ireturn, 1) := by decide +kernel
theorem d_Reader_readSymbols_65 : decode b_Reader_readSymbols 65 = .ok (.iinc 1 1, 3) := by decide +kernel
theorem d_Reader_readSymbols_68 : decode b_Reader_readSymbols 68 = .ok (.goto (-66), 3) := by decide +kernel
theorem d_Reader_readSymbols_71 : decode b_Reader_readSymbols 71 = .ok (.iconst 1, 1) := by decide +kernel
theorem d_Reader_readSymbols_72 : decode b_Reader_readSymbols 72 = .ok (.ireturn, 1) := by decide +kernel
theorem d_Circuit_isDefined_0 : decode b_Circuit_isDefined 0 = .ok (.iload_n 1, 1) := by decide +kernel
theorem d_Circuit_isDefined_1 : decode b_Circuit_isDefined 1 = .ok (.ifCond .lt 35, 3) := by decide +kernel
theorem d_Circuit_isDefined_4 : decode b_Circuit_isDefined 4 = .ok (.iload_n 1, 1) := by decide +kernel
theorem d_Circuit_isDefined_5 : decode b_Circuit_isDefined 5 = .ok (.iconst 2, 1) := by decide +kernel
theorem d_Circuit_isDefined_6 : decode b_Circuit_isDefined 6 = .ok (.aload_n 0, 1) := by decide +kernel
theorem d_Circuit_isDefined_7 : decode b_Circuit_isDefined 7 = .ok (.getfield 52, 3) := by decide +kernel
theorem d_Circuit_isDefined_10 : decode b_Circuit_isDefined 10 = .ok (.imul, 1) := by decide +kernel
theorem d_Circuit_isDefined_11 : decode b_Circuit_isDefined 11 = .ok (.iconst 1, 1) := by decide +kernel
theorem d_Circuit_isDefined_12 : decode b_Circuit_isDefined 12 = .ok (.iadd, 1) := by decide +kernel
theorem d_Circuit_isDefined_13 : decode b_Circuit_isDefined 13 = .ok (.if_icmp .gt 23, 3) := by decide +kernel
theorem d_Circuit_isDefined_16 : decode b_Circuit_isDefined 16 = .ok (.iload_n 1, 1) := by decide +kernel
theorem d_Circuit_isDefined_17 : decode b_Circuit_isDefined 17 = .ok (.iconst 2, 1) := by decide +kernel
theorem d_Circuit_isDefined_18 : decode b_Circuit_isDefined 18 = .ok (.if_icmp .lt 14, 3) := by decide +kernel
theorem d_Circuit_isDefined_21 : decode b_Circuit_isDefined 21 = .ok (.aload_n 0, 1) := by decide +kernel
theorem d_Circuit_isDefined_22 : decode b_Circuit_isDefined 22 = .ok (.getfield 9, 3) := by decide +kernel
theorem d_Circuit_isDefined_25 : decode b_Circuit_isDefined 25 = .ok (.iload_n 1, 1) := by decide +kernel
theorem d_Circuit_isDefined_26 : decode b_Circuit_isDefined 26 = .ok (.iconst 1, 1) := by decide +kernel
theorem d_Circuit_isDefined_27 : decode b_Circuit_isDefined 27 = .ok (.ishr, 1) := by decide +kernel
theorem d_Circuit_isDefined_28 : decode b_Circuit_isDefined 28 = .ok (.baload, 1) := by decide +kernel
theorem d_Circuit_isDefined_29 : decode b_Circuit_isDefined 29 = .ok (.ifCond .eq 7, 3) := by decide +kernel
theorem d_Circuit_isDefined_32 : decode b_Circuit_isDefined 32 = .ok (.iconst 1, 1) := by decide +kernel
theorem d_Circuit_isDefined_33 : decode b_Circuit_isDefined 33 = .ok (.goto 4, 3) := by decide +kernel
theorem d_Circuit_isDefined_36 : decode b_Circuit_isDefined 36 = .ok (.iconst 0, 1) := by decide +kernel
theorem d_Circuit_isDefined_37 : decode b_Circuit_isDefined 37 = .ok (.ireturn, 1) := by decide +kernel
theorem d_Reader_findUndefined_0 : decode b_Reader_findUndefined 0 = .ok (.iconst 0, 1) := by decide +kernel
theorem d_Reader_findUndefined_1 : decode b_Reader_findUndefined 1 = .ok (.istore_n 1, 1) := by decide +kernel
theorem d_Reader_findUndefined_2 : decode b_Reader_findUndefined 2 = .ok (.iload_n 1, 1) := by decide +kernel
theorem d_Reader_findUndefined_3 : decode b_Reader_findUndefined 3 = .ok (.aload_n 0, 1) := by decide +kernel
theorem d_Reader_findUndefined_4 : decode b_Reader_findUndefined 4 = .ok (.getfield 49, 3) := by decide +kernel
theorem d_Reader_findUndefined_7 : decode b_Reader_findUndefined 7 = .ok (.if_icmp .ge 37, 3) := by decide +kernel
theorem d_Reader_findUndefined_10 : decode b_Reader_findUndefined 10 = .ok (.aload_n 0, 1) := by decide +kernel
theorem d_Reader_findUndefined_11 : decode b_Reader_findUndefined 11 = .ok (.getfield 21, 3) := by decide +kernel
theorem d_Reader_findUndefined_14 : decode b_Reader_findUndefined 14 = .ok (.aload_n 0, 1) := by decide +kernel
theorem d_Reader_findUndefined_15 : decode b_Reader_findUndefined 15 = .ok (.getfield 29, 3) := by decide +kernel
theorem d_Reader_findUndefined_18 : decode b_Reader_findUndefined 18 = .ok (.iload_n 1, 1) := by decide +kernel
theorem d_Reader_findUndefined_19 : decode b_Reader_findUndefined 19 = .ok (.iaload, 1) := by decide +kernel
theorem d_Reader_findUndefined_20 : decode b_Reader_findUndefined 20 = .ok (.invokevirtual 201, 3) := by decide +kernel
theorem d_Reader_findUndefined_23 : decode b_Reader_findUndefined 23 = .ok (.ifCond .ne 15, 3) := by decide +kernel
theorem d_Reader_findUndefined_26 : decode b_Reader_findUndefined 26 = .ok (.aload_n 0, 1) := by decide +kernel
theorem d_Reader_findUndefined_27 : decode b_Reader_findUndefined 27 = .ok (.iconst 5, 1) := by decide +kernel
theorem d_Reader_findUndefined_28 : decode b_Reader_findUndefined 28 = .ok (.aload_n 0, 1) := by decide +kernel
theorem d_Reader_findUndefined_29 : decode b_Reader_findUndefined 29 = .ok (.getfield 32, 3) := by decide +kernel
theorem d_Reader_findUndefined_32 : decode b_Reader_findUndefined 32 = .ok (.iload_n 1, 1) := by decide +kernel
theorem d_Reader_findUndefined_33 : decode b_Reader_findUndefined 33 = .ok (.iaload, 1) := by decide +kernel
theorem d_Reader_findUndefined_34 : decode b_Reader_findUndefined 34 = .ok (.invokevirtual 101, 3) := by decide +kernel
theorem d_Reader_findUndefined_37 : decode b_Reader_findUndefined 37 = .ok (.ireturn, 1) := by decide +kernel
theorem d_Reader_findUndefined_38 : decode b_Reader_findUndefined 38 = .ok (.iinc 1 1, 3) := by decide +kernel
theorem d_Reader_findUndefined_41 : decode b_Reader_findUndefined 41 = .ok (.goto (-39), 3) := by decide +kernel
theorem d_Reader_findUndefined_44 : decode b_Reader_findUndefined 44 = .ok (.iconst 1, 1) := by decide +kernel
theorem d_Reader_findUndefined_45 : decode b_Reader_findUndefined 45 = .ok (.ireturn, 1) := by decide +kernel
theorem d_Sorter_firstReady_0 : decode b_Sorter_firstReady 0 = .ok (.iconst 0, 1) := by decide +kernel
theorem d_Sorter_firstReady_1 : decode b_Sorter_firstReady 1 = .ok (.istore_n 2, 1) := by decide +kernel
theorem d_Sorter_firstReady_2 : decode b_Sorter_firstReady 2 = .ok (.iload_n 2, 1) := by decide +kernel
theorem d_Sorter_firstReady_3 : decode b_Sorter_firstReady 3 = .ok (.aload_n 1, 1) := by decide +kernel
theorem d_Sorter_firstReady_4 : decode b_Sorter_firstReady 4 = .ok (.getfield 31, 3) := by decide +kernel
theorem d_Sorter_firstReady_7 : decode b_Sorter_firstReady 7 = .ok (.if_icmp .ge 59, 3) := by decide +kernel
theorem d_Sorter_firstReady_10 : decode b_Sorter_firstReady 10 = .ok (.aload_n 0, 1) := by decide +kernel
theorem d_Sorter_firstReady_11 : decode b_Sorter_firstReady 11 = .ok (.getfield 9, 3) := by decide +kernel
theorem d_Sorter_firstReady_14 : decode b_Sorter_firstReady 14 = .ok (.iload_n 2, 1) := by decide +kernel
theorem d_Sorter_firstReady_15 : decode b_Sorter_firstReady 15 = .ok (.iaload, 1) := by decide +kernel
theorem d_Sorter_firstReady_16 : decode b_Sorter_firstReady 16 = .ok (.istore_n 3, 1) := by decide +kernel
theorem d_Sorter_firstReady_17 : decode b_Sorter_firstReady 17 = .ok (.aload_n 0, 1) := by decide +kernel
theorem d_Sorter_firstReady_18 : decode b_Sorter_firstReady 18 = .ok (.getfield 15, 3) := by decide +kernel
theorem d_Sorter_firstReady_21 : decode b_Sorter_firstReady 21 = .ok (.iload_n 3, 1) := by decide +kernel
theorem d_Sorter_firstReady_22 : decode b_Sorter_firstReady 22 = .ok (.baload, 1) := by decide +kernel
theorem d_Sorter_firstReady_23 : decode b_Sorter_firstReady 23 = .ok (.ifCond .ne 37, 3) := by decide +kernel
theorem d_Sorter_firstReady_26 : decode b_Sorter_firstReady 26 = .ok (.aload_n 0, 1) := by decide +kernel
theorem d_Sorter_firstReady_27 : decode b_Sorter_firstReady 27 = .ok (.getfield 15, 3) := by decide +kernel
theorem d_Sorter_firstReady_30 : decode b_Sorter_firstReady 30 = .ok (.aload_n 1, 1) := by decide +kernel
theorem d_Sorter_firstReady_31 : decode b_Sorter_firstReady 31 = .ok (.getfield 42, 3) := by decide +kernel
theorem d_Sorter_firstReady_34 : decode b_Sorter_firstReady 34 = .ok (.iload_n 3, 1) := by decide +kernel
theorem d_Sorter_firstReady_35 : decode b_Sorter_firstReady 35 = .ok (.iaload, 1) := by decide +kernel
theorem d_Sorter_firstReady_36 : decode b_Sorter_firstReady 36 = .ok (.iconst 1, 1) := by decide +kernel
theorem d_Sorter_firstReady_37 : decode b_Sorter_firstReady 37 = .ok (.ishr, 1) := by decide +kernel
theorem d_Sorter_firstReady_38 : decode b_Sorter_firstReady 38 = .ok (.baload, 1) := by decide +kernel
theorem d_Sorter_firstReady_39 : decode b_Sorter_firstReady 39 = .ok (.ifCond .eq 21, 3) := by decide +kernel
theorem d_Sorter_firstReady_42 : decode b_Sorter_firstReady 42 = .ok (.aload_n 0, 1) := by decide +kernel
theorem d_Sorter_firstReady_43 : decode b_Sorter_firstReady 43 = .ok (.getfield 15, 3) := by decide +kernel
theorem d_Sorter_firstReady_46 : decode b_Sorter_firstReady 46 = .ok (.aload_n 1, 1) := by decide +kernel
theorem d_Sorter_firstReady_47 : decode b_Sorter_firstReady 47 = .ok (.getfield 45, 3) := by decide +kernel
theorem d_Sorter_firstReady_50 : decode b_Sorter_firstReady 50 = .ok (.iload_n 3, 1) := by decide +kernel
theorem d_Sorter_firstReady_51 : decode b_Sorter_firstReady 51 = .ok (.iaload, 1) := by decide +kernel
theorem d_Sorter_firstReady_52 : decode b_Sorter_firstReady 52 = .ok (.iconst 1, 1) := by decide +kernel
theorem d_Sorter_firstReady_53 : decode b_Sorter_firstReady 53 = .ok (.ishr, 1) := by decide +kernel
theorem d_Sorter_firstReady_54 : decode b_Sorter_firstReady 54 = .ok (.baload, 1) := by decide +kernel
theorem d_Sorter_firstReady_55 : decode b_Sorter_firstReady 55 = .ok (.ifCond .eq 5, 3) := by decide +kernel
theorem d_Sorter_firstReady_58 : decode b_Sorter_firstReady 58 = .ok (.iload_n 2, 1) := by decide +kernel
theorem d_Sorter_firstReady_59 : decode b_Sorter_firstReady 59 = .ok (.ireturn, 1) := by decide +kernel
theorem d_Sorter_firstReady_60 : decode b_Sorter_firstReady 60 = .ok (.iinc 2 1, 3) := by decide +kernel
theorem d_Sorter_firstReady_63 : decode b_Sorter_firstReady 63 = .ok (.goto (-61), 3) := by decide +kernel
theorem d_Sorter_firstReady_66 : decode b_Sorter_firstReady 66 = .ok (.iconst (-1), 1) := by decide +kernel
theorem d_Sorter_firstReady_67 : decode b_Sorter_firstReady 67 = .ok (.ireturn, 1) := by decide +kernel
theorem d_Sorter_sort_0 : decode b_Sorter_sort 0 = .ok (.iconst 0, 1) := by decide +kernel
theorem d_Sorter_sort_1 : decode b_Sorter_sort 1 = .ok (.istore_n 2, 1) := by decide +kernel
theorem d_Sorter_sort_2 : decode b_Sorter_sort 2 = .ok (.iload_n 2, 1) := by decide +kernel
theorem d_Sorter_sort_3 : decode b_Sorter_sort 3 = .ok (.sipush 201, 3) := by decide +kernel
theorem d_Sorter_sort_6 : decode b_Sorter_sort 6 = .ok (.if_icmp .ge 30, 3) := by decide +kernel
theorem d_Sorter_sort_9 : decode b_Sorter_sort 9 = .ok (.aload_n 0, 1) := by decide +kernel
theorem d_Sorter_sort_10 : decode b_Sorter_sort 10 = .ok (.getfield 15, 3) := by decide +kernel
theorem d_Sorter_sort_13 : decode b_Sorter_sort 13 = .ok (.iload_n 2, 1) := by decide +kernel
theorem d_Sorter_sort_14 : decode b_Sorter_sort 14 = .ok (.aload_n 1, 1) := by decide +kernel
theorem d_Sorter_sort_15 : decode b_Sorter_sort 15 = .ok (.getfield 25, 3) := by decide +kernel
theorem d_Sorter_sort_18 : decode b_Sorter_sort 18 = .ok (.iload_n 2, 1) := by decide +kernel
theorem d_Sorter_sort_19 : decode b_Sorter_sort 19 = .ok (.baload, 1) := by decide +kernel
theorem d_Sorter_sort_20 : decode b_Sorter_sort 20 = .ok (.iconst 3, 1) := by decide +kernel
theorem d_Sorter_sort_21 : decode b_Sorter_sort 21 = .ok (.if_icmp .eq 7, 3) := by decide +kernel
theorem d_Sorter_sort_24 : decode b_Sorter_sort 24 = .ok (.iconst 1, 1) := by decide +kernel
theorem d_Sorter_sort_25 : decode b_Sorter_sort 25 = .ok (.goto 4, 3) := by decide +kernel
theorem d_Sorter_sort_28 : decode b_Sorter_sort 28 = .ok (.iconst 0, 1) := by decide +kernel
theorem d_Sorter_sort_29 : decode b_Sorter_sort 29 = .ok (.bastore, 1) := by decide +kernel
theorem d_Sorter_sort_30 : decode b_Sorter_sort 30 = .ok (.iinc 2 1, 3) := by decide +kernel
theorem d_Sorter_sort_33 : decode b_Sorter_sort 33 = .ok (.goto (-31), 3) := by decide +kernel
theorem d_Sorter_sort_36 : decode b_Sorter_sort 36 = .ok (.iconst 0, 1) := by decide +kernel
theorem d_Sorter_sort_37 : decode b_Sorter_sort 37 = .ok (.istore_n 2, 1) := by decide +kernel
theorem d_Sorter_sort_38 : decode b_Sorter_sort 38 = .ok (.iload_n 2, 1) := by decide +kernel
theorem d_Sorter_sort_39 : decode b_Sorter_sort 39 = .ok (.aload_n 1, 1) := by decide +kernel
theorem d_Sorter_sort_40 : decode b_Sorter_sort 40 = .ok (.getfield 31, 3) := by decide +kernel
theorem d_Sorter_sort_43 : decode b_Sorter_sort 43 = .ok (.if_icmp .ge 46, 3) := by decide +kernel
theorem d_Sorter_sort_46 : decode b_Sorter_sort 46 = .ok (.aload_n 0, 1) := by decide +kernel
theorem d_Sorter_sort_47 : decode b_Sorter_sort 47 = .ok (.aload_n 1, 1) := by decide +kernel
theorem d_Sorter_sort_48 : decode b_Sorter_sort 48 = .ok (.invokevirtual 35, 3) := by decide +kernel
theorem d_Sorter_sort_51 : decode b_Sorter_sort 51 = .ok (.istore_n 3, 1) := by decide +kernel
theorem d_Sorter_sort_52 : decode b_Sorter_sort 52 = .ok (.iload_n 3, 1) := by decide +kernel
theorem d_Sorter_sort_53 : decode b_Sorter_sort 53 = .ok (.iconst (-1), 1) := by decide +kernel
theorem d_Sorter_sort_54 : decode b_Sorter_sort 54 = .ok (.if_icmp .ne 5, 3) := by decide +kernel
theorem d_Sorter_sort_57 : decode b_Sorter_sort 57 = .ok (.iconst 0, 1) := by decide +kernel
theorem d_Sorter_sort_58 : decode b_Sorter_sort 58 = .ok (.ireturn, 1) := by decide +kernel
theorem d_Sorter_sort_59 : decode b_Sorter_sort 59 = .ok (.aload_n 1, 1) := by decide +kernel
theorem d_Sorter_sort_60 : decode b_Sorter_sort 60 = .ok (.getfield 39, 3) := by decide +kernel
theorem d_Sorter_sort_63 : decode b_Sorter_sort 63 = .ok (.iload_n 2, 1) := by decide +kernel
theorem d_Sorter_sort_64 : decode b_Sorter_sort 64 = .ok (.aload_n 0, 1) := by decide +kernel
theorem d_Sorter_sort_65 : decode b_Sorter_sort 65 = .ok (.getfield 9, 3) := by decide +kernel
theorem d_Sorter_sort_68 : decode b_Sorter_sort 68 = .ok (.iload_n 3, 1) := by decide +kernel
theorem d_Sorter_sort_69 : decode b_Sorter_sort 69 = .ok (.iaload, 1) := by decide +kernel
theorem d_Sorter_sort_70 : decode b_Sorter_sort 70 = .ok (.iastore, 1) := by decide +kernel
theorem d_Sorter_sort_71 : decode b_Sorter_sort 71 = .ok (.aload_n 0, 1) := by decide +kernel
theorem d_Sorter_sort_72 : decode b_Sorter_sort 72 = .ok (.getfield 15, 3) := by decide +kernel
theorem d_Sorter_sort_75 : decode b_Sorter_sort 75 = .ok (.aload_n 0, 1) := by decide +kernel
theorem d_Sorter_sort_76 : decode b_Sorter_sort 76 = .ok (.getfield 9, 3) := by decide +kernel
theorem d_Sorter_sort_79 : decode b_Sorter_sort 79 = .ok (.iload_n 3, 1) := by decide +kernel
theorem d_Sorter_sort_80 : decode b_Sorter_sort 80 = .ok (.iaload, 1) := by decide +kernel
theorem d_Sorter_sort_81 : decode b_Sorter_sort 81 = .ok (.iconst 1, 1) := by decide +kernel
theorem d_Sorter_sort_82 : decode b_Sorter_sort 82 = .ok (.bastore, 1) := by decide +kernel
theorem d_Sorter_sort_83 : decode b_Sorter_sort 83 = .ok (.iinc 2 1, 3) := by decide +kernel
theorem d_Sorter_sort_86 : decode b_Sorter_sort 86 = .ok (.goto (-48), 3) := by decide +kernel
theorem d_Sorter_sort_89 : decode b_Sorter_sort 89 = .ok (.iconst 1, 1) := by decide +kernel
theorem d_Sorter_sort_90 : decode b_Sorter_sort 90 = .ok (.ireturn, 1) := by decide +kernel
theorem d_Sorter_reach_0 : decode b_Sorter_reach 0 = .ok (.aload_n 0, 1) := by decide +kernel
theorem d_Sorter_reach_1 : decode b_Sorter_reach 1 = .ok (.getfield 19, 3) := by decide +kernel
theorem d_Sorter_reach_4 : decode b_Sorter_reach 4 = .ok (.iload_n 1, 1) := by decide +kernel
theorem d_Sorter_reach_5 : decode b_Sorter_reach 5 = .ok (.baload, 1) := by decide +kernel
theorem d_Sorter_reach_6 : decode b_Sorter_reach 6 = .ok (.ifCond .ne 30, 3) := by decide +kernel
theorem d_Sorter_reach_9 : decode b_Sorter_reach 9 = .ok (.aload_n 0, 1) := by decide +kernel
theorem d_Sorter_reach_10 : decode b_Sorter_reach 10 = .ok (.getfield 19, 3) := by decide +kernel
theorem d_Sorter_reach_13 : decode b_Sorter_reach 13 = .ok (.iload_n 1, 1) := by decide +kernel
theorem d_Sorter_reach_14 : decode b_Sorter_reach 14 = .ok (.iconst 1, 1) := by decide +kernel
theorem d_Sorter_reach_15 : decode b_Sorter_reach 15 = .ok (.bastore, 1) := by decide +kernel
theorem d_Sorter_reach_16 : decode b_Sorter_reach 16 = .ok (.aload_n 0, 1) := by decide +kernel
theorem d_Sorter_reach_17 : decode b_Sorter_reach 17 = .ok (.getfield 22, 3) := by decide +kernel
theorem d_Sorter_reach_20 : decode b_Sorter_reach 20 = .ok (.aload_n 0, 1) := by decide +kernel
theorem d_Sorter_reach_21 : decode b_Sorter_reach 21 = .ok (.getfield 55, 3) := by decide +kernel
theorem d_Sorter_reach_24 : decode b_Sorter_reach 24 = .ok (.iload_n 1, 1) := by decide +kernel
theorem d_Sorter_reach_25 : decode b_Sorter_reach 25 = .ok (.iastore, 1) := by decide +kernel
theorem d_Sorter_reach_26 : decode b_Sorter_reach 26 = .ok (.aload_n 0, 1) := by decide +kernel
theorem d_Sorter_reach_27 : decode b_Sorter_reach 27 = .ok (.dup, 1) := by decide +kernel
theorem d_Sorter_reach_28 : decode b_Sorter_reach 28 = .ok (.getfield 55, 3) := by decide +kernel
theorem d_Sorter_reach_31 : decode b_Sorter_reach 31 = .ok (.iconst 1, 1) := by decide +kernel
theorem d_Sorter_reach_32 : decode b_Sorter_reach 32 = .ok (.iadd, 1) := by decide +kernel
theorem d_Sorter_reach_33 : decode b_Sorter_reach 33 = .ok (.putfield 55, 3) := by decide +kernel
theorem d_Sorter_reach_36 : decode b_Sorter_reach 36 = .ok (.return_, 1) := by decide +kernel
theorem d_Sorter_reachOperands_0 : decode b_Sorter_reachOperands 0 = .ok (.aload_n 1, 1) := by decide +kernel
theorem d_Sorter_reachOperands_1 : decode b_Sorter_reachOperands 1 = .ok (.getfield 25, 3) := by decide +kernel
theorem d_Sorter_reachOperands_4 : decode b_Sorter_reachOperands 4 = .ok (.iload_n 2, 1) := by decide +kernel
theorem d_Sorter_reachOperands_5 : decode b_Sorter_reachOperands 5 = .ok (.baload, 1) := by decide +kernel
theorem d_Sorter_reachOperands_6 : decode b_Sorter_reachOperands 6 = .ok (.iconst 3, 1) := by decide +kernel
theorem d_Sorter_reachOperands_7 : decode b_Sorter_reachOperands 7 = .ok (.if_icmp .ne 27, 3) := by decide +kernel
theorem d_Sorter_reachOperands_10 : decode b_Sorter_reachOperands 10 = .ok (.aload_n 0, 1) := by decide +kernel
theorem d_Sorter_reachOperands_11 : decode b_Sorter_reachOperands 11 = .ok (.aload_n 1, 1) := by decide +kernel
theorem d_Sorter_reachOperands_12 : decode b_Sorter_reachOperands 12 = .ok (.getfield 42, 3) := by decide +kernel
theorem d_Sorter_reachOperands_15 : decode b_Sorter_reachOperands 15 = .ok (.iload_n 2, 1) := by decide +kernel
theorem d_Sorter_reachOperands_16 : decode b_Sorter_reachOperands 16 = .ok (.iaload, 1) := by decide +kernel
theorem d_Sorter_reachOperands_17 : decode b_Sorter_reachOperands 17 = .ok (.iconst 1, 1) := by decide +kernel
theorem d_Sorter_reachOperands_18 : decode b_Sorter_reachOperands 18 = .ok (.ishr, 1) := by decide +kernel
theorem d_Sorter_reachOperands_19 : decode b_Sorter_reachOperands 19 = .ok (.invokevirtual 62, 3) := by decide +kernel
theorem d_Sorter_reachOperands_22 : decode b_Sorter_reachOperands 22 = .ok (.aload_n 0, 1) := by decide +kernel
theorem d_Sorter_reachOperands_23 : decode b_Sorter_reachOperands 23 = .ok (.aload_n 1, 1) := by decide +kernel
theorem d_Sorter_reachOperands_24 : decode b_Sorter_reachOperands 24 = .ok (.getfield 45, 3) := by decide +kernel
theorem d_Sorter_reachOperands_27 : decode b_Sorter_reachOperands 27 = .ok (.iload_n 2, 1) := by decide +kernel
theorem d_Sorter_reachOperands_28 : decode b_Sorter_reachOperands 28 = .ok (.iaload, 1) := by decide +kernel
theorem d_Sorter_reachOperands_29 : decode b_Sorter_reachOperands 29 = .ok (.iconst 1, 1) := by decide +kernel
theorem d_Sorter_reachOperands_30 : decode b_Sorter_reachOperands 30 = .ok (.ishr, 1) := by decide +kernel
theorem d_Sorter_reachOperands_31 : decode b_Sorter_reachOperands 31 = .ok (.invokevirtual 62, 3) := by decide +kernel
theorem d_Sorter_reachOperands_34 : decode b_Sorter_reachOperands 34 = .ok (.return_, 1) := by decide +kernel
theorem d_Sorter_comesBack_0 : decode b_Sorter_comesBack 0 = .ok (.iconst 0, 1) := by decide +kernel
theorem d_Sorter_comesBack_1 : decode b_Sorter_comesBack 1 = .ok (.istore_n 3, 1) := by decide +kernel
theorem d_Sorter_comesBack_2 : decode b_Sorter_comesBack 2 = .ok (.iload_n 3, 1) := by decide +kernel
theorem d_Sorter_comesBack_3 : decode b_Sorter_comesBack 3 = .ok (.sipush 201, 3) := by decide +kernel
theorem d_Sorter_comesBack_6 : decode b_Sorter_comesBack 6 = .ok (.if_icmp .ge 16, 3) := by decide +kernel
theorem d_Sorter_comesBack_9 : decode b_Sorter_comesBack 9 = .ok (.aload_n 0, 1) := by decide +kernel
theorem d_Sorter_comesBack_10 : decode b_Sorter_comesBack 10 = .ok (.getfield 19, 3) := by decide +kernel
theorem d_Sorter_comesBack_13 : decode b_Sorter_comesBack 13 = .ok (.iload_n 3, 1) := by decide +kernel
theorem d_Sorter_comesBack_14 : decode b_Sorter_comesBack 14 = .ok (.iconst 0, 1) := by decide +kernel
theorem d_Sorter_comesBack_15 : decode b_Sorter_comesBack 15 = .ok (.bastore, 1) := by decide +kernel
theorem d_Sorter_comesBack_16 : decode b_Sorter_comesBack 16 = .ok (.iinc 3 1, 3) := by decide +kernel
theorem d_Sorter_comesBack_19 : decode b_Sorter_comesBack 19 = .ok (.goto (-17), 3) := by decide +kernel
theorem d_Sorter_comesBack_22 : decode b_Sorter_comesBack 22 = .ok (.aload_n 0, 1) := by decide +kernel
theorem d_Sorter_comesBack_23 : decode b_Sorter_comesBack 23 = .ok (.iconst 0, 1) := by decide +kernel
theorem d_Sorter_comesBack_24 : decode b_Sorter_comesBack 24 = .ok (.putfield 55, 3) := by decide +kernel
theorem d_Sorter_comesBack_27 : decode b_Sorter_comesBack 27 = .ok (.aload_n 0, 1) := by decide +kernel
theorem d_Sorter_comesBack_28 : decode b_Sorter_comesBack 28 = .ok (.aload_n 1, 1) := by decide +kernel
theorem d_Sorter_comesBack_29 : decode b_Sorter_comesBack 29 = .ok (.iload_n 2, 1) := by decide +kernel
theorem d_Sorter_comesBack_30 : decode b_Sorter_comesBack 30 = .ok (.invokevirtual 58, 3) := by decide +kernel
theorem d_Sorter_comesBack_33 : decode b_Sorter_comesBack 33 = .ok (.iconst 0, 1) := by decide +kernel
theorem d_Sorter_comesBack_34 : decode b_Sorter_comesBack 34 = .ok (.istore_n 3, 1) := by decide +kernel
theorem d_Sorter_comesBack_35 : decode b_Sorter_comesBack 35 = .ok (.iload_n 3, 1) := by decide +kernel
theorem d_Sorter_comesBack_36 : decode b_Sorter_comesBack 36 = .ok (.aload_n 0, 1) := by decide +kernel
theorem d_Sorter_comesBack_37 : decode b_Sorter_comesBack 37 = .ok (.getfield 55, 3) := by decide +kernel
theorem d_Sorter_comesBack_40 : decode b_Sorter_comesBack 40 = .ok (.if_icmp .ge 27, 3) := by decide +kernel
theorem d_Sorter_comesBack_43 : decode b_Sorter_comesBack 43 = .ok (.iload_n 3, 1) := by decide +kernel
theorem d_Sorter_comesBack_44 : decode b_Sorter_comesBack 44 = .ok (.sipush 201, 3) := by decide +kernel
theorem d_Sorter_comesBack_47 : decode b_Sorter_comesBack 47 = .ok (.if_icmp .ge 20, 3) := by decide +kernel
theorem d_Sorter_comesBack_50 : decode b_Sorter_comesBack 50 = .ok (.aload_n 0, 1) := by decide +kernel
theorem d_Sorter_comesBack_51 : decode b_Sorter_comesBack 51 = .ok (.aload_n 1, 1) := by decide +kernel
theorem d_Sorter_comesBack_52 : decode b_Sorter_comesBack 52 = .ok (.aload_n 0, 1) := by decide +kernel
theorem d_Sorter_comesBack_53 : decode b_Sorter_comesBack 53 = .ok (.getfield 22, 3) := by decide +kernel
theorem d_Sorter_comesBack_56 : decode b_Sorter_comesBack 56 = .ok (.iload_n 3, 1) := by decide +kernel
theorem d_Sorter_comesBack_57 : decode b_Sorter_comesBack 57 = .ok (.iaload, 1) := by decide +kernel
theorem d_Sorter_comesBack_58 : decode b_Sorter_comesBack 58 = .ok (.invokevirtual 58, 3) := by decide +kernel
theorem d_Sorter_comesBack_61 : decode b_Sorter_comesBack 61 = .ok (.iinc 3 1, 3) := by decide +kernel
theorem d_Sorter_comesBack_64 : decode b_Sorter_comesBack 64 = .ok (.goto (-29), 3) := by decide +kernel
theorem d_Sorter_comesBack_67 : decode b_Sorter_comesBack 67 = .ok (.aload_n 0, 1) := by decide +kernel
theorem d_Sorter_comesBack_68 : decode b_Sorter_comesBack 68 = .ok (.getfield 19, 3) := by decide +kernel
theorem d_Sorter_comesBack_71 : decode b_Sorter_comesBack 71 = .ok (.iload_n 2, 1) := by decide +kernel
theorem d_Sorter_comesBack_72 : decode b_Sorter_comesBack 72 = .ok (.baload, 1) := by decide +kernel
theorem d_Sorter_comesBack_73 : decode b_Sorter_comesBack 73 = .ok (.ireturn, 1) := by decide +kernel
theorem d_Sorter_lowestInLoop_0 : decode b_Sorter_lowestInLoop 0 = .ok (.iconst 1, 1) := by decide +kernel
theorem d_Sorter_lowestInLoop_1 : decode b_Sorter_lowestInLoop 1 = .ok (.istore_n 2, 1) := by decide +kernel
theorem d_Sorter_lowestInLoop_2 : decode b_Sorter_lowestInLoop 2 = .ok (.iload_n 2, 1) := by decide +kernel
theorem d_Sorter_lowestInLoop_3 : decode b_Sorter_lowestInLoop 3 = .ok (.aload_n 1, 1) := by decide +kernel
theorem d_Sorter_lowestInLoop_4 : decode b_Sorter_lowestInLoop 4 = .ok (.getfield 48, 3) := by decide +kernel
theorem d_Sorter_lowestInLoop_7 : decode b_Sorter_lowestInLoop 7 = .ok (.if_icmp .gt 29, 3) := by decide +kernel
theorem d_Sorter_lowestInLoop_10 : decode b_Sorter_lowestInLoop 10 = .ok (.aload_n 0, 1) := by decide +kernel
theorem d_Sorter_lowestInLoop_11 : decode b_Sorter_lowestInLoop 11 = .ok (.getfield 15, 3) := by decide +kernel
theorem d_Sorter_lowestInLoop_14 : decode b_Sorter_lowestInLoop 14 = .ok (.iload_n 2, 1) := by decide +kernel
theorem d_Sorter_lowestInLoop_15 : decode b_Sorter_lowestInLoop 15 = .ok (.baload, 1) := by decide +kernel
theorem d_Sorter_lowestInLoop_16 : decode b_Sorter_lowestInLoop 16 = .ok (.ifCond .ne 14, 3) := by decide +kernel
theorem d_Sorter_lowestInLoop_19 : decode b_Sorter_lowestInLoop 19 = .ok (.aload_n 0, 1) := by decide +kernel
theorem d_Sorter_lowestInLoop_20 : decode b_Sorter_lowestInLoop 20 = .ok (.aload_n 1, 1) := by decide +kernel
theorem d_Sorter_lowestInLoop_21 : decode b_Sorter_lowestInLoop 21 = .ok (.iload_n 2, 1) := by decide +kernel
theorem d_Sorter_lowestInLoop_22 : decode b_Sorter_lowestInLoop 22 = .ok (.invokevirtual 51, 3) := by decide +kernel
theorem d_Sorter_lowestInLoop_25 : decode b_Sorter_lowestInLoop 25 = .ok (.ifCond .eq 5, 3) := by decide +kernel
theorem d_Sorter_lowestInLoop_28 : decode b_Sorter_lowestInLoop 28 = .ok (.iload_n 2, 1) := by decide +kernel
theorem d_Sorter_lowestInLoop_29 : decode b_Sorter_lowestInLoop 29 = .ok (.ireturn, 1) := by decide +kernel
theorem d_Sorter_lowestInLoop_30 : decode b_Sorter_lowestInLoop 30 = .ok (.iinc 2 1, 3) := by decide +kernel
theorem d_Sorter_lowestInLoop_33 : decode b_Sorter_lowestInLoop 33 = .ok (.goto (-31), 3) := by decide +kernel
theorem d_Sorter_lowestInLoop_36 : decode b_Sorter_lowestInLoop 36 = .ok (.iconst (-1), 1) := by decide +kernel
theorem d_Sorter_lowestInLoop_37 : decode b_Sorter_lowestInLoop 37 = .ok (.ireturn, 1) := by decide +kernel
theorem d_Reader_sortAnds_0 : decode b_Reader_sortAnds 0 = .ok (.aload_n 0, 1) := by decide +kernel
theorem d_Reader_sortAnds_1 : decode b_Reader_sortAnds 1 = .ok (.getfield 12, 3) := by decide +kernel
theorem d_Reader_sortAnds_4 : decode b_Reader_sortAnds 4 = .ok (.aload_n 0, 1) := by decide +kernel
theorem d_Reader_sortAnds_5 : decode b_Reader_sortAnds 5 = .ok (.getfield 21, 3) := by decide +kernel
theorem d_Reader_sortAnds_8 : decode b_Reader_sortAnds 8 = .ok (.invokevirtual 204, 3) := by decide +kernel
theorem d_Reader_sortAnds_11 : decode b_Reader_sortAnds 11 = .ok (.ifCond .ne 23, 3) := by decide +kernel
theorem d_Reader_sortAnds_14 : decode b_Reader_sortAnds 14 = .ok (.aload_n 0, 1) := by decide +kernel
theorem d_Reader_sortAnds_15 : decode b_Reader_sortAnds 15 = .ok (.bipush 6, 2) := by decide +kernel
theorem d_Reader_sortAnds_17 : decode b_Reader_sortAnds 17 = .ok (.aload_n 0, 1) := by decide +kernel
theorem d_Reader_sortAnds_18 : decode b_Reader_sortAnds 18 = .ok (.getfield 12, 3) := by decide +kernel
theorem d_Reader_sortAnds_21 : decode b_Reader_sortAnds 21 = .ok (.aload_n 0, 1) := by decide +kernel
theorem d_Reader_sortAnds_22 : decode b_Reader_sortAnds 22 = .ok (.getfield 21, 3) := by decide +kernel
theorem d_Reader_sortAnds_25 : decode b_Reader_sortAnds 25 = .ok (.invokevirtual 208, 3) := by decide +kernel
theorem d_Reader_sortAnds_28 : decode b_Reader_sortAnds 28 = .ok (.invokevirtual 101, 3) := by decide +kernel
theorem d_Reader_sortAnds_31 : decode b_Reader_sortAnds 31 = .ok (.ifCond .eq 7, 3) := by decide +kernel
theorem d_Reader_sortAnds_34 : decode b_Reader_sortAnds 34 = .ok (.iconst 1, 1) := by decide +kernel
theorem d_Reader_sortAnds_35 : decode b_Reader_sortAnds 35 = .ok (.goto 4, 3) := by decide +kernel
theorem d_Reader_sortAnds_38 : decode b_Reader_sortAnds 38 = .ok (.iconst 0, 1) := by decide +kernel
theorem d_Reader_sortAnds_39 : decode b_Reader_sortAnds 39 = .ok (.ireturn, 1) := by decide +kernel
theorem d_Reader_readFile_0 : decode b_Reader_readFile 0 = .ok (.aload_n 0, 1) := by decide +kernel
theorem d_Reader_readFile_1 : decode b_Reader_readFile 1 = .ok (.iconst 0, 1) := by decide +kernel
theorem d_Reader_readFile_2 : decode b_Reader_readFile 2 = .ok (.putfield 46, 3) := by decide +kernel
theorem d_Reader_readFile_5 : decode b_Reader_readFile 5 = .ok (.aload_n 0, 1) := by decide +kernel
theorem d_Reader_readFile_6 : decode b_Reader_readFile 6 = .ok (.iconst 0, 1) := by decide +kernel
theorem d_Reader_readFile_7 : decode b_Reader_readFile 7 = .ok (.putfield 49, 3) := by decide +kernel
theorem d_Reader_readFile_10 : decode b_Reader_readFile 10 = .ok (.aload_n 0, 1) := by decide +kernel
theorem d_Reader_readFile_11 : decode b_Reader_readFile 11 = .ok (.getfield 21, 3) := by decide +kernel
theorem d_Reader_readFile_14 : decode b_Reader_readFile 14 = .ok (.invokevirtual 52, 3) := by decide +kernel
theorem d_Reader_readFile_17 : decode b_Reader_readFile 17 = .ok (.aload_n 0, 1) := by decide +kernel
theorem d_Reader_readFile_18 : decode b_Reader_readFile 18 = .ok (.invokevirtual 55, 3) := by decide +kernel
theorem d_Reader_readFile_21 : decode b_Reader_readFile 21 = .ok (.ifCond .eq 97, 3) := by decide +kernel
theorem d_Reader_readFile_24 : decode b_Reader_readFile 24 = .ok (.aload_n 0, 1) := by decide +kernel
theorem d_Reader_readFile_25 : decode b_Reader_readFile 25 = .ok (.invokevirtual 59, 3) := by decide +kernel
theorem d_Reader_readFile_28 : decode b_Reader_readFile 28 = .ok (.ifCond .eq 90, 3) := by decide +kernel
theorem d_Reader_readFile_31 : decode b_Reader_readFile 31 = .ok (.aload_n 0, 1) := by decide +kernel
theorem d_Reader_readFile_32 : decode b_Reader_readFile 32 = .ok (.getfield 62, 3) := by decide +kernel
theorem d_Reader_readFile_35 : decode b_Reader_readFile 35 = .ok (.ifCond .eq 13, 3) := by decide +kernel
theorem d_Reader_readFile_38 : decode b_Reader_readFile 38 = .ok (.aload_n 0, 1) := by decide +kernel
theorem d_Reader_readFile_39 : decode b_Reader_readFile 39 = .ok (.invokevirtual 66, 3) := by decide +kernel
theorem d_Reader_readFile_42 : decode b_Reader_readFile 42 = .ok (.ifCond .eq 76, 3) := by decide +kernel
theorem d_Reader_readFile_45 : decode b_Reader_readFile 45 = .ok (.goto 10, 3) := by decide +kernel
theorem d_Reader_readFile_48 : decode b_Reader_readFile 48 = .ok (.aload_n 0, 1) := by decide +kernel
theorem d_Reader_readFile_49 : decode b_Reader_readFile 49 = .ok (.invokevirtual 69, 3) := by decide +kernel
theorem d_Reader_readFile_52 : decode b_Reader_readFile 52 = .ok (.ifCond .eq 66, 3) := by decide +kernel
theorem d_Reader_readFile_55 : decode b_Reader_readFile 55 = .ok (.aload_n 0, 1) := by decide +kernel
theorem d_Reader_readFile_56 : decode b_Reader_readFile 56 = .ok (.invokevirtual 72, 3) := by decide +kernel
theorem d_Reader_readFile_59 : decode b_Reader_readFile 59 = .ok (.ifCond .eq 59, 3) := by decide +kernel
theorem d_Reader_readFile_62 : decode b_Reader_readFile 62 = .ok (.aload_n 0, 1) := by decide +kernel
theorem d_Reader_readFile_63 : decode b_Reader_readFile 63 = .ok (.invokevirtual 75, 3) := by decide +kernel
theorem d_Reader_readFile_66 : decode b_Reader_readFile 66 = .ok (.ifCond .eq 52, 3) := by decide +kernel
theorem d_Reader_readFile_69 : decode b_Reader_readFile 69 = .ok (.aload_n 0, 1) := by decide +kernel
theorem d_Reader_readFile_70 : decode b_Reader_readFile 70 = .ok (.getfield 62, 3) := by decide +kernel
theorem d_Reader_readFile_73 : decode b_Reader_readFile 73 = .ok (.ifCond .eq 13, 3) := by decide +kernel
theorem d_Reader_readFile_76 : decode b_Reader_readFile 76 = .ok (.aload_n 0, 1) := by decide +kernel
theorem d_Reader_readFile_77 : decode b_Reader_readFile 77 = .ok (.invokevirtual 78, 3) := by decide +kernel
theorem d_Reader_readFile_80 : decode b_Reader_readFile 80 = .ok (.ifCond .eq 38, 3) := by decide +kernel
theorem d_Reader_readFile_83 : decode b_Reader_readFile 83 = .ok (.goto 10, 3) := by decide +kernel
theorem d_Reader_readFile_86 : decode b_Reader_readFile 86 = .ok (.aload_n 0, 1) := by decide +kernel
theorem d_Reader_readFile_87 : decode b_Reader_readFile 87 = .ok (.invokevirtual 81, 3) := by decide +kernel
theorem d_Reader_readFile_90 : decode b_Reader_readFile 90 = .ok (.ifCond .eq 28, 3) := by decide +kernel
theorem d_Reader_readFile_93 : decode b_Reader_readFile 93 = .ok (.aload_n 0, 1) := by decide +kernel
theorem d_Reader_readFile_94 : decode b_Reader_readFile 94 = .ok (.invokevirtual 84, 3) := by decide +kernel
theorem d_Reader_readFile_97 : decode b_Reader_readFile 97 = .ok (.ifCond .eq 21, 3) := by decide +kernel
theorem d_Reader_readFile_100 : decode b_Reader_readFile 100 = .ok (.aload_n 0, 1) := by decide +kernel
theorem d_Reader_readFile_101 : decode b_Reader_readFile 101 = .ok (.invokevirtual 87, 3) := by decide +kernel
theorem d_Reader_readFile_104 : decode b_Reader_readFile 104 = .ok (.ifCond .eq 14, 3) := by decide +kernel
theorem d_Reader_readFile_107 : decode b_Reader_readFile 107 = .ok (.aload_n 0, 1) := by decide +kernel
theorem d_Reader_readFile_108 : decode b_Reader_readFile 108 = .ok (.invokevirtual 90, 3) := by decide +kernel
theorem d_Reader_readFile_111 : decode b_Reader_readFile 111 = .ok (.ifCond .eq 7, 3) := by decide +kernel
theorem d_Reader_readFile_114 : decode b_Reader_readFile 114 = .ok (.iconst 1, 1) := by decide +kernel
theorem d_Reader_readFile_115 : decode b_Reader_readFile 115 = .ok (.goto 4, 3) := by decide +kernel
theorem d_Reader_readFile_118 : decode b_Reader_readFile 118 = .ok (.iconst 0, 1) := by decide +kernel
theorem d_Reader_readFile_119 : decode b_Reader_readFile 119 = .ok (.istore_n 1, 1) := by decide +kernel
theorem d_Reader_readFile_120 : decode b_Reader_readFile 120 = .ok (.aload_n 0, 1) := by decide +kernel
theorem d_Reader_readFile_121 : decode b_Reader_readFile 121 = .ok (.getfield 21, 3) := by decide +kernel
theorem d_Reader_readFile_124 : decode b_Reader_readFile 124 = .ok (.iload_n 1, 1) := by decide +kernel
theorem d_Reader_readFile_125 : decode b_Reader_readFile 125 = .ok (.putfield 93, 3) := by decide +kernel
theorem d_Reader_readFile_128 : decode b_Reader_readFile 128 = .ok (.iload_n 1, 1) := by decide +kernel
theorem d_Reader_readFile_129 : decode b_Reader_readFile 129 = .ok (.ireturn, 1) := by decide +kernel
theorem d_Reader_exchange_0 : decode b_Reader_exchange 0 = .ok (.aload_n 0, 1) := by decide +kernel
theorem d_Reader_exchange_1 : decode b_Reader_exchange 1 = .ok (.getfield 21, 3) := by decide +kernel
theorem d_Reader_exchange_4 : decode b_Reader_exchange 4 = .ok (.astore_n 2, 1) := by decide +kernel
theorem d_Reader_exchange_5 : decode b_Reader_exchange 5 = .ok (.aload_n 0, 1) := by decide +kernel
theorem d_Reader_exchange_6 : decode b_Reader_exchange 6 = .ok (.aload_n 1, 1) := by decide +kernel
theorem d_Reader_exchange_7 : decode b_Reader_exchange 7 = .ok (.putfield 21, 3) := by decide +kernel
theorem d_Reader_exchange_10 : decode b_Reader_exchange 10 = .ok (.aload_n 2, 1) := by decide +kernel
theorem d_Reader_exchange_11 : decode b_Reader_exchange 11 = .ok (.areturn, 1) := by decide +kernel
theorem d_Player_rest_0 : decode b_Player_rest 0 = .ok (.aload_n 0, 1) := by decide +kernel
theorem d_Player_rest_1 : decode b_Player_rest 1 = .ok (.getfield 9, 3) := by decide +kernel
theorem d_Player_rest_4 : decode b_Player_rest 4 = .ok (.iconst 0, 1) := by decide +kernel
theorem d_Player_rest_5 : decode b_Player_rest 5 = .ok (.invokestatic 25, 3) := by decide +kernel
theorem d_Player_rest_8 : decode b_Player_rest 8 = .ok (.return_, 1) := by decide +kernel
theorem d_Works_forget_0 : decode b_Works_forget 0 = .ok (.aload_n 0, 1) := by decide +kernel
theorem d_Works_forget_1 : decode b_Works_forget 1 = .ok (.iconst 0, 1) := by decide +kernel
theorem d_Works_forget_2 : decode b_Works_forget 2 = .ok (.putfield 61, 3) := by decide +kernel
theorem d_Works_forget_5 : decode b_Works_forget 5 = .ok (.aload_n 0, 1) := by decide +kernel
theorem d_Works_forget_6 : decode b_Works_forget 6 = .ok (.iconst 0, 1) := by decide +kernel
theorem d_Works_forget_7 : decode b_Works_forget 7 = .ok (.putfield 65, 3) := by decide +kernel
theorem d_Works_forget_10 : decode b_Works_forget 10 = .ok (.aload_n 0, 1) := by decide +kernel
theorem d_Works_forget_11 : decode b_Works_forget 11 = .ok (.iconst 0, 1) := by decide +kernel
theorem d_Works_forget_12 : decode b_Works_forget 12 = .ok (.putfield 68, 3) := by decide +kernel
theorem d_Works_forget_15 : decode b_Works_forget 15 = .ok (.return_, 1) := by decide +kernel
theorem d_Judge_load_0 : decode b_Judge_load 0 = .ok (.aload_n 0, 1) := by decide +kernel
theorem d_Judge_load_1 : decode b_Judge_load 1 = .ok (.getfield 21, 3) := by decide +kernel
theorem d_Judge_load_4 : decode b_Judge_load 4 = .ok (.invokevirtual 49, 3) := by decide +kernel
theorem d_Judge_load_7 : decode b_Judge_load 7 = .ok (.iload_n 1, 1) := by decide +kernel
theorem d_Judge_load_8 : decode b_Judge_load 8 = .ok (.invokestatic 52, 3) := by decide +kernel
theorem d_Judge_load_11 : decode b_Judge_load 11 = .ok (.ifCond .eq 17, 3) := by decide +kernel
theorem d_Judge_load_14 : decode b_Judge_load 14 = .ok (.aload_n 0, 1) := by decide +kernel
theorem d_Judge_load_15 : decode b_Judge_load 15 = .ok (.getfield 21, 3) := by decide +kernel
theorem d_Judge_load_18 : decode b_Judge_load 18 = .ok (.invokevirtual 56, 3) := by decide +kernel
theorem d_Judge_load_21 : decode b_Judge_load 21 = .ok (.ifCond .eq 7, 3) := by decide +kernel
theorem d_Judge_load_24 : decode b_Judge_load 24 = .ok (.iconst 1, 1) := by decide +kernel
theorem d_Judge_load_25 : decode b_Judge_load 25 = .ok (.goto 4, 3) := by decide +kernel
theorem d_Judge_load_28 : decode b_Judge_load 28 = .ok (.iconst 0, 1) := by decide +kernel
theorem d_Judge_load_29 : decode b_Judge_load 29 = .ok (.istore_n 2, 1) := by decide +kernel
theorem d_Judge_load_30 : decode b_Judge_load 30 = .ok (.aload_n 0, 1) := by decide +kernel
theorem d_Judge_load_31 : decode b_Judge_load 31 = .ok (.getfield 12, 3) := by decide +kernel
theorem d_Judge_load_34 : decode b_Judge_load 34 = .ok (.iconst 0, 1) := by decide +kernel
theorem d_Judge_load_35 : decode b_Judge_load 35 = .ok (.putfield 60, 3) := by decide +kernel
theorem d_Judge_load_38 : decode b_Judge_load 38 = .ok (.iload_n 2, 1) := by decide +kernel
theorem d_Judge_load_39 : decode b_Judge_load 39 = .ok (.ifCond .ne 13, 3) := by decide +kernel
theorem d_Judge_load_42 : decode b_Judge_load 42 = .ok (.new 64, 3) := by decide +kernel
theorem d_Judge_load_45 : decode b_Judge_load 45 = .ok (.dup, 1) := by decide +kernel
theorem d_Judge_load_46 : decode b_Judge_load 46 = .ok (.ldc 66, 2) := by decide +kernel
theorem d_Judge_load_48 : decode b_Judge_load 48 = .ok (.invokespecial 68, 3) := by decide +kernel
theorem d_Judge_load_51 : decode b_Judge_load 51 = .ok (.athrow, 1) := by decide +kernel
theorem d_Judge_load_52 : decode b_Judge_load 52 = .ok (.aload_n 0, 1) := by decide +kernel
theorem d_Judge_load_53 : decode b_Judge_load 53 = .ok (.getfield 27, 3) := by decide +kernel
theorem d_Judge_load_56 : decode b_Judge_load 56 = .ok (.iload_n 1, 1) := by decide +kernel
theorem d_Judge_load_57 : decode b_Judge_load 57 = .ok (.aload_n 0, 1) := by decide +kernel
theorem d_Judge_load_58 : decode b_Judge_load 58 = .ok (.getfield 21, 3) := by decide +kernel
theorem d_Judge_load_61 : decode b_Judge_load 61 = .ok (.aload_n 0, 1) := by decide +kernel
theorem d_Judge_load_62 : decode b_Judge_load 62 = .ok (.getfield 27, 3) := by decide +kernel
theorem d_Judge_load_65 : decode b_Judge_load 65 = .ok (.iload_n 1, 1) := by decide +kernel
theorem d_Judge_load_66 : decode b_Judge_load 66 = .ok (.aaload, 1) := by decide +kernel
theorem d_Judge_load_67 : decode b_Judge_load 67 = .ok (.invokevirtual 71, 3) := by decide +kernel
theorem d_Judge_load_70 : decode b_Judge_load 70 = .ok (.aastore, 1) := by decide +kernel
theorem d_Judge_load_71 : decode b_Judge_load 71 = .ok (.aload_n 0, 1) := by decide +kernel
theorem d_Judge_load_72 : decode b_Judge_load 72 = .ok (.getfield 37, 3) := by decide +kernel
theorem d_Judge_load_75 : decode b_Judge_load 75 = .ok (.invokevirtual 75, 3) := by decide +kernel
theorem d_Judge_load_78 : decode b_Judge_load 78 = .ok (.aload_n 0, 1) := by decide +kernel
theorem d_Judge_load_79 : decode b_Judge_load 79 = .ok (.getfield 78, 3) := by decide +kernel
theorem d_Judge_load_82 : decode b_Judge_load 82 = .ok (.ifnull 10, 3) := by decide +kernel
theorem d_Judge_load_85 : decode b_Judge_load 85 = .ok (.aload_n 0, 1) := by decide +kernel
theorem d_Judge_load_86 : decode b_Judge_load 86 = .ok (.getfield 78, 3) := by decide +kernel
theorem d_Judge_load_89 : decode b_Judge_load 89 = .ok (.invokevirtual 82, 3) := by decide +kernel
theorem d_Judge_load_92 : decode b_Judge_load 92 = .ok (.aload_n 0, 1) := by decide +kernel
theorem d_Judge_load_93 : decode b_Judge_load 93 = .ok (.getfield 27, 3) := by decide +kernel
theorem d_Judge_load_96 : decode b_Judge_load 96 = .ok (.iload_n 1, 1) := by decide +kernel
theorem d_Judge_load_97 : decode b_Judge_load 97 = .ok (.aaload, 1) := by decide +kernel
theorem d_Judge_load_98 : decode b_Judge_load 98 = .ok (.getfield 87, 3) := by decide +kernel
theorem d_Judge_load_101 : decode b_Judge_load 101 = .ok (.ireturn, 1) := by decide +kernel
theorem d_Judge_fault_0 : decode b_Judge_fault 0 = .ok (.iload_n 1, 1) := by decide +kernel
theorem d_Judge_fault_1 : decode b_Judge_fault 1 = .ok (.lookupswitch 43 #[(0, 27), (1, 35)], 27) := by decide +kernel
theorem d_Judge_fault_28 : decode b_Judge_fault 28 = .ok (.aload_n 0, 1) := by decide +kernel
theorem d_Judge_fault_29 : decode b_Judge_fault 29 = .ok (.getfield 21, 3) := by decide +kernel
theorem d_Judge_fault_32 : decode b_Judge_fault 32 = .ok (.getfield 90, 3) := by decide +kernel
theorem d_Judge_fault_35 : decode b_Judge_fault 35 = .ok (.ireturn, 1) := by decide +kernel
theorem d_Judge_fault_36 : decode b_Judge_fault 36 = .ok (.aload_n 0, 1) := by decide +kernel
theorem d_Judge_fault_37 : decode b_Judge_fault 37 = .ok (.getfield 21, 3) := by decide +kernel
theorem d_Judge_fault_40 : decode b_Judge_fault 40 = .ok (.getfield 93, 3) := by decide +kernel
theorem d_Judge_fault_43 : decode b_Judge_fault 43 = .ok (.ireturn, 1) := by decide +kernel
theorem d_Judge_fault_44 : decode b_Judge_fault 44 = .ok (.iconst (-1), 1) := by decide +kernel
theorem d_Judge_fault_45 : decode b_Judge_fault 45 = .ok (.ireturn, 1) := by decide +kernel
theorem d_Judge_isThere_0 : decode b_Judge_isThere 0 = .ok (.iload_n 1, 1) := by decide +kernel
theorem d_Judge_isThere_1 : decode b_Judge_isThere 1 = .ok (.invokestatic 52, 3) := by decide +kernel
theorem d_Judge_isThere_4 : decode b_Judge_isThere 4 = .ok (.ifCond .eq 19, 3) := by decide +kernel
theorem d_Judge_isThere_7 : decode b_Judge_isThere 7 = .ok (.aload_n 0, 1) := by decide +kernel
theorem d_Judge_isThere_8 : decode b_Judge_isThere 8 = .ok (.getfield 27, 3) := by decide +kernel
theorem d_Judge_isThere_11 : decode b_Judge_isThere 11 = .ok (.iload_n 1, 1) := by decide +kernel
theorem d_Judge_isThere_12 : decode b_Judge_isThere 12 = .ok (.aaload, 1) := by decide +kernel
theorem d_Judge_isThere_13 : decode b_Judge_isThere 13 = .ok (.getfield 180, 3) := by decide +kernel
theorem d_Judge_isThere_16 : decode b_Judge_isThere 16 = .ok (.ifCond .eq 7, 3) := by decide +kernel
theorem d_Judge_isThere_19 : decode b_Judge_isThere 19 = .ok (.iconst 1, 1) := by decide +kernel
theorem d_Judge_isThere_20 : decode b_Judge_isThere 20 = .ok (.goto 4, 3) := by decide +kernel
theorem d_Judge_isThere_23 : decode b_Judge_isThere 23 = .ok (.iconst 0, 1) := by decide +kernel
theorem d_Judge_isThere_24 : decode b_Judge_isThere 24 = .ok (.ireturn, 1) := by decide +kernel
theorem d_Judge_many_0 : decode b_Judge_many 0 = .ok (.aload_n 0, 1) := by decide +kernel
theorem d_Judge_many_1 : decode b_Judge_many 1 = .ok (.iload_n 1, 1) := by decide +kernel
theorem d_Judge_many_2 : decode b_Judge_many 2 = .ok (.invokevirtual 96, 3) := by decide +kernel
theorem d_Judge_many_5 : decode b_Judge_many 5 = .ok (.ifCond .eq 16, 3) := by decide +kernel
theorem d_Judge_many_8 : decode b_Judge_many 8 = .ok (.aload_n 0, 1) := by decide +kernel
theorem d_Judge_many_9 : decode b_Judge_many 9 = .ok (.getfield 27, 3) := by decide +kernel
theorem d_Judge_many_12 : decode b_Judge_many 12 = .ok (.iload_n 1, 1) := by decide +kernel
theorem d_Judge_many_13 : decode b_Judge_many 13 = .ok (.aaload, 1) := by decide +kernel
theorem d_Judge_many_14 : decode b_Judge_many 14 = .ok (.iload_n 2, 1) := by decide +kernel
theorem d_Judge_many_15 : decode b_Judge_many 15 = .ok (.invokevirtual 99, 3) := by decide +kernel
theorem d_Judge_many_18 : decode b_Judge_many 18 = .ok (.goto 4, 3) := by decide +kernel
theorem d_Judge_many_21 : decode b_Judge_many 21 = .ok (.iconst (-1), 1) := by decide +kernel
theorem d_Judge_many_22 : decode b_Judge_many 22 = .ok (.ireturn, 1) := by decide +kernel
theorem d_Circuit_nameByte_0 : decode b_Circuit_nameByte 0 = .ok (.aload_n 0, 1) := by decide +kernel
theorem d_Circuit_nameByte_1 : decode b_Circuit_nameByte 1 = .ok (.iload_n 1, 1) := by decide +kernel
theorem d_Circuit_nameByte_2 : decode b_Circuit_nameByte 2 = .ok (.iload_n 2, 1) := by decide +kernel
theorem d_Circuit_nameByte_3 : decode b_Circuit_nameByte 3 = .ok (.invokevirtual 75, 3) := by decide +kernel
theorem d_Circuit_nameByte_6 : decode b_Circuit_nameByte 6 = .ok (.istore 4, 2) := by decide +kernel
theorem d_Circuit_nameByte_8 : decode b_Circuit_nameByte 8 = .ok (.iload 4, 2) := by decide +kernel
theorem d_Circuit_nameByte_10 : decode b_Circuit_nameByte 10 = .ok (.iconst (-1), 1) := by decide +kernel
theorem d_Circuit_nameByte_11 : decode b_Circuit_nameByte 11 = .ok (.if_icmp .eq 18, 3) := by decide +kernel
theorem d_Circuit_nameByte_14 : decode b_Circuit_nameByte 14 = .ok (.iload_n 3, 1) := by decide +kernel
theorem d_Circuit_nameByte_15 : decode b_Circuit_nameByte 15 = .ok (.ifCond .lt 14, 3) := by decide +kernel
theorem d_Circuit_nameByte_18 : decode b_Circuit_nameByte 18 = .ok (.iload_n 3, 1) := by decide +kernel
theorem d_Circuit_nameByte_19 : decode b_Circuit_nameByte 19 = .ok (.aload_n 0, 1) := by decide +kernel
theorem d_Circuit_nameByte_20 : decode b_Circuit_nameByte 20 = .ok (.getfield 40, 3) := by decide +kernel
theorem d_Circuit_nameByte_23 : decode b_Circuit_nameByte 23 = .ok (.iload 4, 2) := by decide +kernel
theorem d_Circuit_nameByte_25 : decode b_Circuit_nameByte 25 = .ok (.iaload, 1) := by decide +kernel
theorem d_Circuit_nameByte_26 : decode b_Circuit_nameByte 26 = .ok (.if_icmp .lt 5, 3) := by decide +kernel
theorem d_Circuit_nameByte_29 : decode b_Circuit_nameByte 29 = .ok (.iconst (-1), 1) := by decide +kernel
theorem d_Circuit_nameByte_30 : decode b_Circuit_nameByte 30 = .ok (.ireturn, 1) := by decide +kernel
theorem d_Circuit_nameByte_31 : decode b_Circuit_nameByte 31 = .ok (.aload_n 0, 1) := by decide +kernel
theorem d_Circuit_nameByte_32 : decode b_Circuit_nameByte 32 = .ok (.getfield 37, 3) := by decide +kernel
theorem d_Circuit_nameByte_35 : decode b_Circuit_nameByte 35 = .ok (.iload 4, 2) := by decide +kernel
theorem d_Circuit_nameByte_37 : decode b_Circuit_nameByte 37 = .ok (.bipush 40, 2) := by decide +kernel
theorem d_Circuit_nameByte_39 : decode b_Circuit_nameByte 39 = .ok (.imul, 1) := by decide +kernel
theorem d_Circuit_nameByte_40 : decode b_Circuit_nameByte 40 = .ok (.iload_n 3, 1) := by decide +kernel
theorem d_Circuit_nameByte_41 : decode b_Circuit_nameByte 41 = .ok (.iadd, 1) := by decide +kernel
theorem d_Circuit_nameByte_42 : decode b_Circuit_nameByte 42 = .ok (.baload, 1) := by decide +kernel
theorem d_Circuit_nameByte_43 : decode b_Circuit_nameByte 43 = .ok (.sipush 255, 3) := by decide +kernel
theorem d_Circuit_nameByte_46 : decode b_Circuit_nameByte 46 = .ok (.iand, 1) := by decide +kernel
theorem d_Circuit_nameByte_47 : decode b_Circuit_nameByte 47 = .ok (.ireturn, 1) := by decide +kernel
theorem d_Judge_symbol_0 : decode b_Judge_symbol 0 = .ok (.aload_n 0, 1) := by decide +kernel
theorem d_Judge_symbol_1 : decode b_Judge_symbol 1 = .ok (.iload_n 1, 1) := by decide +kernel
theorem d_Judge_symbol_2 : decode b_Judge_symbol 2 = .ok (.invokevirtual 96, 3) := by decide +kernel
theorem d_Judge_symbol_5 : decode b_Judge_symbol 5 = .ok (.ifCond .eq 19, 3) := by decide +kernel
theorem d_Judge_symbol_8 : decode b_Judge_symbol 8 = .ok (.aload_n 0, 1) := by decide +kernel
theorem d_Judge_symbol_9 : decode b_Judge_symbol 9 = .ok (.getfield 27, 3) := by decide +kernel
theorem d_Judge_symbol_12 : decode b_Judge_symbol 12 = .ok (.iload_n 1, 1) := by decide +kernel
theorem d_Judge_symbol_13 : decode b_Judge_symbol 13 = .ok (.aaload, 1) := by decide +kernel
theorem d_Judge_symbol_14 : decode b_Judge_symbol 14 = .ok (.iload_n 2, 1) := by decide +kernel
theorem d_Judge_symbol_15 : decode b_Judge_symbol 15 = .ok (.iload_n 3, 1) := by decide +kernel
theorem d_Judge_symbol_16 : decode b_Judge_symbol 16 = .ok (.iload 4, 2) := by decide +kernel
theorem d_Judge_symbol_18 : decode b_Judge_symbol 18 = .ok (.invokevirtual 102, 3) := by decide +kernel
theorem d_Judge_symbol_21 : decode b_Judge_symbol 21 = .ok (.goto 4, 3) := by decide +kernel
theorem d_Judge_symbol_24 : decode b_Judge_symbol 24 = .ok (.iconst (-1), 1) := by decide +kernel
theorem d_Judge_symbol_25 : decode b_Judge_symbol 25 = .ok (.ireturn, 1) := by decide +kernel
theorem d_Judge_reset_0 : decode b_Judge_reset 0 = .ok (.aload_n 0, 1) := by decide +kernel
theorem d_Judge_reset_1 : decode b_Judge_reset 1 = .ok (.getfield 37, 3) := by decide +kernel
theorem d_Judge_reset_4 : decode b_Judge_reset 4 = .ok (.invokevirtual 75, 3) := by decide +kernel
theorem d_Judge_reset_7 : decode b_Judge_reset 7 = .ok (.return_, 1) := by decide +kernel
theorem d_Judge_state_0 : decode b_Judge_state 0 = .ok (.aload_n 0, 1) := by decide +kernel
theorem d_Judge_state_1 : decode b_Judge_state 1 = .ok (.iload_n 1, 1) := by decide +kernel
theorem d_Judge_state_2 : decode b_Judge_state 2 = .ok (.invokevirtual 96, 3) := by decide +kernel
theorem d_Judge_state_5 : decode b_Judge_state 5 = .ok (.ifCond .eq 15, 3) := by decide +kernel
theorem d_Judge_state_8 : decode b_Judge_state 8 = .ok (.aload_n 0, 1) := by decide +kernel
theorem d_Judge_state_9 : decode b_Judge_state 9 = .ok (.getfield 37, 3) := by decide +kernel
theorem d_Judge_state_12 : decode b_Judge_state 12 = .ok (.getfield 106, 3) := by decide +kernel
theorem d_Judge_state_15 : decode b_Judge_state 15 = .ok (.iload_n 1, 1) := by decide +kernel
theorem d_Judge_state_16 : decode b_Judge_state 16 = .ok (.iaload, 1) := by decide +kernel
theorem d_Judge_state_17 : decode b_Judge_state 17 = .ok (.goto 4, 3) := by decide +kernel
theorem d_Judge_state_20 : decode b_Judge_state 20 = .ok (.iconst (-1), 1) := by decide +kernel
theorem d_Judge_state_21 : decode b_Judge_state 21 = .ok (.ireturn, 1) := by decide +kernel
