theorem d_Model_isCircuit_0 : decode b_Model_isCircuit 0 = .ok (.iload_n 0, 1) := by decide +kernel
theorem d_Model_isCircuit_1 : decode b_Model_isCircuit 1 = .ok (.ifCond .eq 8, 3) := by decide +kernel
theorem d_Model_isCircuit_4 : decode b_Model_isCircuit 4 = .ok (.iload_n 0, 1) := by decide +kernel
theorem d_Model_isCircuit_5 : decode b_Model_isCircuit 5 = .ok (.iconst 1, 1) := by decide +kernel
theorem d_Model_isCircuit_6 : decode b_Model_isCircuit 6 = .ok (.if_icmp .ne 7, 3) := by decide +kernel
theorem d_Model_isCircuit_9 : decode b_Model_isCircuit 9 = .ok (.iconst 1, 1) := by decide +kernel
theorem d_Model_isCircuit_10 : decode b_Model_isCircuit 10 = .ok (.goto 4, 3) := by decide +kernel
theorem d_Model_isCircuit_13 : decode b_Model_isCircuit 13 = .ok (.iconst 0, 1) := by decide +kernel
theorem d_Model_isCircuit_14 : decode b_Model_isCircuit 14 = .ok (.ireturn, 1) := by decide +kernel
theorem d_Model_read_0 : decode b_Model_read 0 = .ok (.iconst 0, 1) := by decide +kernel
theorem d_Model_read_1 : decode b_Model_read 1 = .ok (.istore_n 1, 1) := by decide +kernel
theorem d_Model_read_2 : decode b_Model_read 2 = .ok (.iload_n 1, 1) := by decide +kernel
theorem d_Model_read_3 : decode b_Model_read 3 = .ok (.sipush 201, 3) := by decide +kernel
theorem d_Model_read_6 : decode b_Model_read 6 = .ok (.if_icmp .ge 20, 3) := by decide +kernel
theorem d_Model_read_9 : decode b_Model_read 9 = .ok (.aload_n 0, 1) := by decide +kernel
theorem d_Model_read_10 : decode b_Model_read 10 = .ok (.getfield 45, 3) := by decide +kernel
theorem d_Model_read_13 : decode b_Model_read 13 = .ok (.sipush 402, 3) := by decide +kernel
theorem d_Model_read_16 : decode b_Model_read 16 = .ok (.iload_n 1, 1) := by decide +kernel
theorem d_Model_read_17 : decode b_Model_read 17 = .ok (.iadd, 1) := by decide +kernel
theorem d_Model_read_18 : decode b_Model_read 18 = .ok (.iconst 0, 1) := by decide +kernel
theorem d_Model_read_19 : decode b_Model_read 19 = .ok (.iastore, 1) := by decide +kernel
theorem d_Model_read_20 : decode b_Model_read 20 = .ok (.iinc 1 1, 3) := by decide +kernel
theorem d_Model_read_23 : decode b_Model_read 23 = .ok (.goto (-21), 3) := by decide +kernel
theorem d_Model_read_26 : decode b_Model_read 26 = .ok (.bipush 44, 2) := by decide +kernel
theorem d_Model_read_28 : decode b_Model_read 28 = .ok (.istore_n 1, 1) := by decide +kernel
theorem d_Model_read_29 : decode b_Model_read 29 = .ok (.iload_n 1, 1) := by decide +kernel
theorem d_Model_read_30 : decode b_Model_read 30 = .ok (.bipush 66, 2) := by decide +kernel
theorem d_Model_read_32 : decode b_Model_read 32 = .ok (.if_icmp .ge 16, 3) := by decide +kernel
theorem d_Model_read_35 : decode b_Model_read 35 = .ok (.aload_n 0, 1) := by decide +kernel
theorem d_Model_read_36 : decode b_Model_read 36 = .ok (.getfield 66, 3) := by decide +kernel
theorem d_Model_read_39 : decode b_Model_read 39 = .ok (.iload_n 1, 1) := by decide +kernel
theorem d_Model_read_40 : decode b_Model_read 40 = .ok (.iconst 0, 1) := by decide +kernel
theorem d_Model_read_41 : decode b_Model_read 41 = .ok (.iastore, 1) := by decide +kernel
theorem d_Model_read_42 : decode b_Model_read 42 = .ok (.iinc 1 1, 3) := by decide +kernel
theorem d_Model_read_45 : decode b_Model_read 45 = .ok (.goto (-16), 3) := by decide +kernel
theorem d_Model_read_48 : decode b_Model_read 48 = .ok (.aload_n 0, 1) := by decide +kernel
theorem d_Model_read_49 : decode b_Model_read 49 = .ok (.invokevirtual 216, 3) := by decide +kernel
theorem d_Model_read_52 : decode b_Model_read 52 = .ok (.istore_n 1, 1) := by decide +kernel
theorem d_Model_read_53 : decode b_Model_read 53 = .ok (.aload_n 0, 1) := by decide +kernel
theorem d_Model_read_54 : decode b_Model_read 54 = .ok (.getfield 136, 3) := by decide +kernel
theorem d_Model_read_57 : decode b_Model_read 57 = .ok (.ifCond .ne 14, 3) := by decide +kernel
theorem d_Model_read_60 : decode b_Model_read 60 = .ok (.iload_n 1, 1) := by decide +kernel
theorem d_Model_read_61 : decode b_Model_read 61 = .ok (.ifCond .eq 10, 3) := by decide +kernel
theorem d_Model_read_64 : decode b_Model_read 64 = .ok (.aload_n 0, 1) := by decide +kernel
theorem d_Model_read_65 : decode b_Model_read 65 = .ok (.invokevirtual 219, 3) := by decide +kernel
theorem d_Model_read_68 : decode b_Model_read 68 = .ok (.goto 14, 3) := by decide +kernel
theorem d_Model_read_71 : decode b_Model_read 71 = .ok (.aload_n 0, 1) := by decide +kernel
theorem d_Model_read_72 : decode b_Model_read 72 = .ok (.getfield 136, 3) := by decide +kernel
theorem d_Model_read_75 : decode b_Model_read 75 = .ok (.ifCond .ne 7, 3) := by decide +kernel
theorem d_Model_read_78 : decode b_Model_read 78 = .ok (.aload_n 0, 1) := by decide +kernel
theorem d_Model_read_79 : decode b_Model_read 79 = .ok (.invokevirtual 222, 3) := by decide +kernel
theorem d_Model_read_82 : decode b_Model_read 82 = .ok (.aload_n 0, 1) := by decide +kernel
theorem d_Model_read_83 : decode b_Model_read 83 = .ok (.getfield 136, 3) := by decide +kernel
theorem d_Model_read_86 : decode b_Model_read 86 = .ok (.ifCond .ne 7, 3) := by decide +kernel
theorem d_Model_read_89 : decode b_Model_read 89 = .ok (.aload_n 0, 1) := by decide +kernel
theorem d_Model_read_90 : decode b_Model_read 90 = .ok (.invokevirtual 225, 3) := by decide +kernel
theorem d_Model_read_93 : decode b_Model_read 93 = .ok (.aload_n 0, 1) := by decide +kernel
theorem d_Model_read_94 : decode b_Model_read 94 = .ok (.getfield 136, 3) := by decide +kernel
theorem d_Model_read_97 : decode b_Model_read 97 = .ok (.ifCond .ne 7, 3) := by decide +kernel
theorem d_Model_read_100 : decode b_Model_read 100 = .ok (.aload_n 0, 1) := by decide +kernel
theorem d_Model_read_101 : decode b_Model_read 101 = .ok (.invokevirtual 228, 3) := by decide +kernel
theorem d_Model_read_104 : decode b_Model_read 104 = .ok (.aload_n 0, 1) := by decide +kernel
theorem d_Model_read_105 : decode b_Model_read 105 = .ok (.getfield 136, 3) := by decide +kernel
theorem d_Model_read_108 : decode b_Model_read 108 = .ok (.ifCond .ne 7, 3) := by decide +kernel
theorem d_Model_read_111 : decode b_Model_read 111 = .ok (.aload_n 0, 1) := by decide +kernel
theorem d_Model_read_112 : decode b_Model_read 112 = .ok (.invokevirtual 231, 3) := by decide +kernel
theorem d_Model_read_115 : decode b_Model_read 115 = .ok (.return_, 1) := by decide +kernel
theorem d_Model_load_0 : decode b_Model_load 0 = .ok (.aload_n 0, 1) := by decide +kernel
theorem d_Model_load_1 : decode b_Model_load 1 = .ok (.iconst 0, 1) := by decide +kernel
theorem d_Model_load_2 : decode b_Model_load 2 = .ok (.putfield 133, 3) := by decide +kernel
theorem d_Model_load_5 : decode b_Model_load 5 = .ok (.aload_n 0, 1) := by decide +kernel
theorem d_Model_load_6 : decode b_Model_load 6 = .ok (.iconst 0, 1) := by decide +kernel
theorem d_Model_load_7 : decode b_Model_load 7 = .ok (.putfield 136, 3) := by decide +kernel
theorem d_Model_load_10 : decode b_Model_load 10 = .ok (.aload_n 0, 1) := by decide +kernel
theorem d_Model_load_11 : decode b_Model_load 11 = .ok (.iconst (-1), 1) := by decide +kernel
theorem d_Model_load_12 : decode b_Model_load 12 = .ok (.putfield 139, 3) := by decide +kernel
theorem d_Model_load_15 : decode b_Model_load 15 = .ok (.iload_n 1, 1) := by decide +kernel
theorem d_Model_load_16 : decode b_Model_load 16 = .ok (.invokestatic 204, 3) := by decide +kernel
theorem d_Model_load_19 : decode b_Model_load 19 = .ok (.istore_n 2, 1) := by decide +kernel
theorem d_Model_load_20 : decode b_Model_load 20 = .ok (.iload_n 2, 1) := by decide +kernel
theorem d_Model_load_21 : decode b_Model_load 21 = .ok (.ifCond .eq 7, 3) := by decide +kernel
theorem d_Model_load_24 : decode b_Model_load 24 = .ok (.aload_n 0, 1) := by decide +kernel
theorem d_Model_load_25 : decode b_Model_load 25 = .ok (.invokevirtual 207, 3) := by decide +kernel
theorem d_Model_load_28 : decode b_Model_load 28 = .ok (.aload_n 0, 1) := by decide +kernel
theorem d_Model_load_29 : decode b_Model_load 29 = .ok (.iconst 0, 1) := by decide +kernel
theorem d_Model_load_30 : decode b_Model_load 30 = .ok (.putfield 130, 3) := by decide +kernel
theorem d_Model_load_33 : decode b_Model_load 33 = .ok (.aload_n 0, 1) := by decide +kernel
theorem d_Model_load_34 : decode b_Model_load 34 = .ok (.aload_n 0, 1) := by decide +kernel
theorem d_Model_load_35 : decode b_Model_load 35 = .ok (.getfield 136, 3) := by decide +kernel
theorem d_Model_load_38 : decode b_Model_load 38 = .ok (.putfield 210, 3) := by decide +kernel
theorem d_Model_load_41 : decode b_Model_load 41 = .ok (.aload_n 0, 1) := by decide +kernel
theorem d_Model_load_42 : decode b_Model_load 42 = .ok (.aload_n 0, 1) := by decide +kernel
theorem d_Model_load_43 : decode b_Model_load 43 = .ok (.getfield 139, 3) := by decide +kernel
theorem d_Model_load_46 : decode b_Model_load 46 = .ok (.putfield 16, 3) := by decide +kernel
theorem d_Model_load_49 : decode b_Model_load 49 = .ok (.aload_n 0, 1) := by decide +kernel
theorem d_Model_load_50 : decode b_Model_load 50 = .ok (.iload_n 2, 1) := by decide +kernel
theorem d_Model_load_51 : decode b_Model_load 51 = .ok (.ifCond .eq 10, 3) := by decide +kernel
theorem d_Model_load_54 : decode b_Model_load 54 = .ok (.aload_n 0, 1) := by decide +kernel
theorem d_Model_load_55 : decode b_Model_load 55 = .ok (.getfield 136, 3) := by decide +kernel
theorem d_Model_load_58 : decode b_Model_load 58 = .ok (.ifCond .le 7, 3) := by decide +kernel
theorem d_Model_load_61 : decode b_Model_load 61 = .ok (.iconst 1, 1) := by decide +kernel
theorem d_Model_load_62 : decode b_Model_load 62 = .ok (.goto 4, 3) := by decide +kernel
theorem d_Model_load_65 : decode b_Model_load 65 = .ok (.iconst 0, 1) := by decide +kernel
theorem d_Model_load_66 : decode b_Model_load 66 = .ok (.putfield 127, 3) := by decide +kernel
theorem d_Model_load_69 : decode b_Model_load 69 = .ok (.aload_n 0, 1) := by decide +kernel
theorem d_Model_load_70 : decode b_Model_load 70 = .ok (.getfield 127, 3) := by decide +kernel
theorem d_Model_load_73 : decode b_Model_load 73 = .ok (.ifCond .le 5, 3) := by decide +kernel
theorem d_Model_load_76 : decode b_Model_load 76 = .ok (.iconst 0, 1) := by decide +kernel
theorem d_Model_load_77 : decode b_Model_load 77 = .ok (.ireturn, 1) := by decide +kernel
theorem d_Model_load_78 : decode b_Model_load 78 = .ok (.aload_n 0, 1) := by decide +kernel
theorem d_Model_load_79 : decode b_Model_load 79 = .ok (.iload_n 1, 1) := by decide +kernel
theorem d_Model_load_80 : decode b_Model_load 80 = .ok (.invokevirtual 213, 3) := by decide +kernel
theorem d_Model_load_83 : decode b_Model_load 83 = .ok (.aload_n 0, 1) := by decide +kernel
theorem d_Model_load_84 : decode b_Model_load 84 = .ok (.getfield 20, 3) := by decide +kernel
theorem d_Model_load_87 : decode b_Model_load 87 = .ok (.bipush 14, 2) := by decide +kernel
theorem d_Model_load_89 : decode b_Model_load 89 = .ok (.iaload, 1) := by decide +kernel
theorem d_Model_load_90 : decode b_Model_load 90 = .ok (.ireturn, 1) := by decide +kernel
theorem d_Model_fault_0 : decode b_Model_fault 0 = .ok (.aload_n 0, 1) := by decide +kernel
theorem d_Model_fault_1 : decode b_Model_fault 1 = .ok (.iconst 0, 1) := by decide +kernel
theorem d_Model_fault_2 : decode b_Model_fault 2 = .ok (.putfield 127, 3) := by decide +kernel
theorem d_Model_fault_5 : decode b_Model_fault 5 = .ok (.iload_n 1, 1) := by decide +kernel
theorem d_Model_fault_6 : decode b_Model_fault 6 = .ok (.ifCond .ne 10, 3) := by decide +kernel
theorem d_Model_fault_9 : decode b_Model_fault 9 = .ok (.aload_n 0, 1) := by decide +kernel
theorem d_Model_fault_10 : decode b_Model_fault 10 = .ok (.getfield 210, 3) := by decide +kernel
theorem d_Model_fault_13 : decode b_Model_fault 13 = .ok (.goto 16, 3) := by decide +kernel
theorem d_Model_fault_16 : decode b_Model_fault 16 = .ok (.iload_n 1, 1) := by decide +kernel
theorem d_Model_fault_17 : decode b_Model_fault 17 = .ok (.iconst 1, 1) := by decide +kernel
theorem d_Model_fault_18 : decode b_Model_fault 18 = .ok (.if_icmp .ne 10, 3) := by decide +kernel
theorem d_Model_fault_21 : decode b_Model_fault 21 = .ok (.aload_n 0, 1) := by decide +kernel
theorem d_Model_fault_22 : decode b_Model_fault 22 = .ok (.getfield 16, 3) := by decide +kernel
theorem d_Model_fault_25 : decode b_Model_fault 25 = .ok (.goto 4, 3) := by decide +kernel
theorem d_Model_fault_28 : decode b_Model_fault 28 = .ok (.iconst (-1), 1) := by decide +kernel
theorem d_Model_fault_29 : decode b_Model_fault 29 = .ok (.ireturn, 1) := by decide +kernel
theorem d_Model_isThere_0 : decode b_Model_isThere 0 = .ok (.iload_n 1, 1) := by decide +kernel
theorem d_Model_isThere_1 : decode b_Model_isThere 1 = .ok (.invokestatic 204, 3) := by decide +kernel
theorem d_Model_isThere_4 : decode b_Model_isThere 4 = .ok (.ifCond .eq 16, 3) := by decide +kernel
theorem d_Model_isThere_7 : decode b_Model_isThere 7 = .ok (.aload_n 0, 1) := by decide +kernel
theorem d_Model_isThere_8 : decode b_Model_isThere 8 = .ok (.getfield 79, 3) := by decide +kernel
theorem d_Model_isThere_11 : decode b_Model_isThere 11 = .ok (.iload_n 1, 1) := by decide +kernel
theorem d_Model_isThere_12 : decode b_Model_isThere 12 = .ok (.baload, 1) := by decide +kernel
theorem d_Model_isThere_13 : decode b_Model_isThere 13 = .ok (.ifCond .eq 7, 3) := by decide +kernel
theorem d_Model_isThere_16 : decode b_Model_isThere 16 = .ok (.iconst 1, 1) := by decide +kernel
theorem d_Model_isThere_17 : decode b_Model_isThere 17 = .ok (.goto 4, 3) := by decide +kernel
theorem d_Model_isThere_20 : decode b_Model_isThere 20 = .ok (.iconst 0, 1) := by decide +kernel
theorem d_Model_isThere_21 : decode b_Model_isThere 21 = .ok (.ireturn, 1) := by decide +kernel
theorem d_Model_many_0 : decode b_Model_many 0 = .ok (.aload_n 0, 1) := by decide +kernel
theorem d_Model_many_1 : decode b_Model_many 1 = .ok (.iconst 0, 1) := by decide +kernel
theorem d_Model_many_2 : decode b_Model_many 2 = .ok (.putfield 127, 3) := by decide +kernel
theorem d_Model_many_5 : decode b_Model_many 5 = .ok (.aload_n 0, 1) := by decide +kernel
theorem d_Model_many_6 : decode b_Model_many 6 = .ok (.iload_n 1, 1) := by decide +kernel
theorem d_Model_many_7 : decode b_Model_many 7 = .ok (.invokevirtual 234, 3) := by decide +kernel
theorem d_Model_many_10 : decode b_Model_many 10 = .ok (.ifCond .eq 12, 3) := by decide +kernel
theorem d_Model_many_13 : decode b_Model_many 13 = .ok (.iload_n 2, 1) := by decide +kernel
theorem d_Model_many_14 : decode b_Model_many 14 = .ok (.ifCond .lt 8, 3) := by decide +kernel
theorem d_Model_many_17 : decode b_Model_many 17 = .ok (.iload_n 2, 1) := by decide +kernel
theorem d_Model_many_18 : decode b_Model_many 18 = .ok (.iconst 4, 1) := by decide +kernel
theorem d_Model_many_19 : decode b_Model_many 19 = .ok (.if_icmp .le 7, 3) := by decide +kernel
theorem d_Model_many_22 : decode b_Model_many 22 = .ok (.iconst (-1), 1) := by decide +kernel
theorem d_Model_many_23 : decode b_Model_many 23 = .ok (.goto 13, 3) := by decide +kernel
theorem d_Model_many_26 : decode b_Model_many 26 = .ok (.aload_n 0, 1) := by decide +kernel
theorem d_Model_many_27 : decode b_Model_many 27 = .ok (.getfield 20, 3) := by decide +kernel
theorem d_Model_many_30 : decode b_Model_many 30 = .ok (.iconst 5, 1) := by decide +kernel
theorem d_Model_many_31 : decode b_Model_many 31 = .ok (.iload_n 1, 1) := by decide +kernel
theorem d_Model_many_32 : decode b_Model_many 32 = .ok (.imul, 1) := by decide +kernel
theorem d_Model_many_33 : decode b_Model_many 33 = .ok (.iload_n 2, 1) := by decide +kernel
theorem d_Model_many_34 : decode b_Model_many 34 = .ok (.iadd, 1) := by decide +kernel
theorem d_Model_many_35 : decode b_Model_many 35 = .ok (.iaload, 1) := by decide +kernel
theorem d_Model_many_36 : decode b_Model_many 36 = .ok (.ireturn, 1) := by decide +kernel
theorem d_Model_symbol_0 : decode b_Model_symbol 0 = .ok (.aload_n 0, 1) := by decide +kernel
theorem d_Model_symbol_1 : decode b_Model_symbol 1 = .ok (.iconst 0, 1) := by decide +kernel
theorem d_Model_symbol_2 : decode b_Model_symbol 2 = .ok (.putfield 127, 3) := by decide +kernel
theorem d_Model_symbol_5 : decode b_Model_symbol 5 = .ok (.aload_n 0, 1) := by decide +kernel
theorem d_Model_symbol_6 : decode b_Model_symbol 6 = .ok (.iload_n 1, 1) := by decide +kernel
theorem d_Model_symbol_7 : decode b_Model_symbol 7 = .ok (.invokevirtual 234, 3) := by decide +kernel
theorem d_Model_symbol_10 : decode b_Model_symbol 10 = .ok (.ifCond .eq 32, 3) := by decide +kernel
theorem d_Model_symbol_13 : decode b_Model_symbol 13 = .ok (.iload_n 2, 1) := by decide +kernel
theorem d_Model_symbol_14 : decode b_Model_symbol 14 = .ok (.ifCond .lt 28, 3) := by decide +kernel
theorem d_Model_symbol_17 : decode b_Model_symbol 17 = .ok (.iload_n 2, 1) := by decide +kernel
theorem d_Model_symbol_18 : decode b_Model_symbol 18 = .ok (.iconst 2, 1) := by decide +kernel
theorem d_Model_symbol_19 : decode b_Model_symbol 19 = .ok (.if_icmp .gt 23, 3) := by decide +kernel
theorem d_Model_symbol_22 : decode b_Model_symbol 22 = .ok (.iload_n 3, 1) := by decide +kernel
theorem d_Model_symbol_23 : decode b_Model_symbol 23 = .ok (.ifCond .lt 19, 3) := by decide +kernel
theorem d_Model_symbol_26 : decode b_Model_symbol 26 = .ok (.iload_n 3, 1) := by decide +kernel
theorem d_Model_symbol_27 : decode b_Model_symbol 27 = .ok (.aload_n 0, 1) := by decide +kernel
theorem d_Model_symbol_28 : decode b_Model_symbol 28 = .ok (.getfield 20, 3) := by decide +kernel
theorem d_Model_symbol_31 : decode b_Model_symbol 31 = .ok (.iconst 5, 1) := by decide +kernel
theorem d_Model_symbol_32 : decode b_Model_symbol 32 = .ok (.iload_n 1, 1) := by decide +kernel
theorem d_Model_symbol_33 : decode b_Model_symbol 33 = .ok (.imul, 1) := by decide +kernel
theorem d_Model_symbol_34 : decode b_Model_symbol 34 = .ok (.iconst 1, 1) := by decide +kernel
theorem d_Model_symbol_35 : decode b_Model_symbol 35 = .ok (.iadd, 1) := by decide +kernel
theorem d_Model_symbol_36 : decode b_Model_symbol 36 = .ok (.iload_n 2, 1) := by decide +kernel
theorem d_Model_symbol_37 : decode b_Model_symbol 37 = .ok (.iadd, 1) := by decide +kernel
theorem d_Model_symbol_38 : decode b_Model_symbol 38 = .ok (.iaload, 1) := by decide +kernel
theorem d_Model_symbol_39 : decode b_Model_symbol 39 = .ok (.if_icmp .lt 5, 3) := by decide +kernel
theorem d_Model_symbol_42 : decode b_Model_symbol 42 = .ok (.iconst (-1), 1) := by decide +kernel
theorem d_Model_symbol_43 : decode b_Model_symbol 43 = .ok (.ireturn, 1) := by decide +kernel
theorem d_Model_symbol_44 : decode b_Model_symbol 44 = .ok (.bipush 22, 2) := by decide +kernel
theorem d_Model_symbol_46 : decode b_Model_symbol 46 = .ok (.iload_n 1, 1) := by decide +kernel
theorem d_Model_symbol_47 : decode b_Model_symbol 47 = .ok (.imul, 1) := by decide +kernel
theorem d_Model_symbol_48 : decode b_Model_symbol 48 = .ok (.iload_n 2, 1) := by decide +kernel
theorem d_Model_symbol_49 : decode b_Model_symbol 49 = .ok (.ifCond .ne 7, 3) := by decide +kernel
theorem d_Model_symbol_52 : decode b_Model_symbol 52 = .ok (.iconst 0, 1) := by decide +kernel
theorem d_Model_symbol_53 : decode b_Model_symbol 53 = .ok (.goto 15, 3) := by decide +kernel
theorem d_Model_symbol_56 : decode b_Model_symbol 56 = .ok (.iload_n 2, 1) := by decide +kernel
theorem d_Model_symbol_57 : decode b_Model_symbol 57 = .ok (.iconst 1, 1) := by decide +kernel
theorem d_Model_symbol_58 : decode b_Model_symbol 58 = .ok (.if_icmp .ne 8, 3) := by decide +kernel
theorem d_Model_symbol_61 : decode b_Model_symbol 61 = .ok (.bipush 6, 2) := by decide +kernel
theorem d_Model_symbol_63 : decode b_Model_symbol 63 = .ok (.goto 5, 3) := by decide +kernel
theorem d_Model_symbol_66 : decode b_Model_symbol 66 = .ok (.bipush 14, 2) := by decide +kernel
theorem d_Model_symbol_68 : decode b_Model_symbol 68 = .ok (.iadd, 1) := by decide +kernel
theorem d_Model_symbol_69 : decode b_Model_symbol 69 = .ok (.iload_n 3, 1) := by decide +kernel
theorem d_Model_symbol_70 : decode b_Model_symbol 70 = .ok (.iadd, 1) := by decide +kernel
theorem d_Model_symbol_71 : decode b_Model_symbol 71 = .ok (.istore 5, 2) := by decide +kernel
theorem d_Model_symbol_73 : decode b_Model_symbol 73 = .ok (.iload 4, 2) := by decide +kernel
theorem d_Model_symbol_75 : decode b_Model_symbol 75 = .ok (.ifCond .lt 15, 3) := by decide +kernel
theorem d_Model_symbol_78 : decode b_Model_symbol 78 = .ok (.iload 4, 2) := by decide +kernel
theorem d_Model_symbol_80 : decode b_Model_symbol 80 = .ok (.aload_n 0, 1) := by decide +kernel
theorem d_Model_symbol_81 : decode b_Model_symbol 81 = .ok (.getfield 66, 3) := by decide +kernel
theorem d_Model_symbol_84 : decode b_Model_symbol 84 = .ok (.iload 5, 2) := by decide +kernel
theorem d_Model_symbol_86 : decode b_Model_symbol 86 = .ok (.iaload, 1) := by decide +kernel
theorem d_Model_symbol_87 : decode b_Model_symbol 87 = .ok (.if_icmp .lt 7, 3) := by decide +kernel
theorem d_Model_symbol_90 : decode b_Model_symbol 90 = .ok (.iconst (-1), 1) := by decide +kernel
theorem d_Model_symbol_91 : decode b_Model_symbol 91 = .ok (.goto 20, 3) := by decide +kernel
theorem d_Model_symbol_94 : decode b_Model_symbol 94 = .ok (.aload_n 0, 1) := by decide +kernel
theorem d_Model_symbol_95 : decode b_Model_symbol 95 = .ok (.getfield 63, 3) := by decide +kernel
theorem d_Model_symbol_98 : decode b_Model_symbol 98 = .ok (.bipush 40, 2) := by decide +kernel
theorem d_Model_symbol_100 : decode b_Model_symbol 100 = .ok (.iload 5, 2) := by decide +kernel
theorem d_Model_symbol_102 : decode b_Model_symbol 102 = .ok (.imul, 1) := by decide +kernel
theorem d_Model_symbol_103 : decode b_Model_symbol 103 = .ok (.iload 4, 2) := by decide +kernel
theorem d_Model_symbol_105 : decode b_Model_symbol 105 = .ok (.iadd, 1) := by decide +kernel
theorem d_Model_symbol_106 : decode b_Model_symbol 106 = .ok (.baload, 1) := by decide +kernel
theorem d_Model_symbol_107 : decode b_Model_symbol 107 = .ok (.sipush 255, 3) := by decide +kernel
theorem d_Model_symbol_110 : decode b_Model_symbol 110 = .ok (.iand, 1) := by decide +kernel
theorem d_Model_symbol_111 : decode b_Model_symbol 111 = .ok (.ireturn, 1) := by decide +kernel
theorem d_Model_vectors_0 : decode b_Model_vectors 0 = .ok (.iload_n 0, 1) := by decide +kernel
theorem d_Model_vectors_1 : decode b_Model_vectors 1 = .ok (.tableswitch 47 0 3 #[31, 35, 39, 43], 31) := by decide +kernel
theorem d_Model_vectors_32 : decode b_Model_vectors 32 = .ok (.ldc2_w 237, 3) := by decide +kernel
theorem d_Model_vectors_35 : decode b_Model_vectors 35 = .ok (.lreturn, 1) := by decide +kernel
theorem d_Model_vectors_36 : decode b_Model_vectors 36 = .ok (.ldc2_w 239, 3) := by decide +kernel
theorem d_Model_vectors_39 : decode b_Model_vectors 39 = .ok (.lreturn, 1) := by decide +kernel
theorem d_Model_vectors_40 : decode b_Model_vectors 40 = .ok (.ldc2_w 241, 3) := by decide +kernel
theorem d_Model_vectors_43 : decode b_Model_vectors 43 = .ok (.lreturn, 1) := by decide +kernel
theorem d_Model_vectors_44 : decode b_Model_vectors 44 = .ok (.ldc2_w 243, 3) := by decide +kernel
theorem d_Model_vectors_47 : decode b_Model_vectors 47 = .ok (.lreturn, 1) := by decide +kernel
theorem d_Model_vectors_48 : decode b_Model_vectors 48 = .ok (.ldc2_w 245, 3) := by decide +kernel
theorem d_Model_vectors_51 : decode b_Model_vectors 51 = .ok (.lreturn, 1) := by decide +kernel
theorem d_Model_of_0 : decode b_Model_of 0 = .ok (.iload_n 2, 1) := by decide +kernel
theorem d_Model_of_1 : decode b_Model_of 1 = .ok (.iconst 2, 1) := by decide +kernel
theorem d_Model_of_2 : decode b_Model_of 2 = .ok (.irem, 1) := by decide +kernel
theorem d_Model_of_3 : decode b_Model_of 3 = .ok (.iconst 1, 1) := by decide +kernel
theorem d_Model_of_4 : decode b_Model_of 4 = .ok (.if_icmp .ne 24, 3) := by decide +kernel
theorem d_Model_of_7 : decode b_Model_of 7 = .ok (.aload_n 0, 1) := by decide +kernel
theorem d_Model_of_8 : decode b_Model_of 8 = .ok (.getfield 85, 3) := by decide +kernel
theorem d_Model_of_11 : decode b_Model_of 11 = .ok (.sipush 201, 3) := by decide +kernel
theorem d_Model_of_14 : decode b_Model_of 14 = .ok (.iload_n 1, 1) := by decide +kernel
theorem d_Model_of_15 : decode b_Model_of 15 = .ok (.imul, 1) := by decide +kernel
theorem d_Model_of_16 : decode b_Model_of 16 = .ok (.iload_n 2, 1) := by decide +kernel
theorem d_Model_of_17 : decode b_Model_of 17 = .ok (.iconst 2, 1) := by decide +kernel
theorem d_Model_of_18 : decode b_Model_of 18 = .ok (.idiv, 1) := by decide +kernel
theorem d_Model_of_19 : decode b_Model_of 19 = .ok (.iadd, 1) := by decide +kernel
theorem d_Model_of_20 : decode b_Model_of 20 = .ok (.laload, 1) := by decide +kernel
theorem d_Model_of_21 : decode b_Model_of 21 = .ok (.ldc2_w 247, 3) := by decide +kernel
theorem d_Model_of_24 : decode b_Model_of 24 = .ok (.lxor, 1) := by decide +kernel
theorem d_Model_of_25 : decode b_Model_of 25 = .ok (.goto 17, 3) := by decide +kernel
theorem d_Model_of_28 : decode b_Model_of 28 = .ok (.aload_n 0, 1) := by decide +kernel
theorem d_Model_of_29 : decode b_Model_of 29 = .ok (.getfield 85, 3) := by decide +kernel
theorem d_Model_of_32 : decode b_Model_of 32 = .ok (.sipush 201, 3) := by decide +kernel
theorem d_Model_of_35 : decode b_Model_of 35 = .ok (.iload_n 1, 1) := by decide +kernel
theorem d_Model_of_36 : decode b_Model_of 36 = .ok (.imul, 1) := by decide +kernel
theorem d_Model_of_37 : decode b_Model_of 37 = .ok (.iload_n 2, 1) := by decide +kernel
theorem d_Model_of_38 : decode b_Model_of 38 = .ok (.iconst 2, 1) := by decide +kernel
theorem d_Model_of_39 : decode b_Model_of 39 = .ok (.idiv, 1) := by decide +kernel
theorem d_Model_of_40 : decode b_Model_of 40 = .ok (.iadd, 1) := by decide +kernel
theorem d_Model_of_41 : decode b_Model_of 41 = .ok (.laload, 1) := by decide +kernel
theorem d_Model_of_42 : decode b_Model_of 42 = .ok (.lreturn, 1) := by decide +kernel
theorem d_Model_reckon_0 : decode b_Model_reckon 0 = .ok (.aload_n 0, 1) := by decide +kernel
theorem d_Model_reckon_1 : decode b_Model_reckon 1 = .ok (.getfield 85, 3) := by decide +kernel
theorem d_Model_reckon_4 : decode b_Model_reckon 4 = .ok (.sipush 201, 3) := by decide +kernel
theorem d_Model_reckon_7 : decode b_Model_reckon 7 = .ok (.iload_n 1, 1) := by decide +kernel
theorem d_Model_reckon_8 : decode b_Model_reckon 8 = .ok (.imul, 1) := by decide +kernel
theorem d_Model_reckon_9 : decode b_Model_reckon 9 = .ok (.lconst 0, 1) := by decide +kernel
theorem d_Model_reckon_10 : decode b_Model_reckon 10 = .ok (.lastore, 1) := by decide +kernel
theorem d_Model_reckon_11 : decode b_Model_reckon 11 = .ok (.iconst 0, 1) := by decide +kernel
theorem d_Model_reckon_12 : decode b_Model_reckon 12 = .ok (.istore_n 3, 1) := by decide +kernel
theorem d_Model_reckon_13 : decode b_Model_reckon 13 = .ok (.iload_n 3, 1) := by decide +kernel
theorem d_Model_reckon_14 : decode b_Model_reckon 14 = .ok (.aload_n 0, 1) := by decide +kernel
theorem d_Model_reckon_15 : decode b_Model_reckon 15 = .ok (.getfield 20, 3) := by decide +kernel
theorem d_Model_reckon_18 : decode b_Model_reckon 18 = .ok (.iconst 5, 1) := by decide +kernel
theorem d_Model_reckon_19 : decode b_Model_reckon 19 = .ok (.iload_n 1, 1) := by decide +kernel
theorem d_Model_reckon_20 : decode b_Model_reckon 20 = .ok (.imul, 1) := by decide +kernel
theorem d_Model_reckon_21 : decode b_Model_reckon 21 = .ok (.iconst 1, 1) := by decide +kernel
theorem d_Model_reckon_22 : decode b_Model_reckon 22 = .ok (.iadd, 1) := by decide +kernel
theorem d_Model_reckon_23 : decode b_Model_reckon 23 = .ok (.iaload, 1) := by decide +kernel
theorem d_Model_reckon_24 : decode b_Model_reckon 24 = .ok (.if_icmp .ge 36, 3) := by decide +kernel
theorem d_Model_reckon_27 : decode b_Model_reckon 27 = .ok (.aload_n 0, 1) := by decide +kernel
theorem d_Model_reckon_28 : decode b_Model_reckon 28 = .ok (.getfield 85, 3) := by decide +kernel
theorem d_Model_reckon_31 : decode b_Model_reckon 31 = .ok (.sipush 201, 3) := by decide +kernel
theorem d_Model_reckon_34 : decode b_Model_reckon 34 = .ok (.iload_n 1, 1) := by decide +kernel
theorem d_Model_reckon_35 : decode b_Model_reckon 35 = .ok (.imul, 1) := by decide +kernel
theorem d_Model_reckon_36 : decode b_Model_reckon 36 = .ok (.aload_n 0, 1) := by decide +kernel
theorem d_Model_reckon_37 : decode b_Model_reckon 37 = .ok (.getfield 24, 3) := by decide +kernel
theorem d_Model_reckon_40 : decode b_Model_reckon 40 = .ok (.iconst 5, 1) := by decide +kernel
theorem d_Model_reckon_41 : decode b_Model_reckon 41 = .ok (.iload_n 1, 1) := by decide +kernel
theorem d_Model_reckon_42 : decode b_Model_reckon 42 = .ok (.imul, 1) := by decide +kernel
theorem d_Model_reckon_43 : decode b_Model_reckon 43 = .ok (.iload_n 3, 1) := by decide +kernel
theorem d_Model_reckon_44 : decode b_Model_reckon 44 = .ok (.iadd, 1) := by decide +kernel
theorem d_Model_reckon_45 : decode b_Model_reckon 45 = .ok (.iaload, 1) := by decide +kernel
theorem d_Model_reckon_46 : decode b_Model_reckon 46 = .ok (.iconst 2, 1) := by decide +kernel
theorem d_Model_reckon_47 : decode b_Model_reckon 47 = .ok (.idiv, 1) := by decide +kernel
theorem d_Model_reckon_48 : decode b_Model_reckon 48 = .ok (.iadd, 1) := by decide +kernel
theorem d_Model_reckon_49 : decode b_Model_reckon 49 = .ok (.iload_n 3, 1) := by decide +kernel
theorem d_Model_reckon_50 : decode b_Model_reckon 50 = .ok (.invokestatic 249, 3) := by decide +kernel
theorem d_Model_reckon_53 : decode b_Model_reckon 53 = .ok (.lastore, 1) := by decide +kernel
theorem d_Model_reckon_54 : decode b_Model_reckon 54 = .ok (.iinc 3 1, 3) := by decide +kernel
theorem d_Model_reckon_57 : decode b_Model_reckon 57 = .ok (.goto (-44), 3) := by decide +kernel
theorem d_Model_reckon_60 : decode b_Model_reckon 60 = .ok (.iconst 0, 1) := by decide +kernel
theorem d_Model_reckon_61 : decode b_Model_reckon 61 = .ok (.istore_n 3, 1) := by decide +kernel
theorem d_Model_reckon_62 : decode b_Model_reckon 62 = .ok (.iload_n 3, 1) := by decide +kernel
theorem d_Model_reckon_63 : decode b_Model_reckon 63 = .ok (.aload_n 0, 1) := by decide +kernel
theorem d_Model_reckon_64 : decode b_Model_reckon 64 = .ok (.getfield 20, 3) := by decide +kernel
theorem d_Model_reckon_67 : decode b_Model_reckon 67 = .ok (.iconst 5, 1) := by decide +kernel
theorem d_Model_reckon_68 : decode b_Model_reckon 68 = .ok (.iload_n 1, 1) := by decide +kernel
theorem d_Model_reckon_69 : decode b_Model_reckon 69 = .ok (.imul, 1) := by decide +kernel
theorem d_Model_reckon_70 : decode b_Model_reckon 70 = .ok (.iconst 2, 1) := by decide +kernel
theorem d_Model_reckon_71 : decode b_Model_reckon 71 = .ok (.iadd, 1) := by decide +kernel
theorem d_Model_reckon_72 : decode b_Model_reckon 72 = .ok (.iaload, 1) := by decide +kernel
theorem d_Model_reckon_73 : decode b_Model_reckon 73 = .ok (.if_icmp .ge 49, 3) := by decide +kernel
theorem d_Model_reckon_76 : decode b_Model_reckon 76 = .ok (.aload_n 0, 1) := by decide +kernel
theorem d_Model_reckon_77 : decode b_Model_reckon 77 = .ok (.getfield 85, 3) := by decide +kernel
theorem d_Model_reckon_80 : decode b_Model_reckon 80 = .ok (.sipush 201, 3) := by decide +kernel
theorem d_Model_reckon_83 : decode b_Model_reckon 83 = .ok (.iload_n 1, 1) := by decide +kernel
theorem d_Model_reckon_84 : decode b_Model_reckon 84 = .ok (.imul, 1) := by decide +kernel
theorem d_Model_reckon_85 : decode b_Model_reckon 85 = .ok (.aload_n 0, 1) := by decide +kernel
theorem d_Model_reckon_86 : decode b_Model_reckon 86 = .ok (.getfield 27, 3) := by decide +kernel
theorem d_Model_reckon_89 : decode b_Model_reckon 89 = .ok (.bipush 7, 2) := by decide +kernel
theorem d_Model_reckon_91 : decode b_Model_reckon 91 = .ok (.iload_n 1, 1) := by decide +kernel
theorem d_Model_reckon_92 : decode b_Model_reckon 92 = .ok (.imul, 1) := by decide +kernel
theorem d_Model_reckon_93 : decode b_Model_reckon 93 = .ok (.iload_n 3, 1) := by decide +kernel
theorem d_Model_reckon_94 : decode b_Model_reckon 94 = .ok (.iadd, 1) := by decide +kernel
theorem d_Model_reckon_95 : decode b_Model_reckon 95 = .ok (.iaload, 1) := by decide +kernel
theorem d_Model_reckon_96 : decode b_Model_reckon 96 = .ok (.iconst 2, 1) := by decide +kernel
theorem d_Model_reckon_97 : decode b_Model_reckon 97 = .ok (.idiv, 1) := by decide +kernel
theorem d_Model_reckon_98 : decode b_Model_reckon 98 = .ok (.iadd, 1) := by decide +kernel
theorem d_Model_reckon_99 : decode b_Model_reckon 99 = .ok (.iload_n 2, 1) := by decide +kernel
theorem d_Model_reckon_100 : decode b_Model_reckon 100 = .ok (.iload_n 3, 1) := by decide +kernel
theorem d_Model_reckon_101 : decode b_Model_reckon 101 = .ok (.ishr, 1) := by decide +kernel
theorem d_Model_reckon_102 : decode b_Model_reckon 102 = .ok (.iconst 1, 1) := by decide +kernel
theorem d_Model_reckon_103 : decode b_Model_reckon 103 = .ok (.iand, 1) := by decide +kernel
theorem d_Model_reckon_104 : decode b_Model_reckon 104 = .ok (.iconst 1, 1) := by decide +kernel
theorem d_Model_reckon_105 : decode b_Model_reckon 105 = .ok (.if_icmp .ne 9, 3) := by decide +kernel
theorem d_Model_reckon_108 : decode b_Model_reckon 108 = .ok (.ldc2_w 247, 3) := by decide +kernel
theorem d_Model_reckon_111 : decode b_Model_reckon 111 = .ok (.goto 4, 3) := by decide +kernel
theorem d_Model_reckon_114 : decode b_Model_reckon 114 = .ok (.lconst 0, 1) := by decide +kernel
theorem d_Model_reckon_115 : decode b_Model_reckon 115 = .ok (.lastore, 1) := by decide +kernel
theorem d_Model_reckon_116 : decode b_Model_reckon 116 = .ok (.iinc 3 1, 3) := by decide +kernel
theorem d_Model_reckon_119 : decode b_Model_reckon 119 = .ok (.goto (-57), 3) := by decide +kernel
theorem d_Model_reckon_122 : decode b_Model_reckon 122 = .ok (.iconst 0, 1) := by decide +kernel
theorem d_Model_reckon_123 : decode b_Model_reckon 123 = .ok (.istore_n 3, 1) := by decide +kernel
theorem d_Model_reckon_124 : decode b_Model_reckon 124 = .ok (.iload_n 3, 1) := by decide +kernel
theorem d_Model_reckon_125 : decode b_Model_reckon 125 = .ok (.aload_n 0, 1) := by decide +kernel
theorem d_Model_reckon_126 : decode b_Model_reckon 126 = .ok (.getfield 20, 3) := by decide +kernel
theorem d_Model_reckon_129 : decode b_Model_reckon 129 = .ok (.iconst 5, 1) := by decide +kernel
theorem d_Model_reckon_130 : decode b_Model_reckon 130 = .ok (.iload_n 1, 1) := by decide +kernel
theorem d_Model_reckon_131 : decode b_Model_reckon 131 = .ok (.imul, 1) := by decide +kernel
theorem d_Model_reckon_132 : decode b_Model_reckon 132 = .ok (.iconst 4, 1) := by decide +kernel
theorem d_Model_reckon_133 : decode b_Model_reckon 133 = .ok (.iadd, 1) := by decide +kernel
theorem d_Model_reckon_134 : decode b_Model_reckon 134 = .ok (.iaload, 1) := by decide +kernel
theorem d_Model_reckon_135 : decode b_Model_reckon 135 = .ok (.if_icmp .ge 74, 3) := by decide +kernel
theorem d_Model_reckon_138 : decode b_Model_reckon 138 = .ok (.sipush 150, 3) := by decide +kernel
theorem d_Model_reckon_141 : decode b_Model_reckon 141 = .ok (.iload_n 1, 1) := by decide +kernel
theorem d_Model_reckon_142 : decode b_Model_reckon 142 = .ok (.imul, 1) := by decide +kernel
theorem d_Model_reckon_143 : decode b_Model_reckon 143 = .ok (.aload_n 0, 1) := by decide +kernel
theorem d_Model_reckon_144 : decode b_Model_reckon 144 = .ok (.getfield 72, 3) := by decide +kernel
theorem d_Model_reckon_147 : decode b_Model_reckon 147 = .ok (.sipush 150, 3) := by decide +kernel
theorem d_Model_reckon_150 : decode b_Model_reckon 150 = .ok (.iload_n 1, 1) := by decide +kernel
theorem d_Model_reckon_151 : decode b_Model_reckon 151 = .ok (.imul, 1) := by decide +kernel
theorem d_Model_reckon_152 : decode b_Model_reckon 152 = .ok (.iload_n 3, 1) := by decide +kernel
theorem d_Model_reckon_153 : decode b_Model_reckon 153 = .ok (.iadd, 1) := by decide +kernel
theorem d_Model_reckon_154 : decode b_Model_reckon 154 = .ok (.iaload, 1) := by decide +kernel
theorem d_Model_reckon_155 : decode b_Model_reckon 155 = .ok (.iadd, 1) := by decide +kernel
theorem d_Model_reckon_156 : decode b_Model_reckon 156 = .ok (.istore 4, 2) := by decide +kernel
theorem d_Model_reckon_158 : decode b_Model_reckon 158 = .ok (.aload_n 0, 1) := by decide +kernel
theorem d_Model_reckon_159 : decode b_Model_reckon 159 = .ok (.getfield 85, 3) := by decide +kernel
theorem d_Model_reckon_162 : decode b_Model_reckon 162 = .ok (.sipush 201, 3) := by decide +kernel
theorem d_Model_reckon_165 : decode b_Model_reckon 165 = .ok (.iload_n 1, 1) := by decide +kernel
theorem d_Model_reckon_166 : decode b_Model_reckon 166 = .ok (.imul, 1) := by decide +kernel
theorem d_Model_reckon_167 : decode b_Model_reckon 167 = .ok (.aload_n 0, 1) := by decide +kernel
theorem d_Model_reckon_168 : decode b_Model_reckon 168 = .ok (.getfield 36, 3) := by decide +kernel
theorem d_Model_reckon_171 : decode b_Model_reckon 171 = .ok (.iload 4, 2) := by decide +kernel
theorem d_Model_reckon_173 : decode b_Model_reckon 173 = .ok (.iaload, 1) := by decide +kernel
theorem d_Model_reckon_174 : decode b_Model_reckon 174 = .ok (.iconst 2, 1) := by decide +kernel
theorem d_Model_reckon_175 : decode b_Model_reckon 175 = .ok (.idiv, 1) := by decide +kernel
theorem d_Model_reckon_176 : decode b_Model_reckon 176 = .ok (.iadd, 1) := by decide +kernel
theorem d_Model_reckon_177 : decode b_Model_reckon 177 = .ok (.aload_n 0, 1) := by decide +kernel
theorem d_Model_reckon_178 : decode b_Model_reckon 178 = .ok (.iload_n 1, 1) := by decide +kernel
theorem d_Model_reckon_179 : decode b_Model_reckon 179 = .ok (.aload_n 0, 1) := by decide +kernel
theorem d_Model_reckon_180 : decode b_Model_reckon 180 = .ok (.getfield 39, 3) := by decide +kernel
theorem d_Model_reckon_183 : decode b_Model_reckon 183 = .ok (.iload 4, 2) := by decide +kernel
theorem d_Model_reckon_185 : decode b_Model_reckon 185 = .ok (.iaload, 1) := by decide +kernel
theorem d_Model_reckon_186 : decode b_Model_reckon 186 = .ok (.invokevirtual 253, 3) := by decide +kernel
theorem d_Model_reckon_189 : decode b_Model_reckon 189 = .ok (.aload_n 0, 1) := by decide +kernel
theorem d_Model_reckon_190 : decode b_Model_reckon 190 = .ok (.iload_n 1, 1) := by decide +kernel
theorem d_Model_reckon_191 : decode b_Model_reckon 191 = .ok (.aload_n 0, 1) := by decide +kernel
theorem d_Model_reckon_192 : decode b_Model_reckon 192 = .ok (.getfield 42, 3) := by decide +kernel
theorem d_Model_reckon_195 : decode b_Model_reckon 195 = .ok (.iload 4, 2) := by decide +kernel
theorem d_Model_reckon_197 : decode b_Model_reckon 197 = .ok (.iaload, 1) := by decide +kernel
theorem d_Model_reckon_198 : decode b_Model_reckon 198 = .ok (.invokevirtual 253, 3) := by decide +kernel
theorem d_Model_reckon_201 : decode b_Model_reckon 201 = .ok (.land, 1) := by decide +kernel
theorem d_Model_reckon_202 : decode b_Model_reckon 202 = .ok (.lastore, 1) := by decide +kernel
theorem d_Model_reckon_203 : decode b_Model_reckon 203 = .ok (.iinc 3 1, 3) := by decide +kernel
theorem d_Model_reckon_206 : decode b_Model_reckon 206 = .ok (.goto (-82), 3) := by decide +kernel
theorem d_Model_reckon_209 : decode b_Model_reckon 209 = .ok (.return_, 1) := by decide +kernel
theorem d_Model_isLiteral_0 : decode b_Model_isLiteral 0 = .ok (.aload_n 0, 1) := by decide +kernel
theorem d_Model_isLiteral_1 : decode b_Model_isLiteral 1 = .ok (.iload_n 1, 1) := by decide +kernel
theorem d_Model_isLiteral_2 : decode b_Model_isLiteral 2 = .ok (.invokevirtual 234, 3) := by decide +kernel
theorem d_Model_isLiteral_5 : decode b_Model_isLiteral 5 = .ok (.ifCond .eq 49, 3) := by decide +kernel
theorem d_Model_isLiteral_8 : decode b_Model_isLiteral 8 = .ok (.iload_n 2, 1) := by decide +kernel
theorem d_Model_isLiteral_9 : decode b_Model_isLiteral 9 = .ok (.ifCond .lt 45, 3) := by decide +kernel
theorem d_Model_isLiteral_12 : decode b_Model_isLiteral 12 = .ok (.iload_n 2, 1) := by decide +kernel
theorem d_Model_isLiteral_13 : decode b_Model_isLiteral 13 = .ok (.iconst 2, 1) := by decide +kernel
theorem d_Model_isLiteral_14 : decode b_Model_isLiteral 14 = .ok (.aload_n 0, 1) := by decide +kernel
theorem d_Model_isLiteral_15 : decode b_Model_isLiteral 15 = .ok (.getfield 20, 3) := by decide +kernel
theorem d_Model_isLiteral_18 : decode b_Model_isLiteral 18 = .ok (.iconst 5, 1) := by decide +kernel
theorem d_Model_isLiteral_19 : decode b_Model_isLiteral 19 = .ok (.iload_n 1, 1) := by decide +kernel
theorem d_Model_isLiteral_20 : decode b_Model_isLiteral 20 = .ok (.imul, 1) := by decide +kernel
theorem d_Model_isLiteral_21 : decode b_Model_isLiteral 21 = .ok (.iaload, 1) := by decide +kernel
theorem d_Model_isLiteral_22 : decode b_Model_isLiteral 22 = .ok (.imul, 1) := by decide +kernel
theorem d_Model_isLiteral_23 : decode b_Model_isLiteral 23 = .ok (.iconst 1, 1) := by decide +kernel
theorem d_Model_isLiteral_24 : decode b_Model_isLiteral 24 = .ok (.iadd, 1) := by decide +kernel
theorem d_Model_isLiteral_25 : decode b_Model_isLiteral 25 = .ok (.if_icmp .gt 29, 3) := by decide +kernel
theorem d_Model_isLiteral_28 : decode b_Model_isLiteral 28 = .ok (.iload_n 2, 1) := by decide +kernel
theorem d_Model_isLiteral_29 : decode b_Model_isLiteral 29 = .ok (.iconst 2, 1) := by decide +kernel
theorem d_Model_isLiteral_30 : decode b_Model_isLiteral 30 = .ok (.if_icmp .lt 20, 3) := by decide +kernel
theorem d_Model_isLiteral_33 : decode b_Model_isLiteral 33 = .ok (.aload_n 0, 1) := by decide +kernel
theorem d_Model_isLiteral_34 : decode b_Model_isLiteral 34 = .ok (.getfield 45, 3) := by decide +kernel
theorem d_Model_isLiteral_37 : decode b_Model_isLiteral 37 = .ok (.sipush 201, 3) := by decide +kernel
theorem d_Model_isLiteral_40 : decode b_Model_isLiteral 40 = .ok (.iload_n 1, 1) := by decide +kernel
theorem d_Model_isLiteral_41 : decode b_Model_isLiteral 41 = .ok (.imul, 1) := by decide +kernel
theorem d_Model_isLiteral_42 : decode b_Model_isLiteral 42 = .ok (.iload_n 2, 1) := by decide +kernel
theorem d_Model_isLiteral_43 : decode b_Model_isLiteral 43 = .ok (.iconst 2, 1) := by decide +kernel
theorem d_Model_isLiteral_44 : decode b_Model_isLiteral 44 = .ok (.idiv, 1) := by decide +kernel
theorem d_Model_isLiteral_45 : decode b_Model_isLiteral 45 = .ok (.iadd, 1) := by decide +kernel
theorem d_Model_isLiteral_46 : decode b_Model_isLiteral 46 = .ok (.iaload, 1) := by decide +kernel
theorem d_Model_isLiteral_47 : decode b_Model_isLiteral 47 = .ok (.ifCond .eq 7, 3) := by decide +kernel
theorem d_Model_isLiteral_50 : decode b_Model_isLiteral 50 = .ok (.iconst 1, 1) := by decide +kernel
theorem d_Model_isLiteral_51 : decode b_Model_isLiteral 51 = .ok (.goto 4, 3) := by decide +kernel
theorem d_Model_isLiteral_54 : decode b_Model_isLiteral 54 = .ok (.iconst 0, 1) := by decide +kernel
theorem d_Model_isLiteral_55 : decode b_Model_isLiteral 55 = .ok (.ireturn, 1) := by decide +kernel
theorem d_Model_reset_0 : decode b_Model_reset 0 = .ok (.aload_n 0, 1) := by decide +kernel
theorem d_Model_reset_1 : decode b_Model_reset 1 = .ok (.iconst 0, 1) := by decide +kernel
theorem d_Model_reset_2 : decode b_Model_reset 2 = .ok (.putfield 127, 3) := by decide +kernel
theorem d_Model_reset_5 : decode b_Model_reset 5 = .ok (.aload_n 0, 1) := by decide +kernel
theorem d_Model_reset_6 : decode b_Model_reset 6 = .ok (.getfield 82, 3) := by decide +kernel
theorem d_Model_reset_9 : decode b_Model_reset 9 = .ok (.iconst 0, 1) := by decide +kernel
theorem d_Model_reset_10 : decode b_Model_reset 10 = .ok (.iconst 0, 1) := by decide +kernel
theorem d_Model_reset_11 : decode b_Model_reset 11 = .ok (.iastore, 1) := by decide +kernel
theorem d_Model_reset_12 : decode b_Model_reset 12 = .ok (.aload_n 0, 1) := by decide +kernel
theorem d_Model_reset_13 : decode b_Model_reset 13 = .ok (.getfield 82, 3) := by decide +kernel
theorem d_Model_reset_16 : decode b_Model_reset 16 = .ok (.iconst 1, 1) := by decide +kernel
theorem d_Model_reset_17 : decode b_Model_reset 17 = .ok (.iconst 0, 1) := by decide +kernel
theorem d_Model_reset_18 : decode b_Model_reset 18 = .ok (.iastore, 1) := by decide +kernel
theorem d_Model_reset_19 : decode b_Model_reset 19 = .ok (.return_, 1) := by decide +kernel
theorem d_Model_state_0 : decode b_Model_state 0 = .ok (.aload_n 0, 1) := by decide +kernel
theorem d_Model_state_1 : decode b_Model_state 1 = .ok (.iconst 0, 1) := by decide +kernel
theorem d_Model_state_2 : decode b_Model_state 2 = .ok (.putfield 127, 3) := by decide +kernel
theorem d_Model_state_5 : decode b_Model_state 5 = .ok (.aload_n 0, 1) := by decide +kernel
theorem d_Model_state_6 : decode b_Model_state 6 = .ok (.iload_n 1, 1) := by decide +kernel
theorem d_Model_state_7 : decode b_Model_state 7 = .ok (.invokevirtual 234, 3) := by decide +kernel
theorem d_Model_state_10 : decode b_Model_state 10 = .ok (.ifCond .eq 12, 3) := by decide +kernel
theorem d_Model_state_13 : decode b_Model_state 13 = .ok (.aload_n 0, 1) := by decide +kernel
theorem d_Model_state_14 : decode b_Model_state 14 = .ok (.getfield 82, 3) := by decide +kernel
theorem d_Model_state_17 : decode b_Model_state 17 = .ok (.iload_n 1, 1) := by decide +kernel
theorem d_Model_state_18 : decode b_Model_state 18 = .ok (.iaload, 1) := by decide +kernel
theorem d_Model_state_19 : decode b_Model_state 19 = .ok (.goto 4, 3) := by decide +kernel
theorem d_Model_state_22 : decode b_Model_state 22 = .ok (.iconst (-1), 1) := by decide +kernel
theorem d_Model_state_23 : decode b_Model_state 23 = .ok (.ireturn, 1) := by decide +kernel
theorem d_Model_value_0 : decode b_Model_value 0 = .ok (.aload_n 0, 1) := by decide +kernel
theorem d_Model_value_1 : decode b_Model_value 1 = .ok (.iconst 0, 1) := by decide +kernel
theorem d_Model_value_2 : decode b_Model_value 2 = .ok (.putfield 127, 3) := by decide +kernel
theorem d_Model_value_5 : decode b_Model_value 5 = .ok (.aload_n 0, 1) := by decide +kernel
theorem d_Model_value_6 : decode b_Model_value 6 = .ok (.iload_n 1, 1) := by decide +kernel
theorem d_Model_value_7 : decode b_Model_value 7 = .ok (.iload_n 2, 1) := by decide +kernel
theorem d_Model_value_8 : decode b_Model_value 8 = .ok (.invokevirtual 257, 3) := by decide +kernel
theorem d_Model_value_11 : decode b_Model_value 11 = .ok (.ifCond .ne 5, 3) := by decide +kernel
theorem d_Model_value_14 : decode b_Model_value 14 = .ok (.iconst (-1), 1) := by decide +kernel
theorem d_Model_value_15 : decode b_Model_value 15 = .ok (.ireturn, 1) := by decide +kernel
theorem d_Model_value_16 : decode b_Model_value 16 = .ok (.aload_n 0, 1) := by decide +kernel
theorem d_Model_value_17 : decode b_Model_value 17 = .ok (.iload_n 1, 1) := by decide +kernel
theorem d_Model_value_18 : decode b_Model_value 18 = .ok (.aload_n 0, 1) := by decide +kernel
theorem d_Model_value_19 : decode b_Model_value 19 = .ok (.getfield 82, 3) := by decide +kernel
theorem d_Model_value_22 : decode b_Model_value 22 = .ok (.iload_n 1, 1) := by decide +kernel
theorem d_Model_value_23 : decode b_Model_value 23 = .ok (.iaload, 1) := by decide +kernel
theorem d_Model_value_24 : decode b_Model_value 24 = .ok (.invokevirtual 261, 3) := by decide +kernel
theorem d_Model_value_27 : decode b_Model_value 27 = .ok (.aload_n 0, 1) := by decide +kernel
theorem d_Model_value_28 : decode b_Model_value 28 = .ok (.iload_n 1, 1) := by decide +kernel
theorem d_Model_value_29 : decode b_Model_value 29 = .ok (.iload_n 2, 1) := by decide +kernel
theorem d_Model_value_30 : decode b_Model_value 30 = .ok (.invokevirtual 253, 3) := by decide +kernel
theorem d_Model_value_33 : decode b_Model_value 33 = .ok (.iload_n 3, 1) := by decide +kernel
theorem d_Model_value_34 : decode b_Model_value 34 = .ok (.bipush 63, 2) := by decide +kernel
theorem d_Model_value_36 : decode b_Model_value 36 = .ok (.iand, 1) := by decide +kernel
theorem d_Model_value_37 : decode b_Model_value 37 = .ok (.lshr, 1) := by decide +kernel
theorem d_Model_value_38 : decode b_Model_value 38 = .ok (.lconst 1, 1) := by decide +kernel
theorem d_Model_value_39 : decode b_Model_value 39 = .ok (.land, 1) := by decide +kernel
theorem d_Model_value_40 : decode b_Model_value 40 = .ok (.l2i, 1) := by decide +kernel
theorem d_Model_value_41 : decode b_Model_value 41 = .ok (.ireturn, 1) := by decide +kernel
theorem d_Model_next_0 : decode b_Model_next 0 = .ok (.iconst 0, 1) := by decide +kernel
theorem d_Model_next_1 : decode b_Model_next 1 = .ok (.istore_n 3, 1) := by decide +kernel
theorem d_Model_next_2 : decode b_Model_next 2 = .ok (.iconst 0, 1) := by decide +kernel
theorem d_Model_next_3 : decode b_Model_next 3 = .ok (.istore 4, 2) := by decide +kernel
theorem d_Model_next_5 : decode b_Model_next 5 = .ok (.iload 4, 2) := by decide +kernel
theorem d_Model_next_7 : decode b_Model_next 7 = .ok (.aload_n 0, 1) := by decide +kernel
theorem d_Model_next_8 : decode b_Model_next 8 = .ok (.getfield 20, 3) := by decide +kernel
theorem d_Model_next_11 : decode b_Model_next 11 = .ok (.iconst 5, 1) := by decide +kernel
theorem d_Model_next_12 : decode b_Model_next 12 = .ok (.iload_n 1, 1) := by decide +kernel
theorem d_Model_next_13 : decode b_Model_next 13 = .ok (.imul, 1) := by decide +kernel
theorem d_Model_next_14 : decode b_Model_next 14 = .ok (.iconst 2, 1) := by decide +kernel
theorem d_Model_next_15 : decode b_Model_next 15 = .ok (.iadd, 1) := by decide +kernel
theorem d_Model_next_16 : decode b_Model_next 16 = .ok (.iaload, 1) := by decide +kernel
theorem d_Model_next_17 : decode b_Model_next 17 = .ok (.if_icmp .ge 37, 3) := by decide +kernel
theorem d_Model_next_20 : decode b_Model_next 20 = .ok (.iload_n 3, 1) := by decide +kernel
theorem d_Model_next_21 : decode b_Model_next 21 = .ok (.aload_n 0, 1) := by decide +kernel
theorem d_Model_next_22 : decode b_Model_next 22 = .ok (.iload_n 1, 1) := by decide +kernel
theorem d_Model_next_23 : decode b_Model_next 23 = .ok (.aload_n 0, 1) := by decide +kernel
theorem d_Model_next_24 : decode b_Model_next 24 = .ok (.getfield 30, 3) := by decide +kernel
theorem d_Model_next_27 : decode b_Model_next 27 = .ok (.bipush 7, 2) := by decide +kernel
theorem d_Model_next_29 : decode b_Model_next 29 = .ok (.iload_n 1, 1) := by decide +kernel
theorem d_Model_next_30 : decode b_Model_next 30 = .ok (.imul, 1) := by decide +kernel
theorem d_Model_next_31 : decode b_Model_next 31 = .ok (.iload 4, 2) := by decide +kernel
theorem d_Model_next_33 : decode b_Model_next 33 = .ok (.iadd, 1) := by decide +kernel
theorem d_Model_next_34 : decode b_Model_next 34 = .ok (.iaload, 1) := by decide +kernel
theorem d_Model_next_35 : decode b_Model_next 35 = .ok (.invokevirtual 253, 3) := by decide +kernel
theorem d_Model_next_38 : decode b_Model_next 38 = .ok (.iload_n 2, 1) := by decide +kernel
theorem d_Model_next_39 : decode b_Model_next 39 = .ok (.lshr, 1) := by decide +kernel
theorem d_Model_next_40 : decode b_Model_next 40 = .ok (.lconst 1, 1) := by decide +kernel
theorem d_Model_next_41 : decode b_Model_next 41 = .ok (.land, 1) := by decide +kernel
theorem d_Model_next_42 : decode b_Model_next 42 = .ok (.l2i, 1) := by decide +kernel
theorem d_Model_next_43 : decode b_Model_next 43 = .ok (.iload 4, 2) := by decide +kernel
theorem d_Model_next_45 : decode b_Model_next 45 = .ok (.ishl, 1) := by decide +kernel
theorem d_Model_next_46 : decode b_Model_next 46 = .ok (.ior, 1) := by decide +kernel
theorem d_Model_next_47 : decode b_Model_next 47 = .ok (.istore_n 3, 1) := by decide +kernel
theorem d_Model_next_48 : decode b_Model_next 48 = .ok (.iinc 4 1, 3) := by decide +kernel
theorem d_Model_next_51 : decode b_Model_next 51 = .ok (.goto (-46), 3) := by decide +kernel
theorem d_Model_next_54 : decode b_Model_next 54 = .ok (.iload_n 3, 1) := by decide +kernel
theorem d_Model_next_55 : decode b_Model_next 55 = .ok (.ireturn, 1) := by decide +kernel
theorem d_Model_step_0 : decode b_Model_step 0 = .ok (.aload_n 0, 1) := by decide +kernel
theorem d_Model_step_1 : decode b_Model_step 1 = .ok (.iconst 0, 1) := by decide +kernel
theorem d_Model_step_2 : decode b_Model_step 2 = .ok (.putfield 127, 3) := by decide +kernel
theorem d_Model_step_5 : decode b_Model_step 5 = .ok (.iconst 0, 1) := by decide +kernel
theorem d_Model_step_6 : decode b_Model_step 6 = .ok (.istore_n 2, 1) := by decide +kernel
theorem d_Model_step_7 : decode b_Model_step 7 = .ok (.iconst 0, 1) := by decide +kernel
theorem d_Model_step_8 : decode b_Model_step 8 = .ok (.istore_n 3, 1) := by decide +kernel
theorem d_Model_step_9 : decode b_Model_step 9 = .ok (.iload_n 3, 1) := by decide +kernel
theorem d_Model_step_10 : decode b_Model_step 10 = .ok (.iconst 2, 1) := by decide +kernel
theorem d_Model_step_11 : decode b_Model_step 11 = .ok (.if_icmp .ge 107, 3) := by decide +kernel
theorem d_Model_step_14 : decode b_Model_step 14 = .ok (.aload_n 0, 1) := by decide +kernel
theorem d_Model_step_15 : decode b_Model_step 15 = .ok (.getfield 79, 3) := by decide +kernel
theorem d_Model_step_18 : decode b_Model_step 18 = .ok (.iload_n 3, 1) := by decide +kernel
theorem d_Model_step_19 : decode b_Model_step 19 = .ok (.baload, 1) := by decide +kernel
theorem d_Model_step_20 : decode b_Model_step 20 = .ok (.ifCond .ne 6, 3) := by decide +kernel
theorem d_Model_step_23 : decode b_Model_step 23 = .ok (.goto 89, 3) := by decide +kernel
theorem d_Model_step_26 : decode b_Model_step 26 = .ok (.aload_n 0, 1) := by decide +kernel
theorem d_Model_step_27 : decode b_Model_step 27 = .ok (.iload_n 3, 1) := by decide +kernel
theorem d_Model_step_28 : decode b_Model_step 28 = .ok (.aload_n 0, 1) := by decide +kernel
theorem d_Model_step_29 : decode b_Model_step 29 = .ok (.getfield 82, 3) := by decide +kernel
theorem d_Model_step_32 : decode b_Model_step 32 = .ok (.iload_n 3, 1) := by decide +kernel
theorem d_Model_step_33 : decode b_Model_step 33 = .ok (.iaload, 1) := by decide +kernel
theorem d_Model_step_34 : decode b_Model_step 34 = .ok (.invokevirtual 261, 3) := by decide +kernel
theorem d_Model_step_37 : decode b_Model_step 37 = .ok (.iconst 0, 1) := by decide +kernel
theorem d_Model_step_38 : decode b_Model_step 38 = .ok (.istore 4, 2) := by decide +kernel
theorem d_Model_step_40 : decode b_Model_step 40 = .ok (.iload 4, 2) := by decide +kernel
theorem d_Model_step_42 : decode b_Model_step 42 = .ok (.aload_n 0, 1) := by decide +kernel
theorem d_Model_step_43 : decode b_Model_step 43 = .ok (.getfield 20, 3) := by decide +kernel
theorem d_Model_step_46 : decode b_Model_step 46 = .ok (.iconst 5, 1) := by decide +kernel
theorem d_Model_step_47 : decode b_Model_step 47 = .ok (.iload_n 3, 1) := by decide +kernel
theorem d_Model_step_48 : decode b_Model_step 48 = .ok (.imul, 1) := by decide +kernel
theorem d_Model_step_49 : decode b_Model_step 49 = .ok (.iconst 3, 1) := by decide +kernel
theorem d_Model_step_50 : decode b_Model_step 50 = .ok (.iadd, 1) := by decide +kernel
theorem d_Model_step_51 : decode b_Model_step 51 = .ok (.iaload, 1) := by decide +kernel
theorem d_Model_step_52 : decode b_Model_step 52 = .ok (.if_icmp .ge 45, 3) := by decide +kernel
theorem d_Model_step_55 : decode b_Model_step 55 = .ok (.iload_n 2, 1) := by decide +kernel
theorem d_Model_step_56 : decode b_Model_step 56 = .ok (.aload_n 0, 1) := by decide +kernel
theorem d_Model_step_57 : decode b_Model_step 57 = .ok (.iload_n 3, 1) := by decide +kernel
theorem d_Model_step_58 : decode b_Model_step 58 = .ok (.aload_n 0, 1) := by decide +kernel
theorem d_Model_step_59 : decode b_Model_step 59 = .ok (.getfield 33, 3) := by decide +kernel
theorem d_Model_step_62 : decode b_Model_step 62 = .ok (.bipush 8, 2) := by decide +kernel
theorem d_Model_step_64 : decode b_Model_step 64 = .ok (.iload_n 3, 1) := by decide +kernel
theorem d_Model_step_65 : decode b_Model_step 65 = .ok (.imul, 1) := by decide +kernel
theorem d_Model_step_66 : decode b_Model_step 66 = .ok (.iload 4, 2) := by decide +kernel
theorem d_Model_step_68 : decode b_Model_step 68 = .ok (.iadd, 1) := by decide +kernel
theorem d_Model_step_69 : decode b_Model_step 69 = .ok (.iaload, 1) := by decide +kernel
theorem d_Model_step_70 : decode b_Model_step 70 = .ok (.invokevirtual 253, 3) := by decide +kernel
theorem d_Model_step_73 : decode b_Model_step 73 = .ok (.iload_n 1, 1) := by decide +kernel
theorem d_Model_step_74 : decode b_Model_step 74 = .ok (.bipush 63, 2) := by decide +kernel
theorem d_Model_step_76 : decode b_Model_step 76 = .ok (.iand, 1) := by decide +kernel
theorem d_Model_step_77 : decode b_Model_step 77 = .ok (.lshr, 1) := by decide +kernel
theorem d_Model_step_78 : decode b_Model_step 78 = .ok (.lconst 1, 1) := by decide +kernel
theorem d_Model_step_79 : decode b_Model_step 79 = .ok (.land, 1) := by decide +kernel
theorem d_Model_step_80 : decode b_Model_step 80 = .ok (.l2i, 1) := by decide +kernel
theorem d_Model_step_81 : decode b_Model_step 81 = .ok (.bipush 8, 2) := by decide +kernel
theorem d_Model_step_83 : decode b_Model_step 83 = .ok (.iload_n 3, 1) := by decide +kernel
theorem d_Model_step_84 : decode b_Model_step 84 = .ok (.imul, 1) := by decide +kernel
theorem d_Model_step_85 : decode b_Model_step 85 = .ok (.iload 4, 2) := by decide +kernel
theorem d_Model_step_87 : decode b_Model_step 87 = .ok (.iadd, 1) := by decide +kernel
theorem d_Model_step_88 : decode b_Model_step 88 = .ok (.ishl, 1) := by decide +kernel
theorem d_Model_step_89 : decode b_Model_step 89 = .ok (.ior, 1) := by decide +kernel
theorem d_Model_step_90 : decode b_Model_step 90 = .ok (.istore_n 2, 1) := by decide +kernel
theorem d_Model_step_91 : decode b_Model_step 91 = .ok (.iinc 4 1, 3) := by decide +kernel
theorem d_Model_step_94 : decode b_Model_step 94 = .ok (.goto (-54), 3) := by decide +kernel
theorem d_Model_step_97 : decode b_Model_step 97 = .ok (.aload_n 0, 1) := by decide +kernel
theorem d_Model_step_98 : decode b_Model_step 98 = .ok (.getfield 82, 3) := by decide +kernel
theorem d_Model_step_101 : decode b_Model_step 101 = .ok (.iload_n 3, 1) := by decide +kernel
theorem d_Model_step_102 : decode b_Model_step 102 = .ok (.aload_n 0, 1) := by decide +kernel
theorem d_Model_step_103 : decode b_Model_step 103 = .ok (.iload_n 3, 1) := by decide +kernel
theorem d_Model_step_104 : decode b_Model_step 104 = .ok (.iload_n 1, 1) := by decide +kernel
theorem d_Model_step_105 : decode b_Model_step 105 = .ok (.bipush 63, 2) := by decide +kernel
theorem d_Model_step_107 : decode b_Model_step 107 = .ok (.iand, 1) := by decide +kernel
theorem d_Model_step_108 : decode b_Model_step 108 = .ok (.invokevirtual 264, 3) := by decide +kernel
theorem d_Model_step_111 : decode b_Model_step 111 = .ok (.iastore, 1) := by decide +kernel
theorem d_Model_step_112 : decode b_Model_step 112 = .ok (.iinc 3 1, 3) := by decide +kernel
theorem d_Model_step_115 : decode b_Model_step 115 = .ok (.goto (-106), 3) := by decide +kernel
theorem d_Model_step_118 : decode b_Model_step 118 = .ok (.iload_n 2, 1) := by decide +kernel
theorem d_Model_step_119 : decode b_Model_step 119 = .ok (.ireturn, 1) := by decide +kernel
