theorem d_Judge_isLiteral_0 : decode b_Judge_isLiteral 0 = .ok (.aload_n 0, 1) := by decide +kernel
theorem d_Judge_isLiteral_1 : decode b_Judge_isLiteral 1 = .ok (.iload_n 1, 1) := by decide +kernel
theorem d_Judge_isLiteral_2 : decode b_Judge_isLiteral 2 = .ok (.invokevirtual 96, 3) := by decide +kernel
theorem d_Judge_isLiteral_5 : decode b_Judge_isLiteral 5 = .ok (.ifCond .eq 20, 3) := by decide +kernel
theorem d_Judge_isLiteral_8 : decode b_Judge_isLiteral 8 = .ok (.aload_n 0, 1) := by decide +kernel
theorem d_Judge_isLiteral_9 : decode b_Judge_isLiteral 9 = .ok (.getfield 27, 3) := by decide +kernel
theorem d_Judge_isLiteral_12 : decode b_Judge_isLiteral 12 = .ok (.iload_n 1, 1) := by decide +kernel
theorem d_Judge_isLiteral_13 : decode b_Judge_isLiteral 13 = .ok (.aaload, 1) := by decide +kernel
theorem d_Judge_isLiteral_14 : decode b_Judge_isLiteral 14 = .ok (.iload_n 2, 1) := by decide +kernel
theorem d_Judge_isLiteral_15 : decode b_Judge_isLiteral 15 = .ok (.invokevirtual 184, 3) := by decide +kernel
theorem d_Judge_isLiteral_18 : decode b_Judge_isLiteral 18 = .ok (.ifCond .eq 7, 3) := by decide +kernel
theorem d_Judge_isLiteral_21 : decode b_Judge_isLiteral 21 = .ok (.iconst 1, 1) := by decide +kernel
theorem d_Judge_isLiteral_22 : decode b_Judge_isLiteral 22 = .ok (.goto 4, 3) := by decide +kernel
theorem d_Judge_isLiteral_25 : decode b_Judge_isLiteral 25 = .ok (.iconst 0, 1) := by decide +kernel
theorem d_Judge_isLiteral_26 : decode b_Judge_isLiteral 26 = .ok (.ireturn, 1) := by decide +kernel
theorem d_Player_takeVector_0 : decode b_Player_takeVector 0 = .ok (.iconst 0, 1) := by decide +kernel
theorem d_Player_takeVector_1 : decode b_Player_takeVector 1 = .ok (.istore_n 2, 1) := by decide +kernel
theorem d_Player_takeVector_2 : decode b_Player_takeVector 2 = .ok (.iload_n 2, 1) := by decide +kernel
theorem d_Player_takeVector_3 : decode b_Player_takeVector 3 = .ok (.iconst 5, 1) := by decide +kernel
theorem d_Player_takeVector_4 : decode b_Player_takeVector 4 = .ok (.if_icmp .ge 21, 3) := by decide +kernel
theorem d_Player_takeVector_7 : decode b_Player_takeVector 7 = .ok (.aload_n 0, 1) := by decide +kernel
theorem d_Player_takeVector_8 : decode b_Player_takeVector 8 = .ok (.getfield 15, 3) := by decide +kernel
theorem d_Player_takeVector_11 : decode b_Player_takeVector 11 = .ok (.iload_n 2, 1) := by decide +kernel
theorem d_Player_takeVector_12 : decode b_Player_takeVector 12 = .ok (.iload_n 1, 1) := by decide +kernel
theorem d_Player_takeVector_13 : decode b_Player_takeVector 13 = .ok (.iload_n 2, 1) := by decide +kernel
theorem d_Player_takeVector_14 : decode b_Player_takeVector 14 = .ok (.ishr, 1) := by decide +kernel
theorem d_Player_takeVector_15 : decode b_Player_takeVector 15 = .ok (.iconst 1, 1) := by decide +kernel
theorem d_Player_takeVector_16 : decode b_Player_takeVector 16 = .ok (.iand, 1) := by decide +kernel
theorem d_Player_takeVector_17 : decode b_Player_takeVector 17 = .ok (.ineg, 1) := by decide +kernel
theorem d_Player_takeVector_18 : decode b_Player_takeVector 18 = .ok (.iastore, 1) := by decide +kernel
theorem d_Player_takeVector_19 : decode b_Player_takeVector 19 = .ok (.iinc 2 1, 3) := by decide +kernel
theorem d_Player_takeVector_22 : decode b_Player_takeVector 22 = .ok (.goto (-20), 3) := by decide +kernel
theorem d_Player_takeVector_25 : decode b_Player_takeVector 25 = .ok (.return_, 1) := by decide +kernel
theorem d_Circuit_word_0 : decode b_Circuit_word 0 = .ok (.aload_n 0, 1) := by decide +kernel
theorem d_Circuit_word_1 : decode b_Circuit_word 1 = .ok (.iload_n 1, 1) := by decide +kernel
theorem d_Circuit_word_2 : decode b_Circuit_word 2 = .ok (.iload_n 2, 1) := by decide +kernel
theorem d_Circuit_word_3 : decode b_Circuit_word 3 = .ok (.iconst 1, 1) := by decide +kernel
theorem d_Circuit_word_4 : decode b_Circuit_word 4 = .ok (.ishr, 1) := by decide +kernel
theorem d_Circuit_word_5 : decode b_Circuit_word 5 = .ok (.iadd, 1) := by decide +kernel
theorem d_Circuit_word_6 : decode b_Circuit_word 6 = .ok (.iaload, 1) := by decide +kernel
theorem d_Circuit_word_7 : decode b_Circuit_word 7 = .ok (.iload_n 2, 1) := by decide +kernel
theorem d_Circuit_word_8 : decode b_Circuit_word 8 = .ok (.iconst 1, 1) := by decide +kernel
theorem d_Circuit_word_9 : decode b_Circuit_word 9 = .ok (.iand, 1) := by decide +kernel
theorem d_Circuit_word_10 : decode b_Circuit_word 10 = .ok (.ineg, 1) := by decide +kernel
theorem d_Circuit_word_11 : decode b_Circuit_word 11 = .ok (.ixor, 1) := by decide +kernel
theorem d_Circuit_word_12 : decode b_Circuit_word 12 = .ok (.ireturn, 1) := by decide +kernel
theorem d_Circuit_settle_0 : decode b_Circuit_settle 0 = .ok (.aload_n 3, 1) := by decide +kernel
theorem d_Circuit_settle_1 : decode b_Circuit_settle 1 = .ok (.iload 4, 2) := by decide +kernel
theorem d_Circuit_settle_3 : decode b_Circuit_settle 3 = .ok (.iconst 0, 1) := by decide +kernel
theorem d_Circuit_settle_4 : decode b_Circuit_settle 4 = .ok (.iastore, 1) := by decide +kernel
theorem d_Circuit_settle_5 : decode b_Circuit_settle 5 = .ok (.iconst 0, 1) := by decide +kernel
theorem d_Circuit_settle_6 : decode b_Circuit_settle 6 = .ok (.istore 5, 2) := by decide +kernel
theorem d_Circuit_settle_8 : decode b_Circuit_settle 8 = .ok (.iload 5, 2) := by decide +kernel
theorem d_Circuit_settle_10 : decode b_Circuit_settle 10 = .ok (.aload_n 0, 1) := by decide +kernel
theorem d_Circuit_settle_11 : decode b_Circuit_settle 11 = .ok (.getfield 56, 3) := by decide +kernel
theorem d_Circuit_settle_14 : decode b_Circuit_settle 14 = .ok (.if_icmp .ge 25, 3) := by decide +kernel
theorem d_Circuit_settle_17 : decode b_Circuit_settle 17 = .ok (.aload_n 3, 1) := by decide +kernel
theorem d_Circuit_settle_18 : decode b_Circuit_settle 18 = .ok (.iload 4, 2) := by decide +kernel
theorem d_Circuit_settle_20 : decode b_Circuit_settle 20 = .ok (.aload_n 0, 1) := by decide +kernel
theorem d_Circuit_settle_21 : decode b_Circuit_settle 21 = .ok (.getfield 22, 3) := by decide +kernel
theorem d_Circuit_settle_24 : decode b_Circuit_settle 24 = .ok (.iload 5, 2) := by decide +kernel
theorem d_Circuit_settle_26 : decode b_Circuit_settle 26 = .ok (.iaload, 1) := by decide +kernel
theorem d_Circuit_settle_27 : decode b_Circuit_settle 27 = .ok (.iadd, 1) := by decide +kernel
theorem d_Circuit_settle_28 : decode b_Circuit_settle 28 = .ok (.aload_n 2, 1) := by decide +kernel
theorem d_Circuit_settle_29 : decode b_Circuit_settle 29 = .ok (.iload 5, 2) := by decide +kernel
theorem d_Circuit_settle_31 : decode b_Circuit_settle 31 = .ok (.iaload, 1) := by decide +kernel
theorem d_Circuit_settle_32 : decode b_Circuit_settle 32 = .ok (.iastore, 1) := by decide +kernel
theorem d_Circuit_settle_33 : decode b_Circuit_settle 33 = .ok (.iinc 5 1, 3) := by decide +kernel
theorem d_Circuit_settle_36 : decode b_Circuit_settle 36 = .ok (.goto (-28), 3) := by decide +kernel
theorem d_Circuit_settle_39 : decode b_Circuit_settle 39 = .ok (.iconst 0, 1) := by decide +kernel
theorem d_Circuit_settle_40 : decode b_Circuit_settle 40 = .ok (.istore 5, 2) := by decide +kernel
theorem d_Circuit_settle_42 : decode b_Circuit_settle 42 = .ok (.iload 5, 2) := by decide +kernel
theorem d_Circuit_settle_44 : decode b_Circuit_settle 44 = .ok (.aload_n 0, 1) := by decide +kernel
theorem d_Circuit_settle_45 : decode b_Circuit_settle 45 = .ok (.getfield 59, 3) := by decide +kernel
theorem d_Circuit_settle_48 : decode b_Circuit_settle 48 = .ok (.if_icmp .ge 28, 3) := by decide +kernel
theorem d_Circuit_settle_51 : decode b_Circuit_settle 51 = .ok (.aload_n 3, 1) := by decide +kernel
theorem d_Circuit_settle_52 : decode b_Circuit_settle 52 = .ok (.iload 4, 2) := by decide +kernel
theorem d_Circuit_settle_54 : decode b_Circuit_settle 54 = .ok (.aload_n 0, 1) := by decide +kernel
theorem d_Circuit_settle_55 : decode b_Circuit_settle 55 = .ok (.getfield 25, 3) := by decide +kernel
theorem d_Circuit_settle_58 : decode b_Circuit_settle 58 = .ok (.iload 5, 2) := by decide +kernel
theorem d_Circuit_settle_60 : decode b_Circuit_settle 60 = .ok (.iaload, 1) := by decide +kernel
theorem d_Circuit_settle_61 : decode b_Circuit_settle 61 = .ok (.iadd, 1) := by decide +kernel
theorem d_Circuit_settle_62 : decode b_Circuit_settle 62 = .ok (.iload_n 1, 1) := by decide +kernel
theorem d_Circuit_settle_63 : decode b_Circuit_settle 63 = .ok (.iload 5, 2) := by decide +kernel
theorem d_Circuit_settle_65 : decode b_Circuit_settle 65 = .ok (.ishr, 1) := by decide +kernel
theorem d_Circuit_settle_66 : decode b_Circuit_settle 66 = .ok (.iconst 1, 1) := by decide +kernel
theorem d_Circuit_settle_67 : decode b_Circuit_settle 67 = .ok (.iand, 1) := by decide +kernel
theorem d_Circuit_settle_68 : decode b_Circuit_settle 68 = .ok (.ineg, 1) := by decide +kernel
theorem d_Circuit_settle_69 : decode b_Circuit_settle 69 = .ok (.iastore, 1) := by decide +kernel
theorem d_Circuit_settle_70 : decode b_Circuit_settle 70 = .ok (.iinc 5 1, 3) := by decide +kernel
theorem d_Circuit_settle_73 : decode b_Circuit_settle 73 = .ok (.goto (-31), 3) := by decide +kernel
theorem d_Circuit_settle_76 : decode b_Circuit_settle 76 = .ok (.iconst 0, 1) := by decide +kernel
theorem d_Circuit_settle_77 : decode b_Circuit_settle 77 = .ok (.istore 5, 2) := by decide +kernel
theorem d_Circuit_settle_79 : decode b_Circuit_settle 79 = .ok (.iload 5, 2) := by decide +kernel
theorem d_Circuit_settle_81 : decode b_Circuit_settle 81 = .ok (.aload_n 0, 1) := by decide +kernel
theorem d_Circuit_settle_82 : decode b_Circuit_settle 82 = .ok (.getfield 65, 3) := by decide +kernel
theorem d_Circuit_settle_85 : decode b_Circuit_settle 85 = .ok (.if_icmp .ge 52, 3) := by decide +kernel
theorem d_Circuit_settle_88 : decode b_Circuit_settle 88 = .ok (.aload_n 0, 1) := by decide +kernel
theorem d_Circuit_settle_89 : decode b_Circuit_settle 89 = .ok (.getfield 34, 3) := by decide +kernel
theorem d_Circuit_settle_92 : decode b_Circuit_settle 92 = .ok (.iload 5, 2) := by decide +kernel
theorem d_Circuit_settle_94 : decode b_Circuit_settle 94 = .ok (.iaload, 1) := by decide +kernel
theorem d_Circuit_settle_95 : decode b_Circuit_settle 95 = .ok (.istore 6, 2) := by decide +kernel
theorem d_Circuit_settle_97 : decode b_Circuit_settle 97 = .ok (.aload_n 3, 1) := by decide +kernel
theorem d_Circuit_settle_98 : decode b_Circuit_settle 98 = .ok (.iload 4, 2) := by decide +kernel
theorem d_Circuit_settle_100 : decode b_Circuit_settle 100 = .ok (.iload 6, 2) := by decide +kernel
theorem d_Circuit_settle_102 : decode b_Circuit_settle 102 = .ok (.iadd, 1) := by decide +kernel
theorem d_Circuit_settle_103 : decode b_Circuit_settle 103 = .ok (.aload_n 3, 1) := by decide +kernel
theorem d_Circuit_settle_104 : decode b_Circuit_settle 104 = .ok (.iload 4, 2) := by decide +kernel
theorem d_Circuit_settle_106 : decode b_Circuit_settle 106 = .ok (.aload_n 0, 1) := by decide +kernel
theorem d_Circuit_settle_107 : decode b_Circuit_settle 107 = .ok (.getfield 15, 3) := by decide +kernel
theorem d_Circuit_settle_110 : decode b_Circuit_settle 110 = .ok (.iload 6, 2) := by decide +kernel
theorem d_Circuit_settle_112 : decode b_Circuit_settle 112 = .ok (.iaload, 1) := by decide +kernel
theorem d_Circuit_settle_113 : decode b_Circuit_settle 113 = .ok (.invokestatic 79, 3) := by decide +kernel
theorem d_Circuit_settle_116 : decode b_Circuit_settle 116 = .ok (.aload_n 3, 1) := by decide +kernel
theorem d_Circuit_settle_117 : decode b_Circuit_settle 117 = .ok (.iload 4, 2) := by decide +kernel
theorem d_Circuit_settle_119 : decode b_Circuit_settle 119 = .ok (.aload_n 0, 1) := by decide +kernel
theorem d_Circuit_settle_120 : decode b_Circuit_settle 120 = .ok (.getfield 19, 3) := by decide +kernel
theorem d_Circuit_settle_123 : decode b_Circuit_settle 123 = .ok (.iload 6, 2) := by decide +kernel
theorem d_Circuit_settle_125 : decode b_Circuit_settle 125 = .ok (.iaload, 1) := by decide +kernel
theorem d_Circuit_settle_126 : decode b_Circuit_settle 126 = .ok (.invokestatic 79, 3) := by decide +kernel
theorem d_Circuit_settle_129 : decode b_Circuit_settle 129 = .ok (.iand, 1) := by decide +kernel
theorem d_Circuit_settle_130 : decode b_Circuit_settle 130 = .ok (.iastore, 1) := by decide +kernel
theorem d_Circuit_settle_131 : decode b_Circuit_settle 131 = .ok (.iinc 5 1, 3) := by decide +kernel
theorem d_Circuit_settle_134 : decode b_Circuit_settle 134 = .ok (.goto (-55), 3) := by decide +kernel
theorem d_Circuit_settle_137 : decode b_Circuit_settle 137 = .ok (.return_, 1) := by decide +kernel
theorem d_Player_look_0 : decode b_Player_look 0 = .ok (.aload_n 0, 1) := by decide +kernel
theorem d_Player_look_1 : decode b_Player_look 1 = .ok (.iload_n 3, 1) := by decide +kernel
theorem d_Player_look_2 : decode b_Player_look 2 = .ok (.invokevirtual 31, 3) := by decide +kernel
theorem d_Player_look_5 : decode b_Player_look 5 = .ok (.aload_n 0, 1) := by decide +kernel
theorem d_Player_look_6 : decode b_Player_look 6 = .ok (.getfield 21, 3) := by decide +kernel
theorem d_Player_look_9 : decode b_Player_look 9 = .ok (.iload_n 1, 1) := by decide +kernel
theorem d_Player_look_10 : decode b_Player_look 10 = .ok (.aaload, 1) := by decide +kernel
theorem d_Player_look_11 : decode b_Player_look 11 = .ok (.aload_n 0, 1) := by decide +kernel
theorem d_Player_look_12 : decode b_Player_look 12 = .ok (.getfield 9, 3) := by decide +kernel
theorem d_Player_look_15 : decode b_Player_look 15 = .ok (.iload_n 1, 1) := by decide +kernel
theorem d_Player_look_16 : decode b_Player_look 16 = .ok (.iaload, 1) := by decide +kernel
theorem d_Player_look_17 : decode b_Player_look 17 = .ok (.aload_n 0, 1) := by decide +kernel
theorem d_Player_look_18 : decode b_Player_look 18 = .ok (.getfield 15, 3) := by decide +kernel
theorem d_Player_look_21 : decode b_Player_look 21 = .ok (.aload_n 0, 1) := by decide +kernel
theorem d_Player_look_22 : decode b_Player_look 22 = .ok (.getfield 18, 3) := by decide +kernel
theorem d_Player_look_25 : decode b_Player_look 25 = .ok (.iconst 0, 1) := by decide +kernel
theorem d_Player_look_26 : decode b_Player_look 26 = .ok (.invokevirtual 35, 3) := by decide +kernel
theorem d_Player_look_29 : decode b_Player_look 29 = .ok (.aload_n 0, 1) := by decide +kernel
theorem d_Player_look_30 : decode b_Player_look 30 = .ok (.getfield 18, 3) := by decide +kernel
theorem d_Player_look_33 : decode b_Player_look 33 = .ok (.iconst 0, 1) := by decide +kernel
theorem d_Player_look_34 : decode b_Player_look 34 = .ok (.iload_n 2, 1) := by decide +kernel
theorem d_Player_look_35 : decode b_Player_look 35 = .ok (.invokestatic 41, 3) := by decide +kernel
theorem d_Player_look_38 : decode b_Player_look 38 = .ok (.iconst 1, 1) := by decide +kernel
theorem d_Player_look_39 : decode b_Player_look 39 = .ok (.iand, 1) := by decide +kernel
theorem d_Player_look_40 : decode b_Player_look 40 = .ok (.ireturn, 1) := by decide +kernel
theorem d_Judge_value_0 : decode b_Judge_value 0 = .ok (.aload_n 0, 1) := by decide +kernel
theorem d_Judge_value_1 : decode b_Judge_value 1 = .ok (.iload_n 1, 1) := by decide +kernel
theorem d_Judge_value_2 : decode b_Judge_value 2 = .ok (.iload_n 2, 1) := by decide +kernel
theorem d_Judge_value_3 : decode b_Judge_value 3 = .ok (.invokevirtual 110, 3) := by decide +kernel
theorem d_Judge_value_6 : decode b_Judge_value 6 = .ok (.ifCond .eq 16, 3) := by decide +kernel
theorem d_Judge_value_9 : decode b_Judge_value 9 = .ok (.aload_n 0, 1) := by decide +kernel
theorem d_Judge_value_10 : decode b_Judge_value 10 = .ok (.getfield 37, 3) := by decide +kernel
theorem d_Judge_value_13 : decode b_Judge_value 13 = .ok (.iload_n 1, 1) := by decide +kernel
theorem d_Judge_value_14 : decode b_Judge_value 14 = .ok (.iload_n 2, 1) := by decide +kernel
theorem d_Judge_value_15 : decode b_Judge_value 15 = .ok (.iload_n 3, 1) := by decide +kernel
theorem d_Judge_value_16 : decode b_Judge_value 16 = .ok (.invokevirtual 114, 3) := by decide +kernel
theorem d_Judge_value_19 : decode b_Judge_value 19 = .ok (.goto 4, 3) := by decide +kernel
theorem d_Judge_value_22 : decode b_Judge_value 22 = .ok (.iconst (-1), 1) := by decide +kernel
theorem d_Judge_value_23 : decode b_Judge_value 23 = .ok (.ireturn, 1) := by decide +kernel
theorem d_Player_gather_0 : decode b_Player_gather 0 = .ok (.iconst 0, 1) := by decide +kernel
theorem d_Player_gather_1 : decode b_Player_gather 1 = .ok (.istore_n 3, 1) := by decide +kernel
theorem d_Player_gather_2 : decode b_Player_gather 2 = .ok (.iconst 0, 1) := by decide +kernel
theorem d_Player_gather_3 : decode b_Player_gather 3 = .ok (.istore 4, 2) := by decide +kernel
theorem d_Player_gather_5 : decode b_Player_gather 5 = .ok (.iload 4, 2) := by decide +kernel
theorem d_Player_gather_7 : decode b_Player_gather 7 = .ok (.iload_n 2, 1) := by decide +kernel
theorem d_Player_gather_8 : decode b_Player_gather 8 = .ok (.if_icmp .ge 29, 3) := by decide +kernel
theorem d_Player_gather_11 : decode b_Player_gather 11 = .ok (.iload_n 3, 1) := by decide +kernel
theorem d_Player_gather_12 : decode b_Player_gather 12 = .ok (.aload_n 0, 1) := by decide +kernel
theorem d_Player_gather_13 : decode b_Player_gather 13 = .ok (.getfield 18, 3) := by decide +kernel
theorem d_Player_gather_16 : decode b_Player_gather 16 = .ok (.iconst 0, 1) := by decide +kernel
theorem d_Player_gather_17 : decode b_Player_gather 17 = .ok (.aload_n 1, 1) := by decide +kernel
theorem d_Player_gather_18 : decode b_Player_gather 18 = .ok (.iload 4, 2) := by decide +kernel
theorem d_Player_gather_20 : decode b_Player_gather 20 = .ok (.iaload, 1) := by decide +kernel
theorem d_Player_gather_21 : decode b_Player_gather 21 = .ok (.invokestatic 41, 3) := by decide +kernel
theorem d_Player_gather_24 : decode b_Player_gather 24 = .ok (.iconst 1, 1) := by decide +kernel
theorem d_Player_gather_25 : decode b_Player_gather 25 = .ok (.iand, 1) := by decide +kernel
theorem d_Player_gather_26 : decode b_Player_gather 26 = .ok (.iload 4, 2) := by decide +kernel
theorem d_Player_gather_28 : decode b_Player_gather 28 = .ok (.ishl, 1) := by decide +kernel
theorem d_Player_gather_29 : decode b_Player_gather 29 = .ok (.ior, 1) := by decide +kernel
theorem d_Player_gather_30 : decode b_Player_gather 30 = .ok (.istore_n 3, 1) := by decide +kernel
theorem d_Player_gather_31 : decode b_Player_gather 31 = .ok (.iinc 4 1, 3) := by decide +kernel
theorem d_Player_gather_34 : decode b_Player_gather 34 = .ok (.goto (-29), 3) := by decide +kernel
theorem d_Player_gather_37 : decode b_Player_gather 37 = .ok (.iload_n 3, 1) := by decide +kernel
theorem d_Player_gather_38 : decode b_Player_gather 38 = .ok (.ireturn, 1) := by decide +kernel
theorem d_Player_play_0 : decode b_Player_play 0 = .ok (.aload_n 0, 1) := by decide +kernel
theorem d_Player_play_1 : decode b_Player_play 1 = .ok (.iload_n 1, 1) := by decide +kernel
theorem d_Player_play_2 : decode b_Player_play 2 = .ok (.invokevirtual 31, 3) := by decide +kernel
theorem d_Player_play_5 : decode b_Player_play 5 = .ok (.iconst 0, 1) := by decide +kernel
theorem d_Player_play_6 : decode b_Player_play 6 = .ok (.istore_n 2, 1) := by decide +kernel
theorem d_Player_play_7 : decode b_Player_play 7 = .ok (.iconst 0, 1) := by decide +kernel
theorem d_Player_play_8 : decode b_Player_play 8 = .ok (.istore_n 3, 1) := by decide +kernel
theorem d_Player_play_9 : decode b_Player_play 9 = .ok (.iload_n 3, 1) := by decide +kernel
theorem d_Player_play_10 : decode b_Player_play 10 = .ok (.iconst 2, 1) := by decide +kernel
theorem d_Player_play_11 : decode b_Player_play 11 = .ok (.if_icmp .ge 103, 3) := by decide +kernel
theorem d_Player_play_14 : decode b_Player_play 14 = .ok (.aload_n 0, 1) := by decide +kernel
theorem d_Player_play_15 : decode b_Player_play 15 = .ok (.getfield 21, 3) := by decide +kernel
theorem d_Player_play_18 : decode b_Player_play 18 = .ok (.iload_n 3, 1) := by decide +kernel
theorem d_Player_play_19 : decode b_Player_play 19 = .ok (.aaload, 1) := by decide +kernel
theorem d_Player_play_20 : decode b_Player_play 20 = .ok (.getfield 45, 3) := by decide +kernel
theorem d_Player_play_23 : decode b_Player_play 23 = .ok (.ifCond .eq 85, 3) := by decide +kernel
theorem d_Player_play_26 : decode b_Player_play 26 = .ok (.aload_n 0, 1) := by decide +kernel
theorem d_Player_play_27 : decode b_Player_play 27 = .ok (.getfield 21, 3) := by decide +kernel
theorem d_Player_play_30 : decode b_Player_play 30 = .ok (.iload_n 3, 1) := by decide +kernel
theorem d_Player_play_31 : decode b_Player_play 31 = .ok (.aaload, 1) := by decide +kernel
theorem d_Player_play_32 : decode b_Player_play 32 = .ok (.aload_n 0, 1) := by decide +kernel
theorem d_Player_play_33 : decode b_Player_play 33 = .ok (.getfield 9, 3) := by decide +kernel
theorem d_Player_play_36 : decode b_Player_play 36 = .ok (.iload_n 3, 1) := by decide +kernel
theorem d_Player_play_37 : decode b_Player_play 37 = .ok (.iaload, 1) := by decide +kernel
theorem d_Player_play_38 : decode b_Player_play 38 = .ok (.aload_n 0, 1) := by decide +kernel
theorem d_Player_play_39 : decode b_Player_play 39 = .ok (.getfield 15, 3) := by decide +kernel
theorem d_Player_play_42 : decode b_Player_play 42 = .ok (.aload_n 0, 1) := by decide +kernel
theorem d_Player_play_43 : decode b_Player_play 43 = .ok (.getfield 18, 3) := by decide +kernel
theorem d_Player_play_46 : decode b_Player_play 46 = .ok (.iconst 0, 1) := by decide +kernel
theorem d_Player_play_47 : decode b_Player_play 47 = .ok (.invokevirtual 35, 3) := by decide +kernel
theorem d_Player_play_50 : decode b_Player_play 50 = .ok (.iload_n 2, 1) := by decide +kernel
theorem d_Player_play_51 : decode b_Player_play 51 = .ok (.aload_n 0, 1) := by decide +kernel
theorem d_Player_play_52 : decode b_Player_play 52 = .ok (.aload_n 0, 1) := by decide +kernel
theorem d_Player_play_53 : decode b_Player_play 53 = .ok (.getfield 21, 3) := by decide +kernel
theorem d_Player_play_56 : decode b_Player_play 56 = .ok (.iload_n 3, 1) := by decide +kernel
theorem d_Player_play_57 : decode b_Player_play 57 = .ok (.aaload, 1) := by decide +kernel
theorem d_Player_play_58 : decode b_Player_play 58 = .ok (.getfield 49, 3) := by decide +kernel
theorem d_Player_play_61 : decode b_Player_play 61 = .ok (.aload_n 0, 1) := by decide +kernel
theorem d_Player_play_62 : decode b_Player_play 62 = .ok (.getfield 21, 3) := by decide +kernel
theorem d_Player_play_65 : decode b_Player_play 65 = .ok (.iload_n 3, 1) := by decide +kernel
theorem d_Player_play_66 : decode b_Player_play 66 = .ok (.aaload, 1) := by decide +kernel
theorem d_Player_play_67 : decode b_Player_play 67 = .ok (.getfield 52, 3) := by decide +kernel
theorem d_Player_play_70 : decode b_Player_play 70 = .ok (.invokevirtual 56, 3) := by decide +kernel
theorem d_Player_play_73 : decode b_Player_play 73 = .ok (.bipush 8, 2) := by decide +kernel
theorem d_Player_play_75 : decode b_Player_play 75 = .ok (.iload_n 3, 1) := by decide +kernel
theorem d_Player_play_76 : decode b_Player_play 76 = .ok (.imul, 1) := by decide +kernel
theorem d_Player_play_77 : decode b_Player_play 77 = .ok (.ishl, 1) := by decide +kernel
theorem d_Player_play_78 : decode b_Player_play 78 = .ok (.ior, 1) := by decide +kernel
theorem d_Player_play_79 : decode b_Player_play 79 = .ok (.istore_n 2, 1) := by decide +kernel
theorem d_Player_play_80 : decode b_Player_play 80 = .ok (.aload_n 0, 1) := by decide +kernel
theorem d_Player_play_81 : decode b_Player_play 81 = .ok (.getfield 9, 3) := by decide +kernel
theorem d_Player_play_84 : decode b_Player_play 84 = .ok (.iload_n 3, 1) := by decide +kernel
theorem d_Player_play_85 : decode b_Player_play 85 = .ok (.aload_n 0, 1) := by decide +kernel
theorem d_Player_play_86 : decode b_Player_play 86 = .ok (.aload_n 0, 1) := by decide +kernel
theorem d_Player_play_87 : decode b_Player_play 87 = .ok (.getfield 21, 3) := by decide +kernel
theorem d_Player_play_90 : decode b_Player_play 90 = .ok (.iload_n 3, 1) := by decide +kernel
theorem d_Player_play_91 : decode b_Player_play 91 = .ok (.aaload, 1) := by decide +kernel
theorem d_Player_play_92 : decode b_Player_play 92 = .ok (.getfield 60, 3) := by decide +kernel
theorem d_Player_play_95 : decode b_Player_play 95 = .ok (.aload_n 0, 1) := by decide +kernel
theorem d_Player_play_96 : decode b_Player_play 96 = .ok (.getfield 21, 3) := by decide +kernel
theorem d_Player_play_99 : decode b_Player_play 99 = .ok (.iload_n 3, 1) := by decide +kernel
theorem d_Player_play_100 : decode b_Player_play 100 = .ok (.aaload, 1) := by decide +kernel
theorem d_Player_play_101 : decode b_Player_play 101 = .ok (.getfield 63, 3) := by decide +kernel
theorem d_Player_play_104 : decode b_Player_play 104 = .ok (.invokevirtual 56, 3) := by decide +kernel
theorem d_Player_play_107 : decode b_Player_play 107 = .ok (.iastore, 1) := by decide +kernel
theorem d_Player_play_108 : decode b_Player_play 108 = .ok (.iinc 3 1, 3) := by decide +kernel
theorem d_Player_play_111 : decode b_Player_play 111 = .ok (.goto (-102), 3) := by decide +kernel
theorem d_Player_play_114 : decode b_Player_play 114 = .ok (.iload_n 2, 1) := by decide +kernel
theorem d_Player_play_115 : decode b_Player_play 115 = .ok (.ireturn, 1) := by decide +kernel
theorem d_Judge_step_0 : decode b_Judge_step 0 = .ok (.aload_n 0, 1) := by decide +kernel
theorem d_Judge_step_1 : decode b_Judge_step 1 = .ok (.getfield 37, 3) := by decide +kernel
theorem d_Judge_step_4 : decode b_Judge_step 4 = .ok (.iload_n 1, 1) := by decide +kernel
theorem d_Judge_step_5 : decode b_Judge_step 5 = .ok (.invokevirtual 117, 3) := by decide +kernel
theorem d_Judge_step_8 : decode b_Judge_step 8 = .ok (.ireturn, 1) := by decide +kernel
theorem d_Judge_matching_0 : decode b_Judge_matching 0 = .ok (.aload_n 0, 1) := by decide +kernel
theorem d_Judge_matching_1 : decode b_Judge_matching 1 = .ok (.getfield 27, 3) := by decide +kernel
theorem d_Judge_matching_4 : decode b_Judge_matching 4 = .ok (.iconst 0, 1) := by decide +kernel
theorem d_Judge_matching_5 : decode b_Judge_matching 5 = .ok (.aaload, 1) := by decide +kernel
theorem d_Judge_matching_6 : decode b_Judge_matching 6 = .ok (.getfield 180, 3) := by decide +kernel
theorem d_Judge_matching_9 : decode b_Judge_matching 9 = .ok (.ifCond .eq 61, 3) := by decide +kernel
theorem d_Judge_matching_12 : decode b_Judge_matching 12 = .ok (.aload_n 0, 1) := by decide +kernel
theorem d_Judge_matching_13 : decode b_Judge_matching 13 = .ok (.getfield 27, 3) := by decide +kernel
theorem d_Judge_matching_16 : decode b_Judge_matching 16 = .ok (.iconst 1, 1) := by decide +kernel
theorem d_Judge_matching_17 : decode b_Judge_matching 17 = .ok (.aaload, 1) := by decide +kernel
theorem d_Judge_matching_18 : decode b_Judge_matching 18 = .ok (.getfield 180, 3) := by decide +kernel
theorem d_Judge_matching_21 : decode b_Judge_matching 21 = .ok (.ifCond .eq 49, 3) := by decide +kernel
theorem d_Judge_matching_24 : decode b_Judge_matching 24 = .ok (.aload_n 0, 1) := by decide +kernel
theorem d_Judge_matching_25 : decode b_Judge_matching 25 = .ok (.getfield 27, 3) := by decide +kernel
theorem d_Judge_matching_28 : decode b_Judge_matching 28 = .ok (.iconst 0, 1) := by decide +kernel
theorem d_Judge_matching_29 : decode b_Judge_matching 29 = .ok (.aaload, 1) := by decide +kernel
theorem d_Judge_matching_30 : decode b_Judge_matching 30 = .ok (.getfield 187, 3) := by decide +kernel
theorem d_Judge_matching_33 : decode b_Judge_matching 33 = .ok (.aload_n 0, 1) := by decide +kernel
theorem d_Judge_matching_34 : decode b_Judge_matching 34 = .ok (.getfield 27, 3) := by decide +kernel
theorem d_Judge_matching_37 : decode b_Judge_matching 37 = .ok (.iconst 1, 1) := by decide +kernel
theorem d_Judge_matching_38 : decode b_Judge_matching 38 = .ok (.aaload, 1) := by decide +kernel
theorem d_Judge_matching_39 : decode b_Judge_matching 39 = .ok (.getfield 187, 3) := by decide +kernel
theorem d_Judge_matching_42 : decode b_Judge_matching 42 = .ok (.if_icmp .ne 28, 3) := by decide +kernel
theorem d_Judge_matching_45 : decode b_Judge_matching 45 = .ok (.aload_n 0, 1) := by decide +kernel
theorem d_Judge_matching_46 : decode b_Judge_matching 46 = .ok (.getfield 27, 3) := by decide +kernel
theorem d_Judge_matching_49 : decode b_Judge_matching 49 = .ok (.iconst 0, 1) := by decide +kernel
theorem d_Judge_matching_50 : decode b_Judge_matching 50 = .ok (.aaload, 1) := by decide +kernel
theorem d_Judge_matching_51 : decode b_Judge_matching 51 = .ok (.getfield 190, 3) := by decide +kernel
theorem d_Judge_matching_54 : decode b_Judge_matching 54 = .ok (.aload_n 0, 1) := by decide +kernel
theorem d_Judge_matching_55 : decode b_Judge_matching 55 = .ok (.getfield 27, 3) := by decide +kernel
theorem d_Judge_matching_58 : decode b_Judge_matching 58 = .ok (.iconst 1, 1) := by decide +kernel
theorem d_Judge_matching_59 : decode b_Judge_matching 59 = .ok (.aaload, 1) := by decide +kernel
theorem d_Judge_matching_60 : decode b_Judge_matching 60 = .ok (.getfield 190, 3) := by decide +kernel
theorem d_Judge_matching_63 : decode b_Judge_matching 63 = .ok (.if_icmp .ne 7, 3) := by decide +kernel
theorem d_Judge_matching_66 : decode b_Judge_matching 66 = .ok (.iconst 1, 1) := by decide +kernel
theorem d_Judge_matching_67 : decode b_Judge_matching 67 = .ok (.goto 4, 3) := by decide +kernel
theorem d_Judge_matching_70 : decode b_Judge_matching 70 = .ok (.iconst 0, 1) := by decide +kernel
theorem d_Judge_matching_71 : decode b_Judge_matching 71 = .ok (.ireturn, 1) := by decide +kernel
theorem d_Judge_mustMatch_0 : decode b_Judge_mustMatch 0 = .ok (.aload_n 0, 1) := by decide +kernel
theorem d_Judge_mustMatch_1 : decode b_Judge_mustMatch 1 = .ok (.invokevirtual 141, 3) := by decide +kernel
theorem d_Judge_mustMatch_4 : decode b_Judge_mustMatch 4 = .ok (.ifCond .ne 13, 3) := by decide +kernel
theorem d_Judge_mustMatch_7 : decode b_Judge_mustMatch 7 = .ok (.new 193, 3) := by decide +kernel
theorem d_Judge_mustMatch_10 : decode b_Judge_mustMatch 10 = .ok (.dup, 1) := by decide +kernel
theorem d_Judge_mustMatch_11 : decode b_Judge_mustMatch 11 = .ok (.ldc 195, 2) := by decide +kernel
theorem d_Judge_mustMatch_13 : decode b_Judge_mustMatch 13 = .ok (.invokespecial 197, 3) := by decide +kernel
theorem d_Judge_mustMatch_16 : decode b_Judge_mustMatch 16 = .ok (.athrow, 1) := by decide +kernel
theorem d_Judge_mustMatch_17 : decode b_Judge_mustMatch 17 = .ok (.return_, 1) := by decide +kernel
theorem d_Table_init_0 : decode b_Table_init 0 = .ok (.aload_n 0, 1) := by decide +kernel
theorem d_Table_init_1 : decode b_Table_init 1 = .ok (.invokespecial 3, 3) := by decide +kernel
theorem d_Table_init_4 : decode b_Table_init 4 = .ok (.aload_n 0, 1) := by decide +kernel
theorem d_Table_init_5 : decode b_Table_init 5 = .ok (.sipush 25728, 3) := by decide +kernel
theorem d_Table_init_8 : decode b_Table_init 8 = .ok (.newarray .int, 2) := by decide +kernel
theorem d_Table_init_10 : decode b_Table_init 10 = .ok (.putfield 9, 3) := by decide +kernel
theorem d_Table_init_13 : decode b_Table_init 13 = .ok (.aload_n 0, 1) := by decide +kernel
theorem d_Table_init_14 : decode b_Table_init 14 = .ok (.sipush 1024, 3) := by decide +kernel
theorem d_Table_init_17 : decode b_Table_init 17 = .ok (.newarray .int, 2) := by decide +kernel
theorem d_Table_init_19 : decode b_Table_init 19 = .ok (.putfield 15, 3) := by decide +kernel
theorem d_Table_init_22 : decode b_Table_init 22 = .ok (.aload_n 0, 1) := by decide +kernel
theorem d_Table_init_23 : decode b_Table_init 23 = .ok (.sipush 4096, 3) := by decide +kernel
theorem d_Table_init_26 : decode b_Table_init 26 = .ok (.newarray .int, 2) := by decide +kernel
theorem d_Table_init_28 : decode b_Table_init 28 = .ok (.putfield 18, 3) := by decide +kernel
theorem d_Table_init_31 : decode b_Table_init 31 = .ok (.aload_n 0, 1) := by decide +kernel
theorem d_Table_init_32 : decode b_Table_init 32 = .ok (.iconst 2, 1) := by decide +kernel
theorem d_Table_init_33 : decode b_Table_init 33 = .ok (.newarray .int, 2) := by decide +kernel
theorem d_Table_init_35 : decode b_Table_init 35 = .ok (.putfield 21, 3) := by decide +kernel
theorem d_Table_init_38 : decode b_Table_init 38 = .ok (.return_, 1) := by decide +kernel
theorem d_Walk_init_0 : decode b_Walk_init 0 = .ok (.aload_n 0, 1) := by decide +kernel
theorem d_Walk_init_1 : decode b_Walk_init 1 = .ok (.invokespecial 3, 3) := by decide +kernel
theorem d_Walk_init_4 : decode b_Walk_init 4 = .ok (.aload_n 0, 1) := by decide +kernel
theorem d_Walk_init_5 : decode b_Walk_init 5 = .ok (.sipush 4096, 3) := by decide +kernel
theorem d_Walk_init_8 : decode b_Walk_init 8 = .ok (.newarray .int, 2) := by decide +kernel
theorem d_Walk_init_10 : decode b_Walk_init 10 = .ok (.putfield 9, 3) := by decide +kernel
theorem d_Walk_init_13 : decode b_Walk_init 13 = .ok (.aload_n 0, 1) := by decide +kernel
theorem d_Walk_init_14 : decode b_Walk_init 14 = .ok (.sipush 4096, 3) := by decide +kernel
theorem d_Walk_init_17 : decode b_Walk_init 17 = .ok (.newarray .int, 2) := by decide +kernel
theorem d_Walk_init_19 : decode b_Walk_init 19 = .ok (.putfield 15, 3) := by decide +kernel
theorem d_Walk_init_22 : decode b_Walk_init 22 = .ok (.aload_n 0, 1) := by decide +kernel
theorem d_Walk_init_23 : decode b_Walk_init 23 = .ok (.sipush 4096, 3) := by decide +kernel
theorem d_Walk_init_26 : decode b_Walk_init 26 = .ok (.newarray .int, 2) := by decide +kernel
theorem d_Walk_init_28 : decode b_Walk_init 28 = .ok (.putfield 18, 3) := by decide +kernel
theorem d_Walk_init_31 : decode b_Walk_init 31 = .ok (.aload_n 0, 1) := by decide +kernel
theorem d_Walk_init_32 : decode b_Walk_init 32 = .ok (.sipush 4096, 3) := by decide +kernel
theorem d_Walk_init_35 : decode b_Walk_init 35 = .ok (.newarray .int, 2) := by decide +kernel
theorem d_Walk_init_37 : decode b_Walk_init 37 = .ok (.putfield 21, 3) := by decide +kernel
theorem d_Walk_init_40 : decode b_Walk_init 40 = .ok (.aload_n 0, 1) := by decide +kernel
theorem d_Walk_init_41 : decode b_Walk_init 41 = .ok (.aload_n 1, 1) := by decide +kernel
theorem d_Walk_init_42 : decode b_Walk_init 42 = .ok (.putfield 24, 3) := by decide +kernel
theorem d_Walk_init_45 : decode b_Walk_init 45 = .ok (.return_, 1) := by decide +kernel
theorem d_Layers_init_0 : decode b_Layers_init 0 = .ok (.aload_n 0, 1) := by decide +kernel
theorem d_Layers_init_1 : decode b_Layers_init 1 = .ok (.invokespecial 3, 3) := by decide +kernel
theorem d_Layers_init_4 : decode b_Layers_init 4 = .ok (.aload_n 0, 1) := by decide +kernel
theorem d_Layers_init_5 : decode b_Layers_init 5 = .ok (.sipush 4096, 3) := by decide +kernel
theorem d_Layers_init_8 : decode b_Layers_init 8 = .ok (.newarray .boolean, 2) := by decide +kernel
theorem d_Layers_init_10 : decode b_Layers_init 10 = .ok (.putfield 9, 3) := by decide +kernel
theorem d_Layers_init_13 : decode b_Layers_init 13 = .ok (.aload_n 0, 1) := by decide +kernel
theorem d_Layers_init_14 : decode b_Layers_init 14 = .ok (.sipush 4096, 3) := by decide +kernel
theorem d_Layers_init_17 : decode b_Layers_init 17 = .ok (.newarray .boolean, 2) := by decide +kernel
theorem d_Layers_init_19 : decode b_Layers_init 19 = .ok (.putfield 15, 3) := by decide +kernel
theorem d_Layers_init_22 : decode b_Layers_init 22 = .ok (.aload_n 0, 1) := by decide +kernel
theorem d_Layers_init_23 : decode b_Layers_init 23 = .ok (.aload_n 1, 1) := by decide +kernel
theorem d_Layers_init_24 : decode b_Layers_init 24 = .ok (.putfield 18, 3) := by decide +kernel
theorem d_Layers_init_27 : decode b_Layers_init 27 = .ok (.return_, 1) := by decide +kernel
theorem d_Likeness_init_0 : decode b_Likeness_init 0 = .ok (.aload_n 0, 1) := by decide +kernel
theorem d_Likeness_init_1 : decode b_Likeness_init 1 = .ok (.invokespecial 3, 3) := by decide +kernel
theorem d_Likeness_init_4 : decode b_Likeness_init 4 = .ok (.aload_n 0, 1) := by decide +kernel
theorem d_Likeness_init_5 : decode b_Likeness_init 5 = .ok (.sipush 402, 3) := by decide +kernel
theorem d_Likeness_init_8 : decode b_Likeness_init 8 = .ok (.newarray .int, 2) := by decide +kernel
theorem d_Likeness_init_10 : decode b_Likeness_init 10 = .ok (.putfield 11, 3) := by decide +kernel
theorem d_Likeness_init_13 : decode b_Likeness_init 13 = .ok (.aload_n 0, 1) := by decide +kernel
theorem d_Likeness_init_14 : decode b_Likeness_init 14 = .ok (.sipush 402, 3) := by decide +kernel
theorem d_Likeness_init_17 : decode b_Likeness_init 17 = .ok (.newarray .int, 2) := by decide +kernel
theorem d_Likeness_init_19 : decode b_Likeness_init 19 = .ok (.putfield 15, 3) := by decide +kernel
theorem d_Likeness_init_22 : decode b_Likeness_init 22 = .ok (.aload_n 0, 1) := by decide +kernel
theorem d_Likeness_init_23 : decode b_Likeness_init 23 = .ok (.sipush 402, 3) := by decide +kernel
theorem d_Likeness_init_26 : decode b_Likeness_init 26 = .ok (.newarray .int, 2) := by decide +kernel
theorem d_Likeness_init_28 : decode b_Likeness_init 28 = .ok (.putfield 18, 3) := by decide +kernel
theorem d_Likeness_init_31 : decode b_Likeness_init 31 = .ok (.aload_n 0, 1) := by decide +kernel
theorem d_Likeness_init_32 : decode b_Likeness_init 32 = .ok (.sipush 402, 3) := by decide +kernel
theorem d_Likeness_init_35 : decode b_Likeness_init 35 = .ok (.newarray .int, 2) := by decide +kernel
theorem d_Likeness_init_37 : decode b_Likeness_init 37 = .ok (.putfield 21, 3) := by decide +kernel
theorem d_Likeness_init_40 : decode b_Likeness_init 40 = .ok (.aload_n 0, 1) := by decide +kernel
theorem d_Likeness_init_41 : decode b_Likeness_init 41 = .ok (.sipush 402, 3) := by decide +kernel
theorem d_Likeness_init_44 : decode b_Likeness_init 44 = .ok (.newarray .int, 2) := by decide +kernel
theorem d_Likeness_init_46 : decode b_Likeness_init 46 = .ok (.putfield 24, 3) := by decide +kernel
theorem d_Likeness_init_49 : decode b_Likeness_init 49 = .ok (.aload_n 0, 1) := by decide +kernel
theorem d_Likeness_init_50 : decode b_Likeness_init 50 = .ok (.sipush 402, 3) := by decide +kernel
theorem d_Likeness_init_53 : decode b_Likeness_init 53 = .ok (.newarray .int, 2) := by decide +kernel
theorem d_Likeness_init_55 : decode b_Likeness_init 55 = .ok (.putfield 27, 3) := by decide +kernel
theorem d_Likeness_init_58 : decode b_Likeness_init 58 = .ok (.return_, 1) := by decide +kernel
theorem d_Overlay_init_0 : decode b_Overlay_init 0 = .ok (.aload_n 0, 1) := by decide +kernel
theorem d_Overlay_init_1 : decode b_Overlay_init 1 = .ok (.invokespecial 5, 3) := by decide +kernel
theorem d_Overlay_init_4 : decode b_Overlay_init 4 = .ok (.aload_n 0, 1) := by decide +kernel
theorem d_Overlay_init_5 : decode b_Overlay_init 5 = .ok (.sipush 300, 3) := by decide +kernel
theorem d_Overlay_init_8 : decode b_Overlay_init 8 = .ok (.newarray .int, 2) := by decide +kernel
theorem d_Overlay_init_10 : decode b_Overlay_init 10 = .ok (.putfield 11, 3) := by decide +kernel
theorem d_Overlay_init_13 : decode b_Overlay_init 13 = .ok (.aload_n 0, 1) := by decide +kernel
theorem d_Overlay_init_14 : decode b_Overlay_init 14 = .ok (.sipush 300, 3) := by decide +kernel
theorem d_Overlay_init_17 : decode b_Overlay_init 17 = .ok (.newarray .int, 2) := by decide +kernel
theorem d_Overlay_init_19 : decode b_Overlay_init 19 = .ok (.putfield 15, 3) := by decide +kernel
theorem d_Overlay_init_22 : decode b_Overlay_init 22 = .ok (.aload_n 0, 1) := by decide +kernel
theorem d_Overlay_init_23 : decode b_Overlay_init 23 = .ok (.sipush 201, 3) := by decide +kernel
theorem d_Overlay_init_26 : decode b_Overlay_init 26 = .ok (.newarray .int, 2) := by decide +kernel
theorem d_Overlay_init_28 : decode b_Overlay_init 28 = .ok (.putfield 18, 3) := by decide +kernel
theorem d_Overlay_init_31 : decode b_Overlay_init 31 = .ok (.return_, 1) := by decide +kernel
theorem d_Works_init_0 : decode b_Works_init 0 = .ok (.aload_n 0, 1) := by decide +kernel
theorem d_Works_init_1 : decode b_Works_init 1 = .ok (.invokespecial 3, 3) := by decide +kernel
theorem d_Works_init_4 : decode b_Works_init 4 = .ok (.aload_n 0, 1) := by decide +kernel
theorem d_Works_init_5 : decode b_Works_init 5 = .ok (.new 9, 3) := by decide +kernel
theorem d_Works_init_8 : decode b_Works_init 8 = .ok (.dup, 1) := by decide +kernel
theorem d_Works_init_9 : decode b_Works_init 9 = .ok (.invokespecial 11, 3) := by decide +kernel
theorem d_Works_init_12 : decode b_Works_init 12 = .ok (.putfield 12, 3) := by decide +kernel
theorem d_Works_init_15 : decode b_Works_init 15 = .ok (.aload_n 0, 1) := by decide +kernel
theorem d_Works_init_16 : decode b_Works_init 16 = .ok (.new 18, 3) := by decide +kernel
theorem d_Works_init_19 : decode b_Works_init 19 = .ok (.dup, 1) := by decide +kernel
theorem d_Works_init_20 : decode b_Works_init 20 = .ok (.aload_n 0, 1) := by decide +kernel
theorem d_Works_init_21 : decode b_Works_init 21 = .ok (.getfield 12, 3) := by decide +kernel
theorem d_Works_init_24 : decode b_Works_init 24 = .ok (.invokespecial 20, 3) := by decide +kernel
theorem d_Works_init_27 : decode b_Works_init 27 = .ok (.putfield 23, 3) := by decide +kernel
theorem d_Works_init_30 : decode b_Works_init 30 = .ok (.aload_n 0, 1) := by decide +kernel
theorem d_Works_init_31 : decode b_Works_init 31 = .ok (.new 27, 3) := by decide +kernel
theorem d_Works_init_34 : decode b_Works_init 34 = .ok (.dup, 1) := by decide +kernel
theorem d_Works_init_35 : decode b_Works_init 35 = .ok (.aload_n 0, 1) := by decide +kernel
theorem d_Works_init_36 : decode b_Works_init 36 = .ok (.getfield 12, 3) := by decide +kernel
theorem d_Works_init_39 : decode b_Works_init 39 = .ok (.invokespecial 29, 3) := by decide +kernel
theorem d_Works_init_42 : decode b_Works_init 42 = .ok (.putfield 30, 3) := by decide +kernel
theorem d_Works_init_45 : decode b_Works_init 45 = .ok (.aload_n 0, 1) := by decide +kernel
theorem d_Works_init_46 : decode b_Works_init 46 = .ok (.new 34, 3) := by decide +kernel
theorem d_Works_init_49 : decode b_Works_init 49 = .ok (.dup, 1) := by decide +kernel
theorem d_Works_init_50 : decode b_Works_init 50 = .ok (.invokespecial 36, 3) := by decide +kernel
theorem d_Works_init_53 : decode b_Works_init 53 = .ok (.putfield 37, 3) := by decide +kernel
theorem d_Works_init_56 : decode b_Works_init 56 = .ok (.aload_n 0, 1) := by decide +kernel
theorem d_Works_init_57 : decode b_Works_init 57 = .ok (.new 41, 3) := by decide +kernel
theorem d_Works_init_60 : decode b_Works_init 60 = .ok (.dup, 1) := by decide +kernel
theorem d_Works_init_61 : decode b_Works_init 61 = .ok (.invokespecial 43, 3) := by decide +kernel
theorem d_Works_init_64 : decode b_Works_init 64 = .ok (.putfield 44, 3) := by decide +kernel
theorem d_Works_init_67 : decode b_Works_init 67 = .ok (.aload_n 0, 1) := by decide +kernel
theorem d_Works_init_68 : decode b_Works_init 68 = .ok (.aload_n 1, 1) := by decide +kernel
theorem d_Works_init_69 : decode b_Works_init 69 = .ok (.putfield 48, 3) := by decide +kernel
theorem d_Works_init_72 : decode b_Works_init 72 = .ok (.aload_n 0, 1) := by decide +kernel
theorem d_Works_init_73 : decode b_Works_init 73 = .ok (.new 52, 3) := by decide +kernel
theorem d_Works_init_76 : decode b_Works_init 76 = .ok (.dup, 1) := by decide +kernel
theorem d_Works_init_77 : decode b_Works_init 77 = .ok (.aload_n 1, 1) := by decide +kernel
theorem d_Works_init_78 : decode b_Works_init 78 = .ok (.invokespecial 54, 3) := by decide +kernel
theorem d_Works_init_81 : decode b_Works_init 81 = .ok (.putfield 57, 3) := by decide +kernel
theorem d_Works_init_84 : decode b_Works_init 84 = .ok (.return_, 1) := by decide +kernel
theorem d_Judge_readyWorks_0 : decode b_Judge_readyWorks 0 = .ok (.aload_n 0, 1) := by decide +kernel
theorem d_Judge_readyWorks_1 : decode b_Judge_readyWorks 1 = .ok (.getfield 78, 3) := by decide +kernel
theorem d_Judge_readyWorks_4 : decode b_Judge_readyWorks 4 = .ok (.ifnonnull 18, 3) := by decide +kernel
theorem d_Judge_readyWorks_7 : decode b_Judge_readyWorks 7 = .ok (.aload_n 0, 1) := by decide +kernel
theorem d_Judge_readyWorks_8 : decode b_Judge_readyWorks 8 = .ok (.new 83, 3) := by decide +kernel
theorem d_Judge_readyWorks_11 : decode b_Judge_readyWorks 11 = .ok (.dup, 1) := by decide +kernel
theorem d_Judge_readyWorks_12 : decode b_Judge_readyWorks 12 = .ok (.aload_n 0, 1) := by decide +kernel
theorem d_Judge_readyWorks_13 : decode b_Judge_readyWorks 13 = .ok (.getfield 27, 3) := by decide +kernel
theorem d_Judge_readyWorks_16 : decode b_Judge_readyWorks 16 = .ok (.invokespecial 200, 3) := by decide +kernel
theorem d_Judge_readyWorks_19 : decode b_Judge_readyWorks 19 = .ok (.putfield 78, 3) := by decide +kernel
theorem d_Judge_readyWorks_22 : decode b_Judge_readyWorks 22 = .ok (.aload_n 0, 1) := by decide +kernel
theorem d_Judge_readyWorks_23 : decode b_Judge_readyWorks 23 = .ok (.getfield 78, 3) := by decide +kernel
theorem d_Judge_readyWorks_26 : decode b_Judge_readyWorks 26 = .ok (.areturn, 1) := by decide +kernel
theorem d_Overlay_signalOf_0 : decode b_Overlay_signalOf 0 = .ok (.aload_n 0, 1) := by decide +kernel
theorem d_Overlay_signalOf_1 : decode b_Overlay_signalOf 1 = .ok (.getfield 18, 3) := by decide +kernel
theorem d_Overlay_signalOf_4 : decode b_Overlay_signalOf 4 = .ok (.iload_n 1, 1) := by decide +kernel
theorem d_Overlay_signalOf_5 : decode b_Overlay_signalOf 5 = .ok (.iconst 1, 1) := by decide +kernel
theorem d_Overlay_signalOf_6 : decode b_Overlay_signalOf 6 = .ok (.ishr, 1) := by decide +kernel
theorem d_Overlay_signalOf_7 : decode b_Overlay_signalOf 7 = .ok (.iaload, 1) := by decide +kernel
theorem d_Overlay_signalOf_8 : decode b_Overlay_signalOf 8 = .ok (.iload_n 1, 1) := by decide +kernel
theorem d_Overlay_signalOf_9 : decode b_Overlay_signalOf 9 = .ok (.iconst 1, 1) := by decide +kernel
theorem d_Overlay_signalOf_10 : decode b_Overlay_signalOf 10 = .ok (.iand, 1) := by decide +kernel
theorem d_Overlay_signalOf_11 : decode b_Overlay_signalOf 11 = .ok (.ixor, 1) := by decide +kernel
theorem d_Overlay_signalOf_12 : decode b_Overlay_signalOf 12 = .ok (.ireturn, 1) := by decide +kernel
theorem d_Overlay_gateOf_0 : decode b_Overlay_gateOf 0 = .ok (.iconst 0, 1) := by decide +kernel
theorem d_Overlay_gateOf_1 : decode b_Overlay_gateOf 1 = .ok (.istore_n 3, 1) := by decide +kernel
theorem d_Overlay_gateOf_2 : decode b_Overlay_gateOf 2 = .ok (.iload_n 3, 1) := by decide +kernel
theorem d_Overlay_gateOf_3 : decode b_Overlay_gateOf 3 = .ok (.aload_n 0, 1) := by decide +kernel
theorem d_Overlay_gateOf_4 : decode b_Overlay_gateOf 4 = .ok (.getfield 21, 3) := by decide +kernel
theorem d_Overlay_gateOf_7 : decode b_Overlay_gateOf 7 = .ok (.if_icmp .ge 29, 3) := by decide +kernel
theorem d_Overlay_gateOf_10 : decode b_Overlay_gateOf 10 = .ok (.aload_n 0, 1) := by decide +kernel
theorem d_Overlay_gateOf_11 : decode b_Overlay_gateOf 11 = .ok (.getfield 11, 3) := by decide +kernel
theorem d_Overlay_gateOf_14 : decode b_Overlay_gateOf 14 = .ok (.iload_n 3, 1) := by decide +kernel
theorem d_Overlay_gateOf_15 : decode b_Overlay_gateOf 15 = .ok (.iaload, 1) := by decide +kernel
theorem d_Overlay_gateOf_16 : decode b_Overlay_gateOf 16 = .ok (.iload_n 1, 1) := by decide +kernel
theorem d_Overlay_gateOf_17 : decode b_Overlay_gateOf 17 = .ok (.if_icmp .ne 13, 3) := by decide +kernel
theorem d_Overlay_gateOf_20 : decode b_Overlay_gateOf 20 = .ok (.aload_n 0, 1) := by decide +kernel
theorem d_Overlay_gateOf_21 : decode b_Overlay_gateOf 21 = .ok (.getfield 15, 3) := by decide +kernel
theorem d_Overlay_gateOf_24 : decode b_Overlay_gateOf 24 = .ok (.iload_n 3, 1) := by decide +kernel
theorem d_Overlay_gateOf_25 : decode b_Overlay_gateOf 25 = .ok (.iaload, 1) := by decide +kernel
theorem d_Overlay_gateOf_26 : decode b_Overlay_gateOf 26 = .ok (.iload_n 2, 1) := by decide +kernel
theorem d_Overlay_gateOf_27 : decode b_Overlay_gateOf 27 = .ok (.if_icmp .eq 9, 3) := by decide +kernel
theorem d_Overlay_gateOf_30 : decode b_Overlay_gateOf 30 = .ok (.iinc 3 1, 3) := by decide +kernel
theorem d_Overlay_gateOf_33 : decode b_Overlay_gateOf 33 = .ok (.goto (-31), 3) := by decide +kernel
theorem d_Overlay_gateOf_36 : decode b_Overlay_gateOf 36 = .ok (.iload_n 3, 1) := by decide +kernel
theorem d_Overlay_gateOf_37 : decode b_Overlay_gateOf 37 = .ok (.aload_n 0, 1) := by decide +kernel
theorem d_Overlay_gateOf_38 : decode b_Overlay_gateOf 38 = .ok (.getfield 21, 3) := by decide +kernel
theorem d_Overlay_gateOf_41 : decode b_Overlay_gateOf 41 = .ok (.if_icmp .ne 27, 3) := by decide +kernel
theorem d_Overlay_gateOf_44 : decode b_Overlay_gateOf 44 = .ok (.aload_n 0, 1) := by decide +kernel
theorem d_Overlay_gateOf_45 : decode b_Overlay_gateOf 45 = .ok (.getfield 11, 3) := by decide +kernel
theorem d_Overlay_gateOf_48 : decode b_Overlay_gateOf 48 = .ok (.iload_n 3, 1) := by decide +kernel
theorem d_Overlay_gateOf_49 : decode b_Overlay_gateOf 49 = .ok (.iload_n 1, 1) := by decide +kernel
theorem d_Overlay_gateOf_50 : decode b_Overlay_gateOf 50 = .ok (.iastore, 1) := by decide +kernel
theorem d_Overlay_gateOf_51 : decode b_Overlay_gateOf 51 = .ok (.aload_n 0, 1) := by decide +kernel
theorem d_Overlay_gateOf_52 : decode b_Overlay_gateOf 52 = .ok (.getfield 15, 3) := by decide +kernel
theorem d_Overlay_gateOf_55 : decode b_Overlay_gateOf 55 = .ok (.iload_n 3, 1) := by decide +kernel
theorem d_Overlay_gateOf_56 : decode b_Overlay_gateOf 56 = .ok (.iload_n 2, 1) := by decide +kernel
theorem d_Overlay_gateOf_57 : decode b_Overlay_gateOf 57 = .ok (.iastore, 1) := by decide +kernel
theorem d_Overlay_gateOf_58 : decode b_Overlay_gateOf 58 = .ok (.aload_n 0, 1) := by decide +kernel
theorem d_Overlay_gateOf_59 : decode b_Overlay_gateOf 59 = .ok (.dup, 1) := by decide +kernel
theorem d_Overlay_gateOf_60 : decode b_Overlay_gateOf 60 = .ok (.getfield 21, 3) := by decide +kernel
theorem d_Overlay_gateOf_63 : decode b_Overlay_gateOf 63 = .ok (.iconst 1, 1) := by decide +kernel
theorem d_Overlay_gateOf_64 : decode b_Overlay_gateOf 64 = .ok (.iadd, 1) := by decide +kernel
theorem d_Overlay_gateOf_65 : decode b_Overlay_gateOf 65 = .ok (.putfield 21, 3) := by decide +kernel
theorem d_Overlay_gateOf_68 : decode b_Overlay_gateOf 68 = .ok (.iconst 2, 1) := by decide +kernel
theorem d_Overlay_gateOf_69 : decode b_Overlay_gateOf 69 = .ok (.bipush 18, 2) := by decide +kernel
theorem d_Overlay_gateOf_71 : decode b_Overlay_gateOf 71 = .ok (.iload_n 3, 1) := by decide +kernel
theorem d_Overlay_gateOf_72 : decode b_Overlay_gateOf 72 = .ok (.iadd, 1) := by decide +kernel
theorem d_Overlay_gateOf_73 : decode b_Overlay_gateOf 73 = .ok (.imul, 1) := by decide +kernel
theorem d_Overlay_gateOf_74 : decode b_Overlay_gateOf 74 = .ok (.ireturn, 1) := by decide +kernel
theorem d_Overlay_join_0 : decode b_Overlay_join 0 = .ok (.iload_n 1, 1) := by decide +kernel
theorem d_Overlay_join_1 : decode b_Overlay_join 1 = .ok (.ifCond .eq 14, 3) := by decide +kernel
theorem d_Overlay_join_4 : decode b_Overlay_join 4 = .ok (.iload_n 2, 1) := by decide +kernel
theorem d_Overlay_join_5 : decode b_Overlay_join 5 = .ok (.ifCond .eq 10, 3) := by decide +kernel
theorem d_Overlay_join_8 : decode b_Overlay_join 8 = .ok (.iload_n 1, 1) := by decide +kernel
theorem d_Overlay_join_9 : decode b_Overlay_join 9 = .ok (.iload_n 2, 1) := by decide +kernel
theorem d_Overlay_join_10 : decode b_Overlay_join 10 = .ok (.iconst 1, 1) := by decide +kernel
theorem d_Overlay_join_11 : decode b_Overlay_join 11 = .ok (.ixor, 1) := by decide +kernel
theorem d_Overlay_join_12 : decode b_Overlay_join 12 = .ok (.if_icmp .ne 5, 3) := by decide +kernel
theorem d_Overlay_join_15 : decode b_Overlay_join 15 = .ok (.iconst 0, 1) := by decide +kernel
theorem d_Overlay_join_16 : decode b_Overlay_join 16 = .ok (.ireturn, 1) := by decide +kernel
theorem d_Overlay_join_17 : decode b_Overlay_join 17 = .ok (.iload_n 1, 1) := by decide +kernel
theorem d_Overlay_join_18 : decode b_Overlay_join 18 = .ok (.iconst 1, 1) := by decide +kernel
theorem d_Overlay_join_19 : decode b_Overlay_join 19 = .ok (.if_icmp .eq 8, 3) := by decide +kernel
theorem d_Overlay_join_22 : decode b_Overlay_join 22 = .ok (.iload_n 1, 1) := by decide +kernel
theorem d_Overlay_join_23 : decode b_Overlay_join 23 = .ok (.iload_n 2, 1) := by decide +kernel
theorem d_Overlay_join_24 : decode b_Overlay_join 24 = .ok (.if_icmp .ne 5, 3) := by decide +kernel
theorem d_Overlay_join_27 : decode b_Overlay_join 27 = .ok (.iload_n 2, 1) := by decide +kernel
theorem d_Overlay_join_28 : decode b_Overlay_join 28 = .ok (.ireturn, 1) := by decide +kernel
theorem d_Overlay_join_29 : decode b_Overlay_join 29 = .ok (.iload_n 2, 1) := by decide +kernel
theorem d_Overlay_join_30 : decode b_Overlay_join 30 = .ok (.iconst 1, 1) := by decide +kernel
theorem d_Overlay_join_31 : decode b_Overlay_join 31 = .ok (.if_icmp .ne 7, 3) := by decide +kernel
theorem d_Overlay_join_34 : decode b_Overlay_join 34 = .ok (.iload_n 1, 1) := by decide +kernel
theorem d_Overlay_join_35 : decode b_Overlay_join 35 = .ok (.goto 17, 3) := by decide +kernel
theorem d_Overlay_join_38 : decode b_Overlay_join 38 = .ok (.aload_n 0, 1) := by decide +kernel
theorem d_Overlay_join_39 : decode b_Overlay_join 39 = .ok (.iload_n 1, 1) := by decide +kernel
theorem d_Overlay_join_40 : decode b_Overlay_join 40 = .ok (.iload_n 2, 1) := by decide +kernel
theorem d_Overlay_join_41 : decode b_Overlay_join 41 = .ok (.invokestatic 63, 3) := by decide +kernel
theorem d_Overlay_join_44 : decode b_Overlay_join 44 = .ok (.iload_n 1, 1) := by decide +kernel
theorem d_Overlay_join_45 : decode b_Overlay_join 45 = .ok (.iload_n 2, 1) := by decide +kernel
theorem d_Overlay_join_46 : decode b_Overlay_join 46 = .ok (.invokestatic 68, 3) := by decide +kernel
theorem d_Overlay_join_49 : decode b_Overlay_join 49 = .ok (.invokevirtual 71, 3) := by decide +kernel
theorem d_Overlay_join_52 : decode b_Overlay_join 52 = .ok (.ireturn, 1) := by decide +kernel
theorem d_Overlay_layOver_0 : decode b_Overlay_layOver 0 = .ok (.aload_n 0, 1) := by decide +kernel
theorem d_Overlay_layOver_1 : decode b_Overlay_layOver 1 = .ok (.getfield 18, 3) := by decide +kernel
theorem d_Overlay_layOver_4 : decode b_Overlay_layOver 4 = .ok (.iconst 0, 1) := by decide +kernel
theorem d_Overlay_layOver_5 : decode b_Overlay_layOver 5 = .ok (.iconst 0, 1) := by decide +kernel
theorem d_Overlay_layOver_6 : decode b_Overlay_layOver 6 = .ok (.iastore, 1) := by decide +kernel
theorem d_Overlay_layOver_7 : decode b_Overlay_layOver 7 = .ok (.iconst 0, 1) := by decide +kernel
theorem d_Overlay_layOver_8 : decode b_Overlay_layOver 8 = .ok (.istore_n 3, 1) := by decide +kernel
theorem d_Overlay_layOver_9 : decode b_Overlay_layOver 9 = .ok (.iload_n 3, 1) := by decide +kernel
theorem d_Overlay_layOver_10 : decode b_Overlay_layOver 10 = .ok (.aload_n 1, 1) := by decide +kernel
theorem d_Overlay_layOver_11 : decode b_Overlay_layOver 11 = .ok (.getfield 29, 3) := by decide +kernel
theorem d_Overlay_layOver_14 : decode b_Overlay_layOver 14 = .ok (.if_icmp .ge 25, 3) := by decide +kernel
theorem d_Overlay_layOver_17 : decode b_Overlay_layOver 17 = .ok (.aload_n 0, 1) := by decide +kernel
theorem d_Overlay_layOver_18 : decode b_Overlay_layOver 18 = .ok (.getfield 18, 3) := by decide +kernel
theorem d_Overlay_layOver_21 : decode b_Overlay_layOver 21 = .ok (.aload_n 1, 1) := by decide +kernel
theorem d_Overlay_layOver_22 : decode b_Overlay_layOver 22 = .ok (.getfield 34, 3) := by decide +kernel
theorem d_Overlay_layOver_25 : decode b_Overlay_layOver 25 = .ok (.iload_n 3, 1) := by decide +kernel
theorem d_Overlay_layOver_26 : decode b_Overlay_layOver 26 = .ok (.iaload, 1) := by decide +kernel
theorem d_Overlay_layOver_27 : decode b_Overlay_layOver 27 = .ok (.iconst 2, 1) := by decide +kernel
theorem d_Overlay_layOver_28 : decode b_Overlay_layOver 28 = .ok (.iconst 1, 1) := by decide +kernel
theorem d_Overlay_layOver_29 : decode b_Overlay_layOver 29 = .ok (.iload_n 3, 1) := by decide +kernel
theorem d_Overlay_layOver_30 : decode b_Overlay_layOver 30 = .ok (.iadd, 1) := by decide +kernel
theorem d_Overlay_layOver_31 : decode b_Overlay_layOver 31 = .ok (.imul, 1) := by decide +kernel
theorem d_Overlay_layOver_32 : decode b_Overlay_layOver 32 = .ok (.iastore, 1) := by decide +kernel
theorem d_Overlay_layOver_33 : decode b_Overlay_layOver 33 = .ok (.iinc 3 1, 3) := by decide +kernel
theorem d_Overlay_layOver_36 : decode b_Overlay_layOver 36 = .ok (.goto (-27), 3) := by decide +kernel
theorem d_Overlay_layOver_39 : decode b_Overlay_layOver 39 = .ok (.iconst 0, 1) := by decide +kernel
theorem d_Overlay_layOver_40 : decode b_Overlay_layOver 40 = .ok (.istore_n 3, 1) := by decide +kernel
theorem d_Overlay_layOver_41 : decode b_Overlay_layOver 41 = .ok (.iload_n 3, 1) := by decide +kernel
theorem d_Overlay_layOver_42 : decode b_Overlay_layOver 42 = .ok (.aload_n 1, 1) := by decide +kernel
theorem d_Overlay_layOver_43 : decode b_Overlay_layOver 43 = .ok (.getfield 37, 3) := by decide +kernel
theorem d_Overlay_layOver_46 : decode b_Overlay_layOver 46 = .ok (.if_icmp .ge 25, 3) := by decide +kernel
theorem d_Overlay_layOver_49 : decode b_Overlay_layOver 49 = .ok (.aload_n 0, 1) := by decide +kernel
theorem d_Overlay_layOver_50 : decode b_Overlay_layOver 50 = .ok (.getfield 18, 3) := by decide +kernel
theorem d_Overlay_layOver_53 : decode b_Overlay_layOver 53 = .ok (.aload_n 1, 1) := by decide +kernel
theorem d_Overlay_layOver_54 : decode b_Overlay_layOver 54 = .ok (.getfield 40, 3) := by decide +kernel
theorem d_Overlay_layOver_57 : decode b_Overlay_layOver 57 = .ok (.iload_n 3, 1) := by decide +kernel
theorem d_Overlay_layOver_58 : decode b_Overlay_layOver 58 = .ok (.iaload, 1) := by decide +kernel
theorem d_Overlay_layOver_59 : decode b_Overlay_layOver 59 = .ok (.iconst 2, 1) := by decide +kernel
theorem d_Overlay_layOver_60 : decode b_Overlay_layOver 60 = .ok (.iload_n 2, 1) := by decide +kernel
theorem d_Overlay_layOver_61 : decode b_Overlay_layOver 61 = .ok (.iload_n 3, 1) := by decide +kernel
theorem d_Overlay_layOver_62 : decode b_Overlay_layOver 62 = .ok (.iadd, 1) := by decide +kernel
theorem d_Overlay_layOver_63 : decode b_Overlay_layOver 63 = .ok (.imul, 1) := by decide +kernel
theorem d_Overlay_layOver_64 : decode b_Overlay_layOver 64 = .ok (.iastore, 1) := by decide +kernel
theorem d_Overlay_layOver_65 : decode b_Overlay_layOver 65 = .ok (.iinc 3 1, 3) := by decide +kernel
theorem d_Overlay_layOver_68 : decode b_Overlay_layOver 68 = .ok (.goto (-27), 3) := by decide +kernel
theorem d_Overlay_layOver_71 : decode b_Overlay_layOver 71 = .ok (.iconst 0, 1) := by decide +kernel
theorem d_Overlay_layOver_72 : decode b_Overlay_layOver 72 = .ok (.istore_n 3, 1) := by decide +kernel
theorem d_Overlay_layOver_73 : decode b_Overlay_layOver 73 = .ok (.iload_n 3, 1) := by decide +kernel
theorem d_Overlay_layOver_74 : decode b_Overlay_layOver 74 = .ok (.aload_n 1, 1) := by decide +kernel
theorem d_Overlay_layOver_75 : decode b_Overlay_layOver 75 = .ok (.getfield 43, 3) := by decide +kernel
theorem d_Overlay_layOver_78 : decode b_Overlay_layOver 78 = .ok (.if_icmp .ge 50, 3) := by decide +kernel
theorem d_Overlay_layOver_81 : decode b_Overlay_layOver 81 = .ok (.aload_n 1, 1) := by decide +kernel
theorem d_Overlay_layOver_82 : decode b_Overlay_layOver 82 = .ok (.getfield 46, 3) := by decide +kernel
theorem d_Overlay_layOver_85 : decode b_Overlay_layOver 85 = .ok (.iload_n 3, 1) := by decide +kernel
theorem d_Overlay_layOver_86 : decode b_Overlay_layOver 86 = .ok (.iaload, 1) := by decide +kernel
theorem d_Overlay_layOver_87 : decode b_Overlay_layOver 87 = .ok (.istore 4, 2) := by decide +kernel
theorem d_Overlay_layOver_89 : decode b_Overlay_layOver 89 = .ok (.aload_n 0, 1) := by decide +kernel
theorem d_Overlay_layOver_90 : decode b_Overlay_layOver 90 = .ok (.getfield 18, 3) := by decide +kernel
theorem d_Overlay_layOver_93 : decode b_Overlay_layOver 93 = .ok (.iload 4, 2) := by decide +kernel
theorem d_Overlay_layOver_95 : decode b_Overlay_layOver 95 = .ok (.aload_n 0, 1) := by decide +kernel
theorem d_Overlay_layOver_96 : decode b_Overlay_layOver 96 = .ok (.aload_n 0, 1) := by decide +kernel
theorem d_Overlay_layOver_97 : decode b_Overlay_layOver 97 = .ok (.aload_n 1, 1) := by decide +kernel
theorem d_Overlay_layOver_98 : decode b_Overlay_layOver 98 = .ok (.getfield 49, 3) := by decide +kernel
theorem d_Overlay_layOver_101 : decode b_Overlay_layOver 101 = .ok (.iload 4, 2) := by decide +kernel
theorem d_Overlay_layOver_103 : decode b_Overlay_layOver 103 = .ok (.iaload, 1) := by decide +kernel
theorem d_Overlay_layOver_104 : decode b_Overlay_layOver 104 = .ok (.invokevirtual 52, 3) := by decide +kernel
theorem d_Overlay_layOver_107 : decode b_Overlay_layOver 107 = .ok (.aload_n 0, 1) := by decide +kernel
theorem d_Overlay_layOver_108 : decode b_Overlay_layOver 108 = .ok (.aload_n 1, 1) := by decide +kernel
theorem d_Overlay_layOver_109 : decode b_Overlay_layOver 109 = .ok (.getfield 56, 3) := by decide +kernel
theorem d_Overlay_layOver_112 : decode b_Overlay_layOver 112 = .ok (.iload 4, 2) := by decide +kernel
theorem d_Overlay_layOver_114 : decode b_Overlay_layOver 114 = .ok (.iaload, 1) := by decide +kernel
theorem d_Overlay_layOver_115 : decode b_Overlay_layOver 115 = .ok (.invokevirtual 52, 3) := by decide +kernel
theorem d_Overlay_layOver_118 : decode b_Overlay_layOver 118 = .ok (.invokevirtual 59, 3) := by decide +kernel
theorem d_Overlay_layOver_121 : decode b_Overlay_layOver 121 = .ok (.iastore, 1) := by decide +kernel
theorem d_Overlay_layOver_122 : decode b_Overlay_layOver 122 = .ok (.iinc 3 1, 3) := by decide +kernel
theorem d_Overlay_layOver_125 : decode b_Overlay_layOver 125 = .ok (.goto (-52), 3) := by decide +kernel
theorem d_Overlay_layOver_128 : decode b_Overlay_layOver 128 = .ok (.return_, 1) := by decide +kernel
