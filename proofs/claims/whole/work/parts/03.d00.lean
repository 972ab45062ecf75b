theorem d_Tape_init_0 : decode b_Tape_init 0 = .ok (.aload_n 0, 1) := by decide +kernel
theorem d_Tape_init_1 : decode b_Tape_init 1 = .ok (.invokespecial 3, 3) := by decide +kernel
theorem d_Tape_init_4 : decode b_Tape_init 4 = .ok (.aload_n 0, 1) := by decide +kernel
theorem d_Tape_init_5 : decode b_Tape_init 5 = .ok (.bipush 20, 2) := by decide +kernel
theorem d_Tape_init_7 : decode b_Tape_init 7 = .ok (.newarray .byte, 2) := by decide +kernel
theorem d_Tape_init_9 : decode b_Tape_init 9 = .ok (.putfield 9, 3) := by decide +kernel
theorem d_Tape_init_12 : decode b_Tape_init 12 = .ok (.aload_n 0, 1) := by decide +kernel
theorem d_Tape_init_13 : decode b_Tape_init 13 = .ok (.sipush 6000, 3) := by decide +kernel
theorem d_Tape_init_16 : decode b_Tape_init 16 = .ok (.newarray .byte, 2) := by decide +kernel
theorem d_Tape_init_18 : decode b_Tape_init 18 = .ok (.putfield 15, 3) := by decide +kernel
theorem d_Tape_init_21 : decode b_Tape_init 21 = .ok (.return_, 1) := by decide +kernel
theorem d_Sorter_init_0 : decode b_Sorter_init 0 = .ok (.aload_n 0, 1) := by decide +kernel
theorem d_Sorter_init_1 : decode b_Sorter_init 1 = .ok (.invokespecial 3, 3) := by decide +kernel
theorem d_Sorter_init_4 : decode b_Sorter_init 4 = .ok (.aload_n 0, 1) := by decide +kernel
theorem d_Sorter_init_5 : decode b_Sorter_init 5 = .ok (.sipush 150, 3) := by decide +kernel
theorem d_Sorter_init_8 : decode b_Sorter_init 8 = .ok (.newarray .int, 2) := by decide +kernel
theorem d_Sorter_init_10 : decode b_Sorter_init 10 = .ok (.putfield 9, 3) := by decide +kernel
theorem d_Sorter_init_13 : decode b_Sorter_init 13 = .ok (.aload_n 0, 1) := by decide +kernel
theorem d_Sorter_init_14 : decode b_Sorter_init 14 = .ok (.sipush 201, 3) := by decide +kernel
theorem d_Sorter_init_17 : decode b_Sorter_init 17 = .ok (.newarray .boolean, 2) := by decide +kernel
theorem d_Sorter_init_19 : decode b_Sorter_init 19 = .ok (.putfield 15, 3) := by decide +kernel
theorem d_Sorter_init_22 : decode b_Sorter_init 22 = .ok (.aload_n 0, 1) := by decide +kernel
theorem d_Sorter_init_23 : decode b_Sorter_init 23 = .ok (.sipush 201, 3) := by decide +kernel
theorem d_Sorter_init_26 : decode b_Sorter_init 26 = .ok (.newarray .boolean, 2) := by decide +kernel
theorem d_Sorter_init_28 : decode b_Sorter_init 28 = .ok (.putfield 19, 3) := by decide +kernel
theorem d_Sorter_init_31 : decode b_Sorter_init 31 = .ok (.aload_n 0, 1) := by decide +kernel
theorem d_Sorter_init_32 : decode b_Sorter_init 32 = .ok (.sipush 201, 3) := by decide +kernel
theorem d_Sorter_init_35 : decode b_Sorter_init 35 = .ok (.newarray .int, 2) := by decide +kernel
theorem d_Sorter_init_37 : decode b_Sorter_init 37 = .ok (.putfield 22, 3) := by decide +kernel
theorem d_Sorter_init_40 : decode b_Sorter_init 40 = .ok (.return_, 1) := by decide +kernel
theorem d_Circuit_init_0 : decode b_Circuit_init 0 = .ok (.aload_n 0, 1) := by decide +kernel
theorem d_Circuit_init_1 : decode b_Circuit_init 1 = .ok (.invokespecial 3, 3) := by decide +kernel
theorem d_Circuit_init_4 : decode b_Circuit_init 4 = .ok (.aload_n 0, 1) := by decide +kernel
theorem d_Circuit_init_5 : decode b_Circuit_init 5 = .ok (.sipush 201, 3) := by decide +kernel
theorem d_Circuit_init_8 : decode b_Circuit_init 8 = .ok (.newarray .byte, 2) := by decide +kernel
theorem d_Circuit_init_10 : decode b_Circuit_init 10 = .ok (.putfield 9, 3) := by decide +kernel
theorem d_Circuit_init_13 : decode b_Circuit_init 13 = .ok (.aload_n 0, 1) := by decide +kernel
theorem d_Circuit_init_14 : decode b_Circuit_init 14 = .ok (.sipush 201, 3) := by decide +kernel
theorem d_Circuit_init_17 : decode b_Circuit_init 17 = .ok (.newarray .int, 2) := by decide +kernel
theorem d_Circuit_init_19 : decode b_Circuit_init 19 = .ok (.putfield 15, 3) := by decide +kernel
theorem d_Circuit_init_22 : decode b_Circuit_init 22 = .ok (.aload_n 0, 1) := by decide +kernel
theorem d_Circuit_init_23 : decode b_Circuit_init 23 = .ok (.sipush 201, 3) := by decide +kernel
theorem d_Circuit_init_26 : decode b_Circuit_init 26 = .ok (.newarray .int, 2) := by decide +kernel
theorem d_Circuit_init_28 : decode b_Circuit_init 28 = .ok (.putfield 19, 3) := by decide +kernel
theorem d_Circuit_init_31 : decode b_Circuit_init 31 = .ok (.aload_n 0, 1) := by decide +kernel
theorem d_Circuit_init_32 : decode b_Circuit_init 32 = .ok (.iconst 5, 1) := by decide +kernel
theorem d_Circuit_init_33 : decode b_Circuit_init 33 = .ok (.newarray .int, 2) := by decide +kernel
theorem d_Circuit_init_35 : decode b_Circuit_init 35 = .ok (.putfield 22, 3) := by decide +kernel
theorem d_Circuit_init_38 : decode b_Circuit_init 38 = .ok (.aload_n 0, 1) := by decide +kernel
theorem d_Circuit_init_39 : decode b_Circuit_init 39 = .ok (.bipush 6, 2) := by decide +kernel
theorem d_Circuit_init_41 : decode b_Circuit_init 41 = .ok (.newarray .int, 2) := by decide +kernel
theorem d_Circuit_init_43 : decode b_Circuit_init 43 = .ok (.putfield 25, 3) := by decide +kernel
theorem d_Circuit_init_46 : decode b_Circuit_init 46 = .ok (.aload_n 0, 1) := by decide +kernel
theorem d_Circuit_init_47 : decode b_Circuit_init 47 = .ok (.bipush 6, 2) := by decide +kernel
theorem d_Circuit_init_49 : decode b_Circuit_init 49 = .ok (.newarray .int, 2) := by decide +kernel
theorem d_Circuit_init_51 : decode b_Circuit_init 51 = .ok (.putfield 28, 3) := by decide +kernel
theorem d_Circuit_init_54 : decode b_Circuit_init 54 = .ok (.aload_n 0, 1) := by decide +kernel
theorem d_Circuit_init_55 : decode b_Circuit_init 55 = .ok (.bipush 8, 2) := by decide +kernel
theorem d_Circuit_init_57 : decode b_Circuit_init 57 = .ok (.newarray .int, 2) := by decide +kernel
theorem d_Circuit_init_59 : decode b_Circuit_init 59 = .ok (.putfield 31, 3) := by decide +kernel
theorem d_Circuit_init_62 : decode b_Circuit_init 62 = .ok (.aload_n 0, 1) := by decide +kernel
theorem d_Circuit_init_63 : decode b_Circuit_init 63 = .ok (.sipush 150, 3) := by decide +kernel
theorem d_Circuit_init_66 : decode b_Circuit_init 66 = .ok (.newarray .int, 2) := by decide +kernel
theorem d_Circuit_init_68 : decode b_Circuit_init 68 = .ok (.putfield 34, 3) := by decide +kernel
theorem d_Circuit_init_71 : decode b_Circuit_init 71 = .ok (.aload_n 0, 1) := by decide +kernel
theorem d_Circuit_init_72 : decode b_Circuit_init 72 = .ok (.sipush 760, 3) := by decide +kernel
theorem d_Circuit_init_75 : decode b_Circuit_init 75 = .ok (.newarray .byte, 2) := by decide +kernel
theorem d_Circuit_init_77 : decode b_Circuit_init 77 = .ok (.putfield 37, 3) := by decide +kernel
theorem d_Circuit_init_80 : decode b_Circuit_init 80 = .ok (.aload_n 0, 1) := by decide +kernel
theorem d_Circuit_init_81 : decode b_Circuit_init 81 = .ok (.bipush 19, 2) := by decide +kernel
theorem d_Circuit_init_83 : decode b_Circuit_init 83 = .ok (.newarray .int, 2) := by decide +kernel
theorem d_Circuit_init_85 : decode b_Circuit_init 85 = .ok (.putfield 40, 3) := by decide +kernel
theorem d_Circuit_init_88 : decode b_Circuit_init 88 = .ok (.return_, 1) := by decide +kernel
theorem d_Reader_init_0 : decode b_Reader_init 0 = .ok (.aload_n 0, 1) := by decide +kernel
theorem d_Reader_init_1 : decode b_Reader_init 1 = .ok (.invokespecial 3, 3) := by decide +kernel
theorem d_Reader_init_4 : decode b_Reader_init 4 = .ok (.aload_n 0, 1) := by decide +kernel
theorem d_Reader_init_5 : decode b_Reader_init 5 = .ok (.new 9, 3) := by decide +kernel
theorem d_Reader_init_8 : decode b_Reader_init 8 = .ok (.dup, 1) := by decide +kernel
theorem d_Reader_init_9 : decode b_Reader_init 9 = .ok (.invokespecial 11, 3) := by decide +kernel
theorem d_Reader_init_12 : decode b_Reader_init 12 = .ok (.putfield 12, 3) := by decide +kernel
theorem d_Reader_init_15 : decode b_Reader_init 15 = .ok (.aload_n 0, 1) := by decide +kernel
theorem d_Reader_init_16 : decode b_Reader_init 16 = .ok (.new 18, 3) := by decide +kernel
theorem d_Reader_init_19 : decode b_Reader_init 19 = .ok (.dup, 1) := by decide +kernel
theorem d_Reader_init_20 : decode b_Reader_init 20 = .ok (.invokespecial 20, 3) := by decide +kernel
theorem d_Reader_init_23 : decode b_Reader_init 23 = .ok (.putfield 21, 3) := by decide +kernel
theorem d_Reader_init_26 : decode b_Reader_init 26 = .ok (.aload_n 0, 1) := by decide +kernel
theorem d_Reader_init_27 : decode b_Reader_init 27 = .ok (.iconst 5, 1) := by decide +kernel
theorem d_Reader_init_28 : decode b_Reader_init 28 = .ok (.newarray .int, 2) := by decide +kernel
theorem d_Reader_init_30 : decode b_Reader_init 30 = .ok (.putfield 25, 3) := by decide +kernel
theorem d_Reader_init_33 : decode b_Reader_init 33 = .ok (.aload_n 0, 1) := by decide +kernel
theorem d_Reader_init_34 : decode b_Reader_init 34 = .ok (.sipush 314, 3) := by decide +kernel
theorem d_Reader_init_37 : decode b_Reader_init 37 = .ok (.newarray .int, 2) := by decide +kernel
theorem d_Reader_init_39 : decode b_Reader_init 39 = .ok (.putfield 29, 3) := by decide +kernel
theorem d_Reader_init_42 : decode b_Reader_init 42 = .ok (.aload_n 0, 1) := by decide +kernel
theorem d_Reader_init_43 : decode b_Reader_init 43 = .ok (.sipush 314, 3) := by decide +kernel
theorem d_Reader_init_46 : decode b_Reader_init 46 = .ok (.newarray .int, 2) := by decide +kernel
theorem d_Reader_init_48 : decode b_Reader_init 48 = .ok (.putfield 32, 3) := by decide +kernel
theorem d_Reader_init_51 : decode b_Reader_init 51 = .ok (.aload_n 0, 1) := by decide +kernel
theorem d_Reader_init_52 : decode b_Reader_init 52 = .ok (.iconst (-1), 1) := by decide +kernel
theorem d_Reader_init_53 : decode b_Reader_init 53 = .ok (.putfield 35, 3) := by decide +kernel
theorem d_Reader_init_56 : decode b_Reader_init 56 = .ok (.aload_n 0, 1) := by decide +kernel
theorem d_Reader_init_57 : decode b_Reader_init 57 = .ok (.aload_n 1, 1) := by decide +kernel
theorem d_Reader_init_58 : decode b_Reader_init 58 = .ok (.putfield 39, 3) := by decide +kernel
theorem d_Reader_init_61 : decode b_Reader_init 61 = .ok (.return_, 1) := by decide +kernel
theorem d_Player_init_0 : decode b_Player_init 0 = .ok (.aload_n 0, 1) := by decide +kernel
theorem d_Player_init_1 : decode b_Player_init 1 = .ok (.invokespecial 3, 3) := by decide +kernel
theorem d_Player_init_4 : decode b_Player_init 4 = .ok (.aload_n 0, 1) := by decide +kernel
theorem d_Player_init_5 : decode b_Player_init 5 = .ok (.iconst 2, 1) := by decide +kernel
theorem d_Player_init_6 : decode b_Player_init 6 = .ok (.newarray .int, 2) := by decide +kernel
theorem d_Player_init_8 : decode b_Player_init 8 = .ok (.putfield 9, 3) := by decide +kernel
theorem d_Player_init_11 : decode b_Player_init 11 = .ok (.aload_n 0, 1) := by decide +kernel
theorem d_Player_init_12 : decode b_Player_init 12 = .ok (.iconst 5, 1) := by decide +kernel
theorem d_Player_init_13 : decode b_Player_init 13 = .ok (.newarray .int, 2) := by decide +kernel
theorem d_Player_init_15 : decode b_Player_init 15 = .ok (.putfield 15, 3) := by decide +kernel
theorem d_Player_init_18 : decode b_Player_init 18 = .ok (.aload_n 0, 1) := by decide +kernel
theorem d_Player_init_19 : decode b_Player_init 19 = .ok (.sipush 201, 3) := by decide +kernel
theorem d_Player_init_22 : decode b_Player_init 22 = .ok (.newarray .int, 2) := by decide +kernel
theorem d_Player_init_24 : decode b_Player_init 24 = .ok (.putfield 18, 3) := by decide +kernel
theorem d_Player_init_27 : decode b_Player_init 27 = .ok (.aload_n 0, 1) := by decide +kernel
theorem d_Player_init_28 : decode b_Player_init 28 = .ok (.aload_n 1, 1) := by decide +kernel
theorem d_Player_init_29 : decode b_Player_init 29 = .ok (.putfield 21, 3) := by decide +kernel
theorem d_Player_init_32 : decode b_Player_init 32 = .ok (.return_, 1) := by decide +kernel
theorem d_Judge_init_0 : decode b_Judge_init 0 = .ok (.aload_n 0, 1) := by decide +kernel
theorem d_Judge_init_1 : decode b_Judge_init 1 = .ok (.invokespecial 3, 3) := by decide +kernel
theorem d_Judge_init_4 : decode b_Judge_init 4 = .ok (.aload_n 0, 1) := by decide +kernel
theorem d_Judge_init_5 : decode b_Judge_init 5 = .ok (.new 9, 3) := by decide +kernel
theorem d_Judge_init_8 : decode b_Judge_init 8 = .ok (.dup, 1) := by decide +kernel
theorem d_Judge_init_9 : decode b_Judge_init 9 = .ok (.invokespecial 11, 3) := by decide +kernel
theorem d_Judge_init_12 : decode b_Judge_init 12 = .ok (.putfield 12, 3) := by decide +kernel
theorem d_Judge_init_15 : decode b_Judge_init 15 = .ok (.aload_n 0, 1) := by decide +kernel
theorem d_Judge_init_16 : decode b_Judge_init 16 = .ok (.new 16, 3) := by decide +kernel
theorem d_Judge_init_19 : decode b_Judge_init 19 = .ok (.dup, 1) := by decide +kernel
theorem d_Judge_init_20 : decode b_Judge_init 20 = .ok (.aload_n 0, 1) := by decide +kernel
theorem d_Judge_init_21 : decode b_Judge_init 21 = .ok (.getfield 12, 3) := by decide +kernel
theorem d_Judge_init_24 : decode b_Judge_init 24 = .ok (.invokespecial 18, 3) := by decide +kernel
theorem d_Judge_init_27 : decode b_Judge_init 27 = .ok (.putfield 21, 3) := by decide +kernel
theorem d_Judge_init_30 : decode b_Judge_init 30 = .ok (.aload_n 0, 1) := by decide +kernel
theorem d_Judge_init_31 : decode b_Judge_init 31 = .ok (.iconst 2, 1) := by decide +kernel
theorem d_Judge_init_32 : decode b_Judge_init 32 = .ok (.anewarray 25, 3) := by decide +kernel
theorem d_Judge_init_35 : decode b_Judge_init 35 = .ok (.putfield 27, 3) := by decide +kernel
theorem d_Judge_init_38 : decode b_Judge_init 38 = .ok (.iconst 0, 1) := by decide +kernel
theorem d_Judge_init_39 : decode b_Judge_init 39 = .ok (.istore_n 1, 1) := by decide +kernel
theorem d_Judge_init_40 : decode b_Judge_init 40 = .ok (.iload_n 1, 1) := by decide +kernel
theorem d_Judge_init_41 : decode b_Judge_init 41 = .ok (.iconst 2, 1) := by decide +kernel
theorem d_Judge_init_42 : decode b_Judge_init 42 = .ok (.if_icmp .ge 22, 3) := by decide +kernel
theorem d_Judge_init_45 : decode b_Judge_init 45 = .ok (.aload_n 0, 1) := by decide +kernel
theorem d_Judge_init_46 : decode b_Judge_init 46 = .ok (.getfield 27, 3) := by decide +kernel
theorem d_Judge_init_49 : decode b_Judge_init 49 = .ok (.iload_n 1, 1) := by decide +kernel
theorem d_Judge_init_50 : decode b_Judge_init 50 = .ok (.new 25, 3) := by decide +kernel
theorem d_Judge_init_53 : decode b_Judge_init 53 = .ok (.dup, 1) := by decide +kernel
theorem d_Judge_init_54 : decode b_Judge_init 54 = .ok (.invokespecial 31, 3) := by decide +kernel
theorem d_Judge_init_57 : decode b_Judge_init 57 = .ok (.aastore, 1) := by decide +kernel
theorem d_Judge_init_58 : decode b_Judge_init 58 = .ok (.iinc 1 1, 3) := by decide +kernel
theorem d_Judge_init_61 : decode b_Judge_init 61 = .ok (.goto (-21), 3) := by decide +kernel
theorem d_Judge_init_64 : decode b_Judge_init 64 = .ok (.aload_n 0, 1) := by decide +kernel
theorem d_Judge_init_65 : decode b_Judge_init 65 = .ok (.new 32, 3) := by decide +kernel
theorem d_Judge_init_68 : decode b_Judge_init 68 = .ok (.dup, 1) := by decide +kernel
theorem d_Judge_init_69 : decode b_Judge_init 69 = .ok (.aload_n 0, 1) := by decide +kernel
theorem d_Judge_init_70 : decode b_Judge_init 70 = .ok (.getfield 27, 3) := by decide +kernel
theorem d_Judge_init_73 : decode b_Judge_init 73 = .ok (.invokespecial 34, 3) := by decide +kernel
theorem d_Judge_init_76 : decode b_Judge_init 76 = .ok (.putfield 37, 3) := by decide +kernel
theorem d_Judge_init_79 : decode b_Judge_init 79 = .ok (.return_, 1) := by decide +kernel
theorem d_Tape_prepare_0 : decode b_Tape_prepare 0 = .ok (.iconst 0, 1) := by decide +kernel
theorem d_Tape_prepare_1 : decode b_Tape_prepare 1 = .ok (.istore_n 3, 1) := by decide +kernel
theorem d_Tape_prepare_2 : decode b_Tape_prepare 2 = .ok (.iload_n 3, 1) := by decide +kernel
theorem d_Tape_prepare_3 : decode b_Tape_prepare 3 = .ok (.iconst 4, 1) := by decide +kernel
theorem d_Tape_prepare_4 : decode b_Tape_prepare 4 = .ok (.if_icmp .ge 27, 3) := by decide +kernel
theorem d_Tape_prepare_7 : decode b_Tape_prepare 7 = .ok (.aload_n 0, 1) := by decide +kernel
theorem d_Tape_prepare_8 : decode b_Tape_prepare 8 = .ok (.getfield 9, 3) := by decide +kernel
theorem d_Tape_prepare_11 : decode b_Tape_prepare 11 = .ok (.iload_n 1, 1) := by decide +kernel
theorem d_Tape_prepare_12 : decode b_Tape_prepare 12 = .ok (.iload_n 3, 1) := by decide +kernel
theorem d_Tape_prepare_13 : decode b_Tape_prepare 13 = .ok (.iadd, 1) := by decide +kernel
theorem d_Tape_prepare_14 : decode b_Tape_prepare 14 = .ok (.iload_n 2, 1) := by decide +kernel
theorem d_Tape_prepare_15 : decode b_Tape_prepare 15 = .ok (.bipush 24, 2) := by decide +kernel
theorem d_Tape_prepare_17 : decode b_Tape_prepare 17 = .ok (.bipush 8, 2) := by decide +kernel
theorem d_Tape_prepare_19 : decode b_Tape_prepare 19 = .ok (.iload_n 3, 1) := by decide +kernel
theorem d_Tape_prepare_20 : decode b_Tape_prepare 20 = .ok (.imul, 1) := by decide +kernel
theorem d_Tape_prepare_21 : decode b_Tape_prepare 21 = .ok (.isub, 1) := by decide +kernel
theorem d_Tape_prepare_22 : decode b_Tape_prepare 22 = .ok (.ishr, 1) := by decide +kernel
theorem d_Tape_prepare_23 : decode b_Tape_prepare 23 = .ok (.i2b, 1) := by decide +kernel
theorem d_Tape_prepare_24 : decode b_Tape_prepare 24 = .ok (.bastore, 1) := by decide +kernel
theorem d_Tape_prepare_25 : decode b_Tape_prepare 25 = .ok (.iinc 3 1, 3) := by decide +kernel
theorem d_Tape_prepare_28 : decode b_Tape_prepare 28 = .ok (.goto (-26), 3) := by decide +kernel
theorem d_Tape_prepare_31 : decode b_Tape_prepare 31 = .ok (.return_, 1) := by decide +kernel
theorem d_Judge_feed_0 : decode b_Judge_feed 0 = .ok (.aload_n 0, 1) := by decide +kernel
theorem d_Judge_feed_1 : decode b_Judge_feed 1 = .ok (.getfield 12, 3) := by decide +kernel
theorem d_Judge_feed_4 : decode b_Judge_feed 4 = .ok (.iconst 0, 1) := by decide +kernel
theorem d_Judge_feed_5 : decode b_Judge_feed 5 = .ok (.iload_n 1, 1) := by decide +kernel
theorem d_Judge_feed_6 : decode b_Judge_feed 6 = .ok (.invokevirtual 41, 3) := by decide +kernel
theorem d_Judge_feed_9 : decode b_Judge_feed 9 = .ok (.aload_n 0, 1) := by decide +kernel
theorem d_Judge_feed_10 : decode b_Judge_feed 10 = .ok (.getfield 12, 3) := by decide +kernel
theorem d_Judge_feed_13 : decode b_Judge_feed 13 = .ok (.iconst 4, 1) := by decide +kernel
theorem d_Judge_feed_14 : decode b_Judge_feed 14 = .ok (.iload_n 2, 1) := by decide +kernel
theorem d_Judge_feed_15 : decode b_Judge_feed 15 = .ok (.invokevirtual 41, 3) := by decide +kernel
theorem d_Judge_feed_18 : decode b_Judge_feed 18 = .ok (.aload_n 0, 1) := by decide +kernel
theorem d_Judge_feed_19 : decode b_Judge_feed 19 = .ok (.getfield 12, 3) := by decide +kernel
theorem d_Judge_feed_22 : decode b_Judge_feed 22 = .ok (.bipush 8, 2) := by decide +kernel
theorem d_Judge_feed_24 : decode b_Judge_feed 24 = .ok (.iload_n 3, 1) := by decide +kernel
theorem d_Judge_feed_25 : decode b_Judge_feed 25 = .ok (.invokevirtual 41, 3) := by decide +kernel
theorem d_Judge_feed_28 : decode b_Judge_feed 28 = .ok (.aload_n 0, 1) := by decide +kernel
theorem d_Judge_feed_29 : decode b_Judge_feed 29 = .ok (.getfield 12, 3) := by decide +kernel
theorem d_Judge_feed_32 : decode b_Judge_feed 32 = .ok (.bipush 12, 2) := by decide +kernel
theorem d_Judge_feed_34 : decode b_Judge_feed 34 = .ok (.iload 4, 2) := by decide +kernel
theorem d_Judge_feed_36 : decode b_Judge_feed 36 = .ok (.invokevirtual 41, 3) := by decide +kernel
theorem d_Judge_feed_39 : decode b_Judge_feed 39 = .ok (.aload_n 0, 1) := by decide +kernel
theorem d_Judge_feed_40 : decode b_Judge_feed 40 = .ok (.getfield 12, 3) := by decide +kernel
theorem d_Judge_feed_43 : decode b_Judge_feed 43 = .ok (.bipush 16, 2) := by decide +kernel
theorem d_Judge_feed_45 : decode b_Judge_feed 45 = .ok (.iload 5, 2) := by decide +kernel
theorem d_Judge_feed_47 : decode b_Judge_feed 47 = .ok (.invokevirtual 41, 3) := by decide +kernel
theorem d_Judge_feed_50 : decode b_Judge_feed 50 = .ok (.return_, 1) := by decide +kernel
theorem d_Arrays_fill_0 : decode b_Arrays_fill 0 = .ok (.iconst 0, 1) := by decide +kernel
theorem d_Arrays_fill_1 : decode b_Arrays_fill 1 = .ok (.istore_n 2, 1) := by decide +kernel
theorem d_Arrays_fill_2 : decode b_Arrays_fill 2 = .ok (.aload_n 0, 1) := by decide +kernel
theorem d_Arrays_fill_3 : decode b_Arrays_fill 3 = .ok (.arraylength, 1) := by decide +kernel
theorem d_Arrays_fill_4 : decode b_Arrays_fill 4 = .ok (.istore_n 3, 1) := by decide +kernel
theorem d_Arrays_fill_5 : decode b_Arrays_fill 5 = .ok (.iload_n 2, 1) := by decide +kernel
theorem d_Arrays_fill_6 : decode b_Arrays_fill 6 = .ok (.iload_n 3, 1) := by decide +kernel
theorem d_Arrays_fill_7 : decode b_Arrays_fill 7 = .ok (.if_icmp .ge 13, 3) := by decide +kernel
theorem d_Arrays_fill_10 : decode b_Arrays_fill 10 = .ok (.aload_n 0, 1) := by decide +kernel
theorem d_Arrays_fill_11 : decode b_Arrays_fill 11 = .ok (.iload_n 2, 1) := by decide +kernel
theorem d_Arrays_fill_12 : decode b_Arrays_fill 12 = .ok (.iload_n 1, 1) := by decide +kernel
theorem d_Arrays_fill_13 : decode b_Arrays_fill 13 = .ok (.bastore, 1) := by decide +kernel
theorem d_Arrays_fill_14 : decode b_Arrays_fill 14 = .ok (.iinc 2 1, 3) := by decide +kernel
theorem d_Arrays_fill_17 : decode b_Arrays_fill 17 = .ok (.goto (-12), 3) := by decide +kernel
theorem d_Arrays_fill_20 : decode b_Arrays_fill 20 = .ok (.return_, 1) := by decide +kernel
theorem d_Tape_append_0 : decode b_Tape_append 0 = .ok (.iload_n 1, 1) := by decide +kernel
theorem d_Tape_append_1 : decode b_Tape_append 1 = .ok (.ifCond .lt 21, 3) := by decide +kernel
theorem d_Tape_append_4 : decode b_Tape_append 4 = .ok (.iload_n 1, 1) := by decide +kernel
theorem d_Tape_append_5 : decode b_Tape_append 5 = .ok (.bipush 20, 2) := by decide +kernel
theorem d_Tape_append_7 : decode b_Tape_append 7 = .ok (.if_icmp .gt 15, 3) := by decide +kernel
theorem d_Tape_append_10 : decode b_Tape_append 10 = .ok (.iload_n 1, 1) := by decide +kernel
theorem d_Tape_append_11 : decode b_Tape_append 11 = .ok (.sipush 6000, 3) := by decide +kernel
theorem d_Tape_append_14 : decode b_Tape_append 14 = .ok (.aload_n 0, 1) := by decide +kernel
theorem d_Tape_append_15 : decode b_Tape_append 15 = .ok (.getfield 18, 3) := by decide +kernel
theorem d_Tape_append_18 : decode b_Tape_append 18 = .ok (.isub, 1) := by decide +kernel
theorem d_Tape_append_19 : decode b_Tape_append 19 = .ok (.if_icmp .le 5, 3) := by decide +kernel
theorem d_Tape_append_22 : decode b_Tape_append 22 = .ok (.iconst (-1), 1) := by decide +kernel
theorem d_Tape_append_23 : decode b_Tape_append 23 = .ok (.ireturn, 1) := by decide +kernel
theorem d_Tape_append_24 : decode b_Tape_append 24 = .ok (.aload_n 0, 1) := by decide +kernel
theorem d_Tape_append_25 : decode b_Tape_append 25 = .ok (.getfield 9, 3) := by decide +kernel
theorem d_Tape_append_28 : decode b_Tape_append 28 = .ok (.iconst 0, 1) := by decide +kernel
theorem d_Tape_append_29 : decode b_Tape_append 29 = .ok (.aload_n 0, 1) := by decide +kernel
theorem d_Tape_append_30 : decode b_Tape_append 30 = .ok (.getfield 15, 3) := by decide +kernel
theorem d_Tape_append_33 : decode b_Tape_append 33 = .ok (.aload_n 0, 1) := by decide +kernel
theorem d_Tape_append_34 : decode b_Tape_append 34 = .ok (.getfield 18, 3) := by decide +kernel
theorem d_Tape_append_37 : decode b_Tape_append 37 = .ok (.iload_n 1, 1) := by decide +kernel
theorem d_Tape_append_38 : decode b_Tape_append 38 = .ok (.invokestatic 22, 3) := by decide +kernel
theorem d_Tape_append_41 : decode b_Tape_append 41 = .ok (.aload_n 0, 1) := by decide +kernel
theorem d_Tape_append_42 : decode b_Tape_append 42 = .ok (.dup, 1) := by decide +kernel
theorem d_Tape_append_43 : decode b_Tape_append 43 = .ok (.getfield 18, 3) := by decide +kernel
theorem d_Tape_append_46 : decode b_Tape_append 46 = .ok (.iload_n 1, 1) := by decide +kernel
theorem d_Tape_append_47 : decode b_Tape_append 47 = .ok (.iadd, 1) := by decide +kernel
theorem d_Tape_append_48 : decode b_Tape_append 48 = .ok (.putfield 18, 3) := by decide +kernel
theorem d_Tape_append_51 : decode b_Tape_append 51 = .ok (.aload_n 0, 1) := by decide +kernel
theorem d_Tape_append_52 : decode b_Tape_append 52 = .ok (.getfield 9, 3) := by decide +kernel
theorem d_Tape_append_55 : decode b_Tape_append 55 = .ok (.iconst 0, 1) := by decide +kernel
theorem d_Tape_append_56 : decode b_Tape_append 56 = .ok (.invokestatic 28, 3) := by decide +kernel
theorem d_Tape_append_59 : decode b_Tape_append 59 = .ok (.aload_n 0, 1) := by decide +kernel
theorem d_Tape_append_60 : decode b_Tape_append 60 = .ok (.getfield 18, 3) := by decide +kernel
theorem d_Tape_append_63 : decode b_Tape_append 63 = .ok (.ireturn, 1) := by decide +kernel
theorem d_Judge_end_0 : decode b_Judge_end 0 = .ok (.aload_n 0, 1) := by decide +kernel
theorem d_Judge_end_1 : decode b_Judge_end 1 = .ok (.getfield 12, 3) := by decide +kernel
theorem d_Judge_end_4 : decode b_Judge_end 4 = .ok (.iload_n 1, 1) := by decide +kernel
theorem d_Judge_end_5 : decode b_Judge_end 5 = .ok (.invokevirtual 45, 3) := by decide +kernel
theorem d_Judge_end_8 : decode b_Judge_end 8 = .ok (.ireturn, 1) := by decide +kernel
theorem d_Reader_forgetFault_0 : decode b_Reader_forgetFault 0 = .ok (.aload_n 0, 1) := by decide +kernel
theorem d_Reader_forgetFault_1 : decode b_Reader_forgetFault 1 = .ok (.iconst 0, 1) := by decide +kernel
theorem d_Reader_forgetFault_2 : decode b_Reader_forgetFault 2 = .ok (.putfield 43, 3) := by decide +kernel
theorem d_Reader_forgetFault_5 : decode b_Reader_forgetFault 5 = .ok (.aload_n 0, 1) := by decide +kernel
theorem d_Reader_forgetFault_6 : decode b_Reader_forgetFault 6 = .ok (.iconst (-1), 1) := by decide +kernel
theorem d_Reader_forgetFault_7 : decode b_Reader_forgetFault 7 = .ok (.putfield 35, 3) := by decide +kernel
theorem d_Reader_forgetFault_10 : decode b_Reader_forgetFault 10 = .ok (.return_, 1) := by decide +kernel
theorem d_Judge_isCircuit_0 : decode b_Judge_isCircuit 0 = .ok (.iload_n 0, 1) := by decide +kernel
theorem d_Judge_isCircuit_1 : decode b_Judge_isCircuit 1 = .ok (.ifCond .lt 12, 3) := by decide +kernel
theorem d_Judge_isCircuit_4 : decode b_Judge_isCircuit 4 = .ok (.iload_n 0, 1) := by decide +kernel
theorem d_Judge_isCircuit_5 : decode b_Judge_isCircuit 5 = .ok (.iconst 2, 1) := by decide +kernel
theorem d_Judge_isCircuit_6 : decode b_Judge_isCircuit 6 = .ok (.if_icmp .ge 7, 3) := by decide +kernel
theorem d_Judge_isCircuit_9 : decode b_Judge_isCircuit 9 = .ok (.iconst 1, 1) := by decide +kernel
theorem d_Judge_isCircuit_10 : decode b_Judge_isCircuit 10 = .ok (.goto 4, 3) := by decide +kernel
theorem d_Judge_isCircuit_13 : decode b_Judge_isCircuit 13 = .ok (.iconst 0, 1) := by decide +kernel
theorem d_Judge_isCircuit_14 : decode b_Judge_isCircuit 14 = .ok (.ireturn, 1) := by decide +kernel
theorem d_Arrays_fill1_0 : decode b_Arrays_fill1 0 = .ok (.iconst 0, 1) := by decide +kernel
theorem d_Arrays_fill1_1 : decode b_Arrays_fill1 1 = .ok (.istore_n 2, 1) := by decide +kernel
theorem d_Arrays_fill1_2 : decode b_Arrays_fill1 2 = .ok (.aload_n 0, 1) := by decide +kernel
theorem d_Arrays_fill1_3 : decode b_Arrays_fill1 3 = .ok (.arraylength, 1) := by decide +kernel
theorem d_Arrays_fill1_4 : decode b_Arrays_fill1 4 = .ok (.istore_n 3, 1) := by decide +kernel
theorem d_Arrays_fill1_5 : decode b_Arrays_fill1 5 = .ok (.iload_n 2, 1) := by decide +kernel
theorem d_Arrays_fill1_6 : decode b_Arrays_fill1 6 = .ok (.iload_n 3, 1) := by decide +kernel
theorem d_Arrays_fill1_7 : decode b_Arrays_fill1 7 = .ok (.if_icmp .ge 13, 3) := by decide +kernel
theorem d_Arrays_fill1_10 : decode b_Arrays_fill1 10 = .ok (.aload_n 0, 1) := by decide +kernel
theorem d_Arrays_fill1_11 : decode b_Arrays_fill1 11 = .ok (.iload_n 2, 1) := by decide +kernel
theorem d_Arrays_fill1_12 : decode b_Arrays_fill1 12 = .ok (.iload_n 1, 1) := by decide +kernel
theorem d_Arrays_fill1_13 : decode b_Arrays_fill1 13 = .ok (.iastore, 1) := by decide +kernel
theorem d_Arrays_fill1_14 : decode b_Arrays_fill1 14 = .ok (.iinc 2 1, 3) := by decide +kernel
theorem d_Arrays_fill1_17 : decode b_Arrays_fill1 17 = .ok (.goto (-12), 3) := by decide +kernel
theorem d_Arrays_fill1_20 : decode b_Arrays_fill1 20 = .ok (.return_, 1) := by decide +kernel
theorem d_Circuit_clear_0 : decode b_Circuit_clear 0 = .ok (.aload_n 0, 1) := by decide +kernel
theorem d_Circuit_clear_1 : decode b_Circuit_clear 1 = .ok (.getfield 9, 3) := by decide +kernel
theorem d_Circuit_clear_4 : decode b_Circuit_clear 4 = .ok (.iconst 0, 1) := by decide +kernel
theorem d_Circuit_clear_5 : decode b_Circuit_clear 5 = .ok (.invokestatic 43, 3) := by decide +kernel
theorem d_Circuit_clear_8 : decode b_Circuit_clear 8 = .ok (.aload_n 0, 1) := by decide +kernel
theorem d_Circuit_clear_9 : decode b_Circuit_clear 9 = .ok (.getfield 40, 3) := by decide +kernel
theorem d_Circuit_clear_12 : decode b_Circuit_clear 12 = .ok (.iconst 0, 1) := by decide +kernel
theorem d_Circuit_clear_13 : decode b_Circuit_clear 13 = .ok (.invokestatic 49, 3) := by decide +kernel
theorem d_Circuit_clear_16 : decode b_Circuit_clear 16 = .ok (.return_, 1) := by decide +kernel
theorem d_Tape_at_0 : decode b_Tape_at 0 = .ok (.iload_n 1, 1) := by decide +kernel
theorem d_Tape_at_1 : decode b_Tape_at 1 = .ok (.ifCond .lt 24, 3) := by decide +kernel
theorem d_Tape_at_4 : decode b_Tape_at 4 = .ok (.iload_n 1, 1) := by decide +kernel
theorem d_Tape_at_5 : decode b_Tape_at 5 = .ok (.aload_n 0, 1) := by decide +kernel
theorem d_Tape_at_6 : decode b_Tape_at 6 = .ok (.getfield 18, 3) := by decide +kernel
theorem d_Tape_at_9 : decode b_Tape_at 9 = .ok (.if_icmp .ge 16, 3) := by decide +kernel
theorem d_Tape_at_12 : decode b_Tape_at 12 = .ok (.aload_n 0, 1) := by decide +kernel
theorem d_Tape_at_13 : decode b_Tape_at 13 = .ok (.getfield 15, 3) := by decide +kernel
theorem d_Tape_at_16 : decode b_Tape_at 16 = .ok (.iload_n 1, 1) := by decide +kernel
theorem d_Tape_at_17 : decode b_Tape_at 17 = .ok (.baload, 1) := by decide +kernel
theorem d_Tape_at_18 : decode b_Tape_at 18 = .ok (.sipush 255, 3) := by decide +kernel
theorem d_Tape_at_21 : decode b_Tape_at 21 = .ok (.iand, 1) := by decide +kernel
theorem d_Tape_at_22 : decode b_Tape_at 22 = .ok (.goto 4, 3) := by decide +kernel
theorem d_Tape_at_25 : decode b_Tape_at 25 = .ok (.iconst (-1), 1) := by decide +kernel
theorem d_Tape_at_26 : decode b_Tape_at 26 = .ok (.ireturn, 1) := by decide +kernel
theorem d_Reader_fail_0 : decode b_Reader_fail 0 = .ok (.aload_n 0, 1) := by decide +kernel
theorem d_Reader_fail_1 : decode b_Reader_fail 1 = .ok (.iload_n 1, 1) := by decide +kernel
theorem d_Reader_fail_2 : decode b_Reader_fail 2 = .ok (.putfield 43, 3) := by decide +kernel
theorem d_Reader_fail_5 : decode b_Reader_fail 5 = .ok (.aload_n 0, 1) := by decide +kernel
theorem d_Reader_fail_6 : decode b_Reader_fail 6 = .ok (.iload_n 2, 1) := by decide +kernel
theorem d_Reader_fail_7 : decode b_Reader_fail 7 = .ok (.putfield 35, 3) := by decide +kernel
theorem d_Reader_fail_10 : decode b_Reader_fail 10 = .ok (.iconst 0, 1) := by decide +kernel
theorem d_Reader_fail_11 : decode b_Reader_fail 11 = .ok (.ireturn, 1) := by decide +kernel
theorem d_Reader_pass_0 : decode b_Reader_pass 0 = .ok (.aload_n 0, 1) := by decide +kernel
theorem d_Reader_pass_1 : decode b_Reader_pass 1 = .ok (.getfield 39, 3) := by decide +kernel
theorem d_Reader_pass_4 : decode b_Reader_pass 4 = .ok (.aload_n 0, 1) := by decide +kernel
theorem d_Reader_pass_5 : decode b_Reader_pass 5 = .ok (.getfield 46, 3) := by decide +kernel
theorem d_Reader_pass_8 : decode b_Reader_pass 8 = .ok (.invokevirtual 96, 3) := by decide +kernel
theorem d_Reader_pass_11 : decode b_Reader_pass 11 = .ok (.iload_n 1, 1) := by decide +kernel
theorem d_Reader_pass_12 : decode b_Reader_pass 12 = .ok (.if_icmp .eq 13, 3) := by decide +kernel
theorem d_Reader_pass_15 : decode b_Reader_pass 15 = .ok (.aload_n 0, 1) := by decide +kernel
theorem d_Reader_pass_16 : decode b_Reader_pass 16 = .ok (.iconst 1, 1) := by decide +kernel
theorem d_Reader_pass_17 : decode b_Reader_pass 17 = .ok (.aload_n 0, 1) := by decide +kernel
theorem d_Reader_pass_18 : decode b_Reader_pass 18 = .ok (.getfield 46, 3) := by decide +kernel
theorem d_Reader_pass_21 : decode b_Reader_pass 21 = .ok (.invokevirtual 101, 3) := by decide +kernel
theorem d_Reader_pass_24 : decode b_Reader_pass 24 = .ok (.ireturn, 1) := by decide +kernel
theorem d_Reader_pass_25 : decode b_Reader_pass 25 = .ok (.aload_n 0, 1) := by decide +kernel
theorem d_Reader_pass_26 : decode b_Reader_pass 26 = .ok (.dup, 1) := by decide +kernel
theorem d_Reader_pass_27 : decode b_Reader_pass 27 = .ok (.getfield 46, 3) := by decide +kernel
theorem d_Reader_pass_30 : decode b_Reader_pass 30 = .ok (.iconst 1, 1) := by decide +kernel
theorem d_Reader_pass_31 : decode b_Reader_pass 31 = .ok (.iadd, 1) := by decide +kernel
theorem d_Reader_pass_32 : decode b_Reader_pass 32 = .ok (.putfield 46, 3) := by decide +kernel
theorem d_Reader_pass_35 : decode b_Reader_pass 35 = .ok (.iconst 1, 1) := by decide +kernel
theorem d_Reader_pass_36 : decode b_Reader_pass 36 = .ok (.ireturn, 1) := by decide +kernel
theorem d_Reader_isDigit_0 : decode b_Reader_isDigit 0 = .ok (.iload_n 0, 1) := by decide +kernel
theorem d_Reader_isDigit_1 : decode b_Reader_isDigit 1 = .ok (.bipush 48, 2) := by decide +kernel
theorem d_Reader_isDigit_3 : decode b_Reader_isDigit 3 = .ok (.if_icmp .lt 13, 3) := by decide +kernel
theorem d_Reader_isDigit_6 : decode b_Reader_isDigit 6 = .ok (.iload_n 0, 1) := by decide +kernel
theorem d_Reader_isDigit_7 : decode b_Reader_isDigit 7 = .ok (.bipush 57, 2) := by decide +kernel
theorem d_Reader_isDigit_9 : decode b_Reader_isDigit 9 = .ok (.if_icmp .gt 7, 3) := by decide +kernel
theorem d_Reader_isDigit_12 : decode b_Reader_isDigit 12 = .ok (.iconst 1, 1) := by decide +kernel
theorem d_Reader_isDigit_13 : decode b_Reader_isDigit 13 = .ok (.goto 4, 3) := by decide +kernel
theorem d_Reader_isDigit_16 : decode b_Reader_isDigit 16 = .ok (.iconst 0, 1) := by decide +kernel
theorem d_Reader_isDigit_17 : decode b_Reader_isDigit 17 = .ok (.ireturn, 1) := by decide +kernel
theorem d_Reader_readNumber_0 : decode b_Reader_readNumber 0 = .ok (.aload_n 0, 1) := by decide +kernel
theorem d_Reader_readNumber_1 : decode b_Reader_readNumber 1 = .ok (.aload_n 0, 1) := by decide +kernel
theorem d_Reader_readNumber_2 : decode b_Reader_readNumber 2 = .ok (.getfield 46, 3) := by decide +kernel
theorem d_Reader_readNumber_5 : decode b_Reader_readNumber 5 = .ok (.putfield 105, 3) := by decide +kernel
theorem d_Reader_readNumber_8 : decode b_Reader_readNumber 8 = .ok (.aload_n 0, 1) := by decide +kernel
theorem d_Reader_readNumber_9 : decode b_Reader_readNumber 9 = .ok (.iconst 0, 1) := by decide +kernel
theorem d_Reader_readNumber_10 : decode b_Reader_readNumber 10 = .ok (.putfield 108, 3) := by decide +kernel
theorem d_Reader_readNumber_13 : decode b_Reader_readNumber 13 = .ok (.aload_n 0, 1) := by decide +kernel
theorem d_Reader_readNumber_14 : decode b_Reader_readNumber 14 = .ok (.getfield 39, 3) := by decide +kernel
theorem d_Reader_readNumber_17 : decode b_Reader_readNumber 17 = .ok (.aload_n 0, 1) := by decide +kernel
theorem d_Reader_readNumber_18 : decode b_Reader_readNumber 18 = .ok (.getfield 46, 3) := by decide +kernel
theorem d_Reader_readNumber_21 : decode b_Reader_readNumber 21 = .ok (.invokevirtual 96, 3) := by decide +kernel
theorem d_Reader_readNumber_24 : decode b_Reader_readNumber 24 = .ok (.istore_n 1, 1) := by decide +kernel
theorem d_Reader_readNumber_25 : decode b_Reader_readNumber 25 = .ok (.iload_n 1, 1) := by decide +kernel
theorem d_Reader_readNumber_26 : decode b_Reader_readNumber 26 = .ok (.invokestatic 111, 3) := by decide +kernel
theorem d_Reader_readNumber_29 : decode b_Reader_readNumber 29 = .ok (.ifCond .ne 13, 3) := by decide +kernel
theorem d_Reader_readNumber_32 : decode b_Reader_readNumber 32 = .ok (.aload_n 0, 1) := by decide +kernel
theorem d_Reader_readNumber_33 : decode b_Reader_readNumber 33 = .ok (.iconst 1, 1) := by decide +kernel
theorem d_Reader_readNumber_34 : decode b_Reader_readNumber 34 = .ok (.aload_n 0, 1) := by decide +kernel
theorem d_Reader_readNumber_35 : decode b_Reader_readNumber 35 = .ok (.getfield 46, 3) := by decide +kernel
theorem d_Reader_readNumber_38 : decode b_Reader_readNumber 38 = .ok (.invokevirtual 101, 3) := by decide +kernel
theorem d_Reader_readNumber_41 : decode b_Reader_readNumber 41 = .ok (.ireturn, 1) := by decide +kernel
theorem d_Reader_readNumber_42 : decode b_Reader_readNumber 42 = .ok (.iconst 0, 1) := by decide +kernel
theorem d_Reader_readNumber_43 : decode b_Reader_readNumber 43 = .ok (.istore_n 2, 1) := by decide +kernel
theorem d_Reader_readNumber_44 : decode b_Reader_readNumber 44 = .ok (.iload_n 2, 1) := by decide +kernel
theorem d_Reader_readNumber_45 : decode b_Reader_readNumber 45 = .ok (.iconst 4, 1) := by decide +kernel
theorem d_Reader_readNumber_46 : decode b_Reader_readNumber 46 = .ok (.if_icmp .ge 65, 3) := by decide +kernel
theorem d_Reader_readNumber_49 : decode b_Reader_readNumber 49 = .ok (.iload_n 1, 1) := by decide +kernel
theorem d_Reader_readNumber_50 : decode b_Reader_readNumber 50 = .ok (.invokestatic 111, 3) := by decide +kernel
theorem d_Reader_readNumber_53 : decode b_Reader_readNumber 53 = .ok (.ifCond .eq 58, 3) := by decide +kernel
theorem d_Reader_readNumber_56 : decode b_Reader_readNumber 56 = .ok (.iload_n 2, 1) := by decide +kernel
theorem d_Reader_readNumber_57 : decode b_Reader_readNumber 57 = .ok (.ifCond .eq 10, 3) := by decide +kernel
theorem d_Reader_readNumber_60 : decode b_Reader_readNumber 60 = .ok (.aload_n 0, 1) := by decide +kernel
theorem d_Reader_readNumber_61 : decode b_Reader_readNumber 61 = .ok (.getfield 108, 3) := by decide +kernel
theorem d_Reader_readNumber_64 : decode b_Reader_readNumber 64 = .ok (.ifCond .le 47, 3) := by decide +kernel
theorem d_Reader_readNumber_67 : decode b_Reader_readNumber 67 = .ok (.aload_n 0, 1) := by decide +kernel
theorem d_Reader_readNumber_68 : decode b_Reader_readNumber 68 = .ok (.bipush 10, 2) := by decide +kernel
theorem d_Reader_readNumber_70 : decode b_Reader_readNumber 70 = .ok (.aload_n 0, 1) := by decide +kernel
theorem d_Reader_readNumber_71 : decode b_Reader_readNumber 71 = .ok (.getfield 108, 3) := by decide +kernel
theorem d_Reader_readNumber_74 : decode b_Reader_readNumber 74 = .ok (.imul, 1) := by decide +kernel
theorem d_Reader_readNumber_75 : decode b_Reader_readNumber 75 = .ok (.iload_n 1, 1) := by decide +kernel
theorem d_Reader_readNumber_76 : decode b_Reader_readNumber 76 = .ok (.iadd, 1) := by decide +kernel
theorem d_Reader_readNumber_77 : decode b_Reader_readNumber 77 = .ok (.bipush 48, 2) := by decide +kernel
theorem d_Reader_readNumber_79 : decode b_Reader_readNumber 79 = .ok (.isub, 1) := by decide +kernel
theorem d_Reader_readNumber_80 : decode b_Reader_readNumber 80 = .ok (.putfield 108, 3) := by decide +kernel
theorem d_Reader_readNumber_83 : decode b_Reader_readNumber 83 = .ok (.aload_n 0, 1) := by decide +kernel
theorem d_Reader_readNumber_84 : decode b_Reader_readNumber 84 = .ok (.dup, 1) := by decide +kernel
theorem d_Reader_readNumber_85 : decode b_Reader_readNumber 85 = .ok (.getfield 46, 3) := by decide +kernel
theorem d_Reader_readNumber_88 : decode b_Reader_readNumber 88 = .ok (.iconst 1, 1) := by decide +kernel
theorem d_Reader_readNumber_89 : decode b_Reader_readNumber 89 = .ok (.iadd, 1) := by decide +kernel
theorem d_Reader_readNumber_90 : decode b_Reader_readNumber 90 = .ok (.putfield 46, 3) := by decide +kernel
theorem d_Reader_readNumber_93 : decode b_Reader_readNumber 93 = .ok (.aload_n 0, 1) := by decide +kernel
theorem d_Reader_readNumber_94 : decode b_Reader_readNumber 94 = .ok (.getfield 39, 3) := by decide +kernel
theorem d_Reader_readNumber_97 : decode b_Reader_readNumber 97 = .ok (.aload_n 0, 1) := by decide +kernel
theorem d_Reader_readNumber_98 : decode b_Reader_readNumber 98 = .ok (.getfield 46, 3) := by decide +kernel
theorem d_Reader_readNumber_101 : decode b_Reader_readNumber 101 = .ok (.invokevirtual 96, 3) := by decide +kernel
theorem d_Reader_readNumber_104 : decode b_Reader_readNumber 104 = .ok (.istore_n 1, 1) := by decide +kernel
theorem d_Reader_readNumber_105 : decode b_Reader_readNumber 105 = .ok (.iinc 2 1, 3) := by decide +kernel
theorem d_Reader_readNumber_108 : decode b_Reader_readNumber 108 = .ok (.goto (-64), 3) := by decide +kernel
theorem d_Reader_readNumber_111 : decode b_Reader_readNumber 111 = .ok (.iload_n 1, 1) := by decide +kernel
theorem d_Reader_readNumber_112 : decode b_Reader_readNumber 112 = .ok (.invokestatic 111, 3) := by decide +kernel
theorem d_Reader_readNumber_115 : decode b_Reader_readNumber 115 = .ok (.ifCond .eq 15, 3) := by decide +kernel
theorem d_Reader_readNumber_118 : decode b_Reader_readNumber 118 = .ok (.aload_n 0, 1) := by decide +kernel
theorem d_Reader_readNumber_119 : decode b_Reader_readNumber 119 = .ok (.iconst 1, 1) := by decide +kernel
theorem d_Reader_readNumber_120 : decode b_Reader_readNumber 120 = .ok (.aload_n 0, 1) := by decide +kernel
theorem d_Reader_readNumber_121 : decode b_Reader_readNumber 121 = .ok (.getfield 46, 3) := by decide +kernel
theorem d_Reader_readNumber_124 : decode b_Reader_readNumber 124 = .ok (.invokevirtual 101, 3) := by decide +kernel
theorem d_Reader_readNumber_127 : decode b_Reader_readNumber 127 = .ok (.ifCond .eq 7, 3) := by decide +kernel
theorem d_Reader_readNumber_130 : decode b_Reader_readNumber 130 = .ok (.iconst 1, 1) := by decide +kernel
theorem d_Reader_readNumber_131 : decode b_Reader_readNumber 131 = .ok (.goto 4, 3) := by decide +kernel
theorem d_Reader_readNumber_134 : decode b_Reader_readNumber 134 = .ok (.iconst 0, 1) := by decide +kernel
theorem d_Reader_readNumber_135 : decode b_Reader_readNumber 135 = .ok (.ireturn, 1) := by decide +kernel
theorem d_Reader_readHeader_0 : decode b_Reader_readHeader 0 = .ok (.aload_n 0, 1) := by decide +kernel
theorem d_Reader_readHeader_1 : decode b_Reader_readHeader 1 = .ok (.bipush 97, 2) := by decide +kernel
theorem d_Reader_readHeader_3 : decode b_Reader_readHeader 3 = .ok (.invokevirtual 115, 3) := by decide +kernel
theorem d_Reader_readHeader_6 : decode b_Reader_readHeader 6 = .ok (.ifCond .ne 5, 3) := by decide +kernel
theorem d_Reader_readHeader_9 : decode b_Reader_readHeader 9 = .ok (.iconst 0, 1) := by decide +kernel
theorem d_Reader_readHeader_10 : decode b_Reader_readHeader 10 = .ok (.ireturn, 1) := by decide +kernel
theorem d_Reader_readHeader_11 : decode b_Reader_readHeader 11 = .ok (.aload_n 0, 1) := by decide +kernel
theorem d_Reader_readHeader_12 : decode b_Reader_readHeader 12 = .ok (.aload_n 0, 1) := by decide +kernel
theorem d_Reader_readHeader_13 : decode b_Reader_readHeader 13 = .ok (.getfield 39, 3) := by decide +kernel
theorem d_Reader_readHeader_16 : decode b_Reader_readHeader 16 = .ok (.aload_n 0, 1) := by decide +kernel
theorem d_Reader_readHeader_17 : decode b_Reader_readHeader 17 = .ok (.getfield 46, 3) := by decide +kernel
theorem d_Reader_readHeader_20 : decode b_Reader_readHeader 20 = .ok (.invokevirtual 96, 3) := by decide +kernel
theorem d_Reader_readHeader_23 : decode b_Reader_readHeader 23 = .ok (.bipush 105, 2) := by decide +kernel
theorem d_Reader_readHeader_25 : decode b_Reader_readHeader 25 = .ok (.if_icmp .ne 7, 3) := by decide +kernel
theorem d_Reader_readHeader_28 : decode b_Reader_readHeader 28 = .ok (.iconst 1, 1) := by decide +kernel
theorem d_Reader_readHeader_29 : decode b_Reader_readHeader 29 = .ok (.goto 4, 3) := by decide +kernel
theorem d_Reader_readHeader_32 : decode b_Reader_readHeader 32 = .ok (.iconst 0, 1) := by decide +kernel
theorem d_Reader_readHeader_33 : decode b_Reader_readHeader 33 = .ok (.putfield 62, 3) := by decide +kernel
theorem d_Reader_readHeader_36 : decode b_Reader_readHeader 36 = .ok (.aload_n 0, 1) := by decide +kernel
theorem d_Reader_readHeader_37 : decode b_Reader_readHeader 37 = .ok (.aload_n 0, 1) := by decide +kernel
theorem d_Reader_readHeader_38 : decode b_Reader_readHeader 38 = .ok (.getfield 62, 3) := by decide +kernel
theorem d_Reader_readHeader_41 : decode b_Reader_readHeader 41 = .ok (.ifCond .eq 8, 3) := by decide +kernel
theorem d_Reader_readHeader_44 : decode b_Reader_readHeader 44 = .ok (.bipush 105, 2) := by decide +kernel
theorem d_Reader_readHeader_46 : decode b_Reader_readHeader 46 = .ok (.goto 5, 3) := by decide +kernel
theorem d_Reader_readHeader_49 : decode b_Reader_readHeader 49 = .ok (.bipush 97, 2) := by decide +kernel
theorem d_Reader_readHeader_51 : decode b_Reader_readHeader 51 = .ok (.invokevirtual 115, 3) := by decide +kernel
theorem d_Reader_readHeader_54 : decode b_Reader_readHeader 54 = .ok (.ifCond .eq 12, 3) := by decide +kernel
theorem d_Reader_readHeader_57 : decode b_Reader_readHeader 57 = .ok (.aload_n 0, 1) := by decide +kernel
theorem d_Reader_readHeader_58 : decode b_Reader_readHeader 58 = .ok (.bipush 103, 2) := by decide +kernel
theorem d_Reader_readHeader_60 : decode b_Reader_readHeader 60 = .ok (.invokevirtual 115, 3) := by decide +kernel
theorem d_Reader_readHeader_63 : decode b_Reader_readHeader 63 = .ok (.ifCond .ne 5, 3) := by decide +kernel
theorem d_Reader_readHeader_66 : decode b_Reader_readHeader 66 = .ok (.iconst 0, 1) := by decide +kernel
theorem d_Reader_readHeader_67 : decode b_Reader_readHeader 67 = .ok (.ireturn, 1) := by decide +kernel
theorem d_Reader_readHeader_68 : decode b_Reader_readHeader 68 = .ok (.iconst 0, 1) := by decide +kernel
theorem d_Reader_readHeader_69 : decode b_Reader_readHeader 69 = .ok (.istore_n 1, 1) := by decide +kernel
theorem d_Reader_readHeader_70 : decode b_Reader_readHeader 70 = .ok (.iload_n 1, 1) := by decide +kernel
theorem d_Reader_readHeader_71 : decode b_Reader_readHeader 71 = .ok (.aload_n 0, 1) := by decide +kernel
theorem d_Reader_readHeader_72 : decode b_Reader_readHeader 72 = .ok (.getfield 25, 3) := by decide +kernel
theorem d_Reader_readHeader_75 : decode b_Reader_readHeader 75 = .ok (.arraylength, 1) := by decide +kernel
theorem d_Reader_readHeader_76 : decode b_Reader_readHeader 76 = .ok (.if_icmp .ge 37, 3) := by decide +kernel
theorem d_Reader_readHeader_79 : decode b_Reader_readHeader 79 = .ok (.aload_n 0, 1) := by decide +kernel
theorem d_Reader_readHeader_80 : decode b_Reader_readHeader 80 = .ok (.bipush 32, 2) := by decide +kernel
theorem d_Reader_readHeader_82 : decode b_Reader_readHeader 82 = .ok (.invokevirtual 115, 3) := by decide +kernel
theorem d_Reader_readHeader_85 : decode b_Reader_readHeader 85 = .ok (.ifCond .eq 10, 3) := by decide +kernel
theorem d_Reader_readHeader_88 : decode b_Reader_readHeader 88 = .ok (.aload_n 0, 1) := by decide +kernel
theorem d_Reader_readHeader_89 : decode b_Reader_readHeader 89 = .ok (.invokevirtual 118, 3) := by decide +kernel
theorem d_Reader_readHeader_92 : decode b_Reader_readHeader 92 = .ok (.ifCond .ne 5, 3) := by decide +kernel
theorem d_Reader_readHeader_95 : decode b_Reader_readHeader 95 = .ok (.iconst 0, 1) := by decide +kernel
theorem d_Reader_readHeader_96 : decode b_Reader_readHeader 96 = .ok (.ireturn, 1) := by decide +kernel
theorem d_Reader_readHeader_97 : decode b_Reader_readHeader 97 = .ok (.aload_n 0, 1) := by decide +kernel
theorem d_Reader_readHeader_98 : decode b_Reader_readHeader 98 = .ok (.getfield 25, 3) := by decide +kernel
theorem d_Reader_readHeader_101 : decode b_Reader_readHeader 101 = .ok (.iload_n 1, 1) := by decide +kernel
theorem d_Reader_readHeader_102 : decode b_Reader_readHeader 102 = .ok (.aload_n 0, 1) := by decide +kernel
theorem d_Reader_readHeader_103 : decode b_Reader_readHeader 103 = .ok (.getfield 108, 3) := by decide +kernel
theorem d_Reader_readHeader_106 : decode b_Reader_readHeader 106 = .ok (.iastore, 1) := by decide +kernel
theorem d_Reader_readHeader_107 : decode b_Reader_readHeader 107 = .ok (.iinc 1 1, 3) := by decide +kernel
theorem d_Reader_readHeader_110 : decode b_Reader_readHeader 110 = .ok (.goto (-40), 3) := by decide +kernel
theorem d_Reader_readHeader_113 : decode b_Reader_readHeader 113 = .ok (.aload_n 0, 1) := by decide +kernel
theorem d_Reader_readHeader_114 : decode b_Reader_readHeader 114 = .ok (.bipush 10, 2) := by decide +kernel
theorem d_Reader_readHeader_116 : decode b_Reader_readHeader 116 = .ok (.invokevirtual 115, 3) := by decide +kernel
theorem d_Reader_readHeader_119 : decode b_Reader_readHeader 119 = .ok (.ireturn, 1) := by decide +kernel
theorem d_Reader_keepSizes_0 : decode b_Reader_keepSizes 0 = .ok (.aload_n 0, 1) := by decide +kernel
theorem d_Reader_keepSizes_1 : decode b_Reader_keepSizes 1 = .ok (.getfield 25, 3) := by decide +kernel
theorem d_Reader_keepSizes_4 : decode b_Reader_keepSizes 4 = .ok (.iconst 1, 1) := by decide +kernel
theorem d_Reader_keepSizes_5 : decode b_Reader_keepSizes 5 = .ok (.iaload, 1) := by decide +kernel
theorem d_Reader_keepSizes_6 : decode b_Reader_keepSizes 6 = .ok (.aload_n 0, 1) := by decide +kernel
theorem d_Reader_keepSizes_7 : decode b_Reader_keepSizes 7 = .ok (.getfield 25, 3) := by decide +kernel
theorem d_Reader_keepSizes_10 : decode b_Reader_keepSizes 10 = .ok (.iconst 2, 1) := by decide +kernel
theorem d_Reader_keepSizes_11 : decode b_Reader_keepSizes 11 = .ok (.iaload, 1) := by decide +kernel
theorem d_Reader_keepSizes_12 : decode b_Reader_keepSizes 12 = .ok (.iadd, 1) := by decide +kernel
theorem d_Reader_keepSizes_13 : decode b_Reader_keepSizes 13 = .ok (.aload_n 0, 1) := by decide +kernel
theorem d_Reader_keepSizes_14 : decode b_Reader_keepSizes 14 = .ok (.getfield 25, 3) := by decide +kernel
theorem d_Reader_keepSizes_17 : decode b_Reader_keepSizes 17 = .ok (.iconst 4, 1) := by decide +kernel
theorem d_Reader_keepSizes_18 : decode b_Reader_keepSizes 18 = .ok (.iaload, 1) := by decide +kernel
theorem d_Reader_keepSizes_19 : decode b_Reader_keepSizes 19 = .ok (.iadd, 1) := by decide +kernel
theorem d_Reader_keepSizes_20 : decode b_Reader_keepSizes 20 = .ok (.istore_n 1, 1) := by decide +kernel
theorem d_Reader_keepSizes_21 : decode b_Reader_keepSizes 21 = .ok (.aload_n 0, 1) := by decide +kernel
theorem d_Reader_keepSizes_22 : decode b_Reader_keepSizes 22 = .ok (.getfield 25, 3) := by decide +kernel
theorem d_Reader_keepSizes_25 : decode b_Reader_keepSizes 25 = .ok (.iconst 0, 1) := by decide +kernel
theorem d_Reader_keepSizes_26 : decode b_Reader_keepSizes 26 = .ok (.iaload, 1) := by decide +kernel
theorem d_Reader_keepSizes_27 : decode b_Reader_keepSizes 27 = .ok (.sipush 200, 3) := by decide +kernel
theorem d_Reader_keepSizes_30 : decode b_Reader_keepSizes 30 = .ok (.if_icmp .gt 81, 3) := by decide +kernel
theorem d_Reader_keepSizes_33 : decode b_Reader_keepSizes 33 = .ok (.aload_n 0, 1) := by decide +kernel
theorem d_Reader_keepSizes_34 : decode b_Reader_keepSizes 34 = .ok (.getfield 25, 3) := by decide +kernel
theorem d_Reader_keepSizes_37 : decode b_Reader_keepSizes 37 = .ok (.iconst 1, 1) := by decide +kernel
theorem d_Reader_keepSizes_38 : decode b_Reader_keepSizes 38 = .ok (.iaload, 1) := by decide +kernel
theorem d_Reader_keepSizes_39 : decode b_Reader_keepSizes 39 = .ok (.iconst 5, 1) := by decide +kernel
theorem d_Reader_keepSizes_40 : decode b_Reader_keepSizes 40 = .ok (.if_icmp .gt 71, 3) := by decide +kernel
theorem d_Reader_keepSizes_43 : decode b_Reader_keepSizes 43 = .ok (.aload_n 0, 1) := by decide +kernel
theorem d_Reader_keepSizes_44 : decode b_Reader_keepSizes 44 = .ok (.getfield 25, 3) := by decide +kernel
theorem d_Reader_keepSizes_47 : decode b_Reader_keepSizes 47 = .ok (.iconst 2, 1) := by decide +kernel
theorem d_Reader_keepSizes_48 : decode b_Reader_keepSizes 48 = .ok (.iaload, 1) := by decide +kernel
theorem d_Reader_keepSizes_49 : decode b_Reader_keepSizes 49 = .ok (.bipush 6, 2) := by decide +kernel
theorem d_Reader_keepSizes_51 : decode b_Reader_keepSizes 51 = .ok (.if_icmp .gt 60, 3) := by decide +kernel
theorem d_Reader_keepSizes_54 : decode b_Reader_keepSizes 54 = .ok (.aload_n 0, 1) := by decide +kernel
theorem d_Reader_keepSizes_55 : decode b_Reader_keepSizes 55 = .ok (.getfield 25, 3) := by decide +kernel
theorem d_Reader_keepSizes_58 : decode b_Reader_keepSizes 58 = .ok (.iconst 3, 1) := by decide +kernel
theorem d_Reader_keepSizes_59 : decode b_Reader_keepSizes 59 = .ok (.iaload, 1) := by decide +kernel
theorem d_Reader_keepSizes_60 : decode b_Reader_keepSizes 60 = .ok (.bipush 8, 2) := by decide +kernel
theorem d_Reader_keepSizes_62 : decode b_Reader_keepSizes 62 = .ok (.if_icmp .gt 49, 3) := by decide +kernel
theorem d_Reader_keepSizes_65 : decode b_Reader_keepSizes 65 = .ok (.aload_n 0, 1) := by decide +kernel
theorem d_Reader_keepSizes_66 : decode b_Reader_keepSizes 66 = .ok (.getfield 25, 3) := by decide +kernel
theorem d_Reader_keepSizes_69 : decode b_Reader_keepSizes 69 = .ok (.iconst 4, 1) := by decide +kernel
theorem d_Reader_keepSizes_70 : decode b_Reader_keepSizes 70 = .ok (.iaload, 1) := by decide +kernel
theorem d_Reader_keepSizes_71 : decode b_Reader_keepSizes 71 = .ok (.sipush 150, 3) := by decide +kernel
theorem d_Reader_keepSizes_74 : decode b_Reader_keepSizes 74 = .ok (.if_icmp .gt 37, 3) := by decide +kernel
theorem d_Reader_keepSizes_77 : decode b_Reader_keepSizes 77 = .ok (.aload_n 0, 1) := by decide +kernel
theorem d_Reader_keepSizes_78 : decode b_Reader_keepSizes 78 = .ok (.getfield 62, 3) := by decide +kernel
theorem d_Reader_keepSizes_81 : decode b_Reader_keepSizes 81 = .ok (.ifCond .eq 16, 3) := by decide +kernel
theorem d_Reader_keepSizes_84 : decode b_Reader_keepSizes 84 = .ok (.aload_n 0, 1) := by decide +kernel
theorem d_Reader_keepSizes_85 : decode b_Reader_keepSizes 85 = .ok (.getfield 25, 3) := by decide +kernel
theorem d_Reader_keepSizes_88 : decode b_Reader_keepSizes 88 = .ok (.iconst 0, 1) := by decide +kernel
theorem d_Reader_keepSizes_89 : decode b_Reader_keepSizes 89 = .ok (.iaload, 1) := by decide +kernel
theorem d_Reader_keepSizes_90 : decode b_Reader_keepSizes 90 = .ok (.iload_n 1, 1) := by decide +kernel
theorem d_Reader_keepSizes_91 : decode b_Reader_keepSizes 91 = .ok (.if_icmp .ne 20, 3) := by decide +kernel
theorem d_Reader_keepSizes_94 : decode b_Reader_keepSizes 94 = .ok (.goto 13, 3) := by decide +kernel
theorem d_Reader_keepSizes_97 : decode b_Reader_keepSizes 97 = .ok (.aload_n 0, 1) := by decide +kernel
theorem d_Reader_keepSizes_98 : decode b_Reader_keepSizes 98 = .ok (.getfield 25, 3) := by decide +kernel
theorem d_Reader_keepSizes_101 : decode b_Reader_keepSizes 101 = .ok (.iconst 0, 1) := by decide +kernel
theorem d_Reader_keepSizes_102 : decode b_Reader_keepSizes 102 = .ok (.iaload, 1) := by decide +kernel
theorem d_Reader_keepSizes_103 : decode b_Reader_keepSizes 103 = .ok (.iload_n 1, 1) := by decide +kernel
theorem d_Reader_keepSizes_104 : decode b_Reader_keepSizes 104 = .ok (.if_icmp .lt 7, 3) := by decide +kernel
theorem d_Reader_keepSizes_107 : decode b_Reader_keepSizes 107 = .ok (.iconst 1, 1) := by decide +kernel
theorem d_Reader_keepSizes_108 : decode b_Reader_keepSizes 108 = .ok (.goto 4, 3) := by decide +kernel
theorem d_Reader_keepSizes_111 : decode b_Reader_keepSizes 111 = .ok (.iconst 0, 1) := by decide +kernel
theorem d_Reader_keepSizes_112 : decode b_Reader_keepSizes 112 = .ok (.istore_n 2, 1) := by decide +kernel
theorem d_Reader_keepSizes_113 : decode b_Reader_keepSizes 113 = .ok (.iload_n 2, 1) := by decide +kernel
theorem d_Reader_keepSizes_114 : decode b_Reader_keepSizes 114 = .ok (.ifCond .ne 13, 3) := by decide +kernel
theorem d_Reader_keepSizes_117 : decode b_Reader_keepSizes 117 = .ok (.aload_n 0, 1) := by decide +kernel
theorem d_Reader_keepSizes_118 : decode b_Reader_keepSizes 118 = .ok (.iconst 2, 1) := by decide +kernel
theorem d_Reader_keepSizes_119 : decode b_Reader_keepSizes 119 = .ok (.aload_n 0, 1) := by decide +kernel
theorem d_Reader_keepSizes_120 : decode b_Reader_keepSizes 120 = .ok (.getfield 46, 3) := by decide +kernel
theorem d_Reader_keepSizes_123 : decode b_Reader_keepSizes 123 = .ok (.invokevirtual 101, 3) := by decide +kernel
theorem d_Reader_keepSizes_126 : decode b_Reader_keepSizes 126 = .ok (.ireturn, 1) := by decide +kernel
theorem d_Reader_keepSizes_127 : decode b_Reader_keepSizes 127 = .ok (.aload_n 0, 1) := by decide +kernel
theorem d_Reader_keepSizes_128 : decode b_Reader_keepSizes 128 = .ok (.getfield 21, 3) := by decide +kernel
theorem d_Reader_keepSizes_131 : decode b_Reader_keepSizes 131 = .ok (.aload_n 0, 1) := by decide +kernel
theorem d_Reader_keepSizes_132 : decode b_Reader_keepSizes 132 = .ok (.getfield 25, 3) := by decide +kernel
theorem d_Reader_keepSizes_135 : decode b_Reader_keepSizes 135 = .ok (.iconst 0, 1) := by decide +kernel
theorem d_Reader_keepSizes_136 : decode b_Reader_keepSizes 136 = .ok (.iaload, 1) := by decide +kernel
theorem d_Reader_keepSizes_137 : decode b_Reader_keepSizes 137 = .ok (.putfield 121, 3) := by decide +kernel
theorem d_Reader_keepSizes_140 : decode b_Reader_keepSizes 140 = .ok (.aload_n 0, 1) := by decide +kernel
theorem d_Reader_keepSizes_141 : decode b_Reader_keepSizes 141 = .ok (.getfield 21, 3) := by decide +kernel
theorem d_Reader_keepSizes_144 : decode b_Reader_keepSizes 144 = .ok (.aload_n 0, 1) := by decide +kernel
theorem d_Reader_keepSizes_145 : decode b_Reader_keepSizes 145 = .ok (.getfield 25, 3) := by decide +kernel
theorem d_Reader_keepSizes_148 : decode b_Reader_keepSizes 148 = .ok (.iconst 1, 1) := by decide +kernel
theorem d_Reader_keepSizes_149 : decode b_Reader_keepSizes 149 = .ok (.iaload, 1) := by decide +kernel
theorem d_Reader_keepSizes_150 : decode b_Reader_keepSizes 150 = .ok (.putfield 124, 3) := by decide +kernel
theorem d_Reader_keepSizes_153 : decode b_Reader_keepSizes 153 = .ok (.aload_n 0, 1) := by decide +kernel
theorem d_Reader_keepSizes_154 : decode b_Reader_keepSizes 154 = .ok (.getfield 21, 3) := by decide +kernel
theorem d_Reader_keepSizes_157 : decode b_Reader_keepSizes 157 = .ok (.aload_n 0, 1) := by decide +kernel
theorem d_Reader_keepSizes_158 : decode b_Reader_keepSizes 158 = .ok (.getfield 25, 3) := by decide +kernel
theorem d_Reader_keepSizes_161 : decode b_Reader_keepSizes 161 = .ok (.iconst 2, 1) := by decide +kernel
theorem d_Reader_keepSizes_162 : decode b_Reader_keepSizes 162 = .ok (.iaload, 1) := by decide +kernel
theorem d_Reader_keepSizes_163 : decode b_Reader_keepSizes 163 = .ok (.putfield 127, 3) := by decide +kernel
theorem d_Reader_keepSizes_166 : decode b_Reader_keepSizes 166 = .ok (.aload_n 0, 1) := by decide +kernel
theorem d_Reader_keepSizes_167 : decode b_Reader_keepSizes 167 = .ok (.getfield 21, 3) := by decide +kernel
theorem d_Reader_keepSizes_170 : decode b_Reader_keepSizes 170 = .ok (.aload_n 0, 1) := by decide +kernel
theorem d_Reader_keepSizes_171 : decode b_Reader_keepSizes 171 = .ok (.getfield 25, 3) := by decide +kernel
theorem d_Reader_keepSizes_174 : decode b_Reader_keepSizes 174 = .ok (.iconst 3, 1) := by decide +kernel
theorem d_Reader_keepSizes_175 : decode b_Reader_keepSizes 175 = .ok (.iaload, 1) := by decide +kernel
theorem d_Reader_keepSizes_176 : decode b_Reader_keepSizes 176 = .ok (.putfield 130, 3) := by decide +kernel
theorem d_Reader_keepSizes_179 : decode b_Reader_keepSizes 179 = .ok (.aload_n 0, 1) := by decide +kernel
theorem d_Reader_keepSizes_180 : decode b_Reader_keepSizes 180 = .ok (.getfield 21, 3) := by decide +kernel
theorem d_Reader_keepSizes_183 : decode b_Reader_keepSizes 183 = .ok (.aload_n 0, 1) := by decide +kernel
theorem d_Reader_keepSizes_184 : decode b_Reader_keepSizes 184 = .ok (.getfield 25, 3) := by decide +kernel
theorem d_Reader_keepSizes_187 : decode b_Reader_keepSizes 187 = .ok (.iconst 4, 1) := by decide +kernel
theorem d_Reader_keepSizes_188 : decode b_Reader_keepSizes 188 = .ok (.iaload, 1) := by decide +kernel
theorem d_Reader_keepSizes_189 : decode b_Reader_keepSizes 189 = .ok (.putfield 133, 3) := by decide +kernel
theorem d_Reader_keepSizes_192 : decode b_Reader_keepSizes 192 = .ok (.iconst 1, 1) := by decide +kernel
theorem d_Reader_keepSizes_193 : decode b_Reader_keepSizes 193 = .ok (.ireturn, 1) := by decide +kernel
