theorem d_Reader_defineInOrder_0 : decode b_Reader_defineInOrder 0 = .ok (.iconst 1, 1) := by decide +kernel
theorem d_Reader_defineInOrder_1 : decode b_Reader_defineInOrder 1 = .ok (.aload_n 0, 1) := by decide +kernel
theorem d_Reader_defineInOrder_2 : decode b_Reader_defineInOrder 2 = .ok (.getfield 21, 3) := by decide +kernel
theorem d_Reader_defineInOrder_5 : decode b_Reader_defineInOrder 5 = .ok (.getfield 124, 3) := by decide +kernel
theorem d_Reader_defineInOrder_8 : decode b_Reader_defineInOrder 8 = .ok (.iadd, 1) := by decide +kernel
theorem d_Reader_defineInOrder_9 : decode b_Reader_defineInOrder 9 = .ok (.istore_n 1, 1) := by decide +kernel
theorem d_Reader_defineInOrder_10 : decode b_Reader_defineInOrder 10 = .ok (.iload_n 1, 1) := by decide +kernel
theorem d_Reader_defineInOrder_11 : decode b_Reader_defineInOrder 11 = .ok (.aload_n 0, 1) := by decide +kernel
theorem d_Reader_defineInOrder_12 : decode b_Reader_defineInOrder 12 = .ok (.getfield 21, 3) := by decide +kernel
theorem d_Reader_defineInOrder_15 : decode b_Reader_defineInOrder 15 = .ok (.getfield 127, 3) := by decide +kernel
theorem d_Reader_defineInOrder_18 : decode b_Reader_defineInOrder 18 = .ok (.iadd, 1) := by decide +kernel
theorem d_Reader_defineInOrder_19 : decode b_Reader_defineInOrder 19 = .ok (.istore_n 2, 1) := by decide +kernel
theorem d_Reader_defineInOrder_20 : decode b_Reader_defineInOrder 20 = .ok (.iconst 0, 1) := by decide +kernel
theorem d_Reader_defineInOrder_21 : decode b_Reader_defineInOrder 21 = .ok (.istore_n 3, 1) := by decide +kernel
theorem d_Reader_defineInOrder_22 : decode b_Reader_defineInOrder 22 = .ok (.iload_n 3, 1) := by decide +kernel
theorem d_Reader_defineInOrder_23 : decode b_Reader_defineInOrder 23 = .ok (.aload_n 0, 1) := by decide +kernel
theorem d_Reader_defineInOrder_24 : decode b_Reader_defineInOrder 24 = .ok (.getfield 21, 3) := by decide +kernel
theorem d_Reader_defineInOrder_27 : decode b_Reader_defineInOrder 27 = .ok (.getfield 124, 3) := by decide +kernel
theorem d_Reader_defineInOrder_30 : decode b_Reader_defineInOrder 30 = .ok (.if_icmp .ge 33, 3) := by decide +kernel
theorem d_Reader_defineInOrder_33 : decode b_Reader_defineInOrder 33 = .ok (.aload_n 0, 1) := by decide +kernel
theorem d_Reader_defineInOrder_34 : decode b_Reader_defineInOrder 34 = .ok (.getfield 21, 3) := by decide +kernel
theorem d_Reader_defineInOrder_37 : decode b_Reader_defineInOrder 37 = .ok (.getfield 139, 3) := by decide +kernel
theorem d_Reader_defineInOrder_40 : decode b_Reader_defineInOrder 40 = .ok (.iconst 1, 1) := by decide +kernel
theorem d_Reader_defineInOrder_41 : decode b_Reader_defineInOrder 41 = .ok (.iload_n 3, 1) := by decide +kernel
theorem d_Reader_defineInOrder_42 : decode b_Reader_defineInOrder 42 = .ok (.iadd, 1) := by decide +kernel
theorem d_Reader_defineInOrder_43 : decode b_Reader_defineInOrder 43 = .ok (.iconst 1, 1) := by decide +kernel
theorem d_Reader_defineInOrder_44 : decode b_Reader_defineInOrder 44 = .ok (.bastore, 1) := by decide +kernel
theorem d_Reader_defineInOrder_45 : decode b_Reader_defineInOrder 45 = .ok (.aload_n 0, 1) := by decide +kernel
theorem d_Reader_defineInOrder_46 : decode b_Reader_defineInOrder 46 = .ok (.getfield 21, 3) := by decide +kernel
theorem d_Reader_defineInOrder_49 : decode b_Reader_defineInOrder 49 = .ok (.getfield 143, 3) := by decide +kernel
theorem d_Reader_defineInOrder_52 : decode b_Reader_defineInOrder 52 = .ok (.iload_n 3, 1) := by decide +kernel
theorem d_Reader_defineInOrder_53 : decode b_Reader_defineInOrder 53 = .ok (.iconst 1, 1) := by decide +kernel
theorem d_Reader_defineInOrder_54 : decode b_Reader_defineInOrder 54 = .ok (.iload_n 3, 1) := by decide +kernel
theorem d_Reader_defineInOrder_55 : decode b_Reader_defineInOrder 55 = .ok (.iadd, 1) := by decide +kernel
theorem d_Reader_defineInOrder_56 : decode b_Reader_defineInOrder 56 = .ok (.iastore, 1) := by decide +kernel
theorem d_Reader_defineInOrder_57 : decode b_Reader_defineInOrder 57 = .ok (.iinc 3 1, 3) := by decide +kernel
theorem d_Reader_defineInOrder_60 : decode b_Reader_defineInOrder 60 = .ok (.goto (-38), 3) := by decide +kernel
theorem d_Reader_defineInOrder_63 : decode b_Reader_defineInOrder 63 = .ok (.iconst 0, 1) := by decide +kernel
theorem d_Reader_defineInOrder_64 : decode b_Reader_defineInOrder 64 = .ok (.istore_n 3, 1) := by decide +kernel
theorem d_Reader_defineInOrder_65 : decode b_Reader_defineInOrder 65 = .ok (.iload_n 3, 1) := by decide +kernel
theorem d_Reader_defineInOrder_66 : decode b_Reader_defineInOrder 66 = .ok (.aload_n 0, 1) := by decide +kernel
theorem d_Reader_defineInOrder_67 : decode b_Reader_defineInOrder 67 = .ok (.getfield 21, 3) := by decide +kernel
theorem d_Reader_defineInOrder_70 : decode b_Reader_defineInOrder 70 = .ok (.getfield 127, 3) := by decide +kernel
theorem d_Reader_defineInOrder_73 : decode b_Reader_defineInOrder 73 = .ok (.if_icmp .ge 33, 3) := by decide +kernel
theorem d_Reader_defineInOrder_76 : decode b_Reader_defineInOrder 76 = .ok (.aload_n 0, 1) := by decide +kernel
theorem d_Reader_defineInOrder_77 : decode b_Reader_defineInOrder 77 = .ok (.getfield 21, 3) := by decide +kernel
theorem d_Reader_defineInOrder_80 : decode b_Reader_defineInOrder 80 = .ok (.getfield 139, 3) := by decide +kernel
theorem d_Reader_defineInOrder_83 : decode b_Reader_defineInOrder 83 = .ok (.iload_n 1, 1) := by decide +kernel
theorem d_Reader_defineInOrder_84 : decode b_Reader_defineInOrder 84 = .ok (.iload_n 3, 1) := by decide +kernel
theorem d_Reader_defineInOrder_85 : decode b_Reader_defineInOrder 85 = .ok (.iadd, 1) := by decide +kernel
theorem d_Reader_defineInOrder_86 : decode b_Reader_defineInOrder 86 = .ok (.iconst 2, 1) := by decide +kernel
theorem d_Reader_defineInOrder_87 : decode b_Reader_defineInOrder 87 = .ok (.bastore, 1) := by decide +kernel
theorem d_Reader_defineInOrder_88 : decode b_Reader_defineInOrder 88 = .ok (.aload_n 0, 1) := by decide +kernel
theorem d_Reader_defineInOrder_89 : decode b_Reader_defineInOrder 89 = .ok (.getfield 21, 3) := by decide +kernel
theorem d_Reader_defineInOrder_92 : decode b_Reader_defineInOrder 92 = .ok (.getfield 146, 3) := by decide +kernel
theorem d_Reader_defineInOrder_95 : decode b_Reader_defineInOrder 95 = .ok (.iload_n 3, 1) := by decide +kernel
theorem d_Reader_defineInOrder_96 : decode b_Reader_defineInOrder 96 = .ok (.iload_n 1, 1) := by decide +kernel
theorem d_Reader_defineInOrder_97 : decode b_Reader_defineInOrder 97 = .ok (.iload_n 3, 1) := by decide +kernel
theorem d_Reader_defineInOrder_98 : decode b_Reader_defineInOrder 98 = .ok (.iadd, 1) := by decide +kernel
theorem d_Reader_defineInOrder_99 : decode b_Reader_defineInOrder 99 = .ok (.iastore, 1) := by decide +kernel
theorem d_Reader_defineInOrder_100 : decode b_Reader_defineInOrder 100 = .ok (.iinc 3 1, 3) := by decide +kernel
theorem d_Reader_defineInOrder_103 : decode b_Reader_defineInOrder 103 = .ok (.goto (-38), 3) := by decide +kernel
theorem d_Reader_defineInOrder_106 : decode b_Reader_defineInOrder 106 = .ok (.iconst 0, 1) := by decide +kernel
theorem d_Reader_defineInOrder_107 : decode b_Reader_defineInOrder 107 = .ok (.istore_n 3, 1) := by decide +kernel
theorem d_Reader_defineInOrder_108 : decode b_Reader_defineInOrder 108 = .ok (.iload_n 3, 1) := by decide +kernel
theorem d_Reader_defineInOrder_109 : decode b_Reader_defineInOrder 109 = .ok (.aload_n 0, 1) := by decide +kernel
theorem d_Reader_defineInOrder_110 : decode b_Reader_defineInOrder 110 = .ok (.getfield 21, 3) := by decide +kernel
theorem d_Reader_defineInOrder_113 : decode b_Reader_defineInOrder 113 = .ok (.getfield 133, 3) := by decide +kernel
theorem d_Reader_defineInOrder_116 : decode b_Reader_defineInOrder 116 = .ok (.if_icmp .ge 33, 3) := by decide +kernel
theorem d_Reader_defineInOrder_119 : decode b_Reader_defineInOrder 119 = .ok (.aload_n 0, 1) := by decide +kernel
theorem d_Reader_defineInOrder_120 : decode b_Reader_defineInOrder 120 = .ok (.getfield 21, 3) := by decide +kernel
theorem d_Reader_defineInOrder_123 : decode b_Reader_defineInOrder 123 = .ok (.getfield 139, 3) := by decide +kernel
theorem d_Reader_defineInOrder_126 : decode b_Reader_defineInOrder 126 = .ok (.iload_n 2, 1) := by decide +kernel
theorem d_Reader_defineInOrder_127 : decode b_Reader_defineInOrder 127 = .ok (.iload_n 3, 1) := by decide +kernel
theorem d_Reader_defineInOrder_128 : decode b_Reader_defineInOrder 128 = .ok (.iadd, 1) := by decide +kernel
theorem d_Reader_defineInOrder_129 : decode b_Reader_defineInOrder 129 = .ok (.iconst 3, 1) := by decide +kernel
theorem d_Reader_defineInOrder_130 : decode b_Reader_defineInOrder 130 = .ok (.bastore, 1) := by decide +kernel
theorem d_Reader_defineInOrder_131 : decode b_Reader_defineInOrder 131 = .ok (.aload_n 0, 1) := by decide +kernel
theorem d_Reader_defineInOrder_132 : decode b_Reader_defineInOrder 132 = .ok (.getfield 12, 3) := by decide +kernel
theorem d_Reader_defineInOrder_135 : decode b_Reader_defineInOrder 135 = .ok (.getfield 149, 3) := by decide +kernel
theorem d_Reader_defineInOrder_138 : decode b_Reader_defineInOrder 138 = .ok (.iload_n 3, 1) := by decide +kernel
theorem d_Reader_defineInOrder_139 : decode b_Reader_defineInOrder 139 = .ok (.iload_n 2, 1) := by decide +kernel
theorem d_Reader_defineInOrder_140 : decode b_Reader_defineInOrder 140 = .ok (.iload_n 3, 1) := by decide +kernel
theorem d_Reader_defineInOrder_141 : decode b_Reader_defineInOrder 141 = .ok (.iadd, 1) := by decide +kernel
theorem d_Reader_defineInOrder_142 : decode b_Reader_defineInOrder 142 = .ok (.iastore, 1) := by decide +kernel
theorem d_Reader_defineInOrder_143 : decode b_Reader_defineInOrder 143 = .ok (.iinc 3 1, 3) := by decide +kernel
theorem d_Reader_defineInOrder_146 : decode b_Reader_defineInOrder 146 = .ok (.goto (-38), 3) := by decide +kernel
theorem d_Reader_defineInOrder_149 : decode b_Reader_defineInOrder 149 = .ok (.iconst 1, 1) := by decide +kernel
theorem d_Reader_defineInOrder_150 : decode b_Reader_defineInOrder 150 = .ok (.ireturn, 1) := by decide +kernel
theorem d_Reader_isInRange_0 : decode b_Reader_isInRange 0 = .ok (.aload_n 0, 1) := by decide +kernel
theorem d_Reader_isInRange_1 : decode b_Reader_isInRange 1 = .ok (.getfield 108, 3) := by decide +kernel
theorem d_Reader_isInRange_4 : decode b_Reader_isInRange 4 = .ok (.iconst 2, 1) := by decide +kernel
theorem d_Reader_isInRange_5 : decode b_Reader_isInRange 5 = .ok (.aload_n 0, 1) := by decide +kernel
theorem d_Reader_isInRange_6 : decode b_Reader_isInRange 6 = .ok (.getfield 21, 3) := by decide +kernel
theorem d_Reader_isInRange_9 : decode b_Reader_isInRange 9 = .ok (.getfield 121, 3) := by decide +kernel
theorem d_Reader_isInRange_12 : decode b_Reader_isInRange 12 = .ok (.imul, 1) := by decide +kernel
theorem d_Reader_isInRange_13 : decode b_Reader_isInRange 13 = .ok (.iconst 1, 1) := by decide +kernel
theorem d_Reader_isInRange_14 : decode b_Reader_isInRange 14 = .ok (.iadd, 1) := by decide +kernel
theorem d_Reader_isInRange_15 : decode b_Reader_isInRange 15 = .ok (.if_icmp .le 15, 3) := by decide +kernel
theorem d_Reader_isInRange_18 : decode b_Reader_isInRange 18 = .ok (.aload_n 0, 1) := by decide +kernel
theorem d_Reader_isInRange_19 : decode b_Reader_isInRange 19 = .ok (.iconst 3, 1) := by decide +kernel
theorem d_Reader_isInRange_20 : decode b_Reader_isInRange 20 = .ok (.aload_n 0, 1) := by decide +kernel
theorem d_Reader_isInRange_21 : decode b_Reader_isInRange 21 = .ok (.getfield 105, 3) := by decide +kernel
theorem d_Reader_isInRange_24 : decode b_Reader_isInRange 24 = .ok (.invokevirtual 101, 3) := by decide +kernel
theorem d_Reader_isInRange_27 : decode b_Reader_isInRange 27 = .ok (.ifCond .eq 7, 3) := by decide +kernel
theorem d_Reader_isInRange_30 : decode b_Reader_isInRange 30 = .ok (.iconst 1, 1) := by decide +kernel
theorem d_Reader_isInRange_31 : decode b_Reader_isInRange 31 = .ok (.goto 4, 3) := by decide +kernel
theorem d_Reader_isInRange_34 : decode b_Reader_isInRange 34 = .ok (.iconst 0, 1) := by decide +kernel
theorem d_Reader_isInRange_35 : decode b_Reader_isInRange 35 = .ok (.ireturn, 1) := by decide +kernel
theorem d_Reader_readDefinition_0 : decode b_Reader_readDefinition 0 = .ok (.aload_n 0, 1) := by decide +kernel
theorem d_Reader_readDefinition_1 : decode b_Reader_readDefinition 1 = .ok (.invokevirtual 118, 3) := by decide +kernel
theorem d_Reader_readDefinition_4 : decode b_Reader_readDefinition 4 = .ok (.ifCond .eq 10, 3) := by decide +kernel
theorem d_Reader_readDefinition_7 : decode b_Reader_readDefinition 7 = .ok (.aload_n 0, 1) := by decide +kernel
theorem d_Reader_readDefinition_8 : decode b_Reader_readDefinition 8 = .ok (.invokevirtual 136, 3) := by decide +kernel
theorem d_Reader_readDefinition_11 : decode b_Reader_readDefinition 11 = .ok (.ifCond .ne 5, 3) := by decide +kernel
theorem d_Reader_readDefinition_14 : decode b_Reader_readDefinition 14 = .ok (.iconst 0, 1) := by decide +kernel
theorem d_Reader_readDefinition_15 : decode b_Reader_readDefinition 15 = .ok (.ireturn, 1) := by decide +kernel
theorem d_Reader_readDefinition_16 : decode b_Reader_readDefinition 16 = .ok (.aload_n 0, 1) := by decide +kernel
theorem d_Reader_readDefinition_17 : decode b_Reader_readDefinition 17 = .ok (.getfield 108, 3) := by decide +kernel
theorem d_Reader_readDefinition_20 : decode b_Reader_readDefinition 20 = .ok (.iconst 2, 1) := by decide +kernel
theorem d_Reader_readDefinition_21 : decode b_Reader_readDefinition 21 = .ok (.if_icmp .lt 30, 3) := by decide +kernel
theorem d_Reader_readDefinition_24 : decode b_Reader_readDefinition 24 = .ok (.aload_n 0, 1) := by decide +kernel
theorem d_Reader_readDefinition_25 : decode b_Reader_readDefinition 25 = .ok (.getfield 108, 3) := by decide +kernel
theorem d_Reader_readDefinition_28 : decode b_Reader_readDefinition 28 = .ok (.iconst 1, 1) := by decide +kernel
theorem d_Reader_readDefinition_29 : decode b_Reader_readDefinition 29 = .ok (.iand, 1) := by decide +kernel
theorem d_Reader_readDefinition_30 : decode b_Reader_readDefinition 30 = .ok (.iconst 1, 1) := by decide +kernel
theorem d_Reader_readDefinition_31 : decode b_Reader_readDefinition 31 = .ok (.if_icmp .eq 20, 3) := by decide +kernel
theorem d_Reader_readDefinition_34 : decode b_Reader_readDefinition 34 = .ok (.aload_n 0, 1) := by decide +kernel
theorem d_Reader_readDefinition_35 : decode b_Reader_readDefinition 35 = .ok (.getfield 21, 3) := by decide +kernel
theorem d_Reader_readDefinition_38 : decode b_Reader_readDefinition 38 = .ok (.getfield 139, 3) := by decide +kernel
theorem d_Reader_readDefinition_41 : decode b_Reader_readDefinition 41 = .ok (.aload_n 0, 1) := by decide +kernel
theorem d_Reader_readDefinition_42 : decode b_Reader_readDefinition 42 = .ok (.getfield 108, 3) := by decide +kernel
theorem d_Reader_readDefinition_45 : decode b_Reader_readDefinition 45 = .ok (.iconst 1, 1) := by decide +kernel
theorem d_Reader_readDefinition_46 : decode b_Reader_readDefinition 46 = .ok (.ishr, 1) := by decide +kernel
theorem d_Reader_readDefinition_47 : decode b_Reader_readDefinition 47 = .ok (.baload, 1) := by decide +kernel
theorem d_Reader_readDefinition_48 : decode b_Reader_readDefinition 48 = .ok (.ifCond .eq 13, 3) := by decide +kernel
theorem d_Reader_readDefinition_51 : decode b_Reader_readDefinition 51 = .ok (.aload_n 0, 1) := by decide +kernel
theorem d_Reader_readDefinition_52 : decode b_Reader_readDefinition 52 = .ok (.iconst 4, 1) := by decide +kernel
theorem d_Reader_readDefinition_53 : decode b_Reader_readDefinition 53 = .ok (.aload_n 0, 1) := by decide +kernel
theorem d_Reader_readDefinition_54 : decode b_Reader_readDefinition 54 = .ok (.getfield 105, 3) := by decide +kernel
theorem d_Reader_readDefinition_57 : decode b_Reader_readDefinition 57 = .ok (.invokevirtual 101, 3) := by decide +kernel
theorem d_Reader_readDefinition_60 : decode b_Reader_readDefinition 60 = .ok (.ireturn, 1) := by decide +kernel
theorem d_Reader_readDefinition_61 : decode b_Reader_readDefinition 61 = .ok (.aload_n 0, 1) := by decide +kernel
theorem d_Reader_readDefinition_62 : decode b_Reader_readDefinition 62 = .ok (.getfield 21, 3) := by decide +kernel
theorem d_Reader_readDefinition_65 : decode b_Reader_readDefinition 65 = .ok (.getfield 139, 3) := by decide +kernel
theorem d_Reader_readDefinition_68 : decode b_Reader_readDefinition 68 = .ok (.aload_n 0, 1) := by decide +kernel
theorem d_Reader_readDefinition_69 : decode b_Reader_readDefinition 69 = .ok (.getfield 108, 3) := by decide +kernel
theorem d_Reader_readDefinition_72 : decode b_Reader_readDefinition 72 = .ok (.iconst 1, 1) := by decide +kernel
theorem d_Reader_readDefinition_73 : decode b_Reader_readDefinition 73 = .ok (.ishr, 1) := by decide +kernel
theorem d_Reader_readDefinition_74 : decode b_Reader_readDefinition 74 = .ok (.iload_n 1, 1) := by decide +kernel
theorem d_Reader_readDefinition_75 : decode b_Reader_readDefinition 75 = .ok (.i2b, 1) := by decide +kernel
theorem d_Reader_readDefinition_76 : decode b_Reader_readDefinition 76 = .ok (.bastore, 1) := by decide +kernel
theorem d_Reader_readDefinition_77 : decode b_Reader_readDefinition 77 = .ok (.iconst 1, 1) := by decide +kernel
theorem d_Reader_readDefinition_78 : decode b_Reader_readDefinition 78 = .ok (.ireturn, 1) := by decide +kernel
theorem d_Reader_readInputs_0 : decode b_Reader_readInputs 0 = .ok (.iconst 0, 1) := by decide +kernel
theorem d_Reader_readInputs_1 : decode b_Reader_readInputs 1 = .ok (.istore_n 1, 1) := by decide +kernel
theorem d_Reader_readInputs_2 : decode b_Reader_readInputs 2 = .ok (.iload_n 1, 1) := by decide +kernel
theorem d_Reader_readInputs_3 : decode b_Reader_readInputs 3 = .ok (.aload_n 0, 1) := by decide +kernel
theorem d_Reader_readInputs_4 : decode b_Reader_readInputs 4 = .ok (.getfield 21, 3) := by decide +kernel
theorem d_Reader_readInputs_7 : decode b_Reader_readInputs 7 = .ok (.getfield 124, 3) := by decide +kernel
theorem d_Reader_readInputs_10 : decode b_Reader_readInputs 10 = .ok (.if_icmp .ge 45, 3) := by decide +kernel
theorem d_Reader_readInputs_13 : decode b_Reader_readInputs 13 = .ok (.aload_n 0, 1) := by decide +kernel
theorem d_Reader_readInputs_14 : decode b_Reader_readInputs 14 = .ok (.iconst 1, 1) := by decide +kernel
theorem d_Reader_readInputs_15 : decode b_Reader_readInputs 15 = .ok (.invokevirtual 152, 3) := by decide +kernel
theorem d_Reader_readInputs_18 : decode b_Reader_readInputs 18 = .ok (.ifCond .ne 5, 3) := by decide +kernel
theorem d_Reader_readInputs_21 : decode b_Reader_readInputs 21 = .ok (.iconst 0, 1) := by decide +kernel
theorem d_Reader_readInputs_22 : decode b_Reader_readInputs 22 = .ok (.ireturn, 1) := by decide +kernel
theorem d_Reader_readInputs_23 : decode b_Reader_readInputs 23 = .ok (.aload_n 0, 1) := by decide +kernel
theorem d_Reader_readInputs_24 : decode b_Reader_readInputs 24 = .ok (.getfield 21, 3) := by decide +kernel
theorem d_Reader_readInputs_27 : decode b_Reader_readInputs 27 = .ok (.getfield 143, 3) := by decide +kernel
theorem d_Reader_readInputs_30 : decode b_Reader_readInputs 30 = .ok (.iload_n 1, 1) := by decide +kernel
theorem d_Reader_readInputs_31 : decode b_Reader_readInputs 31 = .ok (.aload_n 0, 1) := by decide +kernel
theorem d_Reader_readInputs_32 : decode b_Reader_readInputs 32 = .ok (.getfield 108, 3) := by decide +kernel
theorem d_Reader_readInputs_35 : decode b_Reader_readInputs 35 = .ok (.iconst 1, 1) := by decide +kernel
theorem d_Reader_readInputs_36 : decode b_Reader_readInputs 36 = .ok (.ishr, 1) := by decide +kernel
theorem d_Reader_readInputs_37 : decode b_Reader_readInputs 37 = .ok (.iastore, 1) := by decide +kernel
theorem d_Reader_readInputs_38 : decode b_Reader_readInputs 38 = .ok (.aload_n 0, 1) := by decide +kernel
theorem d_Reader_readInputs_39 : decode b_Reader_readInputs 39 = .ok (.bipush 10, 2) := by decide +kernel
theorem d_Reader_readInputs_41 : decode b_Reader_readInputs 41 = .ok (.invokevirtual 115, 3) := by decide +kernel
theorem d_Reader_readInputs_44 : decode b_Reader_readInputs 44 = .ok (.ifCond .ne 5, 3) := by decide +kernel
theorem d_Reader_readInputs_47 : decode b_Reader_readInputs 47 = .ok (.iconst 0, 1) := by decide +kernel
theorem d_Reader_readInputs_48 : decode b_Reader_readInputs 48 = .ok (.ireturn, 1) := by decide +kernel
theorem d_Reader_readInputs_49 : decode b_Reader_readInputs 49 = .ok (.iinc 1 1, 3) := by decide +kernel
theorem d_Reader_readInputs_52 : decode b_Reader_readInputs 52 = .ok (.goto (-50), 3) := by decide +kernel
theorem d_Reader_readInputs_55 : decode b_Reader_readInputs 55 = .ok (.iconst 1, 1) := by decide +kernel
theorem d_Reader_readInputs_56 : decode b_Reader_readInputs 56 = .ok (.ireturn, 1) := by decide +kernel
theorem d_Reader_readLatchVariable_0 : decode b_Reader_readLatchVariable 0 = .ok (.aload_n 0, 1) := by decide +kernel
theorem d_Reader_readLatchVariable_1 : decode b_Reader_readLatchVariable 1 = .ok (.iconst 2, 1) := by decide +kernel
theorem d_Reader_readLatchVariable_2 : decode b_Reader_readLatchVariable 2 = .ok (.invokevirtual 152, 3) := by decide +kernel
theorem d_Reader_readLatchVariable_5 : decode b_Reader_readLatchVariable 5 = .ok (.ifCond .ne 5, 3) := by decide +kernel
theorem d_Reader_readLatchVariable_8 : decode b_Reader_readLatchVariable 8 = .ok (.iconst 0, 1) := by decide +kernel
theorem d_Reader_readLatchVariable_9 : decode b_Reader_readLatchVariable 9 = .ok (.ireturn, 1) := by decide +kernel
theorem d_Reader_readLatchVariable_10 : decode b_Reader_readLatchVariable 10 = .ok (.aload_n 0, 1) := by decide +kernel
theorem d_Reader_readLatchVariable_11 : decode b_Reader_readLatchVariable 11 = .ok (.getfield 21, 3) := by decide +kernel
theorem d_Reader_readLatchVariable_14 : decode b_Reader_readLatchVariable 14 = .ok (.getfield 146, 3) := by decide +kernel
theorem d_Reader_readLatchVariable_17 : decode b_Reader_readLatchVariable 17 = .ok (.iload_n 1, 1) := by decide +kernel
theorem d_Reader_readLatchVariable_18 : decode b_Reader_readLatchVariable 18 = .ok (.aload_n 0, 1) := by decide +kernel
theorem d_Reader_readLatchVariable_19 : decode b_Reader_readLatchVariable 19 = .ok (.getfield 108, 3) := by decide +kernel
theorem d_Reader_readLatchVariable_22 : decode b_Reader_readLatchVariable 22 = .ok (.iconst 1, 1) := by decide +kernel
theorem d_Reader_readLatchVariable_23 : decode b_Reader_readLatchVariable 23 = .ok (.ishr, 1) := by decide +kernel
theorem d_Reader_readLatchVariable_24 : decode b_Reader_readLatchVariable 24 = .ok (.iastore, 1) := by decide +kernel
theorem d_Reader_readLatchVariable_25 : decode b_Reader_readLatchVariable 25 = .ok (.aload_n 0, 1) := by decide +kernel
theorem d_Reader_readLatchVariable_26 : decode b_Reader_readLatchVariable 26 = .ok (.bipush 32, 2) := by decide +kernel
theorem d_Reader_readLatchVariable_28 : decode b_Reader_readLatchVariable 28 = .ok (.invokevirtual 115, 3) := by decide +kernel
theorem d_Reader_readLatchVariable_31 : decode b_Reader_readLatchVariable 31 = .ok (.ireturn, 1) := by decide +kernel
theorem d_Reader_readUse_0 : decode b_Reader_readUse 0 = .ok (.aload_n 0, 1) := by decide +kernel
theorem d_Reader_readUse_1 : decode b_Reader_readUse 1 = .ok (.invokevirtual 118, 3) := by decide +kernel
theorem d_Reader_readUse_4 : decode b_Reader_readUse 4 = .ok (.ifCond .eq 10, 3) := by decide +kernel
theorem d_Reader_readUse_7 : decode b_Reader_readUse 7 = .ok (.aload_n 0, 1) := by decide +kernel
theorem d_Reader_readUse_8 : decode b_Reader_readUse 8 = .ok (.invokevirtual 136, 3) := by decide +kernel
theorem d_Reader_readUse_11 : decode b_Reader_readUse 11 = .ok (.ifCond .ne 5, 3) := by decide +kernel
theorem d_Reader_readUse_14 : decode b_Reader_readUse 14 = .ok (.iconst 0, 1) := by decide +kernel
theorem d_Reader_readUse_15 : decode b_Reader_readUse 15 = .ok (.ireturn, 1) := by decide +kernel
theorem d_Reader_readUse_16 : decode b_Reader_readUse 16 = .ok (.aload_n 0, 1) := by decide +kernel
theorem d_Reader_readUse_17 : decode b_Reader_readUse 17 = .ok (.getfield 29, 3) := by decide +kernel
theorem d_Reader_readUse_20 : decode b_Reader_readUse 20 = .ok (.aload_n 0, 1) := by decide +kernel
theorem d_Reader_readUse_21 : decode b_Reader_readUse 21 = .ok (.getfield 49, 3) := by decide +kernel
theorem d_Reader_readUse_24 : decode b_Reader_readUse 24 = .ok (.aload_n 0, 1) := by decide +kernel
theorem d_Reader_readUse_25 : decode b_Reader_readUse 25 = .ok (.getfield 108, 3) := by decide +kernel
theorem d_Reader_readUse_28 : decode b_Reader_readUse 28 = .ok (.iastore, 1) := by decide +kernel
theorem d_Reader_readUse_29 : decode b_Reader_readUse 29 = .ok (.aload_n 0, 1) := by decide +kernel
theorem d_Reader_readUse_30 : decode b_Reader_readUse 30 = .ok (.getfield 32, 3) := by decide +kernel
theorem d_Reader_readUse_33 : decode b_Reader_readUse 33 = .ok (.aload_n 0, 1) := by decide +kernel
theorem d_Reader_readUse_34 : decode b_Reader_readUse 34 = .ok (.getfield 49, 3) := by decide +kernel
theorem d_Reader_readUse_37 : decode b_Reader_readUse 37 = .ok (.aload_n 0, 1) := by decide +kernel
theorem d_Reader_readUse_38 : decode b_Reader_readUse 38 = .ok (.getfield 105, 3) := by decide +kernel
theorem d_Reader_readUse_41 : decode b_Reader_readUse 41 = .ok (.iastore, 1) := by decide +kernel
theorem d_Reader_readUse_42 : decode b_Reader_readUse 42 = .ok (.aload_n 0, 1) := by decide +kernel
theorem d_Reader_readUse_43 : decode b_Reader_readUse 43 = .ok (.dup, 1) := by decide +kernel
theorem d_Reader_readUse_44 : decode b_Reader_readUse 44 = .ok (.getfield 49, 3) := by decide +kernel
theorem d_Reader_readUse_47 : decode b_Reader_readUse 47 = .ok (.iconst 1, 1) := by decide +kernel
theorem d_Reader_readUse_48 : decode b_Reader_readUse 48 = .ok (.iadd, 1) := by decide +kernel
theorem d_Reader_readUse_49 : decode b_Reader_readUse 49 = .ok (.putfield 49, 3) := by decide +kernel
theorem d_Reader_readUse_52 : decode b_Reader_readUse 52 = .ok (.iconst 1, 1) := by decide +kernel
theorem d_Reader_readUse_53 : decode b_Reader_readUse 53 = .ok (.ireturn, 1) := by decide +kernel
theorem d_Reader_readNext_0 : decode b_Reader_readNext 0 = .ok (.aload_n 0, 1) := by decide +kernel
theorem d_Reader_readNext_1 : decode b_Reader_readNext 1 = .ok (.invokevirtual 161, 3) := by decide +kernel
theorem d_Reader_readNext_4 : decode b_Reader_readNext 4 = .ok (.ifCond .ne 5, 3) := by decide +kernel
theorem d_Reader_readNext_7 : decode b_Reader_readNext 7 = .ok (.iconst 0, 1) := by decide +kernel
theorem d_Reader_readNext_8 : decode b_Reader_readNext 8 = .ok (.ireturn, 1) := by decide +kernel
theorem d_Reader_readNext_9 : decode b_Reader_readNext 9 = .ok (.aload_n 0, 1) := by decide +kernel
theorem d_Reader_readNext_10 : decode b_Reader_readNext 10 = .ok (.getfield 21, 3) := by decide +kernel
theorem d_Reader_readNext_13 : decode b_Reader_readNext 13 = .ok (.getfield 164, 3) := by decide +kernel
theorem d_Reader_readNext_16 : decode b_Reader_readNext 16 = .ok (.iload_n 1, 1) := by decide +kernel
theorem d_Reader_readNext_17 : decode b_Reader_readNext 17 = .ok (.aload_n 0, 1) := by decide +kernel
theorem d_Reader_readNext_18 : decode b_Reader_readNext 18 = .ok (.getfield 108, 3) := by decide +kernel
theorem d_Reader_readNext_21 : decode b_Reader_readNext 21 = .ok (.iastore, 1) := by decide +kernel
theorem d_Reader_readNext_22 : decode b_Reader_readNext 22 = .ok (.aload_n 0, 1) := by decide +kernel
theorem d_Reader_readNext_23 : decode b_Reader_readNext 23 = .ok (.bipush 10, 2) := by decide +kernel
theorem d_Reader_readNext_25 : decode b_Reader_readNext 25 = .ok (.invokevirtual 115, 3) := by decide +kernel
theorem d_Reader_readNext_28 : decode b_Reader_readNext 28 = .ok (.ireturn, 1) := by decide +kernel
theorem d_Reader_readLatches_0 : decode b_Reader_readLatches 0 = .ok (.iconst 0, 1) := by decide +kernel
theorem d_Reader_readLatches_1 : decode b_Reader_readLatches 1 = .ok (.istore_n 1, 1) := by decide +kernel
theorem d_Reader_readLatches_2 : decode b_Reader_readLatches 2 = .ok (.iload_n 1, 1) := by decide +kernel
theorem d_Reader_readLatches_3 : decode b_Reader_readLatches 3 = .ok (.aload_n 0, 1) := by decide +kernel
theorem d_Reader_readLatches_4 : decode b_Reader_readLatches 4 = .ok (.getfield 21, 3) := by decide +kernel
theorem d_Reader_readLatches_7 : decode b_Reader_readLatches 7 = .ok (.getfield 127, 3) := by decide +kernel
theorem d_Reader_readLatches_10 : decode b_Reader_readLatches 10 = .ok (.if_icmp .ge 34, 3) := by decide +kernel
theorem d_Reader_readLatches_13 : decode b_Reader_readLatches 13 = .ok (.aload_n 0, 1) := by decide +kernel
theorem d_Reader_readLatches_14 : decode b_Reader_readLatches 14 = .ok (.getfield 62, 3) := by decide +kernel
theorem d_Reader_readLatches_17 : decode b_Reader_readLatches 17 = .ok (.ifCond .ne 11, 3) := by decide +kernel
theorem d_Reader_readLatches_20 : decode b_Reader_readLatches 20 = .ok (.aload_n 0, 1) := by decide +kernel
theorem d_Reader_readLatches_21 : decode b_Reader_readLatches 21 = .ok (.iload_n 1, 1) := by decide +kernel
theorem d_Reader_readLatches_22 : decode b_Reader_readLatches 22 = .ok (.invokevirtual 155, 3) := by decide +kernel
theorem d_Reader_readLatches_25 : decode b_Reader_readLatches 25 = .ok (.ifCond .eq 11, 3) := by decide +kernel
theorem d_Reader_readLatches_28 : decode b_Reader_readLatches 28 = .ok (.aload_n 0, 1) := by decide +kernel
theorem d_Reader_readLatches_29 : decode b_Reader_readLatches 29 = .ok (.iload_n 1, 1) := by decide +kernel
theorem d_Reader_readLatches_30 : decode b_Reader_readLatches 30 = .ok (.invokevirtual 158, 3) := by decide +kernel
theorem d_Reader_readLatches_33 : decode b_Reader_readLatches 33 = .ok (.ifCond .ne 5, 3) := by decide +kernel
theorem d_Reader_readLatches_36 : decode b_Reader_readLatches 36 = .ok (.iconst 0, 1) := by decide +kernel
theorem d_Reader_readLatches_37 : decode b_Reader_readLatches 37 = .ok (.ireturn, 1) := by decide +kernel
theorem d_Reader_readLatches_38 : decode b_Reader_readLatches 38 = .ok (.iinc 1 1, 3) := by decide +kernel
theorem d_Reader_readLatches_41 : decode b_Reader_readLatches 41 = .ok (.goto (-39), 3) := by decide +kernel
theorem d_Reader_readLatches_44 : decode b_Reader_readLatches 44 = .ok (.iconst 1, 1) := by decide +kernel
theorem d_Reader_readLatches_45 : decode b_Reader_readLatches 45 = .ok (.ireturn, 1) := by decide +kernel
theorem d_Reader_readOutputs_0 : decode b_Reader_readOutputs 0 = .ok (.iconst 0, 1) := by decide +kernel
theorem d_Reader_readOutputs_1 : decode b_Reader_readOutputs 1 = .ok (.istore_n 1, 1) := by decide +kernel
theorem d_Reader_readOutputs_2 : decode b_Reader_readOutputs 2 = .ok (.iload_n 1, 1) := by decide +kernel
theorem d_Reader_readOutputs_3 : decode b_Reader_readOutputs 3 = .ok (.aload_n 0, 1) := by decide +kernel
theorem d_Reader_readOutputs_4 : decode b_Reader_readOutputs 4 = .ok (.getfield 21, 3) := by decide +kernel
theorem d_Reader_readOutputs_7 : decode b_Reader_readOutputs 7 = .ok (.getfield 130, 3) := by decide +kernel
theorem d_Reader_readOutputs_10 : decode b_Reader_readOutputs 10 = .ok (.if_icmp .ge 42, 3) := by decide +kernel
theorem d_Reader_readOutputs_13 : decode b_Reader_readOutputs 13 = .ok (.aload_n 0, 1) := by decide +kernel
theorem d_Reader_readOutputs_14 : decode b_Reader_readOutputs 14 = .ok (.invokevirtual 161, 3) := by decide +kernel
theorem d_Reader_readOutputs_17 : decode b_Reader_readOutputs 17 = .ok (.ifCond .ne 5, 3) := by decide +kernel
theorem d_Reader_readOutputs_20 : decode b_Reader_readOutputs 20 = .ok (.iconst 0, 1) := by decide +kernel
theorem d_Reader_readOutputs_21 : decode b_Reader_readOutputs 21 = .ok (.ireturn, 1) := by decide +kernel
theorem d_Reader_readOutputs_22 : decode b_Reader_readOutputs 22 = .ok (.aload_n 0, 1) := by decide +kernel
theorem d_Reader_readOutputs_23 : decode b_Reader_readOutputs 23 = .ok (.getfield 21, 3) := by decide +kernel
theorem d_Reader_readOutputs_26 : decode b_Reader_readOutputs 26 = .ok (.getfield 167, 3) := by decide +kernel
theorem d_Reader_readOutputs_29 : decode b_Reader_readOutputs 29 = .ok (.iload_n 1, 1) := by decide +kernel
theorem d_Reader_readOutputs_30 : decode b_Reader_readOutputs 30 = .ok (.aload_n 0, 1) := by decide +kernel
theorem d_Reader_readOutputs_31 : decode b_Reader_readOutputs 31 = .ok (.getfield 108, 3) := by decide +kernel
theorem d_Reader_readOutputs_34 : decode b_Reader_readOutputs 34 = .ok (.iastore, 1) := by decide +kernel
theorem d_Reader_readOutputs_35 : decode b_Reader_readOutputs 35 = .ok (.aload_n 0, 1) := by decide +kernel
theorem d_Reader_readOutputs_36 : decode b_Reader_readOutputs 36 = .ok (.bipush 10, 2) := by decide +kernel
theorem d_Reader_readOutputs_38 : decode b_Reader_readOutputs 38 = .ok (.invokevirtual 115, 3) := by decide +kernel
theorem d_Reader_readOutputs_41 : decode b_Reader_readOutputs 41 = .ok (.ifCond .ne 5, 3) := by decide +kernel
theorem d_Reader_readOutputs_44 : decode b_Reader_readOutputs 44 = .ok (.iconst 0, 1) := by decide +kernel
theorem d_Reader_readOutputs_45 : decode b_Reader_readOutputs 45 = .ok (.ireturn, 1) := by decide +kernel
theorem d_Reader_readOutputs_46 : decode b_Reader_readOutputs 46 = .ok (.iinc 1 1, 3) := by decide +kernel
theorem d_Reader_readOutputs_49 : decode b_Reader_readOutputs 49 = .ok (.goto (-47), 3) := by decide +kernel
theorem d_Reader_readOutputs_52 : decode b_Reader_readOutputs 52 = .ok (.iconst 1, 1) := by decide +kernel
theorem d_Reader_readOutputs_53 : decode b_Reader_readOutputs 53 = .ok (.ireturn, 1) := by decide +kernel
theorem d_Reader_readDelta_0 : decode b_Reader_readDelta 0 = .ok (.aload_n 0, 1) := by decide +kernel
theorem d_Reader_readDelta_1 : decode b_Reader_readDelta 1 = .ok (.aload_n 0, 1) := by decide +kernel
theorem d_Reader_readDelta_2 : decode b_Reader_readDelta 2 = .ok (.getfield 46, 3) := by decide +kernel
theorem d_Reader_readDelta_5 : decode b_Reader_readDelta 5 = .ok (.putfield 105, 3) := by decide +kernel
theorem d_Reader_readDelta_8 : decode b_Reader_readDelta 8 = .ok (.aload_n 0, 1) := by decide +kernel
theorem d_Reader_readDelta_9 : decode b_Reader_readDelta 9 = .ok (.iconst 0, 1) := by decide +kernel
theorem d_Reader_readDelta_10 : decode b_Reader_readDelta 10 = .ok (.putfield 108, 3) := by decide +kernel
theorem d_Reader_readDelta_13 : decode b_Reader_readDelta 13 = .ok (.iconst 0, 1) := by decide +kernel
theorem d_Reader_readDelta_14 : decode b_Reader_readDelta 14 = .ok (.istore_n 1, 1) := by decide +kernel
theorem d_Reader_readDelta_15 : decode b_Reader_readDelta 15 = .ok (.iload_n 1, 1) := by decide +kernel
theorem d_Reader_readDelta_16 : decode b_Reader_readDelta 16 = .ok (.iconst 3, 1) := by decide +kernel
theorem d_Reader_readDelta_17 : decode b_Reader_readDelta 17 = .ok (.if_icmp .ge 73, 3) := by decide +kernel
theorem d_Reader_readDelta_20 : decode b_Reader_readDelta 20 = .ok (.aload_n 0, 1) := by decide +kernel
theorem d_Reader_readDelta_21 : decode b_Reader_readDelta 21 = .ok (.getfield 39, 3) := by decide +kernel
theorem d_Reader_readDelta_24 : decode b_Reader_readDelta 24 = .ok (.aload_n 0, 1) := by decide +kernel
theorem d_Reader_readDelta_25 : decode b_Reader_readDelta 25 = .ok (.getfield 46, 3) := by decide +kernel
theorem d_Reader_readDelta_28 : decode b_Reader_readDelta 28 = .ok (.invokevirtual 96, 3) := by decide +kernel
theorem d_Reader_readDelta_31 : decode b_Reader_readDelta 31 = .ok (.istore_n 2, 1) := by decide +kernel
theorem d_Reader_readDelta_32 : decode b_Reader_readDelta 32 = .ok (.iload_n 2, 1) := by decide +kernel
theorem d_Reader_readDelta_33 : decode b_Reader_readDelta 33 = .ok (.iconst (-1), 1) := by decide +kernel
theorem d_Reader_readDelta_34 : decode b_Reader_readDelta 34 = .ok (.if_icmp .ne 13, 3) := by decide +kernel
theorem d_Reader_readDelta_37 : decode b_Reader_readDelta 37 = .ok (.aload_n 0, 1) := by decide +kernel
theorem d_Reader_readDelta_38 : decode b_Reader_readDelta 38 = .ok (.iconst 1, 1) := by decide +kernel
theorem d_Reader_readDelta_39 : decode b_Reader_readDelta 39 = .ok (.aload_n 0, 1) := by decide +kernel
theorem d_Reader_readDelta_40 : decode b_Reader_readDelta 40 = .ok (.getfield 46, 3) := by decide +kernel
theorem d_Reader_readDelta_43 : decode b_Reader_readDelta 43 = .ok (.invokevirtual 101, 3) := by decide +kernel
theorem d_Reader_readDelta_46 : decode b_Reader_readDelta 46 = .ok (.ireturn, 1) := by decide +kernel
theorem d_Reader_readDelta_47 : decode b_Reader_readDelta 47 = .ok (.aload_n 0, 1) := by decide +kernel
theorem d_Reader_readDelta_48 : decode b_Reader_readDelta 48 = .ok (.dup, 1) := by decide +kernel
theorem d_Reader_readDelta_49 : decode b_Reader_readDelta 49 = .ok (.getfield 46, 3) := by decide +kernel
theorem d_Reader_readDelta_52 : decode b_Reader_readDelta 52 = .ok (.iconst 1, 1) := by decide +kernel
theorem d_Reader_readDelta_53 : decode b_Reader_readDelta 53 = .ok (.iadd, 1) := by decide +kernel
theorem d_Reader_readDelta_54 : decode b_Reader_readDelta 54 = .ok (.putfield 46, 3) := by decide +kernel
theorem d_Reader_readDelta_57 : decode b_Reader_readDelta 57 = .ok (.aload_n 0, 1) := by decide +kernel
theorem d_Reader_readDelta_58 : decode b_Reader_readDelta 58 = .ok (.dup, 1) := by decide +kernel
theorem d_Reader_readDelta_59 : decode b_Reader_readDelta 59 = .ok (.getfield 108, 3) := by decide +kernel
theorem d_Reader_readDelta_62 : decode b_Reader_readDelta 62 = .ok (.iload_n 2, 1) := by decide +kernel
theorem d_Reader_readDelta_63 : decode b_Reader_readDelta 63 = .ok (.bipush 127, 2) := by decide +kernel
theorem d_Reader_readDelta_65 : decode b_Reader_readDelta 65 = .ok (.iand, 1) := by decide +kernel
theorem d_Reader_readDelta_66 : decode b_Reader_readDelta 66 = .ok (.bipush 7, 2) := by decide +kernel
theorem d_Reader_readDelta_68 : decode b_Reader_readDelta 68 = .ok (.iload_n 1, 1) := by decide +kernel
theorem d_Reader_readDelta_69 : decode b_Reader_readDelta 69 = .ok (.imul, 1) := by decide +kernel
theorem d_Reader_readDelta_70 : decode b_Reader_readDelta 70 = .ok (.ishl, 1) := by decide +kernel
theorem d_Reader_readDelta_71 : decode b_Reader_readDelta 71 = .ok (.ior, 1) := by decide +kernel
theorem d_Reader_readDelta_72 : decode b_Reader_readDelta 72 = .ok (.putfield 108, 3) := by decide +kernel
theorem d_Reader_readDelta_75 : decode b_Reader_readDelta 75 = .ok (.iload_n 2, 1) := by decide +kernel
theorem d_Reader_readDelta_76 : decode b_Reader_readDelta 76 = .ok (.sipush 128, 3) := by decide +kernel
theorem d_Reader_readDelta_79 : decode b_Reader_readDelta 79 = .ok (.if_icmp .ge 5, 3) := by decide +kernel
theorem d_Reader_readDelta_82 : decode b_Reader_readDelta 82 = .ok (.iconst 1, 1) := by decide +kernel
theorem d_Reader_readDelta_83 : decode b_Reader_readDelta 83 = .ok (.ireturn, 1) := by decide +kernel
theorem d_Reader_readDelta_84 : decode b_Reader_readDelta 84 = .ok (.iinc 1 1, 3) := by decide +kernel
theorem d_Reader_readDelta_87 : decode b_Reader_readDelta 87 = .ok (.goto (-72), 3) := by decide +kernel
theorem d_Reader_readDelta_90 : decode b_Reader_readDelta 90 = .ok (.aload_n 0, 1) := by decide +kernel
theorem d_Reader_readDelta_91 : decode b_Reader_readDelta 91 = .ok (.iconst 1, 1) := by decide +kernel
theorem d_Reader_readDelta_92 : decode b_Reader_readDelta 92 = .ok (.aload_n 0, 1) := by decide +kernel
theorem d_Reader_readDelta_93 : decode b_Reader_readDelta 93 = .ok (.getfield 46, 3) := by decide +kernel
theorem d_Reader_readDelta_96 : decode b_Reader_readDelta 96 = .ok (.invokevirtual 101, 3) := by decide +kernel
theorem d_Reader_readDelta_99 : decode b_Reader_readDelta 99 = .ok (.ireturn, 1) := by decide +kernel
theorem d_Reader_readDeltas_0 : decode b_Reader_readDeltas 0 = .ok (.iconst 0, 1) := by decide +kernel
theorem d_Reader_readDeltas_1 : decode b_Reader_readDeltas 1 = .ok (.istore_n 1, 1) := by decide +kernel
theorem d_Reader_readDeltas_2 : decode b_Reader_readDeltas 2 = .ok (.iload_n 1, 1) := by decide +kernel
theorem d_Reader_readDeltas_3 : decode b_Reader_readDeltas 3 = .ok (.aload_n 0, 1) := by decide +kernel
theorem d_Reader_readDeltas_4 : decode b_Reader_readDeltas 4 = .ok (.getfield 21, 3) := by decide +kernel
theorem d_Reader_readDeltas_7 : decode b_Reader_readDeltas 7 = .ok (.getfield 133, 3) := by decide +kernel
theorem d_Reader_readDeltas_10 : decode b_Reader_readDeltas 10 = .ok (.if_icmp .ge 130, 3) := by decide +kernel
theorem d_Reader_readDeltas_13 : decode b_Reader_readDeltas 13 = .ok (.aload_n 0, 1) := by decide +kernel
theorem d_Reader_readDeltas_14 : decode b_Reader_readDeltas 14 = .ok (.getfield 12, 3) := by decide +kernel
theorem d_Reader_readDeltas_17 : decode b_Reader_readDeltas 17 = .ok (.getfield 149, 3) := by decide +kernel
theorem d_Reader_readDeltas_20 : decode b_Reader_readDeltas 20 = .ok (.iload_n 1, 1) := by decide +kernel
theorem d_Reader_readDeltas_21 : decode b_Reader_readDeltas 21 = .ok (.iaload, 1) := by decide +kernel
theorem d_Reader_readDeltas_22 : decode b_Reader_readDeltas 22 = .ok (.istore_n 2, 1) := by decide +kernel
theorem d_Reader_readDeltas_23 : decode b_Reader_readDeltas 23 = .ok (.aload_n 0, 1) := by decide +kernel
theorem d_Reader_readDeltas_24 : decode b_Reader_readDeltas 24 = .ok (.invokevirtual 176, 3) := by decide +kernel
theorem d_Reader_readDeltas_27 : decode b_Reader_readDeltas 27 = .ok (.ifCond .ne 5, 3) := by decide +kernel
theorem d_Reader_readDeltas_30 : decode b_Reader_readDeltas 30 = .ok (.iconst 0, 1) := by decide +kernel
theorem d_Reader_readDeltas_31 : decode b_Reader_readDeltas 31 = .ok (.ireturn, 1) := by decide +kernel
theorem d_Reader_readDeltas_32 : decode b_Reader_readDeltas 32 = .ok (.aload_n 0, 1) := by decide +kernel
theorem d_Reader_readDeltas_33 : decode b_Reader_readDeltas 33 = .ok (.getfield 108, 3) := by decide +kernel
theorem d_Reader_readDeltas_36 : decode b_Reader_readDeltas 36 = .ok (.ifCond .eq 13, 3) := by decide +kernel
theorem d_Reader_readDeltas_39 : decode b_Reader_readDeltas 39 = .ok (.aload_n 0, 1) := by decide +kernel
theorem d_Reader_readDeltas_40 : decode b_Reader_readDeltas 40 = .ok (.getfield 108, 3) := by decide +kernel
theorem d_Reader_readDeltas_43 : decode b_Reader_readDeltas 43 = .ok (.iconst 2, 1) := by decide +kernel
theorem d_Reader_readDeltas_44 : decode b_Reader_readDeltas 44 = .ok (.iload_n 2, 1) := by decide +kernel
theorem d_Reader_readDeltas_45 : decode b_Reader_readDeltas 45 = .ok (.imul, 1) := by decide +kernel
theorem d_Reader_readDeltas_46 : decode b_Reader_readDeltas 46 = .ok (.if_icmp .le 13, 3) := by decide +kernel
theorem d_Reader_readDeltas_49 : decode b_Reader_readDeltas 49 = .ok (.aload_n 0, 1) := by decide +kernel
theorem d_Reader_readDeltas_50 : decode b_Reader_readDeltas 50 = .ok (.iconst 3, 1) := by decide +kernel
theorem d_Reader_readDeltas_51 : decode b_Reader_readDeltas 51 = .ok (.aload_n 0, 1) := by decide +kernel
theorem d_Reader_readDeltas_52 : decode b_Reader_readDeltas 52 = .ok (.getfield 105, 3) := by decide +kernel
theorem d_Reader_readDeltas_55 : decode b_Reader_readDeltas 55 = .ok (.invokevirtual 101, 3) := by decide +kernel
theorem d_Reader_readDeltas_58 : decode b_Reader_readDeltas 58 = .ok (.ireturn, 1) := by decide +kernel
theorem d_Reader_readDeltas_59 : decode b_Reader_readDeltas 59 = .ok (.aload_n 0, 1) := by decide +kernel
theorem d_Reader_readDeltas_60 : decode b_Reader_readDeltas 60 = .ok (.getfield 21, 3) := by decide +kernel
theorem d_Reader_readDeltas_63 : decode b_Reader_readDeltas 63 = .ok (.getfield 170, 3) := by decide +kernel
theorem d_Reader_readDeltas_66 : decode b_Reader_readDeltas 66 = .ok (.iload_n 2, 1) := by decide +kernel
theorem d_Reader_readDeltas_67 : decode b_Reader_readDeltas 67 = .ok (.iconst 2, 1) := by decide +kernel
theorem d_Reader_readDeltas_68 : decode b_Reader_readDeltas 68 = .ok (.iload_n 2, 1) := by decide +kernel
theorem d_Reader_readDeltas_69 : decode b_Reader_readDeltas 69 = .ok (.imul, 1) := by decide +kernel
theorem d_Reader_readDeltas_70 : decode b_Reader_readDeltas 70 = .ok (.aload_n 0, 1) := by decide +kernel
theorem d_Reader_readDeltas_71 : decode b_Reader_readDeltas 71 = .ok (.getfield 108, 3) := by decide +kernel
theorem d_Reader_readDeltas_74 : decode b_Reader_readDeltas 74 = .ok (.isub, 1) := by decide +kernel
theorem d_Reader_readDeltas_75 : decode b_Reader_readDeltas 75 = .ok (.iastore, 1) := by decide +kernel
theorem d_Reader_readDeltas_76 : decode b_Reader_readDeltas 76 = .ok (.aload_n 0, 1) := by decide +kernel
theorem d_Reader_readDeltas_77 : decode b_Reader_readDeltas 77 = .ok (.invokevirtual 176, 3) := by decide +kernel
theorem d_Reader_readDeltas_80 : decode b_Reader_readDeltas 80 = .ok (.ifCond .ne 5, 3) := by decide +kernel
theorem d_Reader_readDeltas_83 : decode b_Reader_readDeltas 83 = .ok (.iconst 0, 1) := by decide +kernel
theorem d_Reader_readDeltas_84 : decode b_Reader_readDeltas 84 = .ok (.ireturn, 1) := by decide +kernel
theorem d_Reader_readDeltas_85 : decode b_Reader_readDeltas 85 = .ok (.aload_n 0, 1) := by decide +kernel
theorem d_Reader_readDeltas_86 : decode b_Reader_readDeltas 86 = .ok (.getfield 108, 3) := by decide +kernel
theorem d_Reader_readDeltas_89 : decode b_Reader_readDeltas 89 = .ok (.aload_n 0, 1) := by decide +kernel
theorem d_Reader_readDeltas_90 : decode b_Reader_readDeltas 90 = .ok (.getfield 21, 3) := by decide +kernel
theorem d_Reader_readDeltas_93 : decode b_Reader_readDeltas 93 = .ok (.getfield 170, 3) := by decide +kernel
theorem d_Reader_readDeltas_96 : decode b_Reader_readDeltas 96 = .ok (.iload_n 2, 1) := by decide +kernel
theorem d_Reader_readDeltas_97 : decode b_Reader_readDeltas 97 = .ok (.iaload, 1) := by decide +kernel
theorem d_Reader_readDeltas_98 : decode b_Reader_readDeltas 98 = .ok (.if_icmp .le 13, 3) := by decide +kernel
theorem d_Reader_readDeltas_101 : decode b_Reader_readDeltas 101 = .ok (.aload_n 0, 1) := by decide +kernel
theorem d_Reader_readDeltas_102 : decode b_Reader_readDeltas 102 = .ok (.iconst 3, 1) := by decide +kernel
theorem d_Reader_readDeltas_103 : decode b_Reader_readDeltas 103 = .ok (.aload_n 0, 1) := by decide +kernel
theorem d_Reader_readDeltas_104 : decode b_Reader_readDeltas 104 = .ok (.getfield 105, 3) := by decide +kernel
theorem d_Reader_readDeltas_107 : decode b_Reader_readDeltas 107 = .ok (.invokevirtual 101, 3) := by decide +kernel
theorem d_Reader_readDeltas_110 : decode b_Reader_readDeltas 110 = .ok (.ireturn, 1) := by decide +kernel
theorem d_Reader_readDeltas_111 : decode b_Reader_readDeltas 111 = .ok (.aload_n 0, 1) := by decide +kernel
theorem d_Reader_readDeltas_112 : decode b_Reader_readDeltas 112 = .ok (.getfield 21, 3) := by decide +kernel
theorem d_Reader_readDeltas_115 : decode b_Reader_readDeltas 115 = .ok (.getfield 173, 3) := by decide +kernel
theorem d_Reader_readDeltas_118 : decode b_Reader_readDeltas 118 = .ok (.iload_n 2, 1) := by decide +kernel
theorem d_Reader_readDeltas_119 : decode b_Reader_readDeltas 119 = .ok (.aload_n 0, 1) := by decide +kernel
theorem d_Reader_readDeltas_120 : decode b_Reader_readDeltas 120 = .ok (.getfield 21, 3) := by decide +kernel
theorem d_Reader_readDeltas_123 : decode b_Reader_readDeltas 123 = .ok (.getfield 170, 3) := by decide +kernel
theorem d_Reader_readDeltas_126 : decode b_Reader_readDeltas 126 = .ok (.iload_n 2, 1) := by decide +kernel
theorem d_Reader_readDeltas_127 : decode b_Reader_readDeltas 127 = .ok (.iaload, 1) := by decide +kernel
theorem d_Reader_readDeltas_128 : decode b_Reader_readDeltas 128 = .ok (.aload_n 0, 1) := by decide +kernel
theorem d_Reader_readDeltas_129 : decode b_Reader_readDeltas 129 = .ok (.getfield 108, 3) := by decide +kernel
theorem d_Reader_readDeltas_132 : decode b_Reader_readDeltas 132 = .ok (.isub, 1) := by decide +kernel
theorem d_Reader_readDeltas_133 : decode b_Reader_readDeltas 133 = .ok (.iastore, 1) := by decide +kernel
theorem d_Reader_readDeltas_134 : decode b_Reader_readDeltas 134 = .ok (.iinc 1 1, 3) := by decide +kernel
theorem d_Reader_readDeltas_137 : decode b_Reader_readDeltas 137 = .ok (.goto (-135), 3) := by decide +kernel
theorem d_Reader_readDeltas_140 : decode b_Reader_readDeltas 140 = .ok (.iconst 1, 1) := by decide +kernel
theorem d_Reader_readDeltas_141 : decode b_Reader_readDeltas 141 = .ok (.ireturn, 1) := by decide +kernel
theorem d_Reader_readAnds_0 : decode b_Reader_readAnds 0 = .ok (.iconst 0, 1) := by decide +kernel
theorem d_Reader_readAnds_1 : decode b_Reader_readAnds 1 = .ok (.istore_n 1, 1) := by decide +kernel
theorem d_Reader_readAnds_2 : decode b_Reader_readAnds 2 = .ok (.iload_n 1, 1) := by decide +kernel
theorem d_Reader_readAnds_3 : decode b_Reader_readAnds 3 = .ok (.aload_n 0, 1) := by decide +kernel
theorem d_Reader_readAnds_4 : decode b_Reader_readAnds 4 = .ok (.getfield 21, 3) := by decide +kernel
theorem d_Reader_readAnds_7 : decode b_Reader_readAnds 7 = .ok (.getfield 133, 3) := by decide +kernel
theorem d_Reader_readAnds_10 : decode b_Reader_readAnds 10 = .ok (.if_icmp .ge 109, 3) := by decide +kernel
theorem d_Reader_readAnds_13 : decode b_Reader_readAnds 13 = .ok (.aload_n 0, 1) := by decide +kernel
theorem d_Reader_readAnds_14 : decode b_Reader_readAnds 14 = .ok (.iconst 3, 1) := by decide +kernel
theorem d_Reader_readAnds_15 : decode b_Reader_readAnds 15 = .ok (.invokevirtual 152, 3) := by decide +kernel
theorem d_Reader_readAnds_18 : decode b_Reader_readAnds 18 = .ok (.ifCond .ne 5, 3) := by decide +kernel
theorem d_Reader_readAnds_21 : decode b_Reader_readAnds 21 = .ok (.iconst 0, 1) := by decide +kernel
theorem d_Reader_readAnds_22 : decode b_Reader_readAnds 22 = .ok (.ireturn, 1) := by decide +kernel
theorem d_Reader_readAnds_23 : decode b_Reader_readAnds 23 = .ok (.aload_n 0, 1) := by decide +kernel
theorem d_Reader_readAnds_24 : decode b_Reader_readAnds 24 = .ok (.getfield 108, 3) := by decide +kernel
theorem d_Reader_readAnds_27 : decode b_Reader_readAnds 27 = .ok (.iconst 1, 1) := by decide +kernel
theorem d_Reader_readAnds_28 : decode b_Reader_readAnds 28 = .ok (.ishr, 1) := by decide +kernel
theorem d_Reader_readAnds_29 : decode b_Reader_readAnds 29 = .ok (.istore_n 2, 1) := by decide +kernel
theorem d_Reader_readAnds_30 : decode b_Reader_readAnds 30 = .ok (.aload_n 0, 1) := by decide +kernel
theorem d_Reader_readAnds_31 : decode b_Reader_readAnds 31 = .ok (.getfield 12, 3) := by decide +kernel
theorem d_Reader_readAnds_34 : decode b_Reader_readAnds 34 = .ok (.getfield 149, 3) := by decide +kernel
theorem d_Reader_readAnds_37 : decode b_Reader_readAnds 37 = .ok (.iload_n 1, 1) := by decide +kernel
theorem d_Reader_readAnds_38 : decode b_Reader_readAnds 38 = .ok (.iload_n 2, 1) := by decide +kernel
theorem d_Reader_readAnds_39 : decode b_Reader_readAnds 39 = .ok (.iastore, 1) := by decide +kernel
theorem d_Reader_readAnds_40 : decode b_Reader_readAnds 40 = .ok (.aload_n 0, 1) := by decide +kernel
theorem d_Reader_readAnds_41 : decode b_Reader_readAnds 41 = .ok (.bipush 32, 2) := by decide +kernel
theorem d_Reader_readAnds_43 : decode b_Reader_readAnds 43 = .ok (.invokevirtual 115, 3) := by decide +kernel
theorem d_Reader_readAnds_46 : decode b_Reader_readAnds 46 = .ok (.ifCond .eq 10, 3) := by decide +kernel
theorem d_Reader_readAnds_49 : decode b_Reader_readAnds 49 = .ok (.aload_n 0, 1) := by decide +kernel
theorem d_Reader_readAnds_50 : decode b_Reader_readAnds 50 = .ok (.invokevirtual 161, 3) := by decide +kernel
theorem d_Reader_readAnds_53 : decode b_Reader_readAnds 53 = .ok (.ifCond .ne 5, 3) := by decide +kernel
theorem d_Reader_readAnds_56 : decode b_Reader_readAnds 56 = .ok (.iconst 0, 1) := by decide +kernel
theorem d_Reader_readAnds_57 : decode b_Reader_readAnds 57 = .ok (.ireturn, 1) := by decide +kernel
theorem d_Reader_readAnds_58 : decode b_Reader_readAnds 58 = .ok (.aload_n 0, 1) := by decide +kernel
theorem d_Reader_readAnds_59 : decode b_Reader_readAnds 59 = .ok (.getfield 21, 3) := by decide +kernel
theorem d_Reader_readAnds_62 : decode b_Reader_readAnds 62 = .ok (.getfield 170, 3) := by decide +kernel
theorem d_Reader_readAnds_65 : decode b_Reader_readAnds 65 = .ok (.iload_n 2, 1) := by decide +kernel
theorem d_Reader_readAnds_66 : decode b_Reader_readAnds 66 = .ok (.aload_n 0, 1) := by decide +kernel
theorem d_Reader_readAnds_67 : decode b_Reader_readAnds 67 = .ok (.getfield 108, 3) := by decide +kernel
theorem d_Reader_readAnds_70 : decode b_Reader_readAnds 70 = .ok (.iastore, 1) := by decide +kernel
theorem d_Reader_readAnds_71 : decode b_Reader_readAnds 71 = .ok (.aload_n 0, 1) := by decide +kernel
theorem d_Reader_readAnds_72 : decode b_Reader_readAnds 72 = .ok (.bipush 32, 2) := by decide +kernel
theorem d_Reader_readAnds_74 : decode b_Reader_readAnds 74 = .ok (.invokevirtual 115, 3) := by decide +kernel
theorem d_Reader_readAnds_77 : decode b_Reader_readAnds 77 = .ok (.ifCond .eq 10, 3) := by decide +kernel
theorem d_Reader_readAnds_80 : decode b_Reader_readAnds 80 = .ok (.aload_n 0, 1) := by decide +kernel
theorem d_Reader_readAnds_81 : decode b_Reader_readAnds 81 = .ok (.invokevirtual 161, 3) := by decide +kernel
theorem d_Reader_readAnds_84 : decode b_Reader_readAnds 84 = .ok (.ifCond .ne 5, 3) := by decide +kernel
theorem d_Reader_readAnds_87 : decode b_Reader_readAnds 87 = .ok (.iconst 0, 1) := by decide +kernel
theorem d_Reader_readAnds_88 : decode b_Reader_readAnds 88 = .ok (.ireturn, 1) := by decide +kernel
theorem d_Reader_readAnds_89 : decode b_Reader_readAnds 89 = .ok (.aload_n 0, 1) := by decide +kernel
theorem d_Reader_readAnds_90 : decode b_Reader_readAnds 90 = .ok (.getfield 21, 3) := by decide +kernel
theorem d_Reader_readAnds_93 : decode b_Reader_readAnds 93 = .ok (.getfield 173, 3) := by decide +kernel
theorem d_Reader_readAnds_96 : decode b_Reader_readAnds 96 = .ok (.iload_n 2, 1) := by decide +kernel
theorem d_Reader_readAnds_97 : decode b_Reader_readAnds 97 = .ok (.aload_n 0, 1) := by decide +kernel
theorem d_Reader_readAnds_98 : decode b_Reader_readAnds 98 = .ok (.getfield 108, 3) := by decide +kernel
theorem d_Reader_readAnds_101 : decode b_Reader_readAnds 101 = .ok (.iastore, 1) := by decide +kernel
theorem d_Reader_readAnds_102 : decode b_Reader_readAnds 102 = .ok (.aload_n 0, 1) := by decide +kernel
theorem d_Reader_readAnds_103 : decode b_Reader_readAnds 103 = .ok (.bipush 10, 2) := by decide +kernel
theorem d_Reader_readAnds_105 : decode b_Reader_readAnds 105 = .ok (.invokevirtual 115, 3) := by decide +kernel
theorem d_Reader_readAnds_108 : decode b_Reader_readAnds 108 = .ok (.ifCond .ne 5, 3) := by decide +kernel
theorem d_Reader_readAnds_111 : decode b_Reader_readAnds 111 = .ok (.iconst 0, 1) := by decide +kernel
theorem d_Reader_readAnds_112 : decode b_Reader_readAnds 112 = .ok (.ireturn, 1) := by decide +kernel
theorem d_Reader_readAnds_113 : decode b_Reader_readAnds 113 = .ok (.iinc 1 1, 3) := by decide +kernel
theorem d_Reader_readAnds_116 : decode b_Reader_readAnds 116 = .ok (.goto (-114), 3) := by decide +kernel
theorem d_Reader_readAnds_119 : decode b_Reader_readAnds 119 = .ok (.iconst 1, 1) := by decide +kernel
theorem d_Reader_readAnds_120 : decode b_Reader_readAnds 120 = .ok (.ireturn, 1) := by decide +kernel
theorem d_Reader_kindOf_0 : decode b_Reader_kindOf 0 = .ok (.iload_n 0, 1) := by decide +kernel
theorem d_Reader_kindOf_1 : decode b_Reader_kindOf 1 = .ok (.lookupswitch 41 #[(105, 35), (108, 37), (111, 39)], 35) := by decide +kernel
theorem d_Reader_kindOf_36 : decode b_Reader_kindOf 36 = .ok (.iconst 0, 1) := by decide +kernel
theorem d_Reader_kindOf_37 : decode b_Reader_kindOf 37 = .ok (.ireturn, 1) := by decide +kernel
theorem d_Reader_kindOf_38 : decode b_Reader_kindOf 38 = .ok (.iconst 1, 1) := by decide +kernel
theorem d_Reader_kindOf_39 : decode b_Reader_kindOf 39 = .ok (.ireturn, 1) := by decide +kernel
theorem d_Reader_kindOf_40 : decode b_Reader_kindOf 40 = .ok (.iconst 2, 1) := by decide +kernel
theorem d_Reader_kindOf_41 : decode b_Reader_kindOf 41 = .ok (.ireturn, 1) := by decide +kernel
theorem d_Reader_kindOf_42 : decode b_Reader_kindOf 42 = .ok (.iconst (-1), 1) := by decide +kernel
theorem d_Reader_kindOf_43 : decode b_Reader_kindOf 43 = .ok (.ireturn, 1) := by decide +kernel
theorem d_Circuit_size_0 : decode b_Circuit_size 0 = .ok (.iload_n 1, 1) := by decide +kernel
theorem d_Circuit_size_1 : decode b_Circuit_size 1 = .ok (.tableswitch 60 0 4 #[35, 40, 45, 50, 55], 35) := by decide +kernel
theorem d_Circuit_size_36 : decode b_Circuit_size 36 = .ok (.aload_n 0, 1) := by decide +kernel
theorem d_Circuit_size_37 : decode b_Circuit_size 37 = .ok (.getfield 52, 3) := by decide +kernel
theorem d_Circuit_size_40 : decode b_Circuit_size 40 = .ok (.ireturn, 1) := by decide +kernel
theorem d_Circuit_size_41 : decode b_Circuit_size 41 = .ok (.aload_n 0, 1) := by decide +kernel
theorem d_Circuit_size_42 : decode b_Circuit_size 42 = .ok (.getfield 56, 3) := by decide +kernel
theorem d_Circuit_size_45 : decode b_Circuit_size 45 = .ok (.ireturn, 1) := by decide +kernel
theorem d_Circuit_size_46 : decode b_Circuit_size 46 = .ok (.aload_n 0, 1) := by decide +kernel
theorem d_Circuit_size_47 : decode b_Circuit_size 47 = .ok (.getfield 59, 3) := by decide +kernel
theorem d_Circuit_size_50 : decode b_Circuit_size 50 = .ok (.ireturn, 1) := by decide +kernel
theorem d_Circuit_size_51 : decode b_Circuit_size 51 = .ok (.aload_n 0, 1) := by decide +kernel
theorem d_Circuit_size_52 : decode b_Circuit_size 52 = .ok (.getfield 62, 3) := by decide +kernel
theorem d_Circuit_size_55 : decode b_Circuit_size 55 = .ok (.ireturn, 1) := by decide +kernel
theorem d_Circuit_size_56 : decode b_Circuit_size 56 = .ok (.aload_n 0, 1) := by decide +kernel
theorem d_Circuit_size_57 : decode b_Circuit_size 57 = .ok (.getfield 65, 3) := by decide +kernel
theorem d_Circuit_size_60 : decode b_Circuit_size 60 = .ok (.ireturn, 1) := by decide +kernel
theorem d_Circuit_size_61 : decode b_Circuit_size 61 = .ok (.iconst (-1), 1) := by decide +kernel
theorem d_Circuit_size_62 : decode b_Circuit_size 62 = .ok (.ireturn, 1) := by decide +kernel
theorem d_Circuit_nameSlot_0 : decode b_Circuit_nameSlot 0 = .ok (.iload_n 1, 1) := by decide +kernel
theorem d_Circuit_nameSlot_1 : decode b_Circuit_nameSlot 1 = .ok (.ifCond .lt 23, 3) := by decide +kernel
theorem d_Circuit_nameSlot_4 : decode b_Circuit_nameSlot 4 = .ok (.iload_n 1, 1) := by decide +kernel
theorem d_Circuit_nameSlot_5 : decode b_Circuit_nameSlot 5 = .ok (.iconst 2, 1) := by decide +kernel
theorem d_Circuit_nameSlot_6 : decode b_Circuit_nameSlot 6 = .ok (.if_icmp .gt 18, 3) := by decide +kernel
theorem d_Circuit_nameSlot_9 : decode b_Circuit_nameSlot 9 = .ok (.iload_n 2, 1) := by decide +kernel
theorem d_Circuit_nameSlot_10 : decode b_Circuit_nameSlot 10 = .ok (.ifCond .lt 14, 3) := by decide +kernel
theorem d_Circuit_nameSlot_13 : decode b_Circuit_nameSlot 13 = .ok (.iload_n 2, 1) := by decide +kernel
theorem d_Circuit_nameSlot_14 : decode b_Circuit_nameSlot 14 = .ok (.aload_n 0, 1) := by decide +kernel
theorem d_Circuit_nameSlot_15 : decode b_Circuit_nameSlot 15 = .ok (.iload_n 1, 1) := by decide +kernel
theorem d_Circuit_nameSlot_16 : decode b_Circuit_nameSlot 16 = .ok (.iconst 1, 1) := by decide +kernel
theorem d_Circuit_nameSlot_17 : decode b_Circuit_nameSlot 17 = .ok (.iadd, 1) := by decide +kernel
theorem d_Circuit_nameSlot_18 : decode b_Circuit_nameSlot 18 = .ok (.invokevirtual 68, 3) := by decide +kernel
theorem d_Circuit_nameSlot_21 : decode b_Circuit_nameSlot 21 = .ok (.if_icmp .lt 5, 3) := by decide +kernel
theorem d_Circuit_nameSlot_24 : decode b_Circuit_nameSlot 24 = .ok (.iconst (-1), 1) := by decide +kernel
theorem d_Circuit_nameSlot_25 : decode b_Circuit_nameSlot 25 = .ok (.ireturn, 1) := by decide +kernel
theorem d_Circuit_nameSlot_26 : decode b_Circuit_nameSlot 26 = .ok (.getstatic 72, 3) := by decide +kernel
theorem d_Circuit_nameSlot_29 : decode b_Circuit_nameSlot 29 = .ok (.iload_n 1, 1) := by decide +kernel
theorem d_Circuit_nameSlot_30 : decode b_Circuit_nameSlot 30 = .ok (.iaload, 1) := by decide +kernel
theorem d_Circuit_nameSlot_31 : decode b_Circuit_nameSlot 31 = .ok (.iload_n 2, 1) := by decide +kernel
theorem d_Circuit_nameSlot_32 : decode b_Circuit_nameSlot 32 = .ok (.iadd, 1) := by decide +kernel
theorem d_Circuit_nameSlot_33 : decode b_Circuit_nameSlot 33 = .ok (.ireturn, 1) := by decide +kernel
theorem d_Reader_readName_0 : decode b_Reader_readName 0 = .ok (.iconst 0, 1) := by decide +kernel
theorem d_Reader_readName_1 : decode b_Reader_readName 1 = .ok (.istore_n 2, 1) := by decide +kernel
theorem d_Reader_readName_2 : decode b_Reader_readName 2 = .ok (.iload_n 2, 1) := by decide +kernel
theorem d_Reader_readName_3 : decode b_Reader_readName 3 = .ok (.bipush 40, 2) := by decide +kernel
theorem d_Reader_readName_5 : decode b_Reader_readName 5 = .ok (.if_icmp .ge 61, 3) := by decide +kernel
theorem d_Reader_readName_8 : decode b_Reader_readName 8 = .ok (.aload_n 0, 1) := by decide +kernel
theorem d_Reader_readName_9 : decode b_Reader_readName 9 = .ok (.getfield 39, 3) := by decide +kernel
theorem d_Reader_readName_12 : decode b_Reader_readName 12 = .ok (.aload_n 0, 1) := by decide +kernel
theorem d_Reader_readName_13 : decode b_Reader_readName 13 = .ok (.getfield 46, 3) := by decide +kernel
theorem d_Reader_readName_16 : decode b_Reader_readName 16 = .ok (.invokevirtual 96, 3) := by decide +kernel
theorem d_Reader_readName_19 : decode b_Reader_readName 19 = .ok (.istore_n 3, 1) := by decide +kernel
theorem d_Reader_readName_20 : decode b_Reader_readName 20 = .ok (.iload_n 3, 1) := by decide +kernel
theorem d_Reader_readName_21 : decode b_Reader_readName 21 = .ok (.iconst (-1), 1) := by decide +kernel
theorem d_Reader_readName_22 : decode b_Reader_readName 22 = .ok (.if_icmp .eq 44, 3) := by decide +kernel
theorem d_Reader_readName_25 : decode b_Reader_readName 25 = .ok (.iload_n 3, 1) := by decide +kernel
theorem d_Reader_readName_26 : decode b_Reader_readName 26 = .ok (.bipush 10, 2) := by decide +kernel
theorem d_Reader_readName_28 : decode b_Reader_readName 28 = .ok (.if_icmp .ne 6, 3) := by decide +kernel
theorem d_Reader_readName_31 : decode b_Reader_readName 31 = .ok (.goto 35, 3) := by decide +kernel
theorem d_Reader_readName_34 : decode b_Reader_readName 34 = .ok (.aload_n 0, 1) := by decide +kernel
theorem d_Reader_readName_35 : decode b_Reader_readName 35 = .ok (.getfield 21, 3) := by decide +kernel
theorem d_Reader_readName_38 : decode b_Reader_readName 38 = .ok (.getfield 198, 3) := by decide +kernel
theorem d_Reader_readName_41 : decode b_Reader_readName 41 = .ok (.iload_n 1, 1) := by decide +kernel
theorem d_Reader_readName_42 : decode b_Reader_readName 42 = .ok (.bipush 40, 2) := by decide +kernel
theorem d_Reader_readName_44 : decode b_Reader_readName 44 = .ok (.imul, 1) := by decide +kernel
theorem d_Reader_readName_45 : decode b_Reader_readName 45 = .ok (.iload_n 2, 1) := by decide +kernel
theorem d_Reader_readName_46 : decode b_Reader_readName 46 = .ok (.iadd, 1) := by decide +kernel
theorem d_Reader_readName_47 : decode b_Reader_readName 47 = .ok (.iload_n 3, 1) := by decide +kernel
theorem d_Reader_readName_48 : decode b_Reader_readName 48 = .ok (.i2b, 1) := by decide +kernel
theorem d_Reader_readName_49 : decode b_Reader_readName 49 = .ok (.bastore, 1) := by decide +kernel
theorem d_Reader_readName_50 : decode b_Reader_readName 50 = .ok (.aload_n 0, 1) := by decide +kernel
theorem d_Reader_readName_51 : decode b_Reader_readName 51 = .ok (.dup, 1) := by decide +kernel
theorem d_Reader_readName_52 : decode b_Reader_readName 52 = .ok (.getfield 46, 3) := by decide +kernel
theorem d_Reader_readName_55 : decode b_Reader_readName 55 = .ok (.iconst 1, 1) := by decide +kernel
theorem d_Reader_readName_56 : decode b_Reader_readName 56 = .ok (.iadd, 1) := by decide +kernel
theorem d_Reader_readName_57 : decode b_Reader_readName 57 = .ok (.putfield 46, 3) := by decide +kernel
theorem d_Reader_readName_60 : decode b_Reader_readName 60 = .ok (.iinc 2 1, 3) := by decide +kernel
theorem d_Reader_readName_63 : decode b_Reader_readName 63 = .ok (.goto (-61), 3) := by decide +kernel
theorem d_Reader_readName_66 : decode b_Reader_readName 66 = .ok (.aload_n 0, 1) := by decide +kernel
theorem d_Reader_readName_67 : decode b_Reader_readName 67 = .ok (.getfield 21, 3) := by decide +kernel
theorem d_Reader_readName_70 : decode b_Reader_readName 70 = .ok (.getfield 192, 3) := by decide +kernel
theorem d_Reader_readName_73 : decode b_Reader_readName 73 = .ok (.iload_n 1, 1) := by decide +kernel
theorem d_Reader_readName_74 : decode b_Reader_readName 74 = .ok (.iload_n 2, 1) := by decide +kernel
theorem d_Reader_readName_75 : decode b_Reader_readName 75 = .ok (.iastore, 1) := by decide +kernel
theorem d_Reader_readName_76 : decode b_Reader_readName 76 = .ok (.iload_n 2, 1) := by decide +kernel
theorem d_Reader_readName_77 : decode b_Reader_readName 77 = .ok (.ifCond .le 12, 3) := by decide +kernel
theorem d_Reader_readName_80 : decode b_Reader_readName 80 = .ok (.aload_n 0, 1) := by decide +kernel
theorem d_Reader_readName_81 : decode b_Reader_readName 81 = .ok (.bipush 10, 2) := by decide +kernel
theorem d_Reader_readName_83 : decode b_Reader_readName 83 = .ok (.invokevirtual 115, 3) := by decide +kernel
theorem d_Reader_readName_86 : decode b_Reader_readName 86 = .ok (.goto 12, 3) := by decide +kernel
theorem d_Reader_readName_89 : decode b_Reader_readName 89 = .ok (.aload_n 0, 1) := by decide +kernel
theorem d_Reader_readName_90 : decode b_Reader_readName 90 = .ok (.iconst 1, 1) := by decide +kernel
theorem d_Reader_readName_91 : decode b_Reader_readName 91 = .ok (.aload_n 0, 1) := by decide +kernel
theorem d_Reader_readName_92 : decode b_Reader_readName 92 = .ok (.getfield 46, 3) := by decide +kernel
theorem d_Reader_readName_95 : decode b_Reader_readName 95 = .ok (.invokevirtual 101, 3) := by decide +kernel
theorem d_Reader_readName_98 : decode b_Reader_readName 98 = .ok (.ireturn, 1) := by decide +kernel
