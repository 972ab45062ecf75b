theorem lf_Judge_87 : Cond.fieldLink "TwinJudge" 87 "TwinJudge$Circuit" "ands" "I" ∈ xws := xmem 200 (by decide +kernel) (by decide +kernel)
theorem lf_Judge_60 : Cond.fieldLink "TwinJudge" 60 "TwinJudge$Tape" "length" "I" ∈ xws := xmem 129 (by decide +kernel) (by decide +kernel)
theorem lm_Judge_71 : Cond.methodLink "TwinJudge" 71 ⟨"TwinJudge$Reader", "exchange", "(LTwinJudge$Circuit;)LTwinJudge$Circuit;"⟩ ∈ xws := xmem 952 (by decide +kernel) (by decide +kernel)
theorem lm_Judge_82 : Cond.methodLink "TwinJudge" 82 ⟨"TwinJudge$Works", "forget", "()V"⟩ ∈ xws := xmem 956 (by decide +kernel) (by decide +kernel)
theorem lc_Judge_64 : Cond.classLink "TwinJudge" 64 "java/lang/IllegalArgumentException" ∈ xws := xmem 886 (by decide +kernel) (by decide +kernel)
theorem it_IllegalArgumentException : Cond.instantiable "java/lang/IllegalArgumentException" 6 ∈ xws := xmem 887 (by decide +kernel) (by decide +kernel)
theorem in_IllegalArgumentException : Cond.initialized "java/lang/IllegalArgumentException" ∈ xws := xmem 102 (by decide +kernel) (by decide +kernel)
set_option maxRecDepth 100000 in
theorem ow_1_68 : ∀ w ∈ Bundle.ownAtoms "TwinJudge" 68 (xen 1) ["java/lang/RuntimeException", "java/lang/Exception"], (w ∈ xws ∧ w.onTables = true) ∨ (w ∈ lw_tbl ∧ xthw w = true) ∨ w = .isRef (.static "java/lang/Throwable" "UNASSIGNED_STACK" "[Ljava/lang/StackTraceElement;") ∨ w = .isRef (.static "java/lang/Throwable" "SUPPRESSED_SENTINEL" "Ljava/util/List;") ∨ w = .laysStatic "java/lang/Throwable" "UNASSIGNED_STACK" "[Ljava/lang/StackTraceElement;" ∨ w = .laysStatic "java/lang/Throwable" "SUPPRESSED_SENTINEL" "Ljava/util/List;" := by decide +kernel
theorem lm_Judge_49 : Cond.methodLink "TwinJudge" 49 ⟨"TwinJudge$Reader", "forgetFault", "()V"⟩ ∈ xws := xmem 748 (by decide +kernel) (by decide +kernel)
theorem lm_Judge_56 : Cond.methodLink "TwinJudge" 56 ⟨"TwinJudge$Reader", "readFile", "()Z"⟩ ∈ xws := xmem 752 (by decide +kernel) (by decide +kernel)
theorem lc_Judge_193 : Cond.classLink "TwinJudge" 193 "java/lang/IllegalStateException" ∈ xws := xmem 972 (by decide +kernel) (by decide +kernel)
theorem it_IllegalStateException : Cond.instantiable "java/lang/IllegalStateException" 6 ∈ xws := xmem 973 (by decide +kernel) (by decide +kernel)
theorem in_IllegalStateException : Cond.initialized "java/lang/IllegalStateException" ∈ xws := xmem 103 (by decide +kernel) (by decide +kernel)
set_option maxRecDepth 100000 in
theorem ow_0_197 : ∀ w ∈ Bundle.ownAtoms "TwinJudge" 197 (xen 0) ["java/lang/RuntimeException", "java/lang/Exception"], (w ∈ xws ∧ w.onTables = true) ∨ (w ∈ lw_tbl ∧ xthw w = true) ∨ w = .isRef (.static "java/lang/Throwable" "UNASSIGNED_STACK" "[Ljava/lang/StackTraceElement;") ∨ w = .isRef (.static "java/lang/Throwable" "SUPPRESSED_SENTINEL" "Ljava/util/List;") ∨ w = .laysStatic "java/lang/Throwable" "UNASSIGNED_STACK" "[Ljava/lang/StackTraceElement;" ∨ w = .laysStatic "java/lang/Throwable" "SUPPRESSED_SENTINEL" "Ljava/util/List;" := by decide +kernel
theorem lm_Judge_120 : Cond.methodLink "TwinJudge" 120 ⟨"TwinJudge", "mustMatch", "()V"⟩ ∈ xws := xmem 968 (by decide +kernel) (by decide +kernel)
theorem lm_Judge_127 : Cond.methodLink "TwinJudge" 127 ⟨"TwinJudge$Works", "countGates", "()I"⟩ ∈ xws := xmem 988 (by decide +kernel) (by decide +kernel)
theorem lm_Judge_150 : Cond.methodLink "TwinJudge" 150 ⟨"TwinJudge", "must", "(Z)V"⟩ ∈ xws := xmem 1032 (by decide +kernel) (by decide +kernel)
theorem lm_Judge_154 : Cond.methodLink "TwinJudge" 154 ⟨"TwinJudge$Works", "holdsByInduction", "(I)Z"⟩ ∈ xws := xmem 1043 (by decide +kernel) (by decide +kernel)
theorem lm_Judge_160 : Cond.methodLink "TwinJudge" 160 ⟨"TwinJudge$Walk", "greatestDepth", "()I"⟩ ∈ xws := xmem 1076 (by decide +kernel) (by decide +kernel)
theorem lf_Judge_157 : Cond.fieldLink "TwinJudge" 157 "TwinJudge$Walk" "count" "I" ∈ xws := xmem 527 (by decide +kernel) (by decide +kernel)
theorem lf_Judge_166 : Cond.fieldLink "TwinJudge" 166 "TwinJudge$Walk" "depths" "[I" ∈ xws := xmem 519 (by decide +kernel) (by decide +kernel)
theorem lm_Judge_163 : Cond.methodLink "TwinJudge" 163 ⟨"TwinJudge$Circuit", "isState", "(I)Z"⟩ ∈ xws := xmem 1087 (by decide +kernel) (by decide +kernel)
theorem lm_Judge_169 : Cond.methodLink "TwinJudge" 169 ⟨"TwinJudge$Works", "agree", "(IIII)Z"⟩ ∈ xws := xmem 1098 (by decide +kernel) (by decide +kernel)
theorem lm_Judge_173 : Cond.methodLink "TwinJudge" 173 ⟨"TwinJudge$Works", "firstLike", "(II)I"⟩ ∈ xws := xmem 1113 (by decide +kernel) (by decide +kernel)
theorem lm_Law_7 : Cond.methodLink "TwinJudgeLaw" 7 ⟨"TwinJudge", "load", "(I)I"⟩ ∈ xws := xmem 744 (by decide +kernel) (by decide +kernel)
theorem lc_Law_13 : Cond.classLink "TwinJudgeLaw" 13 "java/lang/IllegalArgumentException" ∈ xws := xmem 743 (by decide +kernel) (by decide +kernel)
theorem lm_Law_15 : Cond.methodLink "TwinJudgeLaw" 15 ⟨"TwinJudge", "gates", "()I"⟩ ∈ xws := xmem 964 (by decide +kernel) (by decide +kernel)
theorem lc_Law_19 : Cond.classLink "TwinJudgeLaw" 19 "java/lang/IllegalStateException" ∈ xws := xmem 963 (by decide +kernel) (by decide +kernel)
theorem lm_Law_21 : Cond.methodLink "TwinJudgeLaw" 21 ⟨"TwinJudge", "judge", "()I"⟩ ∈ xws := xmem 1021 (by decide +kernel) (by decide +kernel)
theorem lm_Law_24 : Cond.methodLink "TwinJudgeLaw" 24 ⟨"TwinJudge", "differs", "(I)I"⟩ ∈ xws := xmem 1028 (by decide +kernel) (by decide +kernel)
theorem lm_Law_27 : Cond.methodLink "TwinJudgeLaw" 27 ⟨"TwinJudge", "inductive", "(I)Z"⟩ ∈ xws := xmem 1039 (by decide +kernel) (by decide +kernel)
theorem lm_Law_31 : Cond.methodLink "TwinJudgeLaw" 31 ⟨"TwinJudge", "pairs", "(I)I"⟩ ∈ xws := xmem 1072 (by decide +kernel) (by decide +kernel)
theorem lm_Law_34 : Cond.methodLink "TwinJudgeLaw" 34 ⟨"TwinJudge", "depth", "(II)I"⟩ ∈ xws := xmem 1083 (by decide +kernel) (by decide +kernel)
theorem lm_Law_38 : Cond.methodLink "TwinJudgeLaw" 38 ⟨"TwinJudge", "same", "(IIII)Z"⟩ ∈ xws := xmem 1094 (by decide +kernel) (by decide +kernel)
theorem lm_Law_42 : Cond.methodLink "TwinJudgeLaw" 42 ⟨"TwinJudge", "twin", "(II)I"⟩ ∈ xws := xmem 1109 (by decide +kernel) (by decide +kernel)
theorem in_Law : Cond.initialized "TwinJudgeLaw" ∈ xws := xmem 89 (by decide +kernel) (by decide +kernel)
theorem lm_Law_49 : Cond.methodLink "TwinJudgeLaw" 49 ⟨"TwinJudge", "feed", "(IIIII)V"⟩ ∈ xws := xmem 348 (by decide +kernel) (by decide +kernel)
theorem lm_Law_53 : Cond.methodLink "TwinJudgeLaw" 53 ⟨"TwinJudgeModel", "feed", "(IIIII)V"⟩ ∈ xws := xmem 1311 (by decide +kernel) (by decide +kernel)
theorem lm_Law_54 : Cond.methodLink "TwinJudgeLaw" 54 ⟨"TwinJudge", "end", "(I)I"⟩ ∈ xws := xmem 356 (by decide +kernel) (by decide +kernel)
theorem lm_Law_57 : Cond.methodLink "TwinJudgeLaw" 57 ⟨"TwinJudgeModel", "end", "(I)I"⟩ ∈ xws := xmem 1315 (by decide +kernel) (by decide +kernel)
theorem lm_Law_58 : Cond.methodLink "TwinJudgeLaw" 58 ⟨"TwinJudgeLaw", "load", "(LTwinJudge;I[J)I"⟩ ∈ xws := xmem 740 (by decide +kernel) (by decide +kernel)
theorem lm_Law_63 : Cond.methodLink "TwinJudgeLaw" 63 ⟨"TwinJudgeModel", "load", "(I)I"⟩ ∈ xws := xmem 1319 (by decide +kernel) (by decide +kernel)
theorem lm_Law_64 : Cond.methodLink "TwinJudgeLaw" 64 ⟨"TwinJudgeModel", "thrown", "()I"⟩ ∈ xws := xmem 1307 (by decide +kernel) (by decide +kernel)
theorem lm_Law_67 : Cond.methodLink "TwinJudgeLaw" 67 ⟨"TwinJudge", "fault", "(I)I"⟩ ∈ xws := xmem 370 (by decide +kernel) (by decide +kernel)
theorem lm_Law_70 : Cond.methodLink "TwinJudgeLaw" 70 ⟨"TwinJudgeModel", "fault", "(I)I"⟩ ∈ xws := xmem 1418 (by decide +kernel) (by decide +kernel)
theorem lm_Law_71 : Cond.methodLink "TwinJudgeLaw" 71 ⟨"TwinJudge", "many", "(II)I"⟩ ∈ xws := xmem 374 (by decide +kernel) (by decide +kernel)
theorem lm_Law_74 : Cond.methodLink "TwinJudgeLaw" 74 ⟨"TwinJudgeModel", "many", "(II)I"⟩ ∈ xws := xmem 1422 (by decide +kernel) (by decide +kernel)
theorem lm_Law_75 : Cond.methodLink "TwinJudgeLaw" 75 ⟨"TwinJudge", "symbol", "(IIII)I"⟩ ∈ xws := xmem 389 (by decide +kernel) (by decide +kernel)
theorem lm_Law_79 : Cond.methodLink "TwinJudgeLaw" 79 ⟨"TwinJudgeModel", "symbol", "(IIII)I"⟩ ∈ xws := xmem 1430 (by decide +kernel) (by decide +kernel)
theorem lm_Law_80 : Cond.methodLink "TwinJudgeLaw" 80 ⟨"TwinJudge", "reset", "()V"⟩ ∈ xws := xmem 404 (by decide +kernel) (by decide +kernel)
theorem lm_Law_83 : Cond.methodLink "TwinJudgeLaw" 83 ⟨"TwinJudgeModel", "reset", "()V"⟩ ∈ xws := xmem 1434 (by decide +kernel) (by decide +kernel)
theorem lm_Law_84 : Cond.methodLink "TwinJudgeLaw" 84 ⟨"TwinJudge", "state", "(I)I"⟩ ∈ xws := xmem 415 (by decide +kernel) (by decide +kernel)
theorem lm_Law_87 : Cond.methodLink "TwinJudgeLaw" 87 ⟨"TwinJudgeModel", "state", "(I)I"⟩ ∈ xws := xmem 1438 (by decide +kernel) (by decide +kernel)
theorem lm_Law_88 : Cond.methodLink "TwinJudgeLaw" 88 ⟨"TwinJudge", "value", "(III)I"⟩ ∈ xws := xmem 419 (by decide +kernel) (by decide +kernel)
theorem lm_Law_92 : Cond.methodLink "TwinJudgeLaw" 92 ⟨"TwinJudgeModel", "value", "(III)I"⟩ ∈ xws := xmem 1442 (by decide +kernel) (by decide +kernel)
theorem lm_Law_93 : Cond.methodLink "TwinJudgeLaw" 93 ⟨"TwinJudge", "step", "(I)I"⟩ ∈ xws := xmem 447 (by decide +kernel) (by decide +kernel)
theorem lm_Law_96 : Cond.methodLink "TwinJudgeLaw" 96 ⟨"TwinJudgeModel", "step", "(I)I"⟩ ∈ xws := xmem 1467 (by decide +kernel) (by decide +kernel)
theorem lm_Law_97 : Cond.methodLink "TwinJudgeLaw" 97 ⟨"TwinJudgeLaw", "gates", "(LTwinJudge;[J)I"⟩ ∈ xws := xmem 960 (by decide +kernel) (by decide +kernel)
theorem lm_Law_100 : Cond.methodLink "TwinJudgeLaw" 100 ⟨"TwinJudgeModel", "gates", "()I"⟩ ∈ xws := xmem 1551 (by decide +kernel) (by decide +kernel)
theorem lm_Law_101 : Cond.methodLink "TwinJudgeLaw" 101 ⟨"TwinJudgeLaw", "judge", "(LTwinJudge;[J)I"⟩ ∈ xws := xmem 1018 (by decide +kernel) (by decide +kernel)
theorem lm_Law_103 : Cond.methodLink "TwinJudgeLaw" 103 ⟨"TwinJudgeModel", "judge", "()I"⟩ ∈ xws := xmem 1475 (by decide +kernel) (by decide +kernel)
theorem lm_Law_104 : Cond.methodLink "TwinJudgeLaw" 104 ⟨"TwinJudge", "witness", "(I)I"⟩ ∈ xws := xmem 459 (by decide +kernel) (by decide +kernel)
theorem lm_Law_107 : Cond.methodLink "TwinJudgeLaw" 107 ⟨"TwinJudgeModel", "witness", "(I)I"⟩ ∈ xws := xmem 1515 (by decide +kernel) (by decide +kernel)
theorem lm_Law_108 : Cond.methodLink "TwinJudgeLaw" 108 ⟨"TwinJudge", "blame", "()I"⟩ ∈ xws := xmem 732 (by decide +kernel) (by decide +kernel)
theorem lm_Law_111 : Cond.methodLink "TwinJudgeLaw" 111 ⟨"TwinJudgeModel", "blame", "()I"⟩ ∈ xws := xmem 1519 (by decide +kernel) (by decide +kernel)
theorem lm_Law_112 : Cond.methodLink "TwinJudgeLaw" 112 ⟨"TwinJudgeLaw", "differs", "(LTwinJudge;I[J)I"⟩ ∈ xws := xmem 1025 (by decide +kernel) (by decide +kernel)
theorem lm_Law_114 : Cond.methodLink "TwinJudgeLaw" 114 ⟨"TwinJudgeModel", "differs", "(I)I"⟩ ∈ xws := xmem 1523 (by decide +kernel) (by decide +kernel)
theorem lm_Law_115 : Cond.methodLink "TwinJudgeLaw" 115 ⟨"TwinJudgeLaw", "inductive", "(LTwinJudge;I[J)I"⟩ ∈ xws := xmem 1036 (by decide +kernel) (by decide +kernel)
theorem lm_Law_117 : Cond.methodLink "TwinJudgeLaw" 117 ⟨"TwinJudgeModel", "inductive", "(I)Z"⟩ ∈ xws := xmem 1527 (by decide +kernel) (by decide +kernel)
theorem lm_Law_118 : Cond.methodLink "TwinJudgeLaw" 118 ⟨"TwinJudgeLaw", "pairs", "(LTwinJudge;I[J)I"⟩ ∈ xws := xmem 1069 (by decide +kernel) (by decide +kernel)
theorem lm_Law_120 : Cond.methodLink "TwinJudgeLaw" 120 ⟨"TwinJudgeModel", "pairs", "(I)I"⟩ ∈ xws := xmem 1531 (by decide +kernel) (by decide +kernel)
theorem lm_Law_121 : Cond.methodLink "TwinJudgeLaw" 121 ⟨"TwinJudgeLaw", "depth", "(LTwinJudge;II[J)I"⟩ ∈ xws := xmem 1080 (by decide +kernel) (by decide +kernel)
theorem lm_Law_124 : Cond.methodLink "TwinJudgeLaw" 124 ⟨"TwinJudgeModel", "depth", "(II)I"⟩ ∈ xws := xmem 1535 (by decide +kernel) (by decide +kernel)
theorem lm_Law_125 : Cond.methodLink "TwinJudgeLaw" 125 ⟨"TwinJudgeLaw", "same", "(LTwinJudge;IIII[J)I"⟩ ∈ xws := xmem 1091 (by decide +kernel) (by decide +kernel)
theorem lm_Law_128 : Cond.methodLink "TwinJudgeLaw" 128 ⟨"TwinJudgeModel", "same", "(IIII)Z"⟩ ∈ xws := xmem 1539 (by decide +kernel) (by decide +kernel)
theorem lm_Law_129 : Cond.methodLink "TwinJudgeLaw" 129 ⟨"TwinJudgeLaw", "twin", "(LTwinJudge;II[J)I"⟩ ∈ xws := xmem 1106 (by decide +kernel) (by decide +kernel)
theorem lm_Law_131 : Cond.methodLink "TwinJudgeLaw" 131 ⟨"TwinJudgeModel", "twin", "(II)I"⟩ ∈ xws := xmem 1543 (by decide +kernel) (by decide +kernel)
theorem lm_Law_132 : Cond.methodLink "TwinJudgeLaw" 132 ⟨"TwinJudge", "doubts", "()I"⟩ ∈ xws := xmem 736 (by decide +kernel) (by decide +kernel)
theorem lm_Law_135 : Cond.methodLink "TwinJudgeLaw" 135 ⟨"TwinJudgeModel", "doubts", "()I"⟩ ∈ xws := xmem 1547 (by decide +kernel) (by decide +kernel)
theorem lm_Law_45 : Cond.methodLink "TwinJudgeLaw" 45 ⟨"TwinJudge", "<init>", "()V"⟩ ∈ xws := xmem 114 (by decide +kernel) (by decide +kernel)
theorem lm_Law_48 : Cond.methodLink "TwinJudgeLaw" 48 ⟨"TwinJudgeModel", "<init>", "()V"⟩ ∈ xws := xmem 1143 (by decide +kernel) (by decide +kernel)
theorem lc_Law_46 : Cond.classLink "TwinJudgeLaw" 46 "TwinJudgeModel" ∈ xws := xmem 1141 (by decide +kernel) (by decide +kernel)
theorem it_Model : Cond.instantiable "TwinJudgeModel" 52 ∈ xws := xmem 1142 (by decide +kernel) (by decide +kernel)
theorem lc_Law_8 : Cond.classLink "TwinJudgeLaw" 8 "TwinJudge" ∈ xws := xmem 112 (by decide +kernel) (by decide +kernel)
theorem it_Judge : Cond.instantiable "TwinJudge" 5 ∈ xws := xmem 113 (by decide +kernel) (by decide +kernel)
abbrev rt_Judge_load (mc ms : Nat) : Room := { frames := 7, cells := mc, slots := ms, locals := 170 }
abbrev rt_Judge_mustMatch (mc ms : Nat) : Room := { frames := 6, cells := mc, slots := ms, locals := 100 }
abbrev rt_Judge_gates (mc ms : Nat) : Room := { frames := 7, cells := mc, slots := ms, locals := 151 }
abbrev rt_Judge_judge (mc ms : Nat) : Room := { frames := 7, cells := mc, slots := ms, locals := 178 }
abbrev rt_Judge_must (mc ms : Nat) : Room := { frames := 6, cells := mc, slots := ms, locals := 100 }
abbrev rt_Judge_differs (mc ms : Nat) : Room := { frames := 7, cells := mc, slots := ms, locals := 178 }
abbrev rt_Judge_inductive (mc ms : Nat) : Room := { frames := 7, cells := mc, slots := ms, locals := 178 }
abbrev rt_Judge_pairs (mc ms : Nat) : Room := { frames := 7, cells := mc, slots := ms, locals := 178 }
abbrev rt_Judge_depth (mc ms : Nat) : Room := { frames := 7, cells := mc, slots := ms, locals := 178 }
abbrev rt_Judge_same (mc ms : Nat) : Room := { frames := 7, cells := mc, slots := ms, locals := 178 }
abbrev rt_Judge_twin (mc ms : Nat) : Room := { frames := 7, cells := mc, slots := ms, locals := 178 }
def y_Law_load : MethodName := ⟨"TwinJudgeLaw", "load", "(LTwinJudge;I[J)I"⟩
abbrev b_Law_load : ByteArray := method_3_code
abbrev hh_Law_load : List (Nat × Nat × Nat × Nat) := [(0, 9, 12, 13)]
set_option maxRecDepth 100000 in
theorem cd_Law_load : Cond.codeWith y_Law_load b_Law_load 4 (some .int) hh_Law_load ∈ xws := xmem 742 rfl (by decide +kernel)
theorem im_Law_load : Cond.static y_Law_load ∈ xws := xmem 741 (by decide +kernel) (by decide +kernel)
theorem ds_Law_load : y_Law_load.cls ≠ "java/lang/invoke/MethodHandle" ∧ y_Law_load.cls ≠ "java/lang/invoke/VarHandle" ∧ (parseMethodDescriptor y_Law_load.desc).map (fun d => d.parameters.length) = some 3 := by decide +kernel
abbrev rt_Law_load (mc ms : Nat) : Room := { frames := 8, cells := mc, slots := ms, locals := 192 }
def y_Law_gates : MethodName := ⟨"TwinJudgeLaw", "gates", "(LTwinJudge;[J)I"⟩
abbrev b_Law_gates : ByteArray := method_4_code
abbrev hh_Law_gates : List (Nat × Nat × Nat × Nat) := [(0, 8, 11, 19)]
set_option maxRecDepth 100000 in
theorem cd_Law_gates : Cond.codeWith y_Law_gates b_Law_gates 3 (some .int) hh_Law_gates ∈ xws := xmem 962 rfl (by decide +kernel)
theorem im_Law_gates : Cond.static y_Law_gates ∈ xws := xmem 961 (by decide +kernel) (by decide +kernel)
theorem ds_Law_gates : y_Law_gates.cls ≠ "java/lang/invoke/MethodHandle" ∧ y_Law_gates.cls ≠ "java/lang/invoke/VarHandle" ∧ (parseMethodDescriptor y_Law_gates.desc).map (fun d => d.parameters.length) = some 2 := by decide +kernel
abbrev rt_Law_gates (mc ms : Nat) : Room := { frames := 8, cells := mc, slots := ms, locals := 171 }
def y_Law_judge : MethodName := ⟨"TwinJudgeLaw", "judge", "(LTwinJudge;[J)I"⟩
abbrev b_Law_judge : ByteArray := method_5_code
abbrev hh_Law_judge : List (Nat × Nat × Nat × Nat) := [(0, 8, 11, 19)]
set_option maxRecDepth 100000 in
theorem cd_Law_judge : Cond.codeWith y_Law_judge b_Law_judge 3 (some .int) hh_Law_judge ∈ xws := xmem 1020 rfl (by decide +kernel)
theorem im_Law_judge : Cond.static y_Law_judge ∈ xws := xmem 1019 (by decide +kernel) (by decide +kernel)
theorem ds_Law_judge : y_Law_judge.cls ≠ "java/lang/invoke/MethodHandle" ∧ y_Law_judge.cls ≠ "java/lang/invoke/VarHandle" ∧ (parseMethodDescriptor y_Law_judge.desc).map (fun d => d.parameters.length) = some 2 := by decide +kernel
abbrev rt_Law_judge (mc ms : Nat) : Room := { frames := 8, cells := mc, slots := ms, locals := 198 }
def y_Law_differs : MethodName := ⟨"TwinJudgeLaw", "differs", "(LTwinJudge;I[J)I"⟩
abbrev b_Law_differs : ByteArray := method_6_code
abbrev hh_Law_differs : List (Nat × Nat × Nat × Nat) := [(0, 9, 12, 19), (0, 9, 15, 13)]
set_option maxRecDepth 100000 in
theorem cd_Law_differs : Cond.codeWith y_Law_differs b_Law_differs 4 (some .int) hh_Law_differs ∈ xws := xmem 1027 rfl (by decide +kernel)
theorem im_Law_differs : Cond.static y_Law_differs ∈ xws := xmem 1026 (by decide +kernel) (by decide +kernel)
theorem ds_Law_differs : y_Law_differs.cls ≠ "java/lang/invoke/MethodHandle" ∧ y_Law_differs.cls ≠ "java/lang/invoke/VarHandle" ∧ (parseMethodDescriptor y_Law_differs.desc).map (fun d => d.parameters.length) = some 3 := by decide +kernel
abbrev rt_Law_differs (mc ms : Nat) : Room := { frames := 8, cells := mc, slots := ms, locals := 200 }
def y_Law_inductive : MethodName := ⟨"TwinJudgeLaw", "inductive", "(LTwinJudge;I[J)I"⟩
abbrev b_Law_inductive : ByteArray := method_7_code
abbrev hh_Law_inductive : List (Nat × Nat × Nat × Nat) := [(0, 16, 19, 19), (0, 16, 22, 13)]
set_option maxRecDepth 100000 in
theorem cd_Law_inductive : Cond.codeWith y_Law_inductive b_Law_inductive 4 (some .int) hh_Law_inductive ∈ xws := xmem 1038 rfl (by decide +kernel)
theorem im_Law_inductive : Cond.static y_Law_inductive ∈ xws := xmem 1037 (by decide +kernel) (by decide +kernel)
theorem ds_Law_inductive : y_Law_inductive.cls ≠ "java/lang/invoke/MethodHandle" ∧ y_Law_inductive.cls ≠ "java/lang/invoke/VarHandle" ∧ (parseMethodDescriptor y_Law_inductive.desc).map (fun d => d.parameters.length) = some 3 := by decide +kernel
abbrev rt_Law_inductive (mc ms : Nat) : Room := { frames := 8, cells := mc, slots := ms, locals := 199 }
def y_Law_pairs : MethodName := ⟨"TwinJudgeLaw", "pairs", "(LTwinJudge;I[J)I"⟩
abbrev b_Law_pairs : ByteArray := method_8_code
abbrev hh_Law_pairs : List (Nat × Nat × Nat × Nat) := [(0, 9, 12, 19), (0, 9, 15, 13)]
set_option maxRecDepth 100000 in
theorem cd_Law_pairs : Cond.codeWith y_Law_pairs b_Law_pairs 4 (some .int) hh_Law_pairs ∈ xws := xmem 1071 rfl (by decide +kernel)
theorem im_Law_pairs : Cond.static y_Law_pairs ∈ xws := xmem 1070 (by decide +kernel) (by decide +kernel)
theorem ds_Law_pairs : y_Law_pairs.cls ≠ "java/lang/invoke/MethodHandle" ∧ y_Law_pairs.cls ≠ "java/lang/invoke/VarHandle" ∧ (parseMethodDescriptor y_Law_pairs.desc).map (fun d => d.parameters.length) = some 3 := by decide +kernel
abbrev rt_Law_pairs (mc ms : Nat) : Room := { frames := 8, cells := mc, slots := ms, locals := 200 }
def y_Law_depth : MethodName := ⟨"TwinJudgeLaw", "depth", "(LTwinJudge;II[J)I"⟩
abbrev b_Law_depth : ByteArray := method_9_code
abbrev hh_Law_depth : List (Nat × Nat × Nat × Nat) := [(0, 10, 13, 19), (0, 10, 17, 13)]
set_option maxRecDepth 100000 in
theorem cd_Law_depth : Cond.codeWith y_Law_depth b_Law_depth 5 (some .int) hh_Law_depth ∈ xws := xmem 1082 rfl (by decide +kernel)
theorem im_Law_depth : Cond.static y_Law_depth ∈ xws := xmem 1081 (by decide +kernel) (by decide +kernel)
theorem ds_Law_depth : y_Law_depth.cls ≠ "java/lang/invoke/MethodHandle" ∧ y_Law_depth.cls ≠ "java/lang/invoke/VarHandle" ∧ (parseMethodDescriptor y_Law_depth.desc).map (fun d => d.parameters.length) = some 4 := by decide +kernel
abbrev rt_Law_depth (mc ms : Nat) : Room := { frames := 8, cells := mc, slots := ms, locals := 200 }
def y_Law_same : MethodName := ⟨"TwinJudgeLaw", "same", "(LTwinJudge;IIII[J)I"⟩
abbrev b_Law_same : ByteArray := method_10_code
abbrev hh_Law_same : List (Nat × Nat × Nat × Nat) := [(0, 21, 24, 19), (0, 21, 28, 13)]
set_option maxRecDepth 100000 in
theorem cd_Law_same : Cond.codeWith y_Law_same b_Law_same 7 (some .int) hh_Law_same ∈ xws := xmem 1093 rfl (by decide +kernel)
theorem im_Law_same : Cond.static y_Law_same ∈ xws := xmem 1092 (by decide +kernel) (by decide +kernel)
theorem ds_Law_same : y_Law_same.cls ≠ "java/lang/invoke/MethodHandle" ∧ y_Law_same.cls ≠ "java/lang/invoke/VarHandle" ∧ (parseMethodDescriptor y_Law_same.desc).map (fun d => d.parameters.length) = some 6 := by decide +kernel
abbrev rt_Law_same (mc ms : Nat) : Room := { frames := 8, cells := mc, slots := ms, locals := 202 }
def y_Law_twin : MethodName := ⟨"TwinJudgeLaw", "twin", "(LTwinJudge;II[J)I"⟩
abbrev b_Law_twin : ByteArray := method_11_code
abbrev hh_Law_twin : List (Nat × Nat × Nat × Nat) := [(0, 10, 13, 19), (0, 10, 17, 13)]
set_option maxRecDepth 100000 in
theorem cd_Law_twin : Cond.codeWith y_Law_twin b_Law_twin 5 (some .int) hh_Law_twin ∈ xws := xmem 1108 rfl (by decide +kernel)
theorem im_Law_twin : Cond.static y_Law_twin ∈ xws := xmem 1107 (by decide +kernel) (by decide +kernel)
theorem ds_Law_twin : y_Law_twin.cls ≠ "java/lang/invoke/MethodHandle" ∧ y_Law_twin.cls ≠ "java/lang/invoke/VarHandle" ∧ (parseMethodDescriptor y_Law_twin.desc).map (fun d => d.parameters.length) = some 4 := by decide +kernel
abbrev rt_Law_twin (mc ms : Nat) : Room := { frames := 8, cells := mc, slots := ms, locals := 200 }
abbrev rt_Law_law (mc ms : Nat) : Room := { frames := 11, cells := mc, slots := ms, locals := 390 }
abbrev y_Law_law : MethodName := x
abbrev b_Law_law : ByteArray := code
theorem ca_0 : Cond.castable (xen 0) (xen 0) ∈ lw_tbl := List.mem_of_getElem? (i := 974) (by decide +kernel)
theorem ca_1 : Cond.castable (xen 1) (xen 1) ∈ lw_tbl := List.mem_of_getElem? (i := 888) (by decide +kernel)
