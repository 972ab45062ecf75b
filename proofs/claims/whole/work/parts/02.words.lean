theorem lm_Tape_3 : Cond.methodLink "TwinJudge$Tape" 3 ⟨"java/lang/Object", "<init>", "()V"⟩ ∈ xws := xmem 125 (by decide +kernel) (by decide +kernel)
theorem lf_Tape_9 : Cond.fieldLink "TwinJudge$Tape" 9 "TwinJudge$Tape" "ready" "[B" ∈ xws := xmem 126 (by decide +kernel) (by decide +kernel)
theorem lf_Tape_15 : Cond.fieldLink "TwinJudge$Tape" 15 "TwinJudge$Tape" "bytes" "[B" ∈ xws := xmem 127 (by decide +kernel) (by decide +kernel)
theorem ac_byte : Cond.arrayClass .byte ∈ xws := xmem 138 (by decide +kernel) (by decide +kernel)
theorem lm_Sorter_3 : Cond.methodLink "TwinJudge$Sorter" 3 ⟨"java/lang/Object", "<init>", "()V"⟩ ∈ xws := xmem 150 (by decide +kernel) (by decide +kernel)
theorem lf_Sorter_9 : Cond.fieldLink "TwinJudge$Sorter" 9 "TwinJudge$Sorter" "byFile" "[I" ∈ xws := xmem 151 (by decide +kernel) (by decide +kernel)
theorem lf_Sorter_15 : Cond.fieldLink "TwinJudge$Sorter" 15 "TwinJudge$Sorter" "come" "[Z" ∈ xws := xmem 153 (by decide +kernel) (by decide +kernel)
theorem lf_Sorter_19 : Cond.fieldLink "TwinJudge$Sorter" 19 "TwinJudge$Sorter" "seen" "[Z" ∈ xws := xmem 154 (by decide +kernel) (by decide +kernel)
theorem lf_Sorter_22 : Cond.fieldLink "TwinJudge$Sorter" 22 "TwinJudge$Sorter" "reached" "[I" ∈ xws := xmem 155 (by decide +kernel) (by decide +kernel)
theorem ac_int : Cond.arrayClass .int ∈ xws := xmem 168 (by decide +kernel) (by decide +kernel)
theorem ac_boolean : Cond.arrayClass .boolean ∈ xws := xmem 169 (by decide +kernel) (by decide +kernel)
theorem lm_Circuit_3 : Cond.methodLink "TwinJudge$Circuit" 3 ⟨"java/lang/Object", "<init>", "()V"⟩ ∈ xws := xmem 175 (by decide +kernel) (by decide +kernel)
theorem lf_Circuit_9 : Cond.fieldLink "TwinJudge$Circuit" 9 "TwinJudge$Circuit" "kinds" "[B" ∈ xws := xmem 202 (by decide +kernel) (by decide +kernel)
theorem lf_Circuit_15 : Cond.fieldLink "TwinJudge$Circuit" 15 "TwinJudge$Circuit" "left" "[I" ∈ xws := xmem 205 (by decide +kernel) (by decide +kernel)
theorem lf_Circuit_19 : Cond.fieldLink "TwinJudge$Circuit" 19 "TwinJudge$Circuit" "right" "[I" ∈ xws := xmem 209 (by decide +kernel) (by decide +kernel)
theorem lf_Circuit_22 : Cond.fieldLink "TwinJudge$Circuit" 22 "TwinJudge$Circuit" "inputVariables" "[I" ∈ xws := xmem 213 (by decide +kernel) (by decide +kernel)
theorem lf_Circuit_25 : Cond.fieldLink "TwinJudge$Circuit" 25 "TwinJudge$Circuit" "latchVariables" "[I" ∈ xws := xmem 216 (by decide +kernel) (by decide +kernel)
theorem lf_Circuit_28 : Cond.fieldLink "TwinJudge$Circuit" 28 "TwinJudge$Circuit" "nexts" "[I" ∈ xws := xmem 219 (by decide +kernel) (by decide +kernel)
theorem lf_Circuit_31 : Cond.fieldLink "TwinJudge$Circuit" 31 "TwinJudge$Circuit" "outputLiterals" "[I" ∈ xws := xmem 223 (by decide +kernel) (by decide +kernel)
theorem lf_Circuit_34 : Cond.fieldLink "TwinJudge$Circuit" 34 "TwinJudge$Circuit" "order" "[I" ∈ xws := xmem 227 (by decide +kernel) (by decide +kernel)
theorem lf_Circuit_37 : Cond.fieldLink "TwinJudge$Circuit" 37 "TwinJudge$Circuit" "names" "[B" ∈ xws := xmem 230 (by decide +kernel) (by decide +kernel)
theorem lf_Circuit_40 : Cond.fieldLink "TwinJudge$Circuit" 40 "TwinJudge$Circuit" "nameLengths" "[I" ∈ xws := xmem 232 (by decide +kernel) (by decide +kernel)
theorem lm_Reader_3 : Cond.methodLink "TwinJudge$Reader" 3 ⟨"java/lang/Object", "<init>", "()V"⟩ ∈ xws := xmem 144 (by decide +kernel) (by decide +kernel)
theorem lm_Reader_11 : Cond.methodLinkNest "TwinJudge$Reader" 11 ⟨"TwinJudge$Sorter", "<init>", "()V"⟩ "TwinJudge" ∈ lw_tbl := List.mem_of_getElem? (i := 147) (by decide +kernel)
theorem lf_Reader_12 : Cond.fieldLink "TwinJudge$Reader" 12 "TwinJudge$Reader" "sorter" "LTwinJudge$Sorter;" ∈ xws := xmem 268 (by decide +kernel) (by decide +kernel)
theorem lm_Reader_20 : Cond.methodLinkNest "TwinJudge$Reader" 20 ⟨"TwinJudge$Circuit", "<init>", "()V"⟩ "TwinJudge" ∈ lw_tbl := List.mem_of_getElem? (i := 172) (by decide +kernel)
theorem lf_Reader_21 : Cond.fieldLink "TwinJudge$Reader" 21 "TwinJudge$Reader" "fresh" "LTwinJudge$Circuit;" ∈ xws := xmem 269 (by decide +kernel) (by decide +kernel)
theorem lf_Reader_25 : Cond.fieldLink "TwinJudge$Reader" 25 "TwinJudge$Reader" "header" "[I" ∈ xws := xmem 270 (by decide +kernel) (by decide +kernel)
theorem lf_Reader_29 : Cond.fieldLink "TwinJudge$Reader" 29 "TwinJudge$Reader" "uses" "[I" ∈ xws := xmem 271 (by decide +kernel) (by decide +kernel)
theorem lf_Reader_32 : Cond.fieldLink "TwinJudge$Reader" 32 "TwinJudge$Reader" "usePlaces" "[I" ∈ xws := xmem 272 (by decide +kernel) (by decide +kernel)
theorem lf_Reader_35 : Cond.fieldLink "TwinJudge$Reader" 35 "TwinJudge$Reader" "place" "I" ∈ xws := xmem 280 (by decide +kernel) (by decide +kernel)
theorem lf_Reader_39 : Cond.fieldLink "TwinJudge$Reader" 39 "TwinJudge$Reader" "tape" "LTwinJudge$Tape;" ∈ xws := xmem 267 (by decide +kernel) (by decide +kernel)
theorem lc_Reader_18 : Cond.classLink "TwinJudge$Reader" 18 "TwinJudge$Circuit" ∈ xws := xmem 170 (by decide +kernel) (by decide +kernel)
theorem it_Circuit : Cond.instantiable "TwinJudge$Circuit" 16 ∈ xws := xmem 171 (by decide +kernel) (by decide +kernel)
theorem in_Circuit : Cond.initialized "TwinJudge$Circuit" ∈ xws := xmem 94 (by decide +kernel) (by decide +kernel)
theorem lc_Reader_9 : Cond.classLink "TwinJudge$Reader" 9 "TwinJudge$Sorter" ∈ xws := xmem 145 (by decide +kernel) (by decide +kernel)
theorem it_Sorter : Cond.instantiable "TwinJudge$Sorter" 5 ∈ xws := xmem 146 (by decide +kernel) (by decide +kernel)
theorem in_Sorter : Cond.initialized "TwinJudge$Sorter" ∈ xws := xmem 93 (by decide +kernel) (by decide +kernel)
theorem lm_Player_3 : Cond.methodLink "TwinJudge$Player" 3 ⟨"java/lang/Object", "<init>", "()V"⟩ ∈ xws := xmem 317 (by decide +kernel) (by decide +kernel)
theorem lf_Player_9 : Cond.fieldLink "TwinJudge$Player" 9 "TwinJudge$Player" "states" "[I" ∈ xws := xmem 319 (by decide +kernel) (by decide +kernel)
theorem lf_Player_15 : Cond.fieldLink "TwinJudge$Player" 15 "TwinJudge$Player" "inputWords" "[I" ∈ xws := xmem 321 (by decide +kernel) (by decide +kernel)
theorem lf_Player_18 : Cond.fieldLink "TwinJudge$Player" 18 "TwinJudge$Player" "row" "[I" ∈ xws := xmem 322 (by decide +kernel) (by decide +kernel)
theorem lf_Player_21 : Cond.fieldLink "TwinJudge$Player" 21 "TwinJudge$Player" "circuits" "[LTwinJudge$Circuit;" ∈ xws := xmem 318 (by decide +kernel) (by decide +kernel)
theorem lf_Judge_27 : Cond.fieldLink "TwinJudge" 27 "TwinJudge" "circuits" "[LTwinJudge$Circuit;" ∈ xws := xmem 334 (by decide +kernel) (by decide +kernel)
theorem lm_Judge_34 : Cond.methodLink "TwinJudge" 34 ⟨"TwinJudge$Player", "<init>", "([LTwinJudge$Circuit;)V"⟩ ∈ xws := xmem 314 (by decide +kernel) (by decide +kernel)
theorem lf_Judge_37 : Cond.fieldLink "TwinJudge" 37 "TwinJudge" "player" "LTwinJudge$Player;" ∈ xws := xmem 335 (by decide +kernel) (by decide +kernel)
theorem lc_Judge_32 : Cond.classLink "TwinJudge" 32 "TwinJudge$Player" ∈ xws := xmem 312 (by decide +kernel) (by decide +kernel)
theorem it_Player : Cond.instantiable "TwinJudge$Player" 4 ∈ xws := xmem 313 (by decide +kernel) (by decide +kernel)
theorem in_Player : Cond.initialized "TwinJudge$Player" ∈ xws := xmem 95 (by decide +kernel) (by decide +kernel)
theorem lm_Judge_31 : Cond.methodLinkNest "TwinJudge" 31 ⟨"TwinJudge$Circuit", "<init>", "()V"⟩ "TwinJudge" ∈ lw_tbl := List.mem_of_getElem? (i := 311) (by decide +kernel)
theorem lc_Judge_25 : Cond.classLink "TwinJudge" 25 "TwinJudge$Circuit" ∈ xws := xmem 309 (by decide +kernel) (by decide +kernel)
theorem lm_Judge_3 : Cond.methodLink "TwinJudge" 3 ⟨"java/lang/Object", "<init>", "()V"⟩ ∈ xws := xmem 117 (by decide +kernel) (by decide +kernel)
theorem lm_Judge_11 : Cond.methodLinkNest "TwinJudge" 11 ⟨"TwinJudge$Tape", "<init>", "()V"⟩ "TwinJudge" ∈ lw_tbl := List.mem_of_getElem? (i := 122) (by decide +kernel)
theorem lf_Judge_12 : Cond.fieldLink "TwinJudge" 12 "TwinJudge" "tape" "LTwinJudge$Tape;" ∈ xws := xmem 332 (by decide +kernel) (by decide +kernel)
theorem lm_Judge_18 : Cond.methodLink "TwinJudge" 18 ⟨"TwinJudge$Reader", "<init>", "(LTwinJudge$Tape;)V"⟩ ∈ xws := xmem 141 (by decide +kernel) (by decide +kernel)
theorem lf_Judge_21 : Cond.fieldLink "TwinJudge" 21 "TwinJudge" "reader" "LTwinJudge$Reader;" ∈ xws := xmem 333 (by decide +kernel) (by decide +kernel)
theorem lc_Judge_16 : Cond.classLink "TwinJudge" 16 "TwinJudge$Reader" ∈ xws := xmem 139 (by decide +kernel) (by decide +kernel)
theorem it_Reader : Cond.instantiable "TwinJudge$Reader" 13 ∈ xws := xmem 140 (by decide +kernel) (by decide +kernel)
theorem in_Reader : Cond.initialized "TwinJudge$Reader" ∈ xws := xmem 92 (by decide +kernel) (by decide +kernel)
theorem lc_Judge_9 : Cond.classLink "TwinJudge" 9 "TwinJudge$Tape" ∈ xws := xmem 120 (by decide +kernel) (by decide +kernel)
theorem it_Tape : Cond.instantiable "TwinJudge$Tape" 3 ∈ xws := xmem 121 (by decide +kernel) (by decide +kernel)
theorem in_Tape : Cond.initialized "TwinJudge$Tape" ∈ xws := xmem 91 (by decide +kernel) (by decide +kernel)
theorem lm_Judge_41 : Cond.methodLink "TwinJudge" 41 ⟨"TwinJudge$Tape", "prepare", "(II)V"⟩ ∈ xws := xmem 352 (by decide +kernel) (by decide +kernel)
theorem lf_Tape_18 : Cond.fieldLink "TwinJudge$Tape" 18 "TwinJudge$Tape" "length" "I" ∈ xws := xmem 128 (by decide +kernel) (by decide +kernel)
theorem lm_Tape_28 : Cond.methodLink "TwinJudge$Tape" 28 ⟨"java/util/Arrays", "fill", "([BB)V"⟩ ∈ xws := xmem 367 (by decide +kernel) (by decide +kernel)
theorem lm_Tape_22 : Cond.methodLink "TwinJudge$Tape" 22 ⟨"java/lang/System", "arraycopy", "(Ljava/lang/Object;ILjava/lang/Object;II)V"⟩ ∈ xws := xmem 364 (by decide +kernel) (by decide +kernel)
theorem lm_Judge_45 : Cond.methodLink "TwinJudge" 45 ⟨"TwinJudge$Tape", "append", "(I)I"⟩ ∈ xws := xmem 360 (by decide +kernel) (by decide +kernel)
theorem lf_Reader_43 : Cond.fieldLink "TwinJudge$Reader" 43 "TwinJudge$Reader" "code" "I" ∈ xws := xmem 278 (by decide +kernel) (by decide +kernel)
theorem lm_Circuit_43 : Cond.methodLink "TwinJudge$Circuit" 43 ⟨"java/util/Arrays", "fill", "([BB)V"⟩ ∈ xws := xmem 760 (by decide +kernel) (by decide +kernel)
theorem lm_Circuit_49 : Cond.methodLink "TwinJudge$Circuit" 49 ⟨"java/util/Arrays", "fill", "([II)V"⟩ ∈ xws := xmem 761 (by decide +kernel) (by decide +kernel)
theorem lf_Reader_46 : Cond.fieldLink "TwinJudge$Reader" 46 "TwinJudge$Reader" "at" "I" ∈ xws := xmem 275 (by decide +kernel) (by decide +kernel)
theorem lm_Reader_96 : Cond.methodLink "TwinJudge$Reader" 96 ⟨"TwinJudge$Tape", "at", "(I)I"⟩ ∈ xws := xmem 770 (by decide +kernel) (by decide +kernel)
theorem lm_Reader_101 : Cond.methodLink "TwinJudge$Reader" 101 ⟨"TwinJudge$Reader", "fail", "(II)Z"⟩ ∈ xws := xmem 774 (by decide +kernel) (by decide +kernel)
theorem lm_Reader_111 : Cond.methodLink "TwinJudge$Reader" 111 ⟨"TwinJudge$Reader", "isDigit", "(I)Z"⟩ ∈ xws := xmem 782 (by decide +kernel) (by decide +kernel)
theorem lf_Reader_108 : Cond.fieldLink "TwinJudge$Reader" 108 "TwinJudge$Reader" "number" "I" ∈ xws := xmem 276 (by decide +kernel) (by decide +kernel)
theorem lf_Reader_105 : Cond.fieldLink "TwinJudge$Reader" 105 "TwinJudge$Reader" "start" "I" ∈ xws := xmem 277 (by decide +kernel) (by decide +kernel)
theorem lm_Reader_115 : Cond.methodLink "TwinJudge$Reader" 115 ⟨"TwinJudge$Reader", "pass", "(I)Z"⟩ ∈ xws := xmem 766 (by decide +kernel) (by decide +kernel)
theorem lm_Reader_118 : Cond.methodLink "TwinJudge$Reader" 118 ⟨"TwinJudge$Reader", "readNumber", "()Z"⟩ ∈ xws := xmem 778 (by decide +kernel) (by decide +kernel)
theorem lf_Reader_62 : Cond.fieldLink "TwinJudge$Reader" 62 "TwinJudge$Reader" "binary" "Z" ∈ xws := xmem 274 (by decide +kernel) (by decide +kernel)
theorem lf_Reader_121 : Cond.fieldLink "TwinJudge$Reader" 121 "TwinJudge$Circuit" "variables" "I" ∈ xws := xmem 181 (by decide +kernel) (by decide +kernel)
theorem lf_Reader_124 : Cond.fieldLink "TwinJudge$Reader" 124 "TwinJudge$Circuit" "inputs" "I" ∈ xws := xmem 185 (by decide +kernel) (by decide +kernel)
theorem lf_Reader_127 : Cond.fieldLink "TwinJudge$Reader" 127 "TwinJudge$Circuit" "latches" "I" ∈ xws := xmem 191 (by decide +kernel) (by decide +kernel)
theorem lf_Reader_130 : Cond.fieldLink "TwinJudge$Reader" 130 "TwinJudge$Circuit" "outputs" "I" ∈ xws := xmem 195 (by decide +kernel) (by decide +kernel)
theorem lf_Reader_133 : Cond.fieldLink "TwinJudge$Reader" 133 "TwinJudge$Circuit" "ands" "I" ∈ xws := xmem 201 (by decide +kernel) (by decide +kernel)
theorem lf_Reader_139 : Cond.fieldLink "TwinJudge$Reader" 139 "TwinJudge$Circuit" "kinds" "[B" ∈ xws := xmem 204 (by decide +kernel) (by decide +kernel)
theorem lf_Reader_149 : Cond.fieldLink "TwinJudge$Reader" 149 "TwinJudge$Sorter" "byFile" "[I" ∈ xws := xmem 152 (by decide +kernel) (by decide +kernel)
theorem lf_Reader_146 : Cond.fieldLink "TwinJudge$Reader" 146 "TwinJudge$Circuit" "latchVariables" "[I" ∈ xws := xmem 218 (by decide +kernel) (by decide +kernel)
theorem lf_Reader_143 : Cond.fieldLink "TwinJudge$Reader" 143 "TwinJudge$Circuit" "inputVariables" "[I" ∈ xws := xmem 215 (by decide +kernel) (by decide +kernel)
theorem lm_Reader_136 : Cond.methodLink "TwinJudge$Reader" 136 ⟨"TwinJudge$Reader", "isInRange", "()Z"⟩ ∈ xws := xmem 801 (by decide +kernel) (by decide +kernel)
theorem lm_Reader_152 : Cond.methodLink "TwinJudge$Reader" 152 ⟨"TwinJudge$Reader", "readDefinition", "(I)Z"⟩ ∈ xws := xmem 797 (by decide +kernel) (by decide +kernel)
theorem lf_Reader_49 : Cond.fieldLink "TwinJudge$Reader" 49 "TwinJudge$Reader" "useCount" "I" ∈ xws := xmem 273 (by decide +kernel) (by decide +kernel)
theorem lm_Reader_161 : Cond.methodLink "TwinJudge$Reader" 161 ⟨"TwinJudge$Reader", "readUse", "()Z"⟩ ∈ xws := xmem 817 (by decide +kernel) (by decide +kernel)
theorem lf_Reader_164 : Cond.fieldLink "TwinJudge$Reader" 164 "TwinJudge$Circuit" "nexts" "[I" ∈ xws := xmem 222 (by decide +kernel) (by decide +kernel)
theorem lm_Reader_158 : Cond.methodLink "TwinJudge$Reader" 158 ⟨"TwinJudge$Reader", "readNext", "(I)Z"⟩ ∈ xws := xmem 813 (by decide +kernel) (by decide +kernel)
theorem lm_Reader_155 : Cond.methodLink "TwinJudge$Reader" 155 ⟨"TwinJudge$Reader", "readLatchVariable", "(I)Z"⟩ ∈ xws := xmem 809 (by decide +kernel) (by decide +kernel)
theorem lf_Reader_167 : Cond.fieldLink "TwinJudge$Reader" 167 "TwinJudge$Circuit" "outputLiterals" "[I" ∈ xws := xmem 226 (by decide +kernel) (by decide +kernel)
theorem lm_Reader_176 : Cond.methodLink "TwinJudge$Reader" 176 ⟨"TwinJudge$Reader", "readDelta", "()Z"⟩ ∈ xws := xmem 829 (by decide +kernel) (by decide +kernel)
theorem lf_Reader_170 : Cond.fieldLink "TwinJudge$Reader" 170 "TwinJudge$Circuit" "left" "[I" ∈ xws := xmem 208 (by decide +kernel) (by decide +kernel)
theorem lf_Reader_173 : Cond.fieldLink "TwinJudge$Reader" 173 "TwinJudge$Circuit" "right" "[I" ∈ xws := xmem 212 (by decide +kernel) (by decide +kernel)
theorem lf_Circuit_52 : Cond.fieldLink "TwinJudge$Circuit" 52 "TwinJudge$Circuit" "variables" "I" ∈ xws := xmem 179 (by decide +kernel) (by decide +kernel)
theorem lf_Circuit_56 : Cond.fieldLink "TwinJudge$Circuit" 56 "TwinJudge$Circuit" "inputs" "I" ∈ xws := xmem 184 (by decide +kernel) (by decide +kernel)
theorem lf_Circuit_59 : Cond.fieldLink "TwinJudge$Circuit" 59 "TwinJudge$Circuit" "latches" "I" ∈ xws := xmem 189 (by decide +kernel) (by decide +kernel)
theorem lf_Circuit_62 : Cond.fieldLink "TwinJudge$Circuit" 62 "TwinJudge$Circuit" "outputs" "I" ∈ xws := xmem 193 (by decide +kernel) (by decide +kernel)
theorem lf_Circuit_65 : Cond.fieldLink "TwinJudge$Circuit" 65 "TwinJudge$Circuit" "ands" "I" ∈ xws := xmem 198 (by decide +kernel) (by decide +kernel)
theorem lm_Circuit_68 : Cond.methodLink "TwinJudge$Circuit" 68 ⟨"TwinJudge$Circuit", "size", "(I)I"⟩ ∈ xws := xmem 401 (by decide +kernel) (by decide +kernel)
theorem lf_Circuit_72 : Cond.fieldLinkNest "TwinJudge$Circuit" 72 "TwinJudge" "FIRST_NAMES" "[I" "TwinJudge" ∈ lw_tbl := List.mem_of_getElem? (i := 402) (by decide +kernel)
theorem lf_Reader_192 : Cond.fieldLink "TwinJudge$Reader" 192 "TwinJudge$Circuit" "nameLengths" "[I" ∈ xws := xmem 233 (by decide +kernel) (by decide +kernel)
theorem lf_Reader_198 : Cond.fieldLink "TwinJudge$Reader" 198 "TwinJudge$Circuit" "names" "[B" ∈ xws := xmem 231 (by decide +kernel) (by decide +kernel)
theorem lm_Reader_185 : Cond.methodLink "TwinJudge$Reader" 185 ⟨"TwinJudge$Reader", "kindOf", "(I)I"⟩ ∈ xws := xmem 845 (by decide +kernel) (by decide +kernel)
theorem lm_Reader_188 : Cond.methodLink "TwinJudge$Reader" 188 ⟨"TwinJudge$Circuit", "nameSlot", "(II)I"⟩ ∈ xws := xmem 848 (by decide +kernel) (by decide +kernel)
theorem lm_Reader_195 : Cond.methodLink "TwinJudge$Reader" 195 ⟨"TwinJudge$Reader", "readName", "(I)Z"⟩ ∈ xws := xmem 849 (by decide +kernel) (by decide +kernel)
theorem lf_Reader_179 : Cond.fieldLink "TwinJudge$Reader" 179 "TwinJudge$Tape" "length" "I" ∈ xws := xmem 130 (by decide +kernel) (by decide +kernel)
theorem lm_Reader_182 : Cond.methodLink "TwinJudge$Reader" 182 ⟨"TwinJudge$Reader", "readSymbol", "()Z"⟩ ∈ xws := xmem 841 (by decide +kernel) (by decide +kernel)
theorem lm_Reader_201 : Cond.methodLink "TwinJudge$Reader" 201 ⟨"TwinJudge$Circuit", "isDefined", "(I)Z"⟩ ∈ xws := xmem 857 (by decide +kernel) (by decide +kernel)
theorem lf_Sorter_31 : Cond.fieldLink "TwinJudge$Sorter" 31 "TwinJudge$Circuit" "ands" "I" ∈ xws := xmem 197 (by decide +kernel) (by decide +kernel)
theorem lf_Sorter_42 : Cond.fieldLink "TwinJudge$Sorter" 42 "TwinJudge$Circuit" "left" "[I" ∈ xws := xmem 206 (by decide +kernel) (by decide +kernel)
theorem lf_Sorter_45 : Cond.fieldLink "TwinJudge$Sorter" 45 "TwinJudge$Circuit" "right" "[I" ∈ xws := xmem 210 (by decide +kernel) (by decide +kernel)
theorem lm_Sorter_35 : Cond.methodLink "TwinJudge$Sorter" 35 ⟨"TwinJudge$Sorter", "firstReady", "(LTwinJudge$Circuit;)I"⟩ ∈ xws := xmem 866 (by decide +kernel) (by decide +kernel)
theorem lf_Sorter_39 : Cond.fieldLink "TwinJudge$Sorter" 39 "TwinJudge$Circuit" "order" "[I" ∈ xws := xmem 228 (by decide +kernel) (by decide +kernel)
theorem lf_Sorter_25 : Cond.fieldLink "TwinJudge$Sorter" 25 "TwinJudge$Circuit" "kinds" "[B" ∈ xws := xmem 203 (by decide +kernel) (by decide +kernel)
theorem lf_Sorter_55 : Cond.fieldLink "TwinJudge$Sorter" 55 "TwinJudge$Sorter" "reachedCount" "I" ∈ xws := xmem 156 (by decide +kernel) (by decide +kernel)
theorem lm_Sorter_62 : Cond.methodLink "TwinJudge$Sorter" 62 ⟨"TwinJudge$Sorter", "reach", "(I)V"⟩ ∈ xws := xmem 882 (by decide +kernel) (by decide +kernel)
theorem lm_Sorter_58 : Cond.methodLink "TwinJudge$Sorter" 58 ⟨"TwinJudge$Sorter", "reachOperands", "(LTwinJudge$Circuit;I)V"⟩ ∈ xws := xmem 878 (by decide +kernel) (by decide +kernel)
theorem lf_Sorter_48 : Cond.fieldLink "TwinJudge$Sorter" 48 "TwinJudge$Circuit" "variables" "I" ∈ xws := xmem 180 (by decide +kernel) (by decide +kernel)
theorem lm_Sorter_51 : Cond.methodLink "TwinJudge$Sorter" 51 ⟨"TwinJudge$Sorter", "comesBack", "(LTwinJudge$Circuit;I)Z"⟩ ∈ xws := xmem 874 (by decide +kernel) (by decide +kernel)
theorem lm_Reader_204 : Cond.methodLink "TwinJudge$Reader" 204 ⟨"TwinJudge$Sorter", "sort", "(LTwinJudge$Circuit;)Z"⟩ ∈ xws := xmem 862 (by decide +kernel) (by decide +kernel)
theorem lm_Reader_208 : Cond.methodLink "TwinJudge$Reader" 208 ⟨"TwinJudge$Sorter", "lowestInLoop", "(LTwinJudge$Circuit;)I"⟩ ∈ xws := xmem 870 (by decide +kernel) (by decide +kernel)
theorem lf_Reader_93 : Cond.fieldLink "TwinJudge$Reader" 93 "TwinJudge$Circuit" "present" "Z" ∈ xws := xmem 177 (by decide +kernel) (by decide +kernel)
theorem lm_Reader_84 : Cond.methodLink "TwinJudge$Reader" 84 ⟨"TwinJudge$Reader", "readSymbols", "()Z"⟩ ∈ xws := xmem 837 (by decide +kernel) (by decide +kernel)
theorem lm_Reader_87 : Cond.methodLink "TwinJudge$Reader" 87 ⟨"TwinJudge$Reader", "findUndefined", "()Z"⟩ ∈ xws := xmem 853 (by decide +kernel) (by decide +kernel)
theorem lm_Reader_90 : Cond.methodLink "TwinJudge$Reader" 90 ⟨"TwinJudge$Reader", "sortAnds", "()Z"⟩ ∈ xws := xmem 858 (by decide +kernel) (by decide +kernel)
theorem lm_Reader_72 : Cond.methodLink "TwinJudge$Reader" 72 ⟨"TwinJudge$Reader", "readLatches", "()Z"⟩ ∈ xws := xmem 805 (by decide +kernel) (by decide +kernel)
theorem lm_Reader_75 : Cond.methodLink "TwinJudge$Reader" 75 ⟨"TwinJudge$Reader", "readOutputs", "()Z"⟩ ∈ xws := xmem 821 (by decide +kernel) (by decide +kernel)
theorem lm_Reader_81 : Cond.methodLink "TwinJudge$Reader" 81 ⟨"TwinJudge$Reader", "readAnds", "()Z"⟩ ∈ xws := xmem 833 (by decide +kernel) (by decide +kernel)
theorem lm_Reader_78 : Cond.methodLink "TwinJudge$Reader" 78 ⟨"TwinJudge$Reader", "readDeltas", "()Z"⟩ ∈ xws := xmem 825 (by decide +kernel) (by decide +kernel)
theorem lm_Reader_52 : Cond.methodLink "TwinJudge$Reader" 52 ⟨"TwinJudge$Circuit", "clear", "()V"⟩ ∈ xws := xmem 756 (by decide +kernel) (by decide +kernel)
theorem lm_Reader_55 : Cond.methodLink "TwinJudge$Reader" 55 ⟨"TwinJudge$Reader", "readHeader", "()Z"⟩ ∈ xws := xmem 762 (by decide +kernel) (by decide +kernel)
theorem lm_Reader_59 : Cond.methodLink "TwinJudge$Reader" 59 ⟨"TwinJudge$Reader", "keepSizes", "()Z"⟩ ∈ xws := xmem 785 (by decide +kernel) (by decide +kernel)
theorem lm_Reader_69 : Cond.methodLink "TwinJudge$Reader" 69 ⟨"TwinJudge$Reader", "readInputs", "()Z"⟩ ∈ xws := xmem 793 (by decide +kernel) (by decide +kernel)
theorem lm_Reader_66 : Cond.methodLink "TwinJudge$Reader" 66 ⟨"TwinJudge$Reader", "defineInOrder", "()Z"⟩ ∈ xws := xmem 789 (by decide +kernel) (by decide +kernel)
theorem lm_Player_25 : Cond.methodLink "TwinJudge$Player" 25 ⟨"java/util/Arrays", "fill", "([II)V"⟩ ∈ xws := xmem 412 (by decide +kernel) (by decide +kernel)
theorem lf_Works_61 : Cond.fieldLink "TwinJudge$Works" 61 "TwinJudge$Works" "isExplored" "Z" ∈ xws := xmem 636 (by decide +kernel) (by decide +kernel)
theorem lf_Works_65 : Cond.fieldLink "TwinJudge$Works" 65 "TwinJudge$Works" "isSorted" "Z" ∈ xws := xmem 637 (by decide +kernel) (by decide +kernel)
theorem lf_Works_68 : Cond.fieldLink "TwinJudge$Works" 68 "TwinJudge$Works" "isLaidOver" "Z" ∈ xws := xmem 638 (by decide +kernel) (by decide +kernel)
theorem lf_Judge_90 : Cond.fieldLink "TwinJudge" 90 "TwinJudge$Reader" "code" "I" ∈ xws := xmem 279 (by decide +kernel) (by decide +kernel)
theorem lf_Judge_93 : Cond.fieldLink "TwinJudge" 93 "TwinJudge$Reader" "place" "I" ∈ xws := xmem 281 (by decide +kernel) (by decide +kernel)
theorem lm_Judge_52 : Cond.methodLink "TwinJudge" 52 ⟨"TwinJudge", "isCircuit", "(I)Z"⟩ ∈ xws := xmem 382 (by decide +kernel) (by decide +kernel)
theorem lf_Judge_180 : Cond.fieldLink "TwinJudge" 180 "TwinJudge$Circuit" "present" "Z" ∈ xws := xmem 178 (by decide +kernel) (by decide +kernel)
theorem lm_Judge_96 : Cond.methodLink "TwinJudge" 96 ⟨"TwinJudge", "isThere", "(I)Z"⟩ ∈ xws := xmem 378 (by decide +kernel) (by decide +kernel)
theorem lm_Judge_99 : Cond.methodLink "TwinJudge" 99 ⟨"TwinJudge$Circuit", "size", "(I)I"⟩ ∈ xws := xmem 385 (by decide +kernel) (by decide +kernel)
theorem lm_Circuit_75 : Cond.methodLink "TwinJudge$Circuit" 75 ⟨"TwinJudge$Circuit", "nameSlot", "(II)I"⟩ ∈ xws := xmem 397 (by decide +kernel) (by decide +kernel)
theorem lm_Judge_102 : Cond.methodLink "TwinJudge" 102 ⟨"TwinJudge$Circuit", "nameByte", "(III)I"⟩ ∈ xws := xmem 393 (by decide +kernel) (by decide +kernel)
theorem lm_Judge_75 : Cond.methodLink "TwinJudge" 75 ⟨"TwinJudge$Player", "rest", "()V"⟩ ∈ xws := xmem 408 (by decide +kernel) (by decide +kernel)
theorem lf_Judge_106 : Cond.fieldLink "TwinJudge" 106 "TwinJudge$Player" "states" "[I" ∈ xws := xmem 320 (by decide +kernel) (by decide +kernel)
theorem lm_Judge_184 : Cond.methodLink "TwinJudge" 184 ⟨"TwinJudge$Circuit", "isDefined", "(I)Z"⟩ ∈ xws := xmem 427 (by decide +kernel) (by decide +kernel)
theorem lm_Circuit_79 : Cond.methodLink "TwinJudge$Circuit" 79 ⟨"TwinJudge$Circuit", "word", "([III)I"⟩ ∈ xws := xmem 443 (by decide +kernel) (by decide +kernel)
theorem lm_Player_31 : Cond.methodLink "TwinJudge$Player" 31 ⟨"TwinJudge$Player", "takeVector", "(I)V"⟩ ∈ xws := xmem 435 (by decide +kernel) (by decide +kernel)
theorem lm_Player_35 : Cond.methodLink "TwinJudge$Player" 35 ⟨"TwinJudge$Circuit", "settle", "(I[I[II)V"⟩ ∈ xws := xmem 439 (by decide +kernel) (by decide +kernel)
theorem lm_Player_41 : Cond.methodLink "TwinJudge$Player" 41 ⟨"TwinJudge$Circuit", "word", "([III)I"⟩ ∈ xws := xmem 446 (by decide +kernel) (by decide +kernel)
theorem lm_Judge_110 : Cond.methodLink "TwinJudge" 110 ⟨"TwinJudge", "isLiteral", "(II)Z"⟩ ∈ xws := xmem 423 (by decide +kernel) (by decide +kernel)
theorem lm_Judge_114 : Cond.methodLink "TwinJudge" 114 ⟨"TwinJudge$Player", "look", "(III)I"⟩ ∈ xws := xmem 431 (by decide +kernel) (by decide +kernel)
theorem lf_Player_45 : Cond.fieldLink "TwinJudge$Player" 45 "TwinJudge$Circuit" "present" "Z" ∈ xws := xmem 176 (by decide +kernel) (by decide +kernel)
theorem lf_Player_49 : Cond.fieldLink "TwinJudge$Player" 49 "TwinJudge$Circuit" "outputLiterals" "[I" ∈ xws := xmem 225 (by decide +kernel) (by decide +kernel)
theorem lf_Player_52 : Cond.fieldLink "TwinJudge$Player" 52 "TwinJudge$Circuit" "outputs" "I" ∈ xws := xmem 194 (by decide +kernel) (by decide +kernel)
theorem lm_Player_56 : Cond.methodLink "TwinJudge$Player" 56 ⟨"TwinJudge$Player", "gather", "([II)I"⟩ ∈ xws := xmem 455 (by decide +kernel) (by decide +kernel)
theorem lf_Player_60 : Cond.fieldLink "TwinJudge$Player" 60 "TwinJudge$Circuit" "nexts" "[I" ∈ xws := xmem 221 (by decide +kernel) (by decide +kernel)
theorem lf_Player_63 : Cond.fieldLink "TwinJudge$Player" 63 "TwinJudge$Circuit" "latches" "I" ∈ xws := xmem 190 (by decide +kernel) (by decide +kernel)
theorem lm_Judge_117 : Cond.methodLink "TwinJudge" 117 ⟨"TwinJudge$Player", "play", "(I)I"⟩ ∈ xws := xmem 451 (by decide +kernel) (by decide +kernel)
theorem lf_Judge_187 : Cond.fieldLink "TwinJudge" 187 "TwinJudge$Circuit" "inputs" "I" ∈ xws := xmem 186 (by decide +kernel) (by decide +kernel)
theorem lf_Judge_190 : Cond.fieldLink "TwinJudge" 190 "TwinJudge$Circuit" "outputs" "I" ∈ xws := xmem 196 (by decide +kernel) (by decide +kernel)
theorem lm_Table_3 : Cond.methodLink "TwinJudge$Table" 3 ⟨"java/lang/Object", "<init>", "()V"⟩ ∈ xws := xmem 486 (by decide +kernel) (by decide +kernel)
theorem lf_Table_9 : Cond.fieldLink "TwinJudge$Table" 9 "TwinJudge$Table" "words" "[I" ∈ xws := xmem 487 (by decide +kernel) (by decide +kernel)
theorem lf_Table_15 : Cond.fieldLink "TwinJudge$Table" 15 "TwinJudge$Table" "outputWords" "[I" ∈ xws := xmem 488 (by decide +kernel) (by decide +kernel)
theorem lf_Table_18 : Cond.fieldLink "TwinJudge$Table" 18 "TwinJudge$Table" "nexts" "[I" ∈ xws := xmem 489 (by decide +kernel) (by decide +kernel)
theorem lf_Table_21 : Cond.fieldLink "TwinJudge$Table" 21 "TwinJudge$Table" "states" "[I" ∈ xws := xmem 490 (by decide +kernel) (by decide +kernel)
theorem lm_Walk_3 : Cond.methodLink "TwinJudge$Walk" 3 ⟨"java/lang/Object", "<init>", "()V"⟩ ∈ xws := xmem 513 (by decide +kernel) (by decide +kernel)
theorem lf_Walk_9 : Cond.fieldLink "TwinJudge$Walk" 9 "TwinJudge$Walk" "queue" "[I" ∈ xws := xmem 515 (by decide +kernel) (by decide +kernel)
theorem lf_Walk_15 : Cond.fieldLink "TwinJudge$Walk" 15 "TwinJudge$Walk" "depths" "[I" ∈ xws := xmem 518 (by decide +kernel) (by decide +kernel)
theorem lf_Walk_18 : Cond.fieldLink "TwinJudge$Walk" 18 "TwinJudge$Walk" "arrivals" "[I" ∈ xws := xmem 520 (by decide +kernel) (by decide +kernel)
theorem lf_Walk_21 : Cond.fieldLink "TwinJudge$Walk" 21 "TwinJudge$Walk" "vectors" "[I" ∈ xws := xmem 521 (by decide +kernel) (by decide +kernel)
theorem lf_Walk_24 : Cond.fieldLink "TwinJudge$Walk" 24 "TwinJudge$Walk" "table" "LTwinJudge$Table;" ∈ xws := xmem 514 (by decide +kernel) (by decide +kernel)
theorem lm_Layers_3 : Cond.methodLink "TwinJudge$Layers" 3 ⟨"java/lang/Object", "<init>", "()V"⟩ ∈ xws := xmem 555 (by decide +kernel) (by decide +kernel)
theorem lf_Layers_9 : Cond.fieldLink "TwinJudge$Layers" 9 "TwinJudge$Layers" "latest" "[Z" ∈ xws := xmem 557 (by decide +kernel) (by decide +kernel)
theorem lf_Layers_15 : Cond.fieldLink "TwinJudge$Layers" 15 "TwinJudge$Layers" "spare" "[Z" ∈ xws := xmem 558 (by decide +kernel) (by decide +kernel)
theorem lf_Layers_18 : Cond.fieldLink "TwinJudge$Layers" 18 "TwinJudge$Layers" "table" "LTwinJudge$Table;" ∈ xws := xmem 556 (by decide +kernel) (by decide +kernel)
theorem lm_Likeness_3 : Cond.methodLink "TwinJudge$Likeness" 3 ⟨"java/lang/Object", "<init>", "()V"⟩ ∈ xws := xmem 583 (by decide +kernel) (by decide +kernel)
theorem lf_Likeness_11 : Cond.fieldLink "TwinJudge$Likeness" 11 "TwinJudge$Likeness" "leaders" "[I" ∈ xws := xmem 584 (by decide +kernel) (by decide +kernel)
theorem lf_Likeness_15 : Cond.fieldLink "TwinJudge$Likeness" 15 "TwinJudge$Likeness" "flips" "[I" ∈ xws := xmem 585 (by decide +kernel) (by decide +kernel)
theorem lf_Likeness_18 : Cond.fieldLink "TwinJudge$Likeness" 18 "TwinJudge$Likeness" "words" "[I" ∈ xws := xmem 586 (by decide +kernel) (by decide +kernel)
theorem lf_Likeness_21 : Cond.fieldLink "TwinJudge$Likeness" 21 "TwinJudge$Likeness" "splits" "[I" ∈ xws := xmem 587 (by decide +kernel) (by decide +kernel)
theorem lf_Likeness_24 : Cond.fieldLink "TwinJudge$Likeness" 24 "TwinJudge$Likeness" "sizes" "[I" ∈ xws := xmem 588 (by decide +kernel) (by decide +kernel)
theorem lf_Likeness_27 : Cond.fieldLink "TwinJudge$Likeness" 27 "TwinJudge$Likeness" "open" "[I" ∈ xws := xmem 589 (by decide +kernel) (by decide +kernel)
theorem lm_Overlay_5 : Cond.methodLink "TwinJudge$Overlay" 5 ⟨"java/lang/Object", "<init>", "()V"⟩ ∈ xws := xmem 611 (by decide +kernel) (by decide +kernel)
theorem lf_Overlay_11 : Cond.fieldLink "TwinJudge$Overlay" 11 "TwinJudge$Overlay" "lower" "[I" ∈ xws := xmem 612 (by decide +kernel) (by decide +kernel)
theorem lf_Overlay_15 : Cond.fieldLink "TwinJudge$Overlay" 15 "TwinJudge$Overlay" "upper" "[I" ∈ xws := xmem 613 (by decide +kernel) (by decide +kernel)
theorem lf_Overlay_18 : Cond.fieldLink "TwinJudge$Overlay" 18 "TwinJudge$Overlay" "signals" "[I" ∈ xws := xmem 614 (by decide +kernel) (by decide +kernel)
theorem lm_Works_3 : Cond.methodLink "TwinJudge$Works" 3 ⟨"java/lang/Object", "<init>", "()V"⟩ ∈ xws := xmem 480 (by decide +kernel) (by decide +kernel)
theorem lm_Works_11 : Cond.methodLinkNest "TwinJudge$Works" 11 ⟨"TwinJudge$Table", "<init>", "()V"⟩ "TwinJudge" ∈ lw_tbl := List.mem_of_getElem? (i := 483) (by decide +kernel)
theorem lf_Works_12 : Cond.fieldLink "TwinJudge$Works" 12 "TwinJudge$Works" "table" "LTwinJudge$Table;" ∈ xws := xmem 630 (by decide +kernel) (by decide +kernel)
theorem lm_Works_20 : Cond.methodLink "TwinJudge$Works" 20 ⟨"TwinJudge$Walk", "<init>", "(LTwinJudge$Table;)V"⟩ ∈ xws := xmem 510 (by decide +kernel) (by decide +kernel)
theorem lf_Works_23 : Cond.fieldLink "TwinJudge$Works" 23 "TwinJudge$Works" "walk" "LTwinJudge$Walk;" ∈ xws := xmem 631 (by decide +kernel) (by decide +kernel)
theorem lm_Works_29 : Cond.methodLink "TwinJudge$Works" 29 ⟨"TwinJudge$Layers", "<init>", "(LTwinJudge$Table;)V"⟩ ∈ xws := xmem 552 (by decide +kernel) (by decide +kernel)
theorem lf_Works_30 : Cond.fieldLink "TwinJudge$Works" 30 "TwinJudge$Works" "layers" "LTwinJudge$Layers;" ∈ xws := xmem 633 (by decide +kernel) (by decide +kernel)
theorem lm_Works_36 : Cond.methodLinkNest "TwinJudge$Works" 36 ⟨"TwinJudge$Likeness", "<init>", "()V"⟩ "TwinJudge" ∈ lw_tbl := List.mem_of_getElem? (i := 580) (by decide +kernel)
theorem lf_Works_37 : Cond.fieldLink "TwinJudge$Works" 37 "TwinJudge$Works" "likeness" "LTwinJudge$Likeness;" ∈ xws := xmem 634 (by decide +kernel) (by decide +kernel)
theorem lm_Works_43 : Cond.methodLinkNest "TwinJudge$Works" 43 ⟨"TwinJudge$Overlay", "<init>", "()V"⟩ "TwinJudge" ∈ lw_tbl := List.mem_of_getElem? (i := 608) (by decide +kernel)
theorem lf_Works_44 : Cond.fieldLink "TwinJudge$Works" 44 "TwinJudge$Works" "overlay" "LTwinJudge$Overlay;" ∈ xws := xmem 635 (by decide +kernel) (by decide +kernel)
theorem lf_Works_48 : Cond.fieldLink "TwinJudge$Works" 48 "TwinJudge$Works" "circuits" "[LTwinJudge$Circuit;" ∈ xws := xmem 628 (by decide +kernel) (by decide +kernel)
theorem lm_Works_54 : Cond.methodLink "TwinJudge$Works" 54 ⟨"TwinJudge$Player", "<init>", "([LTwinJudge$Circuit;)V"⟩ ∈ xws := xmem 627 (by decide +kernel) (by decide +kernel)
theorem lf_Works_57 : Cond.fieldLink "TwinJudge$Works" 57 "TwinJudge$Works" "player" "LTwinJudge$Player;" ∈ xws := xmem 629 (by decide +kernel) (by decide +kernel)
theorem lc_Works_52 : Cond.classLink "TwinJudge$Works" 52 "TwinJudge$Player" ∈ xws := xmem 626 (by decide +kernel) (by decide +kernel)
theorem lc_Works_41 : Cond.classLink "TwinJudge$Works" 41 "TwinJudge$Overlay" ∈ xws := xmem 606 (by decide +kernel) (by decide +kernel)
theorem it_Overlay : Cond.instantiable "TwinJudge$Overlay" 4 ∈ xws := xmem 607 (by decide +kernel) (by decide +kernel)
theorem in_Overlay : Cond.initialized "TwinJudge$Overlay" ∈ xws := xmem 109 (by decide +kernel) (by decide +kernel)
theorem lc_Works_34 : Cond.classLink "TwinJudge$Works" 34 "TwinJudge$Likeness" ∈ xws := xmem 578 (by decide +kernel) (by decide +kernel)
theorem it_Likeness : Cond.instantiable "TwinJudge$Likeness" 7 ∈ xws := xmem 579 (by decide +kernel) (by decide +kernel)
theorem in_Likeness : Cond.initialized "TwinJudge$Likeness" ∈ xws := xmem 108 (by decide +kernel) (by decide +kernel)
theorem lc_Works_27 : Cond.classLink "TwinJudge$Works" 27 "TwinJudge$Layers" ∈ xws := xmem 550 (by decide +kernel) (by decide +kernel)
theorem it_Layers : Cond.instantiable "TwinJudge$Layers" 7 ∈ xws := xmem 551 (by decide +kernel) (by decide +kernel)
theorem in_Layers : Cond.initialized "TwinJudge$Layers" ∈ xws := xmem 107 (by decide +kernel) (by decide +kernel)
theorem lc_Works_18 : Cond.classLink "TwinJudge$Works" 18 "TwinJudge$Walk" ∈ xws := xmem 508 (by decide +kernel) (by decide +kernel)
theorem it_Walk : Cond.instantiable "TwinJudge$Walk" 8 ∈ xws := xmem 509 (by decide +kernel) (by decide +kernel)
theorem in_Walk : Cond.initialized "TwinJudge$Walk" ∈ xws := xmem 106 (by decide +kernel) (by decide +kernel)
theorem lc_Works_9 : Cond.classLink "TwinJudge$Works" 9 "TwinJudge$Table" ∈ xws := xmem 481 (by decide +kernel) (by decide +kernel)
theorem it_Table : Cond.instantiable "TwinJudge$Table" 6 ∈ xws := xmem 482 (by decide +kernel) (by decide +kernel)
theorem in_Table : Cond.initialized "TwinJudge$Table" ∈ xws := xmem 105 (by decide +kernel) (by decide +kernel)
theorem lf_Judge_78 : Cond.fieldLink "TwinJudge" 78 "TwinJudge" "works" "LTwinJudge$Works;" ∈ xws := xmem 336 (by decide +kernel) (by decide +kernel)
theorem lm_Judge_200 : Cond.methodLink "TwinJudge" 200 ⟨"TwinJudge$Works", "<init>", "([LTwinJudge$Circuit;)V"⟩ ∈ xws := xmem 477 (by decide +kernel) (by decide +kernel)
theorem lc_Judge_83 : Cond.classLink "TwinJudge" 83 "TwinJudge$Works" ∈ xws := xmem 475 (by decide +kernel) (by decide +kernel)
theorem it_Works : Cond.instantiable "TwinJudge$Works" 11 ∈ xws := xmem 476 (by decide +kernel) (by decide +kernel)
theorem in_Works : Cond.initialized "TwinJudge$Works" ∈ xws := xmem 104 (by decide +kernel) (by decide +kernel)
theorem lf_Overlay_21 : Cond.fieldLink "TwinJudge$Overlay" 21 "TwinJudge$Overlay" "count" "I" ∈ xws := xmem 615 (by decide +kernel) (by decide +kernel)
theorem lm_Overlay_63 : Cond.methodLink "TwinJudge$Overlay" 63 ⟨"java/lang/Math", "min", "(II)I"⟩ ∈ xws := xmem 1008 (by decide +kernel) (by decide +kernel)
theorem lm_Overlay_68 : Cond.methodLink "TwinJudge$Overlay" 68 ⟨"java/lang/Math", "max", "(II)I"⟩ ∈ xws := xmem 1011 (by decide +kernel) (by decide +kernel)
theorem lm_Overlay_71 : Cond.methodLink "TwinJudge$Overlay" 71 ⟨"TwinJudge$Overlay", "gateOf", "(II)I"⟩ ∈ xws := xmem 1014 (by decide +kernel) (by decide +kernel)
theorem lf_Overlay_43 : Cond.fieldLink "TwinJudge$Overlay" 43 "TwinJudge$Circuit" "ands" "I" ∈ xws := xmem 199 (by decide +kernel) (by decide +kernel)
theorem lf_Overlay_46 : Cond.fieldLink "TwinJudge$Overlay" 46 "TwinJudge$Circuit" "order" "[I" ∈ xws := xmem 229 (by decide +kernel) (by decide +kernel)
theorem lf_Overlay_49 : Cond.fieldLink "TwinJudge$Overlay" 49 "TwinJudge$Circuit" "left" "[I" ∈ xws := xmem 207 (by decide +kernel) (by decide +kernel)
theorem lm_Overlay_52 : Cond.methodLink "TwinJudge$Overlay" 52 ⟨"TwinJudge$Overlay", "signalOf", "(I)I"⟩ ∈ xws := xmem 1000 (by decide +kernel) (by decide +kernel)
theorem lf_Overlay_56 : Cond.fieldLink "TwinJudge$Overlay" 56 "TwinJudge$Circuit" "right" "[I" ∈ xws := xmem 211 (by decide +kernel) (by decide +kernel)
theorem lm_Overlay_59 : Cond.methodLink "TwinJudge$Overlay" 59 ⟨"TwinJudge$Overlay", "join", "(II)I"⟩ ∈ xws := xmem 1004 (by decide +kernel) (by decide +kernel)
theorem lf_Overlay_37 : Cond.fieldLink "TwinJudge$Overlay" 37 "TwinJudge$Circuit" "latches" "I" ∈ xws := xmem 188 (by decide +kernel) (by decide +kernel)
theorem lf_Overlay_40 : Cond.fieldLink "TwinJudge$Overlay" 40 "TwinJudge$Circuit" "latchVariables" "[I" ∈ xws := xmem 217 (by decide +kernel) (by decide +kernel)
theorem lf_Overlay_29 : Cond.fieldLink "TwinJudge$Overlay" 29 "TwinJudge$Circuit" "inputs" "I" ∈ xws := xmem 183 (by decide +kernel) (by decide +kernel)
theorem lf_Overlay_34 : Cond.fieldLink "TwinJudge$Overlay" 34 "TwinJudge$Circuit" "inputVariables" "[I" ∈ xws := xmem 214 (by decide +kernel) (by decide +kernel)
theorem lm_Overlay_25 : Cond.methodLink "TwinJudge$Overlay" 25 ⟨"TwinJudge$Overlay", "layOver", "(LTwinJudge$Circuit;I)V"⟩ ∈ xws := xmem 996 (by decide +kernel) (by decide +kernel)
theorem lf_Works_138 : Cond.fieldLink "TwinJudge$Works" 138 "TwinJudge$Overlay" "count" "I" ∈ xws := xmem 616 (by decide +kernel) (by decide +kernel)
theorem lm_Works_135 : Cond.methodLink "TwinJudge$Works" 135 ⟨"TwinJudge$Overlay", "build", "([LTwinJudge$Circuit;)V"⟩ ∈ xws := xmem 992 (by decide +kernel) (by decide +kernel)
theorem lf_Table_30 : Cond.fieldLink "TwinJudge$Table" 30 "TwinJudge$Table" "vectors" "I" ∈ xws := xmem 492 (by decide +kernel) (by decide +kernel)
theorem lf_Table_43 : Cond.fieldLink "TwinJudge$Table" 43 "TwinJudge$Circuit" "latches" "I" ∈ xws := xmem 187 (by decide +kernel) (by decide +kernel)
theorem lf_Table_64 : Cond.fieldLink "TwinJudge$Table" 64 "TwinJudge$Circuit" "nexts" "[I" ∈ xws := xmem 220 (by decide +kernel) (by decide +kernel)
theorem lm_Table_60 : Cond.methodLink "TwinJudge$Table" 60 ⟨"TwinJudge$Circuit", "word", "([III)I"⟩ ∈ xws := xmem 680 (by decide +kernel) (by decide +kernel)
theorem lf_Table_36 : Cond.fieldLink "TwinJudge$Table" 36 "TwinJudge$Table" "outputs" "I" ∈ xws := xmem 491 (by decide +kernel) (by decide +kernel)
theorem lf_Table_57 : Cond.fieldLink "TwinJudge$Table" 57 "TwinJudge$Circuit" "outputLiterals" "[I" ∈ xws := xmem 224 (by decide +kernel) (by decide +kernel)
theorem lf_Table_50 : Cond.fieldLinkNest "TwinJudge$Table" 50 "TwinJudge" "ALL_VECTORS" "[I" "TwinJudge" ∈ lw_tbl := List.mem_of_getElem? (i := 677) (by decide +kernel)
theorem lm_Table_53 : Cond.methodLink "TwinJudge$Table" 53 ⟨"TwinJudge$Circuit", "settle", "(I[I[II)V"⟩ ∈ xws := xmem 679 (by decide +kernel) (by decide +kernel)
theorem lm_Table_46 : Cond.methodLink "TwinJudge$Table" 46 ⟨"TwinJudge$Table", "fillLine", "(LTwinJudge$Circuit;II)V"⟩ ∈ xws := xmem 673 (by decide +kernel) (by decide +kernel)
theorem lf_Table_24 : Cond.fieldLink "TwinJudge$Table" 24 "TwinJudge$Circuit" "inputs" "I" ∈ xws := xmem 182 (by decide +kernel) (by decide +kernel)
theorem lf_Table_33 : Cond.fieldLink "TwinJudge$Table" 33 "TwinJudge$Circuit" "outputs" "I" ∈ xws := xmem 192 (by decide +kernel) (by decide +kernel)
theorem lm_Table_37 : Cond.methodLink "TwinJudge$Table" 37 ⟨"java/util/Arrays", "fill", "([II)V"⟩ ∈ xws := xmem 672 (by decide +kernel) (by decide +kernel)
theorem lm_Table_65 : Cond.methodLink "TwinJudge$Table" 65 ⟨"TwinJudge$Table", "unlike", "(II)I"⟩ ∈ xws := xmem 694 (by decide +kernel) (by decide +kernel)
theorem co_Integer_264 : Cond.constant "java/lang/Integer" 264 65536 ∈ xws := xmem 701 (by decide +kernel) (by decide +kernel)
theorem lm_Walk_59 : Cond.methodLink "TwinJudge$Walk" 59 ⟨"TwinJudge$Table", "telling", "(I)I"⟩ ∈ xws := xmem 690 (by decide +kernel) (by decide +kernel)
theorem lm_Walk_63 : Cond.methodLink "TwinJudge$Walk" 63 ⟨"java/lang/Integer", "numberOfTrailingZeros", "(I)I"⟩ ∈ xws := xmem 698 (by decide +kernel) (by decide +kernel)
theorem lm_Walk_68 : Cond.methodLink "TwinJudge$Walk" 68 ⟨"TwinJudge$Table", "lowestUnlike", "(II)I"⟩ ∈ xws := xmem 702 (by decide +kernel) (by decide +kernel)
theorem lf_Walk_41 : Cond.fieldLink "TwinJudge$Walk" 41 "TwinJudge$Walk" "blamed" "I" ∈ xws := xmem 531 (by decide +kernel) (by decide +kernel)
theorem lf_Walk_38 : Cond.fieldLink "TwinJudge$Walk" 38 "TwinJudge$Walk" "length" "I" ∈ xws := xmem 528 (by decide +kernel) (by decide +kernel)
theorem lm_Walk_71 : Cond.methodLink "TwinJudge$Walk" 71 ⟨"TwinJudge$Walk", "traceBack", "(I)V"⟩ ∈ xws := xmem 706 (by decide +kernel) (by decide +kernel)
theorem lf_Walk_51 : Cond.fieldLink "TwinJudge$Walk" 51 "TwinJudge$Table" "vectors" "I" ∈ xws := xmem 493 (by decide +kernel) (by decide +kernel)
theorem lm_Walk_55 : Cond.methodLink "TwinJudge$Walk" 55 ⟨"TwinJudge$Table", "next", "(II)I"⟩ ∈ xws := xmem 714 (by decide +kernel) (by decide +kernel)
theorem lf_Walk_34 : Cond.fieldLink "TwinJudge$Walk" 34 "TwinJudge$Walk" "count" "I" ∈ xws := xmem 524 (by decide +kernel) (by decide +kernel)
theorem lm_Walk_48 : Cond.methodLink "TwinJudge$Walk" 48 ⟨"TwinJudge$Walk", "expand", "(I)V"⟩ ∈ xws := xmem 710 (by decide +kernel) (by decide +kernel)
theorem lm_Walk_44 : Cond.methodLink "TwinJudge$Walk" 44 ⟨"TwinJudge$Walk", "tryToTell", "(I)V"⟩ ∈ xws := xmem 686 (by decide +kernel) (by decide +kernel)
theorem lm_Walk_28 : Cond.methodLink "TwinJudge$Walk" 28 ⟨"java/util/Arrays", "fill", "([II)V"⟩ ∈ xws := xmem 685 (by decide +kernel) (by decide +kernel)
theorem lf_Layers_22 : Cond.fieldLink "TwinJudge$Layers" 22 "TwinJudge$Layers" "known" "I" ∈ xws := xmem 559 (by decide +kernel) (by decide +kernel)
theorem lf_Layers_26 : Cond.fieldLink "TwinJudge$Layers" 26 "TwinJudge$Layers" "firstEmpty" "I" ∈ xws := xmem 560 (by decide +kernel) (by decide +kernel)
theorem lf_Layers_29 : Cond.fieldLink "TwinJudge$Layers" 29 "TwinJudge$Layers" "firstWithReset" "I" ∈ xws := xmem 561 (by decide +kernel) (by decide +kernel)
theorem lf_Layers_32 : Cond.fieldLink "TwinJudge$Layers" 32 "TwinJudge$Layers" "isSteady" "Z" ∈ xws := xmem 562 (by decide +kernel) (by decide +kernel)
theorem lf_Works_95 : Cond.fieldLink "TwinJudge$Works" 95 "TwinJudge$Walk" "length" "I" ∈ xws := xmem 529 (by decide +kernel) (by decide +kernel)
theorem lf_Works_98 : Cond.fieldLink "TwinJudge$Works" 98 "TwinJudge$Walk" "vectors" "[I" ∈ xws := xmem 522 (by decide +kernel) (by decide +kernel)
theorem lm_Works_102 : Cond.methodLink "TwinJudge$Works" 102 ⟨"TwinJudge$Player", "play", "(I)I"⟩ ∈ xws := xmem 727 (by decide +kernel) (by decide +kernel)
theorem lm_Works_92 : Cond.methodLink "TwinJudge$Works" 92 ⟨"TwinJudge$Player", "rest", "()V"⟩ ∈ xws := xmem 726 (by decide +kernel) (by decide +kernel)
theorem lf_Works_71 : Cond.fieldLink "TwinJudge$Works" 71 "TwinJudge$Works" "mistakes" "I" ∈ xws := xmem 639 (by decide +kernel) (by decide +kernel)
theorem lm_Works_75 : Cond.methodLink "TwinJudge$Works" 75 ⟨"TwinJudge$Table", "fill", "([LTwinJudge$Circuit;)V"⟩ ∈ xws := xmem 668 (by decide +kernel) (by decide +kernel)
theorem lm_Works_78 : Cond.methodLink "TwinJudge$Works" 78 ⟨"TwinJudge$Walk", "explore", "()V"⟩ ∈ xws := xmem 681 (by decide +kernel) (by decide +kernel)
theorem lm_Works_81 : Cond.methodLink "TwinJudge$Works" 81 ⟨"TwinJudge$Layers", "clear", "()V"⟩ ∈ xws := xmem 718 (by decide +kernel) (by decide +kernel)
theorem lm_Works_84 : Cond.methodLink "TwinJudge$Works" 84 ⟨"TwinJudge$Works", "witnessTells", "()Z"⟩ ∈ xws := xmem 722 (by decide +kernel) (by decide +kernel)
theorem lm_Works_88 : Cond.methodLink "TwinJudge$Works" 88 ⟨"TwinJudge$Works", "doubtUnless", "(Z)V"⟩ ∈ xws := xmem 728 (by decide +kernel) (by decide +kernel)
theorem lm_Judge_123 : Cond.methodLink "TwinJudge" 123 ⟨"TwinJudge", "readyWorks", "()LTwinJudge$Works;"⟩ ∈ xws := xmem 471 (by decide +kernel) (by decide +kernel)
theorem lm_Judge_201 : Cond.methodLink "TwinJudge" 201 ⟨"TwinJudge$Works", "explore", "()V"⟩ ∈ xws := xmem 664 (by decide +kernel) (by decide +kernel)
theorem lm_Judge_141 : Cond.methodLink "TwinJudge" 141 ⟨"TwinJudge", "matching", "()Z"⟩ ∈ xws := xmem 463 (by decide +kernel) (by decide +kernel)
theorem lm_Judge_131 : Cond.methodLink "TwinJudge" 131 ⟨"TwinJudge", "exploredWorks", "()LTwinJudge$Works;"⟩ ∈ xws := xmem 467 (by decide +kernel) (by decide +kernel)
theorem lf_Judge_134 : Cond.fieldLink "TwinJudge" 134 "TwinJudge$Works" "walk" "LTwinJudge$Walk;" ∈ xws := xmem 632 (by decide +kernel) (by decide +kernel)
theorem lf_Judge_138 : Cond.fieldLink "TwinJudge" 138 "TwinJudge$Walk" "length" "I" ∈ xws := xmem 530 (by decide +kernel) (by decide +kernel)
theorem lf_Judge_144 : Cond.fieldLink "TwinJudge" 144 "TwinJudge$Walk" "vectors" "[I" ∈ xws := xmem 523 (by decide +kernel) (by decide +kernel)
theorem lf_Judge_147 : Cond.fieldLink "TwinJudge" 147 "TwinJudge$Walk" "blamed" "I" ∈ xws := xmem 532 (by decide +kernel) (by decide +kernel)
theorem lf_Layers_52 : Cond.fieldLink "TwinJudge$Layers" 52 "TwinJudge$Table" "vectors" "I" ∈ xws := xmem 494 (by decide +kernel) (by decide +kernel)
theorem lm_Layers_55 : Cond.methodLink "TwinJudge$Layers" 55 ⟨"TwinJudge$Table", "next", "(II)I"⟩ ∈ xws := xmem 1064 (by decide +kernel) (by decide +kernel)
theorem lm_Layers_48 : Cond.methodLink "TwinJudge$Layers" 48 ⟨"TwinJudge$Table", "telling", "(I)I"⟩ ∈ xws := xmem 1063 (by decide +kernel) (by decide +kernel)
theorem lm_Layers_39 : Cond.methodLink "TwinJudge$Layers" 39 ⟨"TwinJudge$Table", "isPair", "(I)Z"⟩ ∈ xws := xmem 1055 (by decide +kernel) (by decide +kernel)
theorem lm_Layers_45 : Cond.methodLink "TwinJudge$Layers" 45 ⟨"TwinJudge$Layers", "isInLayer", "(I)Z"⟩ ∈ xws := xmem 1059 (by decide +kernel) (by decide +kernel)
theorem lm_Layers_36 : Cond.methodLink "TwinJudge$Layers" 36 ⟨"TwinJudge$Layers", "addLayer", "()V"⟩ ∈ xws := xmem 1051 (by decide +kernel) (by decide +kernel)
theorem lm_Works_106 : Cond.methodLink "TwinJudge$Works" 106 ⟨"TwinJudge$Layers", "isEmpty", "(I)Z"⟩ ∈ xws := xmem 1047 (by decide +kernel) (by decide +kernel)
theorem lm_Works_110 : Cond.methodLink "TwinJudge$Works" 110 ⟨"TwinJudge$Layers", "fits", "(I)Z"⟩ ∈ xws := xmem 1065 (by decide +kernel) (by decide +kernel)
theorem lf_Works_113 : Cond.fieldLink "TwinJudge$Works" 113 "TwinJudge$Walk" "count" "I" ∈ xws := xmem 526 (by decide +kernel) (by decide +kernel)
theorem lf_Works_116 : Cond.fieldLink "TwinJudge$Works" 116 "TwinJudge$Walk" "queue" "[I" ∈ xws := xmem 517 (by decide +kernel) (by decide +kernel)
theorem lm_Works_119 : Cond.methodLink "TwinJudge$Works" 119 ⟨"TwinJudge$Table", "word", "(III)I"⟩ ∈ xws := xmem 1102 (by decide +kernel) (by decide +kernel)
theorem lf_Likeness_30 : Cond.fieldLink "TwinJudge$Likeness" 30 "TwinJudge$Likeness" "openCount" "I" ∈ xws := xmem 590 (by decide +kernel) (by decide +kernel)
theorem lm_Likeness_40 : Cond.methodLink "TwinJudge$Likeness" 40 ⟨"TwinJudge$Table", "word", "(III)I"⟩ ∈ xws := xmem 1122 (by decide +kernel) (by decide +kernel)
theorem lm_Likeness_61 : Cond.methodLink "TwinJudge$Likeness" 61 ⟨"TwinJudge$Likeness", "findLeader", "(I)V"⟩ ∈ xws := xmem 1127 (by decide +kernel) (by decide +kernel)
theorem lm_Likeness_65 : Cond.methodLink "TwinJudge$Likeness" 65 ⟨"java/util/Arrays", "fill", "([II)V"⟩ ∈ xws := xmem 1135 (by decide +kernel) (by decide +kernel)
theorem lf_Likeness_46 : Cond.fieldLink "TwinJudge$Likeness" 46 "TwinJudge$Walk" "count" "I" ∈ xws := xmem 525 (by decide +kernel) (by decide +kernel)
theorem lf_Likeness_51 : Cond.fieldLink "TwinJudge$Likeness" 51 "TwinJudge$Walk" "queue" "[I" ∈ xws := xmem 516 (by decide +kernel) (by decide +kernel)
theorem lm_Likeness_54 : Cond.methodLink "TwinJudge$Likeness" 54 ⟨"TwinJudge$Likeness", "isSplitBy", "(LTwinJudge$Table;I)Z"⟩ ∈ xws := xmem 1123 (by decide +kernel) (by decide +kernel)
theorem lm_Likeness_58 : Cond.methodLink "TwinJudge$Likeness" 58 ⟨"TwinJudge$Likeness", "leaveLone", "()V"⟩ ∈ xws := xmem 1131 (by decide +kernel) (by decide +kernel)
theorem lm_Likeness_34 : Cond.methodLink "TwinJudge$Likeness" 34 ⟨"TwinJudge$Circuit", "isDefined", "(I)Z"⟩ ∈ xws := xmem 1121 (by decide +kernel) (by decide +kernel)
theorem lm_Works_131 : Cond.methodLink "TwinJudge$Works" 131 ⟨"TwinJudge$Works", "agree", "(IIII)Z"⟩ ∈ xws := xmem 1140 (by decide +kernel) (by decide +kernel)
theorem lm_Works_127 : Cond.methodLink "TwinJudge$Works" 127 ⟨"TwinJudge$Likeness", "firstLike", "(II)I"⟩ ∈ xws := xmem 1136 (by decide +kernel) (by decide +kernel)
theorem lm_Works_123 : Cond.methodLink "TwinJudge$Works" 123 ⟨"TwinJudge$Likeness", "sort", "([LTwinJudge$Circuit;LTwinJudge$Table;LTwinJudge$Walk;)V"⟩ ∈ xws := xmem 1117 (by decide +kernel) (by decide +kernel)
theorem lf_Judge_177 : Cond.fieldLink "TwinJudge" 177 "TwinJudge$Works" "mistakes" "I" ∈ xws := xmem 640 (by decide +kernel) (by decide +kernel)
theorem lm_Model_1 : Cond.methodLink "TwinJudgeModel" 1 ⟨"java/lang/Object", "<init>", "()V"⟩ ∈ xws := xmem 1146 (by decide +kernel) (by decide +kernel)
theorem lf_Model_7 : Cond.fieldLink "TwinJudgeModel" 7 "TwinJudgeModel" "tape" "[B" ∈ xws := xmem 1149 (by decide +kernel) (by decide +kernel)
theorem lf_Model_13 : Cond.fieldLink "TwinJudgeModel" 13 "TwinJudgeModel" "ready" "[B" ∈ xws := xmem 1150 (by decide +kernel) (by decide +kernel)
theorem lf_Model_16 : Cond.fieldLink "TwinJudgeModel" 16 "TwinJudgeModel" "faultPlace" "I" ∈ xws := xmem 1153 (by decide +kernel) (by decide +kernel)
theorem lf_Model_20 : Cond.fieldLink "TwinJudgeModel" 20 "TwinJudgeModel" "head" "[I" ∈ xws := xmem 1158 (by decide +kernel) (by decide +kernel)
theorem lf_Model_24 : Cond.fieldLink "TwinJudgeModel" 24 "TwinJudgeModel" "inputs" "[I" ∈ xws := xmem 1159 (by decide +kernel) (by decide +kernel)
theorem lf_Model_27 : Cond.fieldLink "TwinJudgeModel" 27 "TwinJudgeModel" "latches" "[I" ∈ xws := xmem 1160 (by decide +kernel) (by decide +kernel)
theorem lf_Model_30 : Cond.fieldLink "TwinJudgeModel" 30 "TwinJudgeModel" "nexts" "[I" ∈ xws := xmem 1161 (by decide +kernel) (by decide +kernel)
theorem lf_Model_33 : Cond.fieldLink "TwinJudgeModel" 33 "TwinJudgeModel" "outputs" "[I" ∈ xws := xmem 1162 (by decide +kernel) (by decide +kernel)
theorem lf_Model_36 : Cond.fieldLink "TwinJudgeModel" 36 "TwinJudgeModel" "ands" "[I" ∈ xws := xmem 1163 (by decide +kernel) (by decide +kernel)
theorem lf_Model_39 : Cond.fieldLink "TwinJudgeModel" 39 "TwinJudgeModel" "left" "[I" ∈ xws := xmem 1164 (by decide +kernel) (by decide +kernel)
theorem lf_Model_42 : Cond.fieldLink "TwinJudgeModel" 42 "TwinJudgeModel" "right" "[I" ∈ xws := xmem 1165 (by decide +kernel) (by decide +kernel)
theorem lf_Model_45 : Cond.fieldLink "TwinJudgeModel" 45 "TwinJudgeModel" "kinds" "[I" ∈ xws := xmem 1166 (by decide +kernel) (by decide +kernel)
theorem lf_Model_48 : Cond.fieldLink "TwinJudgeModel" 48 "TwinJudgeModel" "places" "[I" ∈ xws := xmem 1167 (by decide +kernel) (by decide +kernel)
theorem lf_Model_51 : Cond.fieldLink "TwinJudgeModel" 51 "TwinJudgeModel" "nextAt" "[I" ∈ xws := xmem 1168 (by decide +kernel) (by decide +kernel)
theorem lf_Model_54 : Cond.fieldLink "TwinJudgeModel" 54 "TwinJudgeModel" "outputAt" "[I" ∈ xws := xmem 1169 (by decide +kernel) (by decide +kernel)
theorem lf_Model_57 : Cond.fieldLink "TwinJudgeModel" 57 "TwinJudgeModel" "leftAt" "[I" ∈ xws := xmem 1170 (by decide +kernel) (by decide +kernel)
theorem lf_Model_60 : Cond.fieldLink "TwinJudgeModel" 60 "TwinJudgeModel" "rightAt" "[I" ∈ xws := xmem 1171 (by decide +kernel) (by decide +kernel)
theorem lf_Model_63 : Cond.fieldLink "TwinJudgeModel" 63 "TwinJudgeModel" "names" "[B" ∈ xws := xmem 1172 (by decide +kernel) (by decide +kernel)
theorem lf_Model_66 : Cond.fieldLink "TwinJudgeModel" 66 "TwinJudgeModel" "lengths" "[I" ∈ xws := xmem 1173 (by decide +kernel) (by decide +kernel)
theorem lf_Model_69 : Cond.fieldLink "TwinJudgeModel" 69 "TwinJudgeModel" "order" "[I" ∈ xws := xmem 1174 (by decide +kernel) (by decide +kernel)
theorem lf_Model_72 : Cond.fieldLink "TwinJudgeModel" 72 "TwinJudgeModel" "orders" "[I" ∈ xws := xmem 1175 (by decide +kernel) (by decide +kernel)
theorem lf_Model_75 : Cond.fieldLink "TwinJudgeModel" 75 "TwinJudgeModel" "come" "[Z" ∈ xws := xmem 1176 (by decide +kernel) (by decide +kernel)
theorem lf_Model_79 : Cond.fieldLink "TwinJudgeModel" 79 "TwinJudgeModel" "there" "[Z" ∈ xws := xmem 1178 (by decide +kernel) (by decide +kernel)
theorem lf_Model_82 : Cond.fieldLink "TwinJudgeModel" 82 "TwinJudgeModel" "states" "[I" ∈ xws := xmem 1179 (by decide +kernel) (by decide +kernel)
theorem lf_Model_85 : Cond.fieldLink "TwinJudgeModel" 85 "TwinJudgeModel" "values" "[J" ∈ xws := xmem 1180 (by decide +kernel) (by decide +kernel)
theorem lf_Model_89 : Cond.fieldLink "TwinJudgeModel" 89 "TwinJudgeModel" "tells" "[J" ∈ xws := xmem 1182 (by decide +kernel) (by decide +kernel)
theorem co_Model_92 : Cond.constant "TwinJudgeModel" 92 131072 ∈ xws := xmem 1147 (by decide +kernel) (by decide +kernel)
theorem lf_Model_93 : Cond.fieldLink "TwinJudgeModel" 93 "TwinJudgeModel" "leads" "[C" ∈ xws := xmem 1183 (by decide +kernel) (by decide +kernel)
theorem lf_Model_97 : Cond.fieldLink "TwinJudgeModel" 97 "TwinJudgeModel" "queue" "[I" ∈ xws := xmem 1184 (by decide +kernel) (by decide +kernel)
theorem lf_Model_100 : Cond.fieldLink "TwinJudgeModel" 100 "TwinJudgeModel" "depths" "[I" ∈ xws := xmem 1185 (by decide +kernel) (by decide +kernel)
theorem lf_Model_103 : Cond.fieldLink "TwinJudgeModel" 103 "TwinJudgeModel" "good" "[Z" ∈ xws := xmem 1190 (by decide +kernel) (by decide +kernel)
theorem lf_Model_106 : Cond.fieldLink "TwinJudgeModel" 106 "TwinJudgeModel" "some" "[Z" ∈ xws := xmem 1191 (by decide +kernel) (by decide +kernel)
theorem lf_Model_109 : Cond.fieldLink "TwinJudgeModel" 109 "TwinJudgeModel" "more" "[Z" ∈ xws := xmem 1192 (by decide +kernel) (by decide +kernel)
theorem lf_Model_112 : Cond.fieldLink "TwinJudgeModel" 112 "TwinJudgeModel" "witness" "[I" ∈ xws := xmem 1193 (by decide +kernel) (by decide +kernel)
theorem lf_Model_115 : Cond.fieldLink "TwinJudgeModel" 115 "TwinJudgeModel" "alike" "[Z" ∈ xws := xmem 1195 (by decide +kernel) (by decide +kernel)
theorem lf_Model_118 : Cond.fieldLink "TwinJudgeModel" 118 "TwinJudgeModel" "signals" "[I" ∈ xws := xmem 1196 (by decide +kernel) (by decide +kernel)
theorem lf_Model_121 : Cond.fieldLink "TwinJudgeModel" 121 "TwinJudgeModel" "one" "[I" ∈ xws := xmem 1197 (by decide +kernel) (by decide +kernel)
theorem lf_Model_124 : Cond.fieldLink "TwinJudgeModel" 124 "TwinJudgeModel" "other" "[I" ∈ xws := xmem 1198 (by decide +kernel) (by decide +kernel)
theorem ac_char : Cond.arrayClass .char ∈ xws := xmem 1306 (by decide +kernel) (by decide +kernel)
theorem ac_long : Cond.arrayClass .long ∈ xws := xmem 1305 (by decide +kernel) (by decide +kernel)
theorem lf_Model_127 : Cond.fieldLink "TwinJudgeModel" 127 "TwinJudgeModel" "thrown" "I" ∈ xws := xmem 1148 (by decide +kernel) (by decide +kernel)
theorem lf_Model_130 : Cond.fieldLink "TwinJudgeModel" 130 "TwinJudgeModel" "taped" "I" ∈ xws := xmem 1151 (by decide +kernel) (by decide +kernel)
theorem lf_Model_133 : Cond.fieldLink "TwinJudgeModel" 133 "TwinJudgeModel" "at" "I" ∈ xws := xmem 1154 (by decide +kernel) (by decide +kernel)
theorem lf_Model_136 : Cond.fieldLink "TwinJudgeModel" 136 "TwinJudgeModel" "bad" "I" ∈ xws := xmem 1155 (by decide +kernel) (by decide +kernel)
theorem lf_Model_139 : Cond.fieldLink "TwinJudgeModel" 139 "TwinJudgeModel" "badPlace" "I" ∈ xws := xmem 1156 (by decide +kernel) (by decide +kernel)
theorem lm_Model_142 : Cond.methodLink "TwinJudgeModel" 142 ⟨"TwinJudgeModel", "here", "()I"⟩ ∈ xws := xmem 1338 (by decide +kernel) (by decide +kernel)
theorem lm_Model_146 : Cond.methodLink "TwinJudgeModel" 146 ⟨"TwinJudgeModel", "wrong", "(II)V"⟩ ∈ xws := xmem 1342 (by decide +kernel) (by decide +kernel)
theorem lf_Model_150 : Cond.fieldLink "TwinJudgeModel" 150 "TwinJudgeModel" "number" "I" ∈ xws := xmem 1157 (by decide +kernel) (by decide +kernel)
theorem lm_Model_153 : Cond.methodLink "TwinJudgeModel" 153 ⟨"TwinJudgeModel", "isDigit", "()Z"⟩ ∈ xws := xmem 1350 (by decide +kernel) (by decide +kernel)
theorem lm_Model_157 : Cond.methodLink "TwinJudgeModel" 157 ⟨"TwinJudgeModel", "takeNumber", "()V"⟩ ∈ xws := xmem 1346 (by decide +kernel) (by decide +kernel)
theorem lm_Model_163 : Cond.methodLink "TwinJudgeModel" 163 ⟨"TwinJudgeModel", "define", "(III)V"⟩ ∈ xws := xmem 1358 (by decide +kernel) (by decide +kernel)
theorem lm_Model_160 : Cond.methodLink "TwinJudgeModel" 160 ⟨"TwinJudgeModel", "literal", "()I"⟩ ∈ xws := xmem 1366 (by decide +kernel) (by decide +kernel)
theorem lm_Model_167 : Cond.methodLink "TwinJudgeModel" 167 ⟨"TwinJudgeModel", "take", "(I)V"⟩ ∈ xws := xmem 1334 (by decide +kernel) (by decide +kernel)
theorem lm_Model_171 : Cond.methodLink "TwinJudgeModel" 171 ⟨"TwinJudgeModel", "defines", "(II)I"⟩ ∈ xws := xmem 1382 (by decide +kernel) (by decide +kernel)
theorem lm_Model_178 : Cond.methodLink "TwinJudgeModel" 178 ⟨"TwinJudgeModel", "takeOutputs", "()V"⟩ ∈ xws := xmem 1370 (by decide +kernel) (by decide +kernel)
theorem lm_Model_175 : Cond.methodLink "TwinJudgeModel" 175 ⟨"TwinJudgeModel", "takeNext", "(I)V"⟩ ∈ xws := xmem 1362 (by decide +kernel) (by decide +kernel)
theorem lm_Model_181 : Cond.methodLink "TwinJudgeModel" 181 ⟨"TwinJudgeModel", "delta", "(II)I"⟩ ∈ xws := xmem 1374 (by decide +kernel) (by decide +kernel)
theorem lm_Model_184 : Cond.methodLink "TwinJudgeModel" 184 ⟨"TwinJudgeModel", "isNowhere", "(I)Z"⟩ ∈ xws := xmem 1394 (by decide +kernel) (by decide +kernel)
theorem lm_Model_191 : Cond.methodLink "TwinJudgeModel" 191 ⟨"TwinJudgeModel", "hasCome", "(I)Z"⟩ ∈ xws := xmem 1406 (by decide +kernel) (by decide +kernel)
theorem lf_Model_188 : Cond.fieldLink "TwinJudgeModel" 188 "TwinJudgeModel" "ordered" "I" ∈ xws := xmem 1177 (by decide +kernel) (by decide +kernel)
theorem lm_Model_197 : Cond.methodLink "TwinJudgeModel" 197 ⟨"TwinJudgeModel", "hangs", "(I)Z"⟩ ∈ xws := xmem 1410 (by decide +kernel) (by decide +kernel)
theorem lm_Model_194 : Cond.methodLink "TwinJudgeModel" 194 ⟨"TwinJudgeModel", "sort", "()V"⟩ ∈ xws := xmem 1402 (by decide +kernel) (by decide +kernel)
theorem lf_Model_200 : Cond.fieldLink "TwinJudgeModel" 200 "TwinJudgeModel" "known" "Z" ∈ xws := xmem 1181 (by decide +kernel) (by decide +kernel)
theorem lm_Model_231 : Cond.methodLink "TwinJudgeModel" 231 ⟨"TwinJudgeModel", "findRing", "()V"⟩ ∈ xws := xmem 1398 (by decide +kernel) (by decide +kernel)
theorem lm_Model_228 : Cond.methodLink "TwinJudgeModel" 228 ⟨"TwinJudgeModel", "findNowhere", "()V"⟩ ∈ xws := xmem 1390 (by decide +kernel) (by decide +kernel)
theorem lm_Model_225 : Cond.methodLink "TwinJudgeModel" 225 ⟨"TwinJudgeModel", "takeSymbols", "()V"⟩ ∈ xws := xmem 1386 (by decide +kernel) (by decide +kernel)
theorem lm_Model_222 : Cond.methodLink "TwinJudgeModel" 222 ⟨"TwinJudgeModel", "takeText", "()V"⟩ ∈ xws := xmem 1378 (by decide +kernel) (by decide +kernel)
theorem lm_Model_216 : Cond.methodLink "TwinJudgeModel" 216 ⟨"TwinJudgeModel", "takeHead", "()Z"⟩ ∈ xws := xmem 1330 (by decide +kernel) (by decide +kernel)
theorem lm_Model_219 : Cond.methodLink "TwinJudgeModel" 219 ⟨"TwinJudgeModel", "takeBinary", "()V"⟩ ∈ xws := xmem 1354 (by decide +kernel) (by decide +kernel)
theorem lm_Model_213 : Cond.methodLink "TwinJudgeModel" 213 ⟨"TwinJudgeModel", "keep", "(I)V"⟩ ∈ xws := xmem 1414 (by decide +kernel) (by decide +kernel)
theorem lf_Model_210 : Cond.fieldLink "TwinJudgeModel" 210 "TwinJudgeModel" "fault" "I" ∈ xws := xmem 1152 (by decide +kernel) (by decide +kernel)
theorem lm_Model_204 : Cond.methodLink "TwinJudgeModel" 204 ⟨"TwinJudgeModel", "isCircuit", "(I)Z"⟩ ∈ xws := xmem 1323 (by decide +kernel) (by decide +kernel)
theorem lm_Model_207 : Cond.methodLink "TwinJudgeModel" 207 ⟨"TwinJudgeModel", "read", "()V"⟩ ∈ xws := xmem 1326 (by decide +kernel) (by decide +kernel)
theorem lm_Model_234 : Cond.methodLink "TwinJudgeModel" 234 ⟨"TwinJudgeModel", "isThere", "(I)Z"⟩ ∈ xws := xmem 1426 (by decide +kernel) (by decide +kernel)
theorem cl_Model_237 : Cond.constantLong "TwinJudgeModel" 237 (-6148914691236517206) ∈ xws := xmem 1457 (by decide +kernel) (by decide +kernel)
theorem cl_Model_239 : Cond.constantLong "TwinJudgeModel" 239 (-3689348814741910324) ∈ xws := xmem 1458 (by decide +kernel) (by decide +kernel)
theorem cl_Model_241 : Cond.constantLong "TwinJudgeModel" 241 (-1085102592571150096) ∈ xws := xmem 1459 (by decide +kernel) (by decide +kernel)
theorem cl_Model_243 : Cond.constantLong "TwinJudgeModel" 243 (-71777214294589696) ∈ xws := xmem 1460 (by decide +kernel) (by decide +kernel)
theorem cl_Model_245 : Cond.constantLong "TwinJudgeModel" 245 (-281470681808896) ∈ xws := xmem 1461 (by decide +kernel) (by decide +kernel)
theorem cl_Model_247 : Cond.constantLong "TwinJudgeModel" 247 (-1) ∈ xws := xmem 1462 (by decide +kernel) (by decide +kernel)
theorem lm_Model_253 : Cond.methodLink "TwinJudgeModel" 253 ⟨"TwinJudgeModel", "of", "(II)J"⟩ ∈ xws := xmem 1463 (by decide +kernel) (by decide +kernel)
theorem lm_Model_249 : Cond.methodLink "TwinJudgeModel" 249 ⟨"TwinJudgeModel", "vectors", "(I)J"⟩ ∈ xws := xmem 1454 (by decide +kernel) (by decide +kernel)
theorem lm_Model_257 : Cond.methodLink "TwinJudgeModel" 257 ⟨"TwinJudgeModel", "isLiteral", "(II)Z"⟩ ∈ xws := xmem 1446 (by decide +kernel) (by decide +kernel)
theorem lm_Model_261 : Cond.methodLink "TwinJudgeModel" 261 ⟨"TwinJudgeModel", "reckon", "(II)V"⟩ ∈ xws := xmem 1450 (by decide +kernel) (by decide +kernel)
theorem lm_Model_264 : Cond.methodLink "TwinJudgeModel" 264 ⟨"TwinJudgeModel", "next", "(II)I"⟩ ∈ xws := xmem 1471 (by decide +kernel) (by decide +kernel)
theorem lm_Model_267 : Cond.methodLink "TwinJudgeModel" 267 ⟨"TwinJudgeModel", "stateOf", "(II)I"⟩ ∈ xws := xmem 1499 (by decide +kernel) (by decide +kernel)
theorem lf_Model_274 : Cond.fieldLink "TwinJudgeModel" 274 "TwinJudgeModel" "width" "I" ∈ xws := xmem 1187 (by decide +kernel) (by decide +kernel)
theorem lm_Model_270 : Cond.methodLink "TwinJudgeModel" 270 ⟨"TwinJudgeModel", "mask", "()J"⟩ ∈ xws := xmem 1507 (by decide +kernel) (by decide +kernel)
theorem lf_Model_295 : Cond.fieldLink "TwinJudgeModel" 295 "TwinJudgeModel" "blamed" "I" ∈ xws := xmem 1194 (by decide +kernel) (by decide +kernel)
theorem lm_Model_283 : Cond.methodLink "TwinJudgeModel" 283 ⟨"TwinJudgeModel", "tellsBy", "(I)J"⟩ ∈ xws := xmem 1503 (by decide +kernel) (by decide +kernel)
theorem lm_Model_280 : Cond.methodLink "TwinJudgeModel" 280 ⟨"TwinJudgeModel", "reckonBoth", "(I)V"⟩ ∈ xws := xmem 1495 (by decide +kernel) (by decide +kernel)
theorem lf_Model_289 : Cond.fieldLink "TwinJudgeModel" 289 "TwinJudgeModel" "length" "I" ∈ xws := xmem 1189 (by decide +kernel) (by decide +kernel)
theorem lf_Model_277 : Cond.fieldLink "TwinJudgeModel" 277 "TwinJudgeModel" "pairs" "I" ∈ xws := xmem 1188 (by decide +kernel) (by decide +kernel)
theorem lf_Model_286 : Cond.fieldLink "TwinJudgeModel" 286 "TwinJudgeModel" "many" "I" ∈ xws := xmem 1186 (by decide +kernel) (by decide +kernel)
theorem lm_Model_292 : Cond.methodLink "TwinJudgeModel" 292 ⟨"TwinJudgeModel", "find", "()V"⟩ ∈ xws := xmem 1511 (by decide +kernel) (by decide +kernel)
theorem lm_Model_301 : Cond.methodLink "TwinJudgeModel" 301 ⟨"TwinJudgeModel", "fails", "(ZI)Z"⟩ ∈ xws := xmem 1487 (by decide +kernel) (by decide +kernel)
theorem lm_Model_305 : Cond.methodLink "TwinJudgeModel" 305 ⟨"TwinJudgeModel", "look", "()V"⟩ ∈ xws := xmem 1491 (by decide +kernel) (by decide +kernel)
theorem lm_Model_298 : Cond.methodLink "TwinJudgeModel" 298 ⟨"TwinJudgeModel", "matches", "()Z"⟩ ∈ xws := xmem 1483 (by decide +kernel) (by decide +kernel)
theorem lm_Model_308 : Cond.methodLink "TwinJudgeModel" 308 ⟨"TwinJudgeModel", "none", "()Z"⟩ ∈ xws := xmem 1479 (by decide +kernel) (by decide +kernel)
theorem lf_Model_311 : Cond.fieldLink "TwinJudgeModel" 311 "TwinJudgeModel" "gates" "I" ∈ xws := xmem 1199 (by decide +kernel) (by decide +kernel)
theorem lm_Model_314 : Cond.methodLink "TwinJudgeModel" 314 ⟨"TwinJudgeModel", "signal", "(II)I"⟩ ∈ xws := xmem 1555 (by decide +kernel) (by decide +kernel)
theorem lm_Model_317 : Cond.methodLink "TwinJudgeModel" 317 ⟨"TwinJudgeModel", "gate", "(III)I"⟩ ∈ xws := xmem 1559 (by decide +kernel) (by decide +kernel)
theorem in_Judge : Cond.initialized "TwinJudge" ∈ xws := xmem 90 (by decide +kernel) (by decide +kernel)
theorem in_Arrays : Cond.initialized "java/util/Arrays" ∈ xws := xmem 98 (by decide +kernel) (by decide +kernel)
theorem in_Integer : Cond.initialized "java/lang/Integer" ∈ xws := xmem 111 (by decide +kernel) (by decide +kernel)
theorem in_Model : Cond.initialized "TwinJudgeModel" ∈ xws := xmem 96 (by decide +kernel) (by decide +kernel)
def y_Tape_init : MethodName := ⟨"TwinJudge$Tape", "<init>", "()V"⟩
abbrev b_Tape_init : ByteArray := prog_10_method_1_code
set_option maxRecDepth 100000 in
theorem cd_Tape_init : Cond.code y_Tape_init b_Tape_init 1 none ∈ xws := xmem 124 rfl (by decide +kernel)
theorem im_Tape_init : Cond.instanceMethod y_Tape_init ∈ xws := xmem 123 (by decide +kernel) (by decide +kernel)
theorem ds_Tape_init : y_Tape_init.cls ≠ "java/lang/invoke/MethodHandle" ∧ y_Tape_init.cls ≠ "java/lang/invoke/VarHandle" ∧ (parseMethodDescriptor y_Tape_init.desc).map (fun d => d.parameters.length) = some 0 := by decide +kernel
abbrev rm_Tape_init (mc ms : Nat) : Room := { frames := 1, cells := mc, slots := ms, locals := 40 }
def y_Sorter_init : MethodName := ⟨"TwinJudge$Sorter", "<init>", "()V"⟩
abbrev b_Sorter_init : ByteArray := prog_8_method_1_code
set_option maxRecDepth 100000 in
theorem cd_Sorter_init : Cond.code y_Sorter_init b_Sorter_init 1 none ∈ xws := xmem 149 rfl (by decide +kernel)
theorem im_Sorter_init : Cond.instanceMethod y_Sorter_init ∈ xws := xmem 148 (by decide +kernel) (by decide +kernel)
theorem ds_Sorter_init : y_Sorter_init.cls ≠ "java/lang/invoke/MethodHandle" ∧ y_Sorter_init.cls ≠ "java/lang/invoke/VarHandle" ∧ (parseMethodDescriptor y_Sorter_init.desc).map (fun d => d.parameters.length) = some 0 := by decide +kernel
abbrev rm_Sorter_init (mc ms : Nat) : Room := { frames := 1, cells := mc, slots := ms, locals := 40 }
def y_Circuit_init : MethodName := ⟨"TwinJudge$Circuit", "<init>", "()V"⟩
abbrev b_Circuit_init : ByteArray := prog_2_method_1_code
set_option maxRecDepth 100000 in
theorem cd_Circuit_init : Cond.code y_Circuit_init b_Circuit_init 1 none ∈ xws := xmem 174 rfl (by decide +kernel)
theorem im_Circuit_init : Cond.instanceMethod y_Circuit_init ∈ xws := xmem 173 (by decide +kernel) (by decide +kernel)
theorem ds_Circuit_init : y_Circuit_init.cls ≠ "java/lang/invoke/MethodHandle" ∧ y_Circuit_init.cls ≠ "java/lang/invoke/VarHandle" ∧ (parseMethodDescriptor y_Circuit_init.desc).map (fun d => d.parameters.length) = some 0 := by decide +kernel
abbrev rm_Circuit_init (mc ms : Nat) : Room := { frames := 1, cells := mc, slots := ms, locals := 40 }
def y_Reader_init : MethodName := ⟨"TwinJudge$Reader", "<init>", "(LTwinJudge$Tape;)V"⟩
abbrev b_Reader_init : ByteArray := prog_7_method_1_code
set_option maxRecDepth 100000 in
theorem cd_Reader_init : Cond.code y_Reader_init b_Reader_init 2 none ∈ xws := xmem 143 rfl (by decide +kernel)
theorem im_Reader_init : Cond.instanceMethod y_Reader_init ∈ xws := xmem 142 (by decide +kernel) (by decide +kernel)
theorem ds_Reader_init : y_Reader_init.cls ≠ "java/lang/invoke/MethodHandle" ∧ y_Reader_init.cls ≠ "java/lang/invoke/VarHandle" ∧ (parseMethodDescriptor y_Reader_init.desc).map (fun d => d.parameters.length) = some 1 := by decide +kernel
abbrev rm_Reader_init (mc ms : Nat) : Room := { frames := 2, cells := mc, slots := ms, locals := 60 }
def y_Player_init : MethodName := ⟨"TwinJudge$Player", "<init>", "([LTwinJudge$Circuit;)V"⟩
abbrev b_Player_init : ByteArray := prog_6_method_1_code
set_option maxRecDepth 100000 in
theorem cd_Player_init : Cond.code y_Player_init b_Player_init 2 none ∈ xws := xmem 316 rfl (by decide +kernel)
theorem im_Player_init : Cond.instanceMethod y_Player_init ∈ xws := xmem 315 (by decide +kernel) (by decide +kernel)
theorem ds_Player_init : y_Player_init.cls ≠ "java/lang/invoke/MethodHandle" ∧ y_Player_init.cls ≠ "java/lang/invoke/VarHandle" ∧ (parseMethodDescriptor y_Player_init.desc).map (fun d => d.parameters.length) = some 1 := by decide +kernel
abbrev rm_Player_init (mc ms : Nat) : Room := { frames := 1, cells := mc, slots := ms, locals := 40 }
def y_Judge_init : MethodName := ⟨"TwinJudge", "<init>", "()V"⟩
abbrev b_Judge_init : ByteArray := prog_1_method_1_code
set_option maxRecDepth 100000 in
theorem cd_Judge_init : Cond.code y_Judge_init b_Judge_init 2 none ∈ xws := xmem 116 rfl (by decide +kernel)
theorem im_Judge_init : Cond.instanceMethod y_Judge_init ∈ xws := xmem 115 (by decide +kernel) (by decide +kernel)
theorem ds_Judge_init : y_Judge_init.cls ≠ "java/lang/invoke/MethodHandle" ∧ y_Judge_init.cls ≠ "java/lang/invoke/VarHandle" ∧ (parseMethodDescriptor y_Judge_init.desc).map (fun d => d.parameters.length) = some 0 := by decide +kernel
abbrev rm_Judge_init (mc ms : Nat) : Room := { frames := 3, cells := mc, slots := ms, locals := 81 }
def y_Tape_prepare : MethodName := ⟨"TwinJudge$Tape", "prepare", "(II)V"⟩
abbrev b_Tape_prepare : ByteArray := prog_10_method_2_code
set_option maxRecDepth 100000 in
theorem cd_Tape_prepare : Cond.code y_Tape_prepare b_Tape_prepare 4 none ∈ xws := xmem 355 rfl (by decide +kernel)
theorem im_Tape_prepare : Cond.instanceMethod y_Tape_prepare ∈ xws := xmem 353 (by decide +kernel) (by decide +kernel)
theorem sl_Tape_prepare : Cond.selects "TwinJudge$Tape" y_Tape_prepare y_Tape_prepare ∈ xws := xmem 354 (by decide +kernel) (by decide +kernel)
theorem ds_Tape_prepare : y_Tape_prepare.cls ≠ "java/lang/invoke/MethodHandle" ∧ y_Tape_prepare.cls ≠ "java/lang/invoke/VarHandle" ∧ (parseMethodDescriptor y_Tape_prepare.desc).map (fun d => d.parameters.length) = some 2 := by decide +kernel
abbrev rm_Tape_prepare : Room := { frames := 1, cells := 0, slots := 0, locals := 40 }
def y_Judge_feed : MethodName := ⟨"TwinJudge", "feed", "(IIIII)V"⟩
abbrev b_Judge_feed : ByteArray := prog_1_method_2_code
set_option maxRecDepth 100000 in
theorem cd_Judge_feed : Cond.code y_Judge_feed b_Judge_feed 6 none ∈ xws := xmem 351 rfl (by decide +kernel)
theorem im_Judge_feed : Cond.instanceMethod y_Judge_feed ∈ xws := xmem 349 (by decide +kernel) (by decide +kernel)
theorem sl_Judge_feed : Cond.selects "TwinJudge" y_Judge_feed y_Judge_feed ∈ xws := xmem 350 (by decide +kernel) (by decide +kernel)
theorem ds_Judge_feed : y_Judge_feed.cls ≠ "java/lang/invoke/MethodHandle" ∧ y_Judge_feed.cls ≠ "java/lang/invoke/VarHandle" ∧ (parseMethodDescriptor y_Judge_feed.desc).map (fun d => d.parameters.length) = some 5 := by decide +kernel
abbrev rm_Judge_feed : Room := { frames := 2, cells := 0, slots := 0, locals := 63 }
def y_Arrays_fill : MethodName := ⟨"java/util/Arrays", "fill", "([BB)V"⟩
abbrev b_Arrays_fill : ByteArray := prog_24_method_109_code
set_option maxRecDepth 100000 in
theorem cd_Arrays_fill : Cond.code y_Arrays_fill b_Arrays_fill 4 none ∈ xws := xmem 369 rfl (by decide +kernel)
theorem im_Arrays_fill : Cond.static y_Arrays_fill ∈ xws := xmem 368 (by decide +kernel) (by decide +kernel)
theorem ds_Arrays_fill : y_Arrays_fill.cls ≠ "java/lang/invoke/MethodHandle" ∧ y_Arrays_fill.cls ≠ "java/lang/invoke/VarHandle" ∧ (parseMethodDescriptor y_Arrays_fill.desc).map (fun d => d.parameters.length) = some 2 := by decide +kernel
abbrev rm_Arrays_fill : Room := { frames := 1, cells := 0, slots := 0, locals := 40 }
def y_Tape_append : MethodName := ⟨"TwinJudge$Tape", "append", "(I)I"⟩
abbrev b_Tape_append : ByteArray := prog_10_method_3_code
set_option maxRecDepth 100000 in
theorem cd_Tape_append : Cond.code y_Tape_append b_Tape_append 2 (some .int) ∈ xws := xmem 363 rfl (by decide +kernel)
theorem im_Tape_append : Cond.instanceMethod y_Tape_append ∈ xws := xmem 361 (by decide +kernel) (by decide +kernel)
theorem sl_Tape_append : Cond.selects "TwinJudge$Tape" y_Tape_append y_Tape_append ∈ xws := xmem 362 (by decide +kernel) (by decide +kernel)
theorem ds_Tape_append : y_Tape_append.cls ≠ "java/lang/invoke/MethodHandle" ∧ y_Tape_append.cls ≠ "java/lang/invoke/VarHandle" ∧ (parseMethodDescriptor y_Tape_append.desc).map (fun d => d.parameters.length) = some 1 := by decide +kernel
abbrev rm_Tape_append : Room := { frames := 2, cells := 0, slots := 0, locals := 63 }
def y_Judge_end : MethodName := ⟨"TwinJudge", "end", "(I)I"⟩
abbrev b_Judge_end : ByteArray := prog_1_method_3_code
set_option maxRecDepth 100000 in
theorem cd_Judge_end : Cond.code y_Judge_end b_Judge_end 2 (some .int) ∈ xws := xmem 359 rfl (by decide +kernel)
theorem im_Judge_end : Cond.instanceMethod y_Judge_end ∈ xws := xmem 357 (by decide +kernel) (by decide +kernel)
theorem sl_Judge_end : Cond.selects "TwinJudge" y_Judge_end y_Judge_end ∈ xws := xmem 358 (by decide +kernel) (by decide +kernel)
theorem ds_Judge_end : y_Judge_end.cls ≠ "java/lang/invoke/MethodHandle" ∧ y_Judge_end.cls ≠ "java/lang/invoke/VarHandle" ∧ (parseMethodDescriptor y_Judge_end.desc).map (fun d => d.parameters.length) = some 1 := by decide +kernel
abbrev rm_Judge_end : Room := { frames := 3, cells := 0, slots := 0, locals := 84 }
def y_Reader_forgetFault : MethodName := ⟨"TwinJudge$Reader", "forgetFault", "()V"⟩
abbrev b_Reader_forgetFault : ByteArray := prog_7_method_2_code
set_option maxRecDepth 100000 in
theorem cd_Reader_forgetFault : Cond.code y_Reader_forgetFault b_Reader_forgetFault 1 none ∈ xws := xmem 751 rfl (by decide +kernel)
theorem im_Reader_forgetFault : Cond.instanceMethod y_Reader_forgetFault ∈ xws := xmem 749 (by decide +kernel) (by decide +kernel)
theorem sl_Reader_forgetFault : Cond.selects "TwinJudge$Reader" y_Reader_forgetFault y_Reader_forgetFault ∈ xws := xmem 750 (by decide +kernel) (by decide +kernel)
theorem ds_Reader_forgetFault : y_Reader_forgetFault.cls ≠ "java/lang/invoke/MethodHandle" ∧ y_Reader_forgetFault.cls ≠ "java/lang/invoke/VarHandle" ∧ (parseMethodDescriptor y_Reader_forgetFault.desc).map (fun d => d.parameters.length) = some 0 := by decide +kernel
abbrev rm_Reader_forgetFault : Room := { frames := 1, cells := 0, slots := 0, locals := 40 }
def y_Judge_isCircuit : MethodName := ⟨"TwinJudge", "isCircuit", "(I)Z"⟩
abbrev b_Judge_isCircuit : ByteArray := prog_1_method_23_code
set_option maxRecDepth 100000 in
theorem cd_Judge_isCircuit : Cond.code y_Judge_isCircuit b_Judge_isCircuit 1 (some .boolean) ∈ xws := xmem 384 rfl (by decide +kernel)
theorem im_Judge_isCircuit : Cond.static y_Judge_isCircuit ∈ xws := xmem 383 (by decide +kernel) (by decide +kernel)
theorem ds_Judge_isCircuit : y_Judge_isCircuit.cls ≠ "java/lang/invoke/MethodHandle" ∧ y_Judge_isCircuit.cls ≠ "java/lang/invoke/VarHandle" ∧ (parseMethodDescriptor y_Judge_isCircuit.desc).map (fun d => d.parameters.length) = some 1 := by decide +kernel
abbrev rm_Judge_isCircuit : Room := { frames := 1, cells := 0, slots := 0, locals := 40 }
def y_Arrays_fill1 : MethodName := ⟨"java/util/Arrays", "fill", "([II)V"⟩
abbrev b_Arrays_fill1 : ByteArray := prog_24_method_103_code
set_option maxRecDepth 100000 in
theorem cd_Arrays_fill1 : Cond.code y_Arrays_fill1 b_Arrays_fill1 4 none ∈ xws := xmem 414 rfl (by decide +kernel)
theorem im_Arrays_fill1 : Cond.static y_Arrays_fill1 ∈ xws := xmem 413 (by decide +kernel) (by decide +kernel)
theorem ds_Arrays_fill1 : y_Arrays_fill1.cls ≠ "java/lang/invoke/MethodHandle" ∧ y_Arrays_fill1.cls ≠ "java/lang/invoke/VarHandle" ∧ (parseMethodDescriptor y_Arrays_fill1.desc).map (fun d => d.parameters.length) = some 2 := by decide +kernel
abbrev rm_Arrays_fill1 : Room := { frames := 1, cells := 0, slots := 0, locals := 40 }
def y_Circuit_clear : MethodName := ⟨"TwinJudge$Circuit", "clear", "()V"⟩
abbrev b_Circuit_clear : ByteArray := prog_2_method_2_code
set_option maxRecDepth 100000 in
theorem cd_Circuit_clear : Cond.code y_Circuit_clear b_Circuit_clear 1 none ∈ xws := xmem 759 rfl (by decide +kernel)
theorem im_Circuit_clear : Cond.instanceMethod y_Circuit_clear ∈ xws := xmem 757 (by decide +kernel) (by decide +kernel)
theorem sl_Circuit_clear : Cond.selects "TwinJudge$Circuit" y_Circuit_clear y_Circuit_clear ∈ xws := xmem 758 (by decide +kernel) (by decide +kernel)
theorem ds_Circuit_clear : y_Circuit_clear.cls ≠ "java/lang/invoke/MethodHandle" ∧ y_Circuit_clear.cls ≠ "java/lang/invoke/VarHandle" ∧ (parseMethodDescriptor y_Circuit_clear.desc).map (fun d => d.parameters.length) = some 0 := by decide +kernel
abbrev rm_Circuit_clear : Room := { frames := 2, cells := 0, slots := 0, locals := 63 }
def y_Tape_at : MethodName := ⟨"TwinJudge$Tape", "at", "(I)I"⟩
abbrev b_Tape_at : ByteArray := prog_10_method_4_code
set_option maxRecDepth 100000 in
theorem cd_Tape_at : Cond.code y_Tape_at b_Tape_at 2 (some .int) ∈ xws := xmem 773 rfl (by decide +kernel)
theorem im_Tape_at : Cond.instanceMethod y_Tape_at ∈ xws := xmem 771 (by decide +kernel) (by decide +kernel)
theorem sl_Tape_at : Cond.selects "TwinJudge$Tape" y_Tape_at y_Tape_at ∈ xws := xmem 772 (by decide +kernel) (by decide +kernel)
theorem ds_Tape_at : y_Tape_at.cls ≠ "java/lang/invoke/MethodHandle" ∧ y_Tape_at.cls ≠ "java/lang/invoke/VarHandle" ∧ (parseMethodDescriptor y_Tape_at.desc).map (fun d => d.parameters.length) = some 1 := by decide +kernel
abbrev rm_Tape_at : Room := { frames := 1, cells := 0, slots := 0, locals := 40 }
def y_Reader_fail : MethodName := ⟨"TwinJudge$Reader", "fail", "(II)Z"⟩
abbrev b_Reader_fail : ByteArray := prog_7_method_5_code
set_option maxRecDepth 100000 in
theorem cd_Reader_fail : Cond.code y_Reader_fail b_Reader_fail 3 (some .boolean) ∈ xws := xmem 777 rfl (by decide +kernel)
theorem im_Reader_fail : Cond.instanceMethod y_Reader_fail ∈ xws := xmem 776 (by decide +kernel) (by decide +kernel)
theorem sl_Reader_fail : Cond.selects "TwinJudge$Reader" y_Reader_fail y_Reader_fail ∈ xws := xmem 15 (by decide +kernel) (by decide +kernel)
theorem ds_Reader_fail : y_Reader_fail.cls ≠ "java/lang/invoke/MethodHandle" ∧ y_Reader_fail.cls ≠ "java/lang/invoke/VarHandle" ∧ (parseMethodDescriptor y_Reader_fail.desc).map (fun d => d.parameters.length) = some 2 := by decide +kernel
abbrev rm_Reader_fail : Room := { frames := 1, cells := 0, slots := 0, locals := 40 }
def y_Reader_pass : MethodName := ⟨"TwinJudge$Reader", "pass", "(I)Z"⟩
abbrev b_Reader_pass : ByteArray := prog_7_method_6_code
set_option maxRecDepth 100000 in
theorem cd_Reader_pass : Cond.code y_Reader_pass b_Reader_pass 2 (some .boolean) ∈ xws := xmem 769 rfl (by decide +kernel)
theorem im_Reader_pass : Cond.instanceMethod y_Reader_pass ∈ xws := xmem 768 (by decide +kernel) (by decide +kernel)
theorem sl_Reader_pass : Cond.selects "TwinJudge$Reader" y_Reader_pass y_Reader_pass ∈ xws := xmem 14 (by decide +kernel) (by decide +kernel)
theorem ds_Reader_pass : y_Reader_pass.cls ≠ "java/lang/invoke/MethodHandle" ∧ y_Reader_pass.cls ≠ "java/lang/invoke/VarHandle" ∧ (parseMethodDescriptor y_Reader_pass.desc).map (fun d => d.parameters.length) = some 1 := by decide +kernel
abbrev rm_Reader_pass : Room := { frames := 2, cells := 0, slots := 0, locals := 62 }
def y_Reader_isDigit : MethodName := ⟨"TwinJudge$Reader", "isDigit", "(I)Z"⟩
abbrev b_Reader_isDigit : ByteArray := prog_7_method_7_code
set_option maxRecDepth 100000 in
theorem cd_Reader_isDigit : Cond.code y_Reader_isDigit b_Reader_isDigit 1 (some .boolean) ∈ xws := xmem 784 rfl (by decide +kernel)
theorem im_Reader_isDigit : Cond.static y_Reader_isDigit ∈ xws := xmem 783 (by decide +kernel) (by decide +kernel)
theorem ds_Reader_isDigit : y_Reader_isDigit.cls ≠ "java/lang/invoke/MethodHandle" ∧ y_Reader_isDigit.cls ≠ "java/lang/invoke/VarHandle" ∧ (parseMethodDescriptor y_Reader_isDigit.desc).map (fun d => d.parameters.length) = some 1 := by decide +kernel
abbrev rm_Reader_isDigit : Room := { frames := 1, cells := 0, slots := 0, locals := 40 }
def y_Reader_readNumber : MethodName := ⟨"TwinJudge$Reader", "readNumber", "()Z"⟩
abbrev b_Reader_readNumber : ByteArray := prog_7_method_8_code
set_option maxRecDepth 100000 in
theorem cd_Reader_readNumber : Cond.code y_Reader_readNumber b_Reader_readNumber 3 (some .boolean) ∈ xws := xmem 781 rfl (by decide +kernel)
theorem im_Reader_readNumber : Cond.instanceMethod y_Reader_readNumber ∈ xws := xmem 780 (by decide +kernel) (by decide +kernel)
theorem sl_Reader_readNumber : Cond.selects "TwinJudge$Reader" y_Reader_readNumber y_Reader_readNumber ∈ xws := xmem 16 (by decide +kernel) (by decide +kernel)
theorem ds_Reader_readNumber : y_Reader_readNumber.cls ≠ "java/lang/invoke/MethodHandle" ∧ y_Reader_readNumber.cls ≠ "java/lang/invoke/VarHandle" ∧ (parseMethodDescriptor y_Reader_readNumber.desc).map (fun d => d.parameters.length) = some 0 := by decide +kernel
abbrev rm_Reader_readNumber : Room := { frames := 2, cells := 0, slots := 0, locals := 62 }
def y_Reader_readHeader : MethodName := ⟨"TwinJudge$Reader", "readHeader", "()Z"⟩
abbrev b_Reader_readHeader : ByteArray := prog_7_method_10_code
set_option maxRecDepth 100000 in
theorem cd_Reader_readHeader : Cond.code y_Reader_readHeader b_Reader_readHeader 2 (some .boolean) ∈ xws := xmem 765 rfl (by decide +kernel)
theorem im_Reader_readHeader : Cond.instanceMethod y_Reader_readHeader ∈ xws := xmem 764 (by decide +kernel) (by decide +kernel)
theorem sl_Reader_readHeader : Cond.selects "TwinJudge$Reader" y_Reader_readHeader y_Reader_readHeader ∈ xws := xmem 13 (by decide +kernel) (by decide +kernel)
theorem ds_Reader_readHeader : y_Reader_readHeader.cls ≠ "java/lang/invoke/MethodHandle" ∧ y_Reader_readHeader.cls ≠ "java/lang/invoke/VarHandle" ∧ (parseMethodDescriptor y_Reader_readHeader.desc).map (fun d => d.parameters.length) = some 0 := by decide +kernel
abbrev rm_Reader_readHeader : Room := { frames := 3, cells := 0, slots := 0, locals := 84 }
def y_Reader_keepSizes : MethodName := ⟨"TwinJudge$Reader", "keepSizes", "()Z"⟩
abbrev b_Reader_keepSizes : ByteArray := prog_7_method_11_code
set_option maxRecDepth 100000 in
theorem cd_Reader_keepSizes : Cond.code y_Reader_keepSizes b_Reader_keepSizes 3 (some .boolean) ∈ xws := xmem 788 rfl (by decide +kernel)
theorem im_Reader_keepSizes : Cond.instanceMethod y_Reader_keepSizes ∈ xws := xmem 787 (by decide +kernel) (by decide +kernel)
theorem sl_Reader_keepSizes : Cond.selects "TwinJudge$Reader" y_Reader_keepSizes y_Reader_keepSizes ∈ xws := xmem 17 (by decide +kernel) (by decide +kernel)
theorem ds_Reader_keepSizes : y_Reader_keepSizes.cls ≠ "java/lang/invoke/MethodHandle" ∧ y_Reader_keepSizes.cls ≠ "java/lang/invoke/VarHandle" ∧ (parseMethodDescriptor y_Reader_keepSizes.desc).map (fun d => d.parameters.length) = some 0 := by decide +kernel
abbrev rm_Reader_keepSizes : Room := { frames := 2, cells := 0, slots := 0, locals := 62 }
def y_Reader_defineInOrder : MethodName := ⟨"TwinJudge$Reader", "defineInOrder", "()Z"⟩
abbrev b_Reader_defineInOrder : ByteArray := prog_7_method_15_code
set_option maxRecDepth 100000 in
theorem cd_Reader_defineInOrder : Cond.code y_Reader_defineInOrder b_Reader_defineInOrder 4 (some .boolean) ∈ xws := xmem 792 rfl (by decide +kernel)
theorem im_Reader_defineInOrder : Cond.instanceMethod y_Reader_defineInOrder ∈ xws := xmem 791 (by decide +kernel) (by decide +kernel)
theorem sl_Reader_defineInOrder : Cond.selects "TwinJudge$Reader" y_Reader_defineInOrder y_Reader_defineInOrder ∈ xws := xmem 18 (by decide +kernel) (by decide +kernel)
theorem ds_Reader_defineInOrder : y_Reader_defineInOrder.cls ≠ "java/lang/invoke/MethodHandle" ∧ y_Reader_defineInOrder.cls ≠ "java/lang/invoke/VarHandle" ∧ (parseMethodDescriptor y_Reader_defineInOrder.desc).map (fun d => d.parameters.length) = some 0 := by decide +kernel
abbrev rm_Reader_defineInOrder : Room := { frames := 1, cells := 0, slots := 0, locals := 40 }
def y_Reader_isInRange : MethodName := ⟨"TwinJudge$Reader", "isInRange", "()Z"⟩
abbrev b_Reader_isInRange : ByteArray := prog_7_method_12_code
set_option maxRecDepth 100000 in
theorem cd_Reader_isInRange : Cond.code y_Reader_isInRange b_Reader_isInRange 1 (some .boolean) ∈ xws := xmem 804 rfl (by decide +kernel)
theorem im_Reader_isInRange : Cond.instanceMethod y_Reader_isInRange ∈ xws := xmem 803 (by decide +kernel) (by decide +kernel)
theorem sl_Reader_isInRange : Cond.selects "TwinJudge$Reader" y_Reader_isInRange y_Reader_isInRange ∈ xws := xmem 21 (by decide +kernel) (by decide +kernel)
theorem ds_Reader_isInRange : y_Reader_isInRange.cls ≠ "java/lang/invoke/MethodHandle" ∧ y_Reader_isInRange.cls ≠ "java/lang/invoke/VarHandle" ∧ (parseMethodDescriptor y_Reader_isInRange.desc).map (fun d => d.parameters.length) = some 0 := by decide +kernel
abbrev rm_Reader_isInRange : Room := { frames := 2, cells := 0, slots := 0, locals := 62 }
def y_Reader_readDefinition : MethodName := ⟨"TwinJudge$Reader", "readDefinition", "(I)Z"⟩
abbrev b_Reader_readDefinition : ByteArray := prog_7_method_14_code
set_option maxRecDepth 100000 in
theorem cd_Reader_readDefinition : Cond.code y_Reader_readDefinition b_Reader_readDefinition 2 (some .boolean) ∈ xws := xmem 800 rfl (by decide +kernel)
theorem im_Reader_readDefinition : Cond.instanceMethod y_Reader_readDefinition ∈ xws := xmem 799 (by decide +kernel) (by decide +kernel)
theorem sl_Reader_readDefinition : Cond.selects "TwinJudge$Reader" y_Reader_readDefinition y_Reader_readDefinition ∈ xws := xmem 20 (by decide +kernel) (by decide +kernel)
theorem ds_Reader_readDefinition : y_Reader_readDefinition.cls ≠ "java/lang/invoke/MethodHandle" ∧ y_Reader_readDefinition.cls ≠ "java/lang/invoke/VarHandle" ∧ (parseMethodDescriptor y_Reader_readDefinition.desc).map (fun d => d.parameters.length) = some 1 := by decide +kernel
abbrev rm_Reader_readDefinition : Room := { frames := 3, cells := 0, slots := 0, locals := 84 }
def y_Reader_readInputs : MethodName := ⟨"TwinJudge$Reader", "readInputs", "()Z"⟩
abbrev b_Reader_readInputs : ByteArray := prog_7_method_16_code
set_option maxRecDepth 100000 in
theorem cd_Reader_readInputs : Cond.code y_Reader_readInputs b_Reader_readInputs 2 (some .boolean) ∈ xws := xmem 796 rfl (by decide +kernel)
theorem im_Reader_readInputs : Cond.instanceMethod y_Reader_readInputs ∈ xws := xmem 795 (by decide +kernel) (by decide +kernel)
theorem sl_Reader_readInputs : Cond.selects "TwinJudge$Reader" y_Reader_readInputs y_Reader_readInputs ∈ xws := xmem 19 (by decide +kernel) (by decide +kernel)
theorem ds_Reader_readInputs : y_Reader_readInputs.cls ≠ "java/lang/invoke/MethodHandle" ∧ y_Reader_readInputs.cls ≠ "java/lang/invoke/VarHandle" ∧ (parseMethodDescriptor y_Reader_readInputs.desc).map (fun d => d.parameters.length) = some 0 := by decide +kernel
abbrev rm_Reader_readInputs : Room := { frames := 4, cells := 0, slots := 0, locals := 105 }
def y_Reader_readLatchVariable : MethodName := ⟨"TwinJudge$Reader", "readLatchVariable", "(I)Z"⟩
abbrev b_Reader_readLatchVariable : ByteArray := prog_7_method_18_code
set_option maxRecDepth 100000 in
theorem cd_Reader_readLatchVariable : Cond.code y_Reader_readLatchVariable b_Reader_readLatchVariable 2 (some .boolean) ∈ xws := xmem 812 rfl (by decide +kernel)
theorem im_Reader_readLatchVariable : Cond.instanceMethod y_Reader_readLatchVariable ∈ xws := xmem 811 (by decide +kernel) (by decide +kernel)
theorem sl_Reader_readLatchVariable : Cond.selects "TwinJudge$Reader" y_Reader_readLatchVariable y_Reader_readLatchVariable ∈ xws := xmem 23 (by decide +kernel) (by decide +kernel)
theorem ds_Reader_readLatchVariable : y_Reader_readLatchVariable.cls ≠ "java/lang/invoke/MethodHandle" ∧ y_Reader_readLatchVariable.cls ≠ "java/lang/invoke/VarHandle" ∧ (parseMethodDescriptor y_Reader_readLatchVariable.desc).map (fun d => d.parameters.length) = some 1 := by decide +kernel
abbrev rm_Reader_readLatchVariable : Room := { frames := 4, cells := 0, slots := 0, locals := 105 }
def y_Reader_readUse : MethodName := ⟨"TwinJudge$Reader", "readUse", "()Z"⟩
abbrev b_Reader_readUse : ByteArray := prog_7_method_13_code
set_option maxRecDepth 100000 in
theorem cd_Reader_readUse : Cond.code y_Reader_readUse b_Reader_readUse 1 (some .boolean) ∈ xws := xmem 820 rfl (by decide +kernel)
theorem im_Reader_readUse : Cond.instanceMethod y_Reader_readUse ∈ xws := xmem 819 (by decide +kernel) (by decide +kernel)
theorem sl_Reader_readUse : Cond.selects "TwinJudge$Reader" y_Reader_readUse y_Reader_readUse ∈ xws := xmem 25 (by decide +kernel) (by decide +kernel)
theorem ds_Reader_readUse : y_Reader_readUse.cls ≠ "java/lang/invoke/MethodHandle" ∧ y_Reader_readUse.cls ≠ "java/lang/invoke/VarHandle" ∧ (parseMethodDescriptor y_Reader_readUse.desc).map (fun d => d.parameters.length) = some 0 := by decide +kernel
abbrev rm_Reader_readUse : Room := { frames := 3, cells := 0, slots := 0, locals := 84 }
def y_Reader_readNext : MethodName := ⟨"TwinJudge$Reader", "readNext", "(I)Z"⟩
abbrev b_Reader_readNext : ByteArray := prog_7_method_19_code
set_option maxRecDepth 100000 in
theorem cd_Reader_readNext : Cond.code y_Reader_readNext b_Reader_readNext 2 (some .boolean) ∈ xws := xmem 816 rfl (by decide +kernel)
theorem im_Reader_readNext : Cond.instanceMethod y_Reader_readNext ∈ xws := xmem 815 (by decide +kernel) (by decide +kernel)
theorem sl_Reader_readNext : Cond.selects "TwinJudge$Reader" y_Reader_readNext y_Reader_readNext ∈ xws := xmem 24 (by decide +kernel) (by decide +kernel)
theorem ds_Reader_readNext : y_Reader_readNext.cls ≠ "java/lang/invoke/MethodHandle" ∧ y_Reader_readNext.cls ≠ "java/lang/invoke/VarHandle" ∧ (parseMethodDescriptor y_Reader_readNext.desc).map (fun d => d.parameters.length) = some 1 := by decide +kernel
abbrev rm_Reader_readNext : Room := { frames := 4, cells := 0, slots := 0, locals := 104 }
def y_Reader_readLatches : MethodName := ⟨"TwinJudge$Reader", "readLatches", "()Z"⟩
abbrev b_Reader_readLatches : ByteArray := prog_7_method_17_code
set_option maxRecDepth 100000 in
theorem cd_Reader_readLatches : Cond.code y_Reader_readLatches b_Reader_readLatches 2 (some .boolean) ∈ xws := xmem 808 rfl (by decide +kernel)
theorem im_Reader_readLatches : Cond.instanceMethod y_Reader_readLatches ∈ xws := xmem 807 (by decide +kernel) (by decide +kernel)
theorem sl_Reader_readLatches : Cond.selects "TwinJudge$Reader" y_Reader_readLatches y_Reader_readLatches ∈ xws := xmem 22 (by decide +kernel) (by decide +kernel)
theorem ds_Reader_readLatches : y_Reader_readLatches.cls ≠ "java/lang/invoke/MethodHandle" ∧ y_Reader_readLatches.cls ≠ "java/lang/invoke/VarHandle" ∧ (parseMethodDescriptor y_Reader_readLatches.desc).map (fun d => d.parameters.length) = some 0 := by decide +kernel
abbrev rm_Reader_readLatches : Room := { frames := 5, cells := 0, slots := 0, locals := 126 }
def y_Reader_readOutputs : MethodName := ⟨"TwinJudge$Reader", "readOutputs", "()Z"⟩
abbrev b_Reader_readOutputs : ByteArray := prog_7_method_20_code
set_option maxRecDepth 100000 in
theorem cd_Reader_readOutputs : Cond.code y_Reader_readOutputs b_Reader_readOutputs 2 (some .boolean) ∈ xws := xmem 824 rfl (by decide +kernel)
theorem im_Reader_readOutputs : Cond.instanceMethod y_Reader_readOutputs ∈ xws := xmem 823 (by decide +kernel) (by decide +kernel)
theorem sl_Reader_readOutputs : Cond.selects "TwinJudge$Reader" y_Reader_readOutputs y_Reader_readOutputs ∈ xws := xmem 26 (by decide +kernel) (by decide +kernel)
theorem ds_Reader_readOutputs : y_Reader_readOutputs.cls ≠ "java/lang/invoke/MethodHandle" ∧ y_Reader_readOutputs.cls ≠ "java/lang/invoke/VarHandle" ∧ (parseMethodDescriptor y_Reader_readOutputs.desc).map (fun d => d.parameters.length) = some 0 := by decide +kernel
abbrev rm_Reader_readOutputs : Room := { frames := 4, cells := 0, slots := 0, locals := 104 }
def y_Reader_readDelta : MethodName := ⟨"TwinJudge$Reader", "readDelta", "()Z"⟩
abbrev b_Reader_readDelta : ByteArray := prog_7_method_9_code
set_option maxRecDepth 100000 in
theorem cd_Reader_readDelta : Cond.code y_Reader_readDelta b_Reader_readDelta 3 (some .boolean) ∈ xws := xmem 832 rfl (by decide +kernel)
theorem im_Reader_readDelta : Cond.instanceMethod y_Reader_readDelta ∈ xws := xmem 831 (by decide +kernel) (by decide +kernel)
theorem sl_Reader_readDelta : Cond.selects "TwinJudge$Reader" y_Reader_readDelta y_Reader_readDelta ∈ xws := xmem 28 (by decide +kernel) (by decide +kernel)
theorem ds_Reader_readDelta : y_Reader_readDelta.cls ≠ "java/lang/invoke/MethodHandle" ∧ y_Reader_readDelta.cls ≠ "java/lang/invoke/VarHandle" ∧ (parseMethodDescriptor y_Reader_readDelta.desc).map (fun d => d.parameters.length) = some 0 := by decide +kernel
abbrev rm_Reader_readDelta : Room := { frames := 2, cells := 0, slots := 0, locals := 62 }
def y_Reader_readDeltas : MethodName := ⟨"TwinJudge$Reader", "readDeltas", "()Z"⟩
abbrev b_Reader_readDeltas : ByteArray := prog_7_method_22_code
set_option maxRecDepth 100000 in
theorem cd_Reader_readDeltas : Cond.code y_Reader_readDeltas b_Reader_readDeltas 3 (some .boolean) ∈ xws := xmem 828 rfl (by decide +kernel)
theorem im_Reader_readDeltas : Cond.instanceMethod y_Reader_readDeltas ∈ xws := xmem 827 (by decide +kernel) (by decide +kernel)
theorem sl_Reader_readDeltas : Cond.selects "TwinJudge$Reader" y_Reader_readDeltas y_Reader_readDeltas ∈ xws := xmem 27 (by decide +kernel) (by decide +kernel)
theorem ds_Reader_readDeltas : y_Reader_readDeltas.cls ≠ "java/lang/invoke/MethodHandle" ∧ y_Reader_readDeltas.cls ≠ "java/lang/invoke/VarHandle" ∧ (parseMethodDescriptor y_Reader_readDeltas.desc).map (fun d => d.parameters.length) = some 0 := by decide +kernel
abbrev rm_Reader_readDeltas : Room := { frames := 3, cells := 0, slots := 0, locals := 84 }
def y_Reader_readAnds : MethodName := ⟨"TwinJudge$Reader", "readAnds", "()Z"⟩
abbrev b_Reader_readAnds : ByteArray := prog_7_method_21_code
set_option maxRecDepth 100000 in
theorem cd_Reader_readAnds : Cond.code y_Reader_readAnds b_Reader_readAnds 3 (some .boolean) ∈ xws := xmem 836 rfl (by decide +kernel)
theorem im_Reader_readAnds : Cond.instanceMethod y_Reader_readAnds ∈ xws := xmem 835 (by decide +kernel) (by decide +kernel)
theorem sl_Reader_readAnds : Cond.selects "TwinJudge$Reader" y_Reader_readAnds y_Reader_readAnds ∈ xws := xmem 29 (by decide +kernel) (by decide +kernel)
theorem ds_Reader_readAnds : y_Reader_readAnds.cls ≠ "java/lang/invoke/MethodHandle" ∧ y_Reader_readAnds.cls ≠ "java/lang/invoke/VarHandle" ∧ (parseMethodDescriptor y_Reader_readAnds.desc).map (fun d => d.parameters.length) = some 0 := by decide +kernel
abbrev rm_Reader_readAnds : Room := { frames := 4, cells := 0, slots := 0, locals := 105 }
def y_Reader_kindOf : MethodName := ⟨"TwinJudge$Reader", "kindOf", "(I)I"⟩
abbrev b_Reader_kindOf : ByteArray := prog_7_method_24_code
set_option maxRecDepth 100000 in
theorem cd_Reader_kindOf : Cond.code y_Reader_kindOf b_Reader_kindOf 1 (some .int) ∈ xws := xmem 847 rfl (by decide +kernel)
theorem im_Reader_kindOf : Cond.static y_Reader_kindOf ∈ xws := xmem 846 (by decide +kernel) (by decide +kernel)
theorem ds_Reader_kindOf : y_Reader_kindOf.cls ≠ "java/lang/invoke/MethodHandle" ∧ y_Reader_kindOf.cls ≠ "java/lang/invoke/VarHandle" ∧ (parseMethodDescriptor y_Reader_kindOf.desc).map (fun d => d.parameters.length) = some 1 := by decide +kernel
abbrev rm_Reader_kindOf : Room := { frames := 1, cells := 0, slots := 0, locals := 40 }
def y_Circuit_size : MethodName := ⟨"TwinJudge$Circuit", "size", "(I)I"⟩
abbrev b_Circuit_size : ByteArray := prog_2_method_3_code
set_option maxRecDepth 100000 in
theorem cd_Circuit_size : Cond.code y_Circuit_size b_Circuit_size 2 (some .int) ∈ xws := xmem 388 rfl (by decide +kernel)
theorem im_Circuit_size : Cond.instanceMethod y_Circuit_size ∈ xws := xmem 386 (by decide +kernel) (by decide +kernel)
theorem sl_Circuit_size : Cond.selects "TwinJudge$Circuit" y_Circuit_size y_Circuit_size ∈ xws := xmem 387 (by decide +kernel) (by decide +kernel)
theorem ds_Circuit_size : y_Circuit_size.cls ≠ "java/lang/invoke/MethodHandle" ∧ y_Circuit_size.cls ≠ "java/lang/invoke/VarHandle" ∧ (parseMethodDescriptor y_Circuit_size.desc).map (fun d => d.parameters.length) = some 1 := by decide +kernel
abbrev rm_Circuit_size : Room := { frames := 1, cells := 0, slots := 0, locals := 40 }
def y_Circuit_nameSlot : MethodName := ⟨"TwinJudge$Circuit", "nameSlot", "(II)I"⟩
abbrev b_Circuit_nameSlot : ByteArray := prog_2_method_6_code
set_option maxRecDepth 100000 in
theorem cd_Circuit_nameSlot : Cond.code y_Circuit_nameSlot b_Circuit_nameSlot 3 (some .int) ∈ xws := xmem 400 rfl (by decide +kernel)
theorem im_Circuit_nameSlot : Cond.instanceMethod y_Circuit_nameSlot ∈ xws := xmem 398 (by decide +kernel) (by decide +kernel)
theorem sl_Circuit_nameSlot : Cond.selects "TwinJudge$Circuit" y_Circuit_nameSlot y_Circuit_nameSlot ∈ xws := xmem 399 (by decide +kernel) (by decide +kernel)
theorem ds_Circuit_nameSlot : y_Circuit_nameSlot.cls ≠ "java/lang/invoke/MethodHandle" ∧ y_Circuit_nameSlot.cls ≠ "java/lang/invoke/VarHandle" ∧ (parseMethodDescriptor y_Circuit_nameSlot.desc).map (fun d => d.parameters.length) = some 2 := by decide +kernel
abbrev rm_Circuit_nameSlot : Room := { frames := 2, cells := 0, slots := 0, locals := 61 }
def y_Reader_readName : MethodName := ⟨"TwinJudge$Reader", "readName", "(I)Z"⟩
abbrev b_Reader_readName : ByteArray := prog_7_method_26_code
set_option maxRecDepth 100000 in
theorem cd_Reader_readName : Cond.code y_Reader_readName b_Reader_readName 4 (some .boolean) ∈ xws := xmem 852 rfl (by decide +kernel)
theorem im_Reader_readName : Cond.instanceMethod y_Reader_readName ∈ xws := xmem 851 (by decide +kernel) (by decide +kernel)
theorem sl_Reader_readName : Cond.selects "TwinJudge$Reader" y_Reader_readName y_Reader_readName ∈ xws := xmem 32 (by decide +kernel) (by decide +kernel)
theorem ds_Reader_readName : y_Reader_readName.cls ≠ "java/lang/invoke/MethodHandle" ∧ y_Reader_readName.cls ≠ "java/lang/invoke/VarHandle" ∧ (parseMethodDescriptor y_Reader_readName.desc).map (fun d => d.parameters.length) = some 1 := by decide +kernel
abbrev rm_Reader_readName : Room := { frames := 3, cells := 0, slots := 0, locals := 83 }
def y_Reader_readSymbol : MethodName := ⟨"TwinJudge$Reader", "readSymbol", "()Z"⟩
abbrev b_Reader_readSymbol : ByteArray := prog_7_method_25_code
set_option maxRecDepth 100000 in
theorem cd_Reader_readSymbol : Cond.code y_Reader_readSymbol b_Reader_readSymbol 3 (some .boolean) ∈ xws := xmem 844 rfl (by decide +kernel)
theorem im_Reader_readSymbol : Cond.instanceMethod y_Reader_readSymbol ∈ xws := xmem 843 (by decide +kernel) (by decide +kernel)
theorem sl_Reader_readSymbol : Cond.selects "TwinJudge$Reader" y_Reader_readSymbol y_Reader_readSymbol ∈ xws := xmem 31 (by decide +kernel) (by decide +kernel)
theorem ds_Reader_readSymbol : y_Reader_readSymbol.cls ≠ "java/lang/invoke/MethodHandle" ∧ y_Reader_readSymbol.cls ≠ "java/lang/invoke/VarHandle" ∧ (parseMethodDescriptor y_Reader_readSymbol.desc).map (fun d => d.parameters.length) = some 0 := by decide +kernel
abbrev rm_Reader_readSymbol : Room := { frames := 4, cells := 0, slots := 0, locals := 106 }
def y_Reader_readSymbols : MethodName := ⟨"TwinJudge$Reader", "readSymbols", "()Z"⟩
abbrev b_Reader_readSymbols : ByteArray := prog_7_method_23_code
set_option maxRecDepth 100000 in
theorem cd_Reader_readSymbols : Cond.code y_Reader_readSymbols b_Reader_readSymbols 2 (some .boolean) ∈ xws := xmem 840 rfl (by decide +kernel)
theorem im_Reader_readSymbols : Cond.instanceMethod y_Reader_readSymbols ∈ xws := xmem 839 (by decide +kernel) (by decide +kernel)
theorem sl_Reader_readSymbols : Cond.selects "TwinJudge$Reader" y_Reader_readSymbols y_Reader_readSymbols ∈ xws := xmem 30 (by decide +kernel) (by decide +kernel)
theorem ds_Reader_readSymbols : y_Reader_readSymbols.cls ≠ "java/lang/invoke/MethodHandle" ∧ y_Reader_readSymbols.cls ≠ "java/lang/invoke/VarHandle" ∧ (parseMethodDescriptor y_Reader_readSymbols.desc).map (fun d => d.parameters.length) = some 0 := by decide +kernel
abbrev rm_Reader_readSymbols : Room := { frames := 5, cells := 0, slots := 0, locals := 128 }
def y_Circuit_isDefined : MethodName := ⟨"TwinJudge$Circuit", "isDefined", "(I)Z"⟩
abbrev b_Circuit_isDefined : ByteArray := prog_2_method_4_code
set_option maxRecDepth 100000 in
theorem cd_Circuit_isDefined : Cond.code y_Circuit_isDefined b_Circuit_isDefined 2 (some .boolean) ∈ xws := xmem 430 rfl (by decide +kernel)
theorem im_Circuit_isDefined : Cond.instanceMethod y_Circuit_isDefined ∈ xws := xmem 428 (by decide +kernel) (by decide +kernel)
theorem sl_Circuit_isDefined : Cond.selects "TwinJudge$Circuit" y_Circuit_isDefined y_Circuit_isDefined ∈ xws := xmem 429 (by decide +kernel) (by decide +kernel)
theorem ds_Circuit_isDefined : y_Circuit_isDefined.cls ≠ "java/lang/invoke/MethodHandle" ∧ y_Circuit_isDefined.cls ≠ "java/lang/invoke/VarHandle" ∧ (parseMethodDescriptor y_Circuit_isDefined.desc).map (fun d => d.parameters.length) = some 1 := by decide +kernel
abbrev rm_Circuit_isDefined : Room := { frames := 1, cells := 0, slots := 0, locals := 40 }
def y_Reader_findUndefined : MethodName := ⟨"TwinJudge$Reader", "findUndefined", "()Z"⟩
abbrev b_Reader_findUndefined : ByteArray := prog_7_method_27_code
set_option maxRecDepth 100000 in
theorem cd_Reader_findUndefined : Cond.code y_Reader_findUndefined b_Reader_findUndefined 2 (some .boolean) ∈ xws := xmem 856 rfl (by decide +kernel)
theorem im_Reader_findUndefined : Cond.instanceMethod y_Reader_findUndefined ∈ xws := xmem 855 (by decide +kernel) (by decide +kernel)
theorem sl_Reader_findUndefined : Cond.selects "TwinJudge$Reader" y_Reader_findUndefined y_Reader_findUndefined ∈ xws := xmem 33 (by decide +kernel) (by decide +kernel)
theorem ds_Reader_findUndefined : y_Reader_findUndefined.cls ≠ "java/lang/invoke/MethodHandle" ∧ y_Reader_findUndefined.cls ≠ "java/lang/invoke/VarHandle" ∧ (parseMethodDescriptor y_Reader_findUndefined.desc).map (fun d => d.parameters.length) = some 0 := by decide +kernel
abbrev rm_Reader_findUndefined : Room := { frames := 2, cells := 0, slots := 0, locals := 62 }
def y_Sorter_firstReady : MethodName := ⟨"TwinJudge$Sorter", "firstReady", "(LTwinJudge$Circuit;)I"⟩
abbrev b_Sorter_firstReady : ByteArray := prog_8_method_3_code
set_option maxRecDepth 100000 in
theorem cd_Sorter_firstReady : Cond.code y_Sorter_firstReady b_Sorter_firstReady 4 (some .int) ∈ xws := xmem 869 rfl (by decide +kernel)
theorem im_Sorter_firstReady : Cond.instanceMethod y_Sorter_firstReady ∈ xws := xmem 868 (by decide +kernel) (by decide +kernel)
theorem sl_Sorter_firstReady : Cond.selects "TwinJudge$Sorter" y_Sorter_firstReady y_Sorter_firstReady ∈ xws := xmem 35 (by decide +kernel) (by decide +kernel)
theorem ds_Sorter_firstReady : y_Sorter_firstReady.cls ≠ "java/lang/invoke/MethodHandle" ∧ y_Sorter_firstReady.cls ≠ "java/lang/invoke/VarHandle" ∧ (parseMethodDescriptor y_Sorter_firstReady.desc).map (fun d => d.parameters.length) = some 1 := by decide +kernel
abbrev rm_Sorter_firstReady : Room := { frames := 1, cells := 0, slots := 0, locals := 40 }
def y_Sorter_sort : MethodName := ⟨"TwinJudge$Sorter", "sort", "(LTwinJudge$Circuit;)Z"⟩
abbrev b_Sorter_sort : ByteArray := prog_8_method_2_code
set_option maxRecDepth 100000 in
theorem cd_Sorter_sort : Cond.code y_Sorter_sort b_Sorter_sort 4 (some .boolean) ∈ xws := xmem 865 rfl (by decide +kernel)
theorem im_Sorter_sort : Cond.instanceMethod y_Sorter_sort ∈ xws := xmem 863 (by decide +kernel) (by decide +kernel)
theorem sl_Sorter_sort : Cond.selects "TwinJudge$Sorter" y_Sorter_sort y_Sorter_sort ∈ xws := xmem 864 (by decide +kernel) (by decide +kernel)
theorem ds_Sorter_sort : y_Sorter_sort.cls ≠ "java/lang/invoke/MethodHandle" ∧ y_Sorter_sort.cls ≠ "java/lang/invoke/VarHandle" ∧ (parseMethodDescriptor y_Sorter_sort.desc).map (fun d => d.parameters.length) = some 1 := by decide +kernel
abbrev rm_Sorter_sort : Room := { frames := 2, cells := 0, slots := 0, locals := 63 }
def y_Sorter_reach : MethodName := ⟨"TwinJudge$Sorter", "reach", "(I)V"⟩
abbrev b_Sorter_reach : ByteArray := prog_8_method_7_code
set_option maxRecDepth 100000 in
theorem cd_Sorter_reach : Cond.code y_Sorter_reach b_Sorter_reach 2 none ∈ xws := xmem 885 rfl (by decide +kernel)
theorem im_Sorter_reach : Cond.instanceMethod y_Sorter_reach ∈ xws := xmem 884 (by decide +kernel) (by decide +kernel)
theorem sl_Sorter_reach : Cond.selects "TwinJudge$Sorter" y_Sorter_reach y_Sorter_reach ∈ xws := xmem 38 (by decide +kernel) (by decide +kernel)
theorem ds_Sorter_reach : y_Sorter_reach.cls ≠ "java/lang/invoke/MethodHandle" ∧ y_Sorter_reach.cls ≠ "java/lang/invoke/VarHandle" ∧ (parseMethodDescriptor y_Sorter_reach.desc).map (fun d => d.parameters.length) = some 1 := by decide +kernel
abbrev rm_Sorter_reach : Room := { frames := 1, cells := 0, slots := 0, locals := 40 }
def y_Sorter_reachOperands : MethodName := ⟨"TwinJudge$Sorter", "reachOperands", "(LTwinJudge$Circuit;I)V"⟩
abbrev b_Sorter_reachOperands : ByteArray := prog_8_method_6_code
set_option maxRecDepth 100000 in
theorem cd_Sorter_reachOperands : Cond.code y_Sorter_reachOperands b_Sorter_reachOperands 3 none ∈ xws := xmem 881 rfl (by decide +kernel)
theorem im_Sorter_reachOperands : Cond.instanceMethod y_Sorter_reachOperands ∈ xws := xmem 880 (by decide +kernel) (by decide +kernel)
theorem sl_Sorter_reachOperands : Cond.selects "TwinJudge$Sorter" y_Sorter_reachOperands y_Sorter_reachOperands ∈ xws := xmem 37 (by decide +kernel) (by decide +kernel)
theorem ds_Sorter_reachOperands : y_Sorter_reachOperands.cls ≠ "java/lang/invoke/MethodHandle" ∧ y_Sorter_reachOperands.cls ≠ "java/lang/invoke/VarHandle" ∧ (parseMethodDescriptor y_Sorter_reachOperands.desc).map (fun d => d.parameters.length) = some 2 := by decide +kernel
abbrev rm_Sorter_reachOperands : Room := { frames := 2, cells := 0, slots := 0, locals := 61 }
def y_Sorter_comesBack : MethodName := ⟨"TwinJudge$Sorter", "comesBack", "(LTwinJudge$Circuit;I)Z"⟩
abbrev b_Sorter_comesBack : ByteArray := prog_8_method_5_code
set_option maxRecDepth 100000 in
theorem cd_Sorter_comesBack : Cond.code y_Sorter_comesBack b_Sorter_comesBack 4 (some .boolean) ∈ xws := xmem 877 rfl (by decide +kernel)
theorem im_Sorter_comesBack : Cond.instanceMethod y_Sorter_comesBack ∈ xws := xmem 876 (by decide +kernel) (by decide +kernel)
theorem sl_Sorter_comesBack : Cond.selects "TwinJudge$Sorter" y_Sorter_comesBack y_Sorter_comesBack ∈ xws := xmem 36 (by decide +kernel) (by decide +kernel)
theorem ds_Sorter_comesBack : y_Sorter_comesBack.cls ≠ "java/lang/invoke/MethodHandle" ∧ y_Sorter_comesBack.cls ≠ "java/lang/invoke/VarHandle" ∧ (parseMethodDescriptor y_Sorter_comesBack.desc).map (fun d => d.parameters.length) = some 2 := by decide +kernel
abbrev rm_Sorter_comesBack : Room := { frames := 3, cells := 0, slots := 0, locals := 83 }
def y_Sorter_lowestInLoop : MethodName := ⟨"TwinJudge$Sorter", "lowestInLoop", "(LTwinJudge$Circuit;)I"⟩
abbrev b_Sorter_lowestInLoop : ByteArray := prog_8_method_4_code
set_option maxRecDepth 100000 in
theorem cd_Sorter_lowestInLoop : Cond.code y_Sorter_lowestInLoop b_Sorter_lowestInLoop 3 (some .int) ∈ xws := xmem 873 rfl (by decide +kernel)
theorem im_Sorter_lowestInLoop : Cond.instanceMethod y_Sorter_lowestInLoop ∈ xws := xmem 871 (by decide +kernel) (by decide +kernel)
theorem sl_Sorter_lowestInLoop : Cond.selects "TwinJudge$Sorter" y_Sorter_lowestInLoop y_Sorter_lowestInLoop ∈ xws := xmem 872 (by decide +kernel) (by decide +kernel)
theorem ds_Sorter_lowestInLoop : y_Sorter_lowestInLoop.cls ≠ "java/lang/invoke/MethodHandle" ∧ y_Sorter_lowestInLoop.cls ≠ "java/lang/invoke/VarHandle" ∧ (parseMethodDescriptor y_Sorter_lowestInLoop.desc).map (fun d => d.parameters.length) = some 1 := by decide +kernel
abbrev rm_Sorter_lowestInLoop : Room := { frames := 4, cells := 0, slots := 0, locals := 106 }
def y_Reader_sortAnds : MethodName := ⟨"TwinJudge$Reader", "sortAnds", "()Z"⟩
abbrev b_Reader_sortAnds : ByteArray := prog_7_method_28_code
set_option maxRecDepth 100000 in
theorem cd_Reader_sortAnds : Cond.code y_Reader_sortAnds b_Reader_sortAnds 1 (some .boolean) ∈ xws := xmem 861 rfl (by decide +kernel)
theorem im_Reader_sortAnds : Cond.instanceMethod y_Reader_sortAnds ∈ xws := xmem 860 (by decide +kernel) (by decide +kernel)
theorem sl_Reader_sortAnds : Cond.selects "TwinJudge$Reader" y_Reader_sortAnds y_Reader_sortAnds ∈ xws := xmem 34 (by decide +kernel) (by decide +kernel)
theorem ds_Reader_sortAnds : y_Reader_sortAnds.cls ≠ "java/lang/invoke/MethodHandle" ∧ y_Reader_sortAnds.cls ≠ "java/lang/invoke/VarHandle" ∧ (parseMethodDescriptor y_Reader_sortAnds.desc).map (fun d => d.parameters.length) = some 0 := by decide +kernel
abbrev rm_Reader_sortAnds : Room := { frames := 5, cells := 0, slots := 0, locals := 128 }
def y_Reader_readFile : MethodName := ⟨"TwinJudge$Reader", "readFile", "()Z"⟩
abbrev b_Reader_readFile : ByteArray := prog_7_method_4_code
set_option maxRecDepth 100000 in
theorem cd_Reader_readFile : Cond.code y_Reader_readFile b_Reader_readFile 2 (some .boolean) ∈ xws := xmem 755 rfl (by decide +kernel)
theorem im_Reader_readFile : Cond.instanceMethod y_Reader_readFile ∈ xws := xmem 753 (by decide +kernel) (by decide +kernel)
theorem sl_Reader_readFile : Cond.selects "TwinJudge$Reader" y_Reader_readFile y_Reader_readFile ∈ xws := xmem 754 (by decide +kernel) (by decide +kernel)
theorem ds_Reader_readFile : y_Reader_readFile.cls ≠ "java/lang/invoke/MethodHandle" ∧ y_Reader_readFile.cls ≠ "java/lang/invoke/VarHandle" ∧ (parseMethodDescriptor y_Reader_readFile.desc).map (fun d => d.parameters.length) = some 0 := by decide +kernel
abbrev rm_Reader_readFile : Room := { frames := 6, cells := 0, slots := 0, locals := 149 }
def y_Reader_exchange : MethodName := ⟨"TwinJudge$Reader", "exchange", "(LTwinJudge$Circuit;)LTwinJudge$Circuit;"⟩
abbrev b_Reader_exchange : ByteArray := prog_7_method_3_code
set_option maxRecDepth 100000 in
theorem cd_Reader_exchange : Cond.code y_Reader_exchange b_Reader_exchange 3 (some (.object "TwinJudge$Circuit")) ∈ xws := xmem 955 rfl (by decide +kernel)
theorem im_Reader_exchange : Cond.instanceMethod y_Reader_exchange ∈ xws := xmem 953 (by decide +kernel) (by decide +kernel)
theorem sl_Reader_exchange : Cond.selects "TwinJudge$Reader" y_Reader_exchange y_Reader_exchange ∈ xws := xmem 954 (by decide +kernel) (by decide +kernel)
theorem ds_Reader_exchange : y_Reader_exchange.cls ≠ "java/lang/invoke/MethodHandle" ∧ y_Reader_exchange.cls ≠ "java/lang/invoke/VarHandle" ∧ (parseMethodDescriptor y_Reader_exchange.desc).map (fun d => d.parameters.length) = some 1 := by decide +kernel
abbrev rm_Reader_exchange : Room := { frames := 1, cells := 0, slots := 0, locals := 40 }
def y_Player_rest : MethodName := ⟨"TwinJudge$Player", "rest", "()V"⟩
abbrev b_Player_rest : ByteArray := prog_6_method_2_code
set_option maxRecDepth 100000 in
theorem cd_Player_rest : Cond.code y_Player_rest b_Player_rest 1 none ∈ xws := xmem 411 rfl (by decide +kernel)
theorem im_Player_rest : Cond.instanceMethod y_Player_rest ∈ xws := xmem 409 (by decide +kernel) (by decide +kernel)
theorem sl_Player_rest : Cond.selects "TwinJudge$Player" y_Player_rest y_Player_rest ∈ xws := xmem 410 (by decide +kernel) (by decide +kernel)
theorem ds_Player_rest : y_Player_rest.cls ≠ "java/lang/invoke/MethodHandle" ∧ y_Player_rest.cls ≠ "java/lang/invoke/VarHandle" ∧ (parseMethodDescriptor y_Player_rest.desc).map (fun d => d.parameters.length) = some 0 := by decide +kernel
abbrev rm_Player_rest : Room := { frames := 2, cells := 0, slots := 0, locals := 63 }
def y_Works_forget : MethodName := ⟨"TwinJudge$Works", "forget", "()V"⟩
abbrev b_Works_forget : ByteArray := prog_12_method_2_code
set_option maxRecDepth 100000 in
theorem cd_Works_forget : Cond.code y_Works_forget b_Works_forget 1 none ∈ xws := xmem 959 rfl (by decide +kernel)
theorem im_Works_forget : Cond.instanceMethod y_Works_forget ∈ xws := xmem 957 (by decide +kernel) (by decide +kernel)
theorem sl_Works_forget : Cond.selects "TwinJudge$Works" y_Works_forget y_Works_forget ∈ xws := xmem 958 (by decide +kernel) (by decide +kernel)
theorem ds_Works_forget : y_Works_forget.cls ≠ "java/lang/invoke/MethodHandle" ∧ y_Works_forget.cls ≠ "java/lang/invoke/VarHandle" ∧ (parseMethodDescriptor y_Works_forget.desc).map (fun d => d.parameters.length) = some 0 := by decide +kernel
abbrev rm_Works_forget : Room := { frames := 1, cells := 0, slots := 0, locals := 40 }
def y_Judge_load : MethodName := ⟨"TwinJudge", "load", "(I)I"⟩
abbrev b_Judge_load : ByteArray := prog_1_method_4_code
set_option maxRecDepth 100000 in
theorem cd_Judge_load : Cond.code y_Judge_load b_Judge_load 3 (some .int) ∈ xws := xmem 747 rfl (by decide +kernel)
theorem im_Judge_load : Cond.instanceMethod y_Judge_load ∈ xws := xmem 745 (by decide +kernel) (by decide +kernel)
theorem sl_Judge_load : Cond.selects "TwinJudge" y_Judge_load y_Judge_load ∈ xws := xmem 746 (by decide +kernel) (by decide +kernel)
theorem ds_Judge_load : y_Judge_load.cls ≠ "java/lang/invoke/MethodHandle" ∧ y_Judge_load.cls ≠ "java/lang/invoke/VarHandle" ∧ (parseMethodDescriptor y_Judge_load.desc).map (fun d => d.parameters.length) = some 1 := by decide +kernel
abbrev rm_Judge_load : Room := { frames := 7, cells := 0, slots := 0, locals := 170 }
def y_Judge_fault : MethodName := ⟨"TwinJudge", "fault", "(I)I"⟩
abbrev b_Judge_fault : ByteArray := prog_1_method_5_code
set_option maxRecDepth 100000 in
theorem cd_Judge_fault : Cond.code y_Judge_fault b_Judge_fault 2 (some .int) ∈ xws := xmem 373 rfl (by decide +kernel)
theorem im_Judge_fault : Cond.instanceMethod y_Judge_fault ∈ xws := xmem 371 (by decide +kernel) (by decide +kernel)
theorem sl_Judge_fault : Cond.selects "TwinJudge" y_Judge_fault y_Judge_fault ∈ xws := xmem 372 (by decide +kernel) (by decide +kernel)
theorem ds_Judge_fault : y_Judge_fault.cls ≠ "java/lang/invoke/MethodHandle" ∧ y_Judge_fault.cls ≠ "java/lang/invoke/VarHandle" ∧ (parseMethodDescriptor y_Judge_fault.desc).map (fun d => d.parameters.length) = some 1 := by decide +kernel
abbrev rm_Judge_fault : Room := { frames := 1, cells := 0, slots := 0, locals := 40 }
def y_Judge_isThere : MethodName := ⟨"TwinJudge", "isThere", "(I)Z"⟩
abbrev b_Judge_isThere : ByteArray := prog_1_method_24_code
set_option maxRecDepth 100000 in
theorem cd_Judge_isThere : Cond.code y_Judge_isThere b_Judge_isThere 2 (some .boolean) ∈ xws := xmem 381 rfl (by decide +kernel)
theorem im_Judge_isThere : Cond.instanceMethod y_Judge_isThere ∈ xws := xmem 380 (by decide +kernel) (by decide +kernel)
theorem sl_Judge_isThere : Cond.selects "TwinJudge" y_Judge_isThere y_Judge_isThere ∈ xws := xmem 0 (by decide +kernel) (by decide +kernel)
theorem ds_Judge_isThere : y_Judge_isThere.cls ≠ "java/lang/invoke/MethodHandle" ∧ y_Judge_isThere.cls ≠ "java/lang/invoke/VarHandle" ∧ (parseMethodDescriptor y_Judge_isThere.desc).map (fun d => d.parameters.length) = some 1 := by decide +kernel
abbrev rm_Judge_isThere : Room := { frames := 2, cells := 0, slots := 0, locals := 60 }
def y_Judge_many : MethodName := ⟨"TwinJudge", "many", "(II)I"⟩
abbrev b_Judge_many : ByteArray := prog_1_method_6_code
set_option maxRecDepth 100000 in
theorem cd_Judge_many : Cond.code y_Judge_many b_Judge_many 3 (some .int) ∈ xws := xmem 377 rfl (by decide +kernel)
theorem im_Judge_many : Cond.instanceMethod y_Judge_many ∈ xws := xmem 375 (by decide +kernel) (by decide +kernel)
theorem sl_Judge_many : Cond.selects "TwinJudge" y_Judge_many y_Judge_many ∈ xws := xmem 376 (by decide +kernel) (by decide +kernel)
theorem ds_Judge_many : y_Judge_many.cls ≠ "java/lang/invoke/MethodHandle" ∧ y_Judge_many.cls ≠ "java/lang/invoke/VarHandle" ∧ (parseMethodDescriptor y_Judge_many.desc).map (fun d => d.parameters.length) = some 2 := by decide +kernel
abbrev rm_Judge_many : Room := { frames := 3, cells := 0, slots := 0, locals := 81 }
def y_Circuit_nameByte : MethodName := ⟨"TwinJudge$Circuit", "nameByte", "(III)I"⟩
abbrev b_Circuit_nameByte : ByteArray := prog_2_method_7_code
set_option maxRecDepth 100000 in
theorem cd_Circuit_nameByte : Cond.code y_Circuit_nameByte b_Circuit_nameByte 5 (some .int) ∈ xws := xmem 396 rfl (by decide +kernel)
theorem im_Circuit_nameByte : Cond.instanceMethod y_Circuit_nameByte ∈ xws := xmem 394 (by decide +kernel) (by decide +kernel)
theorem sl_Circuit_nameByte : Cond.selects "TwinJudge$Circuit" y_Circuit_nameByte y_Circuit_nameByte ∈ xws := xmem 395 (by decide +kernel) (by decide +kernel)
theorem ds_Circuit_nameByte : y_Circuit_nameByte.cls ≠ "java/lang/invoke/MethodHandle" ∧ y_Circuit_nameByte.cls ≠ "java/lang/invoke/VarHandle" ∧ (parseMethodDescriptor y_Circuit_nameByte.desc).map (fun d => d.parameters.length) = some 3 := by decide +kernel
abbrev rm_Circuit_nameByte : Room := { frames := 3, cells := 0, slots := 0, locals := 83 }
def y_Judge_symbol : MethodName := ⟨"TwinJudge", "symbol", "(IIII)I"⟩
abbrev b_Judge_symbol : ByteArray := prog_1_method_7_code
set_option maxRecDepth 100000 in
theorem cd_Judge_symbol : Cond.code y_Judge_symbol b_Judge_symbol 5 (some .int) ∈ xws := xmem 392 rfl (by decide +kernel)
theorem im_Judge_symbol : Cond.instanceMethod y_Judge_symbol ∈ xws := xmem 390 (by decide +kernel) (by decide +kernel)
theorem sl_Judge_symbol : Cond.selects "TwinJudge" y_Judge_symbol y_Judge_symbol ∈ xws := xmem 391 (by decide +kernel) (by decide +kernel)
theorem ds_Judge_symbol : y_Judge_symbol.cls ≠ "java/lang/invoke/MethodHandle" ∧ y_Judge_symbol.cls ≠ "java/lang/invoke/VarHandle" ∧ (parseMethodDescriptor y_Judge_symbol.desc).map (fun d => d.parameters.length) = some 4 := by decide +kernel
abbrev rm_Judge_symbol : Room := { frames := 4, cells := 0, slots := 0, locals := 107 }
def y_Judge_reset : MethodName := ⟨"TwinJudge", "reset", "()V"⟩
abbrev b_Judge_reset : ByteArray := prog_1_method_8_code
set_option maxRecDepth 100000 in
theorem cd_Judge_reset : Cond.code y_Judge_reset b_Judge_reset 1 none ∈ xws := xmem 407 rfl (by decide +kernel)
theorem im_Judge_reset : Cond.instanceMethod y_Judge_reset ∈ xws := xmem 405 (by decide +kernel) (by decide +kernel)
theorem sl_Judge_reset : Cond.selects "TwinJudge" y_Judge_reset y_Judge_reset ∈ xws := xmem 406 (by decide +kernel) (by decide +kernel)
theorem ds_Judge_reset : y_Judge_reset.cls ≠ "java/lang/invoke/MethodHandle" ∧ y_Judge_reset.cls ≠ "java/lang/invoke/VarHandle" ∧ (parseMethodDescriptor y_Judge_reset.desc).map (fun d => d.parameters.length) = some 0 := by decide +kernel
abbrev rm_Judge_reset : Room := { frames := 3, cells := 0, slots := 0, locals := 83 }
def y_Judge_state : MethodName := ⟨"TwinJudge", "state", "(I)I"⟩
abbrev b_Judge_state : ByteArray := prog_1_method_9_code
set_option maxRecDepth 100000 in
theorem cd_Judge_state : Cond.code y_Judge_state b_Judge_state 2 (some .int) ∈ xws := xmem 418 rfl (by decide +kernel)
theorem im_Judge_state : Cond.instanceMethod y_Judge_state ∈ xws := xmem 416 (by decide +kernel) (by decide +kernel)
theorem sl_Judge_state : Cond.selects "TwinJudge" y_Judge_state y_Judge_state ∈ xws := xmem 417 (by decide +kernel) (by decide +kernel)
theorem ds_Judge_state : y_Judge_state.cls ≠ "java/lang/invoke/MethodHandle" ∧ y_Judge_state.cls ≠ "java/lang/invoke/VarHandle" ∧ (parseMethodDescriptor y_Judge_state.desc).map (fun d => d.parameters.length) = some 1 := by decide +kernel
abbrev rm_Judge_state : Room := { frames := 3, cells := 0, slots := 0, locals := 81 }
def y_Judge_isLiteral : MethodName := ⟨"TwinJudge", "isLiteral", "(II)Z"⟩
abbrev b_Judge_isLiteral : ByteArray := prog_1_method_25_code
set_option maxRecDepth 100000 in
theorem cd_Judge_isLiteral : Cond.code y_Judge_isLiteral b_Judge_isLiteral 3 (some .boolean) ∈ xws := xmem 426 rfl (by decide +kernel)
theorem im_Judge_isLiteral : Cond.instanceMethod y_Judge_isLiteral ∈ xws := xmem 425 (by decide +kernel) (by decide +kernel)
theorem sl_Judge_isLiteral : Cond.selects "TwinJudge" y_Judge_isLiteral y_Judge_isLiteral ∈ xws := xmem 1 (by decide +kernel) (by decide +kernel)
theorem ds_Judge_isLiteral : y_Judge_isLiteral.cls ≠ "java/lang/invoke/MethodHandle" ∧ y_Judge_isLiteral.cls ≠ "java/lang/invoke/VarHandle" ∧ (parseMethodDescriptor y_Judge_isLiteral.desc).map (fun d => d.parameters.length) = some 2 := by decide +kernel
abbrev rm_Judge_isLiteral : Room := { frames := 3, cells := 0, slots := 0, locals := 81 }
def y_Player_takeVector : MethodName := ⟨"TwinJudge$Player", "takeVector", "(I)V"⟩
abbrev b_Player_takeVector : ByteArray := prog_6_method_5_code
set_option maxRecDepth 100000 in
theorem cd_Player_takeVector : Cond.code y_Player_takeVector b_Player_takeVector 3 none ∈ xws := xmem 438 rfl (by decide +kernel)
theorem im_Player_takeVector : Cond.instanceMethod y_Player_takeVector ∈ xws := xmem 437 (by decide +kernel) (by decide +kernel)
theorem sl_Player_takeVector : Cond.selects "TwinJudge$Player" y_Player_takeVector y_Player_takeVector ∈ xws := xmem 2 (by decide +kernel) (by decide +kernel)
theorem ds_Player_takeVector : y_Player_takeVector.cls ≠ "java/lang/invoke/MethodHandle" ∧ y_Player_takeVector.cls ≠ "java/lang/invoke/VarHandle" ∧ (parseMethodDescriptor y_Player_takeVector.desc).map (fun d => d.parameters.length) = some 1 := by decide +kernel
abbrev rm_Player_takeVector : Room := { frames := 1, cells := 0, slots := 0, locals := 40 }
def y_Circuit_word : MethodName := ⟨"TwinJudge$Circuit", "word", "([III)I"⟩
abbrev b_Circuit_word : ByteArray := prog_2_method_9_code
set_option maxRecDepth 100000 in
theorem cd_Circuit_word : Cond.code y_Circuit_word b_Circuit_word 3 (some .int) ∈ xws := xmem 445 rfl (by decide +kernel)
theorem im_Circuit_word : Cond.static y_Circuit_word ∈ xws := xmem 444 (by decide +kernel) (by decide +kernel)
theorem ds_Circuit_word : y_Circuit_word.cls ≠ "java/lang/invoke/MethodHandle" ∧ y_Circuit_word.cls ≠ "java/lang/invoke/VarHandle" ∧ (parseMethodDescriptor y_Circuit_word.desc).map (fun d => d.parameters.length) = some 3 := by decide +kernel
abbrev rm_Circuit_word : Room := { frames := 1, cells := 0, slots := 0, locals := 40 }
def y_Circuit_settle : MethodName := ⟨"TwinJudge$Circuit", "settle", "(I[I[II)V"⟩
abbrev b_Circuit_settle : ByteArray := prog_2_method_8_code
set_option maxRecDepth 100000 in
theorem cd_Circuit_settle : Cond.code y_Circuit_settle b_Circuit_settle 7 none ∈ xws := xmem 442 rfl (by decide +kernel)
theorem im_Circuit_settle : Cond.instanceMethod y_Circuit_settle ∈ xws := xmem 440 (by decide +kernel) (by decide +kernel)
theorem sl_Circuit_settle : Cond.selects "TwinJudge$Circuit" y_Circuit_settle y_Circuit_settle ∈ xws := xmem 441 (by decide +kernel) (by decide +kernel)
theorem ds_Circuit_settle : y_Circuit_settle.cls ≠ "java/lang/invoke/MethodHandle" ∧ y_Circuit_settle.cls ≠ "java/lang/invoke/VarHandle" ∧ (parseMethodDescriptor y_Circuit_settle.desc).map (fun d => d.parameters.length) = some 4 := by decide +kernel
abbrev rm_Circuit_settle : Room := { frames := 2, cells := 0, slots := 0, locals := 62 }
def y_Player_look : MethodName := ⟨"TwinJudge$Player", "look", "(III)I"⟩
abbrev b_Player_look : ByteArray := prog_6_method_3_code
set_option maxRecDepth 100000 in
theorem cd_Player_look : Cond.code y_Player_look b_Player_look 4 (some .int) ∈ xws := xmem 434 rfl (by decide +kernel)
theorem im_Player_look : Cond.instanceMethod y_Player_look ∈ xws := xmem 432 (by decide +kernel) (by decide +kernel)
theorem sl_Player_look : Cond.selects "TwinJudge$Player" y_Player_look y_Player_look ∈ xws := xmem 433 (by decide +kernel) (by decide +kernel)
theorem ds_Player_look : y_Player_look.cls ≠ "java/lang/invoke/MethodHandle" ∧ y_Player_look.cls ≠ "java/lang/invoke/VarHandle" ∧ (parseMethodDescriptor y_Player_look.desc).map (fun d => d.parameters.length) = some 3 := by decide +kernel
abbrev rm_Player_look : Room := { frames := 3, cells := 0, slots := 0, locals := 88 }
def y_Judge_value : MethodName := ⟨"TwinJudge", "value", "(III)I"⟩
abbrev b_Judge_value : ByteArray := prog_1_method_10_code
set_option maxRecDepth 100000 in
theorem cd_Judge_value : Cond.code y_Judge_value b_Judge_value 4 (some .int) ∈ xws := xmem 422 rfl (by decide +kernel)
theorem im_Judge_value : Cond.instanceMethod y_Judge_value ∈ xws := xmem 420 (by decide +kernel) (by decide +kernel)
theorem sl_Judge_value : Cond.selects "TwinJudge" y_Judge_value y_Judge_value ∈ xws := xmem 421 (by decide +kernel) (by decide +kernel)
theorem ds_Judge_value : y_Judge_value.cls ≠ "java/lang/invoke/MethodHandle" ∧ y_Judge_value.cls ≠ "java/lang/invoke/VarHandle" ∧ (parseMethodDescriptor y_Judge_value.desc).map (fun d => d.parameters.length) = some 3 := by decide +kernel
abbrev rm_Judge_value : Room := { frames := 4, cells := 0, slots := 0, locals := 111 }
def y_Player_gather : MethodName := ⟨"TwinJudge$Player", "gather", "([II)I"⟩
abbrev b_Player_gather : ByteArray := prog_6_method_6_code
set_option maxRecDepth 100000 in
theorem cd_Player_gather : Cond.code y_Player_gather b_Player_gather 5 (some .int) ∈ xws := xmem 458 rfl (by decide +kernel)
theorem im_Player_gather : Cond.instanceMethod y_Player_gather ∈ xws := xmem 457 (by decide +kernel) (by decide +kernel)
theorem sl_Player_gather : Cond.selects "TwinJudge$Player" y_Player_gather y_Player_gather ∈ xws := xmem 3 (by decide +kernel) (by decide +kernel)
theorem ds_Player_gather : y_Player_gather.cls ≠ "java/lang/invoke/MethodHandle" ∧ y_Player_gather.cls ≠ "java/lang/invoke/VarHandle" ∧ (parseMethodDescriptor y_Player_gather.desc).map (fun d => d.parameters.length) = some 2 := by decide +kernel
abbrev rm_Player_gather : Room := { frames := 2, cells := 0, slots := 0, locals := 62 }
def y_Player_play : MethodName := ⟨"TwinJudge$Player", "play", "(I)I"⟩
abbrev b_Player_play : ByteArray := prog_6_method_4_code
set_option maxRecDepth 100000 in
theorem cd_Player_play : Cond.code y_Player_play b_Player_play 4 (some .int) ∈ xws := xmem 454 rfl (by decide +kernel)
theorem im_Player_play : Cond.instanceMethod y_Player_play ∈ xws := xmem 452 (by decide +kernel) (by decide +kernel)
theorem sl_Player_play : Cond.selects "TwinJudge$Player" y_Player_play y_Player_play ∈ xws := xmem 453 (by decide +kernel) (by decide +kernel)
theorem ds_Player_play : y_Player_play.cls ≠ "java/lang/invoke/MethodHandle" ∧ y_Player_play.cls ≠ "java/lang/invoke/VarHandle" ∧ (parseMethodDescriptor y_Player_play.desc).map (fun d => d.parameters.length) = some 1 := by decide +kernel
abbrev rm_Player_play : Room := { frames := 3, cells := 0, slots := 0, locals := 88 }
def y_Judge_step : MethodName := ⟨"TwinJudge", "step", "(I)I"⟩
abbrev b_Judge_step : ByteArray := prog_1_method_11_code
set_option maxRecDepth 100000 in
theorem cd_Judge_step : Cond.code y_Judge_step b_Judge_step 2 (some .int) ∈ xws := xmem 450 rfl (by decide +kernel)
theorem im_Judge_step : Cond.instanceMethod y_Judge_step ∈ xws := xmem 448 (by decide +kernel) (by decide +kernel)
theorem sl_Judge_step : Cond.selects "TwinJudge" y_Judge_step y_Judge_step ∈ xws := xmem 449 (by decide +kernel) (by decide +kernel)
theorem ds_Judge_step : y_Judge_step.cls ≠ "java/lang/invoke/MethodHandle" ∧ y_Judge_step.cls ≠ "java/lang/invoke/VarHandle" ∧ (parseMethodDescriptor y_Judge_step.desc).map (fun d => d.parameters.length) = some 1 := by decide +kernel
abbrev rm_Judge_step : Room := { frames := 4, cells := 0, slots := 0, locals := 111 }
def y_Judge_matching : MethodName := ⟨"TwinJudge", "matching", "()Z"⟩
abbrev b_Judge_matching : ByteArray := prog_1_method_26_code
set_option maxRecDepth 100000 in
theorem cd_Judge_matching : Cond.code y_Judge_matching b_Judge_matching 1 (some .boolean) ∈ xws := xmem 466 rfl (by decide +kernel)
theorem im_Judge_matching : Cond.instanceMethod y_Judge_matching ∈ xws := xmem 465 (by decide +kernel) (by decide +kernel)
theorem sl_Judge_matching : Cond.selects "TwinJudge" y_Judge_matching y_Judge_matching ∈ xws := xmem 4 (by decide +kernel) (by decide +kernel)
theorem ds_Judge_matching : y_Judge_matching.cls ≠ "java/lang/invoke/MethodHandle" ∧ y_Judge_matching.cls ≠ "java/lang/invoke/VarHandle" ∧ (parseMethodDescriptor y_Judge_matching.desc).map (fun d => d.parameters.length) = some 0 := by decide +kernel
abbrev rm_Judge_matching : Room := { frames := 1, cells := 0, slots := 0, locals := 40 }
def y_Judge_mustMatch : MethodName := ⟨"TwinJudge", "mustMatch", "()V"⟩
abbrev b_Judge_mustMatch : ByteArray := prog_1_method_27_code
set_option maxRecDepth 100000 in
theorem cd_Judge_mustMatch : Cond.code y_Judge_mustMatch b_Judge_mustMatch 1 none ∈ xws := xmem 971 rfl (by decide +kernel)
theorem im_Judge_mustMatch : Cond.instanceMethod y_Judge_mustMatch ∈ xws := xmem 970 (by decide +kernel) (by decide +kernel)
theorem sl_Judge_mustMatch : Cond.selects "TwinJudge" y_Judge_mustMatch y_Judge_mustMatch ∈ xws := xmem 40 (by decide +kernel) (by decide +kernel)
theorem ds_Judge_mustMatch : y_Judge_mustMatch.cls ≠ "java/lang/invoke/MethodHandle" ∧ y_Judge_mustMatch.cls ≠ "java/lang/invoke/VarHandle" ∧ (parseMethodDescriptor y_Judge_mustMatch.desc).map (fun d => d.parameters.length) = some 0 := by decide +kernel
abbrev rm_Judge_mustMatch : Room := { frames := 2, cells := 0, slots := 0, locals := 60 }
def y_Table_init : MethodName := ⟨"TwinJudge$Table", "<init>", "()V"⟩
abbrev b_Table_init : ByteArray := prog_9_method_1_code
set_option maxRecDepth 100000 in
theorem cd_Table_init : Cond.code y_Table_init b_Table_init 1 none ∈ xws := xmem 485 rfl (by decide +kernel)
theorem im_Table_init : Cond.instanceMethod y_Table_init ∈ xws := xmem 484 (by decide +kernel) (by decide +kernel)
theorem ds_Table_init : y_Table_init.cls ≠ "java/lang/invoke/MethodHandle" ∧ y_Table_init.cls ≠ "java/lang/invoke/VarHandle" ∧ (parseMethodDescriptor y_Table_init.desc).map (fun d => d.parameters.length) = some 0 := by decide +kernel
abbrev rm_Table_init (mc ms : Nat) : Room := { frames := 1, cells := mc, slots := ms, locals := 40 }
def y_Walk_init : MethodName := ⟨"TwinJudge$Walk", "<init>", "(LTwinJudge$Table;)V"⟩
abbrev b_Walk_init : ByteArray := prog_11_method_1_code
set_option maxRecDepth 100000 in
theorem cd_Walk_init : Cond.code y_Walk_init b_Walk_init 2 none ∈ xws := xmem 512 rfl (by decide +kernel)
theorem im_Walk_init : Cond.instanceMethod y_Walk_init ∈ xws := xmem 511 (by decide +kernel) (by decide +kernel)
theorem ds_Walk_init : y_Walk_init.cls ≠ "java/lang/invoke/MethodHandle" ∧ y_Walk_init.cls ≠ "java/lang/invoke/VarHandle" ∧ (parseMethodDescriptor y_Walk_init.desc).map (fun d => d.parameters.length) = some 1 := by decide +kernel
abbrev rm_Walk_init (mc ms : Nat) : Room := { frames := 1, cells := mc, slots := ms, locals := 40 }
def y_Layers_init : MethodName := ⟨"TwinJudge$Layers", "<init>", "(LTwinJudge$Table;)V"⟩
abbrev b_Layers_init : ByteArray := prog_3_method_1_code
set_option maxRecDepth 100000 in
theorem cd_Layers_init : Cond.code y_Layers_init b_Layers_init 2 none ∈ xws := xmem 554 rfl (by decide +kernel)
theorem im_Layers_init : Cond.instanceMethod y_Layers_init ∈ xws := xmem 553 (by decide +kernel) (by decide +kernel)
theorem ds_Layers_init : y_Layers_init.cls ≠ "java/lang/invoke/MethodHandle" ∧ y_Layers_init.cls ≠ "java/lang/invoke/VarHandle" ∧ (parseMethodDescriptor y_Layers_init.desc).map (fun d => d.parameters.length) = some 1 := by decide +kernel
abbrev rm_Layers_init (mc ms : Nat) : Room := { frames := 1, cells := mc, slots := ms, locals := 40 }
def y_Likeness_init : MethodName := ⟨"TwinJudge$Likeness", "<init>", "()V"⟩
abbrev b_Likeness_init : ByteArray := prog_4_method_1_code
set_option maxRecDepth 100000 in
theorem cd_Likeness_init : Cond.code y_Likeness_init b_Likeness_init 1 none ∈ xws := xmem 582 rfl (by decide +kernel)
theorem im_Likeness_init : Cond.instanceMethod y_Likeness_init ∈ xws := xmem 581 (by decide +kernel) (by decide +kernel)
theorem ds_Likeness_init : y_Likeness_init.cls ≠ "java/lang/invoke/MethodHandle" ∧ y_Likeness_init.cls ≠ "java/lang/invoke/VarHandle" ∧ (parseMethodDescriptor y_Likeness_init.desc).map (fun d => d.parameters.length) = some 0 := by decide +kernel
abbrev rm_Likeness_init (mc ms : Nat) : Room := { frames := 1, cells := mc, slots := ms, locals := 40 }
def y_Overlay_init : MethodName := ⟨"TwinJudge$Overlay", "<init>", "()V"⟩
abbrev b_Overlay_init : ByteArray := prog_5_method_1_code
set_option maxRecDepth 100000 in
theorem cd_Overlay_init : Cond.code y_Overlay_init b_Overlay_init 1 none ∈ xws := xmem 610 rfl (by decide +kernel)
theorem im_Overlay_init : Cond.instanceMethod y_Overlay_init ∈ xws := xmem 609 (by decide +kernel) (by decide +kernel)
theorem ds_Overlay_init : y_Overlay_init.cls ≠ "java/lang/invoke/MethodHandle" ∧ y_Overlay_init.cls ≠ "java/lang/invoke/VarHandle" ∧ (parseMethodDescriptor y_Overlay_init.desc).map (fun d => d.parameters.length) = some 0 := by decide +kernel
abbrev rm_Overlay_init (mc ms : Nat) : Room := { frames := 1, cells := mc, slots := ms, locals := 40 }
def y_Works_init : MethodName := ⟨"TwinJudge$Works", "<init>", "([LTwinJudge$Circuit;)V"⟩
abbrev b_Works_init : ByteArray := prog_12_method_1_code
set_option maxRecDepth 100000 in
theorem cd_Works_init : Cond.code y_Works_init b_Works_init 2 none ∈ xws := xmem 479 rfl (by decide +kernel)
theorem im_Works_init : Cond.instanceMethod y_Works_init ∈ xws := xmem 478 (by decide +kernel) (by decide +kernel)
theorem ds_Works_init : y_Works_init.cls ≠ "java/lang/invoke/MethodHandle" ∧ y_Works_init.cls ≠ "java/lang/invoke/VarHandle" ∧ (parseMethodDescriptor y_Works_init.desc).map (fun d => d.parameters.length) = some 1 := by decide +kernel
abbrev rm_Works_init (mc ms : Nat) : Room := { frames := 2, cells := mc, slots := ms, locals := 61 }
def y_Judge_readyWorks : MethodName := ⟨"TwinJudge", "readyWorks", "()LTwinJudge$Works;"⟩
abbrev b_Judge_readyWorks : ByteArray := prog_1_method_29_code
set_option maxRecDepth 100000 in
theorem cd_Judge_readyWorks : Cond.code y_Judge_readyWorks b_Judge_readyWorks 1 (some (.object "TwinJudge$Works")) ∈ xws := xmem 474 rfl (by decide +kernel)
theorem im_Judge_readyWorks : Cond.instanceMethod y_Judge_readyWorks ∈ xws := xmem 473 (by decide +kernel) (by decide +kernel)
theorem sl_Judge_readyWorks : Cond.selects "TwinJudge" y_Judge_readyWorks y_Judge_readyWorks ∈ xws := xmem 6 (by decide +kernel) (by decide +kernel)
theorem ds_Judge_readyWorks : y_Judge_readyWorks.cls ≠ "java/lang/invoke/MethodHandle" ∧ y_Judge_readyWorks.cls ≠ "java/lang/invoke/VarHandle" ∧ (parseMethodDescriptor y_Judge_readyWorks.desc).map (fun d => d.parameters.length) = some 0 := by decide +kernel
abbrev rm_Judge_readyWorks (mc ms : Nat) : Room := { frames := 3, cells := mc, slots := ms, locals := 82 }
def y_Overlay_signalOf : MethodName := ⟨"TwinJudge$Overlay", "signalOf", "(I)I"⟩
abbrev b_Overlay_signalOf : ByteArray := prog_5_method_4_code
set_option maxRecDepth 100000 in
theorem cd_Overlay_signalOf : Cond.code y_Overlay_signalOf b_Overlay_signalOf 2 (some .int) ∈ xws := xmem 1003 rfl (by decide +kernel)
theorem im_Overlay_signalOf : Cond.instanceMethod y_Overlay_signalOf ∈ xws := xmem 1002 (by decide +kernel) (by decide +kernel)
theorem sl_Overlay_signalOf : Cond.selects "TwinJudge$Overlay" y_Overlay_signalOf y_Overlay_signalOf ∈ xws := xmem 42 (by decide +kernel) (by decide +kernel)
theorem ds_Overlay_signalOf : y_Overlay_signalOf.cls ≠ "java/lang/invoke/MethodHandle" ∧ y_Overlay_signalOf.cls ≠ "java/lang/invoke/VarHandle" ∧ (parseMethodDescriptor y_Overlay_signalOf.desc).map (fun d => d.parameters.length) = some 1 := by decide +kernel
abbrev rm_Overlay_signalOf : Room := { frames := 1, cells := 0, slots := 0, locals := 40 }
def y_Overlay_gateOf : MethodName := ⟨"TwinJudge$Overlay", "gateOf", "(II)I"⟩
abbrev b_Overlay_gateOf : ByteArray := prog_5_method_6_code
set_option maxRecDepth 100000 in
theorem cd_Overlay_gateOf : Cond.code y_Overlay_gateOf b_Overlay_gateOf 4 (some .int) ∈ xws := xmem 1017 rfl (by decide +kernel)
theorem im_Overlay_gateOf : Cond.instanceMethod y_Overlay_gateOf ∈ xws := xmem 1016 (by decide +kernel) (by decide +kernel)
theorem sl_Overlay_gateOf : Cond.selects "TwinJudge$Overlay" y_Overlay_gateOf y_Overlay_gateOf ∈ xws := xmem 44 (by decide +kernel) (by decide +kernel)
theorem ds_Overlay_gateOf : y_Overlay_gateOf.cls ≠ "java/lang/invoke/MethodHandle" ∧ y_Overlay_gateOf.cls ≠ "java/lang/invoke/VarHandle" ∧ (parseMethodDescriptor y_Overlay_gateOf.desc).map (fun d => d.parameters.length) = some 2 := by decide +kernel
abbrev rm_Overlay_gateOf : Room := { frames := 1, cells := 0, slots := 0, locals := 40 }
def y_Overlay_join : MethodName := ⟨"TwinJudge$Overlay", "join", "(II)I"⟩
abbrev b_Overlay_join : ByteArray := prog_5_method_5_code
set_option maxRecDepth 100000 in
theorem cd_Overlay_join : Cond.code y_Overlay_join b_Overlay_join 3 (some .int) ∈ xws := xmem 1007 rfl (by decide +kernel)
theorem im_Overlay_join : Cond.instanceMethod y_Overlay_join ∈ xws := xmem 1006 (by decide +kernel) (by decide +kernel)
theorem sl_Overlay_join : Cond.selects "TwinJudge$Overlay" y_Overlay_join y_Overlay_join ∈ xws := xmem 43 (by decide +kernel) (by decide +kernel)
theorem ds_Overlay_join : y_Overlay_join.cls ≠ "java/lang/invoke/MethodHandle" ∧ y_Overlay_join.cls ≠ "java/lang/invoke/VarHandle" ∧ (parseMethodDescriptor y_Overlay_join.desc).map (fun d => d.parameters.length) = some 2 := by decide +kernel
abbrev rm_Overlay_join : Room := { frames := 2, cells := 0, slots := 0, locals := 63 }
def y_Overlay_layOver : MethodName := ⟨"TwinJudge$Overlay", "layOver", "(LTwinJudge$Circuit;I)V"⟩
abbrev b_Overlay_layOver : ByteArray := prog_5_method_3_code
set_option maxRecDepth 100000 in
theorem cd_Overlay_layOver : Cond.code y_Overlay_layOver b_Overlay_layOver 5 none ∈ xws := xmem 999 rfl (by decide +kernel)
theorem im_Overlay_layOver : Cond.instanceMethod y_Overlay_layOver ∈ xws := xmem 998 (by decide +kernel) (by decide +kernel)
theorem sl_Overlay_layOver : Cond.selects "TwinJudge$Overlay" y_Overlay_layOver y_Overlay_layOver ∈ xws := xmem 41 (by decide +kernel) (by decide +kernel)
theorem ds_Overlay_layOver : y_Overlay_layOver.cls ≠ "java/lang/invoke/MethodHandle" ∧ y_Overlay_layOver.cls ≠ "java/lang/invoke/VarHandle" ∧ (parseMethodDescriptor y_Overlay_layOver.desc).map (fun d => d.parameters.length) = some 2 := by decide +kernel
abbrev rm_Overlay_layOver : Room := { frames := 3, cells := 0, slots := 0, locals := 85 }
def y_Overlay_build : MethodName := ⟨"TwinJudge$Overlay", "build", "([LTwinJudge$Circuit;)V"⟩
abbrev b_Overlay_build : ByteArray := prog_5_method_2_code
set_option maxRecDepth 100000 in
theorem cd_Overlay_build : Cond.code y_Overlay_build b_Overlay_build 3 none ∈ xws := xmem 995 rfl (by decide +kernel)
theorem im_Overlay_build : Cond.instanceMethod y_Overlay_build ∈ xws := xmem 993 (by decide +kernel) (by decide +kernel)
theorem sl_Overlay_build : Cond.selects "TwinJudge$Overlay" y_Overlay_build y_Overlay_build ∈ xws := xmem 994 (by decide +kernel) (by decide +kernel)
theorem ds_Overlay_build : y_Overlay_build.cls ≠ "java/lang/invoke/MethodHandle" ∧ y_Overlay_build.cls ≠ "java/lang/invoke/VarHandle" ∧ (parseMethodDescriptor y_Overlay_build.desc).map (fun d => d.parameters.length) = some 1 := by decide +kernel
abbrev rm_Overlay_build : Room := { frames := 4, cells := 0, slots := 0, locals := 109 }
def y_Works_countGates : MethodName := ⟨"TwinJudge$Works", "countGates", "()I"⟩
abbrev b_Works_countGates : ByteArray := prog_12_method_9_code
set_option maxRecDepth 100000 in
theorem cd_Works_countGates : Cond.code y_Works_countGates b_Works_countGates 1 (some .int) ∈ xws := xmem 991 rfl (by decide +kernel)
theorem im_Works_countGates : Cond.instanceMethod y_Works_countGates ∈ xws := xmem 989 (by decide +kernel) (by decide +kernel)
theorem sl_Works_countGates : Cond.selects "TwinJudge$Works" y_Works_countGates y_Works_countGates ∈ xws := xmem 990 (by decide +kernel) (by decide +kernel)
theorem ds_Works_countGates : y_Works_countGates.cls ≠ "java/lang/invoke/MethodHandle" ∧ y_Works_countGates.cls ≠ "java/lang/invoke/VarHandle" ∧ (parseMethodDescriptor y_Works_countGates.desc).map (fun d => d.parameters.length) = some 0 := by decide +kernel
abbrev rm_Works_countGates : Room := { frames := 5, cells := 0, slots := 0, locals := 131 }
def y_Judge_gates : MethodName := ⟨"TwinJudge", "gates", "()I"⟩
abbrev b_Judge_gates : ByteArray := prog_1_method_12_code
set_option maxRecDepth 100000 in
theorem cd_Judge_gates : Cond.code y_Judge_gates b_Judge_gates 1 (some .int) ∈ xws := xmem 967 rfl (by decide +kernel)
theorem im_Judge_gates : Cond.instanceMethod y_Judge_gates ∈ xws := xmem 965 (by decide +kernel) (by decide +kernel)
theorem sl_Judge_gates : Cond.selects "TwinJudge" y_Judge_gates y_Judge_gates ∈ xws := xmem 966 (by decide +kernel) (by decide +kernel)
theorem ds_Judge_gates : y_Judge_gates.cls ≠ "java/lang/invoke/MethodHandle" ∧ y_Judge_gates.cls ≠ "java/lang/invoke/VarHandle" ∧ (parseMethodDescriptor y_Judge_gates.desc).map (fun d => d.parameters.length) = some 0 := by decide +kernel
abbrev rm_Judge_gates (mc ms : Nat) : Room := { frames := 6, cells := mc, slots := ms, locals := 151 }
def y_Table_fillLine : MethodName := ⟨"TwinJudge$Table", "fillLine", "(LTwinJudge$Circuit;II)V"⟩
abbrev b_Table_fillLine : ByteArray := prog_9_method_3_code
set_option maxRecDepth 100000 in
theorem cd_Table_fillLine : Cond.code y_Table_fillLine b_Table_fillLine 7 none ∈ xws := xmem 676 rfl (by decide +kernel)
theorem im_Table_fillLine : Cond.instanceMethod y_Table_fillLine ∈ xws := xmem 675 (by decide +kernel) (by decide +kernel)
theorem sl_Table_fillLine : Cond.selects "TwinJudge$Table" y_Table_fillLine y_Table_fillLine ∈ xws := xmem 7 (by decide +kernel) (by decide +kernel)
theorem ds_Table_fillLine : y_Table_fillLine.cls ≠ "java/lang/invoke/MethodHandle" ∧ y_Table_fillLine.cls ≠ "java/lang/invoke/VarHandle" ∧ (parseMethodDescriptor y_Table_fillLine.desc).map (fun d => d.parameters.length) = some 3 := by decide +kernel
abbrev rm_Table_fillLine : Room := { frames := 3, cells := 0, slots := 0, locals := 88 }
def y_Table_fill : MethodName := ⟨"TwinJudge$Table", "fill", "([LTwinJudge$Circuit;)V"⟩
abbrev b_Table_fill : ByteArray := prog_9_method_2_code
set_option maxRecDepth 100000 in
theorem cd_Table_fill : Cond.code y_Table_fill b_Table_fill 4 none ∈ xws := xmem 671 rfl (by decide +kernel)
theorem im_Table_fill : Cond.instanceMethod y_Table_fill ∈ xws := xmem 669 (by decide +kernel) (by decide +kernel)
theorem sl_Table_fill : Cond.selects "TwinJudge$Table" y_Table_fill y_Table_fill ∈ xws := xmem 670 (by decide +kernel) (by decide +kernel)
theorem ds_Table_fill : y_Table_fill.cls ≠ "java/lang/invoke/MethodHandle" ∧ y_Table_fill.cls ≠ "java/lang/invoke/VarHandle" ∧ (parseMethodDescriptor y_Table_fill.desc).map (fun d => d.parameters.length) = some 1 := by decide +kernel
abbrev rm_Table_fill : Room := { frames := 4, cells := 0, slots := 0, locals := 114 }
def y_Table_unlike : MethodName := ⟨"TwinJudge$Table", "unlike", "(II)I"⟩
abbrev b_Table_unlike : ByteArray := prog_9_method_6_code
set_option maxRecDepth 100000 in
theorem cd_Table_unlike : Cond.code y_Table_unlike b_Table_unlike 5 (some .int) ∈ xws := xmem 697 rfl (by decide +kernel)
theorem im_Table_unlike : Cond.instanceMethod y_Table_unlike ∈ xws := xmem 695 (by decide +kernel) (by decide +kernel)
theorem sl_Table_unlike : Cond.selects "TwinJudge$Table" y_Table_unlike y_Table_unlike ∈ xws := xmem 696 (by decide +kernel) (by decide +kernel)
theorem ds_Table_unlike : y_Table_unlike.cls ≠ "java/lang/invoke/MethodHandle" ∧ y_Table_unlike.cls ≠ "java/lang/invoke/VarHandle" ∧ (parseMethodDescriptor y_Table_unlike.desc).map (fun d => d.parameters.length) = some 2 := by decide +kernel
abbrev rm_Table_unlike : Room := { frames := 1, cells := 0, slots := 0, locals := 40 }
def y_Table_telling : MethodName := ⟨"TwinJudge$Table", "telling", "(I)I"⟩
abbrev b_Table_telling : ByteArray := prog_9_method_7_code
set_option maxRecDepth 100000 in
theorem cd_Table_telling : Cond.code y_Table_telling b_Table_telling 4 (some .int) ∈ xws := xmem 693 rfl (by decide +kernel)
theorem im_Table_telling : Cond.instanceMethod y_Table_telling ∈ xws := xmem 691 (by decide +kernel) (by decide +kernel)
theorem sl_Table_telling : Cond.selects "TwinJudge$Table" y_Table_telling y_Table_telling ∈ xws := xmem 692 (by decide +kernel) (by decide +kernel)
theorem ds_Table_telling : y_Table_telling.cls ≠ "java/lang/invoke/MethodHandle" ∧ y_Table_telling.cls ≠ "java/lang/invoke/VarHandle" ∧ (parseMethodDescriptor y_Table_telling.desc).map (fun d => d.parameters.length) = some 1 := by decide +kernel
abbrev rm_Table_telling : Room := { frames := 2, cells := 0, slots := 0, locals := 64 }
def y_Integer_numberOfTrailingZeros : MethodName := ⟨"java/lang/Integer", "numberOfTrailingZeros", "(I)I"⟩
abbrev b_Integer_numberOfTrailingZeros : ByteArray := prog_18_method_48_code
set_option maxRecDepth 100000 in
theorem cd_Integer_numberOfTrailingZeros : Cond.code y_Integer_numberOfTrailingZeros b_Integer_numberOfTrailingZeros 2 (some .int) ∈ xws := xmem 700 rfl (by decide +kernel)
theorem im_Integer_numberOfTrailingZeros : Cond.static y_Integer_numberOfTrailingZeros ∈ xws := xmem 699 (by decide +kernel) (by decide +kernel)
theorem ds_Integer_numberOfTrailingZeros : y_Integer_numberOfTrailingZeros.cls ≠ "java/lang/invoke/MethodHandle" ∧ y_Integer_numberOfTrailingZeros.cls ≠ "java/lang/invoke/VarHandle" ∧ (parseMethodDescriptor y_Integer_numberOfTrailingZeros.desc).map (fun d => d.parameters.length) = some 1 := by decide +kernel
abbrev rm_Integer_numberOfTrailingZeros : Room := { frames := 1, cells := 0, slots := 0, locals := 40 }
def y_Table_lowestUnlike : MethodName := ⟨"TwinJudge$Table", "lowestUnlike", "(II)I"⟩
abbrev b_Table_lowestUnlike : ByteArray := prog_9_method_8_code
set_option maxRecDepth 100000 in
theorem cd_Table_lowestUnlike : Cond.code y_Table_lowestUnlike b_Table_lowestUnlike 4 (some .int) ∈ xws := xmem 705 rfl (by decide +kernel)
theorem im_Table_lowestUnlike : Cond.instanceMethod y_Table_lowestUnlike ∈ xws := xmem 703 (by decide +kernel) (by decide +kernel)
theorem sl_Table_lowestUnlike : Cond.selects "TwinJudge$Table" y_Table_lowestUnlike y_Table_lowestUnlike ∈ xws := xmem 704 (by decide +kernel) (by decide +kernel)
theorem ds_Table_lowestUnlike : y_Table_lowestUnlike.cls ≠ "java/lang/invoke/MethodHandle" ∧ y_Table_lowestUnlike.cls ≠ "java/lang/invoke/VarHandle" ∧ (parseMethodDescriptor y_Table_lowestUnlike.desc).map (fun d => d.parameters.length) = some 2 := by decide +kernel
abbrev rm_Table_lowestUnlike : Room := { frames := 2, cells := 0, slots := 0, locals := 64 }
def y_Walk_traceBack : MethodName := ⟨"TwinJudge$Walk", "traceBack", "(I)V"⟩
abbrev b_Walk_traceBack : ByteArray := prog_11_method_5_code
set_option maxRecDepth 100000 in
theorem cd_Walk_traceBack : Cond.code y_Walk_traceBack b_Walk_traceBack 4 none ∈ xws := xmem 709 rfl (by decide +kernel)
theorem im_Walk_traceBack : Cond.instanceMethod y_Walk_traceBack ∈ xws := xmem 708 (by decide +kernel) (by decide +kernel)
theorem sl_Walk_traceBack : Cond.selects "TwinJudge$Walk" y_Walk_traceBack y_Walk_traceBack ∈ xws := xmem 9 (by decide +kernel) (by decide +kernel)
theorem ds_Walk_traceBack : y_Walk_traceBack.cls ≠ "java/lang/invoke/MethodHandle" ∧ y_Walk_traceBack.cls ≠ "java/lang/invoke/VarHandle" ∧ (parseMethodDescriptor y_Walk_traceBack.desc).map (fun d => d.parameters.length) = some 1 := by decide +kernel
abbrev rm_Walk_traceBack : Room := { frames := 1, cells := 0, slots := 0, locals := 40 }
def y_Walk_tryToTell : MethodName := ⟨"TwinJudge$Walk", "tryToTell", "(I)V"⟩
abbrev b_Walk_tryToTell : ByteArray := prog_11_method_4_code
set_option maxRecDepth 100000 in
theorem cd_Walk_tryToTell : Cond.code y_Walk_tryToTell b_Walk_tryToTell 4 none ∈ xws := xmem 689 rfl (by decide +kernel)
theorem im_Walk_tryToTell : Cond.instanceMethod y_Walk_tryToTell ∈ xws := xmem 688 (by decide +kernel) (by decide +kernel)
theorem sl_Walk_tryToTell : Cond.selects "TwinJudge$Walk" y_Walk_tryToTell y_Walk_tryToTell ∈ xws := xmem 8 (by decide +kernel) (by decide +kernel)
theorem ds_Walk_tryToTell : y_Walk_tryToTell.cls ≠ "java/lang/invoke/MethodHandle" ∧ y_Walk_tryToTell.cls ≠ "java/lang/invoke/VarHandle" ∧ (parseMethodDescriptor y_Walk_tryToTell.desc).map (fun d => d.parameters.length) = some 1 := by decide +kernel
abbrev rm_Walk_tryToTell : Room := { frames := 3, cells := 0, slots := 0, locals := 87 }
def y_Table_next : MethodName := ⟨"TwinJudge$Table", "next", "(II)I"⟩
abbrev b_Table_next : ByteArray := prog_9_method_5_code
set_option maxRecDepth 100000 in
theorem cd_Table_next : Cond.code y_Table_next b_Table_next 5 (some .int) ∈ xws := xmem 717 rfl (by decide +kernel)
theorem im_Table_next : Cond.instanceMethod y_Table_next ∈ xws := xmem 715 (by decide +kernel) (by decide +kernel)
theorem sl_Table_next : Cond.selects "TwinJudge$Table" y_Table_next y_Table_next ∈ xws := xmem 716 (by decide +kernel) (by decide +kernel)
theorem ds_Table_next : y_Table_next.cls ≠ "java/lang/invoke/MethodHandle" ∧ y_Table_next.cls ≠ "java/lang/invoke/VarHandle" ∧ (parseMethodDescriptor y_Table_next.desc).map (fun d => d.parameters.length) = some 2 := by decide +kernel
abbrev rm_Table_next : Room := { frames := 1, cells := 0, slots := 0, locals := 40 }
def y_Walk_expand : MethodName := ⟨"TwinJudge$Walk", "expand", "(I)V"⟩
abbrev b_Walk_expand : ByteArray := prog_11_method_3_code
set_option maxRecDepth 100000 in
theorem cd_Walk_expand : Cond.code y_Walk_expand b_Walk_expand 4 none ∈ xws := xmem 713 rfl (by decide +kernel)
theorem im_Walk_expand : Cond.instanceMethod y_Walk_expand ∈ xws := xmem 712 (by decide +kernel) (by decide +kernel)
theorem sl_Walk_expand : Cond.selects "TwinJudge$Walk" y_Walk_expand y_Walk_expand ∈ xws := xmem 10 (by decide +kernel) (by decide +kernel)
theorem ds_Walk_expand : y_Walk_expand.cls ≠ "java/lang/invoke/MethodHandle" ∧ y_Walk_expand.cls ≠ "java/lang/invoke/VarHandle" ∧ (parseMethodDescriptor y_Walk_expand.desc).map (fun d => d.parameters.length) = some 1 := by decide +kernel
abbrev rm_Walk_expand : Room := { frames := 2, cells := 0, slots := 0, locals := 64 }
def y_Walk_explore : MethodName := ⟨"TwinJudge$Walk", "explore", "()V"⟩
abbrev b_Walk_explore : ByteArray := prog_11_method_2_code
set_option maxRecDepth 100000 in
theorem cd_Walk_explore : Cond.code y_Walk_explore b_Walk_explore 2 none ∈ xws := xmem 684 rfl (by decide +kernel)
theorem im_Walk_explore : Cond.instanceMethod y_Walk_explore ∈ xws := xmem 682 (by decide +kernel) (by decide +kernel)
theorem sl_Walk_explore : Cond.selects "TwinJudge$Walk" y_Walk_explore y_Walk_explore ∈ xws := xmem 683 (by decide +kernel) (by decide +kernel)
theorem ds_Walk_explore : y_Walk_explore.cls ≠ "java/lang/invoke/MethodHandle" ∧ y_Walk_explore.cls ≠ "java/lang/invoke/VarHandle" ∧ (parseMethodDescriptor y_Walk_explore.desc).map (fun d => d.parameters.length) = some 0 := by decide +kernel
abbrev rm_Walk_explore : Room := { frames := 4, cells := 0, slots := 0, locals := 110 }
def y_Layers_clear : MethodName := ⟨"TwinJudge$Layers", "clear", "()V"⟩
abbrev b_Layers_clear : ByteArray := prog_3_method_2_code
set_option maxRecDepth 100000 in
theorem cd_Layers_clear : Cond.code y_Layers_clear b_Layers_clear 1 none ∈ xws := xmem 721 rfl (by decide +kernel)
theorem im_Layers_clear : Cond.instanceMethod y_Layers_clear ∈ xws := xmem 719 (by decide +kernel) (by decide +kernel)
theorem sl_Layers_clear : Cond.selects "TwinJudge$Layers" y_Layers_clear y_Layers_clear ∈ xws := xmem 720 (by decide +kernel) (by decide +kernel)
theorem ds_Layers_clear : y_Layers_clear.cls ≠ "java/lang/invoke/MethodHandle" ∧ y_Layers_clear.cls ≠ "java/lang/invoke/VarHandle" ∧ (parseMethodDescriptor y_Layers_clear.desc).map (fun d => d.parameters.length) = some 0 := by decide +kernel
abbrev rm_Layers_clear : Room := { frames := 1, cells := 0, slots := 0, locals := 40 }
def y_Works_witnessTells : MethodName := ⟨"TwinJudge$Works", "witnessTells", "()Z"⟩
abbrev b_Works_witnessTells : ByteArray := prog_12_method_5_code
set_option maxRecDepth 100000 in
theorem cd_Works_witnessTells : Cond.code y_Works_witnessTells b_Works_witnessTells 4 (some .boolean) ∈ xws := xmem 725 rfl (by decide +kernel)
theorem im_Works_witnessTells : Cond.instanceMethod y_Works_witnessTells ∈ xws := xmem 724 (by decide +kernel) (by decide +kernel)
theorem sl_Works_witnessTells : Cond.selects "TwinJudge$Works" y_Works_witnessTells y_Works_witnessTells ∈ xws := xmem 11 (by decide +kernel) (by decide +kernel)
theorem ds_Works_witnessTells : y_Works_witnessTells.cls ≠ "java/lang/invoke/MethodHandle" ∧ y_Works_witnessTells.cls ≠ "java/lang/invoke/VarHandle" ∧ (parseMethodDescriptor y_Works_witnessTells.desc).map (fun d => d.parameters.length) = some 0 := by decide +kernel
abbrev rm_Works_witnessTells : Room := { frames := 4, cells := 0, slots := 0, locals := 111 }
def y_Works_doubtUnless : MethodName := ⟨"TwinJudge$Works", "doubtUnless", "(Z)V"⟩
abbrev b_Works_doubtUnless : ByteArray := prog_12_method_3_code
set_option maxRecDepth 100000 in
theorem cd_Works_doubtUnless : Cond.code y_Works_doubtUnless b_Works_doubtUnless 2 none ∈ xws := xmem 731 rfl (by decide +kernel)
theorem im_Works_doubtUnless : Cond.instanceMethod y_Works_doubtUnless ∈ xws := xmem 730 (by decide +kernel) (by decide +kernel)
theorem sl_Works_doubtUnless : Cond.selects "TwinJudge$Works" y_Works_doubtUnless y_Works_doubtUnless ∈ xws := xmem 12 (by decide +kernel) (by decide +kernel)
theorem ds_Works_doubtUnless : y_Works_doubtUnless.cls ≠ "java/lang/invoke/MethodHandle" ∧ y_Works_doubtUnless.cls ≠ "java/lang/invoke/VarHandle" ∧ (parseMethodDescriptor y_Works_doubtUnless.desc).map (fun d => d.parameters.length) = some 1 := by decide +kernel
abbrev rm_Works_doubtUnless : Room := { frames := 1, cells := 0, slots := 0, locals := 40 }
def y_Works_explore : MethodName := ⟨"TwinJudge$Works", "explore", "()V"⟩
abbrev b_Works_explore : ByteArray := prog_12_method_4_code
set_option maxRecDepth 100000 in
theorem cd_Works_explore : Cond.code y_Works_explore b_Works_explore 1 none ∈ xws := xmem 667 rfl (by decide +kernel)
theorem im_Works_explore : Cond.instanceMethod y_Works_explore ∈ xws := xmem 665 (by decide +kernel) (by decide +kernel)
theorem sl_Works_explore : Cond.selects "TwinJudge$Works" y_Works_explore y_Works_explore ∈ xws := xmem 666 (by decide +kernel) (by decide +kernel)
theorem ds_Works_explore : y_Works_explore.cls ≠ "java/lang/invoke/MethodHandle" ∧ y_Works_explore.cls ≠ "java/lang/invoke/VarHandle" ∧ (parseMethodDescriptor y_Works_explore.desc).map (fun d => d.parameters.length) = some 0 := by decide +kernel
abbrev rm_Works_explore : Room := { frames := 5, cells := 0, slots := 0, locals := 137 }
def y_Judge_exploredWorks : MethodName := ⟨"TwinJudge", "exploredWorks", "()LTwinJudge$Works;"⟩
abbrev b_Judge_exploredWorks : ByteArray := prog_1_method_30_code
set_option maxRecDepth 100000 in
theorem cd_Judge_exploredWorks : Cond.code y_Judge_exploredWorks b_Judge_exploredWorks 2 (some (.object "TwinJudge$Works")) ∈ xws := xmem 470 rfl (by decide +kernel)
theorem im_Judge_exploredWorks : Cond.instanceMethod y_Judge_exploredWorks ∈ xws := xmem 469 (by decide +kernel) (by decide +kernel)
theorem sl_Judge_exploredWorks : Cond.selects "TwinJudge" y_Judge_exploredWorks y_Judge_exploredWorks ∈ xws := xmem 5 (by decide +kernel) (by decide +kernel)
theorem ds_Judge_exploredWorks : y_Judge_exploredWorks.cls ≠ "java/lang/invoke/MethodHandle" ∧ y_Judge_exploredWorks.cls ≠ "java/lang/invoke/VarHandle" ∧ (parseMethodDescriptor y_Judge_exploredWorks.desc).map (fun d => d.parameters.length) = some 0 := by decide +kernel
abbrev rm_Judge_exploredWorks (mc ms : Nat) : Room := { frames := 6, cells := mc, slots := ms, locals := 157 }
def y_Judge_judge : MethodName := ⟨"TwinJudge", "judge", "()I"⟩
abbrev b_Judge_judge : ByteArray := prog_1_method_13_code
set_option maxRecDepth 100000 in
theorem cd_Judge_judge : Cond.code y_Judge_judge b_Judge_judge 1 (some .int) ∈ xws := xmem 1024 rfl (by decide +kernel)
theorem im_Judge_judge : Cond.instanceMethod y_Judge_judge ∈ xws := xmem 1022 (by decide +kernel) (by decide +kernel)
theorem sl_Judge_judge : Cond.selects "TwinJudge" y_Judge_judge y_Judge_judge ∈ xws := xmem 1023 (by decide +kernel) (by decide +kernel)
theorem ds_Judge_judge : y_Judge_judge.cls ≠ "java/lang/invoke/MethodHandle" ∧ y_Judge_judge.cls ≠ "java/lang/invoke/VarHandle" ∧ (parseMethodDescriptor y_Judge_judge.desc).map (fun d => d.parameters.length) = some 0 := by decide +kernel
abbrev rm_Judge_judge (mc ms : Nat) : Room := { frames := 7, cells := mc, slots := ms, locals := 178 }
def y_Judge_witness : MethodName := ⟨"TwinJudge", "witness", "(I)I"⟩
abbrev b_Judge_witness : ByteArray := prog_1_method_14_code
set_option maxRecDepth 100000 in
theorem cd_Judge_witness : Cond.code y_Judge_witness b_Judge_witness 3 (some .int) ∈ xws := xmem 462 rfl (by decide +kernel)
theorem im_Judge_witness : Cond.instanceMethod y_Judge_witness ∈ xws := xmem 460 (by decide +kernel) (by decide +kernel)
theorem sl_Judge_witness : Cond.selects "TwinJudge" y_Judge_witness y_Judge_witness ∈ xws := xmem 461 (by decide +kernel) (by decide +kernel)
theorem ds_Judge_witness : y_Judge_witness.cls ≠ "java/lang/invoke/MethodHandle" ∧ y_Judge_witness.cls ≠ "java/lang/invoke/VarHandle" ∧ (parseMethodDescriptor y_Judge_witness.desc).map (fun d => d.parameters.length) = some 1 := by decide +kernel
abbrev rm_Judge_witness (mc ms : Nat) : Room := { frames := 7, cells := mc, slots := ms, locals := 178 }
def y_Judge_blame : MethodName := ⟨"TwinJudge", "blame", "()I"⟩
abbrev b_Judge_blame : ByteArray := prog_1_method_15_code
set_option maxRecDepth 100000 in
theorem cd_Judge_blame : Cond.code y_Judge_blame b_Judge_blame 2 (some .int) ∈ xws := xmem 735 rfl (by decide +kernel)
theorem im_Judge_blame : Cond.instanceMethod y_Judge_blame ∈ xws := xmem 733 (by decide +kernel) (by decide +kernel)
theorem sl_Judge_blame : Cond.selects "TwinJudge" y_Judge_blame y_Judge_blame ∈ xws := xmem 734 (by decide +kernel) (by decide +kernel)
theorem ds_Judge_blame : y_Judge_blame.cls ≠ "java/lang/invoke/MethodHandle" ∧ y_Judge_blame.cls ≠ "java/lang/invoke/VarHandle" ∧ (parseMethodDescriptor y_Judge_blame.desc).map (fun d => d.parameters.length) = some 0 := by decide +kernel
abbrev rm_Judge_blame (mc ms : Nat) : Room := { frames := 7, cells := mc, slots := ms, locals := 178 }
def y_Judge_must : MethodName := ⟨"TwinJudge", "must", "(Z)V"⟩
abbrev b_Judge_must : ByteArray := prog_1_method_28_code
set_option maxRecDepth 100000 in
theorem cd_Judge_must : Cond.code y_Judge_must b_Judge_must 1 none ∈ xws := xmem 1034 rfl (by decide +kernel)
theorem im_Judge_must : Cond.static y_Judge_must ∈ xws := xmem 1033 (by decide +kernel) (by decide +kernel)
theorem ds_Judge_must : y_Judge_must.cls ≠ "java/lang/invoke/MethodHandle" ∧ y_Judge_must.cls ≠ "java/lang/invoke/VarHandle" ∧ (parseMethodDescriptor y_Judge_must.desc).map (fun d => d.parameters.length) = some 1 := by decide +kernel
abbrev rm_Judge_must : Room := { frames := 1, cells := 0, slots := 0, locals := 40 }
def y_Judge_differs : MethodName := ⟨"TwinJudge", "differs", "(I)I"⟩
abbrev b_Judge_differs : ByteArray := prog_1_method_16_code
set_option maxRecDepth 100000 in
theorem cd_Judge_differs : Cond.code y_Judge_differs b_Judge_differs 3 (some .int) ∈ xws := xmem 1031 rfl (by decide +kernel)
theorem im_Judge_differs : Cond.instanceMethod y_Judge_differs ∈ xws := xmem 1029 (by decide +kernel) (by decide +kernel)
theorem sl_Judge_differs : Cond.selects "TwinJudge" y_Judge_differs y_Judge_differs ∈ xws := xmem 1030 (by decide +kernel) (by decide +kernel)
theorem ds_Judge_differs : y_Judge_differs.cls ≠ "java/lang/invoke/MethodHandle" ∧ y_Judge_differs.cls ≠ "java/lang/invoke/VarHandle" ∧ (parseMethodDescriptor y_Judge_differs.desc).map (fun d => d.parameters.length) = some 1 := by decide +kernel
abbrev rm_Judge_differs (mc ms : Nat) : Room := { frames := 7, cells := mc, slots := ms, locals := 178 }
def y_Table_isPair : MethodName := ⟨"TwinJudge$Table", "isPair", "(I)Z"⟩
abbrev b_Table_isPair : ByteArray := prog_9_method_4_code
set_option maxRecDepth 100000 in
theorem cd_Table_isPair : Cond.code y_Table_isPair b_Table_isPair 2 (some .boolean) ∈ xws := xmem 1058 rfl (by decide +kernel)
theorem im_Table_isPair : Cond.instanceMethod y_Table_isPair ∈ xws := xmem 1056 (by decide +kernel) (by decide +kernel)
theorem sl_Table_isPair : Cond.selects "TwinJudge$Table" y_Table_isPair y_Table_isPair ∈ xws := xmem 1057 (by decide +kernel) (by decide +kernel)
theorem ds_Table_isPair : y_Table_isPair.cls ≠ "java/lang/invoke/MethodHandle" ∧ y_Table_isPair.cls ≠ "java/lang/invoke/VarHandle" ∧ (parseMethodDescriptor y_Table_isPair.desc).map (fun d => d.parameters.length) = some 1 := by decide +kernel
abbrev rm_Table_isPair : Room := { frames := 1, cells := 0, slots := 0, locals := 40 }
def y_Layers_isInLayer : MethodName := ⟨"TwinJudge$Layers", "isInLayer", "(I)Z"⟩
abbrev b_Layers_isInLayer : ByteArray := prog_3_method_6_code
set_option maxRecDepth 100000 in
theorem cd_Layers_isInLayer : Cond.code y_Layers_isInLayer b_Layers_isInLayer 4 (some .boolean) ∈ xws := xmem 1062 rfl (by decide +kernel)
theorem im_Layers_isInLayer : Cond.instanceMethod y_Layers_isInLayer ∈ xws := xmem 1061 (by decide +kernel) (by decide +kernel)
theorem sl_Layers_isInLayer : Cond.selects "TwinJudge$Layers" y_Layers_isInLayer y_Layers_isInLayer ∈ xws := xmem 46 (by decide +kernel) (by decide +kernel)
theorem ds_Layers_isInLayer : y_Layers_isInLayer.cls ≠ "java/lang/invoke/MethodHandle" ∧ y_Layers_isInLayer.cls ≠ "java/lang/invoke/VarHandle" ∧ (parseMethodDescriptor y_Layers_isInLayer.desc).map (fun d => d.parameters.length) = some 1 := by decide +kernel
abbrev rm_Layers_isInLayer : Room := { frames := 3, cells := 0, slots := 0, locals := 87 }
def y_Layers_addLayer : MethodName := ⟨"TwinJudge$Layers", "addLayer", "()V"⟩
abbrev b_Layers_addLayer : ByteArray := prog_3_method_5_code
set_option maxRecDepth 100000 in
theorem cd_Layers_addLayer : Cond.code y_Layers_addLayer b_Layers_addLayer 4 none ∈ xws := xmem 1054 rfl (by decide +kernel)
theorem im_Layers_addLayer : Cond.instanceMethod y_Layers_addLayer ∈ xws := xmem 1053 (by decide +kernel) (by decide +kernel)
theorem sl_Layers_addLayer : Cond.selects "TwinJudge$Layers" y_Layers_addLayer y_Layers_addLayer ∈ xws := xmem 45 (by decide +kernel) (by decide +kernel)
theorem ds_Layers_addLayer : y_Layers_addLayer.cls ≠ "java/lang/invoke/MethodHandle" ∧ y_Layers_addLayer.cls ≠ "java/lang/invoke/VarHandle" ∧ (parseMethodDescriptor y_Layers_addLayer.desc).map (fun d => d.parameters.length) = some 0 := by decide +kernel
abbrev rm_Layers_addLayer : Room := { frames := 4, cells := 0, slots := 0, locals := 110 }
def y_Layers_isEmpty : MethodName := ⟨"TwinJudge$Layers", "isEmpty", "(I)Z"⟩
abbrev b_Layers_isEmpty : ByteArray := prog_3_method_3_code
set_option maxRecDepth 100000 in
theorem cd_Layers_isEmpty : Cond.code y_Layers_isEmpty b_Layers_isEmpty 2 (some .boolean) ∈ xws := xmem 1050 rfl (by decide +kernel)
theorem im_Layers_isEmpty : Cond.instanceMethod y_Layers_isEmpty ∈ xws := xmem 1048 (by decide +kernel) (by decide +kernel)
theorem sl_Layers_isEmpty : Cond.selects "TwinJudge$Layers" y_Layers_isEmpty y_Layers_isEmpty ∈ xws := xmem 1049 (by decide +kernel) (by decide +kernel)
theorem ds_Layers_isEmpty : y_Layers_isEmpty.cls ≠ "java/lang/invoke/MethodHandle" ∧ y_Layers_isEmpty.cls ≠ "java/lang/invoke/VarHandle" ∧ (parseMethodDescriptor y_Layers_isEmpty.desc).map (fun d => d.parameters.length) = some 1 := by decide +kernel
abbrev rm_Layers_isEmpty : Room := { frames := 5, cells := 0, slots := 0, locals := 133 }
def y_Layers_fits : MethodName := ⟨"TwinJudge$Layers", "fits", "(I)Z"⟩
abbrev b_Layers_fits : ByteArray := prog_3_method_4_code
set_option maxRecDepth 100000 in
theorem cd_Layers_fits : Cond.code y_Layers_fits b_Layers_fits 3 (some .boolean) ∈ xws := xmem 1068 rfl (by decide +kernel)
theorem im_Layers_fits : Cond.instanceMethod y_Layers_fits ∈ xws := xmem 1066 (by decide +kernel) (by decide +kernel)
theorem sl_Layers_fits : Cond.selects "TwinJudge$Layers" y_Layers_fits y_Layers_fits ∈ xws := xmem 1067 (by decide +kernel) (by decide +kernel)
theorem ds_Layers_fits : y_Layers_fits.cls ≠ "java/lang/invoke/MethodHandle" ∧ y_Layers_fits.cls ≠ "java/lang/invoke/VarHandle" ∧ (parseMethodDescriptor y_Layers_fits.desc).map (fun d => d.parameters.length) = some 1 := by decide +kernel
abbrev rm_Layers_fits : Room := { frames := 1, cells := 0, slots := 0, locals := 40 }
def y_Works_holdsByInduction : MethodName := ⟨"TwinJudge$Works", "holdsByInduction", "(I)Z"⟩
abbrev b_Works_holdsByInduction : ByteArray := prog_12_method_6_code
set_option maxRecDepth 100000 in
theorem cd_Works_holdsByInduction : Cond.code y_Works_holdsByInduction b_Works_holdsByInduction 3 (some .boolean) ∈ xws := xmem 1046 rfl (by decide +kernel)
theorem im_Works_holdsByInduction : Cond.instanceMethod y_Works_holdsByInduction ∈ xws := xmem 1044 (by decide +kernel) (by decide +kernel)
theorem sl_Works_holdsByInduction : Cond.selects "TwinJudge$Works" y_Works_holdsByInduction y_Works_holdsByInduction ∈ xws := xmem 1045 (by decide +kernel) (by decide +kernel)
theorem ds_Works_holdsByInduction : y_Works_holdsByInduction.cls ≠ "java/lang/invoke/MethodHandle" ∧ y_Works_holdsByInduction.cls ≠ "java/lang/invoke/VarHandle" ∧ (parseMethodDescriptor y_Works_holdsByInduction.desc).map (fun d => d.parameters.length) = some 1 := by decide +kernel
abbrev rm_Works_holdsByInduction : Room := { frames := 6, cells := 0, slots := 0, locals := 154 }
def y_Judge_inductive : MethodName := ⟨"TwinJudge", "inductive", "(I)Z"⟩
abbrev b_Judge_inductive : ByteArray := prog_1_method_17_code
set_option maxRecDepth 100000 in
theorem cd_Judge_inductive : Cond.code y_Judge_inductive b_Judge_inductive 2 (some .boolean) ∈ xws := xmem 1042 rfl (by decide +kernel)
theorem im_Judge_inductive : Cond.instanceMethod y_Judge_inductive ∈ xws := xmem 1040 (by decide +kernel) (by decide +kernel)
theorem sl_Judge_inductive : Cond.selects "TwinJudge" y_Judge_inductive y_Judge_inductive ∈ xws := xmem 1041 (by decide +kernel) (by decide +kernel)
theorem ds_Judge_inductive : y_Judge_inductive.cls ≠ "java/lang/invoke/MethodHandle" ∧ y_Judge_inductive.cls ≠ "java/lang/invoke/VarHandle" ∧ (parseMethodDescriptor y_Judge_inductive.desc).map (fun d => d.parameters.length) = some 1 := by decide +kernel
abbrev rm_Judge_inductive (mc ms : Nat) : Room := { frames := 7, cells := mc, slots := ms, locals := 178 }
def y_Walk_greatestDepth : MethodName := ⟨"TwinJudge$Walk", "greatestDepth", "()I"⟩
abbrev b_Walk_greatestDepth : ByteArray := prog_11_method_6_code
set_option maxRecDepth 100000 in
theorem cd_Walk_greatestDepth : Cond.code y_Walk_greatestDepth b_Walk_greatestDepth 1 (some .int) ∈ xws := xmem 1079 rfl (by decide +kernel)
theorem im_Walk_greatestDepth : Cond.instanceMethod y_Walk_greatestDepth ∈ xws := xmem 1077 (by decide +kernel) (by decide +kernel)
theorem sl_Walk_greatestDepth : Cond.selects "TwinJudge$Walk" y_Walk_greatestDepth y_Walk_greatestDepth ∈ xws := xmem 1078 (by decide +kernel) (by decide +kernel)
theorem ds_Walk_greatestDepth : y_Walk_greatestDepth.cls ≠ "java/lang/invoke/MethodHandle" ∧ y_Walk_greatestDepth.cls ≠ "java/lang/invoke/VarHandle" ∧ (parseMethodDescriptor y_Walk_greatestDepth.desc).map (fun d => d.parameters.length) = some 0 := by decide +kernel
abbrev rm_Walk_greatestDepth : Room := { frames := 1, cells := 0, slots := 0, locals := 40 }
def y_Judge_pairs : MethodName := ⟨"TwinJudge", "pairs", "(I)I"⟩
abbrev b_Judge_pairs : ByteArray := prog_1_method_18_code
set_option maxRecDepth 100000 in
theorem cd_Judge_pairs : Cond.code y_Judge_pairs b_Judge_pairs 3 (some .int) ∈ xws := xmem 1075 rfl (by decide +kernel)
theorem im_Judge_pairs : Cond.instanceMethod y_Judge_pairs ∈ xws := xmem 1073 (by decide +kernel) (by decide +kernel)
theorem sl_Judge_pairs : Cond.selects "TwinJudge" y_Judge_pairs y_Judge_pairs ∈ xws := xmem 1074 (by decide +kernel) (by decide +kernel)
theorem ds_Judge_pairs : y_Judge_pairs.cls ≠ "java/lang/invoke/MethodHandle" ∧ y_Judge_pairs.cls ≠ "java/lang/invoke/VarHandle" ∧ (parseMethodDescriptor y_Judge_pairs.desc).map (fun d => d.parameters.length) = some 1 := by decide +kernel
abbrev rm_Judge_pairs (mc ms : Nat) : Room := { frames := 7, cells := mc, slots := ms, locals := 178 }
def y_Circuit_isState : MethodName := ⟨"TwinJudge$Circuit", "isState", "(I)Z"⟩
abbrev b_Circuit_isState : ByteArray := prog_2_method_5_code
set_option maxRecDepth 100000 in
theorem cd_Circuit_isState : Cond.code y_Circuit_isState b_Circuit_isState 2 (some .boolean) ∈ xws := xmem 1090 rfl (by decide +kernel)
theorem im_Circuit_isState : Cond.instanceMethod y_Circuit_isState ∈ xws := xmem 1088 (by decide +kernel) (by decide +kernel)
theorem sl_Circuit_isState : Cond.selects "TwinJudge$Circuit" y_Circuit_isState y_Circuit_isState ∈ xws := xmem 1089 (by decide +kernel) (by decide +kernel)
theorem ds_Circuit_isState : y_Circuit_isState.cls ≠ "java/lang/invoke/MethodHandle" ∧ y_Circuit_isState.cls ≠ "java/lang/invoke/VarHandle" ∧ (parseMethodDescriptor y_Circuit_isState.desc).map (fun d => d.parameters.length) = some 1 := by decide +kernel
abbrev rm_Circuit_isState : Room := { frames := 1, cells := 0, slots := 0, locals := 40 }
def y_Judge_depth : MethodName := ⟨"TwinJudge", "depth", "(II)I"⟩
abbrev b_Judge_depth : ByteArray := prog_1_method_19_code
set_option maxRecDepth 100000 in
theorem cd_Judge_depth : Cond.code y_Judge_depth b_Judge_depth 3 (some .int) ∈ xws := xmem 1086 rfl (by decide +kernel)
theorem im_Judge_depth : Cond.instanceMethod y_Judge_depth ∈ xws := xmem 1084 (by decide +kernel) (by decide +kernel)
theorem sl_Judge_depth : Cond.selects "TwinJudge" y_Judge_depth y_Judge_depth ∈ xws := xmem 1085 (by decide +kernel) (by decide +kernel)
theorem ds_Judge_depth : y_Judge_depth.cls ≠ "java/lang/invoke/MethodHandle" ∧ y_Judge_depth.cls ≠ "java/lang/invoke/VarHandle" ∧ (parseMethodDescriptor y_Judge_depth.desc).map (fun d => d.parameters.length) = some 2 := by decide +kernel
abbrev rm_Judge_depth (mc ms : Nat) : Room := { frames := 7, cells := mc, slots := ms, locals := 178 }
def y_Table_word : MethodName := ⟨"TwinJudge$Table", "word", "(III)I"⟩
abbrev b_Table_word : ByteArray := prog_9_method_9_code
set_option maxRecDepth 100000 in
theorem cd_Table_word : Cond.code y_Table_word b_Table_word 5 (some .int) ∈ xws := xmem 1105 rfl (by decide +kernel)
theorem im_Table_word : Cond.instanceMethod y_Table_word ∈ xws := xmem 1103 (by decide +kernel) (by decide +kernel)
theorem sl_Table_word : Cond.selects "TwinJudge$Table" y_Table_word y_Table_word ∈ xws := xmem 1104 (by decide +kernel) (by decide +kernel)
theorem ds_Table_word : y_Table_word.cls ≠ "java/lang/invoke/MethodHandle" ∧ y_Table_word.cls ≠ "java/lang/invoke/VarHandle" ∧ (parseMethodDescriptor y_Table_word.desc).map (fun d => d.parameters.length) = some 3 := by decide +kernel
abbrev rm_Table_word : Room := { frames := 2, cells := 0, slots := 0, locals := 62 }
def y_Works_agree : MethodName := ⟨"TwinJudge$Works", "agree", "(IIII)Z"⟩
abbrev b_Works_agree : ByteArray := prog_12_method_7_code
set_option maxRecDepth 100000 in
theorem cd_Works_agree : Cond.code y_Works_agree b_Works_agree 7 (some .boolean) ∈ xws := xmem 1101 rfl (by decide +kernel)
theorem im_Works_agree : Cond.instanceMethod y_Works_agree ∈ xws := xmem 1099 (by decide +kernel) (by decide +kernel)
theorem sl_Works_agree : Cond.selects "TwinJudge$Works" y_Works_agree y_Works_agree ∈ xws := xmem 1100 (by decide +kernel) (by decide +kernel)
theorem ds_Works_agree : y_Works_agree.cls ≠ "java/lang/invoke/MethodHandle" ∧ y_Works_agree.cls ≠ "java/lang/invoke/VarHandle" ∧ (parseMethodDescriptor y_Works_agree.desc).map (fun d => d.parameters.length) = some 4 := by decide +kernel
abbrev rm_Works_agree : Room := { frames := 3, cells := 0, slots := 0, locals := 86 }
def y_Judge_same : MethodName := ⟨"TwinJudge", "same", "(IIII)Z"⟩
abbrev b_Judge_same : ByteArray := prog_1_method_20_code
set_option maxRecDepth 100000 in
theorem cd_Judge_same : Cond.code y_Judge_same b_Judge_same 5 (some .boolean) ∈ xws := xmem 1097 rfl (by decide +kernel)
theorem im_Judge_same : Cond.instanceMethod y_Judge_same ∈ xws := xmem 1095 (by decide +kernel) (by decide +kernel)
theorem sl_Judge_same : Cond.selects "TwinJudge" y_Judge_same y_Judge_same ∈ xws := xmem 1096 (by decide +kernel) (by decide +kernel)
theorem ds_Judge_same : y_Judge_same.cls ≠ "java/lang/invoke/MethodHandle" ∧ y_Judge_same.cls ≠ "java/lang/invoke/VarHandle" ∧ (parseMethodDescriptor y_Judge_same.desc).map (fun d => d.parameters.length) = some 4 := by decide +kernel
abbrev rm_Judge_same (mc ms : Nat) : Room := { frames := 7, cells := mc, slots := ms, locals := 178 }
def y_Likeness_findLeader : MethodName := ⟨"TwinJudge$Likeness", "findLeader", "(I)V"⟩
abbrev b_Likeness_findLeader : ByteArray := prog_4_method_4_code
set_option maxRecDepth 100000 in
theorem cd_Likeness_findLeader : Cond.code y_Likeness_findLeader b_Likeness_findLeader 5 none ∈ xws := xmem 1130 rfl (by decide +kernel)
theorem im_Likeness_findLeader : Cond.instanceMethod y_Likeness_findLeader ∈ xws := xmem 1129 (by decide +kernel) (by decide +kernel)
theorem sl_Likeness_findLeader : Cond.selects "TwinJudge$Likeness" y_Likeness_findLeader y_Likeness_findLeader ∈ xws := xmem 48 (by decide +kernel) (by decide +kernel)
theorem ds_Likeness_findLeader : y_Likeness_findLeader.cls ≠ "java/lang/invoke/MethodHandle" ∧ y_Likeness_findLeader.cls ≠ "java/lang/invoke/VarHandle" ∧ (parseMethodDescriptor y_Likeness_findLeader.desc).map (fun d => d.parameters.length) = some 1 := by decide +kernel
abbrev rm_Likeness_findLeader : Room := { frames := 1, cells := 0, slots := 0, locals := 40 }
def y_Likeness_isSplitBy : MethodName := ⟨"TwinJudge$Likeness", "isSplitBy", "(LTwinJudge$Table;I)Z"⟩
abbrev b_Likeness_isSplitBy : ByteArray := prog_4_method_3_code
set_option maxRecDepth 100000 in
theorem cd_Likeness_isSplitBy : Cond.code y_Likeness_isSplitBy b_Likeness_isSplitBy 7 (some .boolean) ∈ xws := xmem 1126 rfl (by decide +kernel)
theorem im_Likeness_isSplitBy : Cond.instanceMethod y_Likeness_isSplitBy ∈ xws := xmem 1125 (by decide +kernel) (by decide +kernel)
theorem sl_Likeness_isSplitBy : Cond.selects "TwinJudge$Likeness" y_Likeness_isSplitBy y_Likeness_isSplitBy ∈ xws := xmem 47 (by decide +kernel) (by decide +kernel)
theorem ds_Likeness_isSplitBy : y_Likeness_isSplitBy.cls ≠ "java/lang/invoke/MethodHandle" ∧ y_Likeness_isSplitBy.cls ≠ "java/lang/invoke/VarHandle" ∧ (parseMethodDescriptor y_Likeness_isSplitBy.desc).map (fun d => d.parameters.length) = some 2 := by decide +kernel
abbrev rm_Likeness_isSplitBy : Room := { frames := 3, cells := 0, slots := 0, locals := 86 }
def y_Likeness_leaveLone : MethodName := ⟨"TwinJudge$Likeness", "leaveLone", "()V"⟩
abbrev b_Likeness_leaveLone : ByteArray := prog_4_method_5_code
set_option maxRecDepth 100000 in
theorem cd_Likeness_leaveLone : Cond.code y_Likeness_leaveLone b_Likeness_leaveLone 3 none ∈ xws := xmem 1134 rfl (by decide +kernel)
theorem im_Likeness_leaveLone : Cond.instanceMethod y_Likeness_leaveLone ∈ xws := xmem 1133 (by decide +kernel) (by decide +kernel)
theorem sl_Likeness_leaveLone : Cond.selects "TwinJudge$Likeness" y_Likeness_leaveLone y_Likeness_leaveLone ∈ xws := xmem 49 (by decide +kernel) (by decide +kernel)
theorem ds_Likeness_leaveLone : y_Likeness_leaveLone.cls ≠ "java/lang/invoke/MethodHandle" ∧ y_Likeness_leaveLone.cls ≠ "java/lang/invoke/VarHandle" ∧ (parseMethodDescriptor y_Likeness_leaveLone.desc).map (fun d => d.parameters.length) = some 0 := by decide +kernel
abbrev rm_Likeness_leaveLone : Room := { frames := 2, cells := 0, slots := 0, locals := 63 }
def y_Likeness_sort : MethodName := ⟨"TwinJudge$Likeness", "sort", "([LTwinJudge$Circuit;LTwinJudge$Table;LTwinJudge$Walk;)V"⟩
abbrev b_Likeness_sort : ByteArray := prog_4_method_2_code
set_option maxRecDepth 100000 in
theorem cd_Likeness_sort : Cond.code y_Likeness_sort b_Likeness_sort 5 none ∈ xws := xmem 1120 rfl (by decide +kernel)
theorem im_Likeness_sort : Cond.instanceMethod y_Likeness_sort ∈ xws := xmem 1118 (by decide +kernel) (by decide +kernel)
theorem sl_Likeness_sort : Cond.selects "TwinJudge$Likeness" y_Likeness_sort y_Likeness_sort ∈ xws := xmem 1119 (by decide +kernel) (by decide +kernel)
theorem ds_Likeness_sort : y_Likeness_sort.cls ≠ "java/lang/invoke/MethodHandle" ∧ y_Likeness_sort.cls ≠ "java/lang/invoke/VarHandle" ∧ (parseMethodDescriptor y_Likeness_sort.desc).map (fun d => d.parameters.length) = some 3 := by decide +kernel
abbrev rm_Likeness_sort : Room := { frames := 4, cells := 0, slots := 0, locals := 112 }
def y_Likeness_firstLike : MethodName := ⟨"TwinJudge$Likeness", "firstLike", "(II)I"⟩
abbrev b_Likeness_firstLike : ByteArray := prog_4_method_6_code
set_option maxRecDepth 100000 in
theorem cd_Likeness_firstLike : Cond.code y_Likeness_firstLike b_Likeness_firstLike 6 (some .int) ∈ xws := xmem 1139 rfl (by decide +kernel)
theorem im_Likeness_firstLike : Cond.instanceMethod y_Likeness_firstLike ∈ xws := xmem 1137 (by decide +kernel) (by decide +kernel)
theorem sl_Likeness_firstLike : Cond.selects "TwinJudge$Likeness" y_Likeness_firstLike y_Likeness_firstLike ∈ xws := xmem 1138 (by decide +kernel) (by decide +kernel)
theorem ds_Likeness_firstLike : y_Likeness_firstLike.cls ≠ "java/lang/invoke/MethodHandle" ∧ y_Likeness_firstLike.cls ≠ "java/lang/invoke/VarHandle" ∧ (parseMethodDescriptor y_Likeness_firstLike.desc).map (fun d => d.parameters.length) = some 2 := by decide +kernel
abbrev rm_Likeness_firstLike : Room := { frames := 1, cells := 0, slots := 0, locals := 40 }
def y_Works_firstLike : MethodName := ⟨"TwinJudge$Works", "firstLike", "(II)I"⟩
abbrev b_Works_firstLike : ByteArray := prog_12_method_8_code
set_option maxRecDepth 100000 in
theorem cd_Works_firstLike : Cond.code y_Works_firstLike b_Works_firstLike 5 (some .int) ∈ xws := xmem 1116 rfl (by decide +kernel)
theorem im_Works_firstLike : Cond.instanceMethod y_Works_firstLike ∈ xws := xmem 1114 (by decide +kernel) (by decide +kernel)
theorem sl_Works_firstLike : Cond.selects "TwinJudge$Works" y_Works_firstLike y_Works_firstLike ∈ xws := xmem 1115 (by decide +kernel) (by decide +kernel)
theorem ds_Works_firstLike : y_Works_firstLike.cls ≠ "java/lang/invoke/MethodHandle" ∧ y_Works_firstLike.cls ≠ "java/lang/invoke/VarHandle" ∧ (parseMethodDescriptor y_Works_firstLike.desc).map (fun d => d.parameters.length) = some 2 := by decide +kernel
abbrev rm_Works_firstLike : Room := { frames := 5, cells := 0, slots := 0, locals := 136 }
def y_Judge_twin : MethodName := ⟨"TwinJudge", "twin", "(II)I"⟩
abbrev b_Judge_twin : ByteArray := prog_1_method_21_code
set_option maxRecDepth 100000 in
theorem cd_Judge_twin : Cond.code y_Judge_twin b_Judge_twin 3 (some .int) ∈ xws := xmem 1112 rfl (by decide +kernel)
theorem im_Judge_twin : Cond.instanceMethod y_Judge_twin ∈ xws := xmem 1110 (by decide +kernel) (by decide +kernel)
theorem sl_Judge_twin : Cond.selects "TwinJudge" y_Judge_twin y_Judge_twin ∈ xws := xmem 1111 (by decide +kernel) (by decide +kernel)
theorem ds_Judge_twin : y_Judge_twin.cls ≠ "java/lang/invoke/MethodHandle" ∧ y_Judge_twin.cls ≠ "java/lang/invoke/VarHandle" ∧ (parseMethodDescriptor y_Judge_twin.desc).map (fun d => d.parameters.length) = some 2 := by decide +kernel
abbrev rm_Judge_twin (mc ms : Nat) : Room := { frames := 7, cells := mc, slots := ms, locals := 178 }
def y_Judge_doubts : MethodName := ⟨"TwinJudge", "doubts", "()I"⟩
abbrev b_Judge_doubts : ByteArray := prog_1_method_22_code
set_option maxRecDepth 100000 in
theorem cd_Judge_doubts : Cond.code y_Judge_doubts b_Judge_doubts 1 (some .int) ∈ xws := xmem 739 rfl (by decide +kernel)
theorem im_Judge_doubts : Cond.instanceMethod y_Judge_doubts ∈ xws := xmem 737 (by decide +kernel) (by decide +kernel)
theorem sl_Judge_doubts : Cond.selects "TwinJudge" y_Judge_doubts y_Judge_doubts ∈ xws := xmem 738 (by decide +kernel) (by decide +kernel)
theorem ds_Judge_doubts : y_Judge_doubts.cls ≠ "java/lang/invoke/MethodHandle" ∧ y_Judge_doubts.cls ≠ "java/lang/invoke/VarHandle" ∧ (parseMethodDescriptor y_Judge_doubts.desc).map (fun d => d.parameters.length) = some 0 := by decide +kernel
abbrev rm_Judge_doubts : Room := { frames := 1, cells := 0, slots := 0, locals := 40 }
def y_Model_init : MethodName := ⟨"TwinJudgeModel", "<init>", "()V"⟩
abbrev b_Model_init : ByteArray := prog_14_method_1_code
set_option maxRecDepth 100000 in
theorem cd_Model_init : Cond.code y_Model_init b_Model_init 1 none ∈ xws := xmem 1145 rfl (by decide +kernel)
theorem im_Model_init : Cond.instanceMethod y_Model_init ∈ xws := xmem 1144 (by decide +kernel) (by decide +kernel)
theorem ds_Model_init : y_Model_init.cls ≠ "java/lang/invoke/MethodHandle" ∧ y_Model_init.cls ≠ "java/lang/invoke/VarHandle" ∧ (parseMethodDescriptor y_Model_init.desc).map (fun d => d.parameters.length) = some 0 := by decide +kernel
abbrev rm_Model_init (mc ms : Nat) : Room := { frames := 1, cells := mc, slots := ms, locals := 40 }
def y_Model_thrown : MethodName := ⟨"TwinJudgeModel", "thrown", "()I"⟩
abbrev b_Model_thrown : ByteArray := prog_14_method_2_code
set_option maxRecDepth 100000 in
theorem cd_Model_thrown : Cond.code y_Model_thrown b_Model_thrown 1 (some .int) ∈ xws := xmem 1310 rfl (by decide +kernel)
theorem im_Model_thrown : Cond.instanceMethod y_Model_thrown ∈ xws := xmem 1308 (by decide +kernel) (by decide +kernel)
theorem sl_Model_thrown : Cond.selects "TwinJudgeModel" y_Model_thrown y_Model_thrown ∈ xws := xmem 1309 (by decide +kernel) (by decide +kernel)
theorem ds_Model_thrown : y_Model_thrown.cls ≠ "java/lang/invoke/MethodHandle" ∧ y_Model_thrown.cls ≠ "java/lang/invoke/VarHandle" ∧ (parseMethodDescriptor y_Model_thrown.desc).map (fun d => d.parameters.length) = some 0 := by decide +kernel
abbrev rm_Model_thrown : Room := { frames := 1, cells := 0, slots := 0, locals := 40 }
def y_Model_fails : MethodName := ⟨"TwinJudgeModel", "fails", "(ZI)Z"⟩
abbrev b_Model_fails : ByteArray := prog_14_method_3_code
set_option maxRecDepth 100000 in
theorem cd_Model_fails : Cond.code y_Model_fails b_Model_fails 3 (some .boolean) ∈ xws := xmem 1490 rfl (by decide +kernel)
theorem im_Model_fails : Cond.instanceMethod y_Model_fails ∈ xws := xmem 1489 (by decide +kernel) (by decide +kernel)
theorem sl_Model_fails : Cond.selects "TwinJudgeModel" y_Model_fails y_Model_fails ∈ xws := xmem 80 (by decide +kernel) (by decide +kernel)
theorem ds_Model_fails : y_Model_fails.cls ≠ "java/lang/invoke/MethodHandle" ∧ y_Model_fails.cls ≠ "java/lang/invoke/VarHandle" ∧ (parseMethodDescriptor y_Model_fails.desc).map (fun d => d.parameters.length) = some 2 := by decide +kernel
abbrev rm_Model_fails : Room := { frames := 1, cells := 0, slots := 0, locals := 40 }
def y_Model_feed : MethodName := ⟨"TwinJudgeModel", "feed", "(IIIII)V"⟩
abbrev b_Model_feed : ByteArray := prog_14_method_4_code
set_option maxRecDepth 100000 in
theorem cd_Model_feed : Cond.code y_Model_feed b_Model_feed 8 none ∈ xws := xmem 1314 rfl (by decide +kernel)
theorem im_Model_feed : Cond.instanceMethod y_Model_feed ∈ xws := xmem 1312 (by decide +kernel) (by decide +kernel)
theorem sl_Model_feed : Cond.selects "TwinJudgeModel" y_Model_feed y_Model_feed ∈ xws := xmem 1313 (by decide +kernel) (by decide +kernel)
theorem ds_Model_feed : y_Model_feed.cls ≠ "java/lang/invoke/MethodHandle" ∧ y_Model_feed.cls ≠ "java/lang/invoke/VarHandle" ∧ (parseMethodDescriptor y_Model_feed.desc).map (fun d => d.parameters.length) = some 5 := by decide +kernel
abbrev rm_Model_feed : Room := { frames := 1, cells := 0, slots := 0, locals := 40 }
def y_Model_end : MethodName := ⟨"TwinJudgeModel", "end", "(I)I"⟩
abbrev b_Model_end : ByteArray := prog_14_method_5_code
set_option maxRecDepth 100000 in
theorem cd_Model_end : Cond.code y_Model_end b_Model_end 3 (some .int) ∈ xws := xmem 1318 rfl (by decide +kernel)
theorem im_Model_end : Cond.instanceMethod y_Model_end ∈ xws := xmem 1316 (by decide +kernel) (by decide +kernel)
theorem sl_Model_end : Cond.selects "TwinJudgeModel" y_Model_end y_Model_end ∈ xws := xmem 1317 (by decide +kernel) (by decide +kernel)
theorem ds_Model_end : y_Model_end.cls ≠ "java/lang/invoke/MethodHandle" ∧ y_Model_end.cls ≠ "java/lang/invoke/VarHandle" ∧ (parseMethodDescriptor y_Model_end.desc).map (fun d => d.parameters.length) = some 1 := by decide +kernel
abbrev rm_Model_end : Room := { frames := 1, cells := 0, slots := 0, locals := 40 }
def y_Model_here : MethodName := ⟨"TwinJudgeModel", "here", "()I"⟩
abbrev b_Model_here : ByteArray := prog_14_method_6_code
set_option maxRecDepth 100000 in
theorem cd_Model_here : Cond.code y_Model_here b_Model_here 1 (some .int) ∈ xws := xmem 1341 rfl (by decide +kernel)
theorem im_Model_here : Cond.instanceMethod y_Model_here ∈ xws := xmem 1340 (by decide +kernel) (by decide +kernel)
theorem sl_Model_here : Cond.selects "TwinJudgeModel" y_Model_here y_Model_here ∈ xws := xmem 53 (by decide +kernel) (by decide +kernel)
theorem ds_Model_here : y_Model_here.cls ≠ "java/lang/invoke/MethodHandle" ∧ y_Model_here.cls ≠ "java/lang/invoke/VarHandle" ∧ (parseMethodDescriptor y_Model_here.desc).map (fun d => d.parameters.length) = some 0 := by decide +kernel
abbrev rm_Model_here : Room := { frames := 1, cells := 0, slots := 0, locals := 40 }
def y_Model_wrong : MethodName := ⟨"TwinJudgeModel", "wrong", "(II)V"⟩
abbrev b_Model_wrong : ByteArray := prog_14_method_7_code
set_option maxRecDepth 100000 in
theorem cd_Model_wrong : Cond.code y_Model_wrong b_Model_wrong 3 none ∈ xws := xmem 1345 rfl (by decide +kernel)
theorem im_Model_wrong : Cond.instanceMethod y_Model_wrong ∈ xws := xmem 1344 (by decide +kernel) (by decide +kernel)
theorem sl_Model_wrong : Cond.selects "TwinJudgeModel" y_Model_wrong y_Model_wrong ∈ xws := xmem 54 (by decide +kernel) (by decide +kernel)
theorem ds_Model_wrong : y_Model_wrong.cls ≠ "java/lang/invoke/MethodHandle" ∧ y_Model_wrong.cls ≠ "java/lang/invoke/VarHandle" ∧ (parseMethodDescriptor y_Model_wrong.desc).map (fun d => d.parameters.length) = some 2 := by decide +kernel
abbrev rm_Model_wrong : Room := { frames := 1, cells := 0, slots := 0, locals := 40 }
def y_Model_take : MethodName := ⟨"TwinJudgeModel", "take", "(I)V"⟩
abbrev b_Model_take : ByteArray := prog_14_method_8_code
set_option maxRecDepth 100000 in
theorem cd_Model_take : Cond.code y_Model_take b_Model_take 2 none ∈ xws := xmem 1337 rfl (by decide +kernel)
theorem im_Model_take : Cond.instanceMethod y_Model_take ∈ xws := xmem 1336 (by decide +kernel) (by decide +kernel)
theorem sl_Model_take : Cond.selects "TwinJudgeModel" y_Model_take y_Model_take ∈ xws := xmem 52 (by decide +kernel) (by decide +kernel)
theorem ds_Model_take : y_Model_take.cls ≠ "java/lang/invoke/MethodHandle" ∧ y_Model_take.cls ≠ "java/lang/invoke/VarHandle" ∧ (parseMethodDescriptor y_Model_take.desc).map (fun d => d.parameters.length) = some 1 := by decide +kernel
abbrev rm_Model_take : Room := { frames := 2, cells := 0, slots := 0, locals := 62 }
def y_Model_isDigit : MethodName := ⟨"TwinJudgeModel", "isDigit", "()Z"⟩
abbrev b_Model_isDigit : ByteArray := prog_14_method_9_code
set_option maxRecDepth 100000 in
theorem cd_Model_isDigit : Cond.code y_Model_isDigit b_Model_isDigit 1 (some .boolean) ∈ xws := xmem 1353 rfl (by decide +kernel)
theorem im_Model_isDigit : Cond.instanceMethod y_Model_isDigit ∈ xws := xmem 1352 (by decide +kernel) (by decide +kernel)
theorem sl_Model_isDigit : Cond.selects "TwinJudgeModel" y_Model_isDigit y_Model_isDigit ∈ xws := xmem 56 (by decide +kernel) (by decide +kernel)
theorem ds_Model_isDigit : y_Model_isDigit.cls ≠ "java/lang/invoke/MethodHandle" ∧ y_Model_isDigit.cls ≠ "java/lang/invoke/VarHandle" ∧ (parseMethodDescriptor y_Model_isDigit.desc).map (fun d => d.parameters.length) = some 0 := by decide +kernel
abbrev rm_Model_isDigit : Room := { frames := 2, cells := 0, slots := 0, locals := 60 }
def y_Model_takeNumber : MethodName := ⟨"TwinJudgeModel", "takeNumber", "()V"⟩
abbrev b_Model_takeNumber : ByteArray := prog_14_method_10_code
set_option maxRecDepth 100000 in
theorem cd_Model_takeNumber : Cond.code y_Model_takeNumber b_Model_takeNumber 2 none ∈ xws := xmem 1349 rfl (by decide +kernel)
theorem im_Model_takeNumber : Cond.instanceMethod y_Model_takeNumber ∈ xws := xmem 1348 (by decide +kernel) (by decide +kernel)
theorem sl_Model_takeNumber : Cond.selects "TwinJudgeModel" y_Model_takeNumber y_Model_takeNumber ∈ xws := xmem 55 (by decide +kernel) (by decide +kernel)
theorem ds_Model_takeNumber : y_Model_takeNumber.cls ≠ "java/lang/invoke/MethodHandle" ∧ y_Model_takeNumber.cls ≠ "java/lang/invoke/VarHandle" ∧ (parseMethodDescriptor y_Model_takeNumber.desc).map (fun d => d.parameters.length) = some 0 := by decide +kernel
abbrev rm_Model_takeNumber : Room := { frames := 3, cells := 0, slots := 0, locals := 80 }
def y_Model_literal : MethodName := ⟨"TwinJudgeModel", "literal", "()I"⟩
abbrev b_Model_literal : ByteArray := prog_14_method_11_code
set_option maxRecDepth 100000 in
theorem cd_Model_literal : Cond.code y_Model_literal b_Model_literal 2 (some .int) ∈ xws := xmem 1369 rfl (by decide +kernel)
theorem im_Model_literal : Cond.instanceMethod y_Model_literal ∈ xws := xmem 1368 (by decide +kernel) (by decide +kernel)
theorem sl_Model_literal : Cond.selects "TwinJudgeModel" y_Model_literal y_Model_literal ∈ xws := xmem 60 (by decide +kernel) (by decide +kernel)
theorem ds_Model_literal : y_Model_literal.cls ≠ "java/lang/invoke/MethodHandle" ∧ y_Model_literal.cls ≠ "java/lang/invoke/VarHandle" ∧ (parseMethodDescriptor y_Model_literal.desc).map (fun d => d.parameters.length) = some 0 := by decide +kernel
abbrev rm_Model_literal : Room := { frames := 4, cells := 0, slots := 0, locals := 101 }
def y_Model_define : MethodName := ⟨"TwinJudgeModel", "define", "(III)V"⟩
abbrev b_Model_define : ByteArray := prog_14_method_13_code
set_option maxRecDepth 100000 in
theorem cd_Model_define : Cond.code y_Model_define b_Model_define 4 none ∈ xws := xmem 1361 rfl (by decide +kernel)
theorem im_Model_define : Cond.instanceMethod y_Model_define ∈ xws := xmem 1360 (by decide +kernel) (by decide +kernel)
theorem sl_Model_define : Cond.selects "TwinJudgeModel" y_Model_define y_Model_define ∈ xws := xmem 58 (by decide +kernel) (by decide +kernel)
theorem ds_Model_define : y_Model_define.cls ≠ "java/lang/invoke/MethodHandle" ∧ y_Model_define.cls ≠ "java/lang/invoke/VarHandle" ∧ (parseMethodDescriptor y_Model_define.desc).map (fun d => d.parameters.length) = some 3 := by decide +kernel
abbrev rm_Model_define : Room := { frames := 1, cells := 0, slots := 0, locals := 40 }
def y_Model_defines : MethodName := ⟨"TwinJudgeModel", "defines", "(II)I"⟩
abbrev b_Model_defines : ByteArray := prog_14_method_12_code
set_option maxRecDepth 100000 in
theorem cd_Model_defines : Cond.code y_Model_defines b_Model_defines 5 (some .int) ∈ xws := xmem 1385 rfl (by decide +kernel)
theorem im_Model_defines : Cond.instanceMethod y_Model_defines ∈ xws := xmem 1384 (by decide +kernel) (by decide +kernel)
theorem sl_Model_defines : Cond.selects "TwinJudgeModel" y_Model_defines y_Model_defines ∈ xws := xmem 64 (by decide +kernel) (by decide +kernel)
theorem ds_Model_defines : y_Model_defines.cls ≠ "java/lang/invoke/MethodHandle" ∧ y_Model_defines.cls ≠ "java/lang/invoke/VarHandle" ∧ (parseMethodDescriptor y_Model_defines.desc).map (fun d => d.parameters.length) = some 2 := by decide +kernel
abbrev rm_Model_defines : Room := { frames := 5, cells := 0, slots := 0, locals := 122 }
def y_Model_takeHead : MethodName := ⟨"TwinJudgeModel", "takeHead", "()Z"⟩
abbrev b_Model_takeHead : ByteArray := prog_14_method_14_code
set_option maxRecDepth 100000 in
theorem cd_Model_takeHead : Cond.code y_Model_takeHead b_Model_takeHead 4 (some .boolean) ∈ xws := xmem 1333 rfl (by decide +kernel)
theorem im_Model_takeHead : Cond.instanceMethod y_Model_takeHead ∈ xws := xmem 1332 (by decide +kernel) (by decide +kernel)
theorem sl_Model_takeHead : Cond.selects "TwinJudgeModel" y_Model_takeHead y_Model_takeHead ∈ xws := xmem 51 (by decide +kernel) (by decide +kernel)
theorem ds_Model_takeHead : y_Model_takeHead.cls ≠ "java/lang/invoke/MethodHandle" ∧ y_Model_takeHead.cls ≠ "java/lang/invoke/VarHandle" ∧ (parseMethodDescriptor y_Model_takeHead.desc).map (fun d => d.parameters.length) = some 0 := by decide +kernel
abbrev rm_Model_takeHead : Room := { frames := 4, cells := 0, slots := 0, locals := 101 }
def y_Model_takeNext : MethodName := ⟨"TwinJudgeModel", "takeNext", "(I)V"⟩
abbrev b_Model_takeNext : ByteArray := prog_14_method_16_code
set_option maxRecDepth 100000 in
theorem cd_Model_takeNext : Cond.code y_Model_takeNext b_Model_takeNext 2 none ∈ xws := xmem 1365 rfl (by decide +kernel)
theorem im_Model_takeNext : Cond.instanceMethod y_Model_takeNext ∈ xws := xmem 1364 (by decide +kernel) (by decide +kernel)
theorem sl_Model_takeNext : Cond.selects "TwinJudgeModel" y_Model_takeNext y_Model_takeNext ∈ xws := xmem 59 (by decide +kernel) (by decide +kernel)
theorem ds_Model_takeNext : y_Model_takeNext.cls ≠ "java/lang/invoke/MethodHandle" ∧ y_Model_takeNext.cls ≠ "java/lang/invoke/VarHandle" ∧ (parseMethodDescriptor y_Model_takeNext.desc).map (fun d => d.parameters.length) = some 1 := by decide +kernel
abbrev rm_Model_takeNext : Room := { frames := 5, cells := 0, slots := 0, locals := 122 }
def y_Model_takeOutputs : MethodName := ⟨"TwinJudgeModel", "takeOutputs", "()V"⟩
abbrev b_Model_takeOutputs : ByteArray := prog_14_method_17_code
set_option maxRecDepth 100000 in
theorem cd_Model_takeOutputs : Cond.code y_Model_takeOutputs b_Model_takeOutputs 2 none ∈ xws := xmem 1373 rfl (by decide +kernel)
theorem im_Model_takeOutputs : Cond.instanceMethod y_Model_takeOutputs ∈ xws := xmem 1372 (by decide +kernel) (by decide +kernel)
theorem sl_Model_takeOutputs : Cond.selects "TwinJudgeModel" y_Model_takeOutputs y_Model_takeOutputs ∈ xws := xmem 61 (by decide +kernel) (by decide +kernel)
theorem ds_Model_takeOutputs : y_Model_takeOutputs.cls ≠ "java/lang/invoke/MethodHandle" ∧ y_Model_takeOutputs.cls ≠ "java/lang/invoke/VarHandle" ∧ (parseMethodDescriptor y_Model_takeOutputs.desc).map (fun d => d.parameters.length) = some 0 := by decide +kernel
abbrev rm_Model_takeOutputs : Room := { frames := 5, cells := 0, slots := 0, locals := 122 }
def y_Model_takeText : MethodName := ⟨"TwinJudgeModel", "takeText", "()V"⟩
abbrev b_Model_takeText : ByteArray := prog_14_method_15_code
set_option maxRecDepth 100000 in
theorem cd_Model_takeText : Cond.code y_Model_takeText b_Model_takeText 2 none ∈ xws := xmem 1381 rfl (by decide +kernel)
theorem im_Model_takeText : Cond.instanceMethod y_Model_takeText ∈ xws := xmem 1380 (by decide +kernel) (by decide +kernel)
theorem sl_Model_takeText : Cond.selects "TwinJudgeModel" y_Model_takeText y_Model_takeText ∈ xws := xmem 63 (by decide +kernel) (by decide +kernel)
theorem ds_Model_takeText : y_Model_takeText.cls ≠ "java/lang/invoke/MethodHandle" ∧ y_Model_takeText.cls ≠ "java/lang/invoke/VarHandle" ∧ (parseMethodDescriptor y_Model_takeText.desc).map (fun d => d.parameters.length) = some 0 := by decide +kernel
abbrev rm_Model_takeText : Room := { frames := 6, cells := 0, slots := 0, locals := 146 }
def y_Model_delta : MethodName := ⟨"TwinJudgeModel", "delta", "(II)I"⟩
abbrev b_Model_delta : ByteArray := prog_14_method_18_code
set_option maxRecDepth 100000 in
theorem cd_Model_delta : Cond.code y_Model_delta b_Model_delta 8 (some .int) ∈ xws := xmem 1377 rfl (by decide +kernel)
theorem im_Model_delta : Cond.instanceMethod y_Model_delta ∈ xws := xmem 1376 (by decide +kernel) (by decide +kernel)
theorem sl_Model_delta : Cond.selects "TwinJudgeModel" y_Model_delta y_Model_delta ∈ xws := xmem 62 (by decide +kernel) (by decide +kernel)
theorem ds_Model_delta : y_Model_delta.cls ≠ "java/lang/invoke/MethodHandle" ∧ y_Model_delta.cls ≠ "java/lang/invoke/VarHandle" ∧ (parseMethodDescriptor y_Model_delta.desc).map (fun d => d.parameters.length) = some 2 := by decide +kernel
abbrev rm_Model_delta : Room := { frames := 2, cells := 0, slots := 0, locals := 62 }
def y_Model_takeBinary : MethodName := ⟨"TwinJudgeModel", "takeBinary", "()V"⟩
abbrev b_Model_takeBinary : ByteArray := prog_14_method_19_code
set_option maxRecDepth 100000 in
theorem cd_Model_takeBinary : Cond.code y_Model_takeBinary b_Model_takeBinary 5 none ∈ xws := xmem 1357 rfl (by decide +kernel)
theorem im_Model_takeBinary : Cond.instanceMethod y_Model_takeBinary ∈ xws := xmem 1356 (by decide +kernel) (by decide +kernel)
theorem sl_Model_takeBinary : Cond.selects "TwinJudgeModel" y_Model_takeBinary y_Model_takeBinary ∈ xws := xmem 57 (by decide +kernel) (by decide +kernel)
theorem ds_Model_takeBinary : y_Model_takeBinary.cls ≠ "java/lang/invoke/MethodHandle" ∧ y_Model_takeBinary.cls ≠ "java/lang/invoke/VarHandle" ∧ (parseMethodDescriptor y_Model_takeBinary.desc).map (fun d => d.parameters.length) = some 0 := by decide +kernel
abbrev rm_Model_takeBinary : Room := { frames := 6, cells := 0, slots := 0, locals := 143 }
def y_Model_takeSymbols : MethodName := ⟨"TwinJudgeModel", "takeSymbols", "()V"⟩
abbrev b_Model_takeSymbols : ByteArray := prog_14_method_20_code
set_option maxRecDepth 100000 in
theorem cd_Model_takeSymbols : Cond.code y_Model_takeSymbols b_Model_takeSymbols 3 none ∈ xws := xmem 1389 rfl (by decide +kernel)
theorem im_Model_takeSymbols : Cond.instanceMethod y_Model_takeSymbols ∈ xws := xmem 1388 (by decide +kernel) (by decide +kernel)
theorem sl_Model_takeSymbols : Cond.selects "TwinJudgeModel" y_Model_takeSymbols y_Model_takeSymbols ∈ xws := xmem 65 (by decide +kernel) (by decide +kernel)
theorem ds_Model_takeSymbols : y_Model_takeSymbols.cls ≠ "java/lang/invoke/MethodHandle" ∧ y_Model_takeSymbols.cls ≠ "java/lang/invoke/VarHandle" ∧ (parseMethodDescriptor y_Model_takeSymbols.desc).map (fun d => d.parameters.length) = some 0 := by decide +kernel
abbrev rm_Model_takeSymbols : Room := { frames := 4, cells := 0, slots := 0, locals := 101 }
def y_Model_isNowhere : MethodName := ⟨"TwinJudgeModel", "isNowhere", "(I)Z"⟩
abbrev b_Model_isNowhere : ByteArray := prog_14_method_21_code
set_option maxRecDepth 100000 in
theorem cd_Model_isNowhere : Cond.code y_Model_isNowhere b_Model_isNowhere 2 (some .boolean) ∈ xws := xmem 1397 rfl (by decide +kernel)
theorem im_Model_isNowhere : Cond.instanceMethod y_Model_isNowhere ∈ xws := xmem 1396 (by decide +kernel) (by decide +kernel)
theorem sl_Model_isNowhere : Cond.selects "TwinJudgeModel" y_Model_isNowhere y_Model_isNowhere ∈ xws := xmem 67 (by decide +kernel) (by decide +kernel)
theorem ds_Model_isNowhere : y_Model_isNowhere.cls ≠ "java/lang/invoke/MethodHandle" ∧ y_Model_isNowhere.cls ≠ "java/lang/invoke/VarHandle" ∧ (parseMethodDescriptor y_Model_isNowhere.desc).map (fun d => d.parameters.length) = some 1 := by decide +kernel
abbrev rm_Model_isNowhere : Room := { frames := 1, cells := 0, slots := 0, locals := 40 }
def y_Model_findNowhere : MethodName := ⟨"TwinJudgeModel", "findNowhere", "()V"⟩
abbrev b_Model_findNowhere : ByteArray := prog_14_method_22_code
set_option maxRecDepth 100000 in
theorem cd_Model_findNowhere : Cond.code y_Model_findNowhere b_Model_findNowhere 2 none ∈ xws := xmem 1393 rfl (by decide +kernel)
theorem im_Model_findNowhere : Cond.instanceMethod y_Model_findNowhere ∈ xws := xmem 1392 (by decide +kernel) (by decide +kernel)
theorem sl_Model_findNowhere : Cond.selects "TwinJudgeModel" y_Model_findNowhere y_Model_findNowhere ∈ xws := xmem 66 (by decide +kernel) (by decide +kernel)
theorem ds_Model_findNowhere : y_Model_findNowhere.cls ≠ "java/lang/invoke/MethodHandle" ∧ y_Model_findNowhere.cls ≠ "java/lang/invoke/VarHandle" ∧ (parseMethodDescriptor y_Model_findNowhere.desc).map (fun d => d.parameters.length) = some 0 := by decide +kernel
abbrev rm_Model_findNowhere : Room := { frames := 2, cells := 0, slots := 0, locals := 62 }
def y_Model_hasCome : MethodName := ⟨"TwinJudgeModel", "hasCome", "(I)Z"⟩
abbrev b_Model_hasCome : ByteArray := prog_14_method_23_code
set_option maxRecDepth 100000 in
theorem cd_Model_hasCome : Cond.code y_Model_hasCome b_Model_hasCome 2 (some .boolean) ∈ xws := xmem 1409 rfl (by decide +kernel)
theorem im_Model_hasCome : Cond.instanceMethod y_Model_hasCome ∈ xws := xmem 1408 (by decide +kernel) (by decide +kernel)
theorem sl_Model_hasCome : Cond.selects "TwinJudgeModel" y_Model_hasCome y_Model_hasCome ∈ xws := xmem 70 (by decide +kernel) (by decide +kernel)
theorem ds_Model_hasCome : y_Model_hasCome.cls ≠ "java/lang/invoke/MethodHandle" ∧ y_Model_hasCome.cls ≠ "java/lang/invoke/VarHandle" ∧ (parseMethodDescriptor y_Model_hasCome.desc).map (fun d => d.parameters.length) = some 1 := by decide +kernel
abbrev rm_Model_hasCome : Room := { frames := 1, cells := 0, slots := 0, locals := 40 }
def y_Model_sort : MethodName := ⟨"TwinJudgeModel", "sort", "()V"⟩
abbrev b_Model_sort : ByteArray := prog_14_method_24_code
set_option maxRecDepth 100000 in
theorem cd_Model_sort : Cond.code y_Model_sort b_Model_sort 3 none ∈ xws := xmem 1405 rfl (by decide +kernel)
theorem im_Model_sort : Cond.instanceMethod y_Model_sort ∈ xws := xmem 1404 (by decide +kernel) (by decide +kernel)
theorem sl_Model_sort : Cond.selects "TwinJudgeModel" y_Model_sort y_Model_sort ∈ xws := xmem 69 (by decide +kernel) (by decide +kernel)
theorem ds_Model_sort : y_Model_sort.cls ≠ "java/lang/invoke/MethodHandle" ∧ y_Model_sort.cls ≠ "java/lang/invoke/VarHandle" ∧ (parseMethodDescriptor y_Model_sort.desc).map (fun d => d.parameters.length) = some 0 := by decide +kernel
abbrev rm_Model_sort : Room := { frames := 2, cells := 0, slots := 0, locals := 61 }
def y_Model_hangs : MethodName := ⟨"TwinJudgeModel", "hangs", "(I)Z"⟩
abbrev b_Model_hangs : ByteArray := prog_14_method_25_code
set_option maxRecDepth 100000 in
theorem cd_Model_hangs : Cond.code y_Model_hangs b_Model_hangs 9 (some .boolean) ∈ xws := xmem 1413 rfl (by decide +kernel)
theorem im_Model_hangs : Cond.instanceMethod y_Model_hangs ∈ xws := xmem 1412 (by decide +kernel) (by decide +kernel)
theorem sl_Model_hangs : Cond.selects "TwinJudgeModel" y_Model_hangs y_Model_hangs ∈ xws := xmem 71 (by decide +kernel) (by decide +kernel)
theorem ds_Model_hangs : y_Model_hangs.cls ≠ "java/lang/invoke/MethodHandle" ∧ y_Model_hangs.cls ≠ "java/lang/invoke/VarHandle" ∧ (parseMethodDescriptor y_Model_hangs.desc).map (fun d => d.parameters.length) = some 1 := by decide +kernel
abbrev rm_Model_hangs : Room := { frames := 1, cells := 0, slots := 0, locals := 40 }
def y_Model_findRing : MethodName := ⟨"TwinJudgeModel", "findRing", "()V"⟩
abbrev b_Model_findRing : ByteArray := prog_14_method_26_code
set_option maxRecDepth 100000 in
theorem cd_Model_findRing : Cond.code y_Model_findRing b_Model_findRing 2 none ∈ xws := xmem 1401 rfl (by decide +kernel)
theorem im_Model_findRing : Cond.instanceMethod y_Model_findRing ∈ xws := xmem 1400 (by decide +kernel) (by decide +kernel)
theorem sl_Model_findRing : Cond.selects "TwinJudgeModel" y_Model_findRing y_Model_findRing ∈ xws := xmem 68 (by decide +kernel) (by decide +kernel)
theorem ds_Model_findRing : y_Model_findRing.cls ≠ "java/lang/invoke/MethodHandle" ∧ y_Model_findRing.cls ≠ "java/lang/invoke/VarHandle" ∧ (parseMethodDescriptor y_Model_findRing.desc).map (fun d => d.parameters.length) = some 0 := by decide +kernel
abbrev rm_Model_findRing : Room := { frames := 3, cells := 0, slots := 0, locals := 83 }
def y_Model_keep : MethodName := ⟨"TwinJudgeModel", "keep", "(I)V"⟩
abbrev b_Model_keep : ByteArray := prog_14_method_27_code
set_option maxRecDepth 100000 in
theorem cd_Model_keep : Cond.code y_Model_keep b_Model_keep 3 none ∈ xws := xmem 1417 rfl (by decide +kernel)
theorem im_Model_keep : Cond.instanceMethod y_Model_keep ∈ xws := xmem 1416 (by decide +kernel) (by decide +kernel)
theorem sl_Model_keep : Cond.selects "TwinJudgeModel" y_Model_keep y_Model_keep ∈ xws := xmem 72 (by decide +kernel) (by decide +kernel)
theorem ds_Model_keep : y_Model_keep.cls ≠ "java/lang/invoke/MethodHandle" ∧ y_Model_keep.cls ≠ "java/lang/invoke/VarHandle" ∧ (parseMethodDescriptor y_Model_keep.desc).map (fun d => d.parameters.length) = some 1 := by decide +kernel
abbrev rm_Model_keep : Room := { frames := 1, cells := 0, slots := 0, locals := 40 }
def y_Model_isCircuit : MethodName := ⟨"TwinJudgeModel", "isCircuit", "(I)Z"⟩
abbrev b_Model_isCircuit : ByteArray := prog_14_method_29_code
set_option maxRecDepth 100000 in
theorem cd_Model_isCircuit : Cond.code y_Model_isCircuit b_Model_isCircuit 1 (some .boolean) ∈ xws := xmem 1325 rfl (by decide +kernel)
theorem im_Model_isCircuit : Cond.static y_Model_isCircuit ∈ xws := xmem 1324 (by decide +kernel) (by decide +kernel)
theorem ds_Model_isCircuit : y_Model_isCircuit.cls ≠ "java/lang/invoke/MethodHandle" ∧ y_Model_isCircuit.cls ≠ "java/lang/invoke/VarHandle" ∧ (parseMethodDescriptor y_Model_isCircuit.desc).map (fun d => d.parameters.length) = some 1 := by decide +kernel
abbrev rm_Model_isCircuit : Room := { frames := 1, cells := 0, slots := 0, locals := 40 }
def y_Model_read : MethodName := ⟨"TwinJudgeModel", "read", "()V"⟩
abbrev b_Model_read : ByteArray := prog_14_method_30_code
set_option maxRecDepth 100000 in
theorem cd_Model_read : Cond.code y_Model_read b_Model_read 2 none ∈ xws := xmem 1329 rfl (by decide +kernel)
theorem im_Model_read : Cond.instanceMethod y_Model_read ∈ xws := xmem 1328 (by decide +kernel) (by decide +kernel)
theorem sl_Model_read : Cond.selects "TwinJudgeModel" y_Model_read y_Model_read ∈ xws := xmem 50 (by decide +kernel) (by decide +kernel)
theorem ds_Model_read : y_Model_read.cls ≠ "java/lang/invoke/MethodHandle" ∧ y_Model_read.cls ≠ "java/lang/invoke/VarHandle" ∧ (parseMethodDescriptor y_Model_read.desc).map (fun d => d.parameters.length) = some 0 := by decide +kernel
abbrev rm_Model_read : Room := { frames := 7, cells := 0, slots := 0, locals := 167 }
def y_Model_load : MethodName := ⟨"TwinJudgeModel", "load", "(I)I"⟩
abbrev b_Model_load : ByteArray := prog_14_method_28_code
set_option maxRecDepth 100000 in
theorem cd_Model_load : Cond.code y_Model_load b_Model_load 3 (some .int) ∈ xws := xmem 1322 rfl (by decide +kernel)
theorem im_Model_load : Cond.instanceMethod y_Model_load ∈ xws := xmem 1320 (by decide +kernel) (by decide +kernel)
theorem sl_Model_load : Cond.selects "TwinJudgeModel" y_Model_load y_Model_load ∈ xws := xmem 1321 (by decide +kernel) (by decide +kernel)
theorem ds_Model_load : y_Model_load.cls ≠ "java/lang/invoke/MethodHandle" ∧ y_Model_load.cls ≠ "java/lang/invoke/VarHandle" ∧ (parseMethodDescriptor y_Model_load.desc).map (fun d => d.parameters.length) = some 1 := by decide +kernel
abbrev rm_Model_load : Room := { frames := 8, cells := 0, slots := 0, locals := 188 }
def y_Model_fault : MethodName := ⟨"TwinJudgeModel", "fault", "(I)I"⟩
abbrev b_Model_fault : ByteArray := prog_14_method_31_code
set_option maxRecDepth 100000 in
theorem cd_Model_fault : Cond.code y_Model_fault b_Model_fault 2 (some .int) ∈ xws := xmem 1421 rfl (by decide +kernel)
theorem im_Model_fault : Cond.instanceMethod y_Model_fault ∈ xws := xmem 1419 (by decide +kernel) (by decide +kernel)
theorem sl_Model_fault : Cond.selects "TwinJudgeModel" y_Model_fault y_Model_fault ∈ xws := xmem 1420 (by decide +kernel) (by decide +kernel)
theorem ds_Model_fault : y_Model_fault.cls ≠ "java/lang/invoke/MethodHandle" ∧ y_Model_fault.cls ≠ "java/lang/invoke/VarHandle" ∧ (parseMethodDescriptor y_Model_fault.desc).map (fun d => d.parameters.length) = some 1 := by decide +kernel
abbrev rm_Model_fault : Room := { frames := 1, cells := 0, slots := 0, locals := 40 }
def y_Model_isThere : MethodName := ⟨"TwinJudgeModel", "isThere", "(I)Z"⟩
abbrev b_Model_isThere : ByteArray := prog_14_method_32_code
set_option maxRecDepth 100000 in
theorem cd_Model_isThere : Cond.code y_Model_isThere b_Model_isThere 2 (some .boolean) ∈ xws := xmem 1429 rfl (by decide +kernel)
theorem im_Model_isThere : Cond.instanceMethod y_Model_isThere ∈ xws := xmem 1428 (by decide +kernel) (by decide +kernel)
theorem sl_Model_isThere : Cond.selects "TwinJudgeModel" y_Model_isThere y_Model_isThere ∈ xws := xmem 73 (by decide +kernel) (by decide +kernel)
theorem ds_Model_isThere : y_Model_isThere.cls ≠ "java/lang/invoke/MethodHandle" ∧ y_Model_isThere.cls ≠ "java/lang/invoke/VarHandle" ∧ (parseMethodDescriptor y_Model_isThere.desc).map (fun d => d.parameters.length) = some 1 := by decide +kernel
abbrev rm_Model_isThere : Room := { frames := 2, cells := 0, slots := 0, locals := 60 }
def y_Model_many : MethodName := ⟨"TwinJudgeModel", "many", "(II)I"⟩
abbrev b_Model_many : ByteArray := prog_14_method_33_code
set_option maxRecDepth 100000 in
theorem cd_Model_many : Cond.code y_Model_many b_Model_many 3 (some .int) ∈ xws := xmem 1425 rfl (by decide +kernel)
theorem im_Model_many : Cond.instanceMethod y_Model_many ∈ xws := xmem 1423 (by decide +kernel) (by decide +kernel)
theorem sl_Model_many : Cond.selects "TwinJudgeModel" y_Model_many y_Model_many ∈ xws := xmem 1424 (by decide +kernel) (by decide +kernel)
theorem ds_Model_many : y_Model_many.cls ≠ "java/lang/invoke/MethodHandle" ∧ y_Model_many.cls ≠ "java/lang/invoke/VarHandle" ∧ (parseMethodDescriptor y_Model_many.desc).map (fun d => d.parameters.length) = some 2 := by decide +kernel
abbrev rm_Model_many : Room := { frames := 3, cells := 0, slots := 0, locals := 81 }
def y_Model_symbol : MethodName := ⟨"TwinJudgeModel", "symbol", "(IIII)I"⟩
abbrev b_Model_symbol : ByteArray := prog_14_method_34_code
set_option maxRecDepth 100000 in
theorem cd_Model_symbol : Cond.code y_Model_symbol b_Model_symbol 6 (some .int) ∈ xws := xmem 1433 rfl (by decide +kernel)
theorem im_Model_symbol : Cond.instanceMethod y_Model_symbol ∈ xws := xmem 1431 (by decide +kernel) (by decide +kernel)
theorem sl_Model_symbol : Cond.selects "TwinJudgeModel" y_Model_symbol y_Model_symbol ∈ xws := xmem 1432 (by decide +kernel) (by decide +kernel)
theorem ds_Model_symbol : y_Model_symbol.cls ≠ "java/lang/invoke/MethodHandle" ∧ y_Model_symbol.cls ≠ "java/lang/invoke/VarHandle" ∧ (parseMethodDescriptor y_Model_symbol.desc).map (fun d => d.parameters.length) = some 4 := by decide +kernel
abbrev rm_Model_symbol : Room := { frames := 3, cells := 0, slots := 0, locals := 81 }
def y_Model_vectors : MethodName := ⟨"TwinJudgeModel", "vectors", "(I)J"⟩
abbrev b_Model_vectors : ByteArray := prog_14_method_35_code
set_option maxRecDepth 100000 in
theorem cd_Model_vectors : Cond.code y_Model_vectors b_Model_vectors 1 (some .long) ∈ xws := xmem 1456 rfl (by decide +kernel)
theorem im_Model_vectors : Cond.static y_Model_vectors ∈ xws := xmem 1455 (by decide +kernel) (by decide +kernel)
theorem ds_Model_vectors : y_Model_vectors.cls ≠ "java/lang/invoke/MethodHandle" ∧ y_Model_vectors.cls ≠ "java/lang/invoke/VarHandle" ∧ (parseMethodDescriptor y_Model_vectors.desc).map (fun d => d.parameters.length) = some 1 := by decide +kernel
abbrev rm_Model_vectors : Room := { frames := 1, cells := 0, slots := 0, locals := 40 }
def y_Model_of : MethodName := ⟨"TwinJudgeModel", "of", "(II)J"⟩
abbrev b_Model_of : ByteArray := prog_14_method_36_code
set_option maxRecDepth 100000 in
theorem cd_Model_of : Cond.code y_Model_of b_Model_of 3 (some .long) ∈ xws := xmem 1466 rfl (by decide +kernel)
theorem im_Model_of : Cond.instanceMethod y_Model_of ∈ xws := xmem 1465 (by decide +kernel) (by decide +kernel)
theorem sl_Model_of : Cond.selects "TwinJudgeModel" y_Model_of y_Model_of ∈ xws := xmem 76 (by decide +kernel) (by decide +kernel)
theorem ds_Model_of : y_Model_of.cls ≠ "java/lang/invoke/MethodHandle" ∧ y_Model_of.cls ≠ "java/lang/invoke/VarHandle" ∧ (parseMethodDescriptor y_Model_of.desc).map (fun d => d.parameters.length) = some 2 := by decide +kernel
abbrev rm_Model_of : Room := { frames := 1, cells := 0, slots := 0, locals := 40 }
def y_Model_reckon : MethodName := ⟨"TwinJudgeModel", "reckon", "(II)V"⟩
abbrev b_Model_reckon : ByteArray := prog_14_method_37_code
set_option maxRecDepth 100000 in
theorem cd_Model_reckon : Cond.code y_Model_reckon b_Model_reckon 5 none ∈ xws := xmem 1453 rfl (by decide +kernel)
theorem im_Model_reckon : Cond.instanceMethod y_Model_reckon ∈ xws := xmem 1452 (by decide +kernel) (by decide +kernel)
theorem sl_Model_reckon : Cond.selects "TwinJudgeModel" y_Model_reckon y_Model_reckon ∈ xws := xmem 75 (by decide +kernel) (by decide +kernel)
theorem ds_Model_reckon : y_Model_reckon.cls ≠ "java/lang/invoke/MethodHandle" ∧ y_Model_reckon.cls ≠ "java/lang/invoke/VarHandle" ∧ (parseMethodDescriptor y_Model_reckon.desc).map (fun d => d.parameters.length) = some 2 := by decide +kernel
abbrev rm_Model_reckon : Room := { frames := 2, cells := 0, slots := 0, locals := 62 }
def y_Model_isLiteral : MethodName := ⟨"TwinJudgeModel", "isLiteral", "(II)Z"⟩
abbrev b_Model_isLiteral : ByteArray := prog_14_method_38_code
set_option maxRecDepth 100000 in
theorem cd_Model_isLiteral : Cond.code y_Model_isLiteral b_Model_isLiteral 3 (some .boolean) ∈ xws := xmem 1449 rfl (by decide +kernel)
theorem im_Model_isLiteral : Cond.instanceMethod y_Model_isLiteral ∈ xws := xmem 1448 (by decide +kernel) (by decide +kernel)
theorem sl_Model_isLiteral : Cond.selects "TwinJudgeModel" y_Model_isLiteral y_Model_isLiteral ∈ xws := xmem 74 (by decide +kernel) (by decide +kernel)
theorem ds_Model_isLiteral : y_Model_isLiteral.cls ≠ "java/lang/invoke/MethodHandle" ∧ y_Model_isLiteral.cls ≠ "java/lang/invoke/VarHandle" ∧ (parseMethodDescriptor y_Model_isLiteral.desc).map (fun d => d.parameters.length) = some 2 := by decide +kernel
abbrev rm_Model_isLiteral : Room := { frames := 3, cells := 0, slots := 0, locals := 81 }
def y_Model_reset : MethodName := ⟨"TwinJudgeModel", "reset", "()V"⟩
abbrev b_Model_reset : ByteArray := prog_14_method_39_code
set_option maxRecDepth 100000 in
theorem cd_Model_reset : Cond.code y_Model_reset b_Model_reset 1 none ∈ xws := xmem 1437 rfl (by decide +kernel)
theorem im_Model_reset : Cond.instanceMethod y_Model_reset ∈ xws := xmem 1435 (by decide +kernel) (by decide +kernel)
theorem sl_Model_reset : Cond.selects "TwinJudgeModel" y_Model_reset y_Model_reset ∈ xws := xmem 1436 (by decide +kernel) (by decide +kernel)
theorem ds_Model_reset : y_Model_reset.cls ≠ "java/lang/invoke/MethodHandle" ∧ y_Model_reset.cls ≠ "java/lang/invoke/VarHandle" ∧ (parseMethodDescriptor y_Model_reset.desc).map (fun d => d.parameters.length) = some 0 := by decide +kernel
abbrev rm_Model_reset : Room := { frames := 1, cells := 0, slots := 0, locals := 40 }
def y_Model_state : MethodName := ⟨"TwinJudgeModel", "state", "(I)I"⟩
abbrev b_Model_state : ByteArray := prog_14_method_40_code
set_option maxRecDepth 100000 in
theorem cd_Model_state : Cond.code y_Model_state b_Model_state 2 (some .int) ∈ xws := xmem 1441 rfl (by decide +kernel)
theorem im_Model_state : Cond.instanceMethod y_Model_state ∈ xws := xmem 1439 (by decide +kernel) (by decide +kernel)
theorem sl_Model_state : Cond.selects "TwinJudgeModel" y_Model_state y_Model_state ∈ xws := xmem 1440 (by decide +kernel) (by decide +kernel)
theorem ds_Model_state : y_Model_state.cls ≠ "java/lang/invoke/MethodHandle" ∧ y_Model_state.cls ≠ "java/lang/invoke/VarHandle" ∧ (parseMethodDescriptor y_Model_state.desc).map (fun d => d.parameters.length) = some 1 := by decide +kernel
abbrev rm_Model_state : Room := { frames := 3, cells := 0, slots := 0, locals := 81 }
def y_Model_value : MethodName := ⟨"TwinJudgeModel", "value", "(III)I"⟩
abbrev b_Model_value : ByteArray := prog_14_method_41_code
set_option maxRecDepth 100000 in
theorem cd_Model_value : Cond.code y_Model_value b_Model_value 4 (some .int) ∈ xws := xmem 1445 rfl (by decide +kernel)
theorem im_Model_value : Cond.instanceMethod y_Model_value ∈ xws := xmem 1443 (by decide +kernel) (by decide +kernel)
theorem sl_Model_value : Cond.selects "TwinJudgeModel" y_Model_value y_Model_value ∈ xws := xmem 1444 (by decide +kernel) (by decide +kernel)
theorem ds_Model_value : y_Model_value.cls ≠ "java/lang/invoke/MethodHandle" ∧ y_Model_value.cls ≠ "java/lang/invoke/VarHandle" ∧ (parseMethodDescriptor y_Model_value.desc).map (fun d => d.parameters.length) = some 3 := by decide +kernel
abbrev rm_Model_value : Room := { frames := 4, cells := 0, slots := 0, locals := 103 }
def y_Model_next : MethodName := ⟨"TwinJudgeModel", "next", "(II)I"⟩
abbrev b_Model_next : ByteArray := prog_14_method_42_code
set_option maxRecDepth 100000 in
theorem cd_Model_next : Cond.code y_Model_next b_Model_next 5 (some .int) ∈ xws := xmem 1474 rfl (by decide +kernel)
theorem im_Model_next : Cond.instanceMethod y_Model_next ∈ xws := xmem 1473 (by decide +kernel) (by decide +kernel)
theorem sl_Model_next : Cond.selects "TwinJudgeModel" y_Model_next y_Model_next ∈ xws := xmem 77 (by decide +kernel) (by decide +kernel)
theorem ds_Model_next : y_Model_next.cls ≠ "java/lang/invoke/MethodHandle" ∧ y_Model_next.cls ≠ "java/lang/invoke/VarHandle" ∧ (parseMethodDescriptor y_Model_next.desc).map (fun d => d.parameters.length) = some 2 := by decide +kernel
abbrev rm_Model_next : Room := { frames := 2, cells := 0, slots := 0, locals := 62 }
def y_Model_step : MethodName := ⟨"TwinJudgeModel", "step", "(I)I"⟩
abbrev b_Model_step : ByteArray := prog_14_method_43_code
set_option maxRecDepth 100000 in
theorem cd_Model_step : Cond.code y_Model_step b_Model_step 5 (some .int) ∈ xws := xmem 1470 rfl (by decide +kernel)
theorem im_Model_step : Cond.instanceMethod y_Model_step ∈ xws := xmem 1468 (by decide +kernel) (by decide +kernel)
theorem sl_Model_step : Cond.selects "TwinJudgeModel" y_Model_step y_Model_step ∈ xws := xmem 1469 (by decide +kernel) (by decide +kernel)
theorem ds_Model_step : y_Model_step.cls ≠ "java/lang/invoke/MethodHandle" ∧ y_Model_step.cls ≠ "java/lang/invoke/VarHandle" ∧ (parseMethodDescriptor y_Model_step.desc).map (fun d => d.parameters.length) = some 1 := by decide +kernel
abbrev rm_Model_step : Room := { frames := 3, cells := 0, slots := 0, locals := 86 }
def y_Model_matches : MethodName := ⟨"TwinJudgeModel", "matches", "()Z"⟩
abbrev b_Model_matches : ByteArray := prog_14_method_44_code
set_option maxRecDepth 100000 in
theorem cd_Model_matches : Cond.code y_Model_matches b_Model_matches 1 (some .boolean) ∈ xws := xmem 1486 rfl (by decide +kernel)
theorem im_Model_matches : Cond.instanceMethod y_Model_matches ∈ xws := xmem 1485 (by decide +kernel) (by decide +kernel)
theorem sl_Model_matches : Cond.selects "TwinJudgeModel" y_Model_matches y_Model_matches ∈ xws := xmem 79 (by decide +kernel) (by decide +kernel)
theorem ds_Model_matches : y_Model_matches.cls ≠ "java/lang/invoke/MethodHandle" ∧ y_Model_matches.cls ≠ "java/lang/invoke/VarHandle" ∧ (parseMethodDescriptor y_Model_matches.desc).map (fun d => d.parameters.length) = some 0 := by decide +kernel
abbrev rm_Model_matches : Room := { frames := 1, cells := 0, slots := 0, locals := 40 }
def y_Model_stateOf : MethodName := ⟨"TwinJudgeModel", "stateOf", "(II)I"⟩
abbrev b_Model_stateOf : ByteArray := prog_14_method_45_code
set_option maxRecDepth 100000 in
theorem cd_Model_stateOf : Cond.code y_Model_stateOf b_Model_stateOf 3 (some .int) ∈ xws := xmem 1502 rfl (by decide +kernel)
theorem im_Model_stateOf : Cond.instanceMethod y_Model_stateOf ∈ xws := xmem 1501 (by decide +kernel) (by decide +kernel)
theorem sl_Model_stateOf : Cond.selects "TwinJudgeModel" y_Model_stateOf y_Model_stateOf ∈ xws := xmem 83 (by decide +kernel) (by decide +kernel)
theorem ds_Model_stateOf : y_Model_stateOf.cls ≠ "java/lang/invoke/MethodHandle" ∧ y_Model_stateOf.cls ≠ "java/lang/invoke/VarHandle" ∧ (parseMethodDescriptor y_Model_stateOf.desc).map (fun d => d.parameters.length) = some 2 := by decide +kernel
abbrev rm_Model_stateOf : Room := { frames := 1, cells := 0, slots := 0, locals := 40 }
def y_Model_reckonBoth : MethodName := ⟨"TwinJudgeModel", "reckonBoth", "(I)V"⟩
abbrev b_Model_reckonBoth : ByteArray := prog_14_method_46_code
set_option maxRecDepth 100000 in
theorem cd_Model_reckonBoth : Cond.code y_Model_reckonBoth b_Model_reckonBoth 2 none ∈ xws := xmem 1498 rfl (by decide +kernel)
theorem im_Model_reckonBoth : Cond.instanceMethod y_Model_reckonBoth ∈ xws := xmem 1497 (by decide +kernel) (by decide +kernel)
theorem sl_Model_reckonBoth : Cond.selects "TwinJudgeModel" y_Model_reckonBoth y_Model_reckonBoth ∈ xws := xmem 82 (by decide +kernel) (by decide +kernel)
theorem ds_Model_reckonBoth : y_Model_reckonBoth.cls ≠ "java/lang/invoke/MethodHandle" ∧ y_Model_reckonBoth.cls ≠ "java/lang/invoke/VarHandle" ∧ (parseMethodDescriptor y_Model_reckonBoth.desc).map (fun d => d.parameters.length) = some 1 := by decide +kernel
abbrev rm_Model_reckonBoth : Room := { frames := 3, cells := 0, slots := 0, locals := 86 }
def y_Model_mask : MethodName := ⟨"TwinJudgeModel", "mask", "()J"⟩
abbrev b_Model_mask : ByteArray := prog_14_method_48_code
set_option maxRecDepth 100000 in
theorem cd_Model_mask : Cond.code y_Model_mask b_Model_mask 1 (some .long) ∈ xws := xmem 1510 rfl (by decide +kernel)
theorem im_Model_mask : Cond.instanceMethod y_Model_mask ∈ xws := xmem 1509 (by decide +kernel) (by decide +kernel)
theorem sl_Model_mask : Cond.selects "TwinJudgeModel" y_Model_mask y_Model_mask ∈ xws := xmem 85 (by decide +kernel) (by decide +kernel)
theorem ds_Model_mask : y_Model_mask.cls ≠ "java/lang/invoke/MethodHandle" ∧ y_Model_mask.cls ≠ "java/lang/invoke/VarHandle" ∧ (parseMethodDescriptor y_Model_mask.desc).map (fun d => d.parameters.length) = some 0 := by decide +kernel
abbrev rm_Model_mask : Room := { frames := 1, cells := 0, slots := 0, locals := 40 }
def y_Model_tellsBy : MethodName := ⟨"TwinJudgeModel", "tellsBy", "(I)J"⟩
abbrev b_Model_tellsBy : ByteArray := prog_14_method_47_code
set_option maxRecDepth 100000 in
theorem cd_Model_tellsBy : Cond.code y_Model_tellsBy b_Model_tellsBy 2 (some .long) ∈ xws := xmem 1506 rfl (by decide +kernel)
theorem im_Model_tellsBy : Cond.instanceMethod y_Model_tellsBy ∈ xws := xmem 1505 (by decide +kernel) (by decide +kernel)
theorem sl_Model_tellsBy : Cond.selects "TwinJudgeModel" y_Model_tellsBy y_Model_tellsBy ∈ xws := xmem 84 (by decide +kernel) (by decide +kernel)
theorem ds_Model_tellsBy : y_Model_tellsBy.cls ≠ "java/lang/invoke/MethodHandle" ∧ y_Model_tellsBy.cls ≠ "java/lang/invoke/VarHandle" ∧ (parseMethodDescriptor y_Model_tellsBy.desc).map (fun d => d.parameters.length) = some 1 := by decide +kernel
abbrev rm_Model_tellsBy : Room := { frames := 2, cells := 0, slots := 0, locals := 62 }
def y_Model_find : MethodName := ⟨"TwinJudgeModel", "find", "()V"⟩
abbrev b_Model_find : ByteArray := prog_14_method_50_code
set_option maxRecDepth 100000 in
theorem cd_Model_find : Cond.code y_Model_find b_Model_find 5 none ∈ xws := xmem 1514 rfl (by decide +kernel)
theorem im_Model_find : Cond.instanceMethod y_Model_find ∈ xws := xmem 1513 (by decide +kernel) (by decide +kernel)
theorem sl_Model_find : Cond.selects "TwinJudgeModel" y_Model_find y_Model_find ∈ xws := xmem 86 (by decide +kernel) (by decide +kernel)
theorem ds_Model_find : y_Model_find.cls ≠ "java/lang/invoke/MethodHandle" ∧ y_Model_find.cls ≠ "java/lang/invoke/VarHandle" ∧ (parseMethodDescriptor y_Model_find.desc).map (fun d => d.parameters.length) = some 0 := by decide +kernel
abbrev rm_Model_find : Room := { frames := 4, cells := 0, slots := 0, locals := 107 }
def y_Model_look : MethodName := ⟨"TwinJudgeModel", "look", "()V"⟩
abbrev b_Model_look : ByteArray := prog_14_method_49_code
set_option maxRecDepth 100000 in
theorem cd_Model_look : Cond.code y_Model_look b_Model_look 5 none ∈ xws := xmem 1494 rfl (by decide +kernel)
theorem im_Model_look : Cond.instanceMethod y_Model_look ∈ xws := xmem 1493 (by decide +kernel) (by decide +kernel)
theorem sl_Model_look : Cond.selects "TwinJudgeModel" y_Model_look y_Model_look ∈ xws := xmem 81 (by decide +kernel) (by decide +kernel)
theorem ds_Model_look : y_Model_look.cls ≠ "java/lang/invoke/MethodHandle" ∧ y_Model_look.cls ≠ "java/lang/invoke/VarHandle" ∧ (parseMethodDescriptor y_Model_look.desc).map (fun d => d.parameters.length) = some 0 := by decide +kernel
abbrev rm_Model_look : Room := { frames := 5, cells := 0, slots := 0, locals := 131 }
def y_Model_none : MethodName := ⟨"TwinJudgeModel", "none", "()Z"⟩
abbrev b_Model_none : ByteArray := prog_14_method_51_code
set_option maxRecDepth 100000 in
theorem cd_Model_none : Cond.code y_Model_none b_Model_none 1 (some .boolean) ∈ xws := xmem 1482 rfl (by decide +kernel)
theorem im_Model_none : Cond.instanceMethod y_Model_none ∈ xws := xmem 1481 (by decide +kernel) (by decide +kernel)
theorem sl_Model_none : Cond.selects "TwinJudgeModel" y_Model_none y_Model_none ∈ xws := xmem 78 (by decide +kernel) (by decide +kernel)
theorem ds_Model_none : y_Model_none.cls ≠ "java/lang/invoke/MethodHandle" ∧ y_Model_none.cls ≠ "java/lang/invoke/VarHandle" ∧ (parseMethodDescriptor y_Model_none.desc).map (fun d => d.parameters.length) = some 0 := by decide +kernel
abbrev rm_Model_none : Room := { frames := 6, cells := 0, slots := 0, locals := 155 }
def y_Model_judge : MethodName := ⟨"TwinJudgeModel", "judge", "()I"⟩
abbrev b_Model_judge : ByteArray := prog_14_method_52_code
set_option maxRecDepth 100000 in
theorem cd_Model_judge : Cond.code y_Model_judge b_Model_judge 1 (some .int) ∈ xws := xmem 1478 rfl (by decide +kernel)
theorem im_Model_judge : Cond.instanceMethod y_Model_judge ∈ xws := xmem 1476 (by decide +kernel) (by decide +kernel)
theorem sl_Model_judge : Cond.selects "TwinJudgeModel" y_Model_judge y_Model_judge ∈ xws := xmem 1477 (by decide +kernel) (by decide +kernel)
theorem ds_Model_judge : y_Model_judge.cls ≠ "java/lang/invoke/MethodHandle" ∧ y_Model_judge.cls ≠ "java/lang/invoke/VarHandle" ∧ (parseMethodDescriptor y_Model_judge.desc).map (fun d => d.parameters.length) = some 0 := by decide +kernel
abbrev rm_Model_judge : Room := { frames := 7, cells := 0, slots := 0, locals := 175 }
def y_Model_witness : MethodName := ⟨"TwinJudgeModel", "witness", "(I)I"⟩
abbrev b_Model_witness : ByteArray := prog_14_method_53_code
set_option maxRecDepth 100000 in
theorem cd_Model_witness : Cond.code y_Model_witness b_Model_witness 2 (some .int) ∈ xws := xmem 1518 rfl (by decide +kernel)
theorem im_Model_witness : Cond.instanceMethod y_Model_witness ∈ xws := xmem 1516 (by decide +kernel) (by decide +kernel)
theorem sl_Model_witness : Cond.selects "TwinJudgeModel" y_Model_witness y_Model_witness ∈ xws := xmem 1517 (by decide +kernel) (by decide +kernel)
theorem ds_Model_witness : y_Model_witness.cls ≠ "java/lang/invoke/MethodHandle" ∧ y_Model_witness.cls ≠ "java/lang/invoke/VarHandle" ∧ (parseMethodDescriptor y_Model_witness.desc).map (fun d => d.parameters.length) = some 1 := by decide +kernel
abbrev rm_Model_witness : Room := { frames := 6, cells := 0, slots := 0, locals := 155 }
def y_Model_blame : MethodName := ⟨"TwinJudgeModel", "blame", "()I"⟩
abbrev b_Model_blame : ByteArray := prog_14_method_54_code
set_option maxRecDepth 100000 in
theorem cd_Model_blame : Cond.code y_Model_blame b_Model_blame 1 (some .int) ∈ xws := xmem 1522 rfl (by decide +kernel)
theorem im_Model_blame : Cond.instanceMethod y_Model_blame ∈ xws := xmem 1520 (by decide +kernel) (by decide +kernel)
theorem sl_Model_blame : Cond.selects "TwinJudgeModel" y_Model_blame y_Model_blame ∈ xws := xmem 1521 (by decide +kernel) (by decide +kernel)
theorem ds_Model_blame : y_Model_blame.cls ≠ "java/lang/invoke/MethodHandle" ∧ y_Model_blame.cls ≠ "java/lang/invoke/VarHandle" ∧ (parseMethodDescriptor y_Model_blame.desc).map (fun d => d.parameters.length) = some 0 := by decide +kernel
abbrev rm_Model_blame : Room := { frames := 6, cells := 0, slots := 0, locals := 155 }
def y_Model_differs : MethodName := ⟨"TwinJudgeModel", "differs", "(I)I"⟩
abbrev b_Model_differs : ByteArray := prog_14_method_55_code
set_option maxRecDepth 100000 in
theorem cd_Model_differs : Cond.code y_Model_differs b_Model_differs 2 (some .int) ∈ xws := xmem 1526 rfl (by decide +kernel)
theorem im_Model_differs : Cond.instanceMethod y_Model_differs ∈ xws := xmem 1524 (by decide +kernel) (by decide +kernel)
theorem sl_Model_differs : Cond.selects "TwinJudgeModel" y_Model_differs y_Model_differs ∈ xws := xmem 1525 (by decide +kernel) (by decide +kernel)
theorem ds_Model_differs : y_Model_differs.cls ≠ "java/lang/invoke/MethodHandle" ∧ y_Model_differs.cls ≠ "java/lang/invoke/VarHandle" ∧ (parseMethodDescriptor y_Model_differs.desc).map (fun d => d.parameters.length) = some 1 := by decide +kernel
abbrev rm_Model_differs : Room := { frames := 7, cells := 0, slots := 0, locals := 175 }
def y_Model_inductive : MethodName := ⟨"TwinJudgeModel", "inductive", "(I)Z"⟩
abbrev b_Model_inductive : ByteArray := prog_14_method_56_code
set_option maxRecDepth 100000 in
theorem cd_Model_inductive : Cond.code y_Model_inductive b_Model_inductive 6 (some .boolean) ∈ xws := xmem 1530 rfl (by decide +kernel)
theorem im_Model_inductive : Cond.instanceMethod y_Model_inductive ∈ xws := xmem 1528 (by decide +kernel) (by decide +kernel)
theorem sl_Model_inductive : Cond.selects "TwinJudgeModel" y_Model_inductive y_Model_inductive ∈ xws := xmem 1529 (by decide +kernel) (by decide +kernel)
theorem ds_Model_inductive : y_Model_inductive.cls ≠ "java/lang/invoke/MethodHandle" ∧ y_Model_inductive.cls ≠ "java/lang/invoke/VarHandle" ∧ (parseMethodDescriptor y_Model_inductive.desc).map (fun d => d.parameters.length) = some 1 := by decide +kernel
abbrev rm_Model_inductive : Room := { frames := 7, cells := 0, slots := 0, locals := 175 }
def y_Model_pairs : MethodName := ⟨"TwinJudgeModel", "pairs", "(I)I"⟩
abbrev b_Model_pairs : ByteArray := prog_14_method_57_code
set_option maxRecDepth 100000 in
theorem cd_Model_pairs : Cond.code y_Model_pairs b_Model_pairs 2 (some .int) ∈ xws := xmem 1534 rfl (by decide +kernel)
theorem im_Model_pairs : Cond.instanceMethod y_Model_pairs ∈ xws := xmem 1532 (by decide +kernel) (by decide +kernel)
theorem sl_Model_pairs : Cond.selects "TwinJudgeModel" y_Model_pairs y_Model_pairs ∈ xws := xmem 1533 (by decide +kernel) (by decide +kernel)
theorem ds_Model_pairs : y_Model_pairs.cls ≠ "java/lang/invoke/MethodHandle" ∧ y_Model_pairs.cls ≠ "java/lang/invoke/VarHandle" ∧ (parseMethodDescriptor y_Model_pairs.desc).map (fun d => d.parameters.length) = some 1 := by decide +kernel
abbrev rm_Model_pairs : Room := { frames := 7, cells := 0, slots := 0, locals := 175 }
def y_Model_depth : MethodName := ⟨"TwinJudgeModel", "depth", "(II)I"⟩
abbrev b_Model_depth : ByteArray := prog_14_method_58_code
set_option maxRecDepth 100000 in
theorem cd_Model_depth : Cond.code y_Model_depth b_Model_depth 3 (some .int) ∈ xws := xmem 1538 rfl (by decide +kernel)
theorem im_Model_depth : Cond.instanceMethod y_Model_depth ∈ xws := xmem 1536 (by decide +kernel) (by decide +kernel)
theorem sl_Model_depth : Cond.selects "TwinJudgeModel" y_Model_depth y_Model_depth ∈ xws := xmem 1537 (by decide +kernel) (by decide +kernel)
theorem ds_Model_depth : y_Model_depth.cls ≠ "java/lang/invoke/MethodHandle" ∧ y_Model_depth.cls ≠ "java/lang/invoke/VarHandle" ∧ (parseMethodDescriptor y_Model_depth.desc).map (fun d => d.parameters.length) = some 2 := by decide +kernel
abbrev rm_Model_depth : Room := { frames := 7, cells := 0, slots := 0, locals := 175 }
def y_Model_same : MethodName := ⟨"TwinJudgeModel", "same", "(IIII)Z"⟩
abbrev b_Model_same : ByteArray := prog_14_method_59_code
set_option maxRecDepth 100000 in
theorem cd_Model_same : Cond.code y_Model_same b_Model_same 7 (some .boolean) ∈ xws := xmem 1542 rfl (by decide +kernel)
theorem im_Model_same : Cond.instanceMethod y_Model_same ∈ xws := xmem 1540 (by decide +kernel) (by decide +kernel)
theorem sl_Model_same : Cond.selects "TwinJudgeModel" y_Model_same y_Model_same ∈ xws := xmem 1541 (by decide +kernel) (by decide +kernel)
theorem ds_Model_same : y_Model_same.cls ≠ "java/lang/invoke/MethodHandle" ∧ y_Model_same.cls ≠ "java/lang/invoke/VarHandle" ∧ (parseMethodDescriptor y_Model_same.desc).map (fun d => d.parameters.length) = some 4 := by decide +kernel
abbrev rm_Model_same : Room := { frames := 7, cells := 0, slots := 0, locals := 175 }
def y_Model_twin : MethodName := ⟨"TwinJudgeModel", "twin", "(II)I"⟩
abbrev b_Model_twin : ByteArray := prog_14_method_60_code
set_option maxRecDepth 100000 in
theorem cd_Model_twin : Cond.code y_Model_twin b_Model_twin 7 (some .int) ∈ xws := xmem 1546 rfl (by decide +kernel)
theorem im_Model_twin : Cond.instanceMethod y_Model_twin ∈ xws := xmem 1544 (by decide +kernel) (by decide +kernel)
theorem sl_Model_twin : Cond.selects "TwinJudgeModel" y_Model_twin y_Model_twin ∈ xws := xmem 1545 (by decide +kernel) (by decide +kernel)
theorem ds_Model_twin : y_Model_twin.cls ≠ "java/lang/invoke/MethodHandle" ∧ y_Model_twin.cls ≠ "java/lang/invoke/VarHandle" ∧ (parseMethodDescriptor y_Model_twin.desc).map (fun d => d.parameters.length) = some 2 := by decide +kernel
abbrev rm_Model_twin : Room := { frames := 7, cells := 0, slots := 0, locals := 175 }
def y_Model_doubts : MethodName := ⟨"TwinJudgeModel", "doubts", "()I"⟩
abbrev b_Model_doubts : ByteArray := prog_14_method_61_code
set_option maxRecDepth 100000 in
theorem cd_Model_doubts : Cond.code y_Model_doubts b_Model_doubts 1 (some .int) ∈ xws := xmem 1550 rfl (by decide +kernel)
theorem im_Model_doubts : Cond.instanceMethod y_Model_doubts ∈ xws := xmem 1548 (by decide +kernel) (by decide +kernel)
theorem sl_Model_doubts : Cond.selects "TwinJudgeModel" y_Model_doubts y_Model_doubts ∈ xws := xmem 1549 (by decide +kernel) (by decide +kernel)
theorem ds_Model_doubts : y_Model_doubts.cls ≠ "java/lang/invoke/MethodHandle" ∧ y_Model_doubts.cls ≠ "java/lang/invoke/VarHandle" ∧ (parseMethodDescriptor y_Model_doubts.desc).map (fun d => d.parameters.length) = some 0 := by decide +kernel
abbrev rm_Model_doubts : Room := { frames := 1, cells := 0, slots := 0, locals := 40 }
def y_Model_signal : MethodName := ⟨"TwinJudgeModel", "signal", "(II)I"⟩
abbrev b_Model_signal : ByteArray := prog_14_method_62_code
set_option maxRecDepth 100000 in
theorem cd_Model_signal : Cond.code y_Model_signal b_Model_signal 3 (some .int) ∈ xws := xmem 1558 rfl (by decide +kernel)
theorem im_Model_signal : Cond.instanceMethod y_Model_signal ∈ xws := xmem 1557 (by decide +kernel) (by decide +kernel)
theorem sl_Model_signal : Cond.selects "TwinJudgeModel" y_Model_signal y_Model_signal ∈ xws := xmem 87 (by decide +kernel) (by decide +kernel)
theorem ds_Model_signal : y_Model_signal.cls ≠ "java/lang/invoke/MethodHandle" ∧ y_Model_signal.cls ≠ "java/lang/invoke/VarHandle" ∧ (parseMethodDescriptor y_Model_signal.desc).map (fun d => d.parameters.length) = some 2 := by decide +kernel
abbrev rm_Model_signal : Room := { frames := 1, cells := 0, slots := 0, locals := 40 }
def y_Model_gate : MethodName := ⟨"TwinJudgeModel", "gate", "(III)I"⟩
abbrev b_Model_gate : ByteArray := prog_14_method_63_code
set_option maxRecDepth 100000 in
theorem cd_Model_gate : Cond.code y_Model_gate b_Model_gate 5 (some .int) ∈ xws := xmem 1562 rfl (by decide +kernel)
theorem im_Model_gate : Cond.instanceMethod y_Model_gate ∈ xws := xmem 1561 (by decide +kernel) (by decide +kernel)
theorem sl_Model_gate : Cond.selects "TwinJudgeModel" y_Model_gate y_Model_gate ∈ xws := xmem 88 (by decide +kernel) (by decide +kernel)
theorem ds_Model_gate : y_Model_gate.cls ≠ "java/lang/invoke/MethodHandle" ∧ y_Model_gate.cls ≠ "java/lang/invoke/VarHandle" ∧ (parseMethodDescriptor y_Model_gate.desc).map (fun d => d.parameters.length) = some 3 := by decide +kernel
abbrev rm_Model_gate : Room := { frames := 1, cells := 0, slots := 0, locals := 40 }
def y_Model_gates : MethodName := ⟨"TwinJudgeModel", "gates", "()I"⟩
abbrev b_Model_gates : ByteArray := prog_14_method_64_code
set_option maxRecDepth 100000 in
theorem cd_Model_gates : Cond.code y_Model_gates b_Model_gates 5 (some .int) ∈ xws := xmem 1554 rfl (by decide +kernel)
theorem im_Model_gates : Cond.instanceMethod y_Model_gates ∈ xws := xmem 1552 (by decide +kernel) (by decide +kernel)
theorem sl_Model_gates : Cond.selects "TwinJudgeModel" y_Model_gates y_Model_gates ∈ xws := xmem 1553 (by decide +kernel) (by decide +kernel)
theorem ds_Model_gates : y_Model_gates.cls ≠ "java/lang/invoke/MethodHandle" ∧ y_Model_gates.cls ≠ "java/lang/invoke/VarHandle" ∧ (parseMethodDescriptor y_Model_gates.desc).map (fun d => d.parameters.length) = some 0 := by decide +kernel
abbrev rm_Model_gates : Room := { frames := 7, cells := 0, slots := 0, locals := 175 }
