-- ===== PART A: goes FIRST, ahead of the names: the tables' words, and 'selects' of the private methods out of them =====
/-- a private method of a class that the tables say can be made, by its rows of tables_1 -/
def lw_okq (q : MethodName × Nat) : Prop := (q.1.cls ≠ "java/lang/invoke/MethodHandle" ∧ q.1.cls ≠ "java/lang/invoke/VarHandle") ∧ Cond.instantiable q.1.cls q.2 ∈ tables_1 ∧ Cond.privateMethod q.1 ∈ tables_1 ∧ Cond.instanceMethod q.1 ∈ tables_1
theorem lw_p0 : lw_okq (⟨"TwinJudge", "isThere", "(I)Z"⟩, 5) := ⟨⟨by decide +kernel, by decide +kernel⟩, List.mem_of_getElem? (i := 24) (by decide +kernel), List.mem_of_getElem? (i := 290) (by decide +kernel), List.mem_of_getElem? (i := 291) (by decide +kernel)⟩
theorem lw_p1 : lw_okq (⟨"TwinJudge", "isLiteral", "(II)Z"⟩, 5) := ⟨⟨by decide +kernel, by decide +kernel⟩, List.mem_of_getElem? (i := 24) (by decide +kernel), List.mem_of_getElem? (i := 335) (by decide +kernel), List.mem_of_getElem? (i := 336) (by decide +kernel)⟩
theorem lw_p2 : lw_okq (⟨"TwinJudge$Player", "takeVector", "(I)V"⟩, 4) := ⟨⟨by decide +kernel, by decide +kernel⟩, List.mem_of_getElem? (i := 224) (by decide +kernel), List.mem_of_getElem? (i := 347) (by decide +kernel), List.mem_of_getElem? (i := 348) (by decide +kernel)⟩
theorem lw_p3 : lw_okq (⟨"TwinJudge$Player", "gather", "([II)I"⟩, 4) := ⟨⟨by decide +kernel, by decide +kernel⟩, List.mem_of_getElem? (i := 224) (by decide +kernel), List.mem_of_getElem? (i := 367) (by decide +kernel), List.mem_of_getElem? (i := 368) (by decide +kernel)⟩
theorem lw_p4 : lw_okq (⟨"TwinJudge", "matching", "()Z"⟩, 5) := ⟨⟨by decide +kernel, by decide +kernel⟩, List.mem_of_getElem? (i := 24) (by decide +kernel), List.mem_of_getElem? (i := 375) (by decide +kernel), List.mem_of_getElem? (i := 376) (by decide +kernel)⟩
theorem lw_p5 : lw_okq (⟨"TwinJudge", "exploredWorks", "()LTwinJudge$Works;"⟩, 5) := ⟨⟨by decide +kernel, by decide +kernel⟩, List.mem_of_getElem? (i := 24) (by decide +kernel), List.mem_of_getElem? (i := 379) (by decide +kernel), List.mem_of_getElem? (i := 380) (by decide +kernel)⟩
theorem lw_p6 : lw_okq (⟨"TwinJudge", "readyWorks", "()LTwinJudge$Works;"⟩, 5) := ⟨⟨by decide +kernel, by decide +kernel⟩, List.mem_of_getElem? (i := 24) (by decide +kernel), List.mem_of_getElem? (i := 383) (by decide +kernel), List.mem_of_getElem? (i := 384) (by decide +kernel)⟩
theorem lw_p7 : lw_okq (⟨"TwinJudge$Table", "fillLine", "(LTwinJudge$Circuit;II)V"⟩, 6) := ⟨⟨by decide +kernel, by decide +kernel⟩, List.mem_of_getElem? (i := 393) (by decide +kernel), List.mem_of_getElem? (i := 585) (by decide +kernel), List.mem_of_getElem? (i := 586) (by decide +kernel)⟩
theorem lw_p8 : lw_okq (⟨"TwinJudge$Walk", "tryToTell", "(I)V"⟩, 8) := ⟨⟨by decide +kernel, by decide +kernel⟩, List.mem_of_getElem? (i := 420) (by decide +kernel), List.mem_of_getElem? (i := 598) (by decide +kernel), List.mem_of_getElem? (i := 599) (by decide +kernel)⟩
theorem lw_p9 : lw_okq (⟨"TwinJudge$Walk", "traceBack", "(I)V"⟩, 8) := ⟨⟨by decide +kernel, by decide +kernel⟩, List.mem_of_getElem? (i := 420) (by decide +kernel), List.mem_of_getElem? (i := 618) (by decide +kernel), List.mem_of_getElem? (i := 619) (by decide +kernel)⟩
theorem lw_p10 : lw_okq (⟨"TwinJudge$Walk", "expand", "(I)V"⟩, 8) := ⟨⟨by decide +kernel, by decide +kernel⟩, List.mem_of_getElem? (i := 420) (by decide +kernel), List.mem_of_getElem? (i := 622) (by decide +kernel), List.mem_of_getElem? (i := 623) (by decide +kernel)⟩
theorem lw_p11 : lw_okq (⟨"TwinJudge$Works", "witnessTells", "()Z"⟩, 11) := ⟨⟨by decide +kernel, by decide +kernel⟩, List.mem_of_getElem? (i := 387) (by decide +kernel), List.mem_of_getElem? (i := 634) (by decide +kernel), List.mem_of_getElem? (i := 635) (by decide +kernel)⟩
theorem lw_p12 : lw_okq (⟨"TwinJudge$Works", "doubtUnless", "(Z)V"⟩, 11) := ⟨⟨by decide +kernel, by decide +kernel⟩, List.mem_of_getElem? (i := 387) (by decide +kernel), List.mem_of_getElem? (i := 640) (by decide +kernel), List.mem_of_getElem? (i := 641) (by decide +kernel)⟩
theorem lw_p13 : lw_okq (⟨"TwinJudge$Reader", "readHeader", "()Z"⟩, 13) := ⟨⟨by decide +kernel, by decide +kernel⟩, List.mem_of_getElem? (i := 51) (by decide +kernel), List.mem_of_getElem? (i := 674) (by decide +kernel), List.mem_of_getElem? (i := 675) (by decide +kernel)⟩
theorem lw_p14 : lw_okq (⟨"TwinJudge$Reader", "pass", "(I)Z"⟩, 13) := ⟨⟨by decide +kernel, by decide +kernel⟩, List.mem_of_getElem? (i := 51) (by decide +kernel), List.mem_of_getElem? (i := 678) (by decide +kernel), List.mem_of_getElem? (i := 679) (by decide +kernel)⟩
theorem lw_p15 : lw_okq (⟨"TwinJudge$Reader", "fail", "(II)Z"⟩, 13) := ⟨⟨by decide +kernel, by decide +kernel⟩, List.mem_of_getElem? (i := 51) (by decide +kernel), List.mem_of_getElem? (i := 686) (by decide +kernel), List.mem_of_getElem? (i := 687) (by decide +kernel)⟩
def lw_privs_1 : List (MethodName × Nat) := [(⟨"TwinJudge", "isThere", "(I)Z"⟩, 5), (⟨"TwinJudge", "isLiteral", "(II)Z"⟩, 5), (⟨"TwinJudge$Player", "takeVector", "(I)V"⟩, 4), (⟨"TwinJudge$Player", "gather", "([II)I"⟩, 4), (⟨"TwinJudge", "matching", "()Z"⟩, 5), (⟨"TwinJudge", "exploredWorks", "()LTwinJudge$Works;"⟩, 5), (⟨"TwinJudge", "readyWorks", "()LTwinJudge$Works;"⟩, 5), (⟨"TwinJudge$Table", "fillLine", "(LTwinJudge$Circuit;II)V"⟩, 6), (⟨"TwinJudge$Walk", "tryToTell", "(I)V"⟩, 8), (⟨"TwinJudge$Walk", "traceBack", "(I)V"⟩, 8), (⟨"TwinJudge$Walk", "expand", "(I)V"⟩, 8), (⟨"TwinJudge$Works", "witnessTells", "()Z"⟩, 11), (⟨"TwinJudge$Works", "doubtUnless", "(Z)V"⟩, 11), (⟨"TwinJudge$Reader", "readHeader", "()Z"⟩, 13), (⟨"TwinJudge$Reader", "pass", "(I)Z"⟩, 13), (⟨"TwinJudge$Reader", "fail", "(II)Z"⟩, 13)]
theorem lw_r1 : ∀ q ∈ lw_privs_1, lw_okq q := List.forall_mem_cons.mpr ⟨lw_p0, List.forall_mem_cons.mpr ⟨lw_p1, List.forall_mem_cons.mpr ⟨lw_p2, List.forall_mem_cons.mpr ⟨lw_p3, List.forall_mem_cons.mpr ⟨lw_p4, List.forall_mem_cons.mpr ⟨lw_p5, List.forall_mem_cons.mpr ⟨lw_p6, List.forall_mem_cons.mpr ⟨lw_p7, List.forall_mem_cons.mpr ⟨lw_p8, List.forall_mem_cons.mpr ⟨lw_p9, List.forall_mem_cons.mpr ⟨lw_p10, List.forall_mem_cons.mpr ⟨lw_p11, List.forall_mem_cons.mpr ⟨lw_p12, List.forall_mem_cons.mpr ⟨lw_p13, List.forall_mem_cons.mpr ⟨lw_p14, List.forall_mem_cons.mpr ⟨lw_p15, fun _ h => absurd h List.not_mem_nil⟩⟩⟩⟩⟩⟩⟩⟩⟩⟩⟩⟩⟩⟩⟩⟩
theorem lw_p16 : lw_okq (⟨"TwinJudge$Reader", "readNumber", "()Z"⟩, 13) := ⟨⟨by decide +kernel, by decide +kernel⟩, List.mem_of_getElem? (i := 51) (by decide +kernel), List.mem_of_getElem? (i := 690) (by decide +kernel), List.mem_of_getElem? (i := 691) (by decide +kernel)⟩
theorem lw_p17 : lw_okq (⟨"TwinJudge$Reader", "keepSizes", "()Z"⟩, 13) := ⟨⟨by decide +kernel, by decide +kernel⟩, List.mem_of_getElem? (i := 51) (by decide +kernel), List.mem_of_getElem? (i := 697) (by decide +kernel), List.mem_of_getElem? (i := 698) (by decide +kernel)⟩
theorem lw_p18 : lw_okq (⟨"TwinJudge$Reader", "defineInOrder", "()Z"⟩, 13) := ⟨⟨by decide +kernel, by decide +kernel⟩, List.mem_of_getElem? (i := 51) (by decide +kernel), List.mem_of_getElem? (i := 701) (by decide +kernel), List.mem_of_getElem? (i := 702) (by decide +kernel)⟩
theorem lw_p19 : lw_okq (⟨"TwinJudge$Reader", "readInputs", "()Z"⟩, 13) := ⟨⟨by decide +kernel, by decide +kernel⟩, List.mem_of_getElem? (i := 51) (by decide +kernel), List.mem_of_getElem? (i := 705) (by decide +kernel), List.mem_of_getElem? (i := 706) (by decide +kernel)⟩
theorem lw_p20 : lw_okq (⟨"TwinJudge$Reader", "readDefinition", "(I)Z"⟩, 13) := ⟨⟨by decide +kernel, by decide +kernel⟩, List.mem_of_getElem? (i := 51) (by decide +kernel), List.mem_of_getElem? (i := 709) (by decide +kernel), List.mem_of_getElem? (i := 710) (by decide +kernel)⟩
theorem lw_p21 : lw_okq (⟨"TwinJudge$Reader", "isInRange", "()Z"⟩, 13) := ⟨⟨by decide +kernel, by decide +kernel⟩, List.mem_of_getElem? (i := 51) (by decide +kernel), List.mem_of_getElem? (i := 713) (by decide +kernel), List.mem_of_getElem? (i := 714) (by decide +kernel)⟩
theorem lw_p22 : lw_okq (⟨"TwinJudge$Reader", "readLatches", "()Z"⟩, 13) := ⟨⟨by decide +kernel, by decide +kernel⟩, List.mem_of_getElem? (i := 51) (by decide +kernel), List.mem_of_getElem? (i := 717) (by decide +kernel), List.mem_of_getElem? (i := 718) (by decide +kernel)⟩
theorem lw_p23 : lw_okq (⟨"TwinJudge$Reader", "readLatchVariable", "(I)Z"⟩, 13) := ⟨⟨by decide +kernel, by decide +kernel⟩, List.mem_of_getElem? (i := 51) (by decide +kernel), List.mem_of_getElem? (i := 721) (by decide +kernel), List.mem_of_getElem? (i := 722) (by decide +kernel)⟩
theorem lw_p24 : lw_okq (⟨"TwinJudge$Reader", "readNext", "(I)Z"⟩, 13) := ⟨⟨by decide +kernel, by decide +kernel⟩, List.mem_of_getElem? (i := 51) (by decide +kernel), List.mem_of_getElem? (i := 725) (by decide +kernel), List.mem_of_getElem? (i := 726) (by decide +kernel)⟩
theorem lw_p25 : lw_okq (⟨"TwinJudge$Reader", "readUse", "()Z"⟩, 13) := ⟨⟨by decide +kernel, by decide +kernel⟩, List.mem_of_getElem? (i := 51) (by decide +kernel), List.mem_of_getElem? (i := 729) (by decide +kernel), List.mem_of_getElem? (i := 730) (by decide +kernel)⟩
theorem lw_p26 : lw_okq (⟨"TwinJudge$Reader", "readOutputs", "()Z"⟩, 13) := ⟨⟨by decide +kernel, by decide +kernel⟩, List.mem_of_getElem? (i := 51) (by decide +kernel), List.mem_of_getElem? (i := 733) (by decide +kernel), List.mem_of_getElem? (i := 734) (by decide +kernel)⟩
theorem lw_p27 : lw_okq (⟨"TwinJudge$Reader", "readDeltas", "()Z"⟩, 13) := ⟨⟨by decide +kernel, by decide +kernel⟩, List.mem_of_getElem? (i := 51) (by decide +kernel), List.mem_of_getElem? (i := 737) (by decide +kernel), List.mem_of_getElem? (i := 738) (by decide +kernel)⟩
theorem lw_p28 : lw_okq (⟨"TwinJudge$Reader", "readDelta", "()Z"⟩, 13) := ⟨⟨by decide +kernel, by decide +kernel⟩, List.mem_of_getElem? (i := 51) (by decide +kernel), List.mem_of_getElem? (i := 741) (by decide +kernel), List.mem_of_getElem? (i := 742) (by decide +kernel)⟩
theorem lw_p29 : lw_okq (⟨"TwinJudge$Reader", "readAnds", "()Z"⟩, 13) := ⟨⟨by decide +kernel, by decide +kernel⟩, List.mem_of_getElem? (i := 51) (by decide +kernel), List.mem_of_getElem? (i := 745) (by decide +kernel), List.mem_of_getElem? (i := 746) (by decide +kernel)⟩
theorem lw_p30 : lw_okq (⟨"TwinJudge$Reader", "readSymbols", "()Z"⟩, 13) := ⟨⟨by decide +kernel, by decide +kernel⟩, List.mem_of_getElem? (i := 51) (by decide +kernel), List.mem_of_getElem? (i := 749) (by decide +kernel), List.mem_of_getElem? (i := 750) (by decide +kernel)⟩
theorem lw_p31 : lw_okq (⟨"TwinJudge$Reader", "readSymbol", "()Z"⟩, 13) := ⟨⟨by decide +kernel, by decide +kernel⟩, List.mem_of_getElem? (i := 51) (by decide +kernel), List.mem_of_getElem? (i := 753) (by decide +kernel), List.mem_of_getElem? (i := 754) (by decide +kernel)⟩
def lw_privs_2 : List (MethodName × Nat) := [(⟨"TwinJudge$Reader", "readNumber", "()Z"⟩, 13), (⟨"TwinJudge$Reader", "keepSizes", "()Z"⟩, 13), (⟨"TwinJudge$Reader", "defineInOrder", "()Z"⟩, 13), (⟨"TwinJudge$Reader", "readInputs", "()Z"⟩, 13), (⟨"TwinJudge$Reader", "readDefinition", "(I)Z"⟩, 13), (⟨"TwinJudge$Reader", "isInRange", "()Z"⟩, 13), (⟨"TwinJudge$Reader", "readLatches", "()Z"⟩, 13), (⟨"TwinJudge$Reader", "readLatchVariable", "(I)Z"⟩, 13), (⟨"TwinJudge$Reader", "readNext", "(I)Z"⟩, 13), (⟨"TwinJudge$Reader", "readUse", "()Z"⟩, 13), (⟨"TwinJudge$Reader", "readOutputs", "()Z"⟩, 13), (⟨"TwinJudge$Reader", "readDeltas", "()Z"⟩, 13), (⟨"TwinJudge$Reader", "readDelta", "()Z"⟩, 13), (⟨"TwinJudge$Reader", "readAnds", "()Z"⟩, 13), (⟨"TwinJudge$Reader", "readSymbols", "()Z"⟩, 13), (⟨"TwinJudge$Reader", "readSymbol", "()Z"⟩, 13)]
theorem lw_r2 : ∀ q ∈ lw_privs_2, lw_okq q := List.forall_mem_cons.mpr ⟨lw_p16, List.forall_mem_cons.mpr ⟨lw_p17, List.forall_mem_cons.mpr ⟨lw_p18, List.forall_mem_cons.mpr ⟨lw_p19, List.forall_mem_cons.mpr ⟨lw_p20, List.forall_mem_cons.mpr ⟨lw_p21, List.forall_mem_cons.mpr ⟨lw_p22, List.forall_mem_cons.mpr ⟨lw_p23, List.forall_mem_cons.mpr ⟨lw_p24, List.forall_mem_cons.mpr ⟨lw_p25, List.forall_mem_cons.mpr ⟨lw_p26, List.forall_mem_cons.mpr ⟨lw_p27, List.forall_mem_cons.mpr ⟨lw_p28, List.forall_mem_cons.mpr ⟨lw_p29, List.forall_mem_cons.mpr ⟨lw_p30, List.forall_mem_cons.mpr ⟨lw_p31, fun _ h => absurd h List.not_mem_nil⟩⟩⟩⟩⟩⟩⟩⟩⟩⟩⟩⟩⟩⟩⟩⟩
theorem lw_p32 : lw_okq (⟨"TwinJudge$Reader", "readName", "(I)Z"⟩, 13) := ⟨⟨by decide +kernel, by decide +kernel⟩, List.mem_of_getElem? (i := 51) (by decide +kernel), List.mem_of_getElem? (i := 761) (by decide +kernel), List.mem_of_getElem? (i := 762) (by decide +kernel)⟩
theorem lw_p33 : lw_okq (⟨"TwinJudge$Reader", "findUndefined", "()Z"⟩, 13) := ⟨⟨by decide +kernel, by decide +kernel⟩, List.mem_of_getElem? (i := 51) (by decide +kernel), List.mem_of_getElem? (i := 765) (by decide +kernel), List.mem_of_getElem? (i := 766) (by decide +kernel)⟩
theorem lw_p34 : lw_okq (⟨"TwinJudge$Reader", "sortAnds", "()Z"⟩, 13) := ⟨⟨by decide +kernel, by decide +kernel⟩, List.mem_of_getElem? (i := 51) (by decide +kernel), List.mem_of_getElem? (i := 770) (by decide +kernel), List.mem_of_getElem? (i := 771) (by decide +kernel)⟩
theorem lw_p35 : lw_okq (⟨"TwinJudge$Sorter", "firstReady", "(LTwinJudge$Circuit;)I"⟩, 5) := ⟨⟨by decide +kernel, by decide +kernel⟩, List.mem_of_getElem? (i := 57) (by decide +kernel), List.mem_of_getElem? (i := 778) (by decide +kernel), List.mem_of_getElem? (i := 779) (by decide +kernel)⟩
theorem lw_p36 : lw_okq (⟨"TwinJudge$Sorter", "comesBack", "(LTwinJudge$Circuit;I)Z"⟩, 5) := ⟨⟨by decide +kernel, by decide +kernel⟩, List.mem_of_getElem? (i := 57) (by decide +kernel), List.mem_of_getElem? (i := 786) (by decide +kernel), List.mem_of_getElem? (i := 787) (by decide +kernel)⟩
theorem lw_p37 : lw_okq (⟨"TwinJudge$Sorter", "reachOperands", "(LTwinJudge$Circuit;I)V"⟩, 5) := ⟨⟨by decide +kernel, by decide +kernel⟩, List.mem_of_getElem? (i := 57) (by decide +kernel), List.mem_of_getElem? (i := 790) (by decide +kernel), List.mem_of_getElem? (i := 791) (by decide +kernel)⟩
theorem lw_p38 : lw_okq (⟨"TwinJudge$Sorter", "reach", "(I)V"⟩, 5) := ⟨⟨by decide +kernel, by decide +kernel⟩, List.mem_of_getElem? (i := 57) (by decide +kernel), List.mem_of_getElem? (i := 794) (by decide +kernel), List.mem_of_getElem? (i := 795) (by decide +kernel)⟩
theorem lw_p39 : lw_okq (⟨"java/lang/Throwable", "fillInStackTrace", "(I)Ljava/lang/Throwable;"⟩, 6) := ⟨⟨by decide +kernel, by decide +kernel⟩, List.mem_of_getElem? (i := 835) (by decide +kernel), List.mem_of_getElem? (i := 833) (by decide +kernel), List.mem_of_getElem? (i := 834) (by decide +kernel)⟩
theorem lw_p40 : lw_okq (⟨"TwinJudge", "mustMatch", "()V"⟩, 5) := ⟨⟨by decide +kernel, by decide +kernel⟩, List.mem_of_getElem? (i := 24) (by decide +kernel), List.mem_of_getElem? (i := 880) (by decide +kernel), List.mem_of_getElem? (i := 881) (by decide +kernel)⟩
theorem lw_p41 : lw_okq (⟨"TwinJudge$Overlay", "layOver", "(LTwinJudge$Circuit;I)V"⟩, 4) := ⟨⟨by decide +kernel, by decide +kernel⟩, List.mem_of_getElem? (i := 518) (by decide +kernel), List.mem_of_getElem? (i := 908) (by decide +kernel), List.mem_of_getElem? (i := 909) (by decide +kernel)⟩
theorem lw_p42 : lw_okq (⟨"TwinJudge$Overlay", "signalOf", "(I)I"⟩, 4) := ⟨⟨by decide +kernel, by decide +kernel⟩, List.mem_of_getElem? (i := 518) (by decide +kernel), List.mem_of_getElem? (i := 912) (by decide +kernel), List.mem_of_getElem? (i := 913) (by decide +kernel)⟩
theorem lw_p43 : lw_okq (⟨"TwinJudge$Overlay", "join", "(II)I"⟩, 4) := ⟨⟨by decide +kernel, by decide +kernel⟩, List.mem_of_getElem? (i := 518) (by decide +kernel), List.mem_of_getElem? (i := 916) (by decide +kernel), List.mem_of_getElem? (i := 917) (by decide +kernel)⟩
theorem lw_p44 : lw_okq (⟨"TwinJudge$Overlay", "gateOf", "(II)I"⟩, 4) := ⟨⟨by decide +kernel, by decide +kernel⟩, List.mem_of_getElem? (i := 518) (by decide +kernel), List.mem_of_getElem? (i := 926) (by decide +kernel), List.mem_of_getElem? (i := 927) (by decide +kernel)⟩
theorem lw_p45 : lw_okq (⟨"TwinJudge$Layers", "addLayer", "()V"⟩, 7) := ⟨⟨by decide +kernel, by decide +kernel⟩, List.mem_of_getElem? (i := 462) (by decide +kernel), List.mem_of_getElem? (i := 963) (by decide +kernel), List.mem_of_getElem? (i := 964) (by decide +kernel)⟩
theorem lw_p46 : lw_okq (⟨"TwinJudge$Layers", "isInLayer", "(I)Z"⟩, 7) := ⟨⟨by decide +kernel, by decide +kernel⟩, List.mem_of_getElem? (i := 462) (by decide +kernel), List.mem_of_getElem? (i := 971) (by decide +kernel), List.mem_of_getElem? (i := 972) (by decide +kernel)⟩
theorem lw_p47 : lw_okq (⟨"TwinJudge$Likeness", "isSplitBy", "(LTwinJudge$Table;I)Z"⟩, 7) := ⟨⟨by decide +kernel, by decide +kernel⟩, List.mem_of_getElem? (i := 490) (by decide +kernel), List.mem_of_getElem? (i := 1035) (by decide +kernel), List.mem_of_getElem? (i := 1036) (by decide +kernel)⟩
def lw_privs_3 : List (MethodName × Nat) := [(⟨"TwinJudge$Reader", "readName", "(I)Z"⟩, 13), (⟨"TwinJudge$Reader", "findUndefined", "()Z"⟩, 13), (⟨"TwinJudge$Reader", "sortAnds", "()Z"⟩, 13), (⟨"TwinJudge$Sorter", "firstReady", "(LTwinJudge$Circuit;)I"⟩, 5), (⟨"TwinJudge$Sorter", "comesBack", "(LTwinJudge$Circuit;I)Z"⟩, 5), (⟨"TwinJudge$Sorter", "reachOperands", "(LTwinJudge$Circuit;I)V"⟩, 5), (⟨"TwinJudge$Sorter", "reach", "(I)V"⟩, 5), (⟨"java/lang/Throwable", "fillInStackTrace", "(I)Ljava/lang/Throwable;"⟩, 6), (⟨"TwinJudge", "mustMatch", "()V"⟩, 5), (⟨"TwinJudge$Overlay", "layOver", "(LTwinJudge$Circuit;I)V"⟩, 4), (⟨"TwinJudge$Overlay", "signalOf", "(I)I"⟩, 4), (⟨"TwinJudge$Overlay", "join", "(II)I"⟩, 4), (⟨"TwinJudge$Overlay", "gateOf", "(II)I"⟩, 4), (⟨"TwinJudge$Layers", "addLayer", "()V"⟩, 7), (⟨"TwinJudge$Layers", "isInLayer", "(I)Z"⟩, 7), (⟨"TwinJudge$Likeness", "isSplitBy", "(LTwinJudge$Table;I)Z"⟩, 7)]
theorem lw_r3 : ∀ q ∈ lw_privs_3, lw_okq q := List.forall_mem_cons.mpr ⟨lw_p32, List.forall_mem_cons.mpr ⟨lw_p33, List.forall_mem_cons.mpr ⟨lw_p34, List.forall_mem_cons.mpr ⟨lw_p35, List.forall_mem_cons.mpr ⟨lw_p36, List.forall_mem_cons.mpr ⟨lw_p37, List.forall_mem_cons.mpr ⟨lw_p38, List.forall_mem_cons.mpr ⟨lw_p39, List.forall_mem_cons.mpr ⟨lw_p40, List.forall_mem_cons.mpr ⟨lw_p41, List.forall_mem_cons.mpr ⟨lw_p42, List.forall_mem_cons.mpr ⟨lw_p43, List.forall_mem_cons.mpr ⟨lw_p44, List.forall_mem_cons.mpr ⟨lw_p45, List.forall_mem_cons.mpr ⟨lw_p46, List.forall_mem_cons.mpr ⟨lw_p47, fun _ h => absurd h List.not_mem_nil⟩⟩⟩⟩⟩⟩⟩⟩⟩⟩⟩⟩⟩⟩⟩⟩
theorem lw_p48 : lw_okq (⟨"TwinJudge$Likeness", "findLeader", "(I)V"⟩, 7) := ⟨⟨by decide +kernel, by decide +kernel⟩, List.mem_of_getElem? (i := 490) (by decide +kernel), List.mem_of_getElem? (i := 1039) (by decide +kernel), List.mem_of_getElem? (i := 1040) (by decide +kernel)⟩
theorem lw_p49 : lw_okq (⟨"TwinJudge$Likeness", "leaveLone", "()V"⟩, 7) := ⟨⟨by decide +kernel, by decide +kernel⟩, List.mem_of_getElem? (i := 490) (by decide +kernel), List.mem_of_getElem? (i := 1043) (by decide +kernel), List.mem_of_getElem? (i := 1044) (by decide +kernel)⟩
theorem lw_p50 : lw_okq (⟨"TwinJudgeModel", "read", "()V"⟩, 52) := ⟨⟨by decide +kernel, by decide +kernel⟩, List.mem_of_getElem? (i := 1053) (by decide +kernel), List.mem_of_getElem? (i := 1238) (by decide +kernel), List.mem_of_getElem? (i := 1239) (by decide +kernel)⟩
theorem lw_p51 : lw_okq (⟨"TwinJudgeModel", "takeHead", "()Z"⟩, 52) := ⟨⟨by decide +kernel, by decide +kernel⟩, List.mem_of_getElem? (i := 1053) (by decide +kernel), List.mem_of_getElem? (i := 1242) (by decide +kernel), List.mem_of_getElem? (i := 1243) (by decide +kernel)⟩
theorem lw_p52 : lw_okq (⟨"TwinJudgeModel", "take", "(I)V"⟩, 52) := ⟨⟨by decide +kernel, by decide +kernel⟩, List.mem_of_getElem? (i := 1053) (by decide +kernel), List.mem_of_getElem? (i := 1246) (by decide +kernel), List.mem_of_getElem? (i := 1247) (by decide +kernel)⟩
theorem lw_p53 : lw_okq (⟨"TwinJudgeModel", "here", "()I"⟩, 52) := ⟨⟨by decide +kernel, by decide +kernel⟩, List.mem_of_getElem? (i := 1053) (by decide +kernel), List.mem_of_getElem? (i := 1250) (by decide +kernel), List.mem_of_getElem? (i := 1251) (by decide +kernel)⟩
theorem lw_p54 : lw_okq (⟨"TwinJudgeModel", "wrong", "(II)V"⟩, 52) := ⟨⟨by decide +kernel, by decide +kernel⟩, List.mem_of_getElem? (i := 1053) (by decide +kernel), List.mem_of_getElem? (i := 1254) (by decide +kernel), List.mem_of_getElem? (i := 1255) (by decide +kernel)⟩
theorem lw_p55 : lw_okq (⟨"TwinJudgeModel", "takeNumber", "()V"⟩, 52) := ⟨⟨by decide +kernel, by decide +kernel⟩, List.mem_of_getElem? (i := 1053) (by decide +kernel), List.mem_of_getElem? (i := 1258) (by decide +kernel), List.mem_of_getElem? (i := 1259) (by decide +kernel)⟩
theorem lw_p56 : lw_okq (⟨"TwinJudgeModel", "isDigit", "()Z"⟩, 52) := ⟨⟨by decide +kernel, by decide +kernel⟩, List.mem_of_getElem? (i := 1053) (by decide +kernel), List.mem_of_getElem? (i := 1262) (by decide +kernel), List.mem_of_getElem? (i := 1263) (by decide +kernel)⟩
theorem lw_p57 : lw_okq (⟨"TwinJudgeModel", "takeBinary", "()V"⟩, 52) := ⟨⟨by decide +kernel, by decide +kernel⟩, List.mem_of_getElem? (i := 1053) (by decide +kernel), List.mem_of_getElem? (i := 1266) (by decide +kernel), List.mem_of_getElem? (i := 1267) (by decide +kernel)⟩
theorem lw_p58 : lw_okq (⟨"TwinJudgeModel", "define", "(III)V"⟩, 52) := ⟨⟨by decide +kernel, by decide +kernel⟩, List.mem_of_getElem? (i := 1053) (by decide +kernel), List.mem_of_getElem? (i := 1270) (by decide +kernel), List.mem_of_getElem? (i := 1271) (by decide +kernel)⟩
theorem lw_p59 : lw_okq (⟨"TwinJudgeModel", "takeNext", "(I)V"⟩, 52) := ⟨⟨by decide +kernel, by decide +kernel⟩, List.mem_of_getElem? (i := 1053) (by decide +kernel), List.mem_of_getElem? (i := 1274) (by decide +kernel), List.mem_of_getElem? (i := 1275) (by decide +kernel)⟩
theorem lw_p60 : lw_okq (⟨"TwinJudgeModel", "literal", "()I"⟩, 52) := ⟨⟨by decide +kernel, by decide +kernel⟩, List.mem_of_getElem? (i := 1053) (by decide +kernel), List.mem_of_getElem? (i := 1278) (by decide +kernel), List.mem_of_getElem? (i := 1279) (by decide +kernel)⟩
theorem lw_p61 : lw_okq (⟨"TwinJudgeModel", "takeOutputs", "()V"⟩, 52) := ⟨⟨by decide +kernel, by decide +kernel⟩, List.mem_of_getElem? (i := 1053) (by decide +kernel), List.mem_of_getElem? (i := 1282) (by decide +kernel), List.mem_of_getElem? (i := 1283) (by decide +kernel)⟩
theorem lw_p62 : lw_okq (⟨"TwinJudgeModel", "delta", "(II)I"⟩, 52) := ⟨⟨by decide +kernel, by decide +kernel⟩, List.mem_of_getElem? (i := 1053) (by decide +kernel), List.mem_of_getElem? (i := 1286) (by decide +kernel), List.mem_of_getElem? (i := 1287) (by decide +kernel)⟩
theorem lw_p63 : lw_okq (⟨"TwinJudgeModel", "takeText", "()V"⟩, 52) := ⟨⟨by decide +kernel, by decide +kernel⟩, List.mem_of_getElem? (i := 1053) (by decide +kernel), List.mem_of_getElem? (i := 1290) (by decide +kernel), List.mem_of_getElem? (i := 1291) (by decide +kernel)⟩
def lw_privs_4 : List (MethodName × Nat) := [(⟨"TwinJudge$Likeness", "findLeader", "(I)V"⟩, 7), (⟨"TwinJudge$Likeness", "leaveLone", "()V"⟩, 7), (⟨"TwinJudgeModel", "read", "()V"⟩, 52), (⟨"TwinJudgeModel", "takeHead", "()Z"⟩, 52), (⟨"TwinJudgeModel", "take", "(I)V"⟩, 52), (⟨"TwinJudgeModel", "here", "()I"⟩, 52), (⟨"TwinJudgeModel", "wrong", "(II)V"⟩, 52), (⟨"TwinJudgeModel", "takeNumber", "()V"⟩, 52), (⟨"TwinJudgeModel", "isDigit", "()Z"⟩, 52), (⟨"TwinJudgeModel", "takeBinary", "()V"⟩, 52), (⟨"TwinJudgeModel", "define", "(III)V"⟩, 52), (⟨"TwinJudgeModel", "takeNext", "(I)V"⟩, 52), (⟨"TwinJudgeModel", "literal", "()I"⟩, 52), (⟨"TwinJudgeModel", "takeOutputs", "()V"⟩, 52), (⟨"TwinJudgeModel", "delta", "(II)I"⟩, 52), (⟨"TwinJudgeModel", "takeText", "()V"⟩, 52)]
theorem lw_r4 : ∀ q ∈ lw_privs_4, lw_okq q := List.forall_mem_cons.mpr ⟨lw_p48, List.forall_mem_cons.mpr ⟨lw_p49, List.forall_mem_cons.mpr ⟨lw_p50, List.forall_mem_cons.mpr ⟨lw_p51, List.forall_mem_cons.mpr ⟨lw_p52, List.forall_mem_cons.mpr ⟨lw_p53, List.forall_mem_cons.mpr ⟨lw_p54, List.forall_mem_cons.mpr ⟨lw_p55, List.forall_mem_cons.mpr ⟨lw_p56, List.forall_mem_cons.mpr ⟨lw_p57, List.forall_mem_cons.mpr ⟨lw_p58, List.forall_mem_cons.mpr ⟨lw_p59, List.forall_mem_cons.mpr ⟨lw_p60, List.forall_mem_cons.mpr ⟨lw_p61, List.forall_mem_cons.mpr ⟨lw_p62, List.forall_mem_cons.mpr ⟨lw_p63, fun _ h => absurd h List.not_mem_nil⟩⟩⟩⟩⟩⟩⟩⟩⟩⟩⟩⟩⟩⟩⟩⟩
theorem lw_p64 : lw_okq (⟨"TwinJudgeModel", "defines", "(II)I"⟩, 52) := ⟨⟨by decide +kernel, by decide +kernel⟩, List.mem_of_getElem? (i := 1053) (by decide +kernel), List.mem_of_getElem? (i := 1294) (by decide +kernel), List.mem_of_getElem? (i := 1295) (by decide +kernel)⟩
theorem lw_p65 : lw_okq (⟨"TwinJudgeModel", "takeSymbols", "()V"⟩, 52) := ⟨⟨by decide +kernel, by decide +kernel⟩, List.mem_of_getElem? (i := 1053) (by decide +kernel), List.mem_of_getElem? (i := 1298) (by decide +kernel), List.mem_of_getElem? (i := 1299) (by decide +kernel)⟩
theorem lw_p66 : lw_okq (⟨"TwinJudgeModel", "findNowhere", "()V"⟩, 52) := ⟨⟨by decide +kernel, by decide +kernel⟩, List.mem_of_getElem? (i := 1053) (by decide +kernel), List.mem_of_getElem? (i := 1302) (by decide +kernel), List.mem_of_getElem? (i := 1303) (by decide +kernel)⟩
theorem lw_p67 : lw_okq (⟨"TwinJudgeModel", "isNowhere", "(I)Z"⟩, 52) := ⟨⟨by decide +kernel, by decide +kernel⟩, List.mem_of_getElem? (i := 1053) (by decide +kernel), List.mem_of_getElem? (i := 1306) (by decide +kernel), List.mem_of_getElem? (i := 1307) (by decide +kernel)⟩
theorem lw_p68 : lw_okq (⟨"TwinJudgeModel", "findRing", "()V"⟩, 52) := ⟨⟨by decide +kernel, by decide +kernel⟩, List.mem_of_getElem? (i := 1053) (by decide +kernel), List.mem_of_getElem? (i := 1310) (by decide +kernel), List.mem_of_getElem? (i := 1311) (by decide +kernel)⟩
theorem lw_p69 : lw_okq (⟨"TwinJudgeModel", "sort", "()V"⟩, 52) := ⟨⟨by decide +kernel, by decide +kernel⟩, List.mem_of_getElem? (i := 1053) (by decide +kernel), List.mem_of_getElem? (i := 1314) (by decide +kernel), List.mem_of_getElem? (i := 1315) (by decide +kernel)⟩
theorem lw_p70 : lw_okq (⟨"TwinJudgeModel", "hasCome", "(I)Z"⟩, 52) := ⟨⟨by decide +kernel, by decide +kernel⟩, List.mem_of_getElem? (i := 1053) (by decide +kernel), List.mem_of_getElem? (i := 1318) (by decide +kernel), List.mem_of_getElem? (i := 1319) (by decide +kernel)⟩
theorem lw_p71 : lw_okq (⟨"TwinJudgeModel", "hangs", "(I)Z"⟩, 52) := ⟨⟨by decide +kernel, by decide +kernel⟩, List.mem_of_getElem? (i := 1053) (by decide +kernel), List.mem_of_getElem? (i := 1322) (by decide +kernel), List.mem_of_getElem? (i := 1323) (by decide +kernel)⟩
theorem lw_p72 : lw_okq (⟨"TwinJudgeModel", "keep", "(I)V"⟩, 52) := ⟨⟨by decide +kernel, by decide +kernel⟩, List.mem_of_getElem? (i := 1053) (by decide +kernel), List.mem_of_getElem? (i := 1326) (by decide +kernel), List.mem_of_getElem? (i := 1327) (by decide +kernel)⟩
theorem lw_p73 : lw_okq (⟨"TwinJudgeModel", "isThere", "(I)Z"⟩, 52) := ⟨⟨by decide +kernel, by decide +kernel⟩, List.mem_of_getElem? (i := 1053) (by decide +kernel), List.mem_of_getElem? (i := 1338) (by decide +kernel), List.mem_of_getElem? (i := 1339) (by decide +kernel)⟩
theorem lw_p74 : lw_okq (⟨"TwinJudgeModel", "isLiteral", "(II)Z"⟩, 52) := ⟨⟨by decide +kernel, by decide +kernel⟩, List.mem_of_getElem? (i := 1053) (by decide +kernel), List.mem_of_getElem? (i := 1358) (by decide +kernel), List.mem_of_getElem? (i := 1359) (by decide +kernel)⟩
theorem lw_p75 : lw_okq (⟨"TwinJudgeModel", "reckon", "(II)V"⟩, 52) := ⟨⟨by decide +kernel, by decide +kernel⟩, List.mem_of_getElem? (i := 1053) (by decide +kernel), List.mem_of_getElem? (i := 1362) (by decide +kernel), List.mem_of_getElem? (i := 1363) (by decide +kernel)⟩
theorem lw_p76 : lw_okq (⟨"TwinJudgeModel", "of", "(II)J"⟩, 52) := ⟨⟨by decide +kernel, by decide +kernel⟩, List.mem_of_getElem? (i := 1053) (by decide +kernel), List.mem_of_getElem? (i := 1375) (by decide +kernel), List.mem_of_getElem? (i := 1376) (by decide +kernel)⟩
theorem lw_p77 : lw_okq (⟨"TwinJudgeModel", "next", "(II)I"⟩, 52) := ⟨⟨by decide +kernel, by decide +kernel⟩, List.mem_of_getElem? (i := 1053) (by decide +kernel), List.mem_of_getElem? (i := 1383) (by decide +kernel), List.mem_of_getElem? (i := 1384) (by decide +kernel)⟩
theorem lw_p78 : lw_okq (⟨"TwinJudgeModel", "none", "()Z"⟩, 52) := ⟨⟨by decide +kernel, by decide +kernel⟩, List.mem_of_getElem? (i := 1053) (by decide +kernel), List.mem_of_getElem? (i := 1391) (by decide +kernel), List.mem_of_getElem? (i := 1392) (by decide +kernel)⟩
theorem lw_p79 : lw_okq (⟨"TwinJudgeModel", "matches", "()Z"⟩, 52) := ⟨⟨by decide +kernel, by decide +kernel⟩, List.mem_of_getElem? (i := 1053) (by decide +kernel), List.mem_of_getElem? (i := 1395) (by decide +kernel), List.mem_of_getElem? (i := 1396) (by decide +kernel)⟩
def lw_privs_5 : List (MethodName × Nat) := [(⟨"TwinJudgeModel", "defines", "(II)I"⟩, 52), (⟨"TwinJudgeModel", "takeSymbols", "()V"⟩, 52), (⟨"TwinJudgeModel", "findNowhere", "()V"⟩, 52), (⟨"TwinJudgeModel", "isNowhere", "(I)Z"⟩, 52), (⟨"TwinJudgeModel", "findRing", "()V"⟩, 52), (⟨"TwinJudgeModel", "sort", "()V"⟩, 52), (⟨"TwinJudgeModel", "hasCome", "(I)Z"⟩, 52), (⟨"TwinJudgeModel", "hangs", "(I)Z"⟩, 52), (⟨"TwinJudgeModel", "keep", "(I)V"⟩, 52), (⟨"TwinJudgeModel", "isThere", "(I)Z"⟩, 52), (⟨"TwinJudgeModel", "isLiteral", "(II)Z"⟩, 52), (⟨"TwinJudgeModel", "reckon", "(II)V"⟩, 52), (⟨"TwinJudgeModel", "of", "(II)J"⟩, 52), (⟨"TwinJudgeModel", "next", "(II)I"⟩, 52), (⟨"TwinJudgeModel", "none", "()Z"⟩, 52), (⟨"TwinJudgeModel", "matches", "()Z"⟩, 52)]
theorem lw_r5 : ∀ q ∈ lw_privs_5, lw_okq q := List.forall_mem_cons.mpr ⟨lw_p64, List.forall_mem_cons.mpr ⟨lw_p65, List.forall_mem_cons.mpr ⟨lw_p66, List.forall_mem_cons.mpr ⟨lw_p67, List.forall_mem_cons.mpr ⟨lw_p68, List.forall_mem_cons.mpr ⟨lw_p69, List.forall_mem_cons.mpr ⟨lw_p70, List.forall_mem_cons.mpr ⟨lw_p71, List.forall_mem_cons.mpr ⟨lw_p72, List.forall_mem_cons.mpr ⟨lw_p73, List.forall_mem_cons.mpr ⟨lw_p74, List.forall_mem_cons.mpr ⟨lw_p75, List.forall_mem_cons.mpr ⟨lw_p76, List.forall_mem_cons.mpr ⟨lw_p77, List.forall_mem_cons.mpr ⟨lw_p78, List.forall_mem_cons.mpr ⟨lw_p79, fun _ h => absurd h List.not_mem_nil⟩⟩⟩⟩⟩⟩⟩⟩⟩⟩⟩⟩⟩⟩⟩⟩
theorem lw_p80 : lw_okq (⟨"TwinJudgeModel", "fails", "(ZI)Z"⟩, 52) := ⟨⟨by decide +kernel, by decide +kernel⟩, List.mem_of_getElem? (i := 1053) (by decide +kernel), List.mem_of_getElem? (i := 1399) (by decide +kernel), List.mem_of_getElem? (i := 1400) (by decide +kernel)⟩
theorem lw_p81 : lw_okq (⟨"TwinJudgeModel", "look", "()V"⟩, 52) := ⟨⟨by decide +kernel, by decide +kernel⟩, List.mem_of_getElem? (i := 1053) (by decide +kernel), List.mem_of_getElem? (i := 1403) (by decide +kernel), List.mem_of_getElem? (i := 1404) (by decide +kernel)⟩
theorem lw_p82 : lw_okq (⟨"TwinJudgeModel", "reckonBoth", "(I)V"⟩, 52) := ⟨⟨by decide +kernel, by decide +kernel⟩, List.mem_of_getElem? (i := 1053) (by decide +kernel), List.mem_of_getElem? (i := 1407) (by decide +kernel), List.mem_of_getElem? (i := 1408) (by decide +kernel)⟩
theorem lw_p83 : lw_okq (⟨"TwinJudgeModel", "stateOf", "(II)I"⟩, 52) := ⟨⟨by decide +kernel, by decide +kernel⟩, List.mem_of_getElem? (i := 1053) (by decide +kernel), List.mem_of_getElem? (i := 1411) (by decide +kernel), List.mem_of_getElem? (i := 1412) (by decide +kernel)⟩
theorem lw_p84 : lw_okq (⟨"TwinJudgeModel", "tellsBy", "(I)J"⟩, 52) := ⟨⟨by decide +kernel, by decide +kernel⟩, List.mem_of_getElem? (i := 1053) (by decide +kernel), List.mem_of_getElem? (i := 1415) (by decide +kernel), List.mem_of_getElem? (i := 1416) (by decide +kernel)⟩
theorem lw_p85 : lw_okq (⟨"TwinJudgeModel", "mask", "()J"⟩, 52) := ⟨⟨by decide +kernel, by decide +kernel⟩, List.mem_of_getElem? (i := 1053) (by decide +kernel), List.mem_of_getElem? (i := 1419) (by decide +kernel), List.mem_of_getElem? (i := 1420) (by decide +kernel)⟩
theorem lw_p86 : lw_okq (⟨"TwinJudgeModel", "find", "()V"⟩, 52) := ⟨⟨by decide +kernel, by decide +kernel⟩, List.mem_of_getElem? (i := 1053) (by decide +kernel), List.mem_of_getElem? (i := 1423) (by decide +kernel), List.mem_of_getElem? (i := 1424) (by decide +kernel)⟩
theorem lw_p87 : lw_okq (⟨"TwinJudgeModel", "signal", "(II)I"⟩, 52) := ⟨⟨by decide +kernel, by decide +kernel⟩, List.mem_of_getElem? (i := 1053) (by decide +kernel), List.mem_of_getElem? (i := 1467) (by decide +kernel), List.mem_of_getElem? (i := 1468) (by decide +kernel)⟩
theorem lw_p88 : lw_okq (⟨"TwinJudgeModel", "gate", "(III)I"⟩, 52) := ⟨⟨by decide +kernel, by decide +kernel⟩, List.mem_of_getElem? (i := 1053) (by decide +kernel), List.mem_of_getElem? (i := 1471) (by decide +kernel), List.mem_of_getElem? (i := 1472) (by decide +kernel)⟩
def lw_privs_6 : List (MethodName × Nat) := [(⟨"TwinJudgeModel", "fails", "(ZI)Z"⟩, 52), (⟨"TwinJudgeModel", "look", "()V"⟩, 52), (⟨"TwinJudgeModel", "reckonBoth", "(I)V"⟩, 52), (⟨"TwinJudgeModel", "stateOf", "(II)I"⟩, 52), (⟨"TwinJudgeModel", "tellsBy", "(I)J"⟩, 52), (⟨"TwinJudgeModel", "mask", "()J"⟩, 52), (⟨"TwinJudgeModel", "find", "()V"⟩, 52), (⟨"TwinJudgeModel", "signal", "(II)I"⟩, 52), (⟨"TwinJudgeModel", "gate", "(III)I"⟩, 52)]
theorem lw_r6 : ∀ q ∈ lw_privs_6, lw_okq q := List.forall_mem_cons.mpr ⟨lw_p80, List.forall_mem_cons.mpr ⟨lw_p81, List.forall_mem_cons.mpr ⟨lw_p82, List.forall_mem_cons.mpr ⟨lw_p83, List.forall_mem_cons.mpr ⟨lw_p84, List.forall_mem_cons.mpr ⟨lw_p85, List.forall_mem_cons.mpr ⟨lw_p86, List.forall_mem_cons.mpr ⟨lw_p87, List.forall_mem_cons.mpr ⟨lw_p88, fun _ h => absurd h List.not_mem_nil⟩⟩⟩⟩⟩⟩⟩⟩⟩
def lw_privs : List (MethodName × Nat) := lw_privs_1 ++ (lw_privs_2 ++ (lw_privs_3 ++ (lw_privs_4 ++ (lw_privs_5 ++ (lw_privs_6)))))
def lw_tbl : List Cond := k2_sels lw_privs ++ tables_1
theorem lw_privs_ok : ∀ q ∈ lw_privs, lw_okq q := by
  show ∀ q ∈ lw_privs_1 ++ (lw_privs_2 ++ (lw_privs_3 ++ (lw_privs_4 ++ (lw_privs_5 ++ (lw_privs_6))))), lw_okq q
  exact List.forall_mem_append.mpr ⟨lw_r1, List.forall_mem_append.mpr ⟨lw_r2, List.forall_mem_append.mpr ⟨lw_r3, List.forall_mem_append.mpr ⟨lw_r4, List.forall_mem_append.mpr ⟨lw_r5, lw_r6⟩⟩⟩⟩⟩
def xT0 : u_T := fun k => match k with
  | 0 => ("TwinJudge$Circuit", "present", "Z", false)
  | 1 => ("TwinJudge$Circuit", "variables", "I", false)
  | 2 => ("TwinJudge$Circuit", "inputs", "I", false)
  | 3 => ("TwinJudge$Circuit", "latches", "I", false)
  | 4 => ("TwinJudge$Circuit", "outputs", "I", false)
  | 5 => ("TwinJudge$Circuit", "ands", "I", false)
  | 6 => ("TwinJudge$Circuit", "kinds", "[B", true)
  | 7 => ("TwinJudge$Circuit", "left", "[I", true)
  | 8 => ("TwinJudge$Circuit", "right", "[I", true)
  | 9 => ("TwinJudge$Circuit", "inputVariables", "[I", true)
  | 10 => ("TwinJudge$Circuit", "latchVariables", "[I", true)
  | 11 => ("TwinJudge$Circuit", "nexts", "[I", true)
  | 12 => ("TwinJudge$Circuit", "outputLiterals", "[I", true)
  | 13 => ("TwinJudge$Circuit", "order", "[I", true)
  | 14 => ("TwinJudge$Circuit", "names", "[B", true)
  | _ => ("TwinJudge$Circuit", "nameLengths", "[I", true)
def xt0 : Nat → FieldType := fun k => match k with
  | 0 => .boolean
  | 1 => .int
  | 2 => .int
  | 3 => .int
  | 4 => .int
  | 5 => .int
  | 6 => (.array .byte)
  | 7 => (.array .int)
  | 8 => (.array .int)
  | 9 => (.array .int)
  | 10 => (.array .int)
  | 11 => (.array .int)
  | 12 => (.array .int)
  | 13 => (.array .int)
  | 14 => (.array .byte)
  | _ => (.array .int)
theorem xn0 : ∀ a, a < 16 → ∀ b, b < 16 → a ≠ b → (xT0 a).2.1 ≠ (xT0 b).2.1 := by decide +kernel
theorem xp0 : ∀ k, k < 16 → parseFieldDescriptor (xT0 k).2.2.1 = some (xt0 k) := by decide +kernel
def xT1 : u_T := fun k => match k with
  | 0 => ("TwinJudge$Layers", "table", "LTwinJudge$Table;", true)
  | 1 => ("TwinJudge$Layers", "latest", "[Z", false)
  | 2 => ("TwinJudge$Layers", "spare", "[Z", false)
  | 3 => ("TwinJudge$Layers", "known", "I", false)
  | 4 => ("TwinJudge$Layers", "firstEmpty", "I", false)
  | 5 => ("TwinJudge$Layers", "firstWithReset", "I", false)
  | _ => ("TwinJudge$Layers", "isSteady", "Z", false)
def xt1 : Nat → FieldType := fun k => match k with
  | 0 => (.object "TwinJudge$Table")
  | 1 => (.array .boolean)
  | 2 => (.array .boolean)
  | 3 => .int
  | 4 => .int
  | 5 => .int
  | _ => .boolean
theorem xn1 : ∀ a, a < 7 → ∀ b, b < 7 → a ≠ b → (xT1 a).2.1 ≠ (xT1 b).2.1 := by decide +kernel
theorem xp1 : ∀ k, k < 7 → parseFieldDescriptor (xT1 k).2.2.1 = some (xt1 k) := by decide +kernel
def xT2 : u_T := fun k => match k with
  | 0 => ("TwinJudge$Likeness", "leaders", "[I", true)
  | 1 => ("TwinJudge$Likeness", "flips", "[I", true)
  | 2 => ("TwinJudge$Likeness", "words", "[I", true)
  | 3 => ("TwinJudge$Likeness", "splits", "[I", true)
  | 4 => ("TwinJudge$Likeness", "sizes", "[I", true)
  | 5 => ("TwinJudge$Likeness", "open", "[I", true)
  | _ => ("TwinJudge$Likeness", "openCount", "I", false)
def xt2 : Nat → FieldType := fun k => match k with
  | 0 => (.array .int)
  | 1 => (.array .int)
  | 2 => (.array .int)
  | 3 => (.array .int)
  | 4 => (.array .int)
  | 5 => (.array .int)
  | _ => .int
theorem xn2 : ∀ a, a < 7 → ∀ b, b < 7 → a ≠ b → (xT2 a).2.1 ≠ (xT2 b).2.1 := by decide +kernel
theorem xp2 : ∀ k, k < 7 → parseFieldDescriptor (xT2 k).2.2.1 = some (xt2 k) := by decide +kernel
def xT3 : u_T := fun k => match k with
  | 0 => ("TwinJudge$Overlay", "lower", "[I", true)
  | 1 => ("TwinJudge$Overlay", "upper", "[I", true)
  | 2 => ("TwinJudge$Overlay", "signals", "[I", true)
  | _ => ("TwinJudge$Overlay", "count", "I", false)
def xt3 : Nat → FieldType := fun k => match k with
  | 0 => (.array .int)
  | 1 => (.array .int)
  | 2 => (.array .int)
  | _ => .int
theorem xn3 : ∀ a, a < 4 → ∀ b, b < 4 → a ≠ b → (xT3 a).2.1 ≠ (xT3 b).2.1 := by decide +kernel
theorem xp3 : ∀ k, k < 4 → parseFieldDescriptor (xT3 k).2.2.1 = some (xt3 k) := by decide +kernel
def xT4 : u_T := fun k => match k with
  | 0 => ("TwinJudge$Player", "circuits", "[LTwinJudge$Circuit;", true)
  | 1 => ("TwinJudge$Player", "states", "[I", true)
  | 2 => ("TwinJudge$Player", "inputWords", "[I", true)
  | _ => ("TwinJudge$Player", "row", "[I", true)
def xt4 : Nat → FieldType := fun k => match k with
  | 0 => (.array (.object "TwinJudge$Circuit"))
  | 1 => (.array .int)
  | 2 => (.array .int)
  | _ => (.array .int)
theorem xn4 : ∀ a, a < 4 → ∀ b, b < 4 → a ≠ b → (xT4 a).2.1 ≠ (xT4 b).2.1 := by decide +kernel
theorem xp4 : ∀ k, k < 4 → parseFieldDescriptor (xT4 k).2.2.1 = some (xt4 k) := by decide +kernel
def xT5 : u_T := fun k => match k with
  | 0 => ("TwinJudge$Reader", "tape", "LTwinJudge$Tape;", true)
  | 1 => ("TwinJudge$Reader", "sorter", "LTwinJudge$Sorter;", true)
  | 2 => ("TwinJudge$Reader", "fresh", "LTwinJudge$Circuit;", false)
  | 3 => ("TwinJudge$Reader", "header", "[I", true)
  | 4 => ("TwinJudge$Reader", "uses", "[I", true)
  | 5 => ("TwinJudge$Reader", "usePlaces", "[I", true)
  | 6 => ("TwinJudge$Reader", "useCount", "I", false)
  | 7 => ("TwinJudge$Reader", "binary", "Z", false)
  | 8 => ("TwinJudge$Reader", "at", "I", false)
  | 9 => ("TwinJudge$Reader", "number", "I", false)
  | 10 => ("TwinJudge$Reader", "start", "I", false)
  | 11 => ("TwinJudge$Reader", "code", "I", false)
  | _ => ("TwinJudge$Reader", "place", "I", false)
def xt5 : Nat → FieldType := fun k => match k with
  | 0 => (.object "TwinJudge$Tape")
  | 1 => (.object "TwinJudge$Sorter")
  | 2 => (.object "TwinJudge$Circuit")
  | 3 => (.array .int)
  | 4 => (.array .int)
  | 5 => (.array .int)
  | 6 => .int
  | 7 => .boolean
  | 8 => .int
  | 9 => .int
  | 10 => .int
  | 11 => .int
  | _ => .int
theorem xn5 : ∀ a, a < 13 → ∀ b, b < 13 → a ≠ b → (xT5 a).2.1 ≠ (xT5 b).2.1 := by decide +kernel
theorem xp5 : ∀ k, k < 13 → parseFieldDescriptor (xT5 k).2.2.1 = some (xt5 k) := by decide +kernel
def xT6 : u_T := fun k => match k with
  | 0 => ("TwinJudge$Sorter", "byFile", "[I", true)
  | 1 => ("TwinJudge$Sorter", "come", "[Z", true)
  | 2 => ("TwinJudge$Sorter", "seen", "[Z", true)
  | 3 => ("TwinJudge$Sorter", "reached", "[I", true)
  | _ => ("TwinJudge$Sorter", "reachedCount", "I", false)
def xt6 : Nat → FieldType := fun k => match k with
  | 0 => (.array .int)
  | 1 => (.array .boolean)
  | 2 => (.array .boolean)
  | 3 => (.array .int)
  | _ => .int
theorem xn6 : ∀ a, a < 5 → ∀ b, b < 5 → a ≠ b → (xT6 a).2.1 ≠ (xT6 b).2.1 := by decide +kernel
theorem xp6 : ∀ k, k < 5 → parseFieldDescriptor (xT6 k).2.2.1 = some (xt6 k) := by decide +kernel
def xT7 : u_T := fun k => match k with
  | 0 => ("TwinJudge$Table", "words", "[I", true)
  | 1 => ("TwinJudge$Table", "outputWords", "[I", true)
  | 2 => ("TwinJudge$Table", "nexts", "[I", true)
  | 3 => ("TwinJudge$Table", "states", "[I", true)
  | 4 => ("TwinJudge$Table", "outputs", "I", false)
  | _ => ("TwinJudge$Table", "vectors", "I", false)
def xt7 : Nat → FieldType := fun k => match k with
  | 0 => (.array .int)
  | 1 => (.array .int)
  | 2 => (.array .int)
  | 3 => (.array .int)
  | 4 => .int
  | _ => .int
theorem xn7 : ∀ a, a < 6 → ∀ b, b < 6 → a ≠ b → (xT7 a).2.1 ≠ (xT7 b).2.1 := by decide +kernel
theorem xp7 : ∀ k, k < 6 → parseFieldDescriptor (xT7 k).2.2.1 = some (xt7 k) := by decide +kernel
def xT8 : u_T := fun k => match k with
  | 0 => ("TwinJudge$Tape", "ready", "[B", true)
  | 1 => ("TwinJudge$Tape", "bytes", "[B", true)
  | _ => ("TwinJudge$Tape", "length", "I", false)
def xt8 : Nat → FieldType := fun k => match k with
  | 0 => (.array .byte)
  | 1 => (.array .byte)
  | _ => .int
theorem xn8 : ∀ a, a < 3 → ∀ b, b < 3 → a ≠ b → (xT8 a).2.1 ≠ (xT8 b).2.1 := by decide +kernel
theorem xp8 : ∀ k, k < 3 → parseFieldDescriptor (xT8 k).2.2.1 = some (xt8 k) := by decide +kernel
def xT9 : u_T := fun k => match k with
  | 0 => ("TwinJudge$Walk", "table", "LTwinJudge$Table;", true)
  | 1 => ("TwinJudge$Walk", "queue", "[I", true)
  | 2 => ("TwinJudge$Walk", "depths", "[I", true)
  | 3 => ("TwinJudge$Walk", "arrivals", "[I", true)
  | 4 => ("TwinJudge$Walk", "vectors", "[I", true)
  | 5 => ("TwinJudge$Walk", "count", "I", false)
  | 6 => ("TwinJudge$Walk", "length", "I", false)
  | _ => ("TwinJudge$Walk", "blamed", "I", false)
def xt9 : Nat → FieldType := fun k => match k with
  | 0 => (.object "TwinJudge$Table")
  | 1 => (.array .int)
  | 2 => (.array .int)
  | 3 => (.array .int)
  | 4 => (.array .int)
  | 5 => .int
  | 6 => .int
  | _ => .int
theorem xn9 : ∀ a, a < 8 → ∀ b, b < 8 → a ≠ b → (xT9 a).2.1 ≠ (xT9 b).2.1 := by decide +kernel
theorem xp9 : ∀ k, k < 8 → parseFieldDescriptor (xT9 k).2.2.1 = some (xt9 k) := by decide +kernel
def xT10 : u_T := fun k => match k with
  | 0 => ("TwinJudge$Works", "circuits", "[LTwinJudge$Circuit;", true)
  | 1 => ("TwinJudge$Works", "player", "LTwinJudge$Player;", true)
  | 2 => ("TwinJudge$Works", "table", "LTwinJudge$Table;", true)
  | 3 => ("TwinJudge$Works", "walk", "LTwinJudge$Walk;", true)
  | 4 => ("TwinJudge$Works", "layers", "LTwinJudge$Layers;", true)
  | 5 => ("TwinJudge$Works", "likeness", "LTwinJudge$Likeness;", true)
  | 6 => ("TwinJudge$Works", "overlay", "LTwinJudge$Overlay;", true)
  | 7 => ("TwinJudge$Works", "isExplored", "Z", false)
  | 8 => ("TwinJudge$Works", "isSorted", "Z", false)
  | 9 => ("TwinJudge$Works", "isLaidOver", "Z", false)
  | _ => ("TwinJudge$Works", "mistakes", "I", false)
def xt10 : Nat → FieldType := fun k => match k with
  | 0 => (.array (.object "TwinJudge$Circuit"))
  | 1 => (.object "TwinJudge$Player")
  | 2 => (.object "TwinJudge$Table")
  | 3 => (.object "TwinJudge$Walk")
  | 4 => (.object "TwinJudge$Layers")
  | 5 => (.object "TwinJudge$Likeness")
  | 6 => (.object "TwinJudge$Overlay")
  | 7 => .boolean
  | 8 => .boolean
  | 9 => .boolean
  | _ => .int
theorem xn10 : ∀ a, a < 11 → ∀ b, b < 11 → a ≠ b → (xT10 a).2.1 ≠ (xT10 b).2.1 := by decide +kernel
theorem xp10 : ∀ k, k < 11 → parseFieldDescriptor (xT10 k).2.2.1 = some (xt10 k) := by decide +kernel
def xT11 : u_T := fun k => match k with
  | 0 => ("TwinJudge", "tape", "LTwinJudge$Tape;", true)
  | 1 => ("TwinJudge", "reader", "LTwinJudge$Reader;", true)
  | 2 => ("TwinJudge", "circuits", "[LTwinJudge$Circuit;", true)
  | 3 => ("TwinJudge", "player", "LTwinJudge$Player;", true)
  | _ => ("TwinJudge", "works", "LTwinJudge$Works;", false)
def xt11 : Nat → FieldType := fun k => match k with
  | 0 => (.object "TwinJudge$Tape")
  | 1 => (.object "TwinJudge$Reader")
  | 2 => (.array (.object "TwinJudge$Circuit"))
  | 3 => (.object "TwinJudge$Player")
  | _ => (.object "TwinJudge$Works")
theorem xn11 : ∀ a, a < 5 → ∀ b, b < 5 → a ≠ b → (xT11 a).2.1 ≠ (xT11 b).2.1 := by decide +kernel
theorem xp11 : ∀ k, k < 5 → parseFieldDescriptor (xT11 k).2.2.1 = some (xt11 k) := by decide +kernel
def xT12 : u_T := fun k => match k with
  | 0 => ("TwinJudgeModel", "thrown", "I", false)
  | 1 => ("TwinJudgeModel", "tape", "[B", true)
  | 2 => ("TwinJudgeModel", "ready", "[B", true)
  | 3 => ("TwinJudgeModel", "taped", "I", false)
  | 4 => ("TwinJudgeModel", "fault", "I", false)
  | 5 => ("TwinJudgeModel", "faultPlace", "I", false)
  | 6 => ("TwinJudgeModel", "at", "I", false)
  | 7 => ("TwinJudgeModel", "bad", "I", false)
  | 8 => ("TwinJudgeModel", "badPlace", "I", false)
  | 9 => ("TwinJudgeModel", "number", "I", false)
  | 10 => ("TwinJudgeModel", "head", "[I", true)
  | 11 => ("TwinJudgeModel", "inputs", "[I", true)
  | 12 => ("TwinJudgeModel", "latches", "[I", true)
  | 13 => ("TwinJudgeModel", "nexts", "[I", true)
  | 14 => ("TwinJudgeModel", "outputs", "[I", true)
  | 15 => ("TwinJudgeModel", "ands", "[I", true)
  | 16 => ("TwinJudgeModel", "left", "[I", true)
  | 17 => ("TwinJudgeModel", "right", "[I", true)
  | 18 => ("TwinJudgeModel", "kinds", "[I", true)
  | 19 => ("TwinJudgeModel", "places", "[I", true)
  | 20 => ("TwinJudgeModel", "nextAt", "[I", true)
  | 21 => ("TwinJudgeModel", "outputAt", "[I", true)
  | 22 => ("TwinJudgeModel", "leftAt", "[I", true)
  | 23 => ("TwinJudgeModel", "rightAt", "[I", true)
  | 24 => ("TwinJudgeModel", "names", "[B", true)
  | 25 => ("TwinJudgeModel", "lengths", "[I", true)
  | 26 => ("TwinJudgeModel", "order", "[I", true)
  | 27 => ("TwinJudgeModel", "orders", "[I", true)
  | 28 => ("TwinJudgeModel", "come", "[Z", true)
  | 29 => ("TwinJudgeModel", "ordered", "I", false)
  | 30 => ("TwinJudgeModel", "there", "[Z", true)
  | 31 => ("TwinJudgeModel", "states", "[I", true)
  | 32 => ("TwinJudgeModel", "values", "[J", true)
  | 33 => ("TwinJudgeModel", "known", "Z", false)
  | 34 => ("TwinJudgeModel", "tells", "[J", true)
  | 35 => ("TwinJudgeModel", "leads", "[C", true)
  | 36 => ("TwinJudgeModel", "queue", "[I", true)
  | 37 => ("TwinJudgeModel", "depths", "[I", true)
  | 38 => ("TwinJudgeModel", "many", "I", false)
  | 39 => ("TwinJudgeModel", "width", "I", false)
  | 40 => ("TwinJudgeModel", "pairs", "I", false)
  | 41 => ("TwinJudgeModel", "length", "I", false)
  | 42 => ("TwinJudgeModel", "good", "[Z", true)
  | 43 => ("TwinJudgeModel", "some", "[Z", true)
  | 44 => ("TwinJudgeModel", "more", "[Z", true)
  | 45 => ("TwinJudgeModel", "witness", "[I", true)
  | 46 => ("TwinJudgeModel", "blamed", "I", false)
  | 47 => ("TwinJudgeModel", "alike", "[Z", true)
  | 48 => ("TwinJudgeModel", "signals", "[I", true)
  | 49 => ("TwinJudgeModel", "one", "[I", true)
  | 50 => ("TwinJudgeModel", "other", "[I", true)
  | _ => ("TwinJudgeModel", "gates", "I", false)
def xt12 : Nat → FieldType := fun k => match k with
  | 0 => .int
  | 1 => (.array .byte)
  | 2 => (.array .byte)
  | 3 => .int
  | 4 => .int
  | 5 => .int
  | 6 => .int
  | 7 => .int
  | 8 => .int
  | 9 => .int
  | 10 => (.array .int)
  | 11 => (.array .int)
  | 12 => (.array .int)
  | 13 => (.array .int)
  | 14 => (.array .int)
  | 15 => (.array .int)
  | 16 => (.array .int)
  | 17 => (.array .int)
  | 18 => (.array .int)
  | 19 => (.array .int)
  | 20 => (.array .int)
  | 21 => (.array .int)
  | 22 => (.array .int)
  | 23 => (.array .int)
  | 24 => (.array .byte)
  | 25 => (.array .int)
  | 26 => (.array .int)
  | 27 => (.array .int)
  | 28 => (.array .boolean)
  | 29 => .int
  | 30 => (.array .boolean)
  | 31 => (.array .int)
  | 32 => (.array .long)
  | 33 => .boolean
  | 34 => (.array .long)
  | 35 => (.array .char)
  | 36 => (.array .int)
  | 37 => (.array .int)
  | 38 => .int
  | 39 => .int
  | 40 => .int
  | 41 => .int
  | 42 => (.array .boolean)
  | 43 => (.array .boolean)
  | 44 => (.array .boolean)
  | 45 => (.array .int)
  | 46 => .int
  | 47 => (.array .boolean)
  | 48 => (.array .int)
  | 49 => (.array .int)
  | 50 => (.array .int)
  | _ => .int
theorem xn12 : ∀ a, a < 52 → ∀ b, b < 52 → a ≠ b → (xT12 a).2.1 ≠ (xT12 b).2.1 := by decide +kernel
theorem xp12 : ∀ k, k < 52 → parseFieldDescriptor (xT12 k).2.2.1 = some (xt12 k) := by decide +kernel
abbrev vwCl : List vw_C := [("TwinJudge$Circuit", xT0, 16), ("TwinJudge$Layers", xT1, 7), ("TwinJudge$Likeness", xT2, 7), ("TwinJudge$Overlay", xT3, 4), ("TwinJudge$Player", xT4, 4), ("TwinJudge$Reader", xT5, 13), ("TwinJudge$Sorter", xT6, 5), ("TwinJudge$Table", xT7, 6), ("TwinJudge$Tape", xT8, 3), ("TwinJudge$Walk", xT9, 8), ("TwinJudge$Works", xT10, 11), ("TwinJudge", xT11, 5), ("TwinJudgeModel", xT12, 52)]
def xst : List (String × String × String) := [("TwinJudge", "FIRST_NAMES", "[I"), ("TwinJudge", "ALL_VECTORS", "[I")]
abbrev xtys (G : va_G × (Nat → ClassId)) : List (ClassId × FieldType) := [(G.2 0, .int), (G.2 1, .byte), (G.2 2, .boolean), (G.2 3, .long), (G.2 4, .char), (G.2 5, .object "TwinJudge$Circuit")]
def xdef (ci : Nat) : List Value := match ci with
  | 0 => [.int 0, .int 0, .int 0, .int 0, .int 0, .int 0, .null, .null, .null, .null, .null, .null, .null, .null, .null, .null]
  | 1 => [.null, .null, .null, .int 0, .int 0, .int 0, .int 0]
  | 2 => [.null, .null, .null, .null, .null, .null, .int 0]
  | 3 => [.null, .null, .null, .int 0]
  | 4 => [.null, .null, .null, .null]
  | 5 => [.null, .null, .null, .null, .null, .null, .int 0, .int 0, .int 0, .int 0, .int 0, .int 0, .int 0]
  | 6 => [.null, .null, .null, .null, .int 0]
  | 7 => [.null, .null, .null, .null, .int 0, .int 0]
  | 8 => [.null, .null, .int 0]
  | 9 => [.null, .null, .null, .null, .null, .int 0, .int 0, .int 0]
  | 10 => [.null, .null, .null, .null, .null, .null, .null, .int 0, .int 0, .int 0, .int 0]
  | 11 => [.null, .null, .null, .null, .null]
  | 12 => [.int 0, .null, .null, .int 0, .int 0, .int 0, .int 0, .int 0, .int 0, .int 0, .null, .null, .null, .null, .null, .null, .null, .null, .null, .null, .null, .null, .null, .null, .null, .null, .null, .null, .null, .int 0, .null, .null, .null, .int 0, .null, .null, .null, .null, .int 0, .int 0, .int 0, .int 0, .null, .null, .null, .null, .int 0, .null, .null, .null, .null, .int 0]
  | _ => []
def xgood (w : Cond) : Bool := (w.onTables && w.keeps) || (match w with | .arrayClass _ => true | _ => false)
def xws : List Cond := lw_tbl.filter xgood
theorem xmem (i : Nat) {w : Cond} (h : lw_tbl[i]? = some w) (hg : xgood w = true) : w ∈ xws := List.mem_filter.mpr ⟨List.mem_of_getElem? h, hg⟩
theorem xl0 : ∀ w ∈ u_ws "TwinJudge$Circuit" xT0 16, w ∈ xws := by
  intro w hw
  obtain ⟨j, hj, rfl⟩ := List.mem_map.mp hw
  have hj := List.mem_range.mp hj
  have key : ∀ j, j < 16 → lw_tbl[([234, 236, 238, 240, 242, 244, 246, 248, 250, 252, 254, 256, 258, 260, 262, 264] : List Nat).getD j 0]? = some (u_lay "TwinJudge$Circuit" xT0 j) ∧ xgood (u_lay "TwinJudge$Circuit" xT0 j) = true := by decide +kernel
  exact xmem _ (key j hj).1 (key j hj).2
theorem xd0 : ∀ j, j < 16 → defaultValue (xt0 j) = vp_V (xdef 0) j := by decide +kernel
theorem xl1 : ∀ w ∈ u_ws "TwinJudge$Layers" xT1 7, w ∈ xws := by
  intro w hw
  obtain ⟨j, hj, rfl⟩ := List.mem_map.mp hw
  have hj := List.mem_range.mp hj
  have key : ∀ j, j < 7 → lw_tbl[([563, 565, 567, 569, 571, 573, 575] : List Nat).getD j 0]? = some (u_lay "TwinJudge$Layers" xT1 j) ∧ xgood (u_lay "TwinJudge$Layers" xT1 j) = true := by decide +kernel
  exact xmem _ (key j hj).1 (key j hj).2
theorem xd1 : ∀ j, j < 7 → defaultValue (xt1 j) = vp_V (xdef 1) j := by decide +kernel
theorem xl2 : ∀ w ∈ u_ws "TwinJudge$Likeness" xT2 7, w ∈ xws := by
  intro w hw
  obtain ⟨j, hj, rfl⟩ := List.mem_map.mp hw
  have hj := List.mem_range.mp hj
  have key : ∀ j, j < 7 → lw_tbl[([591, 593, 595, 597, 599, 601, 603] : List Nat).getD j 0]? = some (u_lay "TwinJudge$Likeness" xT2 j) ∧ xgood (u_lay "TwinJudge$Likeness" xT2 j) = true := by decide +kernel
  exact xmem _ (key j hj).1 (key j hj).2
theorem xd2 : ∀ j, j < 7 → defaultValue (xt2 j) = vp_V (xdef 2) j := by decide +kernel
theorem xl3 : ∀ w ∈ u_ws "TwinJudge$Overlay" xT3 4, w ∈ xws := by
  intro w hw
  obtain ⟨j, hj, rfl⟩ := List.mem_map.mp hw
  have hj := List.mem_range.mp hj
  have key : ∀ j, j < 4 → lw_tbl[([617, 619, 621, 623] : List Nat).getD j 0]? = some (u_lay "TwinJudge$Overlay" xT3 j) ∧ xgood (u_lay "TwinJudge$Overlay" xT3 j) = true := by decide +kernel
  exact xmem _ (key j hj).1 (key j hj).2
theorem xd3 : ∀ j, j < 4 → defaultValue (xt3 j) = vp_V (xdef 3) j := by decide +kernel
theorem xl4 : ∀ w ∈ u_ws "TwinJudge$Player" xT4 4, w ∈ xws := by
  intro w hw
  obtain ⟨j, hj, rfl⟩ := List.mem_map.mp hw
  have hj := List.mem_range.mp hj
  have key : ∀ j, j < 4 → lw_tbl[([323, 325, 327, 329] : List Nat).getD j 0]? = some (u_lay "TwinJudge$Player" xT4 j) ∧ xgood (u_lay "TwinJudge$Player" xT4 j) = true := by decide +kernel
  exact xmem _ (key j hj).1 (key j hj).2
theorem xd4 : ∀ j, j < 4 → defaultValue (xt4 j) = vp_V (xdef 4) j := by decide +kernel
theorem xl5 : ∀ w ∈ u_ws "TwinJudge$Reader" xT5 13, w ∈ xws := by
  intro w hw
  obtain ⟨j, hj, rfl⟩ := List.mem_map.mp hw
  have hj := List.mem_range.mp hj
  have key : ∀ j, j < 13 → lw_tbl[([282, 284, 286, 288, 290, 292, 294, 296, 298, 300, 302, 304, 306] : List Nat).getD j 0]? = some (u_lay "TwinJudge$Reader" xT5 j) ∧ xgood (u_lay "TwinJudge$Reader" xT5 j) = true := by decide +kernel
  exact xmem _ (key j hj).1 (key j hj).2
theorem xd5 : ∀ j, j < 13 → defaultValue (xt5 j) = vp_V (xdef 5) j := by decide +kernel
theorem xl6 : ∀ w ∈ u_ws "TwinJudge$Sorter" xT6 5, w ∈ xws := by
  intro w hw
  obtain ⟨j, hj, rfl⟩ := List.mem_map.mp hw
  have hj := List.mem_range.mp hj
  have key : ∀ j, j < 5 → lw_tbl[([157, 159, 161, 163, 165] : List Nat).getD j 0]? = some (u_lay "TwinJudge$Sorter" xT6 j) ∧ xgood (u_lay "TwinJudge$Sorter" xT6 j) = true := by decide +kernel
  exact xmem _ (key j hj).1 (key j hj).2
theorem xd6 : ∀ j, j < 5 → defaultValue (xt6 j) = vp_V (xdef 6) j := by decide +kernel
theorem xl7 : ∀ w ∈ u_ws "TwinJudge$Table" xT7 6, w ∈ xws := by
  intro w hw
  obtain ⟨j, hj, rfl⟩ := List.mem_map.mp hw
  have hj := List.mem_range.mp hj
  have key : ∀ j, j < 6 → lw_tbl[([495, 497, 499, 501, 503, 505] : List Nat).getD j 0]? = some (u_lay "TwinJudge$Table" xT7 j) ∧ xgood (u_lay "TwinJudge$Table" xT7 j) = true := by decide +kernel
  exact xmem _ (key j hj).1 (key j hj).2
theorem xd7 : ∀ j, j < 6 → defaultValue (xt7 j) = vp_V (xdef 7) j := by decide +kernel
theorem xl8 : ∀ w ∈ u_ws "TwinJudge$Tape" xT8 3, w ∈ xws := by
  intro w hw
  obtain ⟨j, hj, rfl⟩ := List.mem_map.mp hw
  have hj := List.mem_range.mp hj
  have key : ∀ j, j < 3 → lw_tbl[([131, 133, 135] : List Nat).getD j 0]? = some (u_lay "TwinJudge$Tape" xT8 j) ∧ xgood (u_lay "TwinJudge$Tape" xT8 j) = true := by decide +kernel
  exact xmem _ (key j hj).1 (key j hj).2
theorem xd8 : ∀ j, j < 3 → defaultValue (xt8 j) = vp_V (xdef 8) j := by decide +kernel
theorem xl9 : ∀ w ∈ u_ws "TwinJudge$Walk" xT9 8, w ∈ xws := by
  intro w hw
  obtain ⟨j, hj, rfl⟩ := List.mem_map.mp hw
  have hj := List.mem_range.mp hj
  have key : ∀ j, j < 8 → lw_tbl[([533, 535, 537, 539, 541, 543, 545, 547] : List Nat).getD j 0]? = some (u_lay "TwinJudge$Walk" xT9 j) ∧ xgood (u_lay "TwinJudge$Walk" xT9 j) = true := by decide +kernel
  exact xmem _ (key j hj).1 (key j hj).2
theorem xd9 : ∀ j, j < 8 → defaultValue (xt9 j) = vp_V (xdef 9) j := by decide +kernel
theorem xl10 : ∀ w ∈ u_ws "TwinJudge$Works" xT10 11, w ∈ xws := by
  intro w hw
  obtain ⟨j, hj, rfl⟩ := List.mem_map.mp hw
  have hj := List.mem_range.mp hj
  have key : ∀ j, j < 11 → lw_tbl[([641, 643, 645, 647, 649, 651, 653, 655, 657, 659, 661] : List Nat).getD j 0]? = some (u_lay "TwinJudge$Works" xT10 j) ∧ xgood (u_lay "TwinJudge$Works" xT10 j) = true := by decide +kernel
  exact xmem _ (key j hj).1 (key j hj).2
theorem xd10 : ∀ j, j < 11 → defaultValue (xt10 j) = vp_V (xdef 10) j := by decide +kernel
theorem xl11 : ∀ w ∈ u_ws "TwinJudge" xT11 5, w ∈ xws := by
  intro w hw
  obtain ⟨j, hj, rfl⟩ := List.mem_map.mp hw
  have hj := List.mem_range.mp hj
  have key : ∀ j, j < 5 → lw_tbl[([337, 339, 341, 343, 345] : List Nat).getD j 0]? = some (u_lay "TwinJudge" xT11 j) ∧ xgood (u_lay "TwinJudge" xT11 j) = true := by decide +kernel
  exact xmem _ (key j hj).1 (key j hj).2
theorem xd11 : ∀ j, j < 5 → defaultValue (xt11 j) = vp_V (xdef 11) j := by decide +kernel
theorem xl12 : ∀ w ∈ u_ws "TwinJudgeModel" xT12 52, w ∈ xws := by
  intro w hw
  obtain ⟨j, hj, rfl⟩ := List.mem_map.mp hw
  have hj := List.mem_range.mp hj
  have key : ∀ j, j < 52 → lw_tbl[([1200, 1202, 1204, 1206, 1208, 1210, 1212, 1214, 1216, 1218, 1220, 1222, 1224, 1226, 1228, 1230, 1232, 1234, 1236, 1238, 1240, 1242, 1244, 1246, 1248, 1250, 1252, 1254, 1256, 1258, 1260, 1262, 1264, 1266, 1268, 1270, 1272, 1274, 1276, 1278, 1280, 1282, 1284, 1286, 1288, 1290, 1292, 1294, 1296, 1298, 1300, 1302] : List Nat).getD j 0]? = some (u_lay "TwinJudgeModel" xT12 j) ∧ xgood (u_lay "TwinJudgeModel" xT12 j) = true := by decide +kernel
  exact xmem _ (key j hj).1 (key j hj).2
theorem xd12 : ∀ j, j < 52 → defaultValue (xt12 j) = vp_V (xdef 12) j := by decide +kernel
theorem xcl_ok : ∀ (ci : Nat) (q : vw_C), vwCl[ci]? = some q → (∀ w ∈ u_ws q.1 q.2.1 q.2.2, w ∈ xws) ∧ ∃ ty : Nat → FieldType, (∀ k, k < q.2.2 → parseFieldDescriptor (q.2.1 k).2.2.1 = some (ty k)) ∧ ∀ a, a < q.2.2 → ∀ b, b < q.2.2 → a ≠ b → (q.2.1 a).2.1 ≠ (q.2.1 b).2.1 := by
  intro ci q h
  match ci, h with
  | 0, h => cases h; exact ⟨xl0, xt0, xp0, xn0⟩
  | 1, h => cases h; exact ⟨xl1, xt1, xp1, xn1⟩
  | 2, h => cases h; exact ⟨xl2, xt2, xp2, xn2⟩
  | 3, h => cases h; exact ⟨xl3, xt3, xp3, xn3⟩
  | 4, h => cases h; exact ⟨xl4, xt4, xp4, xn4⟩
  | 5, h => cases h; exact ⟨xl5, xt5, xp5, xn5⟩
  | 6, h => cases h; exact ⟨xl6, xt6, xp6, xn6⟩
  | 7, h => cases h; exact ⟨xl7, xt7, xp7, xn7⟩
  | 8, h => cases h; exact ⟨xl8, xt8, xp8, xn8⟩
  | 9, h => cases h; exact ⟨xl9, xt9, xp9, xn9⟩
  | 10, h => cases h; exact ⟨xl10, xt10, xp10, xn10⟩
  | 11, h => cases h; exact ⟨xl11, xt11, xp11, xn11⟩
  | 12, h => cases h; exact ⟨xl12, xt12, xp12, xn12⟩
  | k + 13, h => simp [vwCl] at h
theorem xdef_ok : ∀ (ci : Nat) (q : vw_C), vwCl[ci]? = some q → ∀ j, j < q.2.2 → ∀ t, parseFieldDescriptor (q.2.1 j).2.2.1 = some t → defaultValue t = vp_V (xdef ci) j := by
  intro ci q h j hj t ht
  match ci, h with
  | 0, h => cases h; exact (congrArg defaultValue (Option.some.inj (ht.symm.trans (xp0 j hj)))).trans (xd0 j hj)
  | 1, h => cases h; exact (congrArg defaultValue (Option.some.inj (ht.symm.trans (xp1 j hj)))).trans (xd1 j hj)
  | 2, h => cases h; exact (congrArg defaultValue (Option.some.inj (ht.symm.trans (xp2 j hj)))).trans (xd2 j hj)
  | 3, h => cases h; exact (congrArg defaultValue (Option.some.inj (ht.symm.trans (xp3 j hj)))).trans (xd3 j hj)
  | 4, h => cases h; exact (congrArg defaultValue (Option.some.inj (ht.symm.trans (xp4 j hj)))).trans (xd4 j hj)
  | 5, h => cases h; exact (congrArg defaultValue (Option.some.inj (ht.symm.trans (xp5 j hj)))).trans (xd5 j hj)
  | 6, h => cases h; exact (congrArg defaultValue (Option.some.inj (ht.symm.trans (xp6 j hj)))).trans (xd6 j hj)
  | 7, h => cases h; exact (congrArg defaultValue (Option.some.inj (ht.symm.trans (xp7 j hj)))).trans (xd7 j hj)
  | 8, h => cases h; exact (congrArg defaultValue (Option.some.inj (ht.symm.trans (xp8 j hj)))).trans (xd8 j hj)
  | 9, h => cases h; exact (congrArg defaultValue (Option.some.inj (ht.symm.trans (xp9 j hj)))).trans (xd9 j hj)
  | 10, h => cases h; exact (congrArg defaultValue (Option.some.inj (ht.symm.trans (xp10 j hj)))).trans (xd10 j hj)
  | 11, h => cases h; exact (congrArg defaultValue (Option.some.inj (ht.symm.trans (xp11 j hj)))).trans (xd11 j hj)
  | 12, h => cases h; exact (congrArg defaultValue (Option.some.inj (ht.symm.trans (xp12 j hj)))).trans (xd12 j hj)
  | k + 13, h => simp [vwCl] at h
