section
-- ===== PART A: goes FIRST, ahead of the names: the tables' words, and 'selects' of the private methods out of them =====
/-- a private method of a class that the tables say can be made, by its rows of tables_1 -/
def lw_okq (q : MethodName × Nat) : Prop := (q.1.cls ≠ "java/lang/invoke/MethodHandle" ∧ q.1.cls ≠ "java/lang/invoke/VarHandle") ∧ Cond.instantiable q.1.cls q.2 ∈ tables_1 ∧ Cond.privateMethod q.1 ∈ tables_1 ∧ Cond.instanceMethod q.1 ∈ tables_1
theorem lw_p0 : lw_okq (⟨"RingCounts$Net", "come", "(III)V"⟩, 11) := ⟨⟨by decide +kernel, by decide +kernel⟩, List.mem_of_getElem? (i := 28) (by decide +kernel), List.mem_of_getElem? (i := 332) (by decide +kernel), List.mem_of_getElem? (i := 333) (by decide +kernel)⟩
theorem lw_p1 : lw_okq (⟨"RingCounts$Net", "rebase", "(I)V"⟩, 11) := ⟨⟨by decide +kernel, by decide +kernel⟩, List.mem_of_getElem? (i := 28) (by decide +kernel), List.mem_of_getElem? (i := 345) (by decide +kernel), List.mem_of_getElem? (i := 346) (by decide +kernel)⟩
theorem lw_p2 : lw_okq (⟨"RingCounts$Net", "lookAt", "(I)V"⟩, 11) := ⟨⟨by decide +kernel, by decide +kernel⟩, List.mem_of_getElem? (i := 28) (by decide +kernel), List.mem_of_getElem? (i := 363) (by decide +kernel), List.mem_of_getElem? (i := 364) (by decide +kernel)⟩
theorem lw_p3 : lw_okq (⟨"RingCounts$Net", "go", "(II)V"⟩, 11) := ⟨⟨by decide +kernel, by decide +kernel⟩, List.mem_of_getElem? (i := 28) (by decide +kernel), List.mem_of_getElem? (i := 383) (by decide +kernel), List.mem_of_getElem? (i := 384) (by decide +kernel)⟩
theorem lw_p4 : lw_okq (⟨"RingCounts$Peeling", "gather", "()V"⟩, 9) := ⟨⟨by decide +kernel, by decide +kernel⟩, List.mem_of_getElem? (i := 97) (by decide +kernel), List.mem_of_getElem? (i := 449) (by decide +kernel), List.mem_of_getElem? (i := 450) (by decide +kernel)⟩
theorem lw_p5 : lw_okq (⟨"RingCounts$Peeling", "peel", "()V"⟩, 9) := ⟨⟨by decide +kernel, by decide +kernel⟩, List.mem_of_getElem? (i := 97) (by decide +kernel), List.mem_of_getElem? (i := 456) (by decide +kernel), List.mem_of_getElem? (i := 457) (by decide +kernel)⟩
theorem lw_p6 : lw_okq (⟨"RingCounts$Peeling", "leastFrom", "(I)I"⟩, 9) := ⟨⟨by decide +kernel, by decide +kernel⟩, List.mem_of_getElem? (i := 97) (by decide +kernel), List.mem_of_getElem? (i := 460) (by decide +kernel), List.mem_of_getElem? (i := 461) (by decide +kernel)⟩
theorem lw_p7 : lw_okq (⟨"RingCounts$Peeling", "takeAway", "(II)V"⟩, 9) := ⟨⟨by decide +kernel, by decide +kernel⟩, List.mem_of_getElem? (i := 97) (by decide +kernel), List.mem_of_getElem? (i := 465) (by decide +kernel), List.mem_of_getElem? (i := 466) (by decide +kernel)⟩
theorem lw_p8 : lw_okq (⟨"RingCounts$Peeling", "pieceOf", "(I)J"⟩, 9) := ⟨⟨by decide +kernel, by decide +kernel⟩, List.mem_of_getElem? (i := 97) (by decide +kernel), List.mem_of_getElem? (i := 522) (by decide +kernel), List.mem_of_getElem? (i := 523) (by decide +kernel)⟩
theorem lw_p9 : lw_okq (⟨"RingCounts$Peeling", "walkFrom", "(II)I"⟩, 9) := ⟨⟨by decide +kernel, by decide +kernel⟩, List.mem_of_getElem? (i := 97) (by decide +kernel), List.mem_of_getElem? (i := 536) (by decide +kernel), List.mem_of_getElem? (i := 537) (by decide +kernel)⟩
theorem lw_p10 : lw_okq (⟨"RingCounts$Peeling", "meet", "(II)I"⟩, 9) := ⟨⟨by decide +kernel, by decide +kernel⟩, List.mem_of_getElem? (i := 97) (by decide +kernel), List.mem_of_getElem? (i := 540) (by decide +kernel), List.mem_of_getElem? (i := 541) (by decide +kernel)⟩
theorem lw_p11 : lw_okq (⟨"RingCounts$Breaking", "mostSupported", "()I"⟩, 3) := ⟨⟨by decide +kernel, by decide +kernel⟩, List.mem_of_getElem? (i := 135) (by decide +kernel), List.mem_of_getElem? (i := 592) (by decide +kernel), List.mem_of_getElem? (i := 593) (by decide +kernel)⟩
theorem lw_p12 : lw_okq (⟨"RingCounts$BatchText", "readPart", "(LRingCounts$Tape;I)V"⟩, 5) := ⟨⟨by decide +kernel, by decide +kernel⟩, List.mem_of_getElem? (i := 177) (by decide +kernel), List.mem_of_getElem? (i := 651) (by decide +kernel), List.mem_of_getElem? (i := 652) (by decide +kernel)⟩
theorem lw_p13 : lw_okq (⟨"RingCounts", "doPart", "(I)V"⟩, 11) := ⟨⟨by decide +kernel, by decide +kernel⟩, List.mem_of_getElem? (i := 20) (by decide +kernel), List.mem_of_getElem? (i := 696) (by decide +kernel), List.mem_of_getElem? (i := 697) (by decide +kernel)⟩
theorem lw_p14 : lw_okq (⟨"RingCounts$PickText", "either", "(LRingCounts$Tape;I)J"⟩, 6) := ⟨⟨by decide +kernel, by decide +kernel⟩, List.mem_of_getElem? (i := 204) (by decide +kernel), List.mem_of_getElem? (i := 715) (by decide +kernel), List.mem_of_getElem? (i := 716) (by decide +kernel)⟩
theorem lw_p15 : lw_okq (⟨"RingCounts$PickText", "both", "(LRingCounts$Tape;I)J"⟩, 6) := ⟨⟨by decide +kernel, by decide +kernel⟩, List.mem_of_getElem? (i := 204) (by decide +kernel), List.mem_of_getElem? (i := 719) (by decide +kernel), List.mem_of_getElem? (i := 720) (by decide +kernel)⟩
def lw_privs_1 : List (MethodName × Nat) := [(⟨"RingCounts$Net", "come", "(III)V"⟩, 11), (⟨"RingCounts$Net", "rebase", "(I)V"⟩, 11), (⟨"RingCounts$Net", "lookAt", "(I)V"⟩, 11), (⟨"RingCounts$Net", "go", "(II)V"⟩, 11), (⟨"RingCounts$Peeling", "gather", "()V"⟩, 9), (⟨"RingCounts$Peeling", "peel", "()V"⟩, 9), (⟨"RingCounts$Peeling", "leastFrom", "(I)I"⟩, 9), (⟨"RingCounts$Peeling", "takeAway", "(II)V"⟩, 9), (⟨"RingCounts$Peeling", "pieceOf", "(I)J"⟩, 9), (⟨"RingCounts$Peeling", "walkFrom", "(II)I"⟩, 9), (⟨"RingCounts$Peeling", "meet", "(II)I"⟩, 9), (⟨"RingCounts$Breaking", "mostSupported", "()I"⟩, 3), (⟨"RingCounts$BatchText", "readPart", "(LRingCounts$Tape;I)V"⟩, 5), (⟨"RingCounts", "doPart", "(I)V"⟩, 11), (⟨"RingCounts$PickText", "either", "(LRingCounts$Tape;I)J"⟩, 6), (⟨"RingCounts$PickText", "both", "(LRingCounts$Tape;I)J"⟩, 6)]
theorem lw_r1 : ∀ q ∈ lw_privs_1, lw_okq q := List.forall_mem_cons.mpr ⟨lw_p0, List.forall_mem_cons.mpr ⟨lw_p1, List.forall_mem_cons.mpr ⟨lw_p2, List.forall_mem_cons.mpr ⟨lw_p3, List.forall_mem_cons.mpr ⟨lw_p4, List.forall_mem_cons.mpr ⟨lw_p5, List.forall_mem_cons.mpr ⟨lw_p6, List.forall_mem_cons.mpr ⟨lw_p7, List.forall_mem_cons.mpr ⟨lw_p8, List.forall_mem_cons.mpr ⟨lw_p9, List.forall_mem_cons.mpr ⟨lw_p10, List.forall_mem_cons.mpr ⟨lw_p11, List.forall_mem_cons.mpr ⟨lw_p12, List.forall_mem_cons.mpr ⟨lw_p13, List.forall_mem_cons.mpr ⟨lw_p14, List.forall_mem_cons.mpr ⟨lw_p15, fun _ h => absurd h List.not_mem_nil⟩⟩⟩⟩⟩⟩⟩⟩⟩⟩⟩⟩⟩⟩⟩⟩
theorem lw_p16 : lw_okq (⟨"RingCounts$PickText", "single", "(LRingCounts$Tape;I)J"⟩, 6) := ⟨⟨by decide +kernel, by decide +kernel⟩, List.mem_of_getElem? (i := 204) (by decide +kernel), List.mem_of_getElem? (i := 723) (by decide +kernel), List.mem_of_getElem? (i := 724) (by decide +kernel)⟩
theorem lw_p17 : lw_okq (⟨"RingCounts$PickText", "test", "(LRingCounts$Tape;)J"⟩, 6) := ⟨⟨by decide +kernel, by decide +kernel⟩, List.mem_of_getElem? (i := 204) (by decide +kernel), List.mem_of_getElem? (i := 728) (by decide +kernel), List.mem_of_getElem? (i := 729) (by decide +kernel)⟩
theorem lw_p18 : lw_okq (⟨"RingCounts$PickText", "figuresOf", "(I)[I"⟩, 6) := ⟨⟨by decide +kernel, by decide +kernel⟩, List.mem_of_getElem? (i := 204) (by decide +kernel), List.mem_of_getElem? (i := 732) (by decide +kernel), List.mem_of_getElem? (i := 733) (by decide +kernel)⟩
theorem lw_p19 : lw_okq (⟨"RingCounts$Paper", "write", "(I)V"⟩, 2) := ⟨⟨by decide +kernel, by decide +kernel⟩, List.mem_of_getElem? (i := 229) (by decide +kernel), List.mem_of_getElem? (i := 762) (by decide +kernel), List.mem_of_getElem? (i := 763) (by decide +kernel)⟩
theorem lw_p20 : lw_okq (⟨"RingCounts$Paper", "writeNumber", "(I)V"⟩, 2) := ⟨⟨by decide +kernel, by decide +kernel⟩, List.mem_of_getElem? (i := 229) (by decide +kernel), List.mem_of_getElem? (i := 778) (by decide +kernel), List.mem_of_getElem? (i := 779) (by decide +kernel)⟩
theorem lw_p21 : lw_okq (⟨"RingCounts", "rowOf", "(I)LRingCounts$Row;"⟩, 11) := ⟨⟨by decide +kernel, by decide +kernel⟩, List.mem_of_getElem? (i := 20) (by decide +kernel), List.mem_of_getElem? (i := 818) (by decide +kernel), List.mem_of_getElem? (i := 819) (by decide +kernel)⟩
theorem lw_p22 : lw_okq (⟨"RingCountsModel", "isEdge", "(II)Z"⟩, 28) := ⟨⟨by decide +kernel, by decide +kernel⟩, List.mem_of_getElem? (i := 877) (by decide +kernel), List.mem_of_getElem? (i := 983) (by decide +kernel), List.mem_of_getElem? (i := 984) (by decide +kernel)⟩
theorem lw_p23 : lw_okq (⟨"RingCountsModel", "comes", "(III)V"⟩, 28) := ⟨⟨by decide +kernel, by decide +kernel⟩, List.mem_of_getElem? (i := 877) (by decide +kernel), List.mem_of_getElem? (i := 990) (by decide +kernel), List.mem_of_getElem? (i := 991) (by decide +kernel)⟩
theorem lw_p24 : lw_okq (⟨"RingCountsModel", "logs", "(IIZI)V"⟩, 28) := ⟨⟨by decide +kernel, by decide +kernel⟩, List.mem_of_getElem? (i := 877) (by decide +kernel), List.mem_of_getElem? (i := 994) (by decide +kernel), List.mem_of_getElem? (i := 995) (by decide +kernel)⟩
theorem lw_p25 : lw_okq (⟨"RingCountsModel", "changes", "(IIZI)V"⟩, 28) := ⟨⟨by decide +kernel, by decide +kernel⟩, List.mem_of_getElem? (i := 877) (by decide +kernel), List.mem_of_getElem? (i := 1001) (by decide +kernel), List.mem_of_getElem? (i := 1002) (by decide +kernel)⟩
theorem lw_p26 : lw_okq (⟨"RingCountsModel", "rebases", "()V"⟩, 28) := ⟨⟨by decide +kernel, by decide +kernel⟩, List.mem_of_getElem? (i := 877) (by decide +kernel), List.mem_of_getElem? (i := 1005) (by decide +kernel), List.mem_of_getElem? (i := 1006) (by decide +kernel)⟩
theorem lw_p27 : lw_okq (⟨"RingCountsModel", "degree", "(I)I"⟩, 28) := ⟨⟨by decide +kernel, by decide +kernel⟩, List.mem_of_getElem? (i := 877) (by decide +kernel), List.mem_of_getElem? (i := 1009) (by decide +kernel), List.mem_of_getElem? (i := 1010) (by decide +kernel)⟩
theorem lw_p28 : lw_okq (⟨"RingCountsModel", "bound", "()I"⟩, 28) := ⟨⟨by decide +kernel, by decide +kernel⟩, List.mem_of_getElem? (i := 877) (by decide +kernel), List.mem_of_getElem? (i := 1016) (by decide +kernel), List.mem_of_getElem? (i := 1017) (by decide +kernel)⟩
theorem lw_p29 : lw_okq (⟨"RingCountsModel", "looksAt", "(I)V"⟩, 28) := ⟨⟨by decide +kernel, by decide +kernel⟩, List.mem_of_getElem? (i := 877) (by decide +kernel), List.mem_of_getElem? (i := 1020) (by decide +kernel), List.mem_of_getElem? (i := 1021) (by decide +kernel)⟩
theorem lw_p30 : lw_okq (⟨"RingCountsModel", "shared", "(II)I"⟩, 28) := ⟨⟨by decide +kernel, by decide +kernel⟩, List.mem_of_getElem? (i := 877) (by decide +kernel), List.mem_of_getElem? (i := 1024) (by decide +kernel), List.mem_of_getElem? (i := 1025) (by decide +kernel)⟩
theorem lw_p31 : lw_okq (⟨"RingCountsModel", "goes", "(II)V"⟩, 28) := ⟨⟨by decide +kernel, by decide +kernel⟩, List.mem_of_getElem? (i := 877) (by decide +kernel), List.mem_of_getElem? (i := 1032) (by decide +kernel), List.mem_of_getElem? (i := 1033) (by decide +kernel)⟩
def lw_privs_2 : List (MethodName × Nat) := [(⟨"RingCounts$PickText", "single", "(LRingCounts$Tape;I)J"⟩, 6), (⟨"RingCounts$PickText", "test", "(LRingCounts$Tape;)J"⟩, 6), (⟨"RingCounts$PickText", "figuresOf", "(I)[I"⟩, 6), (⟨"RingCounts$Paper", "write", "(I)V"⟩, 2), (⟨"RingCounts$Paper", "writeNumber", "(I)V"⟩, 2), (⟨"RingCounts", "rowOf", "(I)LRingCounts$Row;"⟩, 11), (⟨"RingCountsModel", "isEdge", "(II)Z"⟩, 28), (⟨"RingCountsModel", "comes", "(III)V"⟩, 28), (⟨"RingCountsModel", "logs", "(IIZI)V"⟩, 28), (⟨"RingCountsModel", "changes", "(IIZI)V"⟩, 28), (⟨"RingCountsModel", "rebases", "()V"⟩, 28), (⟨"RingCountsModel", "degree", "(I)I"⟩, 28), (⟨"RingCountsModel", "bound", "()I"⟩, 28), (⟨"RingCountsModel", "looksAt", "(I)V"⟩, 28), (⟨"RingCountsModel", "shared", "(II)I"⟩, 28), (⟨"RingCountsModel", "goes", "(II)V"⟩, 28)]
theorem lw_r2 : ∀ q ∈ lw_privs_2, lw_okq q := List.forall_mem_cons.mpr ⟨lw_p16, List.forall_mem_cons.mpr ⟨lw_p17, List.forall_mem_cons.mpr ⟨lw_p18, List.forall_mem_cons.mpr ⟨lw_p19, List.forall_mem_cons.mpr ⟨lw_p20, List.forall_mem_cons.mpr ⟨lw_p21, List.forall_mem_cons.mpr ⟨lw_p22, List.forall_mem_cons.mpr ⟨lw_p23, List.forall_mem_cons.mpr ⟨lw_p24, List.forall_mem_cons.mpr ⟨lw_p25, List.forall_mem_cons.mpr ⟨lw_p26, List.forall_mem_cons.mpr ⟨lw_p27, List.forall_mem_cons.mpr ⟨lw_p28, List.forall_mem_cons.mpr ⟨lw_p29, List.forall_mem_cons.mpr ⟨lw_p30, List.forall_mem_cons.mpr ⟨lw_p31, fun _ h => absurd h List.not_mem_nil⟩⟩⟩⟩⟩⟩⟩⟩⟩⟩⟩⟩⟩⟩⟩⟩
theorem lw_p32 : lw_okq (⟨"RingCountsModel", "trianglesOf", "(I)I"⟩, 28) := ⟨⟨by decide +kernel, by decide +kernel⟩, List.mem_of_getElem? (i := 877) (by decide +kernel), List.mem_of_getElem? (i := 1049) (by decide +kernel), List.mem_of_getElem? (i := 1050) (by decide +kernel)⟩
theorem lw_p33 : lw_okq (⟨"RingCountsModel", "coreAt", "(I)I"⟩, 28) := ⟨⟨by decide +kernel, by decide +kernel⟩, List.mem_of_getElem? (i := 877) (by decide +kernel), List.mem_of_getElem? (i := 1053) (by decide +kernel), List.mem_of_getElem? (i := 1054) (by decide +kernel)⟩
theorem lw_p34 : lw_okq (⟨"RingCountsModel", "cores", "()V"⟩, 28) := ⟨⟨by decide +kernel, by decide +kernel⟩, List.mem_of_getElem? (i := 877) (by decide +kernel), List.mem_of_getElem? (i := 1057) (by decide +kernel), List.mem_of_getElem? (i := 1058) (by decide +kernel)⟩
theorem lw_p35 : lw_okq (⟨"RingCountsModel", "coreOf", "(I)J"⟩, 28) := ⟨⟨by decide +kernel, by decide +kernel⟩, List.mem_of_getElem? (i := 877) (by decide +kernel), List.mem_of_getElem? (i := 1061) (by decide +kernel), List.mem_of_getElem? (i := 1062) (by decide +kernel)⟩
theorem lw_p36 : lw_okq (⟨"RingCountsModel", "ringsOf", "(I)I"⟩, 28) := ⟨⟨by decide +kernel, by decide +kernel⟩, List.mem_of_getElem? (i := 877) (by decide +kernel), List.mem_of_getElem? (i := 1067) (by decide +kernel), List.mem_of_getElem? (i := 1068) (by decide +kernel)⟩
theorem lw_p37 : lw_okq (⟨"RingCountsModel", "foursOf", "(I)I"⟩, 28) := ⟨⟨by decide +kernel, by decide +kernel⟩, List.mem_of_getElem? (i := 877) (by decide +kernel), List.mem_of_getElem? (i := 1074) (by decide +kernel), List.mem_of_getElem? (i := 1075) (by decide +kernel)⟩
theorem lw_p38 : lw_okq (⟨"RingCountsModel", "foursAt", "(II)I"⟩, 28) := ⟨⟨by decide +kernel, by decide +kernel⟩, List.mem_of_getElem? (i := 877) (by decide +kernel), List.mem_of_getElem? (i := 1078) (by decide +kernel), List.mem_of_getElem? (i := 1079) (by decide +kernel)⟩
theorem lw_p39 : lw_okq (⟨"RingCountsModel", "joinedIn", "(J)I"⟩, 28) := ⟨⟨by decide +kernel, by decide +kernel⟩, List.mem_of_getElem? (i := 877) (by decide +kernel), List.mem_of_getElem? (i := 1082) (by decide +kernel), List.mem_of_getElem? (i := 1083) (by decide +kernel)⟩
theorem lw_p40 : lw_okq (⟨"RingCountsModel", "ways", "(II)I"⟩, 28) := ⟨⟨by decide +kernel, by decide +kernel⟩, List.mem_of_getElem? (i := 877) (by decide +kernel), List.mem_of_getElem? (i := 1090) (by decide +kernel), List.mem_of_getElem? (i := 1091) (by decide +kernel)⟩
theorem lw_p41 : lw_okq (⟨"RingCountsModel", "far", "(II)I"⟩, 28) := ⟨⟨by decide +kernel, by decide +kernel⟩, List.mem_of_getElem? (i := 877) (by decide +kernel), List.mem_of_getElem? (i := 1094) (by decide +kernel), List.mem_of_getElem? (i := 1095) (by decide +kernel)⟩
theorem lw_p42 : lw_okq (⟨"RingCountsModel", "peels", "()V"⟩, 28) := ⟨⟨by decide +kernel, by decide +kernel⟩, List.mem_of_getElem? (i := 877) (by decide +kernel), List.mem_of_getElem? (i := 1102) (by decide +kernel), List.mem_of_getElem? (i := 1103) (by decide +kernel)⟩
theorem lw_p43 : lw_okq (⟨"RingCountsModel", "leaves", "()V"⟩, 28) := ⟨⟨by decide +kernel, by decide +kernel⟩, List.mem_of_getElem? (i := 877) (by decide +kernel), List.mem_of_getElem? (i := 1106) (by decide +kernel), List.mem_of_getElem? (i := 1107) (by decide +kernel)⟩
theorem lw_p44 : lw_okq (⟨"RingCountsModel", "isLeft", "(I)Z"⟩, 28) := ⟨⟨by decide +kernel, by decide +kernel⟩, List.mem_of_getElem? (i := 877) (by decide +kernel), List.mem_of_getElem? (i := 1110) (by decide +kernel), List.mem_of_getElem? (i := 1111) (by decide +kernel)⟩
theorem lw_p45 : lw_okq (⟨"RingCountsModel", "supportLeft", "(I)I"⟩, 28) := ⟨⟨by decide +kernel, by decide +kernel⟩, List.mem_of_getElem? (i := 877) (by decide +kernel), List.mem_of_getElem? (i := 1114) (by decide +kernel), List.mem_of_getElem? (i := 1115) (by decide +kernel)⟩
theorem lw_p46 : lw_okq (⟨"RingCountsModel", "leaves", "(II)V"⟩, 28) := ⟨⟨by decide +kernel, by decide +kernel⟩, List.mem_of_getElem? (i := 877) (by decide +kernel), List.mem_of_getElem? (i := 1118) (by decide +kernel), List.mem_of_getElem? (i := 1119) (by decide +kernel)⟩
theorem lw_p47 : lw_okq (⟨"RingCountsModel", "isInTruss", "(II)Z"⟩, 28) := ⟨⟨by decide +kernel, by decide +kernel⟩, List.mem_of_getElem? (i := 877) (by decide +kernel), List.mem_of_getElem? (i := 1130) (by decide +kernel), List.mem_of_getElem? (i := 1131) (by decide +kernel)⟩
def lw_privs_3 : List (MethodName × Nat) := [(⟨"RingCountsModel", "trianglesOf", "(I)I"⟩, 28), (⟨"RingCountsModel", "coreAt", "(I)I"⟩, 28), (⟨"RingCountsModel", "cores", "()V"⟩, 28), (⟨"RingCountsModel", "coreOf", "(I)J"⟩, 28), (⟨"RingCountsModel", "ringsOf", "(I)I"⟩, 28), (⟨"RingCountsModel", "foursOf", "(I)I"⟩, 28), (⟨"RingCountsModel", "foursAt", "(II)I"⟩, 28), (⟨"RingCountsModel", "joinedIn", "(J)I"⟩, 28), (⟨"RingCountsModel", "ways", "(II)I"⟩, 28), (⟨"RingCountsModel", "far", "(II)I"⟩, 28), (⟨"RingCountsModel", "peels", "()V"⟩, 28), (⟨"RingCountsModel", "leaves", "()V"⟩, 28), (⟨"RingCountsModel", "isLeft", "(I)Z"⟩, 28), (⟨"RingCountsModel", "supportLeft", "(I)I"⟩, 28), (⟨"RingCountsModel", "leaves", "(II)V"⟩, 28), (⟨"RingCountsModel", "isInTruss", "(II)Z"⟩, 28)]
theorem lw_r3 : ∀ q ∈ lw_privs_3, lw_okq q := List.forall_mem_cons.mpr ⟨lw_p32, List.forall_mem_cons.mpr ⟨lw_p33, List.forall_mem_cons.mpr ⟨lw_p34, List.forall_mem_cons.mpr ⟨lw_p35, List.forall_mem_cons.mpr ⟨lw_p36, List.forall_mem_cons.mpr ⟨lw_p37, List.forall_mem_cons.mpr ⟨lw_p38, List.forall_mem_cons.mpr ⟨lw_p39, List.forall_mem_cons.mpr ⟨lw_p40, List.forall_mem_cons.mpr ⟨lw_p41, List.forall_mem_cons.mpr ⟨lw_p42, List.forall_mem_cons.mpr ⟨lw_p43, List.forall_mem_cons.mpr ⟨lw_p44, List.forall_mem_cons.mpr ⟨lw_p45, List.forall_mem_cons.mpr ⟨lw_p46, List.forall_mem_cons.mpr ⟨lw_p47, fun _ h => absurd h List.not_mem_nil⟩⟩⟩⟩⟩⟩⟩⟩⟩⟩⟩⟩⟩⟩⟩⟩
theorem lw_p48 : lw_okq (⟨"RingCountsModel", "hoodsBy", "(I)V"⟩, 28) := ⟨⟨by decide +kernel, by decide +kernel⟩, List.mem_of_getElem? (i := 877) (by decide +kernel), List.mem_of_getElem? (i := 1142) (by decide +kernel), List.mem_of_getElem? (i := 1143) (by decide +kernel)⟩
theorem lw_p49 : lw_okq (⟨"RingCountsModel", "triangles", "()I"⟩, 28) := ⟨⟨by decide +kernel, by decide +kernel⟩, List.mem_of_getElem? (i := 877) (by decide +kernel), List.mem_of_getElem? (i := 1158) (by decide +kernel), List.mem_of_getElem? (i := 1159) (by decide +kernel)⟩
theorem lw_p50 : lw_okq (⟨"RingCountsModel", "rings", "()I"⟩, 28) := ⟨⟨by decide +kernel, by decide +kernel⟩, List.mem_of_getElem? (i := 877) (by decide +kernel), List.mem_of_getElem? (i := 1170) (by decide +kernel), List.mem_of_getElem? (i := 1171) (by decide +kernel)⟩
theorem lw_p51 : lw_okq (⟨"RingCountsModel", "allTwos", "()I"⟩, 28) := ⟨⟨by decide +kernel, by decide +kernel⟩, List.mem_of_getElem? (i := 877) (by decide +kernel), List.mem_of_getElem? (i := 1174) (by decide +kernel), List.mem_of_getElem? (i := 1175) (by decide +kernel)⟩
theorem lw_p52 : lw_okq (⟨"RingCountsModel", "fours", "()I"⟩, 28) := ⟨⟨by decide +kernel, by decide +kernel⟩, List.mem_of_getElem? (i := 877) (by decide +kernel), List.mem_of_getElem? (i := 1178) (by decide +kernel), List.mem_of_getElem? (i := 1179) (by decide +kernel)⟩
theorem lw_p53 : lw_okq (⟨"RingCountsModel", "isEnough", "(I)Z"⟩, 28) := ⟨⟨by decide +kernel, by decide +kernel⟩, List.mem_of_getElem? (i := 877) (by decide +kernel), List.mem_of_getElem? (i := 1203) (by decide +kernel), List.mem_of_getElem? (i := 1204) (by decide +kernel)⟩
theorem lw_p54 : lw_okq (⟨"RingCountsModel", "isEnoughWithout", "(III)Z"⟩, 28) := ⟨⟨by decide +kernel, by decide +kernel⟩, List.mem_of_getElem? (i := 877) (by decide +kernel), List.mem_of_getElem? (i := 1207) (by decide +kernel), List.mem_of_getElem? (i := 1208) (by decide +kernel)⟩
theorem lw_p55 : lw_okq (⟨"RingCountsModel", "begins", "()V"⟩, 28) := ⟨⟨by decide +kernel, by decide +kernel⟩, List.mem_of_getElem? (i := 877) (by decide +kernel), List.mem_of_getElem? (i := 1223) (by decide +kernel), List.mem_of_getElem? (i := 1224) (by decide +kernel)⟩
theorem lw_p56 : lw_okq (⟨"RingCountsModel", "isPart", "(I)Z"⟩, 28) := ⟨⟨by decide +kernel, by decide +kernel⟩, List.mem_of_getElem? (i := 877) (by decide +kernel), List.mem_of_getElem? (i := 1227) (by decide +kernel), List.mem_of_getElem? (i := 1228) (by decide +kernel)⟩
theorem lw_p57 : lw_okq (⟨"RingCountsModel", "here", "()I"⟩, 28) := ⟨⟨by decide +kernel, by decide +kernel⟩, List.mem_of_getElem? (i := 877) (by decide +kernel), List.mem_of_getElem? (i := 1231) (by decide +kernel), List.mem_of_getElem? (i := 1232) (by decide +kernel)⟩
theorem lw_p58 : lw_okq (⟨"RingCountsModel", "fails", "(I)Z"⟩, 28) := ⟨⟨by decide +kernel, by decide +kernel⟩, List.mem_of_getElem? (i := 877) (by decide +kernel), List.mem_of_getElem? (i := 1235) (by decide +kernel), List.mem_of_getElem? (i := 1236) (by decide +kernel)⟩
theorem lw_p59 : lw_okq (⟨"RingCountsModel", "isNumber", "(II)Z"⟩, 28) := ⟨⟨by decide +kernel, by decide +kernel⟩, List.mem_of_getElem? (i := 877) (by decide +kernel), List.mem_of_getElem? (i := 1239) (by decide +kernel), List.mem_of_getElem? (i := 1240) (by decide +kernel)⟩
theorem lw_p60 : lw_okq (⟨"RingCountsModel", "isTwo", "(I)Z"⟩, 28) := ⟨⟨by decide +kernel, by decide +kernel⟩, List.mem_of_getElem? (i := 877) (by decide +kernel), List.mem_of_getElem? (i := 1243) (by decide +kernel), List.mem_of_getElem? (i := 1244) (by decide +kernel)⟩
theorem lw_p61 : lw_okq (⟨"RingCountsModel", "isSign", "(I)Z"⟩, 28) := ⟨⟨by decide +kernel, by decide +kernel⟩, List.mem_of_getElem? (i := 877) (by decide +kernel), List.mem_of_getElem? (i := 1247) (by decide +kernel), List.mem_of_getElem? (i := 1248) (by decide +kernel)⟩
theorem lw_p62 : lw_okq (⟨"RingCountsModel", "does", "(I)V"⟩, 28) := ⟨⟨by decide +kernel, by decide +kernel⟩, List.mem_of_getElem? (i := 877) (by decide +kernel), List.mem_of_getElem? (i := 1251) (by decide +kernel), List.mem_of_getElem? (i := 1252) (by decide +kernel)⟩
theorem lw_p63 : lw_okq (⟨"RingCountsModel", "either", "(I)J"⟩, 28) := ⟨⟨by decide +kernel, by decide +kernel⟩, List.mem_of_getElem? (i := 877) (by decide +kernel), List.mem_of_getElem? (i := 1259) (by decide +kernel), List.mem_of_getElem? (i := 1260) (by decide +kernel)⟩
def lw_privs_4 : List (MethodName × Nat) := [(⟨"RingCountsModel", "hoodsBy", "(I)V"⟩, 28), (⟨"RingCountsModel", "triangles", "()I"⟩, 28), (⟨"RingCountsModel", "rings", "()I"⟩, 28), (⟨"RingCountsModel", "allTwos", "()I"⟩, 28), (⟨"RingCountsModel", "fours", "()I"⟩, 28), (⟨"RingCountsModel", "isEnough", "(I)Z"⟩, 28), (⟨"RingCountsModel", "isEnoughWithout", "(III)Z"⟩, 28), (⟨"RingCountsModel", "begins", "()V"⟩, 28), (⟨"RingCountsModel", "isPart", "(I)Z"⟩, 28), (⟨"RingCountsModel", "here", "()I"⟩, 28), (⟨"RingCountsModel", "fails", "(I)Z"⟩, 28), (⟨"RingCountsModel", "isNumber", "(II)Z"⟩, 28), (⟨"RingCountsModel", "isTwo", "(I)Z"⟩, 28), (⟨"RingCountsModel", "isSign", "(I)Z"⟩, 28), (⟨"RingCountsModel", "does", "(I)V"⟩, 28), (⟨"RingCountsModel", "either", "(I)J"⟩, 28)]
theorem lw_r4 : ∀ q ∈ lw_privs_4, lw_okq q := List.forall_mem_cons.mpr ⟨lw_p48, List.forall_mem_cons.mpr ⟨lw_p49, List.forall_mem_cons.mpr ⟨lw_p50, List.forall_mem_cons.mpr ⟨lw_p51, List.forall_mem_cons.mpr ⟨lw_p52, List.forall_mem_cons.mpr ⟨lw_p53, List.forall_mem_cons.mpr ⟨lw_p54, List.forall_mem_cons.mpr ⟨lw_p55, List.forall_mem_cons.mpr ⟨lw_p56, List.forall_mem_cons.mpr ⟨lw_p57, List.forall_mem_cons.mpr ⟨lw_p58, List.forall_mem_cons.mpr ⟨lw_p59, List.forall_mem_cons.mpr ⟨lw_p60, List.forall_mem_cons.mpr ⟨lw_p61, List.forall_mem_cons.mpr ⟨lw_p62, List.forall_mem_cons.mpr ⟨lw_p63, fun _ h => absurd h List.not_mem_nil⟩⟩⟩⟩⟩⟩⟩⟩⟩⟩⟩⟩⟩⟩⟩⟩
theorem lw_p64 : lw_okq (⟨"RingCountsModel", "both", "(I)J"⟩, 28) := ⟨⟨by decide +kernel, by decide +kernel⟩, List.mem_of_getElem? (i := 877) (by decide +kernel), List.mem_of_getElem? (i := 1263) (by decide +kernel), List.mem_of_getElem? (i := 1264) (by decide +kernel)⟩
theorem lw_p65 : lw_okq (⟨"RingCountsModel", "factor", "(I)J"⟩, 28) := ⟨⟨by decide +kernel, by decide +kernel⟩, List.mem_of_getElem? (i := 877) (by decide +kernel), List.mem_of_getElem? (i := 1267) (by decide +kernel), List.mem_of_getElem? (i := 1268) (by decide +kernel)⟩
theorem lw_p66 : lw_okq (⟨"RingCountsModel", "tested", "()J"⟩, 28) := ⟨⟨by decide +kernel, by decide +kernel⟩, List.mem_of_getElem? (i := 877) (by decide +kernel), List.mem_of_getElem? (i := 1271) (by decide +kernel), List.mem_of_getElem? (i := 1272) (by decide +kernel)⟩
theorem lw_p67 : lw_okq (⟨"RingCountsModel", "letterOf", "(II)I"⟩, 28) := ⟨⟨by decide +kernel, by decide +kernel⟩, List.mem_of_getElem? (i := 877) (by decide +kernel), List.mem_of_getElem? (i := 1275) (by decide +kernel), List.mem_of_getElem? (i := 1276) (by decide +kernel)⟩
theorem lw_p68 : lw_okq (⟨"RingCountsModel", "says", "(I)V"⟩, 28) := ⟨⟨by decide +kernel, by decide +kernel⟩, List.mem_of_getElem? (i := 877) (by decide +kernel), List.mem_of_getElem? (i := 1287) (by decide +kernel), List.mem_of_getElem? (i := 1288) (by decide +kernel)⟩
theorem lw_p69 : lw_okq (⟨"RingCountsModel", "saysNumber", "(I)V"⟩, 28) := ⟨⟨by decide +kernel, by decide +kernel⟩, List.mem_of_getElem? (i := 877) (by decide +kernel), List.mem_of_getElem? (i := 1291) (by decide +kernel), List.mem_of_getElem? (i := 1292) (by decide +kernel)⟩
theorem lw_p70 : lw_okq (⟨"RingCountsModel", "wrong", "(I)I"⟩, 28) := ⟨⟨by decide +kernel, by decide +kernel⟩, List.mem_of_getElem? (i := 877) (by decide +kernel), List.mem_of_getElem? (i := 1310) (by decide +kernel), List.mem_of_getElem? (i := 1311) (by decide +kernel)⟩
theorem lw_p71 : lw_okq (⟨"RingCountsModel", "figure", "(II)I"⟩, 28) := ⟨⟨by decide +kernel, by decide +kernel⟩, List.mem_of_getElem? (i := 877) (by decide +kernel), List.mem_of_getElem? (i := 1329) (by decide +kernel), List.mem_of_getElem? (i := 1330) (by decide +kernel)⟩
def lw_privs_5 : List (MethodName × Nat) := [(⟨"RingCountsModel", "both", "(I)J"⟩, 28), (⟨"RingCountsModel", "factor", "(I)J"⟩, 28), (⟨"RingCountsModel", "tested", "()J"⟩, 28), (⟨"RingCountsModel", "letterOf", "(II)I"⟩, 28), (⟨"RingCountsModel", "says", "(I)V"⟩, 28), (⟨"RingCountsModel", "saysNumber", "(I)V"⟩, 28), (⟨"RingCountsModel", "wrong", "(I)I"⟩, 28), (⟨"RingCountsModel", "figure", "(II)I"⟩, 28)]
theorem lw_r5 : ∀ q ∈ lw_privs_5, lw_okq q := List.forall_mem_cons.mpr ⟨lw_p64, List.forall_mem_cons.mpr ⟨lw_p65, List.forall_mem_cons.mpr ⟨lw_p66, List.forall_mem_cons.mpr ⟨lw_p67, List.forall_mem_cons.mpr ⟨lw_p68, List.forall_mem_cons.mpr ⟨lw_p69, List.forall_mem_cons.mpr ⟨lw_p70, List.forall_mem_cons.mpr ⟨lw_p71, fun _ h => absurd h List.not_mem_nil⟩⟩⟩⟩⟩⟩⟩⟩
def lw_privs : List (MethodName × Nat) := lw_privs_1 ++ (lw_privs_2 ++ (lw_privs_3 ++ (lw_privs_4 ++ (lw_privs_5))))
def lw_tbl : List Cond := k2_sels lw_privs ++ tables_1
theorem lw_privs_ok : ∀ q ∈ lw_privs, lw_okq q := by
  show ∀ q ∈ lw_privs_1 ++ (lw_privs_2 ++ (lw_privs_3 ++ (lw_privs_4 ++ (lw_privs_5)))), lw_okq q
  exact List.forall_mem_append.mpr ⟨lw_r1, List.forall_mem_append.mpr ⟨lw_r2, List.forall_mem_append.mpr ⟨lw_r3, List.forall_mem_append.mpr ⟨lw_r4, lw_r5⟩⟩⟩⟩
end
section
def RX0 : String := "RingCounts$BatchText"
def TX0 : u_T := fun k => match k with
  | 0 => ("RingCounts$BatchText", "kinds", "[I", true)
  | 1 => ("RingCounts$BatchText", "firsts", "[I", true)
  | 2 => ("RingCounts$BatchText", "seconds", "[I", true)
  | 3 => ("RingCounts$BatchText", "worths", "[I", true)
  | _ => ("RingCounts$BatchText", "count", "I", false)
def tyX0 : Nat → FieldType := fun k => match k with
  | 0 => .array .int
  | 1 => .array .int
  | 2 => .array .int
  | 3 => .array .int
  | _ => .int
theorem nmX0 : ∀ a, a < 5 → ∀ b, b < 5 → a ≠ b → (TX0 a).2.1 ≠ (TX0 b).2.1 := by decide +kernel
theorem tyX0_ok : ∀ k, k < 5 → parseFieldDescriptor (TX0 k).2.2.1 = some (tyX0 k) := by decide +kernel
abbrev cX0_init : ByteArray := prog_2_method_1_code
def yX0_init : MethodName := ⟨RX0, "<init>", "()V"⟩
abbrev cX0_read : ByteArray := prog_2_method_2_code
def yX0_read : MethodName := ⟨RX0, "read", "(LRingCounts$Tape;)V"⟩
abbrev cX0_readPart : ByteArray := prog_2_method_3_code
def yX0_readPart : MethodName := ⟨RX0, "readPart", "(LRingCounts$Tape;I)V"⟩
abbrev cX0_readVertex : ByteArray := prog_2_method_4_code
def yX0_readVertex : MethodName := ⟨RX0, "readVertex", "(LRingCounts$Tape;)I"⟩
abbrev cX0_readOther : ByteArray := prog_2_method_5_code
def yX0_readOther : MethodName := ⟨RX0, "readOther", "(LRingCounts$Tape;I)I"⟩
abbrev cX0_readWorth : ByteArray := prog_2_method_6_code
def yX0_readWorth : MethodName := ⟨RX0, "readWorth", "(LRingCounts$Tape;)I"⟩
def RX1 : String := "RingCounts$Breaking"
def TX1 : u_T := fun k => match k with
  | 0 => ("RingCounts$Breaking", "left", "[J", true)
  | 1 => ("RingCounts$Breaking", "gone", "I", false)
  | _ => ("RingCounts$Breaking", "firstPair", "I", false)
def tyX1 : Nat → FieldType := fun k => match k with
  | 0 => .array .long
  | 1 => .int
  | _ => .int
theorem nmX1 : ∀ a, a < 3 → ∀ b, b < 3 → a ≠ b → (TX1 a).2.1 ≠ (TX1 b).2.1 := by decide +kernel
theorem tyX1_ok : ∀ k, k < 3 → parseFieldDescriptor (TX1 k).2.2.1 = some (tyX1 k) := by decide +kernel
abbrev cX1_init : ByteArray := prog_3_method_1_code
def yX1_init : MethodName := ⟨RX1, "<init>", "()V"⟩
abbrev cX1_breakAll : ByteArray := prog_3_method_2_code
def yX1_breakAll : MethodName := ⟨RX1, "breakAll", "([J)V"⟩
abbrev cX1_mostSupported : ByteArray := prog_3_method_3_code
def yX1_mostSupported : MethodName := ⟨RX1, "mostSupported", "()I"⟩
abbrev cX1_fewestOf : ByteArray := prog_3_method_4_code
def yX1_fewestOf : MethodName := ⟨RX1, "fewestOf", "([J)I"⟩
abbrev cX1_breaksWith : ByteArray := prog_3_method_5_code
def yX1_breaksWith : MethodName := ⟨RX1, "breaksWith", "([JI)Z"⟩
abbrev cX1_breaksWithout : ByteArray := prog_3_method_6_code
def yX1_breaksWithout : MethodName := ⟨RX1, "breaksWithout", "([JIII)Z"⟩
abbrev cX1_anyTriangle : ByteArray := prog_3_method_7_code
def yX1_anyTriangle : MethodName := ⟨RX1, "anyTriangle", "([J)I"⟩
abbrev cX1_flip : ByteArray := prog_3_method_8_code
def yX1_flip : MethodName := ⟨RX1, "flip", "([JII)V"⟩
def RX2 : String := "RingCounts$Counts"
def TX2 : u_T := fun k => match k with
  | _ => ("", "", "", false)
def tyX2 : Nat → FieldType := fun k => match k with
  | _ => .int
theorem nmX2 : ∀ a, a < 0 → ∀ b, b < 0 → a ≠ b → (TX2 a).2.1 ≠ (TX2 b).2.1 := by decide +kernel
theorem tyX2_ok : ∀ k, k < 0 → parseFieldDescriptor (TX2 k).2.2.1 = some (tyX2 k) := by decide +kernel
abbrev cX2_degree : ByteArray := prog_4_method_2_code
def yX2_degree : MethodName := ⟨RX2, "degree", "([JI)I"⟩
abbrev cX2_shared : ByteArray := prog_4_method_3_code
def yX2_shared : MethodName := ⟨RX2, "shared", "([JII)I"⟩
abbrev cX2_trianglesAt : ByteArray := prog_4_method_4_code
def yX2_trianglesAt : MethodName := ⟨RX2, "trianglesAt", "([JI)I"⟩
abbrev cX2_triangles : ByteArray := prog_4_method_5_code
def yX2_triangles : MethodName := ⟨RX2, "triangles", "([J)I"⟩
abbrev cX2_twosAt : ByteArray := prog_4_method_6_code
def yX2_twosAt : MethodName := ⟨RX2, "twosAt", "([JI)I"⟩
abbrev cX2_twos : ByteArray := prog_4_method_7_code
def yX2_twos : MethodName := ⟨RX2, "twos", "([J)I"⟩
abbrev cX2_ringsAt : ByteArray := prog_4_method_8_code
def yX2_ringsAt : MethodName := ⟨RX2, "ringsAt", "([JI)I"⟩
abbrev cX2_rings : ByteArray := prog_4_method_9_code
def yX2_rings : MethodName := ⟨RX2, "rings", "([J)I"⟩
abbrev cX2_foursOn : ByteArray := prog_4_method_10_code
def yX2_foursOn : MethodName := ⟨RX2, "foursOn", "([JII)I"⟩
abbrev cX2_foursAt : ByteArray := prog_4_method_11_code
def yX2_foursAt : MethodName := ⟨RX2, "foursAt", "([JI)I"⟩
abbrev cX2_fours : ByteArray := prog_4_method_12_code
def yX2_fours : MethodName := ⟨RX2, "fours", "([J)I"⟩
abbrev cX2_waysByThree : ByteArray := prog_4_method_13_code
def yX2_waysByThree : MethodName := ⟨RX2, "waysByThree", "([JII)I"⟩
abbrev cX2_far : ByteArray := prog_4_method_14_code
def yX2_far : MethodName := ⟨RX2, "far", "([JII)I"⟩
abbrev cX2_nearAny : ByteArray := prog_4_method_15_code
def yX2_nearAny : MethodName := ⟨RX2, "nearAny", "([JJ)J"⟩
abbrev cX2_nearOnly : ByteArray := prog_4_method_16_code
def yX2_nearOnly : MethodName := ⟨RX2, "nearOnly", "([JJ)J"⟩
abbrev cX2_coreWithin : ByteArray := prog_4_method_17_code
def yX2_coreWithin : MethodName := ⟨RX2, "coreWithin", "([JJI)J"⟩
abbrev cX2_layCores : ByteArray := prog_4_method_18_code
def yX2_layCores : MethodName := ⟨RX2, "layCores", "([J[I)V"⟩
abbrev cX2_layFigures : ByteArray := prog_4_method_19_code
def yX2_layFigures : MethodName := ⟨RX2, "layFigures", "([JI[I)V"⟩
def RX3 : String := "RingCounts$Net"
def TX3 : u_T := fun k => match k with
  | 0 => ("RingCounts$Net", "near", "[J", true)
  | 1 => ("RingCounts$Net", "worths", "[I", true)
  | 2 => ("RingCounts$Net", "past", "LRingCounts$Past;", true)
  | 3 => ("RingCounts$Net", "edges", "I", false)
  | 4 => ("RingCounts$Net", "span", "I", false)
  | 5 => ("RingCounts$Net", "heavy", "J", false)
  | 6 => ("RingCounts$Net", "moves", "J", false)
  | 7 => ("RingCounts$Net", "carried", "J", false)
  | 8 => ("RingCounts$Net", "rebases", "J", false)
  | 9 => ("RingCounts$Net", "changes", "J", false)
  | _ => ("RingCounts$Net", "picked", "J", false)
def tyX3 : Nat → FieldType := fun k => match k with
  | 0 => .array .long
  | 1 => .array .int
  | 2 => .object "RingCounts$Past"
  | 3 => .int
  | 4 => .int
  | 5 => .long
  | 6 => .long
  | 7 => .long
  | 8 => .long
  | 9 => .long
  | _ => .long
theorem nmX3 : ∀ a, a < 11 → ∀ b, b < 11 → a ≠ b → (TX3 a).2.1 ≠ (TX3 b).2.1 := by decide +kernel
theorem tyX3_ok : ∀ k, k < 11 → parseFieldDescriptor (TX3 k).2.2.1 = some (tyX3 k) := by decide +kernel
abbrev cX3_init : ByteArray := prog_5_method_1_code
def yX3_init : MethodName := ⟨RX3, "<init>", "()V"⟩
abbrev cX3_joins : ByteArray := prog_5_method_2_code
def yX3_joins : MethodName := ⟨RX3, "joins", "(II)Z"⟩
abbrev cX3_isHeavy : ByteArray := prog_5_method_3_code
def yX3_isHeavy : MethodName := ⟨RX3, "isHeavy", "(I)Z"⟩
abbrev cX3_bound : ByteArray := prog_5_method_4_code
def yX3_bound : MethodName := ⟨RX3, "bound", "()I"⟩
abbrev cX3_bring : ByteArray := prog_5_method_5_code
def yX3_bring : MethodName := ⟨RX3, "bring", "(III)V"⟩
abbrev cX3_drop : ByteArray := prog_5_method_6_code
def yX3_drop : MethodName := ⟨RX3, "drop", "(II)V"⟩
abbrev cX3_takeBack : ByteArray := prog_5_method_7_code
def yX3_takeBack : MethodName := ⟨RX3, "takeBack", "(I)I"⟩
abbrev cX3_become : ByteArray := prog_5_method_8_code
def yX3_become : MethodName := ⟨RX3, "become", "(LRingCounts$Net;)V"⟩
abbrev cX3_come : ByteArray := prog_5_method_9_code
def yX3_come : MethodName := ⟨RX3, "come", "(III)V"⟩
abbrev cX3_go : ByteArray := prog_5_method_10_code
def yX3_go : MethodName := ⟨RX3, "go", "(II)V"⟩
abbrev cX3_rebase : ByteArray := prog_5_method_11_code
def yX3_rebase : MethodName := ⟨RX3, "rebase", "(I)V"⟩
abbrev cX3_lookAt : ByteArray := prog_5_method_12_code
def yX3_lookAt : MethodName := ⟨RX3, "lookAt", "(I)V"⟩
def RX4 : String := "RingCounts$Paper"
def TX4 : u_T := fun k => match k with
  | 0 => ("RingCounts$Paper", "bytes", "[B", false)
  | _ => ("RingCounts$Paper", "length", "I", false)
def tyX4 : Nat → FieldType := fun k => match k with
  | 0 => .array .byte
  | _ => .int
theorem nmX4 : ∀ a, a < 2 → ∀ b, b < 2 → a ≠ b → (TX4 a).2.1 ≠ (TX4 b).2.1 := by decide +kernel
theorem tyX4_ok : ∀ k, k < 2 → parseFieldDescriptor (TX4 k).2.2.1 = some (tyX4 k) := by decide +kernel
abbrev cX4_init : ByteArray := prog_6_method_1_code
def yX4_init : MethodName := ⟨RX4, "<init>", "()V"⟩
abbrev cX4_writeEdge : ByteArray := prog_6_method_2_code
def yX4_writeEdge : MethodName := ⟨RX4, "writeEdge", "(III)V"⟩
abbrev cX4_writeNumber : ByteArray := prog_6_method_3_code
def yX4_writeNumber : MethodName := ⟨RX4, "writeNumber", "(I)V"⟩
abbrev cX4_write : ByteArray := prog_6_method_4_code
def yX4_write : MethodName := ⟨RX4, "write", "(I)V"⟩
def RX5 : String := "RingCounts$Past"
def TX5 : u_T := fun k => match k with
  | 0 => ("RingCounts$Past", "cells", "[I", true)
  | _ => ("RingCounts$Past", "size", "I", false)
def tyX5 : Nat → FieldType := fun k => match k with
  | 0 => .array .int
  | _ => .int
theorem nmX5 : ∀ a, a < 2 → ∀ b, b < 2 → a ≠ b → (TX5 a).2.1 ≠ (TX5 b).2.1 := by decide +kernel
theorem tyX5_ok : ∀ k, k < 2 → parseFieldDescriptor (TX5 k).2.2.1 = some (tyX5 k) := by decide +kernel
abbrev cX5_init : ByteArray := prog_7_method_1_code
def yX5_init : MethodName := ⟨RX5, "<init>", "()V"⟩
abbrev cX5_keep : ByteArray := prog_7_method_2_code
def yX5_keep : MethodName := ⟨RX5, "keep", "(ZIII)V"⟩
abbrev cX5_hadCome : ByteArray := prog_7_method_3_code
def yX5_hadCome : MethodName := ⟨RX5, "hadCome", "(I)Z"⟩
abbrev cX5_firstOf : ByteArray := prog_7_method_4_code
def yX5_firstOf : MethodName := ⟨RX5, "firstOf", "(I)I"⟩
abbrev cX5_secondOf : ByteArray := prog_7_method_5_code
def yX5_secondOf : MethodName := ⟨RX5, "secondOf", "(I)I"⟩
abbrev cX5_worthOf : ByteArray := prog_7_method_6_code
def yX5_worthOf : MethodName := ⟨RX5, "worthOf", "(I)I"⟩
abbrev cX5_become : ByteArray := prog_7_method_7_code
def yX5_become : MethodName := ⟨RX5, "become", "(LRingCounts$Past;)V"⟩
def RX6 : String := "RingCounts$Peeling"
def TX6 : u_T := fun k => match k with
  | 0 => ("RingCounts$Peeling", "near", "[J", true)
  | 1 => ("RingCounts$Peeling", "left", "[J", true)
  | 2 => ("RingCounts$Peeling", "supports", "[I", true)
  | 3 => ("RingCounts$Peeling", "trusses", "[I", true)
  | 4 => ("RingCounts$Peeling", "turns", "[I", true)
  | 5 => ("RingCounts$Peeling", "order", "[I", true)
  | 6 => ("RingCounts$Peeling", "waiting", "[I", true)
  | 7 => ("RingCounts$Peeling", "seen", "[I", true)
  | _ => ("RingCounts$Peeling", "edges", "I", false)
def tyX6 : Nat → FieldType := fun k => match k with
  | 0 => .array .long
  | 1 => .array .long
  | 2 => .array .int
  | 3 => .array .int
  | 4 => .array .int
  | 5 => .array .int
  | 6 => .array .int
  | 7 => .array .int
  | _ => .int
theorem nmX6 : ∀ a, a < 9 → ∀ b, b < 9 → a ≠ b → (TX6 a).2.1 ≠ (TX6 b).2.1 := by decide +kernel
theorem tyX6_ok : ∀ k, k < 9 → parseFieldDescriptor (TX6 k).2.2.1 = some (tyX6 k) := by decide +kernel
abbrev cX6_init : ByteArray := prog_8_method_1_code
def yX6_init : MethodName := ⟨RX6, "<init>", "()V"⟩
abbrev cX6_follow : ByteArray := prog_8_method_2_code
def yX6_follow : MethodName := ⟨RX6, "follow", "([J)V"⟩
abbrev cX6_gather : ByteArray := prog_8_method_3_code
def yX6_gather : MethodName := ⟨RX6, "gather", "()V"⟩
abbrev cX6_peel : ByteArray := prog_8_method_4_code
def yX6_peel : MethodName := ⟨RX6, "peel", "()V"⟩
abbrev cX6_leastFrom : ByteArray := prog_8_method_5_code
def yX6_leastFrom : MethodName := ⟨RX6, "leastFrom", "(I)I"⟩
abbrev cX6_takeAway : ByteArray := prog_8_method_6_code
def yX6_takeAway : MethodName := ⟨RX6, "takeAway", "(II)V"⟩
abbrev cX6_edgesFrom : ByteArray := prog_8_method_7_code
def yX6_edgesFrom : MethodName := ⟨RX6, "edgesFrom", "(I)I"⟩
abbrev cX6_piecesFrom : ByteArray := prog_8_method_8_code
def yX6_piecesFrom : MethodName := ⟨RX6, "piecesFrom", "(I)I"⟩
abbrev cX6_pieceOf : ByteArray := prog_8_method_9_code
def yX6_pieceOf : MethodName := ⟨RX6, "pieceOf", "(I)J"⟩
abbrev cX6_hoodOf : ByteArray := prog_8_method_10_code
def yX6_hoodOf : MethodName := ⟨RX6, "hoodOf", "(II)I"⟩
abbrev cX6_hoodsFrom : ByteArray := prog_8_method_11_code
def yX6_hoodsFrom : MethodName := ⟨RX6, "hoodsFrom", "(I)I"⟩
abbrev cX6_walkFrom : ByteArray := prog_8_method_12_code
def yX6_walkFrom : MethodName := ⟨RX6, "walkFrom", "(II)I"⟩
abbrev cX6_meet : ByteArray := prog_8_method_13_code
def yX6_meet : MethodName := ⟨RX6, "meet", "(II)I"⟩
def RX7 : String := "RingCounts$PickText"
def TX7 : u_T := fun k => match k with
  | 0 => ("RingCounts$PickText", "near", "[J", true)
  | 1 => ("RingCounts$PickText", "numbers", "[I", true)
  | 2 => ("RingCounts$PickText", "degrees", "[I", true)
  | 3 => ("RingCounts$PickText", "triangles", "[I", true)
  | 4 => ("RingCounts$PickText", "cores", "[I", true)
  | _ => ("RingCounts$PickText", "heavies", "[I", true)
def tyX7 : Nat → FieldType := fun k => match k with
  | 0 => .array .long
  | 1 => .array .int
  | 2 => .array .int
  | 3 => .array .int
  | 4 => .array .int
  | _ => .array .int
theorem nmX7 : ∀ a, a < 6 → ∀ b, b < 6 → a ≠ b → (TX7 a).2.1 ≠ (TX7 b).2.1 := by decide +kernel
theorem tyX7_ok : ∀ k, k < 6 → parseFieldDescriptor (TX7 k).2.2.1 = some (tyX7 k) := by decide +kernel
abbrev cX7_init : ByteArray := prog_9_method_1_code
def yX7_init : MethodName := ⟨RX7, "<init>", "()V"⟩
abbrev cX7_read : ByteArray := prog_9_method_2_code
def yX7_read : MethodName := ⟨RX7, "read", "(LRingCounts$Tape;LRingCounts$Net;)J"⟩
abbrev cX7_either : ByteArray := prog_9_method_3_code
def yX7_either : MethodName := ⟨RX7, "either", "(LRingCounts$Tape;I)J"⟩
abbrev cX7_both : ByteArray := prog_9_method_4_code
def yX7_both : MethodName := ⟨RX7, "both", "(LRingCounts$Tape;I)J"⟩
abbrev cX7_single : ByteArray := prog_9_method_5_code
def yX7_single : MethodName := ⟨RX7, "single", "(LRingCounts$Tape;I)J"⟩
abbrev cX7_test : ByteArray := prog_9_method_6_code
def yX7_test : MethodName := ⟨RX7, "test", "(LRingCounts$Tape;)J"⟩
abbrev cX7_figuresOf : ByteArray := prog_9_method_7_code
def yX7_figuresOf : MethodName := ⟨RX7, "figuresOf", "(I)[I"⟩
abbrev cX7_holds : ByteArray := prog_9_method_8_code
def yX7_holds : MethodName := ⟨RX7, "holds", "(III)Z"⟩
def RX8 : String := "RingCounts$Row"
def TX8 : u_T := fun k => match k with
  | 0 => ("RingCounts$Row", "ofInts", "Z", true)
  | 1 => ("RingCounts$Row", "cells", "[J", true)
  | 2 => ("RingCounts$Row", "there", "Z", false)
  | _ => ("RingCounts$Row", "size", "I", false)
def tyX8 : Nat → FieldType := fun k => match k with
  | 0 => .boolean
  | 1 => .array .long
  | 2 => .boolean
  | _ => .int
theorem nmX8 : ∀ a, a < 4 → ∀ b, b < 4 → a ≠ b → (TX8 a).2.1 ≠ (TX8 b).2.1 := by decide +kernel
theorem tyX8_ok : ∀ k, k < 4 → parseFieldDescriptor (TX8 k).2.2.1 = some (tyX8 k) := by decide +kernel
abbrev cX8_init : ByteArray := prog_10_method_1_code
def yX8_init : MethodName := ⟨RX8, "<init>", "(Z)V"⟩
abbrev cX8_begin : ByteArray := prog_10_method_2_code
def yX8_begin : MethodName := ⟨RX8, "begin", "(I)V"⟩
abbrev cX8_placesFrom : ByteArray := prog_10_method_3_code
def yX8_placesFrom : MethodName := ⟨RX8, "placesFrom", "(I)I"⟩
abbrev cX8_put : ByteArray := prog_10_method_4_code
def yX8_put : MethodName := ⟨RX8, "put", "(IJ)V"⟩
def RX9 : String := "RingCounts$Tape"
def TX9 : u_T := fun k => match k with
  | 0 => ("RingCounts$Tape", "bytes", "[B", true)
  | 1 => ("RingCounts$Tape", "length", "I", false)
  | 2 => ("RingCounts$Tape", "place", "I", false)
  | _ => ("RingCounts$Tape", "fault", "I", false)
def tyX9 : Nat → FieldType := fun k => match k with
  | 0 => .array .byte
  | 1 => .int
  | 2 => .int
  | _ => .int
theorem nmX9 : ∀ a, a < 4 → ∀ b, b < 4 → a ≠ b → (TX9 a).2.1 ≠ (TX9 b).2.1 := by decide +kernel
theorem tyX9_ok : ∀ k, k < 4 → parseFieldDescriptor (TX9 k).2.2.1 = some (tyX9 k) := by decide +kernel
abbrev cX9_init : ByteArray := prog_11_method_1_code
def yX9_init : MethodName := ⟨RX9, "<init>", "()V"⟩
abbrev cX9_append : ByteArray := prog_11_method_2_code
def yX9_append : MethodName := ⟨RX9, "append", "(I)V"⟩
abbrev cX9_rewind : ByteArray := prog_11_method_3_code
def yX9_rewind : MethodName := ⟨RX9, "rewind", "()V"⟩
abbrev cX9_hasFault : ByteArray := prog_11_method_4_code
def yX9_hasFault : MethodName := ⟨RX9, "hasFault", "()Z"⟩
abbrev cX9_fail : ByteArray := prog_11_method_5_code
def yX9_fail : MethodName := ⟨RX9, "fail", "(I)V"⟩
abbrev cX9_next : ByteArray := prog_11_method_6_code
def yX9_next : MethodName := ⟨RX9, "next", "()I"⟩
abbrev cX9_takes : ByteArray := prog_11_method_7_code
def yX9_takes : MethodName := ⟨RX9, "takes", "(I)Z"⟩
abbrev cX9_need : ByteArray := prog_11_method_8_code
def yX9_need : MethodName := ⟨RX9, "need", "(I)V"⟩
abbrev cX9_needEnd : ByteArray := prog_11_method_9_code
def yX9_needEnd : MethodName := ⟨RX9, "needEnd", "()V"⟩
abbrev cX9_number : ByteArray := prog_11_method_10_code
def yX9_number : MethodName := ⟨RX9, "number", "(II)I"⟩
def RX10 : String := "RingCounts"
def TX10 : u_T := fun k => match k with
  | 0 => ("RingCounts", "net", "LRingCounts$Net;", true)
  | 1 => ("RingCounts", "kept", "LRingCounts$Net;", true)
  | 2 => ("RingCounts", "imageTaken", "Z", false)
  | 3 => ("RingCounts", "peeling", "LRingCounts$Peeling;", true)
  | 4 => ("RingCounts", "breaking", "LRingCounts$Breaking;", true)
  | 5 => ("RingCounts", "tape", "LRingCounts$Tape;", true)
  | 6 => ("RingCounts", "batchText", "LRingCounts$BatchText;", true)
  | 7 => ("RingCounts", "pickText", "LRingCounts$PickText;", true)
  | 8 => ("RingCounts", "sheet", "LRingCounts$Paper;", true)
  | 9 => ("RingCounts", "rows", "[LRingCounts$Row;", true)
  | _ => ("RingCounts", "figures", "[I", true)
def tyX10 : Nat → FieldType := fun k => match k with
  | 0 => .object "RingCounts$Net"
  | 1 => .object "RingCounts$Net"
  | 2 => .boolean
  | 3 => .object "RingCounts$Peeling"
  | 4 => .object "RingCounts$Breaking"
  | 5 => .object "RingCounts$Tape"
  | 6 => .object "RingCounts$BatchText"
  | 7 => .object "RingCounts$PickText"
  | 8 => .object "RingCounts$Paper"
  | 9 => .array (.object "RingCounts$Row")
  | _ => .array .int
theorem nmX10 : ∀ a, a < 11 → ∀ b, b < 11 → a ≠ b → (TX10 a).2.1 ≠ (TX10 b).2.1 := by decide +kernel
theorem tyX10_ok : ∀ k, k < 11 → parseFieldDescriptor (TX10 k).2.2.1 = some (tyX10 k) := by decide +kernel
abbrev cX10_init : ByteArray := prog_1_method_1_code
def yX10_init : MethodName := ⟨RX10, "<init>", "()V"⟩
abbrev cX10_add : ByteArray := prog_1_method_2_code
def yX10_add : MethodName := ⟨RX10, "add", "(III)I"⟩
abbrev cX10_cut : ByteArray := prog_1_method_3_code
def yX10_cut : MethodName := ⟨RX10, "cut", "(II)I"⟩
abbrev cX10_worth : ByteArray := prog_1_method_4_code
def yX10_worth : MethodName := ⟨RX10, "worth", "(II)J"⟩
abbrev cX10_of : ByteArray := prog_1_method_5_code
def yX10_of : MethodName := ⟨RX10, "of", "(II)I"⟩
abbrev cX10_two : ByteArray := prog_1_method_6_code
def yX10_two : MethodName := ⟨RX10, "two", "(III)I"⟩
abbrev cX10_edge : ByteArray := prog_1_method_7_code
def yX10_edge : MethodName := ⟨RX10, "edge", "(III)I"⟩
abbrev cX10_swap : ByteArray := prog_1_method_8_code
def yX10_swap : MethodName := ⟨RX10, "swap", "(IIII)I"⟩
abbrev cX10_near : ByteArray := prog_1_method_9_code
def yX10_near : MethodName := ⟨RX10, "near", "(I)J"⟩
abbrev cX10_told : ByteArray := prog_1_method_10_code
def yX10_told : MethodName := ⟨RX10, "told", "(I)J"⟩
abbrev cX10_truss : ByteArray := prog_1_method_11_code
def yX10_truss : MethodName := ⟨RX10, "truss", "(I)I"⟩
abbrev cX10_pieces : ByteArray := prog_1_method_12_code
def yX10_pieces : MethodName := ⟨RX10, "pieces", "(I)I"⟩
abbrev cX10_hood : ByteArray := prog_1_method_13_code
def yX10_hood : MethodName := ⟨RX10, "hood", "(III)I"⟩
abbrev cX10_hoods : ByteArray := prog_1_method_14_code
def yX10_hoods : MethodName := ⟨RX10, "hoods", "(I)I"⟩
abbrev cX10_core : ByteArray := prog_1_method_15_code
def yX10_core : MethodName := ⟨RX10, "core", "(I)J"⟩
abbrev cX10_peeled : ByteArray := prog_1_method_16_code
def yX10_peeled : MethodName := ⟨RX10, "peeled", "(II)I"⟩
abbrev cX10_closed : ByteArray := prog_1_method_17_code
def yX10_closed : MethodName := ⟨RX10, "closed", "(II)J"⟩
abbrev cX10_value : ByteArray := prog_1_method_18_code
def yX10_value : MethodName := ⟨RX10, "value", "()J"⟩
abbrev cX10_broken : ByteArray := prog_1_method_19_code
def yX10_broken : MethodName := ⟨RX10, "broken", "(I)I"⟩
abbrev cX10_fewest : ByteArray := prog_1_method_20_code
def yX10_fewest : MethodName := ⟨RX10, "fewest", "()I"⟩
abbrev cX10_feed : ByteArray := prog_1_method_21_code
def yX10_feed : MethodName := ⟨RX10, "feed", "(I)I"⟩
abbrev cX10_clear : ByteArray := prog_1_method_22_code
def yX10_clear : MethodName := ⟨RX10, "clear", "()I"⟩
abbrev cX10_batch : ByteArray := prog_1_method_23_code
def yX10_batch : MethodName := ⟨RX10, "batch", "()I"⟩
abbrev cX10_pick : ByteArray := prog_1_method_24_code
def yX10_pick : MethodName := ⟨RX10, "pick", "()I"⟩
abbrev cX10_picked : ByteArray := prog_1_method_25_code
def yX10_picked : MethodName := ⟨RX10, "picked", "()J"⟩
abbrev cX10_spell : ByteArray := prog_1_method_26_code
def yX10_spell : MethodName := ⟨RX10, "spell", "()I"⟩
abbrev cX10_paper : ByteArray := prog_1_method_27_code
def yX10_paper : MethodName := ⟨RX10, "paper", "(I)I"⟩
abbrev cX10_back : ByteArray := prog_1_method_28_code
def yX10_back : MethodName := ⟨RX10, "back", "(I)I"⟩
abbrev cX10_list : ByteArray := prog_1_method_29_code
def yX10_list : MethodName := ⟨RX10, "list", "(II)I"⟩
abbrev cX10_set : ByteArray := prog_1_method_30_code
def yX10_set : MethodName := ⟨RX10, "set", "(IIJ)I"⟩
abbrev cX10_get : ByteArray := prog_1_method_31_code
def yX10_get : MethodName := ⟨RX10, "get", "(II)J"⟩
abbrev cX10_move : ByteArray := prog_1_method_32_code
def yX10_move : MethodName := ⟨RX10, "move", "(IIIII)I"⟩
abbrev cX10_lay : ByteArray := prog_1_method_33_code
def yX10_lay : MethodName := ⟨RX10, "lay", "(III)I"⟩
abbrev cX10_judge : ByteArray := prog_1_method_34_code
def yX10_judge : MethodName := ⟨RX10, "judge", "(III)I"⟩
abbrev cX10_image : ByteArray := prog_1_method_35_code
def yX10_image : MethodName := ⟨RX10, "image", "()I"⟩
abbrev cX10_undo : ByteArray := prog_1_method_36_code
def yX10_undo : MethodName := ⟨RX10, "undo", "()I"⟩
abbrev cX10_doPart : ByteArray := prog_1_method_37_code
def yX10_doPart : MethodName := ⟨RX10, "doPart", "(I)V"⟩
abbrev cX10_isVertex : ByteArray := prog_1_method_38_code
def yX10_isVertex : MethodName := ⟨RX10, "isVertex", "(I)Z"⟩
abbrev cX10_isTwo : ByteArray := prog_1_method_39_code
def yX10_isTwo : MethodName := ⟨RX10, "isTwo", "(II)Z"⟩
abbrev cX10_rowOf : ByteArray := prog_1_method_40_code
def yX10_rowOf : MethodName := ⟨RX10, "rowOf", "(I)LRingCounts$Row;"⟩
abbrev cX10_isSort : ByteArray := prog_1_method_41_code
def yX10_isSort : MethodName := ⟨RX10, "isSort", "(I)Z"⟩
abbrev cX10_pairOf : ByteArray := prog_1_method_42_code
def yX10_pairOf : MethodName := ⟨RX10, "pairOf", "(II)I"⟩
abbrev cX10_hasBit : ByteArray := prog_1_method_43_code
def yX10_hasBit : MethodName := ⟨RX10, "hasBit", "(JI)Z"⟩
abbrev cX10_above : ByteArray := prog_1_method_44_code
def yX10_above : MethodName := ⟨RX10, "above", "(I)J"⟩
abbrev cX10_sumLeavesLong : ByteArray := prog_1_method_45_code
def yX10_sumLeavesLong : MethodName := ⟨RX10, "sumLeavesLong", "(JJ)Z"⟩
abbrev cX10_greatestDivisor : ByteArray := prog_1_method_46_code
def yX10_greatestDivisor : MethodName := ⟨RX10, "greatestDivisor", "(II)I"⟩
def RX11 : String := "RingCountsModel"
def TX11 : u_T := fun k => match k with
  | 0 => ("RingCountsModel", "n", "[I", true)
  | 1 => ("RingCountsModel", "worth", "[I", true)
  | 2 => ("RingCountsModel", "imageN", "[I", true)
  | 3 => ("RingCountsModel", "imageWorth", "[I", true)
  | 4 => ("RingCountsModel", "near", "[J", true)
  | 5 => ("RingCountsModel", "imageNear", "[J", true)
  | 6 => ("RingCountsModel", "heavy", "J", false)
  | 7 => ("RingCountsModel", "picked", "J", false)
  | 8 => ("RingCountsModel", "imageHeavy", "J", false)
  | 9 => ("RingCountsModel", "imagePicked", "J", false)
  | 10 => ("RingCountsModel", "hasImage", "Z", false)
  | 11 => ("RingCountsModel", "core", "[I", true)
  | 12 => ("RingCountsModel", "left", "[J", true)
  | 13 => ("RingCountsModel", "truss", "[I", true)
  | 14 => ("RingCountsModel", "turn", "[I", true)
  | 15 => ("RingCountsModel", "edgeOfTurn", "[I", true)
  | 16 => ("RingCountsModel", "turns", "I", false)
  | 17 => ("RingCountsModel", "mark", "[I", true)
  | 18 => ("RingCountsModel", "tape", "[I", true)
  | 19 => ("RingCountsModel", "fed", "I", false)
  | 20 => ("RingCountsModel", "at", "I", false)
  | 21 => ("RingCountsModel", "fault", "I", false)
  | 22 => ("RingCountsModel", "number", "I", false)
  | 23 => ("RingCountsModel", "part", "[I", true)
  | 24 => ("RingCountsModel", "paper", "[I", true)
  | 25 => ("RingCountsModel", "written", "I", false)
  | 26 => ("RingCountsModel", "size", "[I", true)
  | _ => ("RingCountsModel", "held", "[J", true)
def tyX11 : Nat → FieldType := fun k => match k with
  | 0 => .array .int
  | 1 => .array .int
  | 2 => .array .int
  | 3 => .array .int
  | 4 => .array .long
  | 5 => .array .long
  | 6 => .long
  | 7 => .long
  | 8 => .long
  | 9 => .long
  | 10 => .boolean
  | 11 => .array .int
  | 12 => .array .long
  | 13 => .array .int
  | 14 => .array .int
  | 15 => .array .int
  | 16 => .int
  | 17 => .array .int
  | 18 => .array .int
  | 19 => .int
  | 20 => .int
  | 21 => .int
  | 22 => .int
  | 23 => .array .int
  | 24 => .array .int
  | 25 => .int
  | 26 => .array .int
  | _ => .array .long
theorem nmX11 : ∀ a, a < 28 → ∀ b, b < 28 → a ≠ b → (TX11 a).2.1 ≠ (TX11 b).2.1 := by decide +kernel
theorem tyX11_ok : ∀ k, k < 28 → parseFieldDescriptor (TX11 k).2.2.1 = some (tyX11 k) := by decide +kernel
abbrev cX11_init : ByteArray := prog_13_method_1_code
def yX11_init : MethodName := ⟨RX11, "<init>", "()V"⟩
abbrev cX11_isIn : ByteArray := prog_13_method_2_code
def yX11_isIn : MethodName := ⟨RX11, "isIn", "(III)Z"⟩
abbrev cX11_isVertex : ByteArray := prog_13_method_3_code
def yX11_isVertex : MethodName := ⟨RX11, "isVertex", "(I)Z"⟩
abbrev cX11_areTwo : ByteArray := prog_13_method_4_code
def yX11_areTwo : MethodName := ⟨RX11, "areTwo", "(II)Z"⟩
abbrev cX11_has : ByteArray := prog_13_method_5_code
def yX11_has : MethodName := ⟨RX11, "has", "(JI)Z"⟩
abbrev cX11_bits : ByteArray := prog_13_method_6_code
def yX11_bits : MethodName := ⟨RX11, "bits", "(J)I"⟩
abbrev cX11_edge : ByteArray := prog_13_method_7_code
def yX11_edge : MethodName := ⟨RX11, "edge", "(II)I"⟩
abbrev cX11_isEdge : ByteArray := prog_13_method_8_code
def yX11_isEdge : MethodName := ⟨RX11, "isEdge", "(II)Z"⟩
abbrev cX11_degree : ByteArray := prog_13_method_9_code
def yX11_degree : MethodName := ⟨RX11, "degree", "(I)I"⟩
abbrev cX11_shared : ByteArray := prog_13_method_10_code
def yX11_shared : MethodName := ⟨RX11, "shared", "(II)I"⟩
abbrev cX11_twos : ByteArray := prog_13_method_11_code
def yX11_twos : MethodName := ⟨RX11, "twos", "(I)I"⟩
abbrev cX11_bound : ByteArray := prog_13_method_12_code
def yX11_bound : MethodName := ⟨RX11, "bound", "()I"⟩
abbrev cX11_rebases : ByteArray := prog_13_method_13_code
def yX11_rebases : MethodName := ⟨RX11, "rebases", "()V"⟩
abbrev cX11_looksAt : ByteArray := prog_13_method_14_code
def yX11_looksAt : MethodName := ⟨RX11, "looksAt", "(I)V"⟩
abbrev cX11_changes : ByteArray := prog_13_method_15_code
def yX11_changes : MethodName := ⟨RX11, "changes", "(IIZI)V"⟩
abbrev cX11_logs : ByteArray := prog_13_method_16_code
def yX11_logs : MethodName := ⟨RX11, "logs", "(IIZI)V"⟩
abbrev cX11_comes : ByteArray := prog_13_method_17_code
def yX11_comes : MethodName := ⟨RX11, "comes", "(III)V"⟩
abbrev cX11_goes : ByteArray := prog_13_method_18_code
def yX11_goes : MethodName := ⟨RX11, "goes", "(II)V"⟩
abbrev cX11_add : ByteArray := prog_13_method_19_code
def yX11_add : MethodName := ⟨RX11, "add", "(III)I"⟩
abbrev cX11_cut : ByteArray := prog_13_method_20_code
def yX11_cut : MethodName := ⟨RX11, "cut", "(II)I"⟩
abbrev cX11_worth : ByteArray := prog_13_method_21_code
def yX11_worth : MethodName := ⟨RX11, "worth", "(II)J"⟩
abbrev cX11_back : ByteArray := prog_13_method_22_code
def yX11_back : MethodName := ⟨RX11, "back", "(I)I"⟩
abbrev cX11_trianglesOf : ByteArray := prog_13_method_23_code
def yX11_trianglesOf : MethodName := ⟨RX11, "trianglesOf", "(I)I"⟩
abbrev cX11_triangles : ByteArray := prog_13_method_24_code
def yX11_triangles : MethodName := ⟨RX11, "triangles", "()I"⟩
abbrev cX11_ringsOf : ByteArray := prog_13_method_25_code
def yX11_ringsOf : MethodName := ⟨RX11, "ringsOf", "(I)I"⟩
abbrev cX11_rings : ByteArray := prog_13_method_26_code
def yX11_rings : MethodName := ⟨RX11, "rings", "()I"⟩
abbrev cX11_joinedIn : ByteArray := prog_13_method_27_code
def yX11_joinedIn : MethodName := ⟨RX11, "joinedIn", "(J)I"⟩
abbrev cX11_foursAt : ByteArray := prog_13_method_28_code
def yX11_foursAt : MethodName := ⟨RX11, "foursAt", "(II)I"⟩
abbrev cX11_foursOf : ByteArray := prog_13_method_29_code
def yX11_foursOf : MethodName := ⟨RX11, "foursOf", "(I)I"⟩
abbrev cX11_fours : ByteArray := prog_13_method_30_code
def yX11_fours : MethodName := ⟨RX11, "fours", "()I"⟩
abbrev cX11_ways : ByteArray := prog_13_method_31_code
def yX11_ways : MethodName := ⟨RX11, "ways", "(II)I"⟩
abbrev cX11_far : ByteArray := prog_13_method_32_code
def yX11_far : MethodName := ⟨RX11, "far", "(II)I"⟩
abbrev cX11_coreOf : ByteArray := prog_13_method_33_code
def yX11_coreOf : MethodName := ⟨RX11, "coreOf", "(I)J"⟩
abbrev cX11_cores : ByteArray := prog_13_method_34_code
def yX11_cores : MethodName := ⟨RX11, "cores", "()V"⟩
abbrev cX11_coreAt : ByteArray := prog_13_method_35_code
def yX11_coreAt : MethodName := ⟨RX11, "coreAt", "(I)I"⟩
abbrev cX11_of : ByteArray := prog_13_method_36_code
def yX11_of : MethodName := ⟨RX11, "of", "(II)I"⟩
abbrev cX11_two : ByteArray := prog_13_method_37_code
def yX11_two : MethodName := ⟨RX11, "two", "(III)I"⟩
abbrev cX11_leaves : ByteArray := prog_13_method_38_code
def yX11_leaves : MethodName := ⟨RX11, "leaves", "()V"⟩
abbrev cX11_leaves_ : ByteArray := prog_13_method_39_code
def yX11_leaves_ : MethodName := ⟨RX11, "leaves", "(II)V"⟩
abbrev cX11_supportLeft : ByteArray := prog_13_method_40_code
def yX11_supportLeft : MethodName := ⟨RX11, "supportLeft", "(I)I"⟩
abbrev cX11_isLeft : ByteArray := prog_13_method_41_code
def yX11_isLeft : MethodName := ⟨RX11, "isLeft", "(I)Z"⟩
abbrev cX11_peels : ByteArray := prog_13_method_42_code
def yX11_peels : MethodName := ⟨RX11, "peels", "()V"⟩
abbrev cX11_edge_ : ByteArray := prog_13_method_43_code
def yX11_edge_ : MethodName := ⟨RX11, "edge", "(III)I"⟩
abbrev cX11_peeled : ByteArray := prog_13_method_44_code
def yX11_peeled : MethodName := ⟨RX11, "peeled", "(II)I"⟩
abbrev cX11_isInTruss : ByteArray := prog_13_method_45_code
def yX11_isInTruss : MethodName := ⟨RX11, "isInTruss", "(II)Z"⟩
abbrev cX11_truss : ByteArray := prog_13_method_46_code
def yX11_truss : MethodName := ⟨RX11, "truss", "(I)I"⟩
abbrev cX11_pieces : ByteArray := prog_13_method_47_code
def yX11_pieces : MethodName := ⟨RX11, "pieces", "(I)I"⟩
abbrev cX11_hoodsBy : ByteArray := prog_13_method_48_code
def yX11_hoodsBy : MethodName := ⟨RX11, "hoodsBy", "(I)V"⟩
abbrev cX11_hood : ByteArray := prog_13_method_49_code
def yX11_hood : MethodName := ⟨RX11, "hood", "(III)I"⟩
abbrev cX11_hoods : ByteArray := prog_13_method_50_code
def yX11_hoods : MethodName := ⟨RX11, "hoods", "(I)I"⟩
abbrev cX11_core : ByteArray := prog_13_method_51_code
def yX11_core : MethodName := ⟨RX11, "core", "(I)J"⟩
abbrev cX11_swap : ByteArray := prog_13_method_52_code
def yX11_swap : MethodName := ⟨RX11, "swap", "(IIII)I"⟩
abbrev cX11_near : ByteArray := prog_13_method_53_code
def yX11_near : MethodName := ⟨RX11, "near", "(I)J"⟩
abbrev cX11_allTwos : ByteArray := prog_13_method_54_code
def yX11_allTwos : MethodName := ⟨RX11, "allTwos", "()I"⟩
abbrev cX11_told : ByteArray := prog_13_method_55_code
def yX11_told : MethodName := ⟨RX11, "told", "(I)J"⟩
abbrev cX11_gcd : ByteArray := prog_13_method_56_code
def yX11_gcd : MethodName := ⟨RX11, "gcd", "(JJ)J"⟩
abbrev cX11_closed : ByteArray := prog_13_method_57_code
def yX11_closed : MethodName := ⟨RX11, "closed", "(II)J"⟩
abbrev cX11_value : ByteArray := prog_13_method_58_code
def yX11_value : MethodName := ⟨RX11, "value", "()J"⟩
abbrev cX11_broken : ByteArray := prog_13_method_59_code
def yX11_broken : MethodName := ⟨RX11, "broken", "(I)I"⟩
abbrev cX11_isEnough : ByteArray := prog_13_method_60_code
def yX11_isEnough : MethodName := ⟨RX11, "isEnough", "(I)Z"⟩
abbrev cX11_isEnoughWithout : ByteArray := prog_13_method_61_code
def yX11_isEnoughWithout : MethodName := ⟨RX11, "isEnoughWithout", "(III)Z"⟩
abbrev cX11_fewest : ByteArray := prog_13_method_62_code
def yX11_fewest : MethodName := ⟨RX11, "fewest", "()I"⟩
abbrev cX11_feed : ByteArray := prog_13_method_63_code
def yX11_feed : MethodName := ⟨RX11, "feed", "(I)I"⟩
abbrev cX11_clear : ByteArray := prog_13_method_64_code
def yX11_clear : MethodName := ⟨RX11, "clear", "()I"⟩
abbrev cX11_here : ByteArray := prog_13_method_65_code
def yX11_here : MethodName := ⟨RX11, "here", "()I"⟩
abbrev cX11_fails : ByteArray := prog_13_method_66_code
def yX11_fails : MethodName := ⟨RX11, "fails", "(I)Z"⟩
abbrev cX11_isSign : ByteArray := prog_13_method_67_code
def yX11_isSign : MethodName := ⟨RX11, "isSign", "(I)Z"⟩
abbrev cX11_isNumber : ByteArray := prog_13_method_68_code
def yX11_isNumber : MethodName := ⟨RX11, "isNumber", "(II)Z"⟩
abbrev cX11_begins : ByteArray := prog_13_method_69_code
def yX11_begins : MethodName := ⟨RX11, "begins", "()V"⟩
abbrev cX11_isTwo : ByteArray := prog_13_method_70_code
def yX11_isTwo : MethodName := ⟨RX11, "isTwo", "(I)Z"⟩
abbrev cX11_isPart : ByteArray := prog_13_method_71_code
def yX11_isPart : MethodName := ⟨RX11, "isPart", "(I)Z"⟩
abbrev cX11_does : ByteArray := prog_13_method_72_code
def yX11_does : MethodName := ⟨RX11, "does", "(I)V"⟩
abbrev cX11_batch : ByteArray := prog_13_method_73_code
def yX11_batch : MethodName := ⟨RX11, "batch", "()I"⟩
abbrev cX11_letterOf : ByteArray := prog_13_method_74_code
def yX11_letterOf : MethodName := ⟨RX11, "letterOf", "(II)I"⟩
abbrev cX11_tested : ByteArray := prog_13_method_75_code
def yX11_tested : MethodName := ⟨RX11, "tested", "()J"⟩
abbrev cX11_factor : ByteArray := prog_13_method_76_code
def yX11_factor : MethodName := ⟨RX11, "factor", "(I)J"⟩
abbrev cX11_both : ByteArray := prog_13_method_77_code
def yX11_both : MethodName := ⟨RX11, "both", "(I)J"⟩
abbrev cX11_either : ByteArray := prog_13_method_78_code
def yX11_either : MethodName := ⟨RX11, "either", "(I)J"⟩
abbrev cX11_pick : ByteArray := prog_13_method_79_code
def yX11_pick : MethodName := ⟨RX11, "pick", "()I"⟩
abbrev cX11_picked : ByteArray := prog_13_method_80_code
def yX11_picked : MethodName := ⟨RX11, "picked", "()J"⟩
abbrev cX11_says : ByteArray := prog_13_method_81_code
def yX11_says : MethodName := ⟨RX11, "says", "(I)V"⟩
abbrev cX11_saysNumber : ByteArray := prog_13_method_82_code
def yX11_saysNumber : MethodName := ⟨RX11, "saysNumber", "(I)V"⟩
abbrev cX11_spell : ByteArray := prog_13_method_83_code
def yX11_spell : MethodName := ⟨RX11, "spell", "()I"⟩
abbrev cX11_paper : ByteArray := prog_13_method_84_code
def yX11_paper : MethodName := ⟨RX11, "paper", "(I)I"⟩
abbrev cX11_isList : ByteArray := prog_13_method_85_code
def yX11_isList : MethodName := ⟨RX11, "isList", "(I)Z"⟩
abbrev cX11_isWide : ByteArray := prog_13_method_86_code
def yX11_isWide : MethodName := ⟨RX11, "isWide", "(I)Z"⟩
abbrev cX11_wrong : ByteArray := prog_13_method_87_code
def yX11_wrong : MethodName := ⟨RX11, "wrong", "(I)I"⟩
abbrev cX11_list : ByteArray := prog_13_method_88_code
def yX11_list : MethodName := ⟨RX11, "list", "(II)I"⟩
abbrev cX11_set : ByteArray := prog_13_method_89_code
def yX11_set : MethodName := ⟨RX11, "set", "(IIJ)I"⟩
abbrev cX11_get : ByteArray := prog_13_method_90_code
def yX11_get : MethodName := ⟨RX11, "get", "(II)J"⟩
abbrev cX11_move : ByteArray := prog_13_method_91_code
def yX11_move : MethodName := ⟨RX11, "move", "(IIIII)I"⟩
abbrev cX11_figure : ByteArray := prog_13_method_92_code
def yX11_figure : MethodName := ⟨RX11, "figure", "(II)I"⟩
abbrev cX11_lay : ByteArray := prog_13_method_93_code
def yX11_lay : MethodName := ⟨RX11, "lay", "(III)I"⟩
abbrev cX11_judge : ByteArray := prog_13_method_94_code
def yX11_judge : MethodName := ⟨RX11, "judge", "(III)I"⟩
abbrev cX11_image : ByteArray := prog_13_method_95_code
def yX11_image : MethodName := ⟨RX11, "image", "()I"⟩
abbrev cX11_undo : ByteArray := prog_13_method_96_code
def yX11_undo : MethodName := ⟨RX11, "undo", "()I"⟩
def RJx145de : String := "java/io/Serializable"
def TJx145de : u_T := fun k => match k with
  | _ => ("", "", "", false)
def tyJx145de : Nat → FieldType := fun k => match k with
  | _ => .int
def RJx8e188 : String := "java/lang/Cloneable"
def TJx8e188 : u_T := fun k => match k with
  | _ => ("", "", "", false)
def tyJx8e188 : Nat → FieldType := fun k => match k with
  | _ => .int
def RJxb160c : String := "java/lang/Comparable"
def TJxb160c : u_T := fun k => match k with
  | _ => ("", "", "", false)
def tyJxb160c : Nat → FieldType := fun k => match k with
  | _ => .int
def RJ6 : String := "java/lang/Integer"
def TJ6 : u_T := fun k => match k with
  | _ => ("", "", "", false)
def tyJ6 : Nat → FieldType := fun k => match k with
  | _ => .int
abbrev cJ6_numberOfTrailingZeros_0f7a4 : ByteArray := prog_15_method_48_code
def yJ6_numberOfTrailingZeros_0f7a4 : MethodName := ⟨RJ6, "numberOfTrailingZeros", "(I)I"⟩
def RJ13 : String := "java/lang/Long"
def TJ13 : u_T := fun k => match k with
  | _ => ("", "", "", false)
def tyJ13 : Nat → FieldType := fun k => match k with
  | _ => .int
abbrev cJ13_numberOfTrailingZeros_95d88 : ByteArray := prog_16_method_49_code
def yJ13_numberOfTrailingZeros_95d88 : MethodName := ⟨RJ13, "numberOfTrailingZeros", "(J)I"⟩
abbrev cJ13_bitCount_95d88 : ByteArray := prog_16_method_50_code
def yJ13_bitCount_95d88 : MethodName := ⟨RJ13, "bitCount", "(J)I"⟩
def RJ9 : String := "java/lang/Math"
def TJ9 : u_T := fun k => match k with
  | _ => ("", "", "", false)
def tyJ9 : Nat → FieldType := fun k => match k with
  | _ => .int
abbrev cJ9_abs_0f7a4 : ByteArray := prog_17_method_59_code
def yJ9_abs_0f7a4 : MethodName := ⟨RJ9, "abs", "(I)I"⟩
abbrev cJ9_max_7cf53 : ByteArray := prog_17_method_65_code
def yJ9_max_7cf53 : MethodName := ⟨RJ9, "max", "(II)I"⟩
abbrev cJ9_min_7cf53 : ByteArray := prog_17_method_69_code
def yJ9_min_7cf53 : MethodName := ⟨RJ9, "min", "(II)I"⟩
def RJxd2413 : String := "java/lang/Number"
def TJxd2413 : u_T := fun k => match k with
  | _ => ("", "", "", false)
def tyJxd2413 : Nat → FieldType := fun k => match k with
  | _ => .int
def RJ10 : String := "java/lang/System"
def TJ10 : u_T := fun k => match k with
  | _ => ("", "", "", false)
def tyJ10 : Nat → FieldType := fun k => match k with
  | _ => .int
def RJxfd54e : String := "java/lang/constant/Constable"
def TJxfd54e : u_T := fun k => match k with
  | _ => ("", "", "", false)
def tyJxfd54e : Nat → FieldType := fun k => match k with
  | _ => .int
def RJx3cf43 : String := "java/lang/constant/ConstantDesc"
def TJx3cf43 : u_T := fun k => match k with
  | _ => ("", "", "", false)
def tyJx3cf43 : Nat → FieldType := fun k => match k with
  | _ => .int
def RJ7 : String := "java/util/Arrays"
def TJ7 : u_T := fun k => match k with
  | _ => ("", "", "", false)
def tyJ7 : Nat → FieldType := fun k => match k with
  | _ => .int
abbrev cJ7_fill_d0a16 : ByteArray := prog_20_method_101_code
def yJ7_fill_d0a16 : MethodName := ⟨RJ7, "fill", "([JJ)V"⟩
abbrev cJ7_fill_53178 : ByteArray := prog_20_method_103_code
def yJ7_fill_53178 : MethodName := ⟨RJ7, "fill", "([II)V"⟩
abbrev cJ7_copyOf_9075b : ByteArray := prog_20_method_121_code
def yJ7_copyOf_9075b : MethodName := ⟨RJ7, "copyOf", "([BI)[B"⟩
def RL : String := "RingCountsLaw"
abbrev cL_law : ByteArray := code
def yL_law : MethodName := ⟨RL, "law", "([I)Z"⟩
abbrev vwCl : List vw_C := [(RX0, TX0, 5), (RX1, TX1, 3), (RX3, TX3, 11), (RX4, TX4, 2), (RX5, TX5, 2), (RX6, TX6, 9), (RX7, TX7, 6), (RX8, TX8, 4), (RX9, TX9, 4), (RX10, TX10, 11), (RX11, TX11, 28)]
end
section
theorem dX0_init_0 : decode cX0_init 0 = .ok (.aload_n 0, 1) := by decide +kernel
theorem dX0_init_1 : decode cX0_init 1 = .ok (.invokespecial 3, 3) := by decide +kernel
theorem dX0_init_4 : decode cX0_init 4 = .ok (.aload_n 0, 1) := by decide +kernel
theorem dX0_init_5 : decode cX0_init 5 = .ok (.bipush 54, 2) := by decide +kernel
theorem dX0_init_7 : decode cX0_init 7 = .ok (.newarray .int, 2) := by decide +kernel
theorem dX0_init_9 : decode cX0_init 9 = .ok (.putfield 11, 3) := by decide +kernel
theorem dX0_init_12 : decode cX0_init 12 = .ok (.aload_n 0, 1) := by decide +kernel
theorem dX0_init_13 : decode cX0_init 13 = .ok (.bipush 54, 2) := by decide +kernel
theorem dX0_init_15 : decode cX0_init 15 = .ok (.newarray .int, 2) := by decide +kernel
theorem dX0_init_17 : decode cX0_init 17 = .ok (.putfield 15, 3) := by decide +kernel
theorem dX0_init_20 : decode cX0_init 20 = .ok (.aload_n 0, 1) := by decide +kernel
theorem dX0_init_21 : decode cX0_init 21 = .ok (.bipush 54, 2) := by decide +kernel
theorem dX0_init_23 : decode cX0_init 23 = .ok (.newarray .int, 2) := by decide +kernel
theorem dX0_init_25 : decode cX0_init 25 = .ok (.putfield 18, 3) := by decide +kernel
theorem dX0_init_28 : decode cX0_init 28 = .ok (.aload_n 0, 1) := by decide +kernel
theorem dX0_init_29 : decode cX0_init 29 = .ok (.bipush 54, 2) := by decide +kernel
theorem dX0_init_31 : decode cX0_init 31 = .ok (.newarray .int, 2) := by decide +kernel
theorem dX0_init_33 : decode cX0_init 33 = .ok (.putfield 21, 3) := by decide +kernel
theorem dX0_init_36 : decode cX0_init 36 = .ok (.aload_n 0, 1) := by decide +kernel
theorem dX0_init_37 : decode cX0_init 37 = .ok (.iconst 0, 1) := by decide +kernel
theorem dX0_init_38 : decode cX0_init 38 = .ok (.putfield 24, 3) := by decide +kernel
theorem dX0_init_41 : decode cX0_init 41 = .ok (.return_, 1) := by decide +kernel
theorem dX0_read_0 : decode cX0_read 0 = .ok (.aload_n 1, 1) := by decide +kernel
theorem dX0_read_1 : decode cX0_read 1 = .ok (.invokevirtual 28, 3) := by decide +kernel
theorem dX0_read_4 : decode cX0_read 4 = .ok (.aload_n 0, 1) := by decide +kernel
theorem dX0_read_5 : decode cX0_read 5 = .ok (.iconst 0, 1) := by decide +kernel
theorem dX0_read_6 : decode cX0_read 6 = .ok (.putfield 24, 3) := by decide +kernel
theorem dX0_read_9 : decode cX0_read 9 = .ok (.iconst 0, 1) := by decide +kernel
theorem dX0_read_10 : decode cX0_read 10 = .ok (.istore_n 2, 1) := by decide +kernel
theorem dX0_read_11 : decode cX0_read 11 = .ok (.iload_n 2, 1) := by decide +kernel
theorem dX0_read_12 : decode cX0_read 12 = .ok (.bipush 54, 2) := by decide +kernel
theorem dX0_read_14 : decode cX0_read 14 = .ok (.if_icmp .ge 37, 3) := by decide +kernel
theorem dX0_read_17 : decode cX0_read 17 = .ok (.aload_n 0, 1) := by decide +kernel
theorem dX0_read_18 : decode cX0_read 18 = .ok (.aload_n 1, 1) := by decide +kernel
theorem dX0_read_19 : decode cX0_read 19 = .ok (.iload_n 2, 1) := by decide +kernel
theorem dX0_read_20 : decode cX0_read 20 = .ok (.invokevirtual 33, 3) := by decide +kernel
theorem dX0_read_23 : decode cX0_read 23 = .ok (.aload_n 0, 1) := by decide +kernel
theorem dX0_read_24 : decode cX0_read 24 = .ok (.dup, 1) := by decide +kernel
theorem dX0_read_25 : decode cX0_read 25 = .ok (.getfield 24, 3) := by decide +kernel
theorem dX0_read_28 : decode cX0_read 28 = .ok (.iconst 1, 1) := by decide +kernel
theorem dX0_read_29 : decode cX0_read 29 = .ok (.iadd, 1) := by decide +kernel
theorem dX0_read_30 : decode cX0_read 30 = .ok (.putfield 24, 3) := by decide +kernel
theorem dX0_read_33 : decode cX0_read 33 = .ok (.aload_n 1, 1) := by decide +kernel
theorem dX0_read_34 : decode cX0_read 34 = .ok (.bipush 59, 2) := by decide +kernel
theorem dX0_read_36 : decode cX0_read 36 = .ok (.invokevirtual 37, 3) := by decide +kernel
theorem dX0_read_39 : decode cX0_read 39 = .ok (.ifCond .ne 6, 3) := by decide +kernel
theorem dX0_read_42 : decode cX0_read 42 = .ok (.goto 9, 3) := by decide +kernel
theorem dX0_read_45 : decode cX0_read 45 = .ok (.iinc 2 1, 3) := by decide +kernel
theorem dX0_read_48 : decode cX0_read 48 = .ok (.goto (-37), 3) := by decide +kernel
theorem dX0_read_51 : decode cX0_read 51 = .ok (.aload_n 1, 1) := by decide +kernel
theorem dX0_read_52 : decode cX0_read 52 = .ok (.invokevirtual 41, 3) := by decide +kernel
theorem dX0_read_55 : decode cX0_read 55 = .ok (.return_, 1) := by decide +kernel
theorem dX0_readPart_0 : decode cX0_readPart 0 = .ok (.aload_n 1, 1) := by decide +kernel
theorem dX0_readPart_1 : decode cX0_readPart 1 = .ok (.invokevirtual 44, 3) := by decide +kernel
theorem dX0_readPart_4 : decode cX0_readPart 4 = .ok (.istore_n 3, 1) := by decide +kernel
theorem dX0_readPart_5 : decode cX0_readPart 5 = .ok (.iload_n 3, 1) := by decide +kernel
theorem dX0_readPart_6 : decode cX0_readPart 6 = .ok (.bipush 43, 2) := by decide +kernel
theorem dX0_readPart_8 : decode cX0_readPart 8 = .ok (.if_icmp .eq 30, 3) := by decide +kernel
theorem dX0_readPart_11 : decode cX0_readPart 11 = .ok (.iload_n 3, 1) := by decide +kernel
theorem dX0_readPart_12 : decode cX0_readPart 12 = .ok (.bipush 45, 2) := by decide +kernel
theorem dX0_readPart_14 : decode cX0_readPart 14 = .ok (.if_icmp .eq 24, 3) := by decide +kernel
theorem dX0_readPart_17 : decode cX0_readPart 17 = .ok (.iload_n 3, 1) := by decide +kernel
theorem dX0_readPart_18 : decode cX0_readPart 18 = .ok (.bipush 126, 2) := by decide +kernel
theorem dX0_readPart_20 : decode cX0_readPart 20 = .ok (.if_icmp .eq 18, 3) := by decide +kernel
theorem dX0_readPart_23 : decode cX0_readPart 23 = .ok (.iload_n 3, 1) := by decide +kernel
theorem dX0_readPart_24 : decode cX0_readPart 24 = .ok (.bipush 42, 2) := by decide +kernel
theorem dX0_readPart_26 : decode cX0_readPart 26 = .ok (.if_icmp .eq 12, 3) := by decide +kernel
theorem dX0_readPart_29 : decode cX0_readPart 29 = .ok (.aload_n 1, 1) := by decide +kernel
theorem dX0_readPart_30 : decode cX0_readPart 30 = .ok (.aload_n 1, 1) := by decide +kernel
theorem dX0_readPart_31 : decode cX0_readPart 31 = .ok (.getfield 48, 3) := by decide +kernel
theorem dX0_readPart_34 : decode cX0_readPart 34 = .ok (.invokevirtual 51, 3) := by decide +kernel
theorem dX0_readPart_37 : decode cX0_readPart 37 = .ok (.return_, 1) := by decide +kernel
theorem dX0_readPart_38 : decode cX0_readPart 38 = .ok (.aload_n 1, 1) := by decide +kernel
theorem dX0_readPart_39 : decode cX0_readPart 39 = .ok (.dup, 1) := by decide +kernel
theorem dX0_readPart_40 : decode cX0_readPart 40 = .ok (.getfield 48, 3) := by decide +kernel
theorem dX0_readPart_43 : decode cX0_readPart 43 = .ok (.iconst 1, 1) := by decide +kernel
theorem dX0_readPart_44 : decode cX0_readPart 44 = .ok (.iadd, 1) := by decide +kernel
theorem dX0_readPart_45 : decode cX0_readPart 45 = .ok (.putfield 48, 3) := by decide +kernel
theorem dX0_readPart_48 : decode cX0_readPart 48 = .ok (.aload_n 0, 1) := by decide +kernel
theorem dX0_readPart_49 : decode cX0_readPart 49 = .ok (.getfield 11, 3) := by decide +kernel
theorem dX0_readPart_52 : decode cX0_readPart 52 = .ok (.iload_n 2, 1) := by decide +kernel
theorem dX0_readPart_53 : decode cX0_readPart 53 = .ok (.iload_n 3, 1) := by decide +kernel
theorem dX0_readPart_54 : decode cX0_readPart 54 = .ok (.iastore, 1) := by decide +kernel
theorem dX0_readPart_55 : decode cX0_readPart 55 = .ok (.aload_n 0, 1) := by decide +kernel
theorem dX0_readPart_56 : decode cX0_readPart 56 = .ok (.getfield 15, 3) := by decide +kernel
theorem dX0_readPart_59 : decode cX0_readPart 59 = .ok (.iload_n 2, 1) := by decide +kernel
theorem dX0_readPart_60 : decode cX0_readPart 60 = .ok (.aload_n 1, 1) := by decide +kernel
theorem dX0_readPart_61 : decode cX0_readPart 61 = .ok (.invokestatic 55, 3) := by decide +kernel
theorem dX0_readPart_64 : decode cX0_readPart 64 = .ok (.iastore, 1) := by decide +kernel
theorem dX0_readPart_65 : decode cX0_readPart 65 = .ok (.aload_n 0, 1) := by decide +kernel
theorem dX0_readPart_66 : decode cX0_readPart 66 = .ok (.getfield 18, 3) := by decide +kernel
theorem dX0_readPart_69 : decode cX0_readPart 69 = .ok (.iload_n 2, 1) := by decide +kernel
theorem dX0_readPart_70 : decode cX0_readPart 70 = .ok (.aload_n 0, 1) := by decide +kernel
theorem dX0_readPart_71 : decode cX0_readPart 71 = .ok (.getfield 15, 3) := by decide +kernel
theorem dX0_readPart_74 : decode cX0_readPart 74 = .ok (.iload_n 2, 1) := by decide +kernel
theorem dX0_readPart_75 : decode cX0_readPart 75 = .ok (.iaload, 1) := by decide +kernel
theorem dX0_readPart_76 : decode cX0_readPart 76 = .ok (.iastore, 1) := by decide +kernel
theorem dX0_readPart_77 : decode cX0_readPart 77 = .ok (.aload_n 0, 1) := by decide +kernel
theorem dX0_readPart_78 : decode cX0_readPart 78 = .ok (.getfield 21, 3) := by decide +kernel
theorem dX0_readPart_81 : decode cX0_readPart 81 = .ok (.iload_n 2, 1) := by decide +kernel
theorem dX0_readPart_82 : decode cX0_readPart 82 = .ok (.iconst 1, 1) := by decide +kernel
theorem dX0_readPart_83 : decode cX0_readPart 83 = .ok (.iastore, 1) := by decide +kernel
theorem dX0_readPart_84 : decode cX0_readPart 84 = .ok (.iload_n 3, 1) := by decide +kernel
theorem dX0_readPart_85 : decode cX0_readPart 85 = .ok (.bipush 42, 2) := by decide +kernel
theorem dX0_readPart_87 : decode cX0_readPart 87 = .ok (.if_icmp .eq 25, 3) := by decide +kernel
theorem dX0_readPart_90 : decode cX0_readPart 90 = .ok (.aload_n 1, 1) := by decide +kernel
theorem dX0_readPart_91 : decode cX0_readPart 91 = .ok (.bipush 44, 2) := by decide +kernel
theorem dX0_readPart_93 : decode cX0_readPart 93 = .ok (.invokevirtual 59, 3) := by decide +kernel
theorem dX0_readPart_96 : decode cX0_readPart 96 = .ok (.aload_n 0, 1) := by decide +kernel
theorem dX0_readPart_97 : decode cX0_readPart 97 = .ok (.getfield 18, 3) := by decide +kernel
theorem dX0_readPart_100 : decode cX0_readPart 100 = .ok (.iload_n 2, 1) := by decide +kernel
theorem dX0_readPart_101 : decode cX0_readPart 101 = .ok (.aload_n 1, 1) := by decide +kernel
theorem dX0_readPart_102 : decode cX0_readPart 102 = .ok (.aload_n 0, 1) := by decide +kernel
theorem dX0_readPart_103 : decode cX0_readPart 103 = .ok (.getfield 15, 3) := by decide +kernel
theorem dX0_readPart_106 : decode cX0_readPart 106 = .ok (.iload_n 2, 1) := by decide +kernel
theorem dX0_readPart_107 : decode cX0_readPart 107 = .ok (.iaload, 1) := by decide +kernel
theorem dX0_readPart_108 : decode cX0_readPart 108 = .ok (.invokestatic 62, 3) := by decide +kernel
theorem dX0_readPart_111 : decode cX0_readPart 111 = .ok (.iastore, 1) := by decide +kernel
theorem dX0_readPart_112 : decode cX0_readPart 112 = .ok (.iload_n 3, 1) := by decide +kernel
theorem dX0_readPart_113 : decode cX0_readPart 113 = .ok (.bipush 43, 2) := by decide +kernel
theorem dX0_readPart_115 : decode cX0_readPart 115 = .ok (.if_icmp .ne 22, 3) := by decide +kernel
theorem dX0_readPart_118 : decode cX0_readPart 118 = .ok (.aload_n 1, 1) := by decide +kernel
theorem dX0_readPart_119 : decode cX0_readPart 119 = .ok (.bipush 61, 2) := by decide +kernel
theorem dX0_readPart_121 : decode cX0_readPart 121 = .ok (.invokevirtual 37, 3) := by decide +kernel
theorem dX0_readPart_124 : decode cX0_readPart 124 = .ok (.ifCond .eq 13, 3) := by decide +kernel
theorem dX0_readPart_127 : decode cX0_readPart 127 = .ok (.aload_n 0, 1) := by decide +kernel
theorem dX0_readPart_128 : decode cX0_readPart 128 = .ok (.getfield 21, 3) := by decide +kernel
theorem dX0_readPart_131 : decode cX0_readPart 131 = .ok (.iload_n 2, 1) := by decide +kernel
theorem dX0_readPart_132 : decode cX0_readPart 132 = .ok (.aload_n 1, 1) := by decide +kernel
theorem dX0_readPart_133 : decode cX0_readPart 133 = .ok (.invokestatic 66, 3) := by decide +kernel
theorem dX0_readPart_136 : decode cX0_readPart 136 = .ok (.iastore, 1) := by decide +kernel
theorem dX0_readPart_137 : decode cX0_readPart 137 = .ok (.return_, 1) := by decide +kernel
theorem dX0_readVertex_0 : decode cX0_readVertex 0 = .ok (.aload_n 0, 1) := by decide +kernel
theorem dX0_readVertex_1 : decode cX0_readVertex 1 = .ok (.iconst 2, 1) := by decide +kernel
theorem dX0_readVertex_2 : decode cX0_readVertex 2 = .ok (.bipush 39, 2) := by decide +kernel
theorem dX0_readVertex_4 : decode cX0_readVertex 4 = .ok (.invokevirtual 69, 3) := by decide +kernel
theorem dX0_readVertex_7 : decode cX0_readVertex 7 = .ok (.ireturn, 1) := by decide +kernel
theorem dX0_readOther_0 : decode cX0_readOther 0 = .ok (.aload_n 0, 1) := by decide +kernel
theorem dX0_readOther_1 : decode cX0_readOther 1 = .ok (.getfield 48, 3) := by decide +kernel
theorem dX0_readOther_4 : decode cX0_readOther 4 = .ok (.istore_n 2, 1) := by decide +kernel
theorem dX0_readOther_5 : decode cX0_readOther 5 = .ok (.aload_n 0, 1) := by decide +kernel
theorem dX0_readOther_6 : decode cX0_readOther 6 = .ok (.invokestatic 55, 3) := by decide +kernel
theorem dX0_readOther_9 : decode cX0_readOther 9 = .ok (.istore_n 3, 1) := by decide +kernel
theorem dX0_readOther_10 : decode cX0_readOther 10 = .ok (.iload_n 3, 1) := by decide +kernel
theorem dX0_readOther_11 : decode cX0_readOther 11 = .ok (.iload_n 1, 1) := by decide +kernel
theorem dX0_readOther_12 : decode cX0_readOther 12 = .ok (.if_icmp .ne 8, 3) := by decide +kernel
theorem dX0_readOther_15 : decode cX0_readOther 15 = .ok (.aload_n 0, 1) := by decide +kernel
theorem dX0_readOther_16 : decode cX0_readOther 16 = .ok (.iload_n 2, 1) := by decide +kernel
theorem dX0_readOther_17 : decode cX0_readOther 17 = .ok (.invokevirtual 51, 3) := by decide +kernel
theorem dX0_readOther_20 : decode cX0_readOther 20 = .ok (.iload_n 3, 1) := by decide +kernel
theorem dX0_readOther_21 : decode cX0_readOther 21 = .ok (.ireturn, 1) := by decide +kernel
theorem dX0_readWorth_0 : decode cX0_readWorth 0 = .ok (.aload_n 0, 1) := by decide +kernel
theorem dX0_readWorth_1 : decode cX0_readWorth 1 = .ok (.bipush 45, 2) := by decide +kernel
theorem dX0_readWorth_3 : decode cX0_readWorth 3 = .ok (.invokevirtual 37, 3) := by decide +kernel
theorem dX0_readWorth_6 : decode cX0_readWorth 6 = .ok (.istore_n 1, 1) := by decide +kernel
theorem dX0_readWorth_7 : decode cX0_readWorth 7 = .ok (.aload_n 0, 1) := by decide +kernel
theorem dX0_readWorth_8 : decode cX0_readWorth 8 = .ok (.bipush 7, 2) := by decide +kernel
theorem dX0_readWorth_10 : decode cX0_readWorth 10 = .ok (.ldc 73, 2) := by decide +kernel
theorem dX0_readWorth_12 : decode cX0_readWorth 12 = .ok (.invokevirtual 69, 3) := by decide +kernel
theorem dX0_readWorth_15 : decode cX0_readWorth 15 = .ok (.istore_n 2, 1) := by decide +kernel
theorem dX0_readWorth_16 : decode cX0_readWorth 16 = .ok (.iload_n 1, 1) := by decide +kernel
theorem dX0_readWorth_17 : decode cX0_readWorth 17 = .ok (.ifCond .eq 8, 3) := by decide +kernel
theorem dX0_readWorth_20 : decode cX0_readWorth 20 = .ok (.iload_n 2, 1) := by decide +kernel
theorem dX0_readWorth_21 : decode cX0_readWorth 21 = .ok (.ineg, 1) := by decide +kernel
theorem dX0_readWorth_22 : decode cX0_readWorth 22 = .ok (.goto 4, 3) := by decide +kernel
theorem dX0_readWorth_25 : decode cX0_readWorth 25 = .ok (.iload_n 2, 1) := by decide +kernel
theorem dX0_readWorth_26 : decode cX0_readWorth 26 = .ok (.ireturn, 1) := by decide +kernel
theorem dX1_init_0 : decode cX1_init 0 = .ok (.aload_n 0, 1) := by decide +kernel
theorem dX1_init_1 : decode cX1_init 1 = .ok (.invokespecial 3, 3) := by decide +kernel
theorem dX1_init_4 : decode cX1_init 4 = .ok (.aload_n 0, 1) := by decide +kernel
theorem dX1_init_5 : decode cX1_init 5 = .ok (.bipush 40, 2) := by decide +kernel
theorem dX1_init_7 : decode cX1_init 7 = .ok (.newarray .long, 2) := by decide +kernel
theorem dX1_init_9 : decode cX1_init 9 = .ok (.putfield 9, 3) := by decide +kernel
theorem dX1_init_12 : decode cX1_init 12 = .ok (.aload_n 0, 1) := by decide +kernel
theorem dX1_init_13 : decode cX1_init 13 = .ok (.iconst 0, 1) := by decide +kernel
theorem dX1_init_14 : decode cX1_init 14 = .ok (.putfield 15, 3) := by decide +kernel
theorem dX1_init_17 : decode cX1_init 17 = .ok (.aload_n 0, 1) := by decide +kernel
theorem dX1_init_18 : decode cX1_init 18 = .ok (.iconst 0, 1) := by decide +kernel
theorem dX1_init_19 : decode cX1_init 19 = .ok (.putfield 19, 3) := by decide +kernel
theorem dX1_init_22 : decode cX1_init 22 = .ok (.return_, 1) := by decide +kernel
theorem dX1_breakAll_0 : decode cX1_breakAll 0 = .ok (.aload_n 1, 1) := by decide +kernel
theorem dX1_breakAll_1 : decode cX1_breakAll 1 = .ok (.iconst 0, 1) := by decide +kernel
theorem dX1_breakAll_2 : decode cX1_breakAll 2 = .ok (.aload_n 0, 1) := by decide +kernel
theorem dX1_breakAll_3 : decode cX1_breakAll 3 = .ok (.getfield 9, 3) := by decide +kernel
theorem dX1_breakAll_6 : decode cX1_breakAll 6 = .ok (.iconst 0, 1) := by decide +kernel
theorem dX1_breakAll_7 : decode cX1_breakAll 7 = .ok (.bipush 40, 2) := by decide +kernel
theorem dX1_breakAll_9 : decode cX1_breakAll 9 = .ok (.invokestatic 22, 3) := by decide +kernel
theorem dX1_breakAll_12 : decode cX1_breakAll 12 = .ok (.aload_n 0, 1) := by decide +kernel
theorem dX1_breakAll_13 : decode cX1_breakAll 13 = .ok (.iconst 0, 1) := by decide +kernel
theorem dX1_breakAll_14 : decode cX1_breakAll 14 = .ok (.putfield 15, 3) := by decide +kernel
theorem dX1_breakAll_17 : decode cX1_breakAll 17 = .ok (.iconst 0, 1) := by decide +kernel
theorem dX1_breakAll_18 : decode cX1_breakAll 18 = .ok (.istore_n 2, 1) := by decide +kernel
theorem dX1_breakAll_19 : decode cX1_breakAll 19 = .ok (.iload_n 2, 1) := by decide +kernel
theorem dX1_breakAll_20 : decode cX1_breakAll 20 = .ok (.sipush 780, 3) := by decide +kernel
theorem dX1_breakAll_23 : decode cX1_breakAll 23 = .ok (.if_icmp .ge 56, 3) := by decide +kernel
theorem dX1_breakAll_26 : decode cX1_breakAll 26 = .ok (.aload_n 0, 1) := by decide +kernel
theorem dX1_breakAll_27 : decode cX1_breakAll 27 = .ok (.invokevirtual 28, 3) := by decide +kernel
theorem dX1_breakAll_30 : decode cX1_breakAll 30 = .ok (.istore_n 3, 1) := by decide +kernel
theorem dX1_breakAll_31 : decode cX1_breakAll 31 = .ok (.iload_n 3, 1) := by decide +kernel
theorem dX1_breakAll_32 : decode cX1_breakAll 32 = .ok (.ifCond .ge 4, 3) := by decide +kernel
theorem dX1_breakAll_35 : decode cX1_breakAll 35 = .ok (.return_, 1) := by decide +kernel
theorem dX1_breakAll_36 : decode cX1_breakAll 36 = .ok (.aload_n 0, 1) := by decide +kernel
theorem dX1_breakAll_37 : decode cX1_breakAll 37 = .ok (.getfield 15, 3) := by decide +kernel
theorem dX1_breakAll_40 : decode cX1_breakAll 40 = .ok (.ifCond .ne 8, 3) := by decide +kernel
theorem dX1_breakAll_43 : decode cX1_breakAll 43 = .ok (.aload_n 0, 1) := by decide +kernel
theorem dX1_breakAll_44 : decode cX1_breakAll 44 = .ok (.iload_n 3, 1) := by decide +kernel
theorem dX1_breakAll_45 : decode cX1_breakAll 45 = .ok (.putfield 19, 3) := by decide +kernel
theorem dX1_breakAll_48 : decode cX1_breakAll 48 = .ok (.aload_n 0, 1) := by decide +kernel
theorem dX1_breakAll_49 : decode cX1_breakAll 49 = .ok (.dup, 1) := by decide +kernel
theorem dX1_breakAll_50 : decode cX1_breakAll 50 = .ok (.getfield 15, 3) := by decide +kernel
theorem dX1_breakAll_53 : decode cX1_breakAll 53 = .ok (.iconst 1, 1) := by decide +kernel
theorem dX1_breakAll_54 : decode cX1_breakAll 54 = .ok (.iadd, 1) := by decide +kernel
theorem dX1_breakAll_55 : decode cX1_breakAll 55 = .ok (.putfield 15, 3) := by decide +kernel
theorem dX1_breakAll_58 : decode cX1_breakAll 58 = .ok (.aload_n 0, 1) := by decide +kernel
theorem dX1_breakAll_59 : decode cX1_breakAll 59 = .ok (.getfield 9, 3) := by decide +kernel
theorem dX1_breakAll_62 : decode cX1_breakAll 62 = .ok (.iload_n 3, 1) := by decide +kernel
theorem dX1_breakAll_63 : decode cX1_breakAll 63 = .ok (.bipush 40, 2) := by decide +kernel
theorem dX1_breakAll_65 : decode cX1_breakAll 65 = .ok (.idiv, 1) := by decide +kernel
theorem dX1_breakAll_66 : decode cX1_breakAll 66 = .ok (.iload_n 3, 1) := by decide +kernel
theorem dX1_breakAll_67 : decode cX1_breakAll 67 = .ok (.bipush 40, 2) := by decide +kernel
theorem dX1_breakAll_69 : decode cX1_breakAll 69 = .ok (.irem, 1) := by decide +kernel
theorem dX1_breakAll_70 : decode cX1_breakAll 70 = .ok (.invokestatic 32, 3) := by decide +kernel
theorem dX1_breakAll_73 : decode cX1_breakAll 73 = .ok (.iinc 2 1, 3) := by decide +kernel
theorem dX1_breakAll_76 : decode cX1_breakAll 76 = .ok (.goto (-57), 3) := by decide +kernel
theorem dX1_breakAll_79 : decode cX1_breakAll 79 = .ok (.return_, 1) := by decide +kernel
theorem dX1_mostSupported_0 : decode cX1_mostSupported 0 = .ok (.iconst (-1), 1) := by decide +kernel
theorem dX1_mostSupported_1 : decode cX1_mostSupported 1 = .ok (.istore_n 1, 1) := by decide +kernel
theorem dX1_mostSupported_2 : decode cX1_mostSupported 2 = .ok (.iconst 0, 1) := by decide +kernel
theorem dX1_mostSupported_3 : decode cX1_mostSupported 3 = .ok (.istore_n 2, 1) := by decide +kernel
theorem dX1_mostSupported_4 : decode cX1_mostSupported 4 = .ok (.iconst 0, 1) := by decide +kernel
theorem dX1_mostSupported_5 : decode cX1_mostSupported 5 = .ok (.istore_n 3, 1) := by decide +kernel
theorem dX1_mostSupported_6 : decode cX1_mostSupported 6 = .ok (.iload_n 3, 1) := by decide +kernel
theorem dX1_mostSupported_7 : decode cX1_mostSupported 7 = .ok (.bipush 40, 2) := by decide +kernel
theorem dX1_mostSupported_9 : decode cX1_mostSupported 9 = .ok (.if_icmp .ge 73, 3) := by decide +kernel
theorem dX1_mostSupported_12 : decode cX1_mostSupported 12 = .ok (.iload_n 3, 1) := by decide +kernel
theorem dX1_mostSupported_13 : decode cX1_mostSupported 13 = .ok (.iconst 1, 1) := by decide +kernel
theorem dX1_mostSupported_14 : decode cX1_mostSupported 14 = .ok (.iadd, 1) := by decide +kernel
theorem dX1_mostSupported_15 : decode cX1_mostSupported 15 = .ok (.istore 4, 2) := by decide +kernel
theorem dX1_mostSupported_17 : decode cX1_mostSupported 17 = .ok (.iload 4, 2) := by decide +kernel
theorem dX1_mostSupported_19 : decode cX1_mostSupported 19 = .ok (.bipush 40, 2) := by decide +kernel
theorem dX1_mostSupported_21 : decode cX1_mostSupported 21 = .ok (.if_icmp .ge 55, 3) := by decide +kernel
theorem dX1_mostSupported_24 : decode cX1_mostSupported 24 = .ok (.aload_n 0, 1) := by decide +kernel
theorem dX1_mostSupported_25 : decode cX1_mostSupported 25 = .ok (.getfield 9, 3) := by decide +kernel
theorem dX1_mostSupported_28 : decode cX1_mostSupported 28 = .ok (.iload_n 3, 1) := by decide +kernel
theorem dX1_mostSupported_29 : decode cX1_mostSupported 29 = .ok (.laload, 1) := by decide +kernel
theorem dX1_mostSupported_30 : decode cX1_mostSupported 30 = .ok (.iload 4, 2) := by decide +kernel
theorem dX1_mostSupported_32 : decode cX1_mostSupported 32 = .ok (.invokestatic 36, 3) := by decide +kernel
theorem dX1_mostSupported_35 : decode cX1_mostSupported 35 = .ok (.ifCond .eq 35, 3) := by decide +kernel
theorem dX1_mostSupported_38 : decode cX1_mostSupported 38 = .ok (.aload_n 0, 1) := by decide +kernel
theorem dX1_mostSupported_39 : decode cX1_mostSupported 39 = .ok (.getfield 9, 3) := by decide +kernel
theorem dX1_mostSupported_42 : decode cX1_mostSupported 42 = .ok (.iload_n 3, 1) := by decide +kernel
theorem dX1_mostSupported_43 : decode cX1_mostSupported 43 = .ok (.iload 4, 2) := by decide +kernel
theorem dX1_mostSupported_45 : decode cX1_mostSupported 45 = .ok (.invokestatic 40, 3) := by decide +kernel
theorem dX1_mostSupported_48 : decode cX1_mostSupported 48 = .ok (.iload_n 2, 1) := by decide +kernel
theorem dX1_mostSupported_49 : decode cX1_mostSupported 49 = .ok (.if_icmp .le 21, 3) := by decide +kernel
theorem dX1_mostSupported_52 : decode cX1_mostSupported 52 = .ok (.aload_n 0, 1) := by decide +kernel
theorem dX1_mostSupported_53 : decode cX1_mostSupported 53 = .ok (.getfield 9, 3) := by decide +kernel
theorem dX1_mostSupported_56 : decode cX1_mostSupported 56 = .ok (.iload_n 3, 1) := by decide +kernel
theorem dX1_mostSupported_57 : decode cX1_mostSupported 57 = .ok (.iload 4, 2) := by decide +kernel
theorem dX1_mostSupported_59 : decode cX1_mostSupported 59 = .ok (.invokestatic 40, 3) := by decide +kernel
theorem dX1_mostSupported_62 : decode cX1_mostSupported 62 = .ok (.istore_n 2, 1) := by decide +kernel
theorem dX1_mostSupported_63 : decode cX1_mostSupported 63 = .ok (.iload_n 3, 1) := by decide +kernel
theorem dX1_mostSupported_64 : decode cX1_mostSupported 64 = .ok (.iload 4, 2) := by decide +kernel
theorem dX1_mostSupported_66 : decode cX1_mostSupported 66 = .ok (.invokestatic 46, 3) := by decide +kernel
theorem dX1_mostSupported_69 : decode cX1_mostSupported 69 = .ok (.istore_n 1, 1) := by decide +kernel
theorem dX1_mostSupported_70 : decode cX1_mostSupported 70 = .ok (.iinc 4 1, 3) := by decide +kernel
theorem dX1_mostSupported_73 : decode cX1_mostSupported 73 = .ok (.goto (-56), 3) := by decide +kernel
theorem dX1_mostSupported_76 : decode cX1_mostSupported 76 = .ok (.iinc 3 1, 3) := by decide +kernel
theorem dX1_mostSupported_79 : decode cX1_mostSupported 79 = .ok (.goto (-73), 3) := by decide +kernel
theorem dX1_mostSupported_82 : decode cX1_mostSupported 82 = .ok (.iload_n 1, 1) := by decide +kernel
theorem dX1_mostSupported_83 : decode cX1_mostSupported 83 = .ok (.ireturn, 1) := by decide +kernel
theorem dX1_fewestOf_0 : decode cX1_fewestOf 0 = .ok (.aload_n 1, 1) := by decide +kernel
theorem dX1_fewestOf_1 : decode cX1_fewestOf 1 = .ok (.iconst 0, 1) := by decide +kernel
theorem dX1_fewestOf_2 : decode cX1_fewestOf 2 = .ok (.aload_n 0, 1) := by decide +kernel
theorem dX1_fewestOf_3 : decode cX1_fewestOf 3 = .ok (.getfield 9, 3) := by decide +kernel
theorem dX1_fewestOf_6 : decode cX1_fewestOf 6 = .ok (.iconst 0, 1) := by decide +kernel
theorem dX1_fewestOf_7 : decode cX1_fewestOf 7 = .ok (.bipush 40, 2) := by decide +kernel
theorem dX1_fewestOf_9 : decode cX1_fewestOf 9 = .ok (.invokestatic 22, 3) := by decide +kernel
theorem dX1_fewestOf_12 : decode cX1_fewestOf 12 = .ok (.iconst 0, 1) := by decide +kernel
theorem dX1_fewestOf_13 : decode cX1_fewestOf 13 = .ok (.istore_n 2, 1) := by decide +kernel
theorem dX1_fewestOf_14 : decode cX1_fewestOf 14 = .ok (.iload_n 2, 1) := by decide +kernel
theorem dX1_fewestOf_15 : decode cX1_fewestOf 15 = .ok (.iconst 4, 1) := by decide +kernel
theorem dX1_fewestOf_16 : decode cX1_fewestOf 16 = .ok (.if_icmp .gt 22, 3) := by decide +kernel
theorem dX1_fewestOf_19 : decode cX1_fewestOf 19 = .ok (.aload_n 0, 1) := by decide +kernel
theorem dX1_fewestOf_20 : decode cX1_fewestOf 20 = .ok (.getfield 9, 3) := by decide +kernel
theorem dX1_fewestOf_23 : decode cX1_fewestOf 23 = .ok (.iload_n 2, 1) := by decide +kernel
theorem dX1_fewestOf_24 : decode cX1_fewestOf 24 = .ok (.invokestatic 50, 3) := by decide +kernel
theorem dX1_fewestOf_27 : decode cX1_fewestOf 27 = .ok (.ifCond .eq 5, 3) := by decide +kernel
theorem dX1_fewestOf_30 : decode cX1_fewestOf 30 = .ok (.iload_n 2, 1) := by decide +kernel
theorem dX1_fewestOf_31 : decode cX1_fewestOf 31 = .ok (.ireturn, 1) := by decide +kernel
theorem dX1_fewestOf_32 : decode cX1_fewestOf 32 = .ok (.iinc 2 1, 3) := by decide +kernel
theorem dX1_fewestOf_35 : decode cX1_fewestOf 35 = .ok (.goto (-21), 3) := by decide +kernel
theorem dX1_fewestOf_38 : decode cX1_fewestOf 38 = .ok (.bipush (-5), 2) := by decide +kernel
theorem dX1_fewestOf_40 : decode cX1_fewestOf 40 = .ok (.ireturn, 1) := by decide +kernel
theorem dX1_breaksWith_0 : decode cX1_breaksWith 0 = .ok (.aload_n 0, 1) := by decide +kernel
theorem dX1_breaksWith_1 : decode cX1_breaksWith 1 = .ok (.invokestatic 54, 3) := by decide +kernel
theorem dX1_breaksWith_4 : decode cX1_breaksWith 4 = .ok (.istore_n 2, 1) := by decide +kernel
theorem dX1_breaksWith_5 : decode cX1_breaksWith 5 = .ok (.iload_n 2, 1) := by decide +kernel
theorem dX1_breaksWith_6 : decode cX1_breaksWith 6 = .ok (.ifCond .ge 5, 3) := by decide +kernel
theorem dX1_breaksWith_9 : decode cX1_breaksWith 9 = .ok (.iconst 1, 1) := by decide +kernel
theorem dX1_breaksWith_10 : decode cX1_breaksWith 10 = .ok (.ireturn, 1) := by decide +kernel
theorem dX1_breaksWith_11 : decode cX1_breaksWith 11 = .ok (.iload_n 1, 1) := by decide +kernel
theorem dX1_breaksWith_12 : decode cX1_breaksWith 12 = .ok (.ifCond .gt 5, 3) := by decide +kernel
theorem dX1_breaksWith_15 : decode cX1_breaksWith 15 = .ok (.iconst 0, 1) := by decide +kernel
theorem dX1_breaksWith_16 : decode cX1_breaksWith 16 = .ok (.ireturn, 1) := by decide +kernel
theorem dX1_breaksWith_17 : decode cX1_breaksWith 17 = .ok (.iload_n 2, 1) := by decide +kernel
theorem dX1_breaksWith_18 : decode cX1_breaksWith 18 = .ok (.sipush 1600, 3) := by decide +kernel
theorem dX1_breaksWith_21 : decode cX1_breaksWith 21 = .ok (.idiv, 1) := by decide +kernel
theorem dX1_breaksWith_22 : decode cX1_breaksWith 22 = .ok (.istore_n 3, 1) := by decide +kernel
theorem dX1_breaksWith_23 : decode cX1_breaksWith 23 = .ok (.iload_n 2, 1) := by decide +kernel
theorem dX1_breaksWith_24 : decode cX1_breaksWith 24 = .ok (.bipush 40, 2) := by decide +kernel
theorem dX1_breaksWith_26 : decode cX1_breaksWith 26 = .ok (.idiv, 1) := by decide +kernel
theorem dX1_breaksWith_27 : decode cX1_breaksWith 27 = .ok (.bipush 40, 2) := by decide +kernel
theorem dX1_breaksWith_29 : decode cX1_breaksWith 29 = .ok (.irem, 1) := by decide +kernel
theorem dX1_breaksWith_30 : decode cX1_breaksWith 30 = .ok (.istore 4, 2) := by decide +kernel
theorem dX1_breaksWith_32 : decode cX1_breaksWith 32 = .ok (.iload_n 2, 1) := by decide +kernel
theorem dX1_breaksWith_33 : decode cX1_breaksWith 33 = .ok (.bipush 40, 2) := by decide +kernel
theorem dX1_breaksWith_35 : decode cX1_breaksWith 35 = .ok (.irem, 1) := by decide +kernel
theorem dX1_breaksWith_36 : decode cX1_breaksWith 36 = .ok (.istore 5, 2) := by decide +kernel
theorem dX1_breaksWith_38 : decode cX1_breaksWith 38 = .ok (.aload_n 0, 1) := by decide +kernel
theorem dX1_breaksWith_39 : decode cX1_breaksWith 39 = .ok (.iload_n 3, 1) := by decide +kernel
theorem dX1_breaksWith_40 : decode cX1_breaksWith 40 = .ok (.iload 4, 2) := by decide +kernel
theorem dX1_breaksWith_42 : decode cX1_breaksWith 42 = .ok (.iload_n 1, 1) := by decide +kernel
theorem dX1_breaksWith_43 : decode cX1_breaksWith 43 = .ok (.invokestatic 58, 3) := by decide +kernel
theorem dX1_breaksWith_46 : decode cX1_breaksWith 46 = .ok (.ifCond .ne 26, 3) := by decide +kernel
theorem dX1_breaksWith_49 : decode cX1_breaksWith 49 = .ok (.aload_n 0, 1) := by decide +kernel
theorem dX1_breaksWith_50 : decode cX1_breaksWith 50 = .ok (.iload_n 3, 1) := by decide +kernel
theorem dX1_breaksWith_51 : decode cX1_breaksWith 51 = .ok (.iload 5, 2) := by decide +kernel
theorem dX1_breaksWith_53 : decode cX1_breaksWith 53 = .ok (.iload_n 1, 1) := by decide +kernel
theorem dX1_breaksWith_54 : decode cX1_breaksWith 54 = .ok (.invokestatic 58, 3) := by decide +kernel
theorem dX1_breaksWith_57 : decode cX1_breaksWith 57 = .ok (.ifCond .ne 15, 3) := by decide +kernel
theorem dX1_breaksWith_60 : decode cX1_breaksWith 60 = .ok (.aload_n 0, 1) := by decide +kernel
theorem dX1_breaksWith_61 : decode cX1_breaksWith 61 = .ok (.iload 4, 2) := by decide +kernel
theorem dX1_breaksWith_63 : decode cX1_breaksWith 63 = .ok (.iload 5, 2) := by decide +kernel
theorem dX1_breaksWith_65 : decode cX1_breaksWith 65 = .ok (.iload_n 1, 1) := by decide +kernel
theorem dX1_breaksWith_66 : decode cX1_breaksWith 66 = .ok (.invokestatic 58, 3) := by decide +kernel
theorem dX1_breaksWith_69 : decode cX1_breaksWith 69 = .ok (.ifCond .eq 7, 3) := by decide +kernel
theorem dX1_breaksWith_72 : decode cX1_breaksWith 72 = .ok (.iconst 1, 1) := by decide +kernel
theorem dX1_breaksWith_73 : decode cX1_breaksWith 73 = .ok (.goto 4, 3) := by decide +kernel
theorem dX1_breaksWith_76 : decode cX1_breaksWith 76 = .ok (.iconst 0, 1) := by decide +kernel
theorem dX1_breaksWith_77 : decode cX1_breaksWith 77 = .ok (.ireturn, 1) := by decide +kernel
theorem dX1_breaksWithout_0 : decode cX1_breaksWithout 0 = .ok (.aload_n 0, 1) := by decide +kernel
theorem dX1_breaksWithout_1 : decode cX1_breaksWithout 1 = .ok (.iload_n 1, 1) := by decide +kernel
theorem dX1_breaksWithout_2 : decode cX1_breaksWithout 2 = .ok (.iload_n 2, 1) := by decide +kernel
theorem dX1_breaksWithout_3 : decode cX1_breaksWithout 3 = .ok (.invokestatic 32, 3) := by decide +kernel
theorem dX1_breaksWithout_6 : decode cX1_breaksWithout 6 = .ok (.aload_n 0, 1) := by decide +kernel
theorem dX1_breaksWithout_7 : decode cX1_breaksWithout 7 = .ok (.iload_n 3, 1) := by decide +kernel
theorem dX1_breaksWithout_8 : decode cX1_breaksWithout 8 = .ok (.iconst 1, 1) := by decide +kernel
theorem dX1_breaksWithout_9 : decode cX1_breaksWithout 9 = .ok (.isub, 1) := by decide +kernel
theorem dX1_breaksWithout_10 : decode cX1_breaksWithout 10 = .ok (.invokestatic 50, 3) := by decide +kernel
theorem dX1_breaksWithout_13 : decode cX1_breaksWithout 13 = .ok (.istore 4, 2) := by decide +kernel
theorem dX1_breaksWithout_15 : decode cX1_breaksWithout 15 = .ok (.aload_n 0, 1) := by decide +kernel
theorem dX1_breaksWithout_16 : decode cX1_breaksWithout 16 = .ok (.iload_n 1, 1) := by decide +kernel
theorem dX1_breaksWithout_17 : decode cX1_breaksWithout 17 = .ok (.iload_n 2, 1) := by decide +kernel
theorem dX1_breaksWithout_18 : decode cX1_breaksWithout 18 = .ok (.invokestatic 32, 3) := by decide +kernel
theorem dX1_breaksWithout_21 : decode cX1_breaksWithout 21 = .ok (.iload 4, 2) := by decide +kernel
theorem dX1_breaksWithout_23 : decode cX1_breaksWithout 23 = .ok (.ireturn, 1) := by decide +kernel
theorem dX1_anyTriangle_0 : decode cX1_anyTriangle 0 = .ok (.iconst 0, 1) := by decide +kernel
theorem dX1_anyTriangle_1 : decode cX1_anyTriangle 1 = .ok (.istore_n 1, 1) := by decide +kernel
theorem dX1_anyTriangle_2 : decode cX1_anyTriangle 2 = .ok (.iload_n 1, 1) := by decide +kernel
theorem dX1_anyTriangle_3 : decode cX1_anyTriangle 3 = .ok (.bipush 40, 2) := by decide +kernel
theorem dX1_anyTriangle_5 : decode cX1_anyTriangle 5 = .ok (.if_icmp .ge 74, 3) := by decide +kernel
theorem dX1_anyTriangle_8 : decode cX1_anyTriangle 8 = .ok (.iload_n 1, 1) := by decide +kernel
theorem dX1_anyTriangle_9 : decode cX1_anyTriangle 9 = .ok (.iconst 1, 1) := by decide +kernel
theorem dX1_anyTriangle_10 : decode cX1_anyTriangle 10 = .ok (.iadd, 1) := by decide +kernel
theorem dX1_anyTriangle_11 : decode cX1_anyTriangle 11 = .ok (.istore_n 2, 1) := by decide +kernel
theorem dX1_anyTriangle_12 : decode cX1_anyTriangle 12 = .ok (.iload_n 2, 1) := by decide +kernel
theorem dX1_anyTriangle_13 : decode cX1_anyTriangle 13 = .ok (.bipush 40, 2) := by decide +kernel
theorem dX1_anyTriangle_15 : decode cX1_anyTriangle 15 = .ok (.if_icmp .ge 58, 3) := by decide +kernel
theorem dX1_anyTriangle_18 : decode cX1_anyTriangle 18 = .ok (.aload_n 0, 1) := by decide +kernel
theorem dX1_anyTriangle_19 : decode cX1_anyTriangle 19 = .ok (.iload_n 1, 1) := by decide +kernel
theorem dX1_anyTriangle_20 : decode cX1_anyTriangle 20 = .ok (.laload, 1) := by decide +kernel
theorem dX1_anyTriangle_21 : decode cX1_anyTriangle 21 = .ok (.iload_n 2, 1) := by decide +kernel
theorem dX1_anyTriangle_22 : decode cX1_anyTriangle 22 = .ok (.invokestatic 36, 3) := by decide +kernel
theorem dX1_anyTriangle_25 : decode cX1_anyTriangle 25 = .ok (.ifCond .eq 18, 3) := by decide +kernel
theorem dX1_anyTriangle_28 : decode cX1_anyTriangle 28 = .ok (.aload_n 0, 1) := by decide +kernel
theorem dX1_anyTriangle_29 : decode cX1_anyTriangle 29 = .ok (.iload_n 1, 1) := by decide +kernel
theorem dX1_anyTriangle_30 : decode cX1_anyTriangle 30 = .ok (.laload, 1) := by decide +kernel
theorem dX1_anyTriangle_31 : decode cX1_anyTriangle 31 = .ok (.aload_n 0, 1) := by decide +kernel
theorem dX1_anyTriangle_32 : decode cX1_anyTriangle 32 = .ok (.iload_n 2, 1) := by decide +kernel
theorem dX1_anyTriangle_33 : decode cX1_anyTriangle 33 = .ok (.laload, 1) := by decide +kernel
theorem dX1_anyTriangle_34 : decode cX1_anyTriangle 34 = .ok (.land, 1) := by decide +kernel
theorem dX1_anyTriangle_35 : decode cX1_anyTriangle 35 = .ok (.iload_n 2, 1) := by decide +kernel
theorem dX1_anyTriangle_36 : decode cX1_anyTriangle 36 = .ok (.invokestatic 62, 3) := by decide +kernel
theorem dX1_anyTriangle_39 : decode cX1_anyTriangle 39 = .ok (.land, 1) := by decide +kernel
theorem dX1_anyTriangle_40 : decode cX1_anyTriangle 40 = .ok (.goto 4, 3) := by decide +kernel
theorem dX1_anyTriangle_43 : decode cX1_anyTriangle 43 = .ok (.lconst 0, 1) := by decide +kernel
theorem dX1_anyTriangle_44 : decode cX1_anyTriangle 44 = .ok (.lstore_n 3, 1) := by decide +kernel
theorem dX1_anyTriangle_45 : decode cX1_anyTriangle 45 = .ok (.lload_n 3, 1) := by decide +kernel
theorem dX1_anyTriangle_46 : decode cX1_anyTriangle 46 = .ok (.lconst 0, 1) := by decide +kernel
theorem dX1_anyTriangle_47 : decode cX1_anyTriangle 47 = .ok (.lcmp, 1) := by decide +kernel
theorem dX1_anyTriangle_48 : decode cX1_anyTriangle 48 = .ok (.ifCond .eq 19, 3) := by decide +kernel
theorem dX1_anyTriangle_51 : decode cX1_anyTriangle 51 = .ok (.iload_n 1, 1) := by decide +kernel
theorem dX1_anyTriangle_52 : decode cX1_anyTriangle 52 = .ok (.sipush 1600, 3) := by decide +kernel
theorem dX1_anyTriangle_55 : decode cX1_anyTriangle 55 = .ok (.imul, 1) := by decide +kernel
theorem dX1_anyTriangle_56 : decode cX1_anyTriangle 56 = .ok (.iload_n 2, 1) := by decide +kernel
theorem dX1_anyTriangle_57 : decode cX1_anyTriangle 57 = .ok (.bipush 40, 2) := by decide +kernel
theorem dX1_anyTriangle_59 : decode cX1_anyTriangle 59 = .ok (.imul, 1) := by decide +kernel
theorem dX1_anyTriangle_60 : decode cX1_anyTriangle 60 = .ok (.iadd, 1) := by decide +kernel
theorem dX1_anyTriangle_61 : decode cX1_anyTriangle 61 = .ok (.lload_n 3, 1) := by decide +kernel
theorem dX1_anyTriangle_62 : decode cX1_anyTriangle 62 = .ok (.invokestatic 66, 3) := by decide +kernel
theorem dX1_anyTriangle_65 : decode cX1_anyTriangle 65 = .ok (.iadd, 1) := by decide +kernel
theorem dX1_anyTriangle_66 : decode cX1_anyTriangle 66 = .ok (.ireturn, 1) := by decide +kernel
theorem dX1_anyTriangle_67 : decode cX1_anyTriangle 67 = .ok (.iinc 2 1, 3) := by decide +kernel
theorem dX1_anyTriangle_70 : decode cX1_anyTriangle 70 = .ok (.goto (-58), 3) := by decide +kernel
theorem dX1_anyTriangle_73 : decode cX1_anyTriangle 73 = .ok (.iinc 1 1, 3) := by decide +kernel
theorem dX1_anyTriangle_76 : decode cX1_anyTriangle 76 = .ok (.goto (-74), 3) := by decide +kernel
theorem dX1_anyTriangle_79 : decode cX1_anyTriangle 79 = .ok (.iconst (-1), 1) := by decide +kernel
theorem dX1_anyTriangle_80 : decode cX1_anyTriangle 80 = .ok (.ireturn, 1) := by decide +kernel
theorem dX1_flip_0 : decode cX1_flip 0 = .ok (.aload_n 0, 1) := by decide +kernel
theorem dX1_flip_1 : decode cX1_flip 1 = .ok (.iload_n 1, 1) := by decide +kernel
theorem dX1_flip_2 : decode cX1_flip 2 = .ok (.dup2, 1) := by decide +kernel
theorem dX1_flip_3 : decode cX1_flip 3 = .ok (.laload, 1) := by decide +kernel
theorem dX1_flip_4 : decode cX1_flip 4 = .ok (.lconst 1, 1) := by decide +kernel
theorem dX1_flip_5 : decode cX1_flip 5 = .ok (.iload_n 2, 1) := by decide +kernel
theorem dX1_flip_6 : decode cX1_flip 6 = .ok (.lshl, 1) := by decide +kernel
theorem dX1_flip_7 : decode cX1_flip 7 = .ok (.lxor, 1) := by decide +kernel
theorem dX1_flip_8 : decode cX1_flip 8 = .ok (.lastore, 1) := by decide +kernel
theorem dX1_flip_9 : decode cX1_flip 9 = .ok (.aload_n 0, 1) := by decide +kernel
theorem dX1_flip_10 : decode cX1_flip 10 = .ok (.iload_n 2, 1) := by decide +kernel
theorem dX1_flip_11 : decode cX1_flip 11 = .ok (.dup2, 1) := by decide +kernel
theorem dX1_flip_12 : decode cX1_flip 12 = .ok (.laload, 1) := by decide +kernel
theorem dX1_flip_13 : decode cX1_flip 13 = .ok (.lconst 1, 1) := by decide +kernel
theorem dX1_flip_14 : decode cX1_flip 14 = .ok (.iload_n 1, 1) := by decide +kernel
theorem dX1_flip_15 : decode cX1_flip 15 = .ok (.lshl, 1) := by decide +kernel
theorem dX1_flip_16 : decode cX1_flip 16 = .ok (.lxor, 1) := by decide +kernel
theorem dX1_flip_17 : decode cX1_flip 17 = .ok (.lastore, 1) := by decide +kernel
theorem dX1_flip_18 : decode cX1_flip 18 = .ok (.return_, 1) := by decide +kernel
theorem dX2_degree_0 : decode cX2_degree 0 = .ok (.aload_n 0, 1) := by decide +kernel
theorem dX2_degree_1 : decode cX2_degree 1 = .ok (.iload_n 1, 1) := by decide +kernel
theorem dX2_degree_2 : decode cX2_degree 2 = .ok (.laload, 1) := by decide +kernel
theorem dX2_degree_3 : decode cX2_degree 3 = .ok (.invokestatic 9, 3) := by decide +kernel
theorem dX2_degree_6 : decode cX2_degree 6 = .ok (.ireturn, 1) := by decide +kernel
theorem dX2_shared_0 : decode cX2_shared 0 = .ok (.aload_n 0, 1) := by decide +kernel
theorem dX2_shared_1 : decode cX2_shared 1 = .ok (.iload_n 1, 1) := by decide +kernel
theorem dX2_shared_2 : decode cX2_shared 2 = .ok (.laload, 1) := by decide +kernel
theorem dX2_shared_3 : decode cX2_shared 3 = .ok (.aload_n 0, 1) := by decide +kernel
theorem dX2_shared_4 : decode cX2_shared 4 = .ok (.iload_n 2, 1) := by decide +kernel
theorem dX2_shared_5 : decode cX2_shared 5 = .ok (.laload, 1) := by decide +kernel
theorem dX2_shared_6 : decode cX2_shared 6 = .ok (.land, 1) := by decide +kernel
theorem dX2_shared_7 : decode cX2_shared 7 = .ok (.invokestatic 9, 3) := by decide +kernel
theorem dX2_shared_10 : decode cX2_shared 10 = .ok (.ireturn, 1) := by decide +kernel
theorem dX2_trianglesAt_0 : decode cX2_trianglesAt 0 = .ok (.iconst 0, 1) := by decide +kernel
theorem dX2_trianglesAt_1 : decode cX2_trianglesAt 1 = .ok (.istore_n 2, 1) := by decide +kernel
theorem dX2_trianglesAt_2 : decode cX2_trianglesAt 2 = .ok (.iconst 0, 1) := by decide +kernel
theorem dX2_trianglesAt_3 : decode cX2_trianglesAt 3 = .ok (.istore_n 3, 1) := by decide +kernel
theorem dX2_trianglesAt_4 : decode cX2_trianglesAt 4 = .ok (.iload_n 3, 1) := by decide +kernel
theorem dX2_trianglesAt_5 : decode cX2_trianglesAt 5 = .ok (.bipush 40, 2) := by decide +kernel
theorem dX2_trianglesAt_7 : decode cX2_trianglesAt 7 = .ok (.if_icmp .ge 28, 3) := by decide +kernel
theorem dX2_trianglesAt_10 : decode cX2_trianglesAt 10 = .ok (.aload_n 0, 1) := by decide +kernel
theorem dX2_trianglesAt_11 : decode cX2_trianglesAt 11 = .ok (.iload_n 1, 1) := by decide +kernel
theorem dX2_trianglesAt_12 : decode cX2_trianglesAt 12 = .ok (.laload, 1) := by decide +kernel
theorem dX2_trianglesAt_13 : decode cX2_trianglesAt 13 = .ok (.iload_n 3, 1) := by decide +kernel
theorem dX2_trianglesAt_14 : decode cX2_trianglesAt 14 = .ok (.invokestatic 15, 3) := by decide +kernel
theorem dX2_trianglesAt_17 : decode cX2_trianglesAt 17 = .ok (.ifCond .eq 12, 3) := by decide +kernel
theorem dX2_trianglesAt_20 : decode cX2_trianglesAt 20 = .ok (.iload_n 2, 1) := by decide +kernel
theorem dX2_trianglesAt_21 : decode cX2_trianglesAt 21 = .ok (.aload_n 0, 1) := by decide +kernel
theorem dX2_trianglesAt_22 : decode cX2_trianglesAt 22 = .ok (.iload_n 1, 1) := by decide +kernel
theorem dX2_trianglesAt_23 : decode cX2_trianglesAt 23 = .ok (.iload_n 3, 1) := by decide +kernel
theorem dX2_trianglesAt_24 : decode cX2_trianglesAt 24 = .ok (.invokestatic 19, 3) := by decide +kernel
theorem dX2_trianglesAt_27 : decode cX2_trianglesAt 27 = .ok (.iadd, 1) := by decide +kernel
theorem dX2_trianglesAt_28 : decode cX2_trianglesAt 28 = .ok (.istore_n 2, 1) := by decide +kernel
theorem dX2_trianglesAt_29 : decode cX2_trianglesAt 29 = .ok (.iinc 3 1, 3) := by decide +kernel
theorem dX2_trianglesAt_32 : decode cX2_trianglesAt 32 = .ok (.goto (-28), 3) := by decide +kernel
theorem dX2_trianglesAt_35 : decode cX2_trianglesAt 35 = .ok (.iload_n 2, 1) := by decide +kernel
theorem dX2_trianglesAt_36 : decode cX2_trianglesAt 36 = .ok (.iconst 2, 1) := by decide +kernel
theorem dX2_trianglesAt_37 : decode cX2_trianglesAt 37 = .ok (.idiv, 1) := by decide +kernel
theorem dX2_trianglesAt_38 : decode cX2_trianglesAt 38 = .ok (.ireturn, 1) := by decide +kernel
theorem dX2_triangles_0 : decode cX2_triangles 0 = .ok (.iconst 0, 1) := by decide +kernel
theorem dX2_triangles_1 : decode cX2_triangles 1 = .ok (.istore_n 1, 1) := by decide +kernel
theorem dX2_triangles_2 : decode cX2_triangles 2 = .ok (.iconst 0, 1) := by decide +kernel
theorem dX2_triangles_3 : decode cX2_triangles 3 = .ok (.istore_n 2, 1) := by decide +kernel
theorem dX2_triangles_4 : decode cX2_triangles 4 = .ok (.iload_n 2, 1) := by decide +kernel
theorem dX2_triangles_5 : decode cX2_triangles 5 = .ok (.bipush 40, 2) := by decide +kernel
theorem dX2_triangles_7 : decode cX2_triangles 7 = .ok (.if_icmp .ge 17, 3) := by decide +kernel
theorem dX2_triangles_10 : decode cX2_triangles 10 = .ok (.iload_n 1, 1) := by decide +kernel
theorem dX2_triangles_11 : decode cX2_triangles 11 = .ok (.aload_n 0, 1) := by decide +kernel
theorem dX2_triangles_12 : decode cX2_triangles 12 = .ok (.iload_n 2, 1) := by decide +kernel
theorem dX2_triangles_13 : decode cX2_triangles 13 = .ok (.invokestatic 25, 3) := by decide +kernel
theorem dX2_triangles_16 : decode cX2_triangles 16 = .ok (.iadd, 1) := by decide +kernel
theorem dX2_triangles_17 : decode cX2_triangles 17 = .ok (.istore_n 1, 1) := by decide +kernel
theorem dX2_triangles_18 : decode cX2_triangles 18 = .ok (.iinc 2 1, 3) := by decide +kernel
theorem dX2_triangles_21 : decode cX2_triangles 21 = .ok (.goto (-17), 3) := by decide +kernel
theorem dX2_triangles_24 : decode cX2_triangles 24 = .ok (.iload_n 1, 1) := by decide +kernel
theorem dX2_triangles_25 : decode cX2_triangles 25 = .ok (.iconst 3, 1) := by decide +kernel
theorem dX2_triangles_26 : decode cX2_triangles 26 = .ok (.idiv, 1) := by decide +kernel
theorem dX2_triangles_27 : decode cX2_triangles 27 = .ok (.ireturn, 1) := by decide +kernel
theorem dX2_twosAt_0 : decode cX2_twosAt 0 = .ok (.aload_n 0, 1) := by decide +kernel
theorem dX2_twosAt_1 : decode cX2_twosAt 1 = .ok (.iload_n 1, 1) := by decide +kernel
theorem dX2_twosAt_2 : decode cX2_twosAt 2 = .ok (.invokestatic 29, 3) := by decide +kernel
theorem dX2_twosAt_5 : decode cX2_twosAt 5 = .ok (.istore_n 2, 1) := by decide +kernel
theorem dX2_twosAt_6 : decode cX2_twosAt 6 = .ok (.iload_n 2, 1) := by decide +kernel
theorem dX2_twosAt_7 : decode cX2_twosAt 7 = .ok (.iload_n 2, 1) := by decide +kernel
theorem dX2_twosAt_8 : decode cX2_twosAt 8 = .ok (.iconst 1, 1) := by decide +kernel
theorem dX2_twosAt_9 : decode cX2_twosAt 9 = .ok (.isub, 1) := by decide +kernel
theorem dX2_twosAt_10 : decode cX2_twosAt 10 = .ok (.imul, 1) := by decide +kernel
theorem dX2_twosAt_11 : decode cX2_twosAt 11 = .ok (.iconst 2, 1) := by decide +kernel
theorem dX2_twosAt_12 : decode cX2_twosAt 12 = .ok (.idiv, 1) := by decide +kernel
theorem dX2_twosAt_13 : decode cX2_twosAt 13 = .ok (.ireturn, 1) := by decide +kernel
theorem dX2_twos_0 : decode cX2_twos 0 = .ok (.iconst 0, 1) := by decide +kernel
theorem dX2_twos_1 : decode cX2_twos 1 = .ok (.istore_n 1, 1) := by decide +kernel
theorem dX2_twos_2 : decode cX2_twos 2 = .ok (.iconst 0, 1) := by decide +kernel
theorem dX2_twos_3 : decode cX2_twos 3 = .ok (.istore_n 2, 1) := by decide +kernel
theorem dX2_twos_4 : decode cX2_twos 4 = .ok (.iload_n 2, 1) := by decide +kernel
theorem dX2_twos_5 : decode cX2_twos 5 = .ok (.bipush 40, 2) := by decide +kernel
theorem dX2_twos_7 : decode cX2_twos 7 = .ok (.if_icmp .ge 17, 3) := by decide +kernel
theorem dX2_twos_10 : decode cX2_twos 10 = .ok (.iload_n 1, 1) := by decide +kernel
theorem dX2_twos_11 : decode cX2_twos 11 = .ok (.aload_n 0, 1) := by decide +kernel
theorem dX2_twos_12 : decode cX2_twos 12 = .ok (.iload_n 2, 1) := by decide +kernel
theorem dX2_twos_13 : decode cX2_twos 13 = .ok (.invokestatic 32, 3) := by decide +kernel
theorem dX2_twos_16 : decode cX2_twos 16 = .ok (.iadd, 1) := by decide +kernel
theorem dX2_twos_17 : decode cX2_twos 17 = .ok (.istore_n 1, 1) := by decide +kernel
theorem dX2_twos_18 : decode cX2_twos 18 = .ok (.iinc 2 1, 3) := by decide +kernel
theorem dX2_twos_21 : decode cX2_twos 21 = .ok (.goto (-17), 3) := by decide +kernel
theorem dX2_twos_24 : decode cX2_twos 24 = .ok (.iload_n 1, 1) := by decide +kernel
theorem dX2_twos_25 : decode cX2_twos 25 = .ok (.ireturn, 1) := by decide +kernel
theorem dX2_ringsAt_0 : decode cX2_ringsAt 0 = .ok (.iconst 0, 1) := by decide +kernel
theorem dX2_ringsAt_1 : decode cX2_ringsAt 1 = .ok (.istore_n 2, 1) := by decide +kernel
theorem dX2_ringsAt_2 : decode cX2_ringsAt 2 = .ok (.iconst 0, 1) := by decide +kernel
theorem dX2_ringsAt_3 : decode cX2_ringsAt 3 = .ok (.istore_n 3, 1) := by decide +kernel
theorem dX2_ringsAt_4 : decode cX2_ringsAt 4 = .ok (.iload_n 3, 1) := by decide +kernel
theorem dX2_ringsAt_5 : decode cX2_ringsAt 5 = .ok (.bipush 40, 2) := by decide +kernel
theorem dX2_ringsAt_7 : decode cX2_ringsAt 7 = .ok (.if_icmp .ge 34, 3) := by decide +kernel
theorem dX2_ringsAt_10 : decode cX2_ringsAt 10 = .ok (.iload_n 3, 1) := by decide +kernel
theorem dX2_ringsAt_11 : decode cX2_ringsAt 11 = .ok (.iload_n 1, 1) := by decide +kernel
theorem dX2_ringsAt_12 : decode cX2_ringsAt 12 = .ok (.if_icmp .eq 23, 3) := by decide +kernel
theorem dX2_ringsAt_15 : decode cX2_ringsAt 15 = .ok (.aload_n 0, 1) := by decide +kernel
theorem dX2_ringsAt_16 : decode cX2_ringsAt 16 = .ok (.iload_n 1, 1) := by decide +kernel
theorem dX2_ringsAt_17 : decode cX2_ringsAt 17 = .ok (.iload_n 3, 1) := by decide +kernel
theorem dX2_ringsAt_18 : decode cX2_ringsAt 18 = .ok (.invokestatic 19, 3) := by decide +kernel
theorem dX2_ringsAt_21 : decode cX2_ringsAt 21 = .ok (.istore 4, 2) := by decide +kernel
theorem dX2_ringsAt_23 : decode cX2_ringsAt 23 = .ok (.iload_n 2, 1) := by decide +kernel
theorem dX2_ringsAt_24 : decode cX2_ringsAt 24 = .ok (.iload 4, 2) := by decide +kernel
theorem dX2_ringsAt_26 : decode cX2_ringsAt 26 = .ok (.iload 4, 2) := by decide +kernel
theorem dX2_ringsAt_28 : decode cX2_ringsAt 28 = .ok (.iconst 1, 1) := by decide +kernel
theorem dX2_ringsAt_29 : decode cX2_ringsAt 29 = .ok (.isub, 1) := by decide +kernel
theorem dX2_ringsAt_30 : decode cX2_ringsAt 30 = .ok (.imul, 1) := by decide +kernel
theorem dX2_ringsAt_31 : decode cX2_ringsAt 31 = .ok (.iconst 2, 1) := by decide +kernel
theorem dX2_ringsAt_32 : decode cX2_ringsAt 32 = .ok (.idiv, 1) := by decide +kernel
theorem dX2_ringsAt_33 : decode cX2_ringsAt 33 = .ok (.iadd, 1) := by decide +kernel
theorem dX2_ringsAt_34 : decode cX2_ringsAt 34 = .ok (.istore_n 2, 1) := by decide +kernel
theorem dX2_ringsAt_35 : decode cX2_ringsAt 35 = .ok (.iinc 3 1, 3) := by decide +kernel
theorem dX2_ringsAt_38 : decode cX2_ringsAt 38 = .ok (.goto (-34), 3) := by decide +kernel
theorem dX2_ringsAt_41 : decode cX2_ringsAt 41 = .ok (.iload_n 2, 1) := by decide +kernel
theorem dX2_ringsAt_42 : decode cX2_ringsAt 42 = .ok (.ireturn, 1) := by decide +kernel
theorem dX2_rings_0 : decode cX2_rings 0 = .ok (.iconst 0, 1) := by decide +kernel
theorem dX2_rings_1 : decode cX2_rings 1 = .ok (.istore_n 1, 1) := by decide +kernel
theorem dX2_rings_2 : decode cX2_rings 2 = .ok (.iconst 0, 1) := by decide +kernel
theorem dX2_rings_3 : decode cX2_rings 3 = .ok (.istore_n 2, 1) := by decide +kernel
theorem dX2_rings_4 : decode cX2_rings 4 = .ok (.iload_n 2, 1) := by decide +kernel
theorem dX2_rings_5 : decode cX2_rings 5 = .ok (.bipush 40, 2) := by decide +kernel
theorem dX2_rings_7 : decode cX2_rings 7 = .ok (.if_icmp .ge 17, 3) := by decide +kernel
theorem dX2_rings_10 : decode cX2_rings 10 = .ok (.iload_n 1, 1) := by decide +kernel
theorem dX2_rings_11 : decode cX2_rings 11 = .ok (.aload_n 0, 1) := by decide +kernel
theorem dX2_rings_12 : decode cX2_rings 12 = .ok (.iload_n 2, 1) := by decide +kernel
theorem dX2_rings_13 : decode cX2_rings 13 = .ok (.invokestatic 35, 3) := by decide +kernel
theorem dX2_rings_16 : decode cX2_rings 16 = .ok (.iadd, 1) := by decide +kernel
theorem dX2_rings_17 : decode cX2_rings 17 = .ok (.istore_n 1, 1) := by decide +kernel
theorem dX2_rings_18 : decode cX2_rings 18 = .ok (.iinc 2 1, 3) := by decide +kernel
theorem dX2_rings_21 : decode cX2_rings 21 = .ok (.goto (-17), 3) := by decide +kernel
theorem dX2_rings_24 : decode cX2_rings 24 = .ok (.iload_n 1, 1) := by decide +kernel
theorem dX2_rings_25 : decode cX2_rings 25 = .ok (.iconst 4, 1) := by decide +kernel
theorem dX2_rings_26 : decode cX2_rings 26 = .ok (.idiv, 1) := by decide +kernel
theorem dX2_rings_27 : decode cX2_rings 27 = .ok (.ireturn, 1) := by decide +kernel
theorem dX2_foursOn_0 : decode cX2_foursOn 0 = .ok (.aload_n 0, 1) := by decide +kernel
theorem dX2_foursOn_1 : decode cX2_foursOn 1 = .ok (.iload_n 1, 1) := by decide +kernel
theorem dX2_foursOn_2 : decode cX2_foursOn 2 = .ok (.laload, 1) := by decide +kernel
theorem dX2_foursOn_3 : decode cX2_foursOn 3 = .ok (.aload_n 0, 1) := by decide +kernel
theorem dX2_foursOn_4 : decode cX2_foursOn 4 = .ok (.iload_n 2, 1) := by decide +kernel
theorem dX2_foursOn_5 : decode cX2_foursOn 5 = .ok (.laload, 1) := by decide +kernel
theorem dX2_foursOn_6 : decode cX2_foursOn 6 = .ok (.land, 1) := by decide +kernel
theorem dX2_foursOn_7 : decode cX2_foursOn 7 = .ok (.lstore_n 3, 1) := by decide +kernel
theorem dX2_foursOn_8 : decode cX2_foursOn 8 = .ok (.iconst 0, 1) := by decide +kernel
theorem dX2_foursOn_9 : decode cX2_foursOn 9 = .ok (.istore 5, 2) := by decide +kernel
theorem dX2_foursOn_11 : decode cX2_foursOn 11 = .ok (.iconst 0, 1) := by decide +kernel
theorem dX2_foursOn_12 : decode cX2_foursOn 12 = .ok (.istore 6, 2) := by decide +kernel
theorem dX2_foursOn_14 : decode cX2_foursOn 14 = .ok (.iload 6, 2) := by decide +kernel
theorem dX2_foursOn_16 : decode cX2_foursOn 16 = .ok (.bipush 40, 2) := by decide +kernel
theorem dX2_foursOn_18 : decode cX2_foursOn 18 = .ok (.if_icmp .ge 32, 3) := by decide +kernel
theorem dX2_foursOn_21 : decode cX2_foursOn 21 = .ok (.lload_n 3, 1) := by decide +kernel
theorem dX2_foursOn_22 : decode cX2_foursOn 22 = .ok (.iload 6, 2) := by decide +kernel
theorem dX2_foursOn_24 : decode cX2_foursOn 24 = .ok (.invokestatic 15, 3) := by decide +kernel
theorem dX2_foursOn_27 : decode cX2_foursOn 27 = .ok (.ifCond .eq 17, 3) := by decide +kernel
theorem dX2_foursOn_30 : decode cX2_foursOn 30 = .ok (.iload 5, 2) := by decide +kernel
theorem dX2_foursOn_32 : decode cX2_foursOn 32 = .ok (.lload_n 3, 1) := by decide +kernel
theorem dX2_foursOn_33 : decode cX2_foursOn 33 = .ok (.aload_n 0, 1) := by decide +kernel
theorem dX2_foursOn_34 : decode cX2_foursOn 34 = .ok (.iload 6, 2) := by decide +kernel
theorem dX2_foursOn_36 : decode cX2_foursOn 36 = .ok (.laload, 1) := by decide +kernel
theorem dX2_foursOn_37 : decode cX2_foursOn 37 = .ok (.land, 1) := by decide +kernel
theorem dX2_foursOn_38 : decode cX2_foursOn 38 = .ok (.invokestatic 9, 3) := by decide +kernel
theorem dX2_foursOn_41 : decode cX2_foursOn 41 = .ok (.iadd, 1) := by decide +kernel
theorem dX2_foursOn_42 : decode cX2_foursOn 42 = .ok (.istore 5, 2) := by decide +kernel
theorem dX2_foursOn_44 : decode cX2_foursOn 44 = .ok (.iinc 6 1, 3) := by decide +kernel
theorem dX2_foursOn_47 : decode cX2_foursOn 47 = .ok (.goto (-33), 3) := by decide +kernel
theorem dX2_foursOn_50 : decode cX2_foursOn 50 = .ok (.iload 5, 2) := by decide +kernel
theorem dX2_foursOn_52 : decode cX2_foursOn 52 = .ok (.iconst 2, 1) := by decide +kernel
theorem dX2_foursOn_53 : decode cX2_foursOn 53 = .ok (.idiv, 1) := by decide +kernel
theorem dX2_foursOn_54 : decode cX2_foursOn 54 = .ok (.ireturn, 1) := by decide +kernel
theorem dX2_foursAt_0 : decode cX2_foursAt 0 = .ok (.iconst 0, 1) := by decide +kernel
theorem dX2_foursAt_1 : decode cX2_foursAt 1 = .ok (.istore_n 2, 1) := by decide +kernel
theorem dX2_foursAt_2 : decode cX2_foursAt 2 = .ok (.iconst 0, 1) := by decide +kernel
theorem dX2_foursAt_3 : decode cX2_foursAt 3 = .ok (.istore_n 3, 1) := by decide +kernel
theorem dX2_foursAt_4 : decode cX2_foursAt 4 = .ok (.iload_n 3, 1) := by decide +kernel
theorem dX2_foursAt_5 : decode cX2_foursAt 5 = .ok (.bipush 40, 2) := by decide +kernel
theorem dX2_foursAt_7 : decode cX2_foursAt 7 = .ok (.if_icmp .ge 28, 3) := by decide +kernel
theorem dX2_foursAt_10 : decode cX2_foursAt 10 = .ok (.aload_n 0, 1) := by decide +kernel
theorem dX2_foursAt_11 : decode cX2_foursAt 11 = .ok (.iload_n 1, 1) := by decide +kernel
theorem dX2_foursAt_12 : decode cX2_foursAt 12 = .ok (.laload, 1) := by decide +kernel
theorem dX2_foursAt_13 : decode cX2_foursAt 13 = .ok (.iload_n 3, 1) := by decide +kernel
theorem dX2_foursAt_14 : decode cX2_foursAt 14 = .ok (.invokestatic 15, 3) := by decide +kernel
theorem dX2_foursAt_17 : decode cX2_foursAt 17 = .ok (.ifCond .eq 12, 3) := by decide +kernel
theorem dX2_foursAt_20 : decode cX2_foursAt 20 = .ok (.iload_n 2, 1) := by decide +kernel
theorem dX2_foursAt_21 : decode cX2_foursAt 21 = .ok (.aload_n 0, 1) := by decide +kernel
theorem dX2_foursAt_22 : decode cX2_foursAt 22 = .ok (.iload_n 1, 1) := by decide +kernel
theorem dX2_foursAt_23 : decode cX2_foursAt 23 = .ok (.iload_n 3, 1) := by decide +kernel
theorem dX2_foursAt_24 : decode cX2_foursAt 24 = .ok (.invokestatic 38, 3) := by decide +kernel
theorem dX2_foursAt_27 : decode cX2_foursAt 27 = .ok (.iadd, 1) := by decide +kernel
theorem dX2_foursAt_28 : decode cX2_foursAt 28 = .ok (.istore_n 2, 1) := by decide +kernel
theorem dX2_foursAt_29 : decode cX2_foursAt 29 = .ok (.iinc 3 1, 3) := by decide +kernel
theorem dX2_foursAt_32 : decode cX2_foursAt 32 = .ok (.goto (-28), 3) := by decide +kernel
theorem dX2_foursAt_35 : decode cX2_foursAt 35 = .ok (.iload_n 2, 1) := by decide +kernel
theorem dX2_foursAt_36 : decode cX2_foursAt 36 = .ok (.iconst 3, 1) := by decide +kernel
theorem dX2_foursAt_37 : decode cX2_foursAt 37 = .ok (.idiv, 1) := by decide +kernel
theorem dX2_foursAt_38 : decode cX2_foursAt 38 = .ok (.ireturn, 1) := by decide +kernel
theorem dX2_fours_0 : decode cX2_fours 0 = .ok (.iconst 0, 1) := by decide +kernel
theorem dX2_fours_1 : decode cX2_fours 1 = .ok (.istore_n 1, 1) := by decide +kernel
theorem dX2_fours_2 : decode cX2_fours 2 = .ok (.iconst 0, 1) := by decide +kernel
theorem dX2_fours_3 : decode cX2_fours 3 = .ok (.istore_n 2, 1) := by decide +kernel
theorem dX2_fours_4 : decode cX2_fours 4 = .ok (.iload_n 2, 1) := by decide +kernel
theorem dX2_fours_5 : decode cX2_fours 5 = .ok (.bipush 40, 2) := by decide +kernel
theorem dX2_fours_7 : decode cX2_fours 7 = .ok (.if_icmp .ge 17, 3) := by decide +kernel
theorem dX2_fours_10 : decode cX2_fours 10 = .ok (.iload_n 1, 1) := by decide +kernel
theorem dX2_fours_11 : decode cX2_fours 11 = .ok (.aload_n 0, 1) := by decide +kernel
theorem dX2_fours_12 : decode cX2_fours 12 = .ok (.iload_n 2, 1) := by decide +kernel
theorem dX2_fours_13 : decode cX2_fours 13 = .ok (.invokestatic 41, 3) := by decide +kernel
theorem dX2_fours_16 : decode cX2_fours 16 = .ok (.iadd, 1) := by decide +kernel
theorem dX2_fours_17 : decode cX2_fours 17 = .ok (.istore_n 1, 1) := by decide +kernel
theorem dX2_fours_18 : decode cX2_fours 18 = .ok (.iinc 2 1, 3) := by decide +kernel
theorem dX2_fours_21 : decode cX2_fours 21 = .ok (.goto (-17), 3) := by decide +kernel
theorem dX2_fours_24 : decode cX2_fours 24 = .ok (.iload_n 1, 1) := by decide +kernel
theorem dX2_fours_25 : decode cX2_fours 25 = .ok (.iconst 4, 1) := by decide +kernel
theorem dX2_fours_26 : decode cX2_fours 26 = .ok (.idiv, 1) := by decide +kernel
theorem dX2_fours_27 : decode cX2_fours 27 = .ok (.ireturn, 1) := by decide +kernel
theorem dX2_waysByThree_0 : decode cX2_waysByThree 0 = .ok (.aload_n 0, 1) := by decide +kernel
theorem dX2_waysByThree_1 : decode cX2_waysByThree 1 = .ok (.iload_n 1, 1) := by decide +kernel
theorem dX2_waysByThree_2 : decode cX2_waysByThree 2 = .ok (.laload, 1) := by decide +kernel
theorem dX2_waysByThree_3 : decode cX2_waysByThree 3 = .ok (.lconst 1, 1) := by decide +kernel
theorem dX2_waysByThree_4 : decode cX2_waysByThree 4 = .ok (.iload_n 2, 1) := by decide +kernel
theorem dX2_waysByThree_5 : decode cX2_waysByThree 5 = .ok (.lshl, 1) := by decide +kernel
theorem dX2_waysByThree_6 : decode cX2_waysByThree 6 = .ok (.ldc2_w 44, 3) := by decide +kernel
theorem dX2_waysByThree_9 : decode cX2_waysByThree 9 = .ok (.lxor, 1) := by decide +kernel
theorem dX2_waysByThree_10 : decode cX2_waysByThree 10 = .ok (.land, 1) := by decide +kernel
theorem dX2_waysByThree_11 : decode cX2_waysByThree 11 = .ok (.lstore_n 3, 1) := by decide +kernel
theorem dX2_waysByThree_12 : decode cX2_waysByThree 12 = .ok (.aload_n 0, 1) := by decide +kernel
theorem dX2_waysByThree_13 : decode cX2_waysByThree 13 = .ok (.iload_n 2, 1) := by decide +kernel
theorem dX2_waysByThree_14 : decode cX2_waysByThree 14 = .ok (.laload, 1) := by decide +kernel
theorem dX2_waysByThree_15 : decode cX2_waysByThree 15 = .ok (.lconst 1, 1) := by decide +kernel
theorem dX2_waysByThree_16 : decode cX2_waysByThree 16 = .ok (.iload_n 1, 1) := by decide +kernel
theorem dX2_waysByThree_17 : decode cX2_waysByThree 17 = .ok (.lshl, 1) := by decide +kernel
theorem dX2_waysByThree_18 : decode cX2_waysByThree 18 = .ok (.ldc2_w 44, 3) := by decide +kernel
theorem dX2_waysByThree_21 : decode cX2_waysByThree 21 = .ok (.lxor, 1) := by decide +kernel
theorem dX2_waysByThree_22 : decode cX2_waysByThree 22 = .ok (.land, 1) := by decide +kernel
theorem dX2_waysByThree_23 : decode cX2_waysByThree 23 = .ok (.lstore 5, 2) := by decide +kernel
theorem dX2_waysByThree_25 : decode cX2_waysByThree 25 = .ok (.iconst 0, 1) := by decide +kernel
theorem dX2_waysByThree_26 : decode cX2_waysByThree 26 = .ok (.istore 7, 2) := by decide +kernel
theorem dX2_waysByThree_28 : decode cX2_waysByThree 28 = .ok (.iconst 0, 1) := by decide +kernel
theorem dX2_waysByThree_29 : decode cX2_waysByThree 29 = .ok (.istore 8, 2) := by decide +kernel
theorem dX2_waysByThree_31 : decode cX2_waysByThree 31 = .ok (.iload 8, 2) := by decide +kernel
theorem dX2_waysByThree_33 : decode cX2_waysByThree 33 = .ok (.bipush 40, 2) := by decide +kernel
theorem dX2_waysByThree_35 : decode cX2_waysByThree 35 = .ok (.if_icmp .ge 33, 3) := by decide +kernel
theorem dX2_waysByThree_38 : decode cX2_waysByThree 38 = .ok (.lload_n 3, 1) := by decide +kernel
theorem dX2_waysByThree_39 : decode cX2_waysByThree 39 = .ok (.iload 8, 2) := by decide +kernel
theorem dX2_waysByThree_41 : decode cX2_waysByThree 41 = .ok (.invokestatic 15, 3) := by decide +kernel
theorem dX2_waysByThree_44 : decode cX2_waysByThree 44 = .ok (.ifCond .eq 18, 3) := by decide +kernel
theorem dX2_waysByThree_47 : decode cX2_waysByThree 47 = .ok (.iload 7, 2) := by decide +kernel
theorem dX2_waysByThree_49 : decode cX2_waysByThree 49 = .ok (.aload_n 0, 1) := by decide +kernel
theorem dX2_waysByThree_50 : decode cX2_waysByThree 50 = .ok (.iload 8, 2) := by decide +kernel
theorem dX2_waysByThree_52 : decode cX2_waysByThree 52 = .ok (.laload, 1) := by decide +kernel
theorem dX2_waysByThree_53 : decode cX2_waysByThree 53 = .ok (.lload 5, 2) := by decide +kernel
theorem dX2_waysByThree_55 : decode cX2_waysByThree 55 = .ok (.land, 1) := by decide +kernel
theorem dX2_waysByThree_56 : decode cX2_waysByThree 56 = .ok (.invokestatic 9, 3) := by decide +kernel
theorem dX2_waysByThree_59 : decode cX2_waysByThree 59 = .ok (.iadd, 1) := by decide +kernel
theorem dX2_waysByThree_60 : decode cX2_waysByThree 60 = .ok (.istore 7, 2) := by decide +kernel
theorem dX2_waysByThree_62 : decode cX2_waysByThree 62 = .ok (.iinc 8 1, 3) := by decide +kernel
theorem dX2_waysByThree_65 : decode cX2_waysByThree 65 = .ok (.goto (-34), 3) := by decide +kernel
theorem dX2_waysByThree_68 : decode cX2_waysByThree 68 = .ok (.iload 7, 2) := by decide +kernel
theorem dX2_waysByThree_70 : decode cX2_waysByThree 70 = .ok (.ireturn, 1) := by decide +kernel
theorem dX2_far_0 : decode cX2_far 0 = .ok (.lconst 1, 1) := by decide +kernel
theorem dX2_far_1 : decode cX2_far 1 = .ok (.iload_n 1, 1) := by decide +kernel
theorem dX2_far_2 : decode cX2_far 2 = .ok (.lshl, 1) := by decide +kernel
theorem dX2_far_3 : decode cX2_far 3 = .ok (.lstore_n 3, 1) := by decide +kernel
theorem dX2_far_4 : decode cX2_far 4 = .ok (.iconst 1, 1) := by decide +kernel
theorem dX2_far_5 : decode cX2_far 5 = .ok (.istore 5, 2) := by decide +kernel
theorem dX2_far_7 : decode cX2_far 7 = .ok (.iload 5, 2) := by decide +kernel
theorem dX2_far_9 : decode cX2_far 9 = .ok (.bipush 40, 2) := by decide +kernel
theorem dX2_far_11 : decode cX2_far 11 = .ok (.if_icmp .ge 28, 3) := by decide +kernel
theorem dX2_far_14 : decode cX2_far 14 = .ok (.lload_n 3, 1) := by decide +kernel
theorem dX2_far_15 : decode cX2_far 15 = .ok (.aload_n 0, 1) := by decide +kernel
theorem dX2_far_16 : decode cX2_far 16 = .ok (.lload_n 3, 1) := by decide +kernel
theorem dX2_far_17 : decode cX2_far 17 = .ok (.invokestatic 46, 3) := by decide +kernel
theorem dX2_far_20 : decode cX2_far 20 = .ok (.lor, 1) := by decide +kernel
theorem dX2_far_21 : decode cX2_far 21 = .ok (.lstore_n 3, 1) := by decide +kernel
theorem dX2_far_22 : decode cX2_far 22 = .ok (.lload_n 3, 1) := by decide +kernel
theorem dX2_far_23 : decode cX2_far 23 = .ok (.iload_n 2, 1) := by decide +kernel
theorem dX2_far_24 : decode cX2_far 24 = .ok (.invokestatic 15, 3) := by decide +kernel
theorem dX2_far_27 : decode cX2_far 27 = .ok (.ifCond .eq 6, 3) := by decide +kernel
theorem dX2_far_30 : decode cX2_far 30 = .ok (.iload 5, 2) := by decide +kernel
theorem dX2_far_32 : decode cX2_far 32 = .ok (.ireturn, 1) := by decide +kernel
theorem dX2_far_33 : decode cX2_far 33 = .ok (.iinc 5 1, 3) := by decide +kernel
theorem dX2_far_36 : decode cX2_far 36 = .ok (.goto (-29), 3) := by decide +kernel
theorem dX2_far_39 : decode cX2_far 39 = .ok (.bipush (-5), 2) := by decide +kernel
theorem dX2_far_41 : decode cX2_far 41 = .ok (.ireturn, 1) := by decide +kernel
theorem dX2_nearAny_0 : decode cX2_nearAny 0 = .ok (.lconst 0, 1) := by decide +kernel
theorem dX2_nearAny_1 : decode cX2_nearAny 1 = .ok (.lstore_n 3, 1) := by decide +kernel
theorem dX2_nearAny_2 : decode cX2_nearAny 2 = .ok (.iconst 0, 1) := by decide +kernel
theorem dX2_nearAny_3 : decode cX2_nearAny 3 = .ok (.istore 5, 2) := by decide +kernel
theorem dX2_nearAny_5 : decode cX2_nearAny 5 = .ok (.iload 5, 2) := by decide +kernel
theorem dX2_nearAny_7 : decode cX2_nearAny 7 = .ok (.bipush 40, 2) := by decide +kernel
theorem dX2_nearAny_9 : decode cX2_nearAny 9 = .ok (.if_icmp .ge 27, 3) := by decide +kernel
theorem dX2_nearAny_12 : decode cX2_nearAny 12 = .ok (.aload_n 0, 1) := by decide +kernel
theorem dX2_nearAny_13 : decode cX2_nearAny 13 = .ok (.iload 5, 2) := by decide +kernel
theorem dX2_nearAny_15 : decode cX2_nearAny 15 = .ok (.laload, 1) := by decide +kernel
theorem dX2_nearAny_16 : decode cX2_nearAny 16 = .ok (.lload_n 1, 1) := by decide +kernel
theorem dX2_nearAny_17 : decode cX2_nearAny 17 = .ok (.land, 1) := by decide +kernel
theorem dX2_nearAny_18 : decode cX2_nearAny 18 = .ok (.lconst 0, 1) := by decide +kernel
theorem dX2_nearAny_19 : decode cX2_nearAny 19 = .ok (.lcmp, 1) := by decide +kernel
theorem dX2_nearAny_20 : decode cX2_nearAny 20 = .ok (.ifCond .eq 10, 3) := by decide +kernel
theorem dX2_nearAny_23 : decode cX2_nearAny 23 = .ok (.lload_n 3, 1) := by decide +kernel
theorem dX2_nearAny_24 : decode cX2_nearAny 24 = .ok (.lconst 1, 1) := by decide +kernel
theorem dX2_nearAny_25 : decode cX2_nearAny 25 = .ok (.iload 5, 2) := by decide +kernel
theorem dX2_nearAny_27 : decode cX2_nearAny 27 = .ok (.lshl, 1) := by decide +kernel
theorem dX2_nearAny_28 : decode cX2_nearAny 28 = .ok (.lor, 1) := by decide +kernel
theorem dX2_nearAny_29 : decode cX2_nearAny 29 = .ok (.lstore_n 3, 1) := by decide +kernel
theorem dX2_nearAny_30 : decode cX2_nearAny 30 = .ok (.iinc 5 1, 3) := by decide +kernel
theorem dX2_nearAny_33 : decode cX2_nearAny 33 = .ok (.goto (-28), 3) := by decide +kernel
theorem dX2_nearAny_36 : decode cX2_nearAny 36 = .ok (.lload_n 3, 1) := by decide +kernel
theorem dX2_nearAny_37 : decode cX2_nearAny 37 = .ok (.lreturn, 1) := by decide +kernel
theorem dX2_nearOnly_0 : decode cX2_nearOnly 0 = .ok (.lconst 0, 1) := by decide +kernel
theorem dX2_nearOnly_1 : decode cX2_nearOnly 1 = .ok (.lstore_n 3, 1) := by decide +kernel
theorem dX2_nearOnly_2 : decode cX2_nearOnly 2 = .ok (.iconst 0, 1) := by decide +kernel
theorem dX2_nearOnly_3 : decode cX2_nearOnly 3 = .ok (.istore 5, 2) := by decide +kernel
theorem dX2_nearOnly_5 : decode cX2_nearOnly 5 = .ok (.iload 5, 2) := by decide +kernel
theorem dX2_nearOnly_7 : decode cX2_nearOnly 7 = .ok (.bipush 40, 2) := by decide +kernel
theorem dX2_nearOnly_9 : decode cX2_nearOnly 9 = .ok (.if_icmp .ge 31, 3) := by decide +kernel
theorem dX2_nearOnly_12 : decode cX2_nearOnly 12 = .ok (.aload_n 0, 1) := by decide +kernel
theorem dX2_nearOnly_13 : decode cX2_nearOnly 13 = .ok (.iload 5, 2) := by decide +kernel
theorem dX2_nearOnly_15 : decode cX2_nearOnly 15 = .ok (.laload, 1) := by decide +kernel
theorem dX2_nearOnly_16 : decode cX2_nearOnly 16 = .ok (.lload_n 1, 1) := by decide +kernel
theorem dX2_nearOnly_17 : decode cX2_nearOnly 17 = .ok (.ldc2_w 44, 3) := by decide +kernel
theorem dX2_nearOnly_20 : decode cX2_nearOnly 20 = .ok (.lxor, 1) := by decide +kernel
theorem dX2_nearOnly_21 : decode cX2_nearOnly 21 = .ok (.land, 1) := by decide +kernel
theorem dX2_nearOnly_22 : decode cX2_nearOnly 22 = .ok (.lconst 0, 1) := by decide +kernel
theorem dX2_nearOnly_23 : decode cX2_nearOnly 23 = .ok (.lcmp, 1) := by decide +kernel
theorem dX2_nearOnly_24 : decode cX2_nearOnly 24 = .ok (.ifCond .ne 10, 3) := by decide +kernel
theorem dX2_nearOnly_27 : decode cX2_nearOnly 27 = .ok (.lload_n 3, 1) := by decide +kernel
theorem dX2_nearOnly_28 : decode cX2_nearOnly 28 = .ok (.lconst 1, 1) := by decide +kernel
theorem dX2_nearOnly_29 : decode cX2_nearOnly 29 = .ok (.iload 5, 2) := by decide +kernel
theorem dX2_nearOnly_31 : decode cX2_nearOnly 31 = .ok (.lshl, 1) := by decide +kernel
theorem dX2_nearOnly_32 : decode cX2_nearOnly 32 = .ok (.lor, 1) := by decide +kernel
theorem dX2_nearOnly_33 : decode cX2_nearOnly 33 = .ok (.lstore_n 3, 1) := by decide +kernel
theorem dX2_nearOnly_34 : decode cX2_nearOnly 34 = .ok (.iinc 5 1, 3) := by decide +kernel
theorem dX2_nearOnly_37 : decode cX2_nearOnly 37 = .ok (.goto (-32), 3) := by decide +kernel
theorem dX2_nearOnly_40 : decode cX2_nearOnly 40 = .ok (.lload_n 3, 1) := by decide +kernel
theorem dX2_nearOnly_41 : decode cX2_nearOnly 41 = .ok (.lreturn, 1) := by decide +kernel
theorem dX2_coreWithin_0 : decode cX2_coreWithin 0 = .ok (.lload_n 1, 1) := by decide +kernel
theorem dX2_coreWithin_1 : decode cX2_coreWithin 1 = .ok (.lstore 4, 2) := by decide +kernel
theorem dX2_coreWithin_3 : decode cX2_coreWithin 3 = .ok (.iconst 0, 1) := by decide +kernel
theorem dX2_coreWithin_4 : decode cX2_coreWithin 4 = .ok (.istore 6, 2) := by decide +kernel
theorem dX2_coreWithin_6 : decode cX2_coreWithin 6 = .ok (.iload 6, 2) := by decide +kernel
theorem dX2_coreWithin_8 : decode cX2_coreWithin 8 = .ok (.bipush 40, 2) := by decide +kernel
theorem dX2_coreWithin_10 : decode cX2_coreWithin 10 = .ok (.if_icmp .gt 76, 3) := by decide +kernel
theorem dX2_coreWithin_13 : decode cX2_coreWithin 13 = .ok (.lconst 0, 1) := by decide +kernel
theorem dX2_coreWithin_14 : decode cX2_coreWithin 14 = .ok (.lstore 7, 2) := by decide +kernel
theorem dX2_coreWithin_16 : decode cX2_coreWithin 16 = .ok (.iconst 0, 1) := by decide +kernel
theorem dX2_coreWithin_17 : decode cX2_coreWithin 17 = .ok (.istore 9, 2) := by decide +kernel
theorem dX2_coreWithin_19 : decode cX2_coreWithin 19 = .ok (.iload 9, 2) := by decide +kernel
theorem dX2_coreWithin_21 : decode cX2_coreWithin 21 = .ok (.bipush 40, 2) := by decide +kernel
theorem dX2_coreWithin_23 : decode cX2_coreWithin 23 = .ok (.if_icmp .ge 42, 3) := by decide +kernel
theorem dX2_coreWithin_26 : decode cX2_coreWithin 26 = .ok (.lload 4, 2) := by decide +kernel
theorem dX2_coreWithin_28 : decode cX2_coreWithin 28 = .ok (.iload 9, 2) := by decide +kernel
theorem dX2_coreWithin_30 : decode cX2_coreWithin 30 = .ok (.invokestatic 15, 3) := by decide +kernel
theorem dX2_coreWithin_33 : decode cX2_coreWithin 33 = .ok (.ifCond .eq 26, 3) := by decide +kernel
theorem dX2_coreWithin_36 : decode cX2_coreWithin 36 = .ok (.aload_n 0, 1) := by decide +kernel
theorem dX2_coreWithin_37 : decode cX2_coreWithin 37 = .ok (.iload 9, 2) := by decide +kernel
theorem dX2_coreWithin_39 : decode cX2_coreWithin 39 = .ok (.laload, 1) := by decide +kernel
theorem dX2_coreWithin_40 : decode cX2_coreWithin 40 = .ok (.lload 4, 2) := by decide +kernel
theorem dX2_coreWithin_42 : decode cX2_coreWithin 42 = .ok (.land, 1) := by decide +kernel
theorem dX2_coreWithin_43 : decode cX2_coreWithin 43 = .ok (.invokestatic 9, 3) := by decide +kernel
theorem dX2_coreWithin_46 : decode cX2_coreWithin 46 = .ok (.iload_n 3, 1) := by decide +kernel
theorem dX2_coreWithin_47 : decode cX2_coreWithin 47 = .ok (.if_icmp .lt 12, 3) := by decide +kernel
theorem dX2_coreWithin_50 : decode cX2_coreWithin 50 = .ok (.lload 7, 2) := by decide +kernel
theorem dX2_coreWithin_52 : decode cX2_coreWithin 52 = .ok (.lconst 1, 1) := by decide +kernel
theorem dX2_coreWithin_53 : decode cX2_coreWithin 53 = .ok (.iload 9, 2) := by decide +kernel
theorem dX2_coreWithin_55 : decode cX2_coreWithin 55 = .ok (.lshl, 1) := by decide +kernel
theorem dX2_coreWithin_56 : decode cX2_coreWithin 56 = .ok (.lor, 1) := by decide +kernel
theorem dX2_coreWithin_57 : decode cX2_coreWithin 57 = .ok (.lstore 7, 2) := by decide +kernel
theorem dX2_coreWithin_59 : decode cX2_coreWithin 59 = .ok (.iinc 9 1, 3) := by decide +kernel
theorem dX2_coreWithin_62 : decode cX2_coreWithin 62 = .ok (.goto (-43), 3) := by decide +kernel
theorem dX2_coreWithin_65 : decode cX2_coreWithin 65 = .ok (.lload 7, 2) := by decide +kernel
theorem dX2_coreWithin_67 : decode cX2_coreWithin 67 = .ok (.lload 4, 2) := by decide +kernel
theorem dX2_coreWithin_69 : decode cX2_coreWithin 69 = .ok (.lcmp, 1) := by decide +kernel
theorem dX2_coreWithin_70 : decode cX2_coreWithin 70 = .ok (.ifCond .ne 6, 3) := by decide +kernel
theorem dX2_coreWithin_73 : decode cX2_coreWithin 73 = .ok (.goto 13, 3) := by decide +kernel
theorem dX2_coreWithin_76 : decode cX2_coreWithin 76 = .ok (.lload 7, 2) := by decide +kernel
theorem dX2_coreWithin_78 : decode cX2_coreWithin 78 = .ok (.lstore 4, 2) := by decide +kernel
theorem dX2_coreWithin_80 : decode cX2_coreWithin 80 = .ok (.iinc 6 1, 3) := by decide +kernel
theorem dX2_coreWithin_83 : decode cX2_coreWithin 83 = .ok (.goto (-77), 3) := by decide +kernel
theorem dX2_coreWithin_86 : decode cX2_coreWithin 86 = .ok (.lload 4, 2) := by decide +kernel
theorem dX2_coreWithin_88 : decode cX2_coreWithin 88 = .ok (.lreturn, 1) := by decide +kernel
theorem dX2_layCores_0 : decode cX2_layCores 0 = .ok (.aload_n 1, 1) := by decide +kernel
theorem dX2_layCores_1 : decode cX2_layCores 1 = .ok (.iconst 0, 1) := by decide +kernel
theorem dX2_layCores_2 : decode cX2_layCores 2 = .ok (.invokestatic 50, 3) := by decide +kernel
theorem dX2_layCores_5 : decode cX2_layCores 5 = .ok (.ldc2_w 56, 3) := by decide +kernel
theorem dX2_layCores_8 : decode cX2_layCores 8 = .ok (.lstore_n 2, 1) := by decide +kernel
theorem dX2_layCores_9 : decode cX2_layCores 9 = .ok (.iconst 1, 1) := by decide +kernel
theorem dX2_layCores_10 : decode cX2_layCores 10 = .ok (.istore 4, 2) := by decide +kernel
theorem dX2_layCores_12 : decode cX2_layCores 12 = .ok (.iload 4, 2) := by decide +kernel
theorem dX2_layCores_14 : decode cX2_layCores 14 = .ok (.bipush 40, 2) := by decide +kernel
theorem dX2_layCores_16 : decode cX2_layCores 16 = .ok (.if_icmp .ge 54, 3) := by decide +kernel
theorem dX2_layCores_19 : decode cX2_layCores 19 = .ok (.lload_n 2, 1) := by decide +kernel
theorem dX2_layCores_20 : decode cX2_layCores 20 = .ok (.lconst 0, 1) := by decide +kernel
theorem dX2_layCores_21 : decode cX2_layCores 21 = .ok (.lcmp, 1) := by decide +kernel
theorem dX2_layCores_22 : decode cX2_layCores 22 = .ok (.ifCond .eq 48, 3) := by decide +kernel
theorem dX2_layCores_25 : decode cX2_layCores 25 = .ok (.aload_n 0, 1) := by decide +kernel
theorem dX2_layCores_26 : decode cX2_layCores 26 = .ok (.lload_n 2, 1) := by decide +kernel
theorem dX2_layCores_27 : decode cX2_layCores 27 = .ok (.iload 4, 2) := by decide +kernel
theorem dX2_layCores_29 : decode cX2_layCores 29 = .ok (.invokestatic 58, 3) := by decide +kernel
theorem dX2_layCores_32 : decode cX2_layCores 32 = .ok (.lstore_n 2, 1) := by decide +kernel
theorem dX2_layCores_33 : decode cX2_layCores 33 = .ok (.iconst 0, 1) := by decide +kernel
theorem dX2_layCores_34 : decode cX2_layCores 34 = .ok (.istore 5, 2) := by decide +kernel
theorem dX2_layCores_36 : decode cX2_layCores 36 = .ok (.iload 5, 2) := by decide +kernel
theorem dX2_layCores_38 : decode cX2_layCores 38 = .ok (.bipush 40, 2) := by decide +kernel
theorem dX2_layCores_40 : decode cX2_layCores 40 = .ok (.if_icmp .ge 24, 3) := by decide +kernel
theorem dX2_layCores_43 : decode cX2_layCores 43 = .ok (.lload_n 2, 1) := by decide +kernel
theorem dX2_layCores_44 : decode cX2_layCores 44 = .ok (.iload 5, 2) := by decide +kernel
theorem dX2_layCores_46 : decode cX2_layCores 46 = .ok (.invokestatic 15, 3) := by decide +kernel
theorem dX2_layCores_49 : decode cX2_layCores 49 = .ok (.ifCond .eq 9, 3) := by decide +kernel
theorem dX2_layCores_52 : decode cX2_layCores 52 = .ok (.aload_n 1, 1) := by decide +kernel
theorem dX2_layCores_53 : decode cX2_layCores 53 = .ok (.iload 5, 2) := by decide +kernel
theorem dX2_layCores_55 : decode cX2_layCores 55 = .ok (.iload 4, 2) := by decide +kernel
theorem dX2_layCores_57 : decode cX2_layCores 57 = .ok (.iastore, 1) := by decide +kernel
theorem dX2_layCores_58 : decode cX2_layCores 58 = .ok (.iinc 5 1, 3) := by decide +kernel
theorem dX2_layCores_61 : decode cX2_layCores 61 = .ok (.goto (-25), 3) := by decide +kernel
theorem dX2_layCores_64 : decode cX2_layCores 64 = .ok (.iinc 4 1, 3) := by decide +kernel
theorem dX2_layCores_67 : decode cX2_layCores 67 = .ok (.goto (-55), 3) := by decide +kernel
theorem dX2_layCores_70 : decode cX2_layCores 70 = .ok (.return_, 1) := by decide +kernel
theorem dX2_layFigures_0 : decode cX2_layFigures 0 = .ok (.iload_n 1, 1) := by decide +kernel
theorem dX2_layFigures_1 : decode cX2_layFigures 1 = .ok (.iconst 2, 1) := by decide +kernel
theorem dX2_layFigures_2 : decode cX2_layFigures 2 = .ok (.if_icmp .ne 9, 3) := by decide +kernel
theorem dX2_layFigures_5 : decode cX2_layFigures 5 = .ok (.aload_n 0, 1) := by decide +kernel
theorem dX2_layFigures_6 : decode cX2_layFigures 6 = .ok (.aload_n 2, 1) := by decide +kernel
theorem dX2_layFigures_7 : decode cX2_layFigures 7 = .ok (.invokestatic 62, 3) := by decide +kernel
theorem dX2_layFigures_10 : decode cX2_layFigures 10 = .ok (.return_, 1) := by decide +kernel
theorem dX2_layFigures_11 : decode cX2_layFigures 11 = .ok (.iconst 0, 1) := by decide +kernel
theorem dX2_layFigures_12 : decode cX2_layFigures 12 = .ok (.istore_n 3, 1) := by decide +kernel
theorem dX2_layFigures_13 : decode cX2_layFigures 13 = .ok (.iload_n 3, 1) := by decide +kernel
theorem dX2_layFigures_14 : decode cX2_layFigures 14 = .ok (.bipush 40, 2) := by decide +kernel
theorem dX2_layFigures_16 : decode cX2_layFigures 16 = .ok (.if_icmp .ge 45, 3) := by decide +kernel
theorem dX2_layFigures_19 : decode cX2_layFigures 19 = .ok (.iload_n 1, 1) := by decide +kernel
theorem dX2_layFigures_20 : decode cX2_layFigures 20 = .ok (.ifCond .ne 14, 3) := by decide +kernel
theorem dX2_layFigures_23 : decode cX2_layFigures 23 = .ok (.aload_n 2, 1) := by decide +kernel
theorem dX2_layFigures_24 : decode cX2_layFigures 24 = .ok (.iload_n 3, 1) := by decide +kernel
theorem dX2_layFigures_25 : decode cX2_layFigures 25 = .ok (.aload_n 0, 1) := by decide +kernel
theorem dX2_layFigures_26 : decode cX2_layFigures 26 = .ok (.iload_n 3, 1) := by decide +kernel
theorem dX2_layFigures_27 : decode cX2_layFigures 27 = .ok (.invokestatic 29, 3) := by decide +kernel
theorem dX2_layFigures_30 : decode cX2_layFigures 30 = .ok (.iastore, 1) := by decide +kernel
theorem dX2_layFigures_31 : decode cX2_layFigures 31 = .ok (.goto 24, 3) := by decide +kernel
theorem dX2_layFigures_34 : decode cX2_layFigures 34 = .ok (.aload_n 2, 1) := by decide +kernel
theorem dX2_layFigures_35 : decode cX2_layFigures 35 = .ok (.iload_n 3, 1) := by decide +kernel
theorem dX2_layFigures_36 : decode cX2_layFigures 36 = .ok (.iload_n 1, 1) := by decide +kernel
theorem dX2_layFigures_37 : decode cX2_layFigures 37 = .ok (.iconst 1, 1) := by decide +kernel
theorem dX2_layFigures_38 : decode cX2_layFigures 38 = .ok (.if_icmp .ne 11, 3) := by decide +kernel
theorem dX2_layFigures_41 : decode cX2_layFigures 41 = .ok (.aload_n 0, 1) := by decide +kernel
theorem dX2_layFigures_42 : decode cX2_layFigures 42 = .ok (.iload_n 3, 1) := by decide +kernel
theorem dX2_layFigures_43 : decode cX2_layFigures 43 = .ok (.invokestatic 25, 3) := by decide +kernel
theorem dX2_layFigures_46 : decode cX2_layFigures 46 = .ok (.goto 8, 3) := by decide +kernel
theorem dX2_layFigures_49 : decode cX2_layFigures 49 = .ok (.aload_n 0, 1) := by decide +kernel
theorem dX2_layFigures_50 : decode cX2_layFigures 50 = .ok (.iload_n 3, 1) := by decide +kernel
theorem dX2_layFigures_51 : decode cX2_layFigures 51 = .ok (.invokestatic 35, 3) := by decide +kernel
theorem dX2_layFigures_54 : decode cX2_layFigures 54 = .ok (.iastore, 1) := by decide +kernel
theorem dX2_layFigures_55 : decode cX2_layFigures 55 = .ok (.iinc 3 1, 3) := by decide +kernel
theorem dX2_layFigures_58 : decode cX2_layFigures 58 = .ok (.goto (-45), 3) := by decide +kernel
theorem dX2_layFigures_61 : decode cX2_layFigures 61 = .ok (.return_, 1) := by decide +kernel
theorem dX3_init_0 : decode cX3_init 0 = .ok (.aload_n 0, 1) := by decide +kernel
theorem dX3_init_1 : decode cX3_init 1 = .ok (.invokespecial 3, 3) := by decide +kernel
theorem dX3_init_4 : decode cX3_init 4 = .ok (.aload_n 0, 1) := by decide +kernel
theorem dX3_init_5 : decode cX3_init 5 = .ok (.bipush 40, 2) := by decide +kernel
theorem dX3_init_7 : decode cX3_init 7 = .ok (.newarray .long, 2) := by decide +kernel
theorem dX3_init_9 : decode cX3_init 9 = .ok (.putfield 9, 3) := by decide +kernel
theorem dX3_init_12 : decode cX3_init 12 = .ok (.aload_n 0, 1) := by decide +kernel
theorem dX3_init_13 : decode cX3_init 13 = .ok (.sipush 1600, 3) := by decide +kernel
theorem dX3_init_16 : decode cX3_init 16 = .ok (.newarray .int, 2) := by decide +kernel
theorem dX3_init_18 : decode cX3_init 18 = .ok (.putfield 15, 3) := by decide +kernel
theorem dX3_init_21 : decode cX3_init 21 = .ok (.aload_n 0, 1) := by decide +kernel
theorem dX3_init_22 : decode cX3_init 22 = .ok (.new 19, 3) := by decide +kernel
theorem dX3_init_25 : decode cX3_init 25 = .ok (.dup, 1) := by decide +kernel
theorem dX3_init_26 : decode cX3_init 26 = .ok (.invokespecial 21, 3) := by decide +kernel
theorem dX3_init_29 : decode cX3_init 29 = .ok (.putfield 22, 3) := by decide +kernel
theorem dX3_init_32 : decode cX3_init 32 = .ok (.aload_n 0, 1) := by decide +kernel
theorem dX3_init_33 : decode cX3_init 33 = .ok (.iconst 0, 1) := by decide +kernel
theorem dX3_init_34 : decode cX3_init 34 = .ok (.putfield 26, 3) := by decide +kernel
theorem dX3_init_37 : decode cX3_init 37 = .ok (.aload_n 0, 1) := by decide +kernel
theorem dX3_init_38 : decode cX3_init 38 = .ok (.iconst 1, 1) := by decide +kernel
theorem dX3_init_39 : decode cX3_init 39 = .ok (.putfield 30, 3) := by decide +kernel
theorem dX3_init_42 : decode cX3_init 42 = .ok (.aload_n 0, 1) := by decide +kernel
theorem dX3_init_43 : decode cX3_init 43 = .ok (.lconst 0, 1) := by decide +kernel
theorem dX3_init_44 : decode cX3_init 44 = .ok (.putfield 33, 3) := by decide +kernel
theorem dX3_init_47 : decode cX3_init 47 = .ok (.aload_n 0, 1) := by decide +kernel
theorem dX3_init_48 : decode cX3_init 48 = .ok (.lconst 0, 1) := by decide +kernel
theorem dX3_init_49 : decode cX3_init 49 = .ok (.putfield 37, 3) := by decide +kernel
theorem dX3_init_52 : decode cX3_init 52 = .ok (.aload_n 0, 1) := by decide +kernel
theorem dX3_init_53 : decode cX3_init 53 = .ok (.lconst 0, 1) := by decide +kernel
theorem dX3_init_54 : decode cX3_init 54 = .ok (.putfield 40, 3) := by decide +kernel
theorem dX3_init_57 : decode cX3_init 57 = .ok (.aload_n 0, 1) := by decide +kernel
theorem dX3_init_58 : decode cX3_init 58 = .ok (.lconst 0, 1) := by decide +kernel
theorem dX3_init_59 : decode cX3_init 59 = .ok (.putfield 43, 3) := by decide +kernel
theorem dX3_init_62 : decode cX3_init 62 = .ok (.aload_n 0, 1) := by decide +kernel
theorem dX3_init_63 : decode cX3_init 63 = .ok (.lconst 0, 1) := by decide +kernel
theorem dX3_init_64 : decode cX3_init 64 = .ok (.putfield 46, 3) := by decide +kernel
theorem dX3_init_67 : decode cX3_init 67 = .ok (.aload_n 0, 1) := by decide +kernel
theorem dX3_init_68 : decode cX3_init 68 = .ok (.lconst 0, 1) := by decide +kernel
theorem dX3_init_69 : decode cX3_init 69 = .ok (.putfield 49, 3) := by decide +kernel
theorem dX3_init_72 : decode cX3_init 72 = .ok (.return_, 1) := by decide +kernel
theorem dX3_joins_0 : decode cX3_joins 0 = .ok (.aload_n 0, 1) := by decide +kernel
theorem dX3_joins_1 : decode cX3_joins 1 = .ok (.getfield 9, 3) := by decide +kernel
theorem dX3_joins_4 : decode cX3_joins 4 = .ok (.iload_n 1, 1) := by decide +kernel
theorem dX3_joins_5 : decode cX3_joins 5 = .ok (.laload, 1) := by decide +kernel
theorem dX3_joins_6 : decode cX3_joins 6 = .ok (.iload_n 2, 1) := by decide +kernel
theorem dX3_joins_7 : decode cX3_joins 7 = .ok (.invokestatic 52, 3) := by decide +kernel
theorem dX3_joins_10 : decode cX3_joins 10 = .ok (.ireturn, 1) := by decide +kernel
theorem dX3_isHeavy_0 : decode cX3_isHeavy 0 = .ok (.aload_n 0, 1) := by decide +kernel
theorem dX3_isHeavy_1 : decode cX3_isHeavy 1 = .ok (.getfield 33, 3) := by decide +kernel
theorem dX3_isHeavy_4 : decode cX3_isHeavy 4 = .ok (.iload_n 1, 1) := by decide +kernel
theorem dX3_isHeavy_5 : decode cX3_isHeavy 5 = .ok (.invokestatic 52, 3) := by decide +kernel
theorem dX3_isHeavy_8 : decode cX3_isHeavy 8 = .ok (.ireturn, 1) := by decide +kernel
theorem dX3_bound_0 : decode cX3_bound 0 = .ok (.iconst 1, 1) := by decide +kernel
theorem dX3_bound_1 : decode cX3_bound 1 = .ok (.istore_n 1, 1) := by decide +kernel
theorem dX3_bound_2 : decode cX3_bound 2 = .ok (.iload_n 1, 1) := by decide +kernel
theorem dX3_bound_3 : decode cX3_bound 3 = .ok (.bipush 40, 2) := by decide +kernel
theorem dX3_bound_5 : decode cX3_bound 5 = .ok (.if_icmp .ge 21, 3) := by decide +kernel
theorem dX3_bound_8 : decode cX3_bound 8 = .ok (.iload_n 1, 1) := by decide +kernel
theorem dX3_bound_9 : decode cX3_bound 9 = .ok (.iload_n 1, 1) := by decide +kernel
theorem dX3_bound_10 : decode cX3_bound 10 = .ok (.imul, 1) := by decide +kernel
theorem dX3_bound_11 : decode cX3_bound 11 = .ok (.aload_n 0, 1) := by decide +kernel
theorem dX3_bound_12 : decode cX3_bound 12 = .ok (.getfield 30, 3) := by decide +kernel
theorem dX3_bound_15 : decode cX3_bound 15 = .ok (.if_icmp .lt 5, 3) := by decide +kernel
theorem dX3_bound_18 : decode cX3_bound 18 = .ok (.iload_n 1, 1) := by decide +kernel
theorem dX3_bound_19 : decode cX3_bound 19 = .ok (.ireturn, 1) := by decide +kernel
theorem dX3_bound_20 : decode cX3_bound 20 = .ok (.iinc 1 1, 3) := by decide +kernel
theorem dX3_bound_23 : decode cX3_bound 23 = .ok (.goto (-21), 3) := by decide +kernel
theorem dX3_bound_26 : decode cX3_bound 26 = .ok (.bipush 40, 2) := by decide +kernel
theorem dX3_bound_28 : decode cX3_bound 28 = .ok (.ireturn, 1) := by decide +kernel
theorem dX3_bring_0 : decode cX3_bring 0 = .ok (.aload_n 0, 1) := by decide +kernel
theorem dX3_bring_1 : decode cX3_bring 1 = .ok (.getfield 22, 3) := by decide +kernel
theorem dX3_bring_4 : decode cX3_bring 4 = .ok (.iconst 1, 1) := by decide +kernel
theorem dX3_bring_5 : decode cX3_bring 5 = .ok (.iload_n 1, 1) := by decide +kernel
theorem dX3_bring_6 : decode cX3_bring 6 = .ok (.iload_n 2, 1) := by decide +kernel
theorem dX3_bring_7 : decode cX3_bring 7 = .ok (.iload_n 3, 1) := by decide +kernel
theorem dX3_bring_8 : decode cX3_bring 8 = .ok (.invokevirtual 56, 3) := by decide +kernel
theorem dX3_bring_11 : decode cX3_bring 11 = .ok (.aload_n 0, 1) := by decide +kernel
theorem dX3_bring_12 : decode cX3_bring 12 = .ok (.iload_n 1, 1) := by decide +kernel
theorem dX3_bring_13 : decode cX3_bring 13 = .ok (.iload_n 2, 1) := by decide +kernel
theorem dX3_bring_14 : decode cX3_bring 14 = .ok (.iload_n 3, 1) := by decide +kernel
theorem dX3_bring_15 : decode cX3_bring 15 = .ok (.invokevirtual 60, 3) := by decide +kernel
theorem dX3_bring_18 : decode cX3_bring 18 = .ok (.return_, 1) := by decide +kernel
theorem dX3_drop_0 : decode cX3_drop 0 = .ok (.aload_n 0, 1) := by decide +kernel
theorem dX3_drop_1 : decode cX3_drop 1 = .ok (.getfield 22, 3) := by decide +kernel
theorem dX3_drop_4 : decode cX3_drop 4 = .ok (.iconst 0, 1) := by decide +kernel
theorem dX3_drop_5 : decode cX3_drop 5 = .ok (.iload_n 1, 1) := by decide +kernel
theorem dX3_drop_6 : decode cX3_drop 6 = .ok (.iload_n 2, 1) := by decide +kernel
theorem dX3_drop_7 : decode cX3_drop 7 = .ok (.aload_n 0, 1) := by decide +kernel
theorem dX3_drop_8 : decode cX3_drop 8 = .ok (.getfield 15, 3) := by decide +kernel
theorem dX3_drop_11 : decode cX3_drop 11 = .ok (.iload_n 1, 1) := by decide +kernel
theorem dX3_drop_12 : decode cX3_drop 12 = .ok (.iload_n 2, 1) := by decide +kernel
theorem dX3_drop_13 : decode cX3_drop 13 = .ok (.invokestatic 64, 3) := by decide +kernel
theorem dX3_drop_16 : decode cX3_drop 16 = .ok (.iaload, 1) := by decide +kernel
theorem dX3_drop_17 : decode cX3_drop 17 = .ok (.invokevirtual 56, 3) := by decide +kernel
theorem dX3_drop_20 : decode cX3_drop 20 = .ok (.aload_n 0, 1) := by decide +kernel
theorem dX3_drop_21 : decode cX3_drop 21 = .ok (.iload_n 1, 1) := by decide +kernel
theorem dX3_drop_22 : decode cX3_drop 22 = .ok (.iload_n 2, 1) := by decide +kernel
theorem dX3_drop_23 : decode cX3_drop 23 = .ok (.invokevirtual 68, 3) := by decide +kernel
theorem dX3_drop_26 : decode cX3_drop 26 = .ok (.return_, 1) := by decide +kernel
theorem dX3_takeBack_0 : decode cX3_takeBack 0 = .ok (.iconst 0, 1) := by decide +kernel
theorem dX3_takeBack_1 : decode cX3_takeBack 1 = .ok (.istore_n 2, 1) := by decide +kernel
theorem dX3_takeBack_2 : decode cX3_takeBack 2 = .ok (.iload_n 2, 1) := by decide +kernel
theorem dX3_takeBack_3 : decode cX3_takeBack 3 = .ok (.iload_n 1, 1) := by decide +kernel
theorem dX3_takeBack_4 : decode cX3_takeBack 4 = .ok (.if_icmp .ge 111, 3) := by decide +kernel
theorem dX3_takeBack_7 : decode cX3_takeBack 7 = .ok (.aload_n 0, 1) := by decide +kernel
theorem dX3_takeBack_8 : decode cX3_takeBack 8 = .ok (.getfield 22, 3) := by decide +kernel
theorem dX3_takeBack_11 : decode cX3_takeBack 11 = .ok (.getfield 72, 3) := by decide +kernel
theorem dX3_takeBack_14 : decode cX3_takeBack 14 = .ok (.ifCond .le 101, 3) := by decide +kernel
theorem dX3_takeBack_17 : decode cX3_takeBack 17 = .ok (.aload_n 0, 1) := by decide +kernel
theorem dX3_takeBack_18 : decode cX3_takeBack 18 = .ok (.getfield 22, 3) := by decide +kernel
theorem dX3_takeBack_21 : decode cX3_takeBack 21 = .ok (.dup, 1) := by decide +kernel
theorem dX3_takeBack_22 : decode cX3_takeBack 22 = .ok (.getfield 72, 3) := by decide +kernel
theorem dX3_takeBack_25 : decode cX3_takeBack 25 = .ok (.iconst 1, 1) := by decide +kernel
theorem dX3_takeBack_26 : decode cX3_takeBack 26 = .ok (.isub, 1) := by decide +kernel
theorem dX3_takeBack_27 : decode cX3_takeBack 27 = .ok (.putfield 72, 3) := by decide +kernel
theorem dX3_takeBack_30 : decode cX3_takeBack 30 = .ok (.aload_n 0, 1) := by decide +kernel
theorem dX3_takeBack_31 : decode cX3_takeBack 31 = .ok (.getfield 22, 3) := by decide +kernel
theorem dX3_takeBack_34 : decode cX3_takeBack 34 = .ok (.aload_n 0, 1) := by decide +kernel
theorem dX3_takeBack_35 : decode cX3_takeBack 35 = .ok (.getfield 22, 3) := by decide +kernel
theorem dX3_takeBack_38 : decode cX3_takeBack 38 = .ok (.getfield 72, 3) := by decide +kernel
theorem dX3_takeBack_41 : decode cX3_takeBack 41 = .ok (.invokevirtual 75, 3) := by decide +kernel
theorem dX3_takeBack_44 : decode cX3_takeBack 44 = .ok (.istore_n 3, 1) := by decide +kernel
theorem dX3_takeBack_45 : decode cX3_takeBack 45 = .ok (.aload_n 0, 1) := by decide +kernel
theorem dX3_takeBack_46 : decode cX3_takeBack 46 = .ok (.getfield 22, 3) := by decide +kernel
theorem dX3_takeBack_49 : decode cX3_takeBack 49 = .ok (.aload_n 0, 1) := by decide +kernel
theorem dX3_takeBack_50 : decode cX3_takeBack 50 = .ok (.getfield 22, 3) := by decide +kernel
theorem dX3_takeBack_53 : decode cX3_takeBack 53 = .ok (.getfield 72, 3) := by decide +kernel
theorem dX3_takeBack_56 : decode cX3_takeBack 56 = .ok (.invokevirtual 79, 3) := by decide +kernel
theorem dX3_takeBack_59 : decode cX3_takeBack 59 = .ok (.istore 4, 2) := by decide +kernel
theorem dX3_takeBack_61 : decode cX3_takeBack 61 = .ok (.aload_n 0, 1) := by decide +kernel
theorem dX3_takeBack_62 : decode cX3_takeBack 62 = .ok (.getfield 22, 3) := by decide +kernel
theorem dX3_takeBack_65 : decode cX3_takeBack 65 = .ok (.aload_n 0, 1) := by decide +kernel
theorem dX3_takeBack_66 : decode cX3_takeBack 66 = .ok (.getfield 22, 3) := by decide +kernel
theorem dX3_takeBack_69 : decode cX3_takeBack 69 = .ok (.getfield 72, 3) := by decide +kernel
theorem dX3_takeBack_72 : decode cX3_takeBack 72 = .ok (.invokevirtual 82, 3) := by decide +kernel
theorem dX3_takeBack_75 : decode cX3_takeBack 75 = .ok (.ifCond .eq 13, 3) := by decide +kernel
theorem dX3_takeBack_78 : decode cX3_takeBack 78 = .ok (.aload_n 0, 1) := by decide +kernel
theorem dX3_takeBack_79 : decode cX3_takeBack 79 = .ok (.iload_n 3, 1) := by decide +kernel
theorem dX3_takeBack_80 : decode cX3_takeBack 80 = .ok (.iload 4, 2) := by decide +kernel
theorem dX3_takeBack_82 : decode cX3_takeBack 82 = .ok (.invokevirtual 68, 3) := by decide +kernel
theorem dX3_takeBack_85 : decode cX3_takeBack 85 = .ok (.goto 24, 3) := by decide +kernel
theorem dX3_takeBack_88 : decode cX3_takeBack 88 = .ok (.aload_n 0, 1) := by decide +kernel
theorem dX3_takeBack_89 : decode cX3_takeBack 89 = .ok (.iload_n 3, 1) := by decide +kernel
theorem dX3_takeBack_90 : decode cX3_takeBack 90 = .ok (.iload 4, 2) := by decide +kernel
theorem dX3_takeBack_92 : decode cX3_takeBack 92 = .ok (.aload_n 0, 1) := by decide +kernel
theorem dX3_takeBack_93 : decode cX3_takeBack 93 = .ok (.getfield 22, 3) := by decide +kernel
theorem dX3_takeBack_96 : decode cX3_takeBack 96 = .ok (.aload_n 0, 1) := by decide +kernel
theorem dX3_takeBack_97 : decode cX3_takeBack 97 = .ok (.getfield 22, 3) := by decide +kernel
theorem dX3_takeBack_100 : decode cX3_takeBack 100 = .ok (.getfield 72, 3) := by decide +kernel
theorem dX3_takeBack_103 : decode cX3_takeBack 103 = .ok (.invokevirtual 86, 3) := by decide +kernel
theorem dX3_takeBack_106 : decode cX3_takeBack 106 = .ok (.invokevirtual 60, 3) := by decide +kernel
theorem dX3_takeBack_109 : decode cX3_takeBack 109 = .ok (.iinc 2 1, 3) := by decide +kernel
theorem dX3_takeBack_112 : decode cX3_takeBack 112 = .ok (.goto (-110), 3) := by decide +kernel
theorem dX3_takeBack_115 : decode cX3_takeBack 115 = .ok (.iload_n 2, 1) := by decide +kernel
theorem dX3_takeBack_116 : decode cX3_takeBack 116 = .ok (.ireturn, 1) := by decide +kernel
theorem dX3_become_0 : decode cX3_become 0 = .ok (.aload_n 1, 1) := by decide +kernel
theorem dX3_become_1 : decode cX3_become 1 = .ok (.getfield 9, 3) := by decide +kernel
theorem dX3_become_4 : decode cX3_become 4 = .ok (.iconst 0, 1) := by decide +kernel
theorem dX3_become_5 : decode cX3_become 5 = .ok (.aload_n 0, 1) := by decide +kernel
theorem dX3_become_6 : decode cX3_become 6 = .ok (.getfield 9, 3) := by decide +kernel
theorem dX3_become_9 : decode cX3_become 9 = .ok (.iconst 0, 1) := by decide +kernel
theorem dX3_become_10 : decode cX3_become 10 = .ok (.bipush 40, 2) := by decide +kernel
theorem dX3_become_12 : decode cX3_become 12 = .ok (.invokestatic 89, 3) := by decide +kernel
theorem dX3_become_15 : decode cX3_become 15 = .ok (.aload_n 1, 1) := by decide +kernel
theorem dX3_become_16 : decode cX3_become 16 = .ok (.getfield 15, 3) := by decide +kernel
theorem dX3_become_19 : decode cX3_become 19 = .ok (.iconst 0, 1) := by decide +kernel
theorem dX3_become_20 : decode cX3_become 20 = .ok (.aload_n 0, 1) := by decide +kernel
theorem dX3_become_21 : decode cX3_become 21 = .ok (.getfield 15, 3) := by decide +kernel
theorem dX3_become_24 : decode cX3_become 24 = .ok (.iconst 0, 1) := by decide +kernel
theorem dX3_become_25 : decode cX3_become 25 = .ok (.sipush 1600, 3) := by decide +kernel
theorem dX3_become_28 : decode cX3_become 28 = .ok (.invokestatic 89, 3) := by decide +kernel
theorem dX3_become_31 : decode cX3_become 31 = .ok (.aload_n 0, 1) := by decide +kernel
theorem dX3_become_32 : decode cX3_become 32 = .ok (.getfield 22, 3) := by decide +kernel
theorem dX3_become_35 : decode cX3_become 35 = .ok (.aload_n 1, 1) := by decide +kernel
theorem dX3_become_36 : decode cX3_become 36 = .ok (.getfield 22, 3) := by decide +kernel
theorem dX3_become_39 : decode cX3_become 39 = .ok (.invokevirtual 95, 3) := by decide +kernel
theorem dX3_become_42 : decode cX3_become 42 = .ok (.aload_n 0, 1) := by decide +kernel
theorem dX3_become_43 : decode cX3_become 43 = .ok (.aload_n 1, 1) := by decide +kernel
theorem dX3_become_44 : decode cX3_become 44 = .ok (.getfield 26, 3) := by decide +kernel
theorem dX3_become_47 : decode cX3_become 47 = .ok (.putfield 26, 3) := by decide +kernel
theorem dX3_become_50 : decode cX3_become 50 = .ok (.aload_n 0, 1) := by decide +kernel
theorem dX3_become_51 : decode cX3_become 51 = .ok (.aload_n 1, 1) := by decide +kernel
theorem dX3_become_52 : decode cX3_become 52 = .ok (.getfield 30, 3) := by decide +kernel
theorem dX3_become_55 : decode cX3_become 55 = .ok (.putfield 30, 3) := by decide +kernel
theorem dX3_become_58 : decode cX3_become 58 = .ok (.aload_n 0, 1) := by decide +kernel
theorem dX3_become_59 : decode cX3_become 59 = .ok (.aload_n 1, 1) := by decide +kernel
theorem dX3_become_60 : decode cX3_become 60 = .ok (.getfield 33, 3) := by decide +kernel
theorem dX3_become_63 : decode cX3_become 63 = .ok (.putfield 33, 3) := by decide +kernel
theorem dX3_become_66 : decode cX3_become 66 = .ok (.aload_n 0, 1) := by decide +kernel
theorem dX3_become_67 : decode cX3_become 67 = .ok (.aload_n 1, 1) := by decide +kernel
theorem dX3_become_68 : decode cX3_become 68 = .ok (.getfield 37, 3) := by decide +kernel
theorem dX3_become_71 : decode cX3_become 71 = .ok (.putfield 37, 3) := by decide +kernel
theorem dX3_become_74 : decode cX3_become 74 = .ok (.aload_n 0, 1) := by decide +kernel
theorem dX3_become_75 : decode cX3_become 75 = .ok (.aload_n 1, 1) := by decide +kernel
theorem dX3_become_76 : decode cX3_become 76 = .ok (.getfield 40, 3) := by decide +kernel
theorem dX3_become_79 : decode cX3_become 79 = .ok (.putfield 40, 3) := by decide +kernel
theorem dX3_become_82 : decode cX3_become 82 = .ok (.aload_n 0, 1) := by decide +kernel
theorem dX3_become_83 : decode cX3_become 83 = .ok (.aload_n 1, 1) := by decide +kernel
theorem dX3_become_84 : decode cX3_become 84 = .ok (.getfield 43, 3) := by decide +kernel
theorem dX3_become_87 : decode cX3_become 87 = .ok (.putfield 43, 3) := by decide +kernel
theorem dX3_become_90 : decode cX3_become 90 = .ok (.aload_n 0, 1) := by decide +kernel
theorem dX3_become_91 : decode cX3_become 91 = .ok (.aload_n 1, 1) := by decide +kernel
theorem dX3_become_92 : decode cX3_become 92 = .ok (.getfield 46, 3) := by decide +kernel
theorem dX3_become_95 : decode cX3_become 95 = .ok (.putfield 46, 3) := by decide +kernel
theorem dX3_become_98 : decode cX3_become 98 = .ok (.aload_n 0, 1) := by decide +kernel
theorem dX3_become_99 : decode cX3_become 99 = .ok (.aload_n 1, 1) := by decide +kernel
theorem dX3_become_100 : decode cX3_become 100 = .ok (.getfield 49, 3) := by decide +kernel
theorem dX3_become_103 : decode cX3_become 103 = .ok (.putfield 49, 3) := by decide +kernel
theorem dX3_become_106 : decode cX3_become 106 = .ok (.return_, 1) := by decide +kernel
theorem dX3_come_0 : decode cX3_come 0 = .ok (.aload_n 0, 1) := by decide +kernel
theorem dX3_come_1 : decode cX3_come 1 = .ok (.getfield 9, 3) := by decide +kernel
theorem dX3_come_4 : decode cX3_come 4 = .ok (.iload_n 1, 1) := by decide +kernel
theorem dX3_come_5 : decode cX3_come 5 = .ok (.dup2, 1) := by decide +kernel
theorem dX3_come_6 : decode cX3_come 6 = .ok (.laload, 1) := by decide +kernel
theorem dX3_come_7 : decode cX3_come 7 = .ok (.lconst 1, 1) := by decide +kernel
theorem dX3_come_8 : decode cX3_come 8 = .ok (.iload_n 2, 1) := by decide +kernel
theorem dX3_come_9 : decode cX3_come 9 = .ok (.lshl, 1) := by decide +kernel
theorem dX3_come_10 : decode cX3_come 10 = .ok (.lor, 1) := by decide +kernel
theorem dX3_come_11 : decode cX3_come 11 = .ok (.lastore, 1) := by decide +kernel
theorem dX3_come_12 : decode cX3_come 12 = .ok (.aload_n 0, 1) := by decide +kernel
theorem dX3_come_13 : decode cX3_come 13 = .ok (.getfield 9, 3) := by decide +kernel
theorem dX3_come_16 : decode cX3_come 16 = .ok (.iload_n 2, 1) := by decide +kernel
theorem dX3_come_17 : decode cX3_come 17 = .ok (.dup2, 1) := by decide +kernel
theorem dX3_come_18 : decode cX3_come 18 = .ok (.laload, 1) := by decide +kernel
theorem dX3_come_19 : decode cX3_come 19 = .ok (.lconst 1, 1) := by decide +kernel
theorem dX3_come_20 : decode cX3_come 20 = .ok (.iload_n 1, 1) := by decide +kernel
theorem dX3_come_21 : decode cX3_come 21 = .ok (.lshl, 1) := by decide +kernel
theorem dX3_come_22 : decode cX3_come 22 = .ok (.lor, 1) := by decide +kernel
theorem dX3_come_23 : decode cX3_come 23 = .ok (.lastore, 1) := by decide +kernel
theorem dX3_come_24 : decode cX3_come 24 = .ok (.aload_n 0, 1) := by decide +kernel
theorem dX3_come_25 : decode cX3_come 25 = .ok (.getfield 15, 3) := by decide +kernel
theorem dX3_come_28 : decode cX3_come 28 = .ok (.iload_n 1, 1) := by decide +kernel
theorem dX3_come_29 : decode cX3_come 29 = .ok (.iload_n 2, 1) := by decide +kernel
theorem dX3_come_30 : decode cX3_come 30 = .ok (.invokestatic 64, 3) := by decide +kernel
theorem dX3_come_33 : decode cX3_come 33 = .ok (.iload_n 3, 1) := by decide +kernel
theorem dX3_come_34 : decode cX3_come 34 = .ok (.iastore, 1) := by decide +kernel
theorem dX3_come_35 : decode cX3_come 35 = .ok (.aload_n 0, 1) := by decide +kernel
theorem dX3_come_36 : decode cX3_come 36 = .ok (.dup, 1) := by decide +kernel
theorem dX3_come_37 : decode cX3_come 37 = .ok (.getfield 26, 3) := by decide +kernel
theorem dX3_come_40 : decode cX3_come 40 = .ok (.iconst 1, 1) := by decide +kernel
theorem dX3_come_41 : decode cX3_come 41 = .ok (.iadd, 1) := by decide +kernel
theorem dX3_come_42 : decode cX3_come 42 = .ok (.putfield 26, 3) := by decide +kernel
theorem dX3_come_45 : decode cX3_come 45 = .ok (.aload_n 0, 1) := by decide +kernel
theorem dX3_come_46 : decode cX3_come 46 = .ok (.dup, 1) := by decide +kernel
theorem dX3_come_47 : decode cX3_come 47 = .ok (.getfield 46, 3) := by decide +kernel
theorem dX3_come_50 : decode cX3_come 50 = .ok (.lconst 1, 1) := by decide +kernel
theorem dX3_come_51 : decode cX3_come 51 = .ok (.ladd, 1) := by decide +kernel
theorem dX3_come_52 : decode cX3_come 52 = .ok (.putfield 46, 3) := by decide +kernel
theorem dX3_come_55 : decode cX3_come 55 = .ok (.aload_n 0, 1) := by decide +kernel
theorem dX3_come_56 : decode cX3_come 56 = .ok (.getfield 26, 3) := by decide +kernel
theorem dX3_come_59 : decode cX3_come 59 = .ok (.aload_n 0, 1) := by decide +kernel
theorem dX3_come_60 : decode cX3_come 60 = .ok (.getfield 30, 3) := by decide +kernel
theorem dX3_come_63 : decode cX3_come 63 = .ok (.if_icmp .ne 16, 3) := by decide +kernel
theorem dX3_come_66 : decode cX3_come 66 = .ok (.aload_n 0, 1) := by decide +kernel
theorem dX3_come_67 : decode cX3_come 67 = .ok (.aload_n 0, 1) := by decide +kernel
theorem dX3_come_68 : decode cX3_come 68 = .ok (.getfield 30, 3) := by decide +kernel
theorem dX3_come_71 : decode cX3_come 71 = .ok (.iconst 2, 1) := by decide +kernel
theorem dX3_come_72 : decode cX3_come 72 = .ok (.imul, 1) := by decide +kernel
theorem dX3_come_73 : decode cX3_come 73 = .ok (.invokevirtual 99, 3) := by decide +kernel
theorem dX3_come_76 : decode cX3_come 76 = .ok (.goto 21, 3) := by decide +kernel
theorem dX3_come_79 : decode cX3_come 79 = .ok (.aload_n 0, 1) := by decide +kernel
theorem dX3_come_80 : decode cX3_come 80 = .ok (.iload_n 1, 1) := by decide +kernel
theorem dX3_come_81 : decode cX3_come 81 = .ok (.iload_n 2, 1) := by decide +kernel
theorem dX3_come_82 : decode cX3_come 82 = .ok (.invokestatic 103, 3) := by decide +kernel
theorem dX3_come_85 : decode cX3_come 85 = .ok (.invokevirtual 108, 3) := by decide +kernel
theorem dX3_come_88 : decode cX3_come 88 = .ok (.aload_n 0, 1) := by decide +kernel
theorem dX3_come_89 : decode cX3_come 89 = .ok (.iload_n 1, 1) := by decide +kernel
theorem dX3_come_90 : decode cX3_come 90 = .ok (.iload_n 2, 1) := by decide +kernel
theorem dX3_come_91 : decode cX3_come 91 = .ok (.invokestatic 111, 3) := by decide +kernel
theorem dX3_come_94 : decode cX3_come 94 = .ok (.invokevirtual 108, 3) := by decide +kernel
theorem dX3_come_97 : decode cX3_come 97 = .ok (.return_, 1) := by decide +kernel
theorem dX3_go_0 : decode cX3_go 0 = .ok (.aload_n 0, 1) := by decide +kernel
theorem dX3_go_1 : decode cX3_go 1 = .ok (.getfield 9, 3) := by decide +kernel
theorem dX3_go_4 : decode cX3_go 4 = .ok (.iload_n 1, 1) := by decide +kernel
theorem dX3_go_5 : decode cX3_go 5 = .ok (.dup2, 1) := by decide +kernel
theorem dX3_go_6 : decode cX3_go 6 = .ok (.laload, 1) := by decide +kernel
theorem dX3_go_7 : decode cX3_go 7 = .ok (.lconst 1, 1) := by decide +kernel
theorem dX3_go_8 : decode cX3_go 8 = .ok (.iload_n 2, 1) := by decide +kernel
theorem dX3_go_9 : decode cX3_go 9 = .ok (.lshl, 1) := by decide +kernel
theorem dX3_go_10 : decode cX3_go 10 = .ok (.ldc2_w 114, 3) := by decide +kernel
theorem dX3_go_13 : decode cX3_go 13 = .ok (.lxor, 1) := by decide +kernel
theorem dX3_go_14 : decode cX3_go 14 = .ok (.land, 1) := by decide +kernel
theorem dX3_go_15 : decode cX3_go 15 = .ok (.lastore, 1) := by decide +kernel
theorem dX3_go_16 : decode cX3_go 16 = .ok (.aload_n 0, 1) := by decide +kernel
theorem dX3_go_17 : decode cX3_go 17 = .ok (.getfield 9, 3) := by decide +kernel
theorem dX3_go_20 : decode cX3_go 20 = .ok (.iload_n 2, 1) := by decide +kernel
theorem dX3_go_21 : decode cX3_go 21 = .ok (.dup2, 1) := by decide +kernel
theorem dX3_go_22 : decode cX3_go 22 = .ok (.laload, 1) := by decide +kernel
theorem dX3_go_23 : decode cX3_go 23 = .ok (.lconst 1, 1) := by decide +kernel
theorem dX3_go_24 : decode cX3_go 24 = .ok (.iload_n 1, 1) := by decide +kernel
theorem dX3_go_25 : decode cX3_go 25 = .ok (.lshl, 1) := by decide +kernel
theorem dX3_go_26 : decode cX3_go 26 = .ok (.ldc2_w 114, 3) := by decide +kernel
theorem dX3_go_29 : decode cX3_go 29 = .ok (.lxor, 1) := by decide +kernel
theorem dX3_go_30 : decode cX3_go 30 = .ok (.land, 1) := by decide +kernel
theorem dX3_go_31 : decode cX3_go 31 = .ok (.lastore, 1) := by decide +kernel
theorem dX3_go_32 : decode cX3_go 32 = .ok (.aload_n 0, 1) := by decide +kernel
theorem dX3_go_33 : decode cX3_go 33 = .ok (.dup, 1) := by decide +kernel
theorem dX3_go_34 : decode cX3_go 34 = .ok (.getfield 26, 3) := by decide +kernel
theorem dX3_go_37 : decode cX3_go 37 = .ok (.iconst 1, 1) := by decide +kernel
theorem dX3_go_38 : decode cX3_go 38 = .ok (.isub, 1) := by decide +kernel
theorem dX3_go_39 : decode cX3_go 39 = .ok (.putfield 26, 3) := by decide +kernel
theorem dX3_go_42 : decode cX3_go 42 = .ok (.aload_n 0, 1) := by decide +kernel
theorem dX3_go_43 : decode cX3_go 43 = .ok (.dup, 1) := by decide +kernel
theorem dX3_go_44 : decode cX3_go 44 = .ok (.getfield 46, 3) := by decide +kernel
theorem dX3_go_47 : decode cX3_go 47 = .ok (.lconst 1, 1) := by decide +kernel
theorem dX3_go_48 : decode cX3_go 48 = .ok (.ladd, 1) := by decide +kernel
theorem dX3_go_49 : decode cX3_go 49 = .ok (.putfield 46, 3) := by decide +kernel
theorem dX3_go_52 : decode cX3_go 52 = .ok (.aload_n 0, 1) := by decide +kernel
theorem dX3_go_53 : decode cX3_go 53 = .ok (.getfield 26, 3) := by decide +kernel
theorem dX3_go_56 : decode cX3_go 56 = .ok (.aload_n 0, 1) := by decide +kernel
theorem dX3_go_57 : decode cX3_go 57 = .ok (.getfield 30, 3) := by decide +kernel
theorem dX3_go_60 : decode cX3_go 60 = .ok (.iconst 4, 1) := by decide +kernel
theorem dX3_go_61 : decode cX3_go 61 = .ok (.idiv, 1) := by decide +kernel
theorem dX3_go_62 : decode cX3_go 62 = .ok (.if_icmp .ge 22, 3) := by decide +kernel
theorem dX3_go_65 : decode cX3_go 65 = .ok (.aload_n 0, 1) := by decide +kernel
theorem dX3_go_66 : decode cX3_go 66 = .ok (.iconst 1, 1) := by decide +kernel
theorem dX3_go_67 : decode cX3_go 67 = .ok (.aload_n 0, 1) := by decide +kernel
theorem dX3_go_68 : decode cX3_go 68 = .ok (.getfield 30, 3) := by decide +kernel
theorem dX3_go_71 : decode cX3_go 71 = .ok (.iconst 2, 1) := by decide +kernel
theorem dX3_go_72 : decode cX3_go 72 = .ok (.idiv, 1) := by decide +kernel
theorem dX3_go_73 : decode cX3_go 73 = .ok (.iconst 1, 1) := by decide +kernel
theorem dX3_go_74 : decode cX3_go 74 = .ok (.isub, 1) := by decide +kernel
theorem dX3_go_75 : decode cX3_go 75 = .ok (.invokestatic 111, 3) := by decide +kernel
theorem dX3_go_78 : decode cX3_go 78 = .ok (.invokevirtual 99, 3) := by decide +kernel
theorem dX3_go_81 : decode cX3_go 81 = .ok (.goto 21, 3) := by decide +kernel
theorem dX3_go_84 : decode cX3_go 84 = .ok (.aload_n 0, 1) := by decide +kernel
theorem dX3_go_85 : decode cX3_go 85 = .ok (.iload_n 1, 1) := by decide +kernel
theorem dX3_go_86 : decode cX3_go 86 = .ok (.iload_n 2, 1) := by decide +kernel
theorem dX3_go_87 : decode cX3_go 87 = .ok (.invokestatic 103, 3) := by decide +kernel
theorem dX3_go_90 : decode cX3_go 90 = .ok (.invokevirtual 108, 3) := by decide +kernel
theorem dX3_go_93 : decode cX3_go 93 = .ok (.aload_n 0, 1) := by decide +kernel
theorem dX3_go_94 : decode cX3_go 94 = .ok (.iload_n 1, 1) := by decide +kernel
theorem dX3_go_95 : decode cX3_go 95 = .ok (.iload_n 2, 1) := by decide +kernel
theorem dX3_go_96 : decode cX3_go 96 = .ok (.invokestatic 111, 3) := by decide +kernel
theorem dX3_go_99 : decode cX3_go 99 = .ok (.invokevirtual 108, 3) := by decide +kernel
theorem dX3_go_102 : decode cX3_go 102 = .ok (.return_, 1) := by decide +kernel
theorem dX3_rebase_0 : decode cX3_rebase 0 = .ok (.aload_n 0, 1) := by decide +kernel
theorem dX3_rebase_1 : decode cX3_rebase 1 = .ok (.iload_n 1, 1) := by decide +kernel
theorem dX3_rebase_2 : decode cX3_rebase 2 = .ok (.putfield 30, 3) := by decide +kernel
theorem dX3_rebase_5 : decode cX3_rebase 5 = .ok (.aload_n 0, 1) := by decide +kernel
theorem dX3_rebase_6 : decode cX3_rebase 6 = .ok (.lconst 0, 1) := by decide +kernel
theorem dX3_rebase_7 : decode cX3_rebase 7 = .ok (.putfield 33, 3) := by decide +kernel
theorem dX3_rebase_10 : decode cX3_rebase 10 = .ok (.aload_n 0, 1) := by decide +kernel
theorem dX3_rebase_11 : decode cX3_rebase 11 = .ok (.dup, 1) := by decide +kernel
theorem dX3_rebase_12 : decode cX3_rebase 12 = .ok (.getfield 43, 3) := by decide +kernel
theorem dX3_rebase_15 : decode cX3_rebase 15 = .ok (.lconst 1, 1) := by decide +kernel
theorem dX3_rebase_16 : decode cX3_rebase 16 = .ok (.ladd, 1) := by decide +kernel
theorem dX3_rebase_17 : decode cX3_rebase 17 = .ok (.putfield 43, 3) := by decide +kernel
theorem dX3_rebase_20 : decode cX3_rebase 20 = .ok (.aload_n 0, 1) := by decide +kernel
theorem dX3_rebase_21 : decode cX3_rebase 21 = .ok (.invokevirtual 116, 3) := by decide +kernel
theorem dX3_rebase_24 : decode cX3_rebase 24 = .ok (.istore_n 2, 1) := by decide +kernel
theorem dX3_rebase_25 : decode cX3_rebase 25 = .ok (.iconst 0, 1) := by decide +kernel
theorem dX3_rebase_26 : decode cX3_rebase 26 = .ok (.istore_n 3, 1) := by decide +kernel
theorem dX3_rebase_27 : decode cX3_rebase 27 = .ok (.iload_n 3, 1) := by decide +kernel
theorem dX3_rebase_28 : decode cX3_rebase 28 = .ok (.bipush 40, 2) := by decide +kernel
theorem dX3_rebase_30 : decode cX3_rebase 30 = .ok (.if_icmp .ge 33, 3) := by decide +kernel
theorem dX3_rebase_33 : decode cX3_rebase 33 = .ok (.aload_n 0, 1) := by decide +kernel
theorem dX3_rebase_34 : decode cX3_rebase 34 = .ok (.getfield 9, 3) := by decide +kernel
theorem dX3_rebase_37 : decode cX3_rebase 37 = .ok (.iload_n 3, 1) := by decide +kernel
theorem dX3_rebase_38 : decode cX3_rebase 38 = .ok (.invokestatic 120, 3) := by decide +kernel
theorem dX3_rebase_41 : decode cX3_rebase 41 = .ok (.iload_n 2, 1) := by decide +kernel
theorem dX3_rebase_42 : decode cX3_rebase 42 = .ok (.if_icmp .lt 15, 3) := by decide +kernel
theorem dX3_rebase_45 : decode cX3_rebase 45 = .ok (.aload_n 0, 1) := by decide +kernel
theorem dX3_rebase_46 : decode cX3_rebase 46 = .ok (.dup, 1) := by decide +kernel
theorem dX3_rebase_47 : decode cX3_rebase 47 = .ok (.getfield 33, 3) := by decide +kernel
theorem dX3_rebase_50 : decode cX3_rebase 50 = .ok (.lconst 1, 1) := by decide +kernel
theorem dX3_rebase_51 : decode cX3_rebase 51 = .ok (.iload_n 3, 1) := by decide +kernel
theorem dX3_rebase_52 : decode cX3_rebase 52 = .ok (.lshl, 1) := by decide +kernel
theorem dX3_rebase_53 : decode cX3_rebase 53 = .ok (.lor, 1) := by decide +kernel
theorem dX3_rebase_54 : decode cX3_rebase 54 = .ok (.putfield 33, 3) := by decide +kernel
theorem dX3_rebase_57 : decode cX3_rebase 57 = .ok (.iinc 3 1, 3) := by decide +kernel
theorem dX3_rebase_60 : decode cX3_rebase 60 = .ok (.goto (-33), 3) := by decide +kernel
theorem dX3_rebase_63 : decode cX3_rebase 63 = .ok (.return_, 1) := by decide +kernel
theorem dX3_lookAt_0 : decode cX3_lookAt 0 = .ok (.aload_n 0, 1) := by decide +kernel
theorem dX3_lookAt_1 : decode cX3_lookAt 1 = .ok (.getfield 9, 3) := by decide +kernel
theorem dX3_lookAt_4 : decode cX3_lookAt 4 = .ok (.iload_n 1, 1) := by decide +kernel
theorem dX3_lookAt_5 : decode cX3_lookAt 5 = .ok (.invokestatic 120, 3) := by decide +kernel
theorem dX3_lookAt_8 : decode cX3_lookAt 8 = .ok (.istore_n 2, 1) := by decide +kernel
theorem dX3_lookAt_9 : decode cX3_lookAt 9 = .ok (.aload_n 0, 1) := by decide +kernel
theorem dX3_lookAt_10 : decode cX3_lookAt 10 = .ok (.invokevirtual 116, 3) := by decide +kernel
theorem dX3_lookAt_13 : decode cX3_lookAt 13 = .ok (.istore_n 3, 1) := by decide +kernel
theorem dX3_lookAt_14 : decode cX3_lookAt 14 = .ok (.aload_n 0, 1) := by decide +kernel
theorem dX3_lookAt_15 : decode cX3_lookAt 15 = .ok (.iload_n 1, 1) := by decide +kernel
theorem dX3_lookAt_16 : decode cX3_lookAt 16 = .ok (.invokevirtual 126, 3) := by decide +kernel
theorem dX3_lookAt_19 : decode cX3_lookAt 19 = .ok (.ifCond .eq 18, 3) := by decide +kernel
theorem dX3_lookAt_22 : decode cX3_lookAt 22 = .ok (.iconst 2, 1) := by decide +kernel
theorem dX3_lookAt_23 : decode cX3_lookAt 23 = .ok (.iload_n 2, 1) := by decide +kernel
theorem dX3_lookAt_24 : decode cX3_lookAt 24 = .ok (.imul, 1) := by decide +kernel
theorem dX3_lookAt_25 : decode cX3_lookAt 25 = .ok (.iload_n 3, 1) := by decide +kernel
theorem dX3_lookAt_26 : decode cX3_lookAt 26 = .ok (.if_icmp .ge 7, 3) := by decide +kernel
theorem dX3_lookAt_29 : decode cX3_lookAt 29 = .ok (.iconst 1, 1) := by decide +kernel
theorem dX3_lookAt_30 : decode cX3_lookAt 30 = .ok (.goto 21, 3) := by decide +kernel
theorem dX3_lookAt_33 : decode cX3_lookAt 33 = .ok (.iconst 0, 1) := by decide +kernel
theorem dX3_lookAt_34 : decode cX3_lookAt 34 = .ok (.goto 17, 3) := by decide +kernel
theorem dX3_lookAt_37 : decode cX3_lookAt 37 = .ok (.iconst 2, 1) := by decide +kernel
theorem dX3_lookAt_38 : decode cX3_lookAt 38 = .ok (.iload_n 2, 1) := by decide +kernel
theorem dX3_lookAt_39 : decode cX3_lookAt 39 = .ok (.imul, 1) := by decide +kernel
theorem dX3_lookAt_40 : decode cX3_lookAt 40 = .ok (.iconst 3, 1) := by decide +kernel
theorem dX3_lookAt_41 : decode cX3_lookAt 41 = .ok (.iload_n 3, 1) := by decide +kernel
theorem dX3_lookAt_42 : decode cX3_lookAt 42 = .ok (.imul, 1) := by decide +kernel
theorem dX3_lookAt_43 : decode cX3_lookAt 43 = .ok (.if_icmp .lt 7, 3) := by decide +kernel
theorem dX3_lookAt_46 : decode cX3_lookAt 46 = .ok (.iconst 1, 1) := by decide +kernel
theorem dX3_lookAt_47 : decode cX3_lookAt 47 = .ok (.goto 4, 3) := by decide +kernel
theorem dX3_lookAt_50 : decode cX3_lookAt 50 = .ok (.iconst 0, 1) := by decide +kernel
theorem dX3_lookAt_51 : decode cX3_lookAt 51 = .ok (.istore 4, 2) := by decide +kernel
theorem dX3_lookAt_53 : decode cX3_lookAt 53 = .ok (.iload 4, 2) := by decide +kernel
theorem dX3_lookAt_55 : decode cX3_lookAt 55 = .ok (.ifCond .eq 36, 3) := by decide +kernel
theorem dX3_lookAt_58 : decode cX3_lookAt 58 = .ok (.aload_n 0, 1) := by decide +kernel
theorem dX3_lookAt_59 : decode cX3_lookAt 59 = .ok (.dup, 1) := by decide +kernel
theorem dX3_lookAt_60 : decode cX3_lookAt 60 = .ok (.getfield 33, 3) := by decide +kernel
theorem dX3_lookAt_63 : decode cX3_lookAt 63 = .ok (.lconst 1, 1) := by decide +kernel
theorem dX3_lookAt_64 : decode cX3_lookAt 64 = .ok (.iload_n 1, 1) := by decide +kernel
theorem dX3_lookAt_65 : decode cX3_lookAt 65 = .ok (.lshl, 1) := by decide +kernel
theorem dX3_lookAt_66 : decode cX3_lookAt 66 = .ok (.lxor, 1) := by decide +kernel
theorem dX3_lookAt_67 : decode cX3_lookAt 67 = .ok (.putfield 33, 3) := by decide +kernel
theorem dX3_lookAt_70 : decode cX3_lookAt 70 = .ok (.aload_n 0, 1) := by decide +kernel
theorem dX3_lookAt_71 : decode cX3_lookAt 71 = .ok (.dup, 1) := by decide +kernel
theorem dX3_lookAt_72 : decode cX3_lookAt 72 = .ok (.getfield 37, 3) := by decide +kernel
theorem dX3_lookAt_75 : decode cX3_lookAt 75 = .ok (.lconst 1, 1) := by decide +kernel
theorem dX3_lookAt_76 : decode cX3_lookAt 76 = .ok (.ladd, 1) := by decide +kernel
theorem dX3_lookAt_77 : decode cX3_lookAt 77 = .ok (.putfield 37, 3) := by decide +kernel
theorem dX3_lookAt_80 : decode cX3_lookAt 80 = .ok (.aload_n 0, 1) := by decide +kernel
theorem dX3_lookAt_81 : decode cX3_lookAt 81 = .ok (.dup, 1) := by decide +kernel
theorem dX3_lookAt_82 : decode cX3_lookAt 82 = .ok (.getfield 40, 3) := by decide +kernel
theorem dX3_lookAt_85 : decode cX3_lookAt 85 = .ok (.iload_n 2, 1) := by decide +kernel
theorem dX3_lookAt_86 : decode cX3_lookAt 86 = .ok (.i2l, 1) := by decide +kernel
theorem dX3_lookAt_87 : decode cX3_lookAt 87 = .ok (.ladd, 1) := by decide +kernel
theorem dX3_lookAt_88 : decode cX3_lookAt 88 = .ok (.putfield 40, 3) := by decide +kernel
theorem dX3_lookAt_91 : decode cX3_lookAt 91 = .ok (.return_, 1) := by decide +kernel
theorem dX4_init_0 : decode cX4_init 0 = .ok (.aload_n 0, 1) := by decide +kernel
theorem dX4_init_1 : decode cX4_init 1 = .ok (.invokespecial 3, 3) := by decide +kernel
theorem dX4_init_4 : decode cX4_init 4 = .ok (.aload_n 0, 1) := by decide +kernel
theorem dX4_init_5 : decode cX4_init 5 = .ok (.sipush 128, 3) := by decide +kernel
theorem dX4_init_8 : decode cX4_init 8 = .ok (.newarray .byte, 2) := by decide +kernel
theorem dX4_init_10 : decode cX4_init 10 = .ok (.putfield 11, 3) := by decide +kernel
theorem dX4_init_13 : decode cX4_init 13 = .ok (.aload_n 0, 1) := by decide +kernel
theorem dX4_init_14 : decode cX4_init 14 = .ok (.iconst 0, 1) := by decide +kernel
theorem dX4_init_15 : decode cX4_init 15 = .ok (.putfield 15, 3) := by decide +kernel
theorem dX4_init_18 : decode cX4_init 18 = .ok (.return_, 1) := by decide +kernel
theorem dX4_writeEdge_0 : decode cX4_writeEdge 0 = .ok (.aload_n 0, 1) := by decide +kernel
theorem dX4_writeEdge_1 : decode cX4_writeEdge 1 = .ok (.getfield 15, 3) := by decide +kernel
theorem dX4_writeEdge_4 : decode cX4_writeEdge 4 = .ok (.ifCond .le 9, 3) := by decide +kernel
theorem dX4_writeEdge_7 : decode cX4_writeEdge 7 = .ok (.aload_n 0, 1) := by decide +kernel
theorem dX4_writeEdge_8 : decode cX4_writeEdge 8 = .ok (.bipush 59, 2) := by decide +kernel
theorem dX4_writeEdge_10 : decode cX4_writeEdge 10 = .ok (.invokevirtual 19, 3) := by decide +kernel
theorem dX4_writeEdge_13 : decode cX4_writeEdge 13 = .ok (.aload_n 0, 1) := by decide +kernel
theorem dX4_writeEdge_14 : decode cX4_writeEdge 14 = .ok (.bipush 43, 2) := by decide +kernel
theorem dX4_writeEdge_16 : decode cX4_writeEdge 16 = .ok (.invokevirtual 19, 3) := by decide +kernel
theorem dX4_writeEdge_19 : decode cX4_writeEdge 19 = .ok (.aload_n 0, 1) := by decide +kernel
theorem dX4_writeEdge_20 : decode cX4_writeEdge 20 = .ok (.iload_n 1, 1) := by decide +kernel
theorem dX4_writeEdge_21 : decode cX4_writeEdge 21 = .ok (.invokevirtual 23, 3) := by decide +kernel
theorem dX4_writeEdge_24 : decode cX4_writeEdge 24 = .ok (.aload_n 0, 1) := by decide +kernel
theorem dX4_writeEdge_25 : decode cX4_writeEdge 25 = .ok (.bipush 44, 2) := by decide +kernel
theorem dX4_writeEdge_27 : decode cX4_writeEdge 27 = .ok (.invokevirtual 19, 3) := by decide +kernel
theorem dX4_writeEdge_30 : decode cX4_writeEdge 30 = .ok (.aload_n 0, 1) := by decide +kernel
theorem dX4_writeEdge_31 : decode cX4_writeEdge 31 = .ok (.iload_n 2, 1) := by decide +kernel
theorem dX4_writeEdge_32 : decode cX4_writeEdge 32 = .ok (.invokevirtual 23, 3) := by decide +kernel
theorem dX4_writeEdge_35 : decode cX4_writeEdge 35 = .ok (.iload_n 3, 1) := by decide +kernel
theorem dX4_writeEdge_36 : decode cX4_writeEdge 36 = .ok (.iconst 1, 1) := by decide +kernel
theorem dX4_writeEdge_37 : decode cX4_writeEdge 37 = .ok (.if_icmp .eq 27, 3) := by decide +kernel
theorem dX4_writeEdge_40 : decode cX4_writeEdge 40 = .ok (.aload_n 0, 1) := by decide +kernel
theorem dX4_writeEdge_41 : decode cX4_writeEdge 41 = .ok (.bipush 61, 2) := by decide +kernel
theorem dX4_writeEdge_43 : decode cX4_writeEdge 43 = .ok (.invokevirtual 19, 3) := by decide +kernel
theorem dX4_writeEdge_46 : decode cX4_writeEdge 46 = .ok (.iload_n 3, 1) := by decide +kernel
theorem dX4_writeEdge_47 : decode cX4_writeEdge 47 = .ok (.ifCond .ge 9, 3) := by decide +kernel
theorem dX4_writeEdge_50 : decode cX4_writeEdge 50 = .ok (.aload_n 0, 1) := by decide +kernel
theorem dX4_writeEdge_51 : decode cX4_writeEdge 51 = .ok (.bipush 45, 2) := by decide +kernel
theorem dX4_writeEdge_53 : decode cX4_writeEdge 53 = .ok (.invokevirtual 19, 3) := by decide +kernel
theorem dX4_writeEdge_56 : decode cX4_writeEdge 56 = .ok (.aload_n 0, 1) := by decide +kernel
theorem dX4_writeEdge_57 : decode cX4_writeEdge 57 = .ok (.iload_n 3, 1) := by decide +kernel
theorem dX4_writeEdge_58 : decode cX4_writeEdge 58 = .ok (.invokestatic 26, 3) := by decide +kernel
theorem dX4_writeEdge_61 : decode cX4_writeEdge 61 = .ok (.invokevirtual 23, 3) := by decide +kernel
theorem dX4_writeEdge_64 : decode cX4_writeEdge 64 = .ok (.return_, 1) := by decide +kernel
theorem dX4_writeNumber_0 : decode cX4_writeNumber 0 = .ok (.iconst 0, 1) := by decide +kernel
theorem dX4_writeNumber_1 : decode cX4_writeNumber 1 = .ok (.istore_n 2, 1) := by decide +kernel
theorem dX4_writeNumber_2 : decode cX4_writeNumber 2 = .ok (.ldc 32, 2) := by decide +kernel
theorem dX4_writeNumber_4 : decode cX4_writeNumber 4 = .ok (.istore_n 3, 1) := by decide +kernel
theorem dX4_writeNumber_5 : decode cX4_writeNumber 5 = .ok (.iload_n 3, 1) := by decide +kernel
theorem dX4_writeNumber_6 : decode cX4_writeNumber 6 = .ok (.ifCond .le 48, 3) := by decide +kernel
theorem dX4_writeNumber_9 : decode cX4_writeNumber 9 = .ok (.iload_n 2, 1) := by decide +kernel
theorem dX4_writeNumber_10 : decode cX4_writeNumber 10 = .ok (.ifCond .ne 13, 3) := by decide +kernel
theorem dX4_writeNumber_13 : decode cX4_writeNumber 13 = .ok (.iload_n 1, 1) := by decide +kernel
theorem dX4_writeNumber_14 : decode cX4_writeNumber 14 = .ok (.iload_n 3, 1) := by decide +kernel
theorem dX4_writeNumber_15 : decode cX4_writeNumber 15 = .ok (.if_icmp .ge 8, 3) := by decide +kernel
theorem dX4_writeNumber_18 : decode cX4_writeNumber 18 = .ok (.iload_n 3, 1) := by decide +kernel
theorem dX4_writeNumber_19 : decode cX4_writeNumber 19 = .ok (.iconst 1, 1) := by decide +kernel
theorem dX4_writeNumber_20 : decode cX4_writeNumber 20 = .ok (.if_icmp .ne 7, 3) := by decide +kernel
theorem dX4_writeNumber_23 : decode cX4_writeNumber 23 = .ok (.iconst 1, 1) := by decide +kernel
theorem dX4_writeNumber_24 : decode cX4_writeNumber 24 = .ok (.goto 4, 3) := by decide +kernel
theorem dX4_writeNumber_27 : decode cX4_writeNumber 27 = .ok (.iconst 0, 1) := by decide +kernel
theorem dX4_writeNumber_28 : decode cX4_writeNumber 28 = .ok (.istore_n 2, 1) := by decide +kernel
theorem dX4_writeNumber_29 : decode cX4_writeNumber 29 = .ok (.iload_n 2, 1) := by decide +kernel
theorem dX4_writeNumber_30 : decode cX4_writeNumber 30 = .ok (.ifCond .eq 16, 3) := by decide +kernel
theorem dX4_writeNumber_33 : decode cX4_writeNumber 33 = .ok (.aload_n 0, 1) := by decide +kernel
theorem dX4_writeNumber_34 : decode cX4_writeNumber 34 = .ok (.bipush 48, 2) := by decide +kernel
theorem dX4_writeNumber_36 : decode cX4_writeNumber 36 = .ok (.iload_n 1, 1) := by decide +kernel
theorem dX4_writeNumber_37 : decode cX4_writeNumber 37 = .ok (.iload_n 3, 1) := by decide +kernel
theorem dX4_writeNumber_38 : decode cX4_writeNumber 38 = .ok (.idiv, 1) := by decide +kernel
theorem dX4_writeNumber_39 : decode cX4_writeNumber 39 = .ok (.bipush 10, 2) := by decide +kernel
theorem dX4_writeNumber_41 : decode cX4_writeNumber 41 = .ok (.irem, 1) := by decide +kernel
theorem dX4_writeNumber_42 : decode cX4_writeNumber 42 = .ok (.iadd, 1) := by decide +kernel
theorem dX4_writeNumber_43 : decode cX4_writeNumber 43 = .ok (.invokevirtual 19, 3) := by decide +kernel
theorem dX4_writeNumber_46 : decode cX4_writeNumber 46 = .ok (.iload_n 3, 1) := by decide +kernel
theorem dX4_writeNumber_47 : decode cX4_writeNumber 47 = .ok (.bipush 10, 2) := by decide +kernel
theorem dX4_writeNumber_49 : decode cX4_writeNumber 49 = .ok (.idiv, 1) := by decide +kernel
theorem dX4_writeNumber_50 : decode cX4_writeNumber 50 = .ok (.istore_n 3, 1) := by decide +kernel
theorem dX4_writeNumber_51 : decode cX4_writeNumber 51 = .ok (.goto (-46), 3) := by decide +kernel
theorem dX4_writeNumber_54 : decode cX4_writeNumber 54 = .ok (.return_, 1) := by decide +kernel
theorem dX4_write_0 : decode cX4_write 0 = .ok (.aload_n 0, 1) := by decide +kernel
theorem dX4_write_1 : decode cX4_write 1 = .ok (.getfield 15, 3) := by decide +kernel
theorem dX4_write_4 : decode cX4_write 4 = .ok (.sipush 12480, 3) := by decide +kernel
theorem dX4_write_7 : decode cX4_write 7 = .ok (.if_icmp .lt 4, 3) := by decide +kernel
theorem dX4_write_10 : decode cX4_write 10 = .ok (.return_, 1) := by decide +kernel
theorem dX4_write_11 : decode cX4_write 11 = .ok (.aload_n 0, 1) := by decide +kernel
theorem dX4_write_12 : decode cX4_write 12 = .ok (.getfield 15, 3) := by decide +kernel
theorem dX4_write_15 : decode cX4_write 15 = .ok (.aload_n 0, 1) := by decide +kernel
theorem dX4_write_16 : decode cX4_write 16 = .ok (.getfield 11, 3) := by decide +kernel
theorem dX4_write_19 : decode cX4_write 19 = .ok (.arraylength, 1) := by decide +kernel
theorem dX4_write_20 : decode cX4_write 20 = .ok (.if_icmp .lt 21, 3) := by decide +kernel
theorem dX4_write_23 : decode cX4_write 23 = .ok (.aload_n 0, 1) := by decide +kernel
theorem dX4_write_24 : decode cX4_write 24 = .ok (.aload_n 0, 1) := by decide +kernel
theorem dX4_write_25 : decode cX4_write 25 = .ok (.getfield 11, 3) := by decide +kernel
theorem dX4_write_28 : decode cX4_write 28 = .ok (.iconst 2, 1) := by decide +kernel
theorem dX4_write_29 : decode cX4_write 29 = .ok (.aload_n 0, 1) := by decide +kernel
theorem dX4_write_30 : decode cX4_write 30 = .ok (.getfield 11, 3) := by decide +kernel
theorem dX4_write_33 : decode cX4_write 33 = .ok (.arraylength, 1) := by decide +kernel
theorem dX4_write_34 : decode cX4_write 34 = .ok (.imul, 1) := by decide +kernel
theorem dX4_write_35 : decode cX4_write 35 = .ok (.invokestatic 33, 3) := by decide +kernel
theorem dX4_write_38 : decode cX4_write 38 = .ok (.putfield 11, 3) := by decide +kernel
theorem dX4_write_41 : decode cX4_write 41 = .ok (.aload_n 0, 1) := by decide +kernel
theorem dX4_write_42 : decode cX4_write 42 = .ok (.getfield 11, 3) := by decide +kernel
theorem dX4_write_45 : decode cX4_write 45 = .ok (.aload_n 0, 1) := by decide +kernel
theorem dX4_write_46 : decode cX4_write 46 = .ok (.getfield 15, 3) := by decide +kernel
theorem dX4_write_49 : decode cX4_write 49 = .ok (.iload_n 1, 1) := by decide +kernel
theorem dX4_write_50 : decode cX4_write 50 = .ok (.i2b, 1) := by decide +kernel
theorem dX4_write_51 : decode cX4_write 51 = .ok (.bastore, 1) := by decide +kernel
theorem dX4_write_52 : decode cX4_write 52 = .ok (.aload_n 0, 1) := by decide +kernel
theorem dX4_write_53 : decode cX4_write 53 = .ok (.dup, 1) := by decide +kernel
theorem dX4_write_54 : decode cX4_write 54 = .ok (.getfield 15, 3) := by decide +kernel
theorem dX4_write_57 : decode cX4_write 57 = .ok (.iconst 1, 1) := by decide +kernel
theorem dX4_write_58 : decode cX4_write 58 = .ok (.iadd, 1) := by decide +kernel
theorem dX4_write_59 : decode cX4_write 59 = .ok (.putfield 15, 3) := by decide +kernel
theorem dX4_write_62 : decode cX4_write 62 = .ok (.return_, 1) := by decide +kernel
theorem dX5_init_0 : decode cX5_init 0 = .ok (.aload_n 0, 1) := by decide +kernel
theorem dX5_init_1 : decode cX5_init 1 = .ok (.invokespecial 3, 3) := by decide +kernel
theorem dX5_init_4 : decode cX5_init 4 = .ok (.aload_n 0, 1) := by decide +kernel
theorem dX5_init_5 : decode cX5_init 5 = .ok (.sipush 240, 3) := by decide +kernel
theorem dX5_init_8 : decode cX5_init 8 = .ok (.newarray .int, 2) := by decide +kernel
theorem dX5_init_10 : decode cX5_init 10 = .ok (.putfield 11, 3) := by decide +kernel
theorem dX5_init_13 : decode cX5_init 13 = .ok (.aload_n 0, 1) := by decide +kernel
theorem dX5_init_14 : decode cX5_init 14 = .ok (.iconst 0, 1) := by decide +kernel
theorem dX5_init_15 : decode cX5_init 15 = .ok (.putfield 15, 3) := by decide +kernel
theorem dX5_init_18 : decode cX5_init 18 = .ok (.return_, 1) := by decide +kernel
theorem dX5_keep_0 : decode cX5_keep 0 = .ok (.aload_n 0, 1) := by decide +kernel
theorem dX5_keep_1 : decode cX5_keep 1 = .ok (.getfield 15, 3) := by decide +kernel
theorem dX5_keep_4 : decode cX5_keep 4 = .ok (.bipush 60, 2) := by decide +kernel
theorem dX5_keep_6 : decode cX5_keep 6 = .ok (.if_icmp .lt 25, 3) := by decide +kernel
theorem dX5_keep_9 : decode cX5_keep 9 = .ok (.aload_n 0, 1) := by decide +kernel
theorem dX5_keep_10 : decode cX5_keep 10 = .ok (.getfield 11, 3) := by decide +kernel
theorem dX5_keep_13 : decode cX5_keep 13 = .ok (.iconst 4, 1) := by decide +kernel
theorem dX5_keep_14 : decode cX5_keep 14 = .ok (.aload_n 0, 1) := by decide +kernel
theorem dX5_keep_15 : decode cX5_keep 15 = .ok (.getfield 11, 3) := by decide +kernel
theorem dX5_keep_18 : decode cX5_keep 18 = .ok (.iconst 0, 1) := by decide +kernel
theorem dX5_keep_19 : decode cX5_keep 19 = .ok (.sipush 236, 3) := by decide +kernel
theorem dX5_keep_22 : decode cX5_keep 22 = .ok (.invokestatic 19, 3) := by decide +kernel
theorem dX5_keep_25 : decode cX5_keep 25 = .ok (.aload_n 0, 1) := by decide +kernel
theorem dX5_keep_26 : decode cX5_keep 26 = .ok (.bipush 59, 2) := by decide +kernel
theorem dX5_keep_28 : decode cX5_keep 28 = .ok (.putfield 15, 3) := by decide +kernel
theorem dX5_keep_31 : decode cX5_keep 31 = .ok (.aload_n 0, 1) := by decide +kernel
theorem dX5_keep_32 : decode cX5_keep 32 = .ok (.getfield 15, 3) := by decide +kernel
theorem dX5_keep_35 : decode cX5_keep 35 = .ok (.iconst 4, 1) := by decide +kernel
theorem dX5_keep_36 : decode cX5_keep 36 = .ok (.imul, 1) := by decide +kernel
theorem dX5_keep_37 : decode cX5_keep 37 = .ok (.istore 5, 2) := by decide +kernel
theorem dX5_keep_39 : decode cX5_keep 39 = .ok (.aload_n 0, 1) := by decide +kernel
theorem dX5_keep_40 : decode cX5_keep 40 = .ok (.getfield 11, 3) := by decide +kernel
theorem dX5_keep_43 : decode cX5_keep 43 = .ok (.iload 5, 2) := by decide +kernel
theorem dX5_keep_45 : decode cX5_keep 45 = .ok (.iload_n 1, 1) := by decide +kernel
theorem dX5_keep_46 : decode cX5_keep 46 = .ok (.ifCond .eq 7, 3) := by decide +kernel
theorem dX5_keep_49 : decode cX5_keep 49 = .ok (.iconst 1, 1) := by decide +kernel
theorem dX5_keep_50 : decode cX5_keep 50 = .ok (.goto 4, 3) := by decide +kernel
theorem dX5_keep_53 : decode cX5_keep 53 = .ok (.iconst 0, 1) := by decide +kernel
theorem dX5_keep_54 : decode cX5_keep 54 = .ok (.iastore, 1) := by decide +kernel
theorem dX5_keep_55 : decode cX5_keep 55 = .ok (.aload_n 0, 1) := by decide +kernel
theorem dX5_keep_56 : decode cX5_keep 56 = .ok (.getfield 11, 3) := by decide +kernel
theorem dX5_keep_59 : decode cX5_keep 59 = .ok (.iload 5, 2) := by decide +kernel
theorem dX5_keep_61 : decode cX5_keep 61 = .ok (.iconst 1, 1) := by decide +kernel
theorem dX5_keep_62 : decode cX5_keep 62 = .ok (.iadd, 1) := by decide +kernel
theorem dX5_keep_63 : decode cX5_keep 63 = .ok (.iload_n 2, 1) := by decide +kernel
theorem dX5_keep_64 : decode cX5_keep 64 = .ok (.iastore, 1) := by decide +kernel
theorem dX5_keep_65 : decode cX5_keep 65 = .ok (.aload_n 0, 1) := by decide +kernel
theorem dX5_keep_66 : decode cX5_keep 66 = .ok (.getfield 11, 3) := by decide +kernel
theorem dX5_keep_69 : decode cX5_keep 69 = .ok (.iload 5, 2) := by decide +kernel
theorem dX5_keep_71 : decode cX5_keep 71 = .ok (.iconst 2, 1) := by decide +kernel
theorem dX5_keep_72 : decode cX5_keep 72 = .ok (.iadd, 1) := by decide +kernel
theorem dX5_keep_73 : decode cX5_keep 73 = .ok (.iload_n 3, 1) := by decide +kernel
theorem dX5_keep_74 : decode cX5_keep 74 = .ok (.iastore, 1) := by decide +kernel
theorem dX5_keep_75 : decode cX5_keep 75 = .ok (.aload_n 0, 1) := by decide +kernel
theorem dX5_keep_76 : decode cX5_keep 76 = .ok (.getfield 11, 3) := by decide +kernel
theorem dX5_keep_79 : decode cX5_keep 79 = .ok (.iload 5, 2) := by decide +kernel
theorem dX5_keep_81 : decode cX5_keep 81 = .ok (.iconst 3, 1) := by decide +kernel
theorem dX5_keep_82 : decode cX5_keep 82 = .ok (.iadd, 1) := by decide +kernel
theorem dX5_keep_83 : decode cX5_keep 83 = .ok (.iload 4, 2) := by decide +kernel
theorem dX5_keep_85 : decode cX5_keep 85 = .ok (.iastore, 1) := by decide +kernel
theorem dX5_keep_86 : decode cX5_keep 86 = .ok (.aload_n 0, 1) := by decide +kernel
theorem dX5_keep_87 : decode cX5_keep 87 = .ok (.dup, 1) := by decide +kernel
theorem dX5_keep_88 : decode cX5_keep 88 = .ok (.getfield 15, 3) := by decide +kernel
theorem dX5_keep_91 : decode cX5_keep 91 = .ok (.iconst 1, 1) := by decide +kernel
theorem dX5_keep_92 : decode cX5_keep 92 = .ok (.iadd, 1) := by decide +kernel
theorem dX5_keep_93 : decode cX5_keep 93 = .ok (.putfield 15, 3) := by decide +kernel
theorem dX5_keep_96 : decode cX5_keep 96 = .ok (.return_, 1) := by decide +kernel
theorem dX5_hadCome_0 : decode cX5_hadCome 0 = .ok (.aload_n 0, 1) := by decide +kernel
theorem dX5_hadCome_1 : decode cX5_hadCome 1 = .ok (.getfield 11, 3) := by decide +kernel
theorem dX5_hadCome_4 : decode cX5_hadCome 4 = .ok (.iload_n 1, 1) := by decide +kernel
theorem dX5_hadCome_5 : decode cX5_hadCome 5 = .ok (.iconst 4, 1) := by decide +kernel
theorem dX5_hadCome_6 : decode cX5_hadCome 6 = .ok (.imul, 1) := by decide +kernel
theorem dX5_hadCome_7 : decode cX5_hadCome 7 = .ok (.iaload, 1) := by decide +kernel
theorem dX5_hadCome_8 : decode cX5_hadCome 8 = .ok (.iconst 1, 1) := by decide +kernel
theorem dX5_hadCome_9 : decode cX5_hadCome 9 = .ok (.if_icmp .ne 7, 3) := by decide +kernel
theorem dX5_hadCome_12 : decode cX5_hadCome 12 = .ok (.iconst 1, 1) := by decide +kernel
theorem dX5_hadCome_13 : decode cX5_hadCome 13 = .ok (.goto 4, 3) := by decide +kernel
theorem dX5_hadCome_16 : decode cX5_hadCome 16 = .ok (.iconst 0, 1) := by decide +kernel
theorem dX5_hadCome_17 : decode cX5_hadCome 17 = .ok (.ireturn, 1) := by decide +kernel
theorem dX5_firstOf_0 : decode cX5_firstOf 0 = .ok (.aload_n 0, 1) := by decide +kernel
theorem dX5_firstOf_1 : decode cX5_firstOf 1 = .ok (.getfield 11, 3) := by decide +kernel
theorem dX5_firstOf_4 : decode cX5_firstOf 4 = .ok (.iload_n 1, 1) := by decide +kernel
theorem dX5_firstOf_5 : decode cX5_firstOf 5 = .ok (.iconst 4, 1) := by decide +kernel
theorem dX5_firstOf_6 : decode cX5_firstOf 6 = .ok (.imul, 1) := by decide +kernel
theorem dX5_firstOf_7 : decode cX5_firstOf 7 = .ok (.iconst 1, 1) := by decide +kernel
theorem dX5_firstOf_8 : decode cX5_firstOf 8 = .ok (.iadd, 1) := by decide +kernel
theorem dX5_firstOf_9 : decode cX5_firstOf 9 = .ok (.iaload, 1) := by decide +kernel
theorem dX5_firstOf_10 : decode cX5_firstOf 10 = .ok (.ireturn, 1) := by decide +kernel
theorem dX5_secondOf_0 : decode cX5_secondOf 0 = .ok (.aload_n 0, 1) := by decide +kernel
theorem dX5_secondOf_1 : decode cX5_secondOf 1 = .ok (.getfield 11, 3) := by decide +kernel
theorem dX5_secondOf_4 : decode cX5_secondOf 4 = .ok (.iload_n 1, 1) := by decide +kernel
theorem dX5_secondOf_5 : decode cX5_secondOf 5 = .ok (.iconst 4, 1) := by decide +kernel
theorem dX5_secondOf_6 : decode cX5_secondOf 6 = .ok (.imul, 1) := by decide +kernel
theorem dX5_secondOf_7 : decode cX5_secondOf 7 = .ok (.iconst 2, 1) := by decide +kernel
theorem dX5_secondOf_8 : decode cX5_secondOf 8 = .ok (.iadd, 1) := by decide +kernel
theorem dX5_secondOf_9 : decode cX5_secondOf 9 = .ok (.iaload, 1) := by decide +kernel
theorem dX5_secondOf_10 : decode cX5_secondOf 10 = .ok (.ireturn, 1) := by decide +kernel
theorem dX5_worthOf_0 : decode cX5_worthOf 0 = .ok (.aload_n 0, 1) := by decide +kernel
theorem dX5_worthOf_1 : decode cX5_worthOf 1 = .ok (.getfield 11, 3) := by decide +kernel
theorem dX5_worthOf_4 : decode cX5_worthOf 4 = .ok (.iload_n 1, 1) := by decide +kernel
theorem dX5_worthOf_5 : decode cX5_worthOf 5 = .ok (.iconst 4, 1) := by decide +kernel
theorem dX5_worthOf_6 : decode cX5_worthOf 6 = .ok (.imul, 1) := by decide +kernel
theorem dX5_worthOf_7 : decode cX5_worthOf 7 = .ok (.iconst 3, 1) := by decide +kernel
theorem dX5_worthOf_8 : decode cX5_worthOf 8 = .ok (.iadd, 1) := by decide +kernel
theorem dX5_worthOf_9 : decode cX5_worthOf 9 = .ok (.iaload, 1) := by decide +kernel
theorem dX5_worthOf_10 : decode cX5_worthOf 10 = .ok (.ireturn, 1) := by decide +kernel
theorem dX5_become_0 : decode cX5_become 0 = .ok (.aload_n 1, 1) := by decide +kernel
theorem dX5_become_1 : decode cX5_become 1 = .ok (.getfield 11, 3) := by decide +kernel
theorem dX5_become_4 : decode cX5_become 4 = .ok (.iconst 0, 1) := by decide +kernel
theorem dX5_become_5 : decode cX5_become 5 = .ok (.aload_n 0, 1) := by decide +kernel
theorem dX5_become_6 : decode cX5_become 6 = .ok (.getfield 11, 3) := by decide +kernel
theorem dX5_become_9 : decode cX5_become 9 = .ok (.iconst 0, 1) := by decide +kernel
theorem dX5_become_10 : decode cX5_become 10 = .ok (.aload_n 0, 1) := by decide +kernel
theorem dX5_become_11 : decode cX5_become 11 = .ok (.getfield 11, 3) := by decide +kernel
theorem dX5_become_14 : decode cX5_become 14 = .ok (.arraylength, 1) := by decide +kernel
theorem dX5_become_15 : decode cX5_become 15 = .ok (.invokestatic 19, 3) := by decide +kernel
theorem dX5_become_18 : decode cX5_become 18 = .ok (.aload_n 0, 1) := by decide +kernel
theorem dX5_become_19 : decode cX5_become 19 = .ok (.aload_n 1, 1) := by decide +kernel
theorem dX5_become_20 : decode cX5_become 20 = .ok (.getfield 15, 3) := by decide +kernel
theorem dX5_become_23 : decode cX5_become 23 = .ok (.putfield 15, 3) := by decide +kernel
theorem dX5_become_26 : decode cX5_become 26 = .ok (.return_, 1) := by decide +kernel
theorem dX6_init_0 : decode cX6_init 0 = .ok (.aload_n 0, 1) := by decide +kernel
theorem dX6_init_1 : decode cX6_init 1 = .ok (.invokespecial 3, 3) := by decide +kernel
theorem dX6_init_4 : decode cX6_init 4 = .ok (.aload_n 0, 1) := by decide +kernel
theorem dX6_init_5 : decode cX6_init 5 = .ok (.bipush 40, 2) := by decide +kernel
theorem dX6_init_7 : decode cX6_init 7 = .ok (.newarray .long, 2) := by decide +kernel
theorem dX6_init_9 : decode cX6_init 9 = .ok (.putfield 9, 3) := by decide +kernel
theorem dX6_init_12 : decode cX6_init 12 = .ok (.aload_n 0, 1) := by decide +kernel
theorem dX6_init_13 : decode cX6_init 13 = .ok (.bipush 40, 2) := by decide +kernel
theorem dX6_init_15 : decode cX6_init 15 = .ok (.newarray .long, 2) := by decide +kernel
theorem dX6_init_17 : decode cX6_init 17 = .ok (.putfield 15, 3) := by decide +kernel
theorem dX6_init_20 : decode cX6_init 20 = .ok (.aload_n 0, 1) := by decide +kernel
theorem dX6_init_21 : decode cX6_init 21 = .ok (.sipush 1600, 3) := by decide +kernel
theorem dX6_init_24 : decode cX6_init 24 = .ok (.newarray .int, 2) := by decide +kernel
theorem dX6_init_26 : decode cX6_init 26 = .ok (.putfield 18, 3) := by decide +kernel
theorem dX6_init_29 : decode cX6_init 29 = .ok (.aload_n 0, 1) := by decide +kernel
theorem dX6_init_30 : decode cX6_init 30 = .ok (.sipush 1600, 3) := by decide +kernel
theorem dX6_init_33 : decode cX6_init 33 = .ok (.newarray .int, 2) := by decide +kernel
theorem dX6_init_35 : decode cX6_init 35 = .ok (.putfield 22, 3) := by decide +kernel
theorem dX6_init_38 : decode cX6_init 38 = .ok (.aload_n 0, 1) := by decide +kernel
theorem dX6_init_39 : decode cX6_init 39 = .ok (.sipush 1600, 3) := by decide +kernel
theorem dX6_init_42 : decode cX6_init 42 = .ok (.newarray .int, 2) := by decide +kernel
theorem dX6_init_44 : decode cX6_init 44 = .ok (.putfield 25, 3) := by decide +kernel
theorem dX6_init_47 : decode cX6_init 47 = .ok (.aload_n 0, 1) := by decide +kernel
theorem dX6_init_48 : decode cX6_init 48 = .ok (.sipush 780, 3) := by decide +kernel
theorem dX6_init_51 : decode cX6_init 51 = .ok (.newarray .int, 2) := by decide +kernel
theorem dX6_init_53 : decode cX6_init 53 = .ok (.putfield 28, 3) := by decide +kernel
theorem dX6_init_56 : decode cX6_init 56 = .ok (.aload_n 0, 1) := by decide +kernel
theorem dX6_init_57 : decode cX6_init 57 = .ok (.sipush 780, 3) := by decide +kernel
theorem dX6_init_60 : decode cX6_init 60 = .ok (.newarray .int, 2) := by decide +kernel
theorem dX6_init_62 : decode cX6_init 62 = .ok (.putfield 31, 3) := by decide +kernel
theorem dX6_init_65 : decode cX6_init 65 = .ok (.aload_n 0, 1) := by decide +kernel
theorem dX6_init_66 : decode cX6_init 66 = .ok (.sipush 1600, 3) := by decide +kernel
theorem dX6_init_69 : decode cX6_init 69 = .ok (.newarray .int, 2) := by decide +kernel
theorem dX6_init_71 : decode cX6_init 71 = .ok (.putfield 34, 3) := by decide +kernel
theorem dX6_init_74 : decode cX6_init 74 = .ok (.aload_n 0, 1) := by decide +kernel
theorem dX6_init_75 : decode cX6_init 75 = .ok (.iconst 0, 1) := by decide +kernel
theorem dX6_init_76 : decode cX6_init 76 = .ok (.putfield 37, 3) := by decide +kernel
theorem dX6_init_79 : decode cX6_init 79 = .ok (.return_, 1) := by decide +kernel
theorem dX6_follow_0 : decode cX6_follow 0 = .ok (.iconst 1, 1) := by decide +kernel
theorem dX6_follow_1 : decode cX6_follow 1 = .ok (.istore_n 2, 1) := by decide +kernel
theorem dX6_follow_2 : decode cX6_follow 2 = .ok (.iconst 0, 1) := by decide +kernel
theorem dX6_follow_3 : decode cX6_follow 3 = .ok (.istore_n 3, 1) := by decide +kernel
theorem dX6_follow_4 : decode cX6_follow 4 = .ok (.iload_n 3, 1) := by decide +kernel
theorem dX6_follow_5 : decode cX6_follow 5 = .ok (.bipush 40, 2) := by decide +kernel
theorem dX6_follow_7 : decode cX6_follow 7 = .ok (.if_icmp .ge 32, 3) := by decide +kernel
theorem dX6_follow_10 : decode cX6_follow 10 = .ok (.iload_n 2, 1) := by decide +kernel
theorem dX6_follow_11 : decode cX6_follow 11 = .ok (.ifCond .eq 20, 3) := by decide +kernel
theorem dX6_follow_14 : decode cX6_follow 14 = .ok (.aload_n 0, 1) := by decide +kernel
theorem dX6_follow_15 : decode cX6_follow 15 = .ok (.getfield 9, 3) := by decide +kernel
theorem dX6_follow_18 : decode cX6_follow 18 = .ok (.iload_n 3, 1) := by decide +kernel
theorem dX6_follow_19 : decode cX6_follow 19 = .ok (.laload, 1) := by decide +kernel
theorem dX6_follow_20 : decode cX6_follow 20 = .ok (.aload_n 1, 1) := by decide +kernel
theorem dX6_follow_21 : decode cX6_follow 21 = .ok (.iload_n 3, 1) := by decide +kernel
theorem dX6_follow_22 : decode cX6_follow 22 = .ok (.laload, 1) := by decide +kernel
theorem dX6_follow_23 : decode cX6_follow 23 = .ok (.lcmp, 1) := by decide +kernel
theorem dX6_follow_24 : decode cX6_follow 24 = .ok (.ifCond .ne 7, 3) := by decide +kernel
theorem dX6_follow_27 : decode cX6_follow 27 = .ok (.iconst 1, 1) := by decide +kernel
theorem dX6_follow_28 : decode cX6_follow 28 = .ok (.goto 4, 3) := by decide +kernel
theorem dX6_follow_31 : decode cX6_follow 31 = .ok (.iconst 0, 1) := by decide +kernel
theorem dX6_follow_32 : decode cX6_follow 32 = .ok (.istore_n 2, 1) := by decide +kernel
theorem dX6_follow_33 : decode cX6_follow 33 = .ok (.iinc 3 1, 3) := by decide +kernel
theorem dX6_follow_36 : decode cX6_follow 36 = .ok (.goto (-32), 3) := by decide +kernel
theorem dX6_follow_39 : decode cX6_follow 39 = .ok (.iload_n 2, 1) := by decide +kernel
theorem dX6_follow_40 : decode cX6_follow 40 = .ok (.ifCond .ne 23, 3) := by decide +kernel
theorem dX6_follow_43 : decode cX6_follow 43 = .ok (.aload_n 1, 1) := by decide +kernel
theorem dX6_follow_44 : decode cX6_follow 44 = .ok (.iconst 0, 1) := by decide +kernel
theorem dX6_follow_45 : decode cX6_follow 45 = .ok (.aload_n 0, 1) := by decide +kernel
theorem dX6_follow_46 : decode cX6_follow 46 = .ok (.getfield 9, 3) := by decide +kernel
theorem dX6_follow_49 : decode cX6_follow 49 = .ok (.iconst 0, 1) := by decide +kernel
theorem dX6_follow_50 : decode cX6_follow 50 = .ok (.bipush 40, 2) := by decide +kernel
theorem dX6_follow_52 : decode cX6_follow 52 = .ok (.invokestatic 41, 3) := by decide +kernel
theorem dX6_follow_55 : decode cX6_follow 55 = .ok (.aload_n 0, 1) := by decide +kernel
theorem dX6_follow_56 : decode cX6_follow 56 = .ok (.invokevirtual 47, 3) := by decide +kernel
theorem dX6_follow_59 : decode cX6_follow 59 = .ok (.aload_n 0, 1) := by decide +kernel
theorem dX6_follow_60 : decode cX6_follow 60 = .ok (.invokevirtual 50, 3) := by decide +kernel
theorem dX6_follow_63 : decode cX6_follow 63 = .ok (.return_, 1) := by decide +kernel
theorem dX6_gather_0 : decode cX6_gather 0 = .ok (.aload_n 0, 1) := by decide +kernel
theorem dX6_gather_1 : decode cX6_gather 1 = .ok (.getfield 9, 3) := by decide +kernel
theorem dX6_gather_4 : decode cX6_gather 4 = .ok (.iconst 0, 1) := by decide +kernel
theorem dX6_gather_5 : decode cX6_gather 5 = .ok (.aload_n 0, 1) := by decide +kernel
theorem dX6_gather_6 : decode cX6_gather 6 = .ok (.getfield 15, 3) := by decide +kernel
theorem dX6_gather_9 : decode cX6_gather 9 = .ok (.iconst 0, 1) := by decide +kernel
theorem dX6_gather_10 : decode cX6_gather 10 = .ok (.bipush 40, 2) := by decide +kernel
theorem dX6_gather_12 : decode cX6_gather 12 = .ok (.invokestatic 41, 3) := by decide +kernel
theorem dX6_gather_15 : decode cX6_gather 15 = .ok (.aload_n 0, 1) := by decide +kernel
theorem dX6_gather_16 : decode cX6_gather 16 = .ok (.iconst 0, 1) := by decide +kernel
theorem dX6_gather_17 : decode cX6_gather 17 = .ok (.putfield 37, 3) := by decide +kernel
theorem dX6_gather_20 : decode cX6_gather 20 = .ok (.iconst 0, 1) := by decide +kernel
theorem dX6_gather_21 : decode cX6_gather 21 = .ok (.istore_n 1, 1) := by decide +kernel
theorem dX6_gather_22 : decode cX6_gather 22 = .ok (.iload_n 1, 1) := by decide +kernel
theorem dX6_gather_23 : decode cX6_gather 23 = .ok (.bipush 40, 2) := by decide +kernel
theorem dX6_gather_25 : decode cX6_gather 25 = .ok (.if_icmp .ge 89, 3) := by decide +kernel
theorem dX6_gather_28 : decode cX6_gather 28 = .ok (.iload_n 1, 1) := by decide +kernel
theorem dX6_gather_29 : decode cX6_gather 29 = .ok (.iconst 1, 1) := by decide +kernel
theorem dX6_gather_30 : decode cX6_gather 30 = .ok (.iadd, 1) := by decide +kernel
theorem dX6_gather_31 : decode cX6_gather 31 = .ok (.istore_n 2, 1) := by decide +kernel
theorem dX6_gather_32 : decode cX6_gather 32 = .ok (.iload_n 2, 1) := by decide +kernel
theorem dX6_gather_33 : decode cX6_gather 33 = .ok (.bipush 40, 2) := by decide +kernel
theorem dX6_gather_35 : decode cX6_gather 35 = .ok (.if_icmp .ge 73, 3) := by decide +kernel
theorem dX6_gather_38 : decode cX6_gather 38 = .ok (.aload_n 0, 1) := by decide +kernel
theorem dX6_gather_39 : decode cX6_gather 39 = .ok (.getfield 9, 3) := by decide +kernel
theorem dX6_gather_42 : decode cX6_gather 42 = .ok (.iload_n 1, 1) := by decide +kernel
theorem dX6_gather_43 : decode cX6_gather 43 = .ok (.laload, 1) := by decide +kernel
theorem dX6_gather_44 : decode cX6_gather 44 = .ok (.iload_n 2, 1) := by decide +kernel
theorem dX6_gather_45 : decode cX6_gather 45 = .ok (.invokestatic 53, 3) := by decide +kernel
theorem dX6_gather_48 : decode cX6_gather 48 = .ok (.ifCond .eq 54, 3) := by decide +kernel
theorem dX6_gather_51 : decode cX6_gather 51 = .ok (.aload_n 0, 1) := by decide +kernel
theorem dX6_gather_52 : decode cX6_gather 52 = .ok (.getfield 37, 3) := by decide +kernel
theorem dX6_gather_55 : decode cX6_gather 55 = .ok (.sipush 780, 3) := by decide +kernel
theorem dX6_gather_58 : decode cX6_gather 58 = .ok (.if_icmp .ge 44, 3) := by decide +kernel
theorem dX6_gather_61 : decode cX6_gather 61 = .ok (.iload_n 1, 1) := by decide +kernel
theorem dX6_gather_62 : decode cX6_gather 62 = .ok (.iload_n 2, 1) := by decide +kernel
theorem dX6_gather_63 : decode cX6_gather 63 = .ok (.invokestatic 57, 3) := by decide +kernel
theorem dX6_gather_66 : decode cX6_gather 66 = .ok (.istore_n 3, 1) := by decide +kernel
theorem dX6_gather_67 : decode cX6_gather 67 = .ok (.aload_n 0, 1) := by decide +kernel
theorem dX6_gather_68 : decode cX6_gather 68 = .ok (.getfield 28, 3) := by decide +kernel
theorem dX6_gather_71 : decode cX6_gather 71 = .ok (.aload_n 0, 1) := by decide +kernel
theorem dX6_gather_72 : decode cX6_gather 72 = .ok (.getfield 37, 3) := by decide +kernel
theorem dX6_gather_75 : decode cX6_gather 75 = .ok (.iload_n 3, 1) := by decide +kernel
theorem dX6_gather_76 : decode cX6_gather 76 = .ok (.iastore, 1) := by decide +kernel
theorem dX6_gather_77 : decode cX6_gather 77 = .ok (.aload_n 0, 1) := by decide +kernel
theorem dX6_gather_78 : decode cX6_gather 78 = .ok (.getfield 18, 3) := by decide +kernel
theorem dX6_gather_81 : decode cX6_gather 81 = .ok (.iload_n 3, 1) := by decide +kernel
theorem dX6_gather_82 : decode cX6_gather 82 = .ok (.aload_n 0, 1) := by decide +kernel
theorem dX6_gather_83 : decode cX6_gather 83 = .ok (.getfield 9, 3) := by decide +kernel
theorem dX6_gather_86 : decode cX6_gather 86 = .ok (.iload_n 1, 1) := by decide +kernel
theorem dX6_gather_87 : decode cX6_gather 87 = .ok (.iload_n 2, 1) := by decide +kernel
theorem dX6_gather_88 : decode cX6_gather 88 = .ok (.invokestatic 61, 3) := by decide +kernel
theorem dX6_gather_91 : decode cX6_gather 91 = .ok (.iastore, 1) := by decide +kernel
theorem dX6_gather_92 : decode cX6_gather 92 = .ok (.aload_n 0, 1) := by decide +kernel
theorem dX6_gather_93 : decode cX6_gather 93 = .ok (.dup, 1) := by decide +kernel
theorem dX6_gather_94 : decode cX6_gather 94 = .ok (.getfield 37, 3) := by decide +kernel
theorem dX6_gather_97 : decode cX6_gather 97 = .ok (.iconst 1, 1) := by decide +kernel
theorem dX6_gather_98 : decode cX6_gather 98 = .ok (.iadd, 1) := by decide +kernel
theorem dX6_gather_99 : decode cX6_gather 99 = .ok (.putfield 37, 3) := by decide +kernel
theorem dX6_gather_102 : decode cX6_gather 102 = .ok (.iinc 2 1, 3) := by decide +kernel
theorem dX6_gather_105 : decode cX6_gather 105 = .ok (.goto (-73), 3) := by decide +kernel
theorem dX6_gather_108 : decode cX6_gather 108 = .ok (.iinc 1 1, 3) := by decide +kernel
theorem dX6_gather_111 : decode cX6_gather 111 = .ok (.goto (-89), 3) := by decide +kernel
theorem dX6_gather_114 : decode cX6_gather 114 = .ok (.return_, 1) := by decide +kernel
theorem dX6_peel_0 : decode cX6_peel 0 = .ok (.iconst 2, 1) := by decide +kernel
theorem dX6_peel_1 : decode cX6_peel 1 = .ok (.istore_n 1, 1) := by decide +kernel
theorem dX6_peel_2 : decode cX6_peel 2 = .ok (.iconst 0, 1) := by decide +kernel
theorem dX6_peel_3 : decode cX6_peel 3 = .ok (.istore_n 2, 1) := by decide +kernel
theorem dX6_peel_4 : decode cX6_peel 4 = .ok (.iload_n 2, 1) := by decide +kernel
theorem dX6_peel_5 : decode cX6_peel 5 = .ok (.aload_n 0, 1) := by decide +kernel
theorem dX6_peel_6 : decode cX6_peel 6 = .ok (.getfield 37, 3) := by decide +kernel
theorem dX6_peel_9 : decode cX6_peel 9 = .ok (.if_icmp .ge 87, 3) := by decide +kernel
theorem dX6_peel_12 : decode cX6_peel 12 = .ok (.aload_n 0, 1) := by decide +kernel
theorem dX6_peel_13 : decode cX6_peel 13 = .ok (.iload_n 2, 1) := by decide +kernel
theorem dX6_peel_14 : decode cX6_peel 14 = .ok (.invokevirtual 67, 3) := by decide +kernel
theorem dX6_peel_17 : decode cX6_peel 17 = .ok (.istore_n 3, 1) := by decide +kernel
theorem dX6_peel_18 : decode cX6_peel 18 = .ok (.aload_n 0, 1) := by decide +kernel
theorem dX6_peel_19 : decode cX6_peel 19 = .ok (.getfield 28, 3) := by decide +kernel
theorem dX6_peel_22 : decode cX6_peel 22 = .ok (.iload_n 3, 1) := by decide +kernel
theorem dX6_peel_23 : decode cX6_peel 23 = .ok (.iaload, 1) := by decide +kernel
theorem dX6_peel_24 : decode cX6_peel 24 = .ok (.istore 4, 2) := by decide +kernel
theorem dX6_peel_26 : decode cX6_peel 26 = .ok (.aload_n 0, 1) := by decide +kernel
theorem dX6_peel_27 : decode cX6_peel 27 = .ok (.getfield 28, 3) := by decide +kernel
theorem dX6_peel_30 : decode cX6_peel 30 = .ok (.iload_n 3, 1) := by decide +kernel
theorem dX6_peel_31 : decode cX6_peel 31 = .ok (.aload_n 0, 1) := by decide +kernel
theorem dX6_peel_32 : decode cX6_peel 32 = .ok (.getfield 28, 3) := by decide +kernel
theorem dX6_peel_35 : decode cX6_peel 35 = .ok (.iload_n 2, 1) := by decide +kernel
theorem dX6_peel_36 : decode cX6_peel 36 = .ok (.iaload, 1) := by decide +kernel
theorem dX6_peel_37 : decode cX6_peel 37 = .ok (.iastore, 1) := by decide +kernel
theorem dX6_peel_38 : decode cX6_peel 38 = .ok (.aload_n 0, 1) := by decide +kernel
theorem dX6_peel_39 : decode cX6_peel 39 = .ok (.getfield 28, 3) := by decide +kernel
theorem dX6_peel_42 : decode cX6_peel 42 = .ok (.iload_n 2, 1) := by decide +kernel
theorem dX6_peel_43 : decode cX6_peel 43 = .ok (.iload 4, 2) := by decide +kernel
theorem dX6_peel_45 : decode cX6_peel 45 = .ok (.iastore, 1) := by decide +kernel
theorem dX6_peel_46 : decode cX6_peel 46 = .ok (.iload_n 1, 1) := by decide +kernel
theorem dX6_peel_47 : decode cX6_peel 47 = .ok (.aload_n 0, 1) := by decide +kernel
theorem dX6_peel_48 : decode cX6_peel 48 = .ok (.getfield 18, 3) := by decide +kernel
theorem dX6_peel_51 : decode cX6_peel 51 = .ok (.iload 4, 2) := by decide +kernel
theorem dX6_peel_53 : decode cX6_peel 53 = .ok (.iaload, 1) := by decide +kernel
theorem dX6_peel_54 : decode cX6_peel 54 = .ok (.iconst 2, 1) := by decide +kernel
theorem dX6_peel_55 : decode cX6_peel 55 = .ok (.iadd, 1) := by decide +kernel
theorem dX6_peel_56 : decode cX6_peel 56 = .ok (.invokestatic 71, 3) := by decide +kernel
theorem dX6_peel_59 : decode cX6_peel 59 = .ok (.istore_n 1, 1) := by decide +kernel
theorem dX6_peel_60 : decode cX6_peel 60 = .ok (.aload_n 0, 1) := by decide +kernel
theorem dX6_peel_61 : decode cX6_peel 61 = .ok (.getfield 22, 3) := by decide +kernel
theorem dX6_peel_64 : decode cX6_peel 64 = .ok (.iload 4, 2) := by decide +kernel
theorem dX6_peel_66 : decode cX6_peel 66 = .ok (.iload_n 1, 1) := by decide +kernel
theorem dX6_peel_67 : decode cX6_peel 67 = .ok (.iastore, 1) := by decide +kernel
theorem dX6_peel_68 : decode cX6_peel 68 = .ok (.aload_n 0, 1) := by decide +kernel
theorem dX6_peel_69 : decode cX6_peel 69 = .ok (.getfield 25, 3) := by decide +kernel
theorem dX6_peel_72 : decode cX6_peel 72 = .ok (.iload 4, 2) := by decide +kernel
theorem dX6_peel_74 : decode cX6_peel 74 = .ok (.iload_n 2, 1) := by decide +kernel
theorem dX6_peel_75 : decode cX6_peel 75 = .ok (.iastore, 1) := by decide +kernel
theorem dX6_peel_76 : decode cX6_peel 76 = .ok (.aload_n 0, 1) := by decide +kernel
theorem dX6_peel_77 : decode cX6_peel 77 = .ok (.iload 4, 2) := by decide +kernel
theorem dX6_peel_79 : decode cX6_peel 79 = .ok (.bipush 40, 2) := by decide +kernel
theorem dX6_peel_81 : decode cX6_peel 81 = .ok (.idiv, 1) := by decide +kernel
theorem dX6_peel_82 : decode cX6_peel 82 = .ok (.iload 4, 2) := by decide +kernel
theorem dX6_peel_84 : decode cX6_peel 84 = .ok (.bipush 40, 2) := by decide +kernel
theorem dX6_peel_86 : decode cX6_peel 86 = .ok (.irem, 1) := by decide +kernel
theorem dX6_peel_87 : decode cX6_peel 87 = .ok (.invokevirtual 76, 3) := by decide +kernel
theorem dX6_peel_90 : decode cX6_peel 90 = .ok (.iinc 2 1, 3) := by decide +kernel
theorem dX6_peel_93 : decode cX6_peel 93 = .ok (.goto (-89), 3) := by decide +kernel
theorem dX6_peel_96 : decode cX6_peel 96 = .ok (.return_, 1) := by decide +kernel
theorem dX6_leastFrom_0 : decode cX6_leastFrom 0 = .ok (.iload_n 1, 1) := by decide +kernel
theorem dX6_leastFrom_1 : decode cX6_leastFrom 1 = .ok (.istore_n 2, 1) := by decide +kernel
theorem dX6_leastFrom_2 : decode cX6_leastFrom 2 = .ok (.iload_n 1, 1) := by decide +kernel
theorem dX6_leastFrom_3 : decode cX6_leastFrom 3 = .ok (.iconst 1, 1) := by decide +kernel
theorem dX6_leastFrom_4 : decode cX6_leastFrom 4 = .ok (.iadd, 1) := by decide +kernel
theorem dX6_leastFrom_5 : decode cX6_leastFrom 5 = .ok (.istore_n 3, 1) := by decide +kernel
theorem dX6_leastFrom_6 : decode cX6_leastFrom 6 = .ok (.iload_n 3, 1) := by decide +kernel
theorem dX6_leastFrom_7 : decode cX6_leastFrom 7 = .ok (.aload_n 0, 1) := by decide +kernel
theorem dX6_leastFrom_8 : decode cX6_leastFrom 8 = .ok (.getfield 37, 3) := by decide +kernel
theorem dX6_leastFrom_11 : decode cX6_leastFrom 11 = .ok (.if_icmp .ge 61, 3) := by decide +kernel
theorem dX6_leastFrom_14 : decode cX6_leastFrom 14 = .ok (.aload_n 0, 1) := by decide +kernel
theorem dX6_leastFrom_15 : decode cX6_leastFrom 15 = .ok (.getfield 18, 3) := by decide +kernel
theorem dX6_leastFrom_18 : decode cX6_leastFrom 18 = .ok (.aload_n 0, 1) := by decide +kernel
theorem dX6_leastFrom_19 : decode cX6_leastFrom 19 = .ok (.getfield 28, 3) := by decide +kernel
theorem dX6_leastFrom_22 : decode cX6_leastFrom 22 = .ok (.iload_n 3, 1) := by decide +kernel
theorem dX6_leastFrom_23 : decode cX6_leastFrom 23 = .ok (.iaload, 1) := by decide +kernel
theorem dX6_leastFrom_24 : decode cX6_leastFrom 24 = .ok (.iaload, 1) := by decide +kernel
theorem dX6_leastFrom_25 : decode cX6_leastFrom 25 = .ok (.aload_n 0, 1) := by decide +kernel
theorem dX6_leastFrom_26 : decode cX6_leastFrom 26 = .ok (.getfield 18, 3) := by decide +kernel
theorem dX6_leastFrom_29 : decode cX6_leastFrom 29 = .ok (.aload_n 0, 1) := by decide +kernel
theorem dX6_leastFrom_30 : decode cX6_leastFrom 30 = .ok (.getfield 28, 3) := by decide +kernel
theorem dX6_leastFrom_33 : decode cX6_leastFrom 33 = .ok (.iload_n 2, 1) := by decide +kernel
theorem dX6_leastFrom_34 : decode cX6_leastFrom 34 = .ok (.iaload, 1) := by decide +kernel
theorem dX6_leastFrom_35 : decode cX6_leastFrom 35 = .ok (.iaload, 1) := by decide +kernel
theorem dX6_leastFrom_36 : decode cX6_leastFrom 36 = .ok (.isub, 1) := by decide +kernel
theorem dX6_leastFrom_37 : decode cX6_leastFrom 37 = .ok (.istore 4, 2) := by decide +kernel
theorem dX6_leastFrom_39 : decode cX6_leastFrom 39 = .ok (.iload 4, 2) := by decide +kernel
theorem dX6_leastFrom_41 : decode cX6_leastFrom 41 = .ok (.ifCond .lt 23, 3) := by decide +kernel
theorem dX6_leastFrom_44 : decode cX6_leastFrom 44 = .ok (.iload 4, 2) := by decide +kernel
theorem dX6_leastFrom_46 : decode cX6_leastFrom 46 = .ok (.ifCond .ne 20, 3) := by decide +kernel
theorem dX6_leastFrom_49 : decode cX6_leastFrom 49 = .ok (.aload_n 0, 1) := by decide +kernel
theorem dX6_leastFrom_50 : decode cX6_leastFrom 50 = .ok (.getfield 28, 3) := by decide +kernel
theorem dX6_leastFrom_53 : decode cX6_leastFrom 53 = .ok (.iload_n 3, 1) := by decide +kernel
theorem dX6_leastFrom_54 : decode cX6_leastFrom 54 = .ok (.iaload, 1) := by decide +kernel
theorem dX6_leastFrom_55 : decode cX6_leastFrom 55 = .ok (.aload_n 0, 1) := by decide +kernel
theorem dX6_leastFrom_56 : decode cX6_leastFrom 56 = .ok (.getfield 28, 3) := by decide +kernel
theorem dX6_leastFrom_59 : decode cX6_leastFrom 59 = .ok (.iload_n 2, 1) := by decide +kernel
theorem dX6_leastFrom_60 : decode cX6_leastFrom 60 = .ok (.iaload, 1) := by decide +kernel
theorem dX6_leastFrom_61 : decode cX6_leastFrom 61 = .ok (.if_icmp .ge 5, 3) := by decide +kernel
theorem dX6_leastFrom_64 : decode cX6_leastFrom 64 = .ok (.iload_n 3, 1) := by decide +kernel
theorem dX6_leastFrom_65 : decode cX6_leastFrom 65 = .ok (.istore_n 2, 1) := by decide +kernel
theorem dX6_leastFrom_66 : decode cX6_leastFrom 66 = .ok (.iinc 3 1, 3) := by decide +kernel
theorem dX6_leastFrom_69 : decode cX6_leastFrom 69 = .ok (.goto (-63), 3) := by decide +kernel
theorem dX6_leastFrom_72 : decode cX6_leastFrom 72 = .ok (.iload_n 2, 1) := by decide +kernel
theorem dX6_leastFrom_73 : decode cX6_leastFrom 73 = .ok (.ireturn, 1) := by decide +kernel
theorem dX6_takeAway_0 : decode cX6_takeAway 0 = .ok (.aload_n 0, 1) := by decide +kernel
theorem dX6_takeAway_1 : decode cX6_takeAway 1 = .ok (.getfield 15, 3) := by decide +kernel
theorem dX6_takeAway_4 : decode cX6_takeAway 4 = .ok (.iload_n 1, 1) := by decide +kernel
theorem dX6_takeAway_5 : decode cX6_takeAway 5 = .ok (.dup2, 1) := by decide +kernel
theorem dX6_takeAway_6 : decode cX6_takeAway 6 = .ok (.laload, 1) := by decide +kernel
theorem dX6_takeAway_7 : decode cX6_takeAway 7 = .ok (.lconst 1, 1) := by decide +kernel
theorem dX6_takeAway_8 : decode cX6_takeAway 8 = .ok (.iload_n 2, 1) := by decide +kernel
theorem dX6_takeAway_9 : decode cX6_takeAway 9 = .ok (.lshl, 1) := by decide +kernel
theorem dX6_takeAway_10 : decode cX6_takeAway 10 = .ok (.ldc2_w 80, 3) := by decide +kernel
theorem dX6_takeAway_13 : decode cX6_takeAway 13 = .ok (.lxor, 1) := by decide +kernel
theorem dX6_takeAway_14 : decode cX6_takeAway 14 = .ok (.land, 1) := by decide +kernel
theorem dX6_takeAway_15 : decode cX6_takeAway 15 = .ok (.lastore, 1) := by decide +kernel
theorem dX6_takeAway_16 : decode cX6_takeAway 16 = .ok (.aload_n 0, 1) := by decide +kernel
theorem dX6_takeAway_17 : decode cX6_takeAway 17 = .ok (.getfield 15, 3) := by decide +kernel
theorem dX6_takeAway_20 : decode cX6_takeAway 20 = .ok (.iload_n 2, 1) := by decide +kernel
theorem dX6_takeAway_21 : decode cX6_takeAway 21 = .ok (.dup2, 1) := by decide +kernel
theorem dX6_takeAway_22 : decode cX6_takeAway 22 = .ok (.laload, 1) := by decide +kernel
theorem dX6_takeAway_23 : decode cX6_takeAway 23 = .ok (.lconst 1, 1) := by decide +kernel
theorem dX6_takeAway_24 : decode cX6_takeAway 24 = .ok (.iload_n 1, 1) := by decide +kernel
theorem dX6_takeAway_25 : decode cX6_takeAway 25 = .ok (.lshl, 1) := by decide +kernel
theorem dX6_takeAway_26 : decode cX6_takeAway 26 = .ok (.ldc2_w 80, 3) := by decide +kernel
theorem dX6_takeAway_29 : decode cX6_takeAway 29 = .ok (.lxor, 1) := by decide +kernel
theorem dX6_takeAway_30 : decode cX6_takeAway 30 = .ok (.land, 1) := by decide +kernel
theorem dX6_takeAway_31 : decode cX6_takeAway 31 = .ok (.lastore, 1) := by decide +kernel
theorem dX6_takeAway_32 : decode cX6_takeAway 32 = .ok (.aload_n 0, 1) := by decide +kernel
theorem dX6_takeAway_33 : decode cX6_takeAway 33 = .ok (.getfield 15, 3) := by decide +kernel
theorem dX6_takeAway_36 : decode cX6_takeAway 36 = .ok (.iload_n 1, 1) := by decide +kernel
theorem dX6_takeAway_37 : decode cX6_takeAway 37 = .ok (.laload, 1) := by decide +kernel
theorem dX6_takeAway_38 : decode cX6_takeAway 38 = .ok (.aload_n 0, 1) := by decide +kernel
theorem dX6_takeAway_39 : decode cX6_takeAway 39 = .ok (.getfield 15, 3) := by decide +kernel
theorem dX6_takeAway_42 : decode cX6_takeAway 42 = .ok (.iload_n 2, 1) := by decide +kernel
theorem dX6_takeAway_43 : decode cX6_takeAway 43 = .ok (.laload, 1) := by decide +kernel
theorem dX6_takeAway_44 : decode cX6_takeAway 44 = .ok (.land, 1) := by decide +kernel
theorem dX6_takeAway_45 : decode cX6_takeAway 45 = .ok (.lstore_n 3, 1) := by decide +kernel
theorem dX6_takeAway_46 : decode cX6_takeAway 46 = .ok (.iconst 0, 1) := by decide +kernel
theorem dX6_takeAway_47 : decode cX6_takeAway 47 = .ok (.istore 5, 2) := by decide +kernel
theorem dX6_takeAway_49 : decode cX6_takeAway 49 = .ok (.iload 5, 2) := by decide +kernel
theorem dX6_takeAway_51 : decode cX6_takeAway 51 = .ok (.bipush 40, 2) := by decide +kernel
theorem dX6_takeAway_53 : decode cX6_takeAway 53 = .ok (.if_icmp .ge 48, 3) := by decide +kernel
theorem dX6_takeAway_56 : decode cX6_takeAway 56 = .ok (.lload_n 3, 1) := by decide +kernel
theorem dX6_takeAway_57 : decode cX6_takeAway 57 = .ok (.iload 5, 2) := by decide +kernel
theorem dX6_takeAway_59 : decode cX6_takeAway 59 = .ok (.invokestatic 53, 3) := by decide +kernel
theorem dX6_takeAway_62 : decode cX6_takeAway 62 = .ok (.ifCond .eq 33, 3) := by decide +kernel
theorem dX6_takeAway_65 : decode cX6_takeAway 65 = .ok (.aload_n 0, 1) := by decide +kernel
theorem dX6_takeAway_66 : decode cX6_takeAway 66 = .ok (.getfield 18, 3) := by decide +kernel
theorem dX6_takeAway_69 : decode cX6_takeAway 69 = .ok (.iload_n 1, 1) := by decide +kernel
theorem dX6_takeAway_70 : decode cX6_takeAway 70 = .ok (.iload 5, 2) := by decide +kernel
theorem dX6_takeAway_72 : decode cX6_takeAway 72 = .ok (.invokestatic 57, 3) := by decide +kernel
theorem dX6_takeAway_75 : decode cX6_takeAway 75 = .ok (.dup2, 1) := by decide +kernel
theorem dX6_takeAway_76 : decode cX6_takeAway 76 = .ok (.iaload, 1) := by decide +kernel
theorem dX6_takeAway_77 : decode cX6_takeAway 77 = .ok (.iconst 1, 1) := by decide +kernel
theorem dX6_takeAway_78 : decode cX6_takeAway 78 = .ok (.isub, 1) := by decide +kernel
theorem dX6_takeAway_79 : decode cX6_takeAway 79 = .ok (.iastore, 1) := by decide +kernel
theorem dX6_takeAway_80 : decode cX6_takeAway 80 = .ok (.aload_n 0, 1) := by decide +kernel
theorem dX6_takeAway_81 : decode cX6_takeAway 81 = .ok (.getfield 18, 3) := by decide +kernel
theorem dX6_takeAway_84 : decode cX6_takeAway 84 = .ok (.iload_n 2, 1) := by decide +kernel
theorem dX6_takeAway_85 : decode cX6_takeAway 85 = .ok (.iload 5, 2) := by decide +kernel
theorem dX6_takeAway_87 : decode cX6_takeAway 87 = .ok (.invokestatic 57, 3) := by decide +kernel
theorem dX6_takeAway_90 : decode cX6_takeAway 90 = .ok (.dup2, 1) := by decide +kernel
theorem dX6_takeAway_91 : decode cX6_takeAway 91 = .ok (.iaload, 1) := by decide +kernel
theorem dX6_takeAway_92 : decode cX6_takeAway 92 = .ok (.iconst 1, 1) := by decide +kernel
theorem dX6_takeAway_93 : decode cX6_takeAway 93 = .ok (.isub, 1) := by decide +kernel
theorem dX6_takeAway_94 : decode cX6_takeAway 94 = .ok (.iastore, 1) := by decide +kernel
theorem dX6_takeAway_95 : decode cX6_takeAway 95 = .ok (.iinc 5 1, 3) := by decide +kernel
theorem dX6_takeAway_98 : decode cX6_takeAway 98 = .ok (.goto (-49), 3) := by decide +kernel
theorem dX6_takeAway_101 : decode cX6_takeAway 101 = .ok (.return_, 1) := by decide +kernel
theorem dX6_edgesFrom_0 : decode cX6_edgesFrom 0 = .ok (.iconst 0, 1) := by decide +kernel
theorem dX6_edgesFrom_1 : decode cX6_edgesFrom 1 = .ok (.istore_n 2, 1) := by decide +kernel
theorem dX6_edgesFrom_2 : decode cX6_edgesFrom 2 = .ok (.iconst 0, 1) := by decide +kernel
theorem dX6_edgesFrom_3 : decode cX6_edgesFrom 3 = .ok (.istore_n 3, 1) := by decide +kernel
theorem dX6_edgesFrom_4 : decode cX6_edgesFrom 4 = .ok (.iload_n 3, 1) := by decide +kernel
theorem dX6_edgesFrom_5 : decode cX6_edgesFrom 5 = .ok (.aload_n 0, 1) := by decide +kernel
theorem dX6_edgesFrom_6 : decode cX6_edgesFrom 6 = .ok (.getfield 37, 3) := by decide +kernel
theorem dX6_edgesFrom_9 : decode cX6_edgesFrom 9 = .ok (.if_icmp .ge 27, 3) := by decide +kernel
theorem dX6_edgesFrom_12 : decode cX6_edgesFrom 12 = .ok (.aload_n 0, 1) := by decide +kernel
theorem dX6_edgesFrom_13 : decode cX6_edgesFrom 13 = .ok (.getfield 22, 3) := by decide +kernel
theorem dX6_edgesFrom_16 : decode cX6_edgesFrom 16 = .ok (.aload_n 0, 1) := by decide +kernel
theorem dX6_edgesFrom_17 : decode cX6_edgesFrom 17 = .ok (.getfield 28, 3) := by decide +kernel
theorem dX6_edgesFrom_20 : decode cX6_edgesFrom 20 = .ok (.iload_n 3, 1) := by decide +kernel
theorem dX6_edgesFrom_21 : decode cX6_edgesFrom 21 = .ok (.iaload, 1) := by decide +kernel
theorem dX6_edgesFrom_22 : decode cX6_edgesFrom 22 = .ok (.iaload, 1) := by decide +kernel
theorem dX6_edgesFrom_23 : decode cX6_edgesFrom 23 = .ok (.iload_n 1, 1) := by decide +kernel
theorem dX6_edgesFrom_24 : decode cX6_edgesFrom 24 = .ok (.if_icmp .lt 6, 3) := by decide +kernel
theorem dX6_edgesFrom_27 : decode cX6_edgesFrom 27 = .ok (.iinc 2 1, 3) := by decide +kernel
theorem dX6_edgesFrom_30 : decode cX6_edgesFrom 30 = .ok (.iinc 3 1, 3) := by decide +kernel
theorem dX6_edgesFrom_33 : decode cX6_edgesFrom 33 = .ok (.goto (-29), 3) := by decide +kernel
theorem dX6_edgesFrom_36 : decode cX6_edgesFrom 36 = .ok (.iload_n 2, 1) := by decide +kernel
theorem dX6_edgesFrom_37 : decode cX6_edgesFrom 37 = .ok (.ireturn, 1) := by decide +kernel
theorem dX6_piecesFrom_0 : decode cX6_piecesFrom 0 = .ok (.aload_n 0, 1) := by decide +kernel
theorem dX6_piecesFrom_1 : decode cX6_piecesFrom 1 = .ok (.getfield 15, 3) := by decide +kernel
theorem dX6_piecesFrom_4 : decode cX6_piecesFrom 4 = .ok (.lconst 0, 1) := by decide +kernel
theorem dX6_piecesFrom_5 : decode cX6_piecesFrom 5 = .ok (.invokestatic 82, 3) := by decide +kernel
theorem dX6_piecesFrom_8 : decode cX6_piecesFrom 8 = .ok (.iconst 0, 1) := by decide +kernel
theorem dX6_piecesFrom_9 : decode cX6_piecesFrom 9 = .ok (.istore_n 2, 1) := by decide +kernel
theorem dX6_piecesFrom_10 : decode cX6_piecesFrom 10 = .ok (.iload_n 2, 1) := by decide +kernel
theorem dX6_piecesFrom_11 : decode cX6_piecesFrom 11 = .ok (.aload_n 0, 1) := by decide +kernel
theorem dX6_piecesFrom_12 : decode cX6_piecesFrom 12 = .ok (.getfield 37, 3) := by decide +kernel
theorem dX6_piecesFrom_15 : decode cX6_piecesFrom 15 = .ok (.if_icmp .ge 62, 3) := by decide +kernel
theorem dX6_piecesFrom_18 : decode cX6_piecesFrom 18 = .ok (.aload_n 0, 1) := by decide +kernel
theorem dX6_piecesFrom_19 : decode cX6_piecesFrom 19 = .ok (.getfield 28, 3) := by decide +kernel
theorem dX6_piecesFrom_22 : decode cX6_piecesFrom 22 = .ok (.iload_n 2, 1) := by decide +kernel
theorem dX6_piecesFrom_23 : decode cX6_piecesFrom 23 = .ok (.iaload, 1) := by decide +kernel
theorem dX6_piecesFrom_24 : decode cX6_piecesFrom 24 = .ok (.istore_n 3, 1) := by decide +kernel
theorem dX6_piecesFrom_25 : decode cX6_piecesFrom 25 = .ok (.aload_n 0, 1) := by decide +kernel
theorem dX6_piecesFrom_26 : decode cX6_piecesFrom 26 = .ok (.getfield 22, 3) := by decide +kernel
theorem dX6_piecesFrom_29 : decode cX6_piecesFrom 29 = .ok (.iload_n 3, 1) := by decide +kernel
theorem dX6_piecesFrom_30 : decode cX6_piecesFrom 30 = .ok (.iaload, 1) := by decide +kernel
theorem dX6_piecesFrom_31 : decode cX6_piecesFrom 31 = .ok (.iload_n 1, 1) := by decide +kernel
theorem dX6_piecesFrom_32 : decode cX6_piecesFrom 32 = .ok (.if_icmp .lt 39, 3) := by decide +kernel
theorem dX6_piecesFrom_35 : decode cX6_piecesFrom 35 = .ok (.aload_n 0, 1) := by decide +kernel
theorem dX6_piecesFrom_36 : decode cX6_piecesFrom 36 = .ok (.getfield 15, 3) := by decide +kernel
theorem dX6_piecesFrom_39 : decode cX6_piecesFrom 39 = .ok (.iload_n 3, 1) := by decide +kernel
theorem dX6_piecesFrom_40 : decode cX6_piecesFrom 40 = .ok (.bipush 40, 2) := by decide +kernel
theorem dX6_piecesFrom_42 : decode cX6_piecesFrom 42 = .ok (.idiv, 1) := by decide +kernel
theorem dX6_piecesFrom_43 : decode cX6_piecesFrom 43 = .ok (.dup2, 1) := by decide +kernel
theorem dX6_piecesFrom_44 : decode cX6_piecesFrom 44 = .ok (.laload, 1) := by decide +kernel
theorem dX6_piecesFrom_45 : decode cX6_piecesFrom 45 = .ok (.lconst 1, 1) := by decide +kernel
theorem dX6_piecesFrom_46 : decode cX6_piecesFrom 46 = .ok (.iload_n 3, 1) := by decide +kernel
theorem dX6_piecesFrom_47 : decode cX6_piecesFrom 47 = .ok (.bipush 40, 2) := by decide +kernel
theorem dX6_piecesFrom_49 : decode cX6_piecesFrom 49 = .ok (.irem, 1) := by decide +kernel
theorem dX6_piecesFrom_50 : decode cX6_piecesFrom 50 = .ok (.lshl, 1) := by decide +kernel
theorem dX6_piecesFrom_51 : decode cX6_piecesFrom 51 = .ok (.lor, 1) := by decide +kernel
theorem dX6_piecesFrom_52 : decode cX6_piecesFrom 52 = .ok (.lastore, 1) := by decide +kernel
theorem dX6_piecesFrom_53 : decode cX6_piecesFrom 53 = .ok (.aload_n 0, 1) := by decide +kernel
theorem dX6_piecesFrom_54 : decode cX6_piecesFrom 54 = .ok (.getfield 15, 3) := by decide +kernel
theorem dX6_piecesFrom_57 : decode cX6_piecesFrom 57 = .ok (.iload_n 3, 1) := by decide +kernel
theorem dX6_piecesFrom_58 : decode cX6_piecesFrom 58 = .ok (.bipush 40, 2) := by decide +kernel
theorem dX6_piecesFrom_60 : decode cX6_piecesFrom 60 = .ok (.irem, 1) := by decide +kernel
theorem dX6_piecesFrom_61 : decode cX6_piecesFrom 61 = .ok (.dup2, 1) := by decide +kernel
theorem dX6_piecesFrom_62 : decode cX6_piecesFrom 62 = .ok (.laload, 1) := by decide +kernel
theorem dX6_piecesFrom_63 : decode cX6_piecesFrom 63 = .ok (.lconst 1, 1) := by decide +kernel
theorem dX6_piecesFrom_64 : decode cX6_piecesFrom 64 = .ok (.iload_n 3, 1) := by decide +kernel
theorem dX6_piecesFrom_65 : decode cX6_piecesFrom 65 = .ok (.bipush 40, 2) := by decide +kernel
theorem dX6_piecesFrom_67 : decode cX6_piecesFrom 67 = .ok (.idiv, 1) := by decide +kernel
theorem dX6_piecesFrom_68 : decode cX6_piecesFrom 68 = .ok (.lshl, 1) := by decide +kernel
theorem dX6_piecesFrom_69 : decode cX6_piecesFrom 69 = .ok (.lor, 1) := by decide +kernel
theorem dX6_piecesFrom_70 : decode cX6_piecesFrom 70 = .ok (.lastore, 1) := by decide +kernel
theorem dX6_piecesFrom_71 : decode cX6_piecesFrom 71 = .ok (.iinc 2 1, 3) := by decide +kernel
theorem dX6_piecesFrom_74 : decode cX6_piecesFrom 74 = .ok (.goto (-64), 3) := by decide +kernel
theorem dX6_piecesFrom_77 : decode cX6_piecesFrom 77 = .ok (.lconst 0, 1) := by decide +kernel
theorem dX6_piecesFrom_78 : decode cX6_piecesFrom 78 = .ok (.lstore_n 2, 1) := by decide +kernel
theorem dX6_piecesFrom_79 : decode cX6_piecesFrom 79 = .ok (.iconst 0, 1) := by decide +kernel
theorem dX6_piecesFrom_80 : decode cX6_piecesFrom 80 = .ok (.istore 4, 2) := by decide +kernel
theorem dX6_piecesFrom_82 : decode cX6_piecesFrom 82 = .ok (.iconst 0, 1) := by decide +kernel
theorem dX6_piecesFrom_83 : decode cX6_piecesFrom 83 = .ok (.istore 5, 2) := by decide +kernel
theorem dX6_piecesFrom_85 : decode cX6_piecesFrom 85 = .ok (.iload 5, 2) := by decide +kernel
theorem dX6_piecesFrom_87 : decode cX6_piecesFrom 87 = .ok (.bipush 40, 2) := by decide +kernel
theorem dX6_piecesFrom_89 : decode cX6_piecesFrom 89 = .ok (.if_icmp .ge 42, 3) := by decide +kernel
theorem dX6_piecesFrom_92 : decode cX6_piecesFrom 92 = .ok (.aload_n 0, 1) := by decide +kernel
theorem dX6_piecesFrom_93 : decode cX6_piecesFrom 93 = .ok (.getfield 15, 3) := by decide +kernel
theorem dX6_piecesFrom_96 : decode cX6_piecesFrom 96 = .ok (.iload 5, 2) := by decide +kernel
theorem dX6_piecesFrom_98 : decode cX6_piecesFrom 98 = .ok (.laload, 1) := by decide +kernel
theorem dX6_piecesFrom_99 : decode cX6_piecesFrom 99 = .ok (.lconst 0, 1) := by decide +kernel
theorem dX6_piecesFrom_100 : decode cX6_piecesFrom 100 = .ok (.lcmp, 1) := by decide +kernel
theorem dX6_piecesFrom_101 : decode cX6_piecesFrom 101 = .ok (.ifCond .eq 24, 3) := by decide +kernel
theorem dX6_piecesFrom_104 : decode cX6_piecesFrom 104 = .ok (.lload_n 2, 1) := by decide +kernel
theorem dX6_piecesFrom_105 : decode cX6_piecesFrom 105 = .ok (.iload 5, 2) := by decide +kernel
theorem dX6_piecesFrom_107 : decode cX6_piecesFrom 107 = .ok (.invokestatic 53, 3) := by decide +kernel
theorem dX6_piecesFrom_110 : decode cX6_piecesFrom 110 = .ok (.ifCond .ne 15, 3) := by decide +kernel
theorem dX6_piecesFrom_113 : decode cX6_piecesFrom 113 = .ok (.lload_n 2, 1) := by decide +kernel
theorem dX6_piecesFrom_114 : decode cX6_piecesFrom 114 = .ok (.aload_n 0, 1) := by decide +kernel
theorem dX6_piecesFrom_115 : decode cX6_piecesFrom 115 = .ok (.iload 5, 2) := by decide +kernel
theorem dX6_piecesFrom_117 : decode cX6_piecesFrom 117 = .ok (.invokevirtual 88, 3) := by decide +kernel
theorem dX6_piecesFrom_120 : decode cX6_piecesFrom 120 = .ok (.lor, 1) := by decide +kernel
theorem dX6_piecesFrom_121 : decode cX6_piecesFrom 121 = .ok (.lstore_n 2, 1) := by decide +kernel
theorem dX6_piecesFrom_122 : decode cX6_piecesFrom 122 = .ok (.iinc 4 1, 3) := by decide +kernel
theorem dX6_piecesFrom_125 : decode cX6_piecesFrom 125 = .ok (.iinc 5 1, 3) := by decide +kernel
theorem dX6_piecesFrom_128 : decode cX6_piecesFrom 128 = .ok (.goto (-43), 3) := by decide +kernel
theorem dX6_piecesFrom_131 : decode cX6_piecesFrom 131 = .ok (.iload 4, 2) := by decide +kernel
theorem dX6_piecesFrom_133 : decode cX6_piecesFrom 133 = .ok (.ireturn, 1) := by decide +kernel
theorem dX6_pieceOf_0 : decode cX6_pieceOf 0 = .ok (.lconst 1, 1) := by decide +kernel
theorem dX6_pieceOf_1 : decode cX6_pieceOf 1 = .ok (.iload_n 1, 1) := by decide +kernel
theorem dX6_pieceOf_2 : decode cX6_pieceOf 2 = .ok (.lshl, 1) := by decide +kernel
theorem dX6_pieceOf_3 : decode cX6_pieceOf 3 = .ok (.lstore_n 2, 1) := by decide +kernel
theorem dX6_pieceOf_4 : decode cX6_pieceOf 4 = .ok (.iconst 1, 1) := by decide +kernel
theorem dX6_pieceOf_5 : decode cX6_pieceOf 5 = .ok (.istore 4, 2) := by decide +kernel
theorem dX6_pieceOf_7 : decode cX6_pieceOf 7 = .ok (.iload 4, 2) := by decide +kernel
theorem dX6_pieceOf_9 : decode cX6_pieceOf 9 = .ok (.bipush 40, 2) := by decide +kernel
theorem dX6_pieceOf_11 : decode cX6_pieceOf 11 = .ok (.if_icmp .ge 34, 3) := by decide +kernel
theorem dX6_pieceOf_14 : decode cX6_pieceOf 14 = .ok (.lload_n 2, 1) := by decide +kernel
theorem dX6_pieceOf_15 : decode cX6_pieceOf 15 = .ok (.aload_n 0, 1) := by decide +kernel
theorem dX6_pieceOf_16 : decode cX6_pieceOf 16 = .ok (.getfield 15, 3) := by decide +kernel
theorem dX6_pieceOf_19 : decode cX6_pieceOf 19 = .ok (.lload_n 2, 1) := by decide +kernel
theorem dX6_pieceOf_20 : decode cX6_pieceOf 20 = .ok (.invokestatic 92, 3) := by decide +kernel
theorem dX6_pieceOf_23 : decode cX6_pieceOf 23 = .ok (.lor, 1) := by decide +kernel
theorem dX6_pieceOf_24 : decode cX6_pieceOf 24 = .ok (.lstore 5, 2) := by decide +kernel
theorem dX6_pieceOf_26 : decode cX6_pieceOf 26 = .ok (.lload 5, 2) := by decide +kernel
theorem dX6_pieceOf_28 : decode cX6_pieceOf 28 = .ok (.lload_n 2, 1) := by decide +kernel
theorem dX6_pieceOf_29 : decode cX6_pieceOf 29 = .ok (.lcmp, 1) := by decide +kernel
theorem dX6_pieceOf_30 : decode cX6_pieceOf 30 = .ok (.ifCond .ne 6, 3) := by decide +kernel
theorem dX6_pieceOf_33 : decode cX6_pieceOf 33 = .ok (.goto 12, 3) := by decide +kernel
theorem dX6_pieceOf_36 : decode cX6_pieceOf 36 = .ok (.lload 5, 2) := by decide +kernel
theorem dX6_pieceOf_38 : decode cX6_pieceOf 38 = .ok (.lstore_n 2, 1) := by decide +kernel
theorem dX6_pieceOf_39 : decode cX6_pieceOf 39 = .ok (.iinc 4 1, 3) := by decide +kernel
theorem dX6_pieceOf_42 : decode cX6_pieceOf 42 = .ok (.goto (-35), 3) := by decide +kernel
theorem dX6_pieceOf_45 : decode cX6_pieceOf 45 = .ok (.lload_n 2, 1) := by decide +kernel
theorem dX6_pieceOf_46 : decode cX6_pieceOf 46 = .ok (.lreturn, 1) := by decide +kernel
theorem dX6_hoodOf_0 : decode cX6_hoodOf 0 = .ok (.aload_n 0, 1) := by decide +kernel
theorem dX6_hoodOf_1 : decode cX6_hoodOf 1 = .ok (.getfield 22, 3) := by decide +kernel
theorem dX6_hoodOf_4 : decode cX6_hoodOf 4 = .ok (.iload_n 1, 1) := by decide +kernel
theorem dX6_hoodOf_5 : decode cX6_hoodOf 5 = .ok (.iaload, 1) := by decide +kernel
theorem dX6_hoodOf_6 : decode cX6_hoodOf 6 = .ok (.iload_n 2, 1) := by decide +kernel
theorem dX6_hoodOf_7 : decode cX6_hoodOf 7 = .ok (.if_icmp .ge 5, 3) := by decide +kernel
theorem dX6_hoodOf_10 : decode cX6_hoodOf 10 = .ok (.iconst 0, 1) := by decide +kernel
theorem dX6_hoodOf_11 : decode cX6_hoodOf 11 = .ok (.ireturn, 1) := by decide +kernel
theorem dX6_hoodOf_12 : decode cX6_hoodOf 12 = .ok (.aload_n 0, 1) := by decide +kernel
theorem dX6_hoodOf_13 : decode cX6_hoodOf 13 = .ok (.getfield 34, 3) := by decide +kernel
theorem dX6_hoodOf_16 : decode cX6_hoodOf 16 = .ok (.iconst 0, 1) := by decide +kernel
theorem dX6_hoodOf_17 : decode cX6_hoodOf 17 = .ok (.invokestatic 96, 3) := by decide +kernel
theorem dX6_hoodOf_20 : decode cX6_hoodOf 20 = .ok (.aload_n 0, 1) := by decide +kernel
theorem dX6_hoodOf_21 : decode cX6_hoodOf 21 = .ok (.iload_n 1, 1) := by decide +kernel
theorem dX6_hoodOf_22 : decode cX6_hoodOf 22 = .ok (.iload_n 2, 1) := by decide +kernel
theorem dX6_hoodOf_23 : decode cX6_hoodOf 23 = .ok (.invokevirtual 99, 3) := by decide +kernel
theorem dX6_hoodOf_26 : decode cX6_hoodOf 26 = .ok (.ireturn, 1) := by decide +kernel
theorem dX6_hoodsFrom_0 : decode cX6_hoodsFrom 0 = .ok (.aload_n 0, 1) := by decide +kernel
theorem dX6_hoodsFrom_1 : decode cX6_hoodsFrom 1 = .ok (.getfield 34, 3) := by decide +kernel
theorem dX6_hoodsFrom_4 : decode cX6_hoodsFrom 4 = .ok (.iconst 0, 1) := by decide +kernel
theorem dX6_hoodsFrom_5 : decode cX6_hoodsFrom 5 = .ok (.invokestatic 96, 3) := by decide +kernel
theorem dX6_hoodsFrom_8 : decode cX6_hoodsFrom 8 = .ok (.iconst 0, 1) := by decide +kernel
theorem dX6_hoodsFrom_9 : decode cX6_hoodsFrom 9 = .ok (.istore_n 2, 1) := by decide +kernel
theorem dX6_hoodsFrom_10 : decode cX6_hoodsFrom 10 = .ok (.iconst 0, 1) := by decide +kernel
theorem dX6_hoodsFrom_11 : decode cX6_hoodsFrom 11 = .ok (.istore_n 3, 1) := by decide +kernel
theorem dX6_hoodsFrom_12 : decode cX6_hoodsFrom 12 = .ok (.iload_n 3, 1) := by decide +kernel
theorem dX6_hoodsFrom_13 : decode cX6_hoodsFrom 13 = .ok (.aload_n 0, 1) := by decide +kernel
theorem dX6_hoodsFrom_14 : decode cX6_hoodsFrom 14 = .ok (.getfield 37, 3) := by decide +kernel
theorem dX6_hoodsFrom_17 : decode cX6_hoodsFrom 17 = .ok (.if_icmp .ge 53, 3) := by decide +kernel
theorem dX6_hoodsFrom_20 : decode cX6_hoodsFrom 20 = .ok (.aload_n 0, 1) := by decide +kernel
theorem dX6_hoodsFrom_21 : decode cX6_hoodsFrom 21 = .ok (.getfield 22, 3) := by decide +kernel
theorem dX6_hoodsFrom_24 : decode cX6_hoodsFrom 24 = .ok (.aload_n 0, 1) := by decide +kernel
theorem dX6_hoodsFrom_25 : decode cX6_hoodsFrom 25 = .ok (.getfield 28, 3) := by decide +kernel
theorem dX6_hoodsFrom_28 : decode cX6_hoodsFrom 28 = .ok (.iload_n 3, 1) := by decide +kernel
theorem dX6_hoodsFrom_29 : decode cX6_hoodsFrom 29 = .ok (.iaload, 1) := by decide +kernel
theorem dX6_hoodsFrom_30 : decode cX6_hoodsFrom 30 = .ok (.iaload, 1) := by decide +kernel
theorem dX6_hoodsFrom_31 : decode cX6_hoodsFrom 31 = .ok (.iload_n 1, 1) := by decide +kernel
theorem dX6_hoodsFrom_32 : decode cX6_hoodsFrom 32 = .ok (.if_icmp .lt 32, 3) := by decide +kernel
theorem dX6_hoodsFrom_35 : decode cX6_hoodsFrom 35 = .ok (.aload_n 0, 1) := by decide +kernel
theorem dX6_hoodsFrom_36 : decode cX6_hoodsFrom 36 = .ok (.getfield 34, 3) := by decide +kernel
theorem dX6_hoodsFrom_39 : decode cX6_hoodsFrom 39 = .ok (.aload_n 0, 1) := by decide +kernel
theorem dX6_hoodsFrom_40 : decode cX6_hoodsFrom 40 = .ok (.getfield 28, 3) := by decide +kernel
theorem dX6_hoodsFrom_43 : decode cX6_hoodsFrom 43 = .ok (.iload_n 3, 1) := by decide +kernel
theorem dX6_hoodsFrom_44 : decode cX6_hoodsFrom 44 = .ok (.iaload, 1) := by decide +kernel
theorem dX6_hoodsFrom_45 : decode cX6_hoodsFrom 45 = .ok (.iaload, 1) := by decide +kernel
theorem dX6_hoodsFrom_46 : decode cX6_hoodsFrom 46 = .ok (.ifCond .ne 18, 3) := by decide +kernel
theorem dX6_hoodsFrom_49 : decode cX6_hoodsFrom 49 = .ok (.aload_n 0, 1) := by decide +kernel
theorem dX6_hoodsFrom_50 : decode cX6_hoodsFrom 50 = .ok (.aload_n 0, 1) := by decide +kernel
theorem dX6_hoodsFrom_51 : decode cX6_hoodsFrom 51 = .ok (.getfield 28, 3) := by decide +kernel
theorem dX6_hoodsFrom_54 : decode cX6_hoodsFrom 54 = .ok (.iload_n 3, 1) := by decide +kernel
theorem dX6_hoodsFrom_55 : decode cX6_hoodsFrom 55 = .ok (.iaload, 1) := by decide +kernel
theorem dX6_hoodsFrom_56 : decode cX6_hoodsFrom 56 = .ok (.iload_n 1, 1) := by decide +kernel
theorem dX6_hoodsFrom_57 : decode cX6_hoodsFrom 57 = .ok (.invokevirtual 99, 3) := by decide +kernel
theorem dX6_hoodsFrom_60 : decode cX6_hoodsFrom 60 = .ok (.pop, 1) := by decide +kernel
theorem dX6_hoodsFrom_61 : decode cX6_hoodsFrom 61 = .ok (.iinc 2 1, 3) := by decide +kernel
theorem dX6_hoodsFrom_64 : decode cX6_hoodsFrom 64 = .ok (.iinc 3 1, 3) := by decide +kernel
theorem dX6_hoodsFrom_67 : decode cX6_hoodsFrom 67 = .ok (.goto (-55), 3) := by decide +kernel
theorem dX6_hoodsFrom_70 : decode cX6_hoodsFrom 70 = .ok (.iload_n 2, 1) := by decide +kernel
theorem dX6_hoodsFrom_71 : decode cX6_hoodsFrom 71 = .ok (.ireturn, 1) := by decide +kernel
theorem dX6_walkFrom_0 : decode cX6_walkFrom 0 = .ok (.aload_n 0, 1) := by decide +kernel
theorem dX6_walkFrom_1 : decode cX6_walkFrom 1 = .ok (.getfield 34, 3) := by decide +kernel
theorem dX6_walkFrom_4 : decode cX6_walkFrom 4 = .ok (.iload_n 1, 1) := by decide +kernel
theorem dX6_walkFrom_5 : decode cX6_walkFrom 5 = .ok (.iconst 1, 1) := by decide +kernel
theorem dX6_walkFrom_6 : decode cX6_walkFrom 6 = .ok (.iastore, 1) := by decide +kernel
theorem dX6_walkFrom_7 : decode cX6_walkFrom 7 = .ok (.aload_n 0, 1) := by decide +kernel
theorem dX6_walkFrom_8 : decode cX6_walkFrom 8 = .ok (.getfield 31, 3) := by decide +kernel
theorem dX6_walkFrom_11 : decode cX6_walkFrom 11 = .ok (.iconst 0, 1) := by decide +kernel
theorem dX6_walkFrom_12 : decode cX6_walkFrom 12 = .ok (.iload_n 1, 1) := by decide +kernel
theorem dX6_walkFrom_13 : decode cX6_walkFrom 13 = .ok (.iastore, 1) := by decide +kernel
theorem dX6_walkFrom_14 : decode cX6_walkFrom 14 = .ok (.iconst 1, 1) := by decide +kernel
theorem dX6_walkFrom_15 : decode cX6_walkFrom 15 = .ok (.istore_n 3, 1) := by decide +kernel
theorem dX6_walkFrom_16 : decode cX6_walkFrom 16 = .ok (.iconst 0, 1) := by decide +kernel
theorem dX6_walkFrom_17 : decode cX6_walkFrom 17 = .ok (.istore 4, 2) := by decide +kernel
theorem dX6_walkFrom_19 : decode cX6_walkFrom 19 = .ok (.iload 4, 2) := by decide +kernel
theorem dX6_walkFrom_21 : decode cX6_walkFrom 21 = .ok (.iload_n 3, 1) := by decide +kernel
theorem dX6_walkFrom_22 : decode cX6_walkFrom 22 = .ok (.if_icmp .ge 142, 3) := by decide +kernel
theorem dX6_walkFrom_25 : decode cX6_walkFrom 25 = .ok (.iload 4, 2) := by decide +kernel
theorem dX6_walkFrom_27 : decode cX6_walkFrom 27 = .ok (.sipush 780, 3) := by decide +kernel
theorem dX6_walkFrom_30 : decode cX6_walkFrom 30 = .ok (.if_icmp .ge 134, 3) := by decide +kernel
theorem dX6_walkFrom_33 : decode cX6_walkFrom 33 = .ok (.aload_n 0, 1) := by decide +kernel
theorem dX6_walkFrom_34 : decode cX6_walkFrom 34 = .ok (.getfield 31, 3) := by decide +kernel
theorem dX6_walkFrom_37 : decode cX6_walkFrom 37 = .ok (.iload 4, 2) := by decide +kernel
theorem dX6_walkFrom_39 : decode cX6_walkFrom 39 = .ok (.iaload, 1) := by decide +kernel
theorem dX6_walkFrom_40 : decode cX6_walkFrom 40 = .ok (.bipush 40, 2) := by decide +kernel
theorem dX6_walkFrom_42 : decode cX6_walkFrom 42 = .ok (.idiv, 1) := by decide +kernel
theorem dX6_walkFrom_43 : decode cX6_walkFrom 43 = .ok (.istore 5, 2) := by decide +kernel
theorem dX6_walkFrom_45 : decode cX6_walkFrom 45 = .ok (.aload_n 0, 1) := by decide +kernel
theorem dX6_walkFrom_46 : decode cX6_walkFrom 46 = .ok (.getfield 31, 3) := by decide +kernel
theorem dX6_walkFrom_49 : decode cX6_walkFrom 49 = .ok (.iload 4, 2) := by decide +kernel
theorem dX6_walkFrom_51 : decode cX6_walkFrom 51 = .ok (.iaload, 1) := by decide +kernel
theorem dX6_walkFrom_52 : decode cX6_walkFrom 52 = .ok (.bipush 40, 2) := by decide +kernel
theorem dX6_walkFrom_54 : decode cX6_walkFrom 54 = .ok (.irem, 1) := by decide +kernel
theorem dX6_walkFrom_55 : decode cX6_walkFrom 55 = .ok (.istore 6, 2) := by decide +kernel
theorem dX6_walkFrom_57 : decode cX6_walkFrom 57 = .ok (.aload_n 0, 1) := by decide +kernel
theorem dX6_walkFrom_58 : decode cX6_walkFrom 58 = .ok (.getfield 9, 3) := by decide +kernel
theorem dX6_walkFrom_61 : decode cX6_walkFrom 61 = .ok (.iload 5, 2) := by decide +kernel
theorem dX6_walkFrom_63 : decode cX6_walkFrom 63 = .ok (.laload, 1) := by decide +kernel
theorem dX6_walkFrom_64 : decode cX6_walkFrom 64 = .ok (.aload_n 0, 1) := by decide +kernel
theorem dX6_walkFrom_65 : decode cX6_walkFrom 65 = .ok (.getfield 9, 3) := by decide +kernel
theorem dX6_walkFrom_68 : decode cX6_walkFrom 68 = .ok (.iload 6, 2) := by decide +kernel
theorem dX6_walkFrom_70 : decode cX6_walkFrom 70 = .ok (.laload, 1) := by decide +kernel
theorem dX6_walkFrom_71 : decode cX6_walkFrom 71 = .ok (.land, 1) := by decide +kernel
theorem dX6_walkFrom_72 : decode cX6_walkFrom 72 = .ok (.lstore 7, 2) := by decide +kernel
theorem dX6_walkFrom_74 : decode cX6_walkFrom 74 = .ok (.iconst 0, 1) := by decide +kernel
theorem dX6_walkFrom_75 : decode cX6_walkFrom 75 = .ok (.istore 9, 2) := by decide +kernel
theorem dX6_walkFrom_77 : decode cX6_walkFrom 77 = .ok (.iload 9, 2) := by decide +kernel
theorem dX6_walkFrom_79 : decode cX6_walkFrom 79 = .ok (.bipush 40, 2) := by decide +kernel
theorem dX6_walkFrom_81 : decode cX6_walkFrom 81 = .ok (.if_icmp .ge 77, 3) := by decide +kernel
theorem dX6_walkFrom_84 : decode cX6_walkFrom 84 = .ok (.lload 7, 2) := by decide +kernel
theorem dX6_walkFrom_86 : decode cX6_walkFrom 86 = .ok (.iload 9, 2) := by decide +kernel
theorem dX6_walkFrom_88 : decode cX6_walkFrom 88 = .ok (.invokestatic 53, 3) := by decide +kernel
theorem dX6_walkFrom_91 : decode cX6_walkFrom 91 = .ok (.ifCond .eq 61, 3) := by decide +kernel
theorem dX6_walkFrom_94 : decode cX6_walkFrom 94 = .ok (.aload_n 0, 1) := by decide +kernel
theorem dX6_walkFrom_95 : decode cX6_walkFrom 95 = .ok (.getfield 22, 3) := by decide +kernel
theorem dX6_walkFrom_98 : decode cX6_walkFrom 98 = .ok (.iload 5, 2) := by decide +kernel
theorem dX6_walkFrom_100 : decode cX6_walkFrom 100 = .ok (.iload 9, 2) := by decide +kernel
theorem dX6_walkFrom_102 : decode cX6_walkFrom 102 = .ok (.invokestatic 57, 3) := by decide +kernel
theorem dX6_walkFrom_105 : decode cX6_walkFrom 105 = .ok (.iaload, 1) := by decide +kernel
theorem dX6_walkFrom_106 : decode cX6_walkFrom 106 = .ok (.iload_n 2, 1) := by decide +kernel
theorem dX6_walkFrom_107 : decode cX6_walkFrom 107 = .ok (.if_icmp .lt 45, 3) := by decide +kernel
theorem dX6_walkFrom_110 : decode cX6_walkFrom 110 = .ok (.aload_n 0, 1) := by decide +kernel
theorem dX6_walkFrom_111 : decode cX6_walkFrom 111 = .ok (.getfield 22, 3) := by decide +kernel
theorem dX6_walkFrom_114 : decode cX6_walkFrom 114 = .ok (.iload 6, 2) := by decide +kernel
theorem dX6_walkFrom_116 : decode cX6_walkFrom 116 = .ok (.iload 9, 2) := by decide +kernel
theorem dX6_walkFrom_118 : decode cX6_walkFrom 118 = .ok (.invokestatic 57, 3) := by decide +kernel
theorem dX6_walkFrom_121 : decode cX6_walkFrom 121 = .ok (.iaload, 1) := by decide +kernel
theorem dX6_walkFrom_122 : decode cX6_walkFrom 122 = .ok (.iload_n 2, 1) := by decide +kernel
theorem dX6_walkFrom_123 : decode cX6_walkFrom 123 = .ok (.if_icmp .lt 29, 3) := by decide +kernel
theorem dX6_walkFrom_126 : decode cX6_walkFrom 126 = .ok (.aload_n 0, 1) := by decide +kernel
theorem dX6_walkFrom_127 : decode cX6_walkFrom 127 = .ok (.iload 5, 2) := by decide +kernel
theorem dX6_walkFrom_129 : decode cX6_walkFrom 129 = .ok (.iload 9, 2) := by decide +kernel
theorem dX6_walkFrom_131 : decode cX6_walkFrom 131 = .ok (.invokestatic 57, 3) := by decide +kernel
theorem dX6_walkFrom_134 : decode cX6_walkFrom 134 = .ok (.iload_n 3, 1) := by decide +kernel
theorem dX6_walkFrom_135 : decode cX6_walkFrom 135 = .ok (.invokevirtual 102, 3) := by decide +kernel
theorem dX6_walkFrom_138 : decode cX6_walkFrom 138 = .ok (.istore_n 3, 1) := by decide +kernel
theorem dX6_walkFrom_139 : decode cX6_walkFrom 139 = .ok (.aload_n 0, 1) := by decide +kernel
theorem dX6_walkFrom_140 : decode cX6_walkFrom 140 = .ok (.iload 6, 2) := by decide +kernel
theorem dX6_walkFrom_142 : decode cX6_walkFrom 142 = .ok (.iload 9, 2) := by decide +kernel
theorem dX6_walkFrom_144 : decode cX6_walkFrom 144 = .ok (.invokestatic 57, 3) := by decide +kernel
theorem dX6_walkFrom_147 : decode cX6_walkFrom 147 = .ok (.iload_n 3, 1) := by decide +kernel
theorem dX6_walkFrom_148 : decode cX6_walkFrom 148 = .ok (.invokevirtual 102, 3) := by decide +kernel
theorem dX6_walkFrom_151 : decode cX6_walkFrom 151 = .ok (.istore_n 3, 1) := by decide +kernel
theorem dX6_walkFrom_152 : decode cX6_walkFrom 152 = .ok (.iinc 9 1, 3) := by decide +kernel
theorem dX6_walkFrom_155 : decode cX6_walkFrom 155 = .ok (.goto (-78), 3) := by decide +kernel
theorem dX6_walkFrom_158 : decode cX6_walkFrom 158 = .ok (.iinc 4 1, 3) := by decide +kernel
theorem dX6_walkFrom_161 : decode cX6_walkFrom 161 = .ok (.goto (-142), 3) := by decide +kernel
theorem dX6_walkFrom_164 : decode cX6_walkFrom 164 = .ok (.iload_n 3, 1) := by decide +kernel
theorem dX6_walkFrom_165 : decode cX6_walkFrom 165 = .ok (.ireturn, 1) := by decide +kernel
theorem dX6_meet_0 : decode cX6_meet 0 = .ok (.aload_n 0, 1) := by decide +kernel
theorem dX6_meet_1 : decode cX6_meet 1 = .ok (.getfield 34, 3) := by decide +kernel
theorem dX6_meet_4 : decode cX6_meet 4 = .ok (.iload_n 1, 1) := by decide +kernel
theorem dX6_meet_5 : decode cX6_meet 5 = .ok (.iaload, 1) := by decide +kernel
theorem dX6_meet_6 : decode cX6_meet 6 = .ok (.ifCond .ne 10, 3) := by decide +kernel
theorem dX6_meet_9 : decode cX6_meet 9 = .ok (.iload_n 2, 1) := by decide +kernel
theorem dX6_meet_10 : decode cX6_meet 10 = .ok (.sipush 780, 3) := by decide +kernel
theorem dX6_meet_13 : decode cX6_meet 13 = .ok (.if_icmp .lt 5, 3) := by decide +kernel
theorem dX6_meet_16 : decode cX6_meet 16 = .ok (.iload_n 2, 1) := by decide +kernel
theorem dX6_meet_17 : decode cX6_meet 17 = .ok (.ireturn, 1) := by decide +kernel
theorem dX6_meet_18 : decode cX6_meet 18 = .ok (.aload_n 0, 1) := by decide +kernel
theorem dX6_meet_19 : decode cX6_meet 19 = .ok (.getfield 34, 3) := by decide +kernel
theorem dX6_meet_22 : decode cX6_meet 22 = .ok (.iload_n 1, 1) := by decide +kernel
theorem dX6_meet_23 : decode cX6_meet 23 = .ok (.iconst 1, 1) := by decide +kernel
theorem dX6_meet_24 : decode cX6_meet 24 = .ok (.iastore, 1) := by decide +kernel
theorem dX6_meet_25 : decode cX6_meet 25 = .ok (.aload_n 0, 1) := by decide +kernel
theorem dX6_meet_26 : decode cX6_meet 26 = .ok (.getfield 31, 3) := by decide +kernel
theorem dX6_meet_29 : decode cX6_meet 29 = .ok (.iload_n 2, 1) := by decide +kernel
theorem dX6_meet_30 : decode cX6_meet 30 = .ok (.iload_n 1, 1) := by decide +kernel
theorem dX6_meet_31 : decode cX6_meet 31 = .ok (.iastore, 1) := by decide +kernel
theorem dX6_meet_32 : decode cX6_meet 32 = .ok (.iload_n 2, 1) := by decide +kernel
theorem dX6_meet_33 : decode cX6_meet 33 = .ok (.iconst 1, 1) := by decide +kernel
theorem dX6_meet_34 : decode cX6_meet 34 = .ok (.iadd, 1) := by decide +kernel
theorem dX6_meet_35 : decode cX6_meet 35 = .ok (.ireturn, 1) := by decide +kernel
theorem dX7_init_0 : decode cX7_init 0 = .ok (.aload_n 0, 1) := by decide +kernel
theorem dX7_init_1 : decode cX7_init 1 = .ok (.invokespecial 3, 3) := by decide +kernel
theorem dX7_init_4 : decode cX7_init 4 = .ok (.aload_n 0, 1) := by decide +kernel
theorem dX7_init_5 : decode cX7_init 5 = .ok (.bipush 40, 2) := by decide +kernel
theorem dX7_init_7 : decode cX7_init 7 = .ok (.newarray .long, 2) := by decide +kernel
theorem dX7_init_9 : decode cX7_init 9 = .ok (.putfield 9, 3) := by decide +kernel
theorem dX7_init_12 : decode cX7_init 12 = .ok (.aload_n 0, 1) := by decide +kernel
theorem dX7_init_13 : decode cX7_init 13 = .ok (.bipush 40, 2) := by decide +kernel
theorem dX7_init_15 : decode cX7_init 15 = .ok (.newarray .int, 2) := by decide +kernel
theorem dX7_init_17 : decode cX7_init 17 = .ok (.putfield 15, 3) := by decide +kernel
theorem dX7_init_20 : decode cX7_init 20 = .ok (.aload_n 0, 1) := by decide +kernel
theorem dX7_init_21 : decode cX7_init 21 = .ok (.bipush 40, 2) := by decide +kernel
theorem dX7_init_23 : decode cX7_init 23 = .ok (.newarray .int, 2) := by decide +kernel
theorem dX7_init_25 : decode cX7_init 25 = .ok (.putfield 19, 3) := by decide +kernel
theorem dX7_init_28 : decode cX7_init 28 = .ok (.aload_n 0, 1) := by decide +kernel
theorem dX7_init_29 : decode cX7_init 29 = .ok (.bipush 40, 2) := by decide +kernel
theorem dX7_init_31 : decode cX7_init 31 = .ok (.newarray .int, 2) := by decide +kernel
theorem dX7_init_33 : decode cX7_init 33 = .ok (.putfield 22, 3) := by decide +kernel
theorem dX7_init_36 : decode cX7_init 36 = .ok (.aload_n 0, 1) := by decide +kernel
theorem dX7_init_37 : decode cX7_init 37 = .ok (.bipush 40, 2) := by decide +kernel
theorem dX7_init_39 : decode cX7_init 39 = .ok (.newarray .int, 2) := by decide +kernel
theorem dX7_init_41 : decode cX7_init 41 = .ok (.putfield 25, 3) := by decide +kernel
theorem dX7_init_44 : decode cX7_init 44 = .ok (.aload_n 0, 1) := by decide +kernel
theorem dX7_init_45 : decode cX7_init 45 = .ok (.bipush 40, 2) := by decide +kernel
theorem dX7_init_47 : decode cX7_init 47 = .ok (.newarray .int, 2) := by decide +kernel
theorem dX7_init_49 : decode cX7_init 49 = .ok (.putfield 28, 3) := by decide +kernel
theorem dX7_init_52 : decode cX7_init 52 = .ok (.return_, 1) := by decide +kernel
theorem dX7_read_0 : decode cX7_read 0 = .ok (.aload_n 2, 1) := by decide +kernel
theorem dX7_read_1 : decode cX7_read 1 = .ok (.getfield 31, 3) := by decide +kernel
theorem dX7_read_4 : decode cX7_read 4 = .ok (.iconst 0, 1) := by decide +kernel
theorem dX7_read_5 : decode cX7_read 5 = .ok (.aload_n 0, 1) := by decide +kernel
theorem dX7_read_6 : decode cX7_read 6 = .ok (.getfield 9, 3) := by decide +kernel
theorem dX7_read_9 : decode cX7_read 9 = .ok (.iconst 0, 1) := by decide +kernel
theorem dX7_read_10 : decode cX7_read 10 = .ok (.bipush 40, 2) := by decide +kernel
theorem dX7_read_12 : decode cX7_read 12 = .ok (.invokestatic 34, 3) := by decide +kernel
theorem dX7_read_15 : decode cX7_read 15 = .ok (.aload_n 0, 1) := by decide +kernel
theorem dX7_read_16 : decode cX7_read 16 = .ok (.getfield 9, 3) := by decide +kernel
theorem dX7_read_19 : decode cX7_read 19 = .ok (.iconst 0, 1) := by decide +kernel
theorem dX7_read_20 : decode cX7_read 20 = .ok (.aload_n 0, 1) := by decide +kernel
theorem dX7_read_21 : decode cX7_read 21 = .ok (.getfield 19, 3) := by decide +kernel
theorem dX7_read_24 : decode cX7_read 24 = .ok (.invokestatic 40, 3) := by decide +kernel
theorem dX7_read_27 : decode cX7_read 27 = .ok (.aload_n 0, 1) := by decide +kernel
theorem dX7_read_28 : decode cX7_read 28 = .ok (.getfield 9, 3) := by decide +kernel
theorem dX7_read_31 : decode cX7_read 31 = .ok (.iconst 1, 1) := by decide +kernel
theorem dX7_read_32 : decode cX7_read 32 = .ok (.aload_n 0, 1) := by decide +kernel
theorem dX7_read_33 : decode cX7_read 33 = .ok (.getfield 22, 3) := by decide +kernel
theorem dX7_read_36 : decode cX7_read 36 = .ok (.invokestatic 40, 3) := by decide +kernel
theorem dX7_read_39 : decode cX7_read 39 = .ok (.aload_n 0, 1) := by decide +kernel
theorem dX7_read_40 : decode cX7_read 40 = .ok (.getfield 9, 3) := by decide +kernel
theorem dX7_read_43 : decode cX7_read 43 = .ok (.iconst 2, 1) := by decide +kernel
theorem dX7_read_44 : decode cX7_read 44 = .ok (.aload_n 0, 1) := by decide +kernel
theorem dX7_read_45 : decode cX7_read 45 = .ok (.getfield 25, 3) := by decide +kernel
theorem dX7_read_48 : decode cX7_read 48 = .ok (.invokestatic 40, 3) := by decide +kernel
theorem dX7_read_51 : decode cX7_read 51 = .ok (.iconst 0, 1) := by decide +kernel
theorem dX7_read_52 : decode cX7_read 52 = .ok (.istore_n 3, 1) := by decide +kernel
theorem dX7_read_53 : decode cX7_read 53 = .ok (.iload_n 3, 1) := by decide +kernel
theorem dX7_read_54 : decode cX7_read 54 = .ok (.bipush 40, 2) := by decide +kernel
theorem dX7_read_56 : decode cX7_read 56 = .ok (.if_icmp .ge 35, 3) := by decide +kernel
theorem dX7_read_59 : decode cX7_read 59 = .ok (.aload_n 0, 1) := by decide +kernel
theorem dX7_read_60 : decode cX7_read 60 = .ok (.getfield 15, 3) := by decide +kernel
theorem dX7_read_63 : decode cX7_read 63 = .ok (.iload_n 3, 1) := by decide +kernel
theorem dX7_read_64 : decode cX7_read 64 = .ok (.iload_n 3, 1) := by decide +kernel
theorem dX7_read_65 : decode cX7_read 65 = .ok (.iastore, 1) := by decide +kernel
theorem dX7_read_66 : decode cX7_read 66 = .ok (.aload_n 0, 1) := by decide +kernel
theorem dX7_read_67 : decode cX7_read 67 = .ok (.getfield 28, 3) := by decide +kernel
theorem dX7_read_70 : decode cX7_read 70 = .ok (.iload_n 3, 1) := by decide +kernel
theorem dX7_read_71 : decode cX7_read 71 = .ok (.aload_n 2, 1) := by decide +kernel
theorem dX7_read_72 : decode cX7_read 72 = .ok (.iload_n 3, 1) := by decide +kernel
theorem dX7_read_73 : decode cX7_read 73 = .ok (.invokevirtual 46, 3) := by decide +kernel
theorem dX7_read_76 : decode cX7_read 76 = .ok (.ifCond .eq 7, 3) := by decide +kernel
theorem dX7_read_79 : decode cX7_read 79 = .ok (.iconst 1, 1) := by decide +kernel
theorem dX7_read_80 : decode cX7_read 80 = .ok (.goto 4, 3) := by decide +kernel
theorem dX7_read_83 : decode cX7_read 83 = .ok (.iconst 0, 1) := by decide +kernel
theorem dX7_read_84 : decode cX7_read 84 = .ok (.iastore, 1) := by decide +kernel
theorem dX7_read_85 : decode cX7_read 85 = .ok (.iinc 3 1, 3) := by decide +kernel
theorem dX7_read_88 : decode cX7_read 88 = .ok (.goto (-35), 3) := by decide +kernel
theorem dX7_read_91 : decode cX7_read 91 = .ok (.aload_n 1, 1) := by decide +kernel
theorem dX7_read_92 : decode cX7_read 92 = .ok (.invokevirtual 50, 3) := by decide +kernel
theorem dX7_read_95 : decode cX7_read 95 = .ok (.aload_n 0, 1) := by decide +kernel
theorem dX7_read_96 : decode cX7_read 96 = .ok (.aload_n 1, 1) := by decide +kernel
theorem dX7_read_97 : decode cX7_read 97 = .ok (.iconst 0, 1) := by decide +kernel
theorem dX7_read_98 : decode cX7_read 98 = .ok (.invokevirtual 55, 3) := by decide +kernel
theorem dX7_read_101 : decode cX7_read 101 = .ok (.lstore_n 3, 1) := by decide +kernel
theorem dX7_read_102 : decode cX7_read 102 = .ok (.aload_n 1, 1) := by decide +kernel
theorem dX7_read_103 : decode cX7_read 103 = .ok (.invokevirtual 59, 3) := by decide +kernel
theorem dX7_read_106 : decode cX7_read 106 = .ok (.lload_n 3, 1) := by decide +kernel
theorem dX7_read_107 : decode cX7_read 107 = .ok (.lreturn, 1) := by decide +kernel
theorem dX7_either_0 : decode cX7_either 0 = .ok (.aload_n 0, 1) := by decide +kernel
theorem dX7_either_1 : decode cX7_either 1 = .ok (.aload_n 1, 1) := by decide +kernel
theorem dX7_either_2 : decode cX7_either 2 = .ok (.iload_n 2, 1) := by decide +kernel
theorem dX7_either_3 : decode cX7_either 3 = .ok (.invokevirtual 62, 3) := by decide +kernel
theorem dX7_either_6 : decode cX7_either 6 = .ok (.lstore_n 3, 1) := by decide +kernel
theorem dX7_either_7 : decode cX7_either 7 = .ok (.iconst 0, 1) := by decide +kernel
theorem dX7_either_8 : decode cX7_either 8 = .ok (.istore 5, 2) := by decide +kernel
theorem dX7_either_10 : decode cX7_either 10 = .ok (.iload 5, 2) := by decide +kernel
theorem dX7_either_12 : decode cX7_either 12 = .ok (.sipush 160, 3) := by decide +kernel
theorem dX7_either_15 : decode cX7_either 15 = .ok (.if_icmp .ge 27, 3) := by decide +kernel
theorem dX7_either_18 : decode cX7_either 18 = .ok (.aload_n 1, 1) := by decide +kernel
theorem dX7_either_19 : decode cX7_either 19 = .ok (.bipush 124, 2) := by decide +kernel
theorem dX7_either_21 : decode cX7_either 21 = .ok (.invokevirtual 65, 3) := by decide +kernel
theorem dX7_either_24 : decode cX7_either 24 = .ok (.ifCond .eq 18, 3) := by decide +kernel
theorem dX7_either_27 : decode cX7_either 27 = .ok (.lload_n 3, 1) := by decide +kernel
theorem dX7_either_28 : decode cX7_either 28 = .ok (.aload_n 0, 1) := by decide +kernel
theorem dX7_either_29 : decode cX7_either 29 = .ok (.aload_n 1, 1) := by decide +kernel
theorem dX7_either_30 : decode cX7_either 30 = .ok (.iload_n 2, 1) := by decide +kernel
theorem dX7_either_31 : decode cX7_either 31 = .ok (.invokevirtual 62, 3) := by decide +kernel
theorem dX7_either_34 : decode cX7_either 34 = .ok (.lor, 1) := by decide +kernel
theorem dX7_either_35 : decode cX7_either 35 = .ok (.lstore_n 3, 1) := by decide +kernel
theorem dX7_either_36 : decode cX7_either 36 = .ok (.iinc 5 1, 3) := by decide +kernel
theorem dX7_either_39 : decode cX7_either 39 = .ok (.goto (-29), 3) := by decide +kernel
theorem dX7_either_42 : decode cX7_either 42 = .ok (.lload_n 3, 1) := by decide +kernel
theorem dX7_either_43 : decode cX7_either 43 = .ok (.lreturn, 1) := by decide +kernel
theorem dX7_both_0 : decode cX7_both 0 = .ok (.aload_n 0, 1) := by decide +kernel
theorem dX7_both_1 : decode cX7_both 1 = .ok (.aload_n 1, 1) := by decide +kernel
theorem dX7_both_2 : decode cX7_both 2 = .ok (.iload_n 2, 1) := by decide +kernel
theorem dX7_both_3 : decode cX7_both 3 = .ok (.invokevirtual 68, 3) := by decide +kernel
theorem dX7_both_6 : decode cX7_both 6 = .ok (.lstore_n 3, 1) := by decide +kernel
theorem dX7_both_7 : decode cX7_both 7 = .ok (.iconst 0, 1) := by decide +kernel
theorem dX7_both_8 : decode cX7_both 8 = .ok (.istore 5, 2) := by decide +kernel
theorem dX7_both_10 : decode cX7_both 10 = .ok (.iload 5, 2) := by decide +kernel
theorem dX7_both_12 : decode cX7_both 12 = .ok (.sipush 160, 3) := by decide +kernel
theorem dX7_both_15 : decode cX7_both 15 = .ok (.if_icmp .ge 27, 3) := by decide +kernel
theorem dX7_both_18 : decode cX7_both 18 = .ok (.aload_n 1, 1) := by decide +kernel
theorem dX7_both_19 : decode cX7_both 19 = .ok (.bipush 38, 2) := by decide +kernel
theorem dX7_both_21 : decode cX7_both 21 = .ok (.invokevirtual 65, 3) := by decide +kernel
theorem dX7_both_24 : decode cX7_both 24 = .ok (.ifCond .eq 18, 3) := by decide +kernel
theorem dX7_both_27 : decode cX7_both 27 = .ok (.lload_n 3, 1) := by decide +kernel
theorem dX7_both_28 : decode cX7_both 28 = .ok (.aload_n 0, 1) := by decide +kernel
theorem dX7_both_29 : decode cX7_both 29 = .ok (.aload_n 1, 1) := by decide +kernel
theorem dX7_both_30 : decode cX7_both 30 = .ok (.iload_n 2, 1) := by decide +kernel
theorem dX7_both_31 : decode cX7_both 31 = .ok (.invokevirtual 68, 3) := by decide +kernel
theorem dX7_both_34 : decode cX7_both 34 = .ok (.land, 1) := by decide +kernel
theorem dX7_both_35 : decode cX7_both 35 = .ok (.lstore_n 3, 1) := by decide +kernel
theorem dX7_both_36 : decode cX7_both 36 = .ok (.iinc 5 1, 3) := by decide +kernel
theorem dX7_both_39 : decode cX7_both 39 = .ok (.goto (-29), 3) := by decide +kernel
theorem dX7_both_42 : decode cX7_both 42 = .ok (.lload_n 3, 1) := by decide +kernel
theorem dX7_both_43 : decode cX7_both 43 = .ok (.lreturn, 1) := by decide +kernel
theorem dX7_single_0 : decode cX7_single 0 = .ok (.aload_n 1, 1) := by decide +kernel
theorem dX7_single_1 : decode cX7_single 1 = .ok (.invokevirtual 71, 3) := by decide +kernel
theorem dX7_single_4 : decode cX7_single 4 = .ok (.istore_n 3, 1) := by decide +kernel
theorem dX7_single_5 : decode cX7_single 5 = .ok (.iload_n 3, 1) := by decide +kernel
theorem dX7_single_6 : decode cX7_single 6 = .ok (.bipush 40, 2) := by decide +kernel
theorem dX7_single_8 : decode cX7_single 8 = .ok (.if_icmp .eq 27, 3) := by decide +kernel
theorem dX7_single_11 : decode cX7_single 11 = .ok (.iload_n 3, 1) := by decide +kernel
theorem dX7_single_12 : decode cX7_single 12 = .ok (.bipush 33, 2) := by decide +kernel
theorem dX7_single_14 : decode cX7_single 14 = .ok (.if_icmp .eq 21, 3) := by decide +kernel
theorem dX7_single_17 : decode cX7_single 17 = .ok (.iload_n 3, 1) := by decide +kernel
theorem dX7_single_18 : decode cX7_single 18 = .ok (.bipush 83, 2) := by decide +kernel
theorem dX7_single_20 : decode cX7_single 20 = .ok (.if_icmp .eq 15, 3) := by decide +kernel
theorem dX7_single_23 : decode cX7_single 23 = .ok (.iload_n 3, 1) := by decide +kernel
theorem dX7_single_24 : decode cX7_single 24 = .ok (.bipush 65, 2) := by decide +kernel
theorem dX7_single_26 : decode cX7_single 26 = .ok (.if_icmp .eq 9, 3) := by decide +kernel
theorem dX7_single_29 : decode cX7_single 29 = .ok (.aload_n 0, 1) := by decide +kernel
theorem dX7_single_30 : decode cX7_single 30 = .ok (.aload_n 1, 1) := by decide +kernel
theorem dX7_single_31 : decode cX7_single 31 = .ok (.invokevirtual 75, 3) := by decide +kernel
theorem dX7_single_34 : decode cX7_single 34 = .ok (.lreturn, 1) := by decide +kernel
theorem dX7_single_35 : decode cX7_single 35 = .ok (.iload_n 2, 1) := by decide +kernel
theorem dX7_single_36 : decode cX7_single 36 = .ok (.iconst 4, 1) := by decide +kernel
theorem dX7_single_37 : decode cX7_single 37 = .ok (.if_icmp .lt 13, 3) := by decide +kernel
theorem dX7_single_40 : decode cX7_single 40 = .ok (.aload_n 1, 1) := by decide +kernel
theorem dX7_single_41 : decode cX7_single 41 = .ok (.aload_n 1, 1) := by decide +kernel
theorem dX7_single_42 : decode cX7_single 42 = .ok (.getfield 79, 3) := by decide +kernel
theorem dX7_single_45 : decode cX7_single 45 = .ok (.invokevirtual 83, 3) := by decide +kernel
theorem dX7_single_48 : decode cX7_single 48 = .ok (.lconst 0, 1) := by decide +kernel
theorem dX7_single_49 : decode cX7_single 49 = .ok (.lreturn, 1) := by decide +kernel
theorem dX7_single_50 : decode cX7_single 50 = .ok (.aload_n 1, 1) := by decide +kernel
theorem dX7_single_51 : decode cX7_single 51 = .ok (.dup, 1) := by decide +kernel
theorem dX7_single_52 : decode cX7_single 52 = .ok (.getfield 79, 3) := by decide +kernel
theorem dX7_single_55 : decode cX7_single 55 = .ok (.iconst 1, 1) := by decide +kernel
theorem dX7_single_56 : decode cX7_single 56 = .ok (.iadd, 1) := by decide +kernel
theorem dX7_single_57 : decode cX7_single 57 = .ok (.putfield 79, 3) := by decide +kernel
theorem dX7_single_60 : decode cX7_single 60 = .ok (.iload_n 3, 1) := by decide +kernel
theorem dX7_single_61 : decode cX7_single 61 = .ok (.bipush 40, 2) := by decide +kernel
theorem dX7_single_63 : decode cX7_single 63 = .ok (.if_icmp .ne 22, 3) := by decide +kernel
theorem dX7_single_66 : decode cX7_single 66 = .ok (.aload_n 0, 1) := by decide +kernel
theorem dX7_single_67 : decode cX7_single 67 = .ok (.aload_n 1, 1) := by decide +kernel
theorem dX7_single_68 : decode cX7_single 68 = .ok (.iload_n 2, 1) := by decide +kernel
theorem dX7_single_69 : decode cX7_single 69 = .ok (.iconst 1, 1) := by decide +kernel
theorem dX7_single_70 : decode cX7_single 70 = .ok (.iadd, 1) := by decide +kernel
theorem dX7_single_71 : decode cX7_single 71 = .ok (.invokevirtual 55, 3) := by decide +kernel
theorem dX7_single_74 : decode cX7_single 74 = .ok (.lstore 4, 2) := by decide +kernel
theorem dX7_single_76 : decode cX7_single 76 = .ok (.aload_n 1, 1) := by decide +kernel
theorem dX7_single_77 : decode cX7_single 77 = .ok (.bipush 41, 2) := by decide +kernel
theorem dX7_single_79 : decode cX7_single 79 = .ok (.invokevirtual 87, 3) := by decide +kernel
theorem dX7_single_82 : decode cX7_single 82 = .ok (.lload 4, 2) := by decide +kernel
theorem dX7_single_84 : decode cX7_single 84 = .ok (.lreturn, 1) := by decide +kernel
theorem dX7_single_85 : decode cX7_single 85 = .ok (.aload_n 0, 1) := by decide +kernel
theorem dX7_single_86 : decode cX7_single 86 = .ok (.aload_n 1, 1) := by decide +kernel
theorem dX7_single_87 : decode cX7_single 87 = .ok (.iload_n 2, 1) := by decide +kernel
theorem dX7_single_88 : decode cX7_single 88 = .ok (.iconst 1, 1) := by decide +kernel
theorem dX7_single_89 : decode cX7_single 89 = .ok (.iadd, 1) := by decide +kernel
theorem dX7_single_90 : decode cX7_single 90 = .ok (.invokevirtual 68, 3) := by decide +kernel
theorem dX7_single_93 : decode cX7_single 93 = .ok (.lstore 4, 2) := by decide +kernel
theorem dX7_single_95 : decode cX7_single 95 = .ok (.iload_n 3, 1) := by decide +kernel
theorem dX7_single_96 : decode cX7_single 96 = .ok (.bipush 33, 2) := by decide +kernel
theorem dX7_single_98 : decode cX7_single 98 = .ok (.if_icmp .ne 14, 3) := by decide +kernel
theorem dX7_single_101 : decode cX7_single 101 = .ok (.ldc2_w 90, 3) := by decide +kernel
theorem dX7_single_104 : decode cX7_single 104 = .ok (.lload 4, 2) := by decide +kernel
theorem dX7_single_106 : decode cX7_single 106 = .ok (.ldc2_w 92, 3) := by decide +kernel
theorem dX7_single_109 : decode cX7_single 109 = .ok (.lxor, 1) := by decide +kernel
theorem dX7_single_110 : decode cX7_single 110 = .ok (.land, 1) := by decide +kernel
theorem dX7_single_111 : decode cX7_single 111 = .ok (.lreturn, 1) := by decide +kernel
theorem dX7_single_112 : decode cX7_single 112 = .ok (.iload_n 3, 1) := by decide +kernel
theorem dX7_single_113 : decode cX7_single 113 = .ok (.bipush 83, 2) := by decide +kernel
theorem dX7_single_115 : decode cX7_single 115 = .ok (.if_icmp .ne 15, 3) := by decide +kernel
theorem dX7_single_118 : decode cX7_single 118 = .ok (.aload_n 0, 1) := by decide +kernel
theorem dX7_single_119 : decode cX7_single 119 = .ok (.getfield 9, 3) := by decide +kernel
theorem dX7_single_122 : decode cX7_single 122 = .ok (.lload 4, 2) := by decide +kernel
theorem dX7_single_124 : decode cX7_single 124 = .ok (.invokestatic 94, 3) := by decide +kernel
theorem dX7_single_127 : decode cX7_single 127 = .ok (.goto 12, 3) := by decide +kernel
theorem dX7_single_130 : decode cX7_single 130 = .ok (.aload_n 0, 1) := by decide +kernel
theorem dX7_single_131 : decode cX7_single 131 = .ok (.getfield 9, 3) := by decide +kernel
theorem dX7_single_134 : decode cX7_single 134 = .ok (.lload 4, 2) := by decide +kernel
theorem dX7_single_136 : decode cX7_single 136 = .ok (.invokestatic 98, 3) := by decide +kernel
theorem dX7_single_139 : decode cX7_single 139 = .ok (.lreturn, 1) := by decide +kernel
theorem dX7_test_0 : decode cX7_test 0 = .ok (.aload_n 0, 1) := by decide +kernel
theorem dX7_test_1 : decode cX7_test 1 = .ok (.aload_n 1, 1) := by decide +kernel
theorem dX7_test_2 : decode cX7_test 2 = .ok (.invokevirtual 71, 3) := by decide +kernel
theorem dX7_test_5 : decode cX7_test 5 = .ok (.invokevirtual 101, 3) := by decide +kernel
theorem dX7_test_8 : decode cX7_test 8 = .ok (.astore_n 2, 1) := by decide +kernel
theorem dX7_test_9 : decode cX7_test 9 = .ok (.aload_n 2, 1) := by decide +kernel
theorem dX7_test_10 : decode cX7_test 10 = .ok (.ifnonnull 13, 3) := by decide +kernel
theorem dX7_test_13 : decode cX7_test 13 = .ok (.aload_n 1, 1) := by decide +kernel
theorem dX7_test_14 : decode cX7_test 14 = .ok (.aload_n 1, 1) := by decide +kernel
theorem dX7_test_15 : decode cX7_test 15 = .ok (.getfield 79, 3) := by decide +kernel
theorem dX7_test_18 : decode cX7_test 18 = .ok (.invokevirtual 83, 3) := by decide +kernel
theorem dX7_test_21 : decode cX7_test 21 = .ok (.lconst 0, 1) := by decide +kernel
theorem dX7_test_22 : decode cX7_test 22 = .ok (.lreturn, 1) := by decide +kernel
theorem dX7_test_23 : decode cX7_test 23 = .ok (.aload_n 1, 1) := by decide +kernel
theorem dX7_test_24 : decode cX7_test 24 = .ok (.dup, 1) := by decide +kernel
theorem dX7_test_25 : decode cX7_test 25 = .ok (.getfield 79, 3) := by decide +kernel
theorem dX7_test_28 : decode cX7_test 28 = .ok (.iconst 1, 1) := by decide +kernel
theorem dX7_test_29 : decode cX7_test 29 = .ok (.iadd, 1) := by decide +kernel
theorem dX7_test_30 : decode cX7_test 30 = .ok (.putfield 79, 3) := by decide +kernel
theorem dX7_test_33 : decode cX7_test 33 = .ok (.aload_n 1, 1) := by decide +kernel
theorem dX7_test_34 : decode cX7_test 34 = .ok (.invokevirtual 71, 3) := by decide +kernel
theorem dX7_test_37 : decode cX7_test 37 = .ok (.istore_n 3, 1) := by decide +kernel
theorem dX7_test_38 : decode cX7_test 38 = .ok (.iload_n 3, 1) := by decide +kernel
theorem dX7_test_39 : decode cX7_test 39 = .ok (.bipush 60, 2) := by decide +kernel
theorem dX7_test_41 : decode cX7_test 41 = .ok (.if_icmp .eq 25, 3) := by decide +kernel
theorem dX7_test_44 : decode cX7_test 44 = .ok (.iload_n 3, 1) := by decide +kernel
theorem dX7_test_45 : decode cX7_test 45 = .ok (.bipush 61, 2) := by decide +kernel
theorem dX7_test_47 : decode cX7_test 47 = .ok (.if_icmp .eq 19, 3) := by decide +kernel
theorem dX7_test_50 : decode cX7_test 50 = .ok (.iload_n 3, 1) := by decide +kernel
theorem dX7_test_51 : decode cX7_test 51 = .ok (.bipush 62, 2) := by decide +kernel
theorem dX7_test_53 : decode cX7_test 53 = .ok (.if_icmp .eq 13, 3) := by decide +kernel
theorem dX7_test_56 : decode cX7_test 56 = .ok (.aload_n 1, 1) := by decide +kernel
theorem dX7_test_57 : decode cX7_test 57 = .ok (.aload_n 1, 1) := by decide +kernel
theorem dX7_test_58 : decode cX7_test 58 = .ok (.getfield 79, 3) := by decide +kernel
theorem dX7_test_61 : decode cX7_test 61 = .ok (.invokevirtual 83, 3) := by decide +kernel
theorem dX7_test_64 : decode cX7_test 64 = .ok (.lconst 0, 1) := by decide +kernel
theorem dX7_test_65 : decode cX7_test 65 = .ok (.lreturn, 1) := by decide +kernel
theorem dX7_test_66 : decode cX7_test 66 = .ok (.aload_n 1, 1) := by decide +kernel
theorem dX7_test_67 : decode cX7_test 67 = .ok (.dup, 1) := by decide +kernel
theorem dX7_test_68 : decode cX7_test 68 = .ok (.getfield 79, 3) := by decide +kernel
theorem dX7_test_71 : decode cX7_test 71 = .ok (.iconst 1, 1) := by decide +kernel
theorem dX7_test_72 : decode cX7_test 72 = .ok (.iadd, 1) := by decide +kernel
theorem dX7_test_73 : decode cX7_test 73 = .ok (.putfield 79, 3) := by decide +kernel
theorem dX7_test_76 : decode cX7_test 76 = .ok (.aload_n 1, 1) := by decide +kernel
theorem dX7_test_77 : decode cX7_test 77 = .ok (.iconst 3, 1) := by decide +kernel
theorem dX7_test_78 : decode cX7_test 78 = .ok (.sipush 999, 3) := by decide +kernel
theorem dX7_test_81 : decode cX7_test 81 = .ok (.invokevirtual 105, 3) := by decide +kernel
theorem dX7_test_84 : decode cX7_test 84 = .ok (.istore 4, 2) := by decide +kernel
theorem dX7_test_86 : decode cX7_test 86 = .ok (.lconst 0, 1) := by decide +kernel
theorem dX7_test_87 : decode cX7_test 87 = .ok (.lstore 5, 2) := by decide +kernel
theorem dX7_test_89 : decode cX7_test 89 = .ok (.iconst 0, 1) := by decide +kernel
theorem dX7_test_90 : decode cX7_test 90 = .ok (.istore 7, 2) := by decide +kernel
theorem dX7_test_92 : decode cX7_test 92 = .ok (.iload 7, 2) := by decide +kernel
theorem dX7_test_94 : decode cX7_test 94 = .ok (.bipush 40, 2) := by decide +kernel
theorem dX7_test_96 : decode cX7_test 96 = .ok (.if_icmp .ge 31, 3) := by decide +kernel
theorem dX7_test_99 : decode cX7_test 99 = .ok (.aload_n 2, 1) := by decide +kernel
theorem dX7_test_100 : decode cX7_test 100 = .ok (.iload 7, 2) := by decide +kernel
theorem dX7_test_102 : decode cX7_test 102 = .ok (.iaload, 1) := by decide +kernel
theorem dX7_test_103 : decode cX7_test 103 = .ok (.iload_n 3, 1) := by decide +kernel
theorem dX7_test_104 : decode cX7_test 104 = .ok (.iload 4, 2) := by decide +kernel
theorem dX7_test_106 : decode cX7_test 106 = .ok (.invokestatic 109, 3) := by decide +kernel
theorem dX7_test_109 : decode cX7_test 109 = .ok (.ifCond .eq 12, 3) := by decide +kernel
theorem dX7_test_112 : decode cX7_test 112 = .ok (.lload 5, 2) := by decide +kernel
theorem dX7_test_114 : decode cX7_test 114 = .ok (.lconst 1, 1) := by decide +kernel
theorem dX7_test_115 : decode cX7_test 115 = .ok (.iload 7, 2) := by decide +kernel
theorem dX7_test_117 : decode cX7_test 117 = .ok (.lshl, 1) := by decide +kernel
theorem dX7_test_118 : decode cX7_test 118 = .ok (.lor, 1) := by decide +kernel
theorem dX7_test_119 : decode cX7_test 119 = .ok (.lstore 5, 2) := by decide +kernel
theorem dX7_test_121 : decode cX7_test 121 = .ok (.iinc 7 1, 3) := by decide +kernel
theorem dX7_test_124 : decode cX7_test 124 = .ok (.goto (-32), 3) := by decide +kernel
theorem dX7_test_127 : decode cX7_test 127 = .ok (.lload 5, 2) := by decide +kernel
theorem dX7_test_129 : decode cX7_test 129 = .ok (.lreturn, 1) := by decide +kernel
theorem dX7_figuresOf_0 : decode cX7_figuresOf 0 = .ok (.iload_n 1, 1) := by decide +kernel
theorem dX7_figuresOf_1 : decode cX7_figuresOf 1 = .ok (.lookupswitch 76 #[(99, 66), (100, 56), (104, 71), (110, 51), (116, 61)], 51) := by decide +kernel
theorem dX7_figuresOf_52 : decode cX7_figuresOf 52 = .ok (.aload_n 0, 1) := by decide +kernel
theorem dX7_figuresOf_53 : decode cX7_figuresOf 53 = .ok (.getfield 15, 3) := by decide +kernel
theorem dX7_figuresOf_56 : decode cX7_figuresOf 56 = .ok (.areturn, 1) := by decide +kernel
theorem dX7_figuresOf_57 : decode cX7_figuresOf 57 = .ok (.aload_n 0, 1) := by decide +kernel
theorem dX7_figuresOf_58 : decode cX7_figuresOf 58 = .ok (.getfield 19, 3) := by decide +kernel
theorem dX7_figuresOf_61 : decode cX7_figuresOf 61 = .ok (.areturn, 1) := by decide +kernel
theorem dX7_figuresOf_62 : decode cX7_figuresOf 62 = .ok (.aload_n 0, 1) := by decide +kernel
theorem dX7_figuresOf_63 : decode cX7_figuresOf 63 = .ok (.getfield 22, 3) := by decide +kernel
theorem dX7_figuresOf_66 : decode cX7_figuresOf 66 = .ok (.areturn, 1) := by decide +kernel
theorem dX7_figuresOf_67 : decode cX7_figuresOf 67 = .ok (.aload_n 0, 1) := by decide +kernel
theorem dX7_figuresOf_68 : decode cX7_figuresOf 68 = .ok (.getfield 25, 3) := by decide +kernel
theorem dX7_figuresOf_71 : decode cX7_figuresOf 71 = .ok (.areturn, 1) := by decide +kernel
theorem dX7_figuresOf_72 : decode cX7_figuresOf 72 = .ok (.aload_n 0, 1) := by decide +kernel
theorem dX7_figuresOf_73 : decode cX7_figuresOf 73 = .ok (.getfield 28, 3) := by decide +kernel
theorem dX7_figuresOf_76 : decode cX7_figuresOf 76 = .ok (.areturn, 1) := by decide +kernel
theorem dX7_figuresOf_77 : decode cX7_figuresOf 77 = .ok (.aconst_null, 1) := by decide +kernel
theorem dX7_figuresOf_78 : decode cX7_figuresOf 78 = .ok (.areturn, 1) := by decide +kernel
theorem dX7_holds_0 : decode cX7_holds 0 = .ok (.iload_n 1, 1) := by decide +kernel
theorem dX7_holds_1 : decode cX7_holds 1 = .ok (.bipush 60, 2) := by decide +kernel
theorem dX7_holds_3 : decode cX7_holds 3 = .ok (.if_icmp .ne 14, 3) := by decide +kernel
theorem dX7_holds_6 : decode cX7_holds 6 = .ok (.iload_n 0, 1) := by decide +kernel
theorem dX7_holds_7 : decode cX7_holds 7 = .ok (.iload_n 2, 1) := by decide +kernel
theorem dX7_holds_8 : decode cX7_holds 8 = .ok (.if_icmp .ge 7, 3) := by decide +kernel
theorem dX7_holds_11 : decode cX7_holds 11 = .ok (.iconst 1, 1) := by decide +kernel
theorem dX7_holds_12 : decode cX7_holds 12 = .ok (.goto 4, 3) := by decide +kernel
theorem dX7_holds_15 : decode cX7_holds 15 = .ok (.iconst 0, 1) := by decide +kernel
theorem dX7_holds_16 : decode cX7_holds 16 = .ok (.ireturn, 1) := by decide +kernel
theorem dX7_holds_17 : decode cX7_holds 17 = .ok (.iload_n 1, 1) := by decide +kernel
theorem dX7_holds_18 : decode cX7_holds 18 = .ok (.bipush 61, 2) := by decide +kernel
theorem dX7_holds_20 : decode cX7_holds 20 = .ok (.if_icmp .ne 16, 3) := by decide +kernel
theorem dX7_holds_23 : decode cX7_holds 23 = .ok (.iload_n 0, 1) := by decide +kernel
theorem dX7_holds_24 : decode cX7_holds 24 = .ok (.iload_n 2, 1) := by decide +kernel
theorem dX7_holds_25 : decode cX7_holds 25 = .ok (.if_icmp .ne 7, 3) := by decide +kernel
theorem dX7_holds_28 : decode cX7_holds 28 = .ok (.iconst 1, 1) := by decide +kernel
theorem dX7_holds_29 : decode cX7_holds 29 = .ok (.goto 17, 3) := by decide +kernel
theorem dX7_holds_32 : decode cX7_holds 32 = .ok (.iconst 0, 1) := by decide +kernel
theorem dX7_holds_33 : decode cX7_holds 33 = .ok (.goto 13, 3) := by decide +kernel
theorem dX7_holds_36 : decode cX7_holds 36 = .ok (.iload_n 0, 1) := by decide +kernel
theorem dX7_holds_37 : decode cX7_holds 37 = .ok (.iload_n 2, 1) := by decide +kernel
theorem dX7_holds_38 : decode cX7_holds 38 = .ok (.if_icmp .le 7, 3) := by decide +kernel
theorem dX7_holds_41 : decode cX7_holds 41 = .ok (.iconst 1, 1) := by decide +kernel
theorem dX7_holds_42 : decode cX7_holds 42 = .ok (.goto 4, 3) := by decide +kernel
theorem dX7_holds_45 : decode cX7_holds 45 = .ok (.iconst 0, 1) := by decide +kernel
theorem dX7_holds_46 : decode cX7_holds 46 = .ok (.ireturn, 1) := by decide +kernel
theorem dX8_init_0 : decode cX8_init 0 = .ok (.aload_n 0, 1) := by decide +kernel
theorem dX8_init_1 : decode cX8_init 1 = .ok (.invokespecial 3, 3) := by decide +kernel
theorem dX8_init_4 : decode cX8_init 4 = .ok (.aload_n 0, 1) := by decide +kernel
theorem dX8_init_5 : decode cX8_init 5 = .ok (.bipush 60, 2) := by decide +kernel
theorem dX8_init_7 : decode cX8_init 7 = .ok (.newarray .long, 2) := by decide +kernel
theorem dX8_init_9 : decode cX8_init 9 = .ok (.putfield 9, 3) := by decide +kernel
theorem dX8_init_12 : decode cX8_init 12 = .ok (.aload_n 0, 1) := by decide +kernel
theorem dX8_init_13 : decode cX8_init 13 = .ok (.iconst 0, 1) := by decide +kernel
theorem dX8_init_14 : decode cX8_init 14 = .ok (.putfield 15, 3) := by decide +kernel
theorem dX8_init_17 : decode cX8_init 17 = .ok (.aload_n 0, 1) := by decide +kernel
theorem dX8_init_18 : decode cX8_init 18 = .ok (.iconst 0, 1) := by decide +kernel
theorem dX8_init_19 : decode cX8_init 19 = .ok (.putfield 19, 3) := by decide +kernel
theorem dX8_init_22 : decode cX8_init 22 = .ok (.aload_n 0, 1) := by decide +kernel
theorem dX8_init_23 : decode cX8_init 23 = .ok (.iload_n 1, 1) := by decide +kernel
theorem dX8_init_24 : decode cX8_init 24 = .ok (.putfield 23, 3) := by decide +kernel
theorem dX8_init_27 : decode cX8_init 27 = .ok (.return_, 1) := by decide +kernel
theorem dX8_begin_0 : decode cX8_begin 0 = .ok (.aload_n 0, 1) := by decide +kernel
theorem dX8_begin_1 : decode cX8_begin 1 = .ok (.iconst 1, 1) := by decide +kernel
theorem dX8_begin_2 : decode cX8_begin 2 = .ok (.putfield 15, 3) := by decide +kernel
theorem dX8_begin_5 : decode cX8_begin 5 = .ok (.aload_n 0, 1) := by decide +kernel
theorem dX8_begin_6 : decode cX8_begin 6 = .ok (.iload_n 1, 1) := by decide +kernel
theorem dX8_begin_7 : decode cX8_begin 7 = .ok (.putfield 19, 3) := by decide +kernel
theorem dX8_begin_10 : decode cX8_begin 10 = .ok (.aload_n 0, 1) := by decide +kernel
theorem dX8_begin_11 : decode cX8_begin 11 = .ok (.getfield 9, 3) := by decide +kernel
theorem dX8_begin_14 : decode cX8_begin 14 = .ok (.lconst 0, 1) := by decide +kernel
theorem dX8_begin_15 : decode cX8_begin 15 = .ok (.invokestatic 26, 3) := by decide +kernel
theorem dX8_begin_18 : decode cX8_begin 18 = .ok (.return_, 1) := by decide +kernel
theorem dX8_placesFrom_0 : decode cX8_placesFrom 0 = .ok (.iload_n 1, 1) := by decide +kernel
theorem dX8_placesFrom_1 : decode cX8_placesFrom 1 = .ok (.ifCond .lt 11, 3) := by decide +kernel
theorem dX8_placesFrom_4 : decode cX8_placesFrom 4 = .ok (.iload_n 1, 1) := by decide +kernel
theorem dX8_placesFrom_5 : decode cX8_placesFrom 5 = .ok (.aload_n 0, 1) := by decide +kernel
theorem dX8_placesFrom_6 : decode cX8_placesFrom 6 = .ok (.getfield 19, 3) := by decide +kernel
theorem dX8_placesFrom_9 : decode cX8_placesFrom 9 = .ok (.if_icmp .lt 7, 3) := by decide +kernel
theorem dX8_placesFrom_12 : decode cX8_placesFrom 12 = .ok (.iconst 0, 1) := by decide +kernel
theorem dX8_placesFrom_13 : decode cX8_placesFrom 13 = .ok (.goto 9, 3) := by decide +kernel
theorem dX8_placesFrom_16 : decode cX8_placesFrom 16 = .ok (.aload_n 0, 1) := by decide +kernel
theorem dX8_placesFrom_17 : decode cX8_placesFrom 17 = .ok (.getfield 19, 3) := by decide +kernel
theorem dX8_placesFrom_20 : decode cX8_placesFrom 20 = .ok (.iload_n 1, 1) := by decide +kernel
theorem dX8_placesFrom_21 : decode cX8_placesFrom 21 = .ok (.isub, 1) := by decide +kernel
theorem dX8_placesFrom_22 : decode cX8_placesFrom 22 = .ok (.ireturn, 1) := by decide +kernel
theorem dX8_put_0 : decode cX8_put 0 = .ok (.aload_n 0, 1) := by decide +kernel
theorem dX8_put_1 : decode cX8_put 1 = .ok (.getfield 9, 3) := by decide +kernel
theorem dX8_put_4 : decode cX8_put 4 = .ok (.iload_n 1, 1) := by decide +kernel
theorem dX8_put_5 : decode cX8_put 5 = .ok (.aload_n 0, 1) := by decide +kernel
theorem dX8_put_6 : decode cX8_put 6 = .ok (.getfield 23, 3) := by decide +kernel
theorem dX8_put_9 : decode cX8_put 9 = .ok (.ifCond .eq 9, 3) := by decide +kernel
theorem dX8_put_12 : decode cX8_put 12 = .ok (.lload_n 2, 1) := by decide +kernel
theorem dX8_put_13 : decode cX8_put 13 = .ok (.l2i, 1) := by decide +kernel
theorem dX8_put_14 : decode cX8_put 14 = .ok (.i2l, 1) := by decide +kernel
theorem dX8_put_15 : decode cX8_put 15 = .ok (.goto 4, 3) := by decide +kernel
theorem dX8_put_18 : decode cX8_put 18 = .ok (.lload_n 2, 1) := by decide +kernel
theorem dX8_put_19 : decode cX8_put 19 = .ok (.lastore, 1) := by decide +kernel
theorem dX8_put_20 : decode cX8_put 20 = .ok (.return_, 1) := by decide +kernel
theorem dX9_init_0 : decode cX9_init 0 = .ok (.aload_n 0, 1) := by decide +kernel
theorem dX9_init_1 : decode cX9_init 1 = .ok (.invokespecial 3, 3) := by decide +kernel
theorem dX9_init_4 : decode cX9_init 4 = .ok (.aload_n 0, 1) := by decide +kernel
theorem dX9_init_5 : decode cX9_init 5 = .ok (.sipush 160, 3) := by decide +kernel
theorem dX9_init_8 : decode cX9_init 8 = .ok (.newarray .byte, 2) := by decide +kernel
theorem dX9_init_10 : decode cX9_init 10 = .ok (.putfield 9, 3) := by decide +kernel
theorem dX9_init_13 : decode cX9_init 13 = .ok (.aload_n 0, 1) := by decide +kernel
theorem dX9_init_14 : decode cX9_init 14 = .ok (.iconst 0, 1) := by decide +kernel
theorem dX9_init_15 : decode cX9_init 15 = .ok (.putfield 15, 3) := by decide +kernel
theorem dX9_init_18 : decode cX9_init 18 = .ok (.aload_n 0, 1) := by decide +kernel
theorem dX9_init_19 : decode cX9_init 19 = .ok (.iconst 0, 1) := by decide +kernel
theorem dX9_init_20 : decode cX9_init 20 = .ok (.putfield 19, 3) := by decide +kernel
theorem dX9_init_23 : decode cX9_init 23 = .ok (.aload_n 0, 1) := by decide +kernel
theorem dX9_init_24 : decode cX9_init 24 = .ok (.iconst (-1), 1) := by decide +kernel
theorem dX9_init_25 : decode cX9_init 25 = .ok (.putfield 22, 3) := by decide +kernel
theorem dX9_init_28 : decode cX9_init 28 = .ok (.return_, 1) := by decide +kernel
theorem dX9_append_0 : decode cX9_append 0 = .ok (.aload_n 0, 1) := by decide +kernel
theorem dX9_append_1 : decode cX9_append 1 = .ok (.getfield 15, 3) := by decide +kernel
theorem dX9_append_4 : decode cX9_append 4 = .ok (.sipush 160, 3) := by decide +kernel
theorem dX9_append_7 : decode cX9_append 7 = .ok (.if_icmp .ge 24, 3) := by decide +kernel
theorem dX9_append_10 : decode cX9_append 10 = .ok (.aload_n 0, 1) := by decide +kernel
theorem dX9_append_11 : decode cX9_append 11 = .ok (.getfield 9, 3) := by decide +kernel
theorem dX9_append_14 : decode cX9_append 14 = .ok (.aload_n 0, 1) := by decide +kernel
theorem dX9_append_15 : decode cX9_append 15 = .ok (.getfield 15, 3) := by decide +kernel
theorem dX9_append_18 : decode cX9_append 18 = .ok (.iload_n 1, 1) := by decide +kernel
theorem dX9_append_19 : decode cX9_append 19 = .ok (.i2b, 1) := by decide +kernel
theorem dX9_append_20 : decode cX9_append 20 = .ok (.bastore, 1) := by decide +kernel
theorem dX9_append_21 : decode cX9_append 21 = .ok (.aload_n 0, 1) := by decide +kernel
theorem dX9_append_22 : decode cX9_append 22 = .ok (.dup, 1) := by decide +kernel
theorem dX9_append_23 : decode cX9_append 23 = .ok (.getfield 15, 3) := by decide +kernel
theorem dX9_append_26 : decode cX9_append 26 = .ok (.iconst 1, 1) := by decide +kernel
theorem dX9_append_27 : decode cX9_append 27 = .ok (.iadd, 1) := by decide +kernel
theorem dX9_append_28 : decode cX9_append 28 = .ok (.putfield 15, 3) := by decide +kernel
theorem dX9_append_31 : decode cX9_append 31 = .ok (.return_, 1) := by decide +kernel
theorem dX9_rewind_0 : decode cX9_rewind 0 = .ok (.aload_n 0, 1) := by decide +kernel
theorem dX9_rewind_1 : decode cX9_rewind 1 = .ok (.iconst 0, 1) := by decide +kernel
theorem dX9_rewind_2 : decode cX9_rewind 2 = .ok (.putfield 19, 3) := by decide +kernel
theorem dX9_rewind_5 : decode cX9_rewind 5 = .ok (.aload_n 0, 1) := by decide +kernel
theorem dX9_rewind_6 : decode cX9_rewind 6 = .ok (.iconst (-1), 1) := by decide +kernel
theorem dX9_rewind_7 : decode cX9_rewind 7 = .ok (.putfield 22, 3) := by decide +kernel
theorem dX9_rewind_10 : decode cX9_rewind 10 = .ok (.return_, 1) := by decide +kernel
theorem dX9_hasFault_0 : decode cX9_hasFault 0 = .ok (.aload_n 0, 1) := by decide +kernel
theorem dX9_hasFault_1 : decode cX9_hasFault 1 = .ok (.getfield 22, 3) := by decide +kernel
theorem dX9_hasFault_4 : decode cX9_hasFault 4 = .ok (.iconst (-1), 1) := by decide +kernel
theorem dX9_hasFault_5 : decode cX9_hasFault 5 = .ok (.if_icmp .eq 7, 3) := by decide +kernel
theorem dX9_hasFault_8 : decode cX9_hasFault 8 = .ok (.iconst 1, 1) := by decide +kernel
theorem dX9_hasFault_9 : decode cX9_hasFault 9 = .ok (.goto 4, 3) := by decide +kernel
theorem dX9_hasFault_12 : decode cX9_hasFault 12 = .ok (.iconst 0, 1) := by decide +kernel
theorem dX9_hasFault_13 : decode cX9_hasFault 13 = .ok (.ireturn, 1) := by decide +kernel
theorem dX9_fail_0 : decode cX9_fail 0 = .ok (.aload_n 0, 1) := by decide +kernel
theorem dX9_fail_1 : decode cX9_fail 1 = .ok (.getfield 22, 3) := by decide +kernel
theorem dX9_fail_4 : decode cX9_fail 4 = .ok (.iconst (-1), 1) := by decide +kernel
theorem dX9_fail_5 : decode cX9_fail 5 = .ok (.if_icmp .ne 16, 3) := by decide +kernel
theorem dX9_fail_8 : decode cX9_fail 8 = .ok (.aload_n 0, 1) := by decide +kernel
theorem dX9_fail_9 : decode cX9_fail 9 = .ok (.iload_n 1, 1) := by decide +kernel
theorem dX9_fail_10 : decode cX9_fail 10 = .ok (.putfield 22, 3) := by decide +kernel
theorem dX9_fail_13 : decode cX9_fail 13 = .ok (.aload_n 0, 1) := by decide +kernel
theorem dX9_fail_14 : decode cX9_fail 14 = .ok (.aload_n 0, 1) := by decide +kernel
theorem dX9_fail_15 : decode cX9_fail 15 = .ok (.getfield 15, 3) := by decide +kernel
theorem dX9_fail_18 : decode cX9_fail 18 = .ok (.putfield 19, 3) := by decide +kernel
theorem dX9_fail_21 : decode cX9_fail 21 = .ok (.return_, 1) := by decide +kernel
theorem dX9_next_0 : decode cX9_next 0 = .ok (.aload_n 0, 1) := by decide +kernel
theorem dX9_next_1 : decode cX9_next 1 = .ok (.getfield 19, 3) := by decide +kernel
theorem dX9_next_4 : decode cX9_next 4 = .ok (.aload_n 0, 1) := by decide +kernel
theorem dX9_next_5 : decode cX9_next 5 = .ok (.getfield 15, 3) := by decide +kernel
theorem dX9_next_8 : decode cX9_next 8 = .ok (.if_icmp .ge 25, 3) := by decide +kernel
theorem dX9_next_11 : decode cX9_next 11 = .ok (.aload_n 0, 1) := by decide +kernel
theorem dX9_next_12 : decode cX9_next 12 = .ok (.getfield 19, 3) := by decide +kernel
theorem dX9_next_15 : decode cX9_next 15 = .ok (.sipush 160, 3) := by decide +kernel
theorem dX9_next_18 : decode cX9_next 18 = .ok (.if_icmp .ge 15, 3) := by decide +kernel
theorem dX9_next_21 : decode cX9_next 21 = .ok (.aload_n 0, 1) := by decide +kernel
theorem dX9_next_22 : decode cX9_next 22 = .ok (.getfield 9, 3) := by decide +kernel
theorem dX9_next_25 : decode cX9_next 25 = .ok (.aload_n 0, 1) := by decide +kernel
theorem dX9_next_26 : decode cX9_next 26 = .ok (.getfield 19, 3) := by decide +kernel
theorem dX9_next_29 : decode cX9_next 29 = .ok (.baload, 1) := by decide +kernel
theorem dX9_next_30 : decode cX9_next 30 = .ok (.goto 4, 3) := by decide +kernel
theorem dX9_next_33 : decode cX9_next 33 = .ok (.iconst (-1), 1) := by decide +kernel
theorem dX9_next_34 : decode cX9_next 34 = .ok (.ireturn, 1) := by decide +kernel
theorem dX9_takes_0 : decode cX9_takes 0 = .ok (.aload_n 0, 1) := by decide +kernel
theorem dX9_takes_1 : decode cX9_takes 1 = .ok (.invokevirtual 25, 3) := by decide +kernel
theorem dX9_takes_4 : decode cX9_takes 4 = .ok (.iload_n 1, 1) := by decide +kernel
theorem dX9_takes_5 : decode cX9_takes 5 = .ok (.if_icmp .ne 7, 3) := by decide +kernel
theorem dX9_takes_8 : decode cX9_takes 8 = .ok (.iconst 1, 1) := by decide +kernel
theorem dX9_takes_9 : decode cX9_takes 9 = .ok (.goto 4, 3) := by decide +kernel
theorem dX9_takes_12 : decode cX9_takes 12 = .ok (.iconst 0, 1) := by decide +kernel
theorem dX9_takes_13 : decode cX9_takes 13 = .ok (.istore_n 2, 1) := by decide +kernel
theorem dX9_takes_14 : decode cX9_takes 14 = .ok (.iload_n 2, 1) := by decide +kernel
theorem dX9_takes_15 : decode cX9_takes 15 = .ok (.ifCond .eq 13, 3) := by decide +kernel
theorem dX9_takes_18 : decode cX9_takes 18 = .ok (.aload_n 0, 1) := by decide +kernel
theorem dX9_takes_19 : decode cX9_takes 19 = .ok (.dup, 1) := by decide +kernel
theorem dX9_takes_20 : decode cX9_takes 20 = .ok (.getfield 19, 3) := by decide +kernel
theorem dX9_takes_23 : decode cX9_takes 23 = .ok (.iconst 1, 1) := by decide +kernel
theorem dX9_takes_24 : decode cX9_takes 24 = .ok (.iadd, 1) := by decide +kernel
theorem dX9_takes_25 : decode cX9_takes 25 = .ok (.putfield 19, 3) := by decide +kernel
theorem dX9_takes_28 : decode cX9_takes 28 = .ok (.iload_n 2, 1) := by decide +kernel
theorem dX9_takes_29 : decode cX9_takes 29 = .ok (.ireturn, 1) := by decide +kernel
theorem dX9_need_0 : decode cX9_need 0 = .ok (.aload_n 0, 1) := by decide +kernel
theorem dX9_need_1 : decode cX9_need 1 = .ok (.iload_n 1, 1) := by decide +kernel
theorem dX9_need_2 : decode cX9_need 2 = .ok (.invokevirtual 29, 3) := by decide +kernel
theorem dX9_need_5 : decode cX9_need 5 = .ok (.ifCond .ne 11, 3) := by decide +kernel
theorem dX9_need_8 : decode cX9_need 8 = .ok (.aload_n 0, 1) := by decide +kernel
theorem dX9_need_9 : decode cX9_need 9 = .ok (.aload_n 0, 1) := by decide +kernel
theorem dX9_need_10 : decode cX9_need 10 = .ok (.getfield 19, 3) := by decide +kernel
theorem dX9_need_13 : decode cX9_need 13 = .ok (.invokevirtual 33, 3) := by decide +kernel
theorem dX9_need_16 : decode cX9_need 16 = .ok (.return_, 1) := by decide +kernel
theorem dX9_needEnd_0 : decode cX9_needEnd 0 = .ok (.aload_n 0, 1) := by decide +kernel
theorem dX9_needEnd_1 : decode cX9_needEnd 1 = .ok (.getfield 19, 3) := by decide +kernel
theorem dX9_needEnd_4 : decode cX9_needEnd 4 = .ok (.aload_n 0, 1) := by decide +kernel
theorem dX9_needEnd_5 : decode cX9_needEnd 5 = .ok (.getfield 15, 3) := by decide +kernel
theorem dX9_needEnd_8 : decode cX9_needEnd 8 = .ok (.if_icmp .ge 11, 3) := by decide +kernel
theorem dX9_needEnd_11 : decode cX9_needEnd 11 = .ok (.aload_n 0, 1) := by decide +kernel
theorem dX9_needEnd_12 : decode cX9_needEnd 12 = .ok (.aload_n 0, 1) := by decide +kernel
theorem dX9_needEnd_13 : decode cX9_needEnd 13 = .ok (.getfield 19, 3) := by decide +kernel
theorem dX9_needEnd_16 : decode cX9_needEnd 16 = .ok (.invokevirtual 33, 3) := by decide +kernel
theorem dX9_needEnd_19 : decode cX9_needEnd 19 = .ok (.return_, 1) := by decide +kernel
theorem dX9_number_0 : decode cX9_number 0 = .ok (.aload_n 0, 1) := by decide +kernel
theorem dX9_number_1 : decode cX9_number 1 = .ok (.getfield 19, 3) := by decide +kernel
theorem dX9_number_4 : decode cX9_number 4 = .ok (.istore_n 3, 1) := by decide +kernel
theorem dX9_number_5 : decode cX9_number 5 = .ok (.iconst 0, 1) := by decide +kernel
theorem dX9_number_6 : decode cX9_number 6 = .ok (.istore 4, 2) := by decide +kernel
theorem dX9_number_8 : decode cX9_number 8 = .ok (.iconst 0, 1) := by decide +kernel
theorem dX9_number_9 : decode cX9_number 9 = .ok (.istore 5, 2) := by decide +kernel
theorem dX9_number_11 : decode cX9_number 11 = .ok (.iload 5, 2) := by decide +kernel
theorem dX9_number_13 : decode cX9_number 13 = .ok (.iload_n 1, 1) := by decide +kernel
theorem dX9_number_14 : decode cX9_number 14 = .ok (.if_icmp .ge 55, 3) := by decide +kernel
theorem dX9_number_17 : decode cX9_number 17 = .ok (.aload_n 0, 1) := by decide +kernel
theorem dX9_number_18 : decode cX9_number 18 = .ok (.invokevirtual 25, 3) := by decide +kernel
theorem dX9_number_21 : decode cX9_number 21 = .ok (.istore 6, 2) := by decide +kernel
theorem dX9_number_23 : decode cX9_number 23 = .ok (.iload 6, 2) := by decide +kernel
theorem dX9_number_25 : decode cX9_number 25 = .ok (.bipush 48, 2) := by decide +kernel
theorem dX9_number_27 : decode cX9_number 27 = .ok (.if_icmp .lt 42, 3) := by decide +kernel
theorem dX9_number_30 : decode cX9_number 30 = .ok (.iload 6, 2) := by decide +kernel
theorem dX9_number_32 : decode cX9_number 32 = .ok (.bipush 57, 2) := by decide +kernel
theorem dX9_number_34 : decode cX9_number 34 = .ok (.if_icmp .le 6, 3) := by decide +kernel
theorem dX9_number_37 : decode cX9_number 37 = .ok (.goto 32, 3) := by decide +kernel
theorem dX9_number_40 : decode cX9_number 40 = .ok (.iload 4, 2) := by decide +kernel
theorem dX9_number_42 : decode cX9_number 42 = .ok (.bipush 10, 2) := by decide +kernel
theorem dX9_number_44 : decode cX9_number 44 = .ok (.imul, 1) := by decide +kernel
theorem dX9_number_45 : decode cX9_number 45 = .ok (.iload 6, 2) := by decide +kernel
theorem dX9_number_47 : decode cX9_number 47 = .ok (.bipush 48, 2) := by decide +kernel
theorem dX9_number_49 : decode cX9_number 49 = .ok (.isub, 1) := by decide +kernel
theorem dX9_number_50 : decode cX9_number 50 = .ok (.iadd, 1) := by decide +kernel
theorem dX9_number_51 : decode cX9_number 51 = .ok (.istore 4, 2) := by decide +kernel
theorem dX9_number_53 : decode cX9_number 53 = .ok (.aload_n 0, 1) := by decide +kernel
theorem dX9_number_54 : decode cX9_number 54 = .ok (.dup, 1) := by decide +kernel
theorem dX9_number_55 : decode cX9_number 55 = .ok (.getfield 19, 3) := by decide +kernel
theorem dX9_number_58 : decode cX9_number 58 = .ok (.iconst 1, 1) := by decide +kernel
theorem dX9_number_59 : decode cX9_number 59 = .ok (.iadd, 1) := by decide +kernel
theorem dX9_number_60 : decode cX9_number 60 = .ok (.putfield 19, 3) := by decide +kernel
theorem dX9_number_63 : decode cX9_number 63 = .ok (.iinc 5 1, 3) := by decide +kernel
theorem dX9_number_66 : decode cX9_number 66 = .ok (.goto (-55), 3) := by decide +kernel
theorem dX9_number_69 : decode cX9_number 69 = .ok (.aload_n 0, 1) := by decide +kernel
theorem dX9_number_70 : decode cX9_number 70 = .ok (.getfield 19, 3) := by decide +kernel
theorem dX9_number_73 : decode cX9_number 73 = .ok (.iload_n 3, 1) := by decide +kernel
theorem dX9_number_74 : decode cX9_number 74 = .ok (.if_icmp .eq 9, 3) := by decide +kernel
theorem dX9_number_77 : decode cX9_number 77 = .ok (.iload 4, 2) := by decide +kernel
theorem dX9_number_79 : decode cX9_number 79 = .ok (.iload_n 2, 1) := by decide +kernel
theorem dX9_number_80 : decode cX9_number 80 = .ok (.if_icmp .le 8, 3) := by decide +kernel
theorem dX9_number_83 : decode cX9_number 83 = .ok (.aload_n 0, 1) := by decide +kernel
theorem dX9_number_84 : decode cX9_number 84 = .ok (.iload_n 3, 1) := by decide +kernel
theorem dX9_number_85 : decode cX9_number 85 = .ok (.invokevirtual 33, 3) := by decide +kernel
theorem dX9_number_88 : decode cX9_number 88 = .ok (.iload 4, 2) := by decide +kernel
theorem dX9_number_90 : decode cX9_number 90 = .ok (.ireturn, 1) := by decide +kernel
theorem dX10_init_0 : decode cX10_init 0 = .ok (.aload_n 0, 1) := by decide +kernel
theorem dX10_init_1 : decode cX10_init 1 = .ok (.invokespecial 5, 3) := by decide +kernel
theorem dX10_init_4 : decode cX10_init 4 = .ok (.aload_n 0, 1) := by decide +kernel
theorem dX10_init_5 : decode cX10_init 5 = .ok (.new 11, 3) := by decide +kernel
theorem dX10_init_8 : decode cX10_init 8 = .ok (.dup, 1) := by decide +kernel
theorem dX10_init_9 : decode cX10_init 9 = .ok (.invokespecial 13, 3) := by decide +kernel
theorem dX10_init_12 : decode cX10_init 12 = .ok (.putfield 14, 3) := by decide +kernel
theorem dX10_init_15 : decode cX10_init 15 = .ok (.aload_n 0, 1) := by decide +kernel
theorem dX10_init_16 : decode cX10_init 16 = .ok (.new 11, 3) := by decide +kernel
theorem dX10_init_19 : decode cX10_init 19 = .ok (.dup, 1) := by decide +kernel
theorem dX10_init_20 : decode cX10_init 20 = .ok (.invokespecial 13, 3) := by decide +kernel
theorem dX10_init_23 : decode cX10_init 23 = .ok (.putfield 18, 3) := by decide +kernel
theorem dX10_init_26 : decode cX10_init 26 = .ok (.aload_n 0, 1) := by decide +kernel
theorem dX10_init_27 : decode cX10_init 27 = .ok (.iconst 0, 1) := by decide +kernel
theorem dX10_init_28 : decode cX10_init 28 = .ok (.putfield 21, 3) := by decide +kernel
theorem dX10_init_31 : decode cX10_init 31 = .ok (.aload_n 0, 1) := by decide +kernel
theorem dX10_init_32 : decode cX10_init 32 = .ok (.new 25, 3) := by decide +kernel
theorem dX10_init_35 : decode cX10_init 35 = .ok (.dup, 1) := by decide +kernel
theorem dX10_init_36 : decode cX10_init 36 = .ok (.invokespecial 27, 3) := by decide +kernel
theorem dX10_init_39 : decode cX10_init 39 = .ok (.putfield 28, 3) := by decide +kernel
theorem dX10_init_42 : decode cX10_init 42 = .ok (.aload_n 0, 1) := by decide +kernel
theorem dX10_init_43 : decode cX10_init 43 = .ok (.new 32, 3) := by decide +kernel
theorem dX10_init_46 : decode cX10_init 46 = .ok (.dup, 1) := by decide +kernel
theorem dX10_init_47 : decode cX10_init 47 = .ok (.invokespecial 34, 3) := by decide +kernel
theorem dX10_init_50 : decode cX10_init 50 = .ok (.putfield 35, 3) := by decide +kernel
theorem dX10_init_53 : decode cX10_init 53 = .ok (.aload_n 0, 1) := by decide +kernel
theorem dX10_init_54 : decode cX10_init 54 = .ok (.new 39, 3) := by decide +kernel
theorem dX10_init_57 : decode cX10_init 57 = .ok (.dup, 1) := by decide +kernel
theorem dX10_init_58 : decode cX10_init 58 = .ok (.invokespecial 41, 3) := by decide +kernel
theorem dX10_init_61 : decode cX10_init 61 = .ok (.putfield 42, 3) := by decide +kernel
theorem dX10_init_64 : decode cX10_init 64 = .ok (.aload_n 0, 1) := by decide +kernel
theorem dX10_init_65 : decode cX10_init 65 = .ok (.new 46, 3) := by decide +kernel
theorem dX10_init_68 : decode cX10_init 68 = .ok (.dup, 1) := by decide +kernel
theorem dX10_init_69 : decode cX10_init 69 = .ok (.invokespecial 48, 3) := by decide +kernel
theorem dX10_init_72 : decode cX10_init 72 = .ok (.putfield 49, 3) := by decide +kernel
theorem dX10_init_75 : decode cX10_init 75 = .ok (.aload_n 0, 1) := by decide +kernel
theorem dX10_init_76 : decode cX10_init 76 = .ok (.new 53, 3) := by decide +kernel
theorem dX10_init_79 : decode cX10_init 79 = .ok (.dup, 1) := by decide +kernel
theorem dX10_init_80 : decode cX10_init 80 = .ok (.invokespecial 55, 3) := by decide +kernel
theorem dX10_init_83 : decode cX10_init 83 = .ok (.putfield 56, 3) := by decide +kernel
theorem dX10_init_86 : decode cX10_init 86 = .ok (.aload_n 0, 1) := by decide +kernel
theorem dX10_init_87 : decode cX10_init 87 = .ok (.new 60, 3) := by decide +kernel
theorem dX10_init_90 : decode cX10_init 90 = .ok (.dup, 1) := by decide +kernel
theorem dX10_init_91 : decode cX10_init 91 = .ok (.invokespecial 62, 3) := by decide +kernel
theorem dX10_init_94 : decode cX10_init 94 = .ok (.putfield 63, 3) := by decide +kernel
theorem dX10_init_97 : decode cX10_init 97 = .ok (.aload_n 0, 1) := by decide +kernel
theorem dX10_init_98 : decode cX10_init 98 = .ok (.bipush 6, 2) := by decide +kernel
theorem dX10_init_100 : decode cX10_init 100 = .ok (.anewarray 67, 3) := by decide +kernel
theorem dX10_init_103 : decode cX10_init 103 = .ok (.putfield 69, 3) := by decide +kernel
theorem dX10_init_106 : decode cX10_init 106 = .ok (.aload_n 0, 1) := by decide +kernel
theorem dX10_init_107 : decode cX10_init 107 = .ok (.bipush 40, 2) := by decide +kernel
theorem dX10_init_109 : decode cX10_init 109 = .ok (.newarray .int, 2) := by decide +kernel
theorem dX10_init_111 : decode cX10_init 111 = .ok (.putfield 73, 3) := by decide +kernel
theorem dX10_init_114 : decode cX10_init 114 = .ok (.iconst 0, 1) := by decide +kernel
theorem dX10_init_115 : decode cX10_init 115 = .ok (.istore_n 1, 1) := by decide +kernel
theorem dX10_init_116 : decode cX10_init 116 = .ok (.iload_n 1, 1) := by decide +kernel
theorem dX10_init_117 : decode cX10_init 117 = .ok (.bipush 6, 2) := by decide +kernel
theorem dX10_init_119 : decode cX10_init 119 = .ok (.if_icmp .ge 32, 3) := by decide +kernel
theorem dX10_init_122 : decode cX10_init 122 = .ok (.aload_n 0, 1) := by decide +kernel
theorem dX10_init_123 : decode cX10_init 123 = .ok (.getfield 69, 3) := by decide +kernel
theorem dX10_init_126 : decode cX10_init 126 = .ok (.iload_n 1, 1) := by decide +kernel
theorem dX10_init_127 : decode cX10_init 127 = .ok (.new 67, 3) := by decide +kernel
theorem dX10_init_130 : decode cX10_init 130 = .ok (.dup, 1) := by decide +kernel
theorem dX10_init_131 : decode cX10_init 131 = .ok (.iload_n 1, 1) := by decide +kernel
theorem dX10_init_132 : decode cX10_init 132 = .ok (.iconst 4, 1) := by decide +kernel
theorem dX10_init_133 : decode cX10_init 133 = .ok (.if_icmp .ge 7, 3) := by decide +kernel
theorem dX10_init_136 : decode cX10_init 136 = .ok (.iconst 1, 1) := by decide +kernel
theorem dX10_init_137 : decode cX10_init 137 = .ok (.goto 4, 3) := by decide +kernel
theorem dX10_init_140 : decode cX10_init 140 = .ok (.iconst 0, 1) := by decide +kernel
theorem dX10_init_141 : decode cX10_init 141 = .ok (.invokespecial 77, 3) := by decide +kernel
theorem dX10_init_144 : decode cX10_init 144 = .ok (.aastore, 1) := by decide +kernel
theorem dX10_init_145 : decode cX10_init 145 = .ok (.iinc 1 1, 3) := by decide +kernel
theorem dX10_init_148 : decode cX10_init 148 = .ok (.goto (-32), 3) := by decide +kernel
theorem dX10_init_151 : decode cX10_init 151 = .ok (.return_, 1) := by decide +kernel
theorem dX10_add_0 : decode cX10_add 0 = .ok (.iload_n 1, 1) := by decide +kernel
theorem dX10_add_1 : decode cX10_add 1 = .ok (.iload_n 2, 1) := by decide +kernel
theorem dX10_add_2 : decode cX10_add 2 = .ok (.invokestatic 80, 3) := by decide +kernel
theorem dX10_add_5 : decode cX10_add 5 = .ok (.ifCond .ne 5, 3) := by decide +kernel
theorem dX10_add_8 : decode cX10_add 8 = .ok (.iconst (-1), 1) := by decide +kernel
theorem dX10_add_9 : decode cX10_add 9 = .ok (.ireturn, 1) := by decide +kernel
theorem dX10_add_10 : decode cX10_add 10 = .ok (.iload_n 3, 1) := by decide +kernel
theorem dX10_add_11 : decode cX10_add 11 = .ok (.ldc 84, 2) := by decide +kernel
theorem dX10_add_13 : decode cX10_add 13 = .ok (.if_icmp .lt 9, 3) := by decide +kernel
theorem dX10_add_16 : decode cX10_add 16 = .ok (.iload_n 3, 1) := by decide +kernel
theorem dX10_add_17 : decode cX10_add 17 = .ok (.ldc 85, 2) := by decide +kernel
theorem dX10_add_19 : decode cX10_add 19 = .ok (.if_icmp .le 6, 3) := by decide +kernel
theorem dX10_add_22 : decode cX10_add 22 = .ok (.bipush (-2), 2) := by decide +kernel
theorem dX10_add_24 : decode cX10_add 24 = .ok (.ireturn, 1) := by decide +kernel
theorem dX10_add_25 : decode cX10_add 25 = .ok (.aload_n 0, 1) := by decide +kernel
theorem dX10_add_26 : decode cX10_add 26 = .ok (.getfield 14, 3) := by decide +kernel
theorem dX10_add_29 : decode cX10_add 29 = .ok (.iload_n 1, 1) := by decide +kernel
theorem dX10_add_30 : decode cX10_add 30 = .ok (.iload_n 2, 1) := by decide +kernel
theorem dX10_add_31 : decode cX10_add 31 = .ok (.invokevirtual 86, 3) := by decide +kernel
theorem dX10_add_34 : decode cX10_add 34 = .ok (.ifCond .eq 6, 3) := by decide +kernel
theorem dX10_add_37 : decode cX10_add 37 = .ok (.bipush (-3), 2) := by decide +kernel
theorem dX10_add_39 : decode cX10_add 39 = .ok (.ireturn, 1) := by decide +kernel
theorem dX10_add_40 : decode cX10_add 40 = .ok (.aload_n 0, 1) := by decide +kernel
theorem dX10_add_41 : decode cX10_add 41 = .ok (.getfield 14, 3) := by decide +kernel
theorem dX10_add_44 : decode cX10_add 44 = .ok (.iload_n 1, 1) := by decide +kernel
theorem dX10_add_45 : decode cX10_add 45 = .ok (.iload_n 2, 1) := by decide +kernel
theorem dX10_add_46 : decode cX10_add 46 = .ok (.iload_n 3, 1) := by decide +kernel
theorem dX10_add_47 : decode cX10_add 47 = .ok (.invokevirtual 89, 3) := by decide +kernel
theorem dX10_add_50 : decode cX10_add 50 = .ok (.aload_n 0, 1) := by decide +kernel
theorem dX10_add_51 : decode cX10_add 51 = .ok (.getfield 14, 3) := by decide +kernel
theorem dX10_add_54 : decode cX10_add 54 = .ok (.getfield 93, 3) := by decide +kernel
theorem dX10_add_57 : decode cX10_add 57 = .ok (.iload_n 1, 1) := by decide +kernel
theorem dX10_add_58 : decode cX10_add 58 = .ok (.iload_n 2, 1) := by decide +kernel
theorem dX10_add_59 : decode cX10_add 59 = .ok (.invokestatic 97, 3) := by decide +kernel
theorem dX10_add_62 : decode cX10_add 62 = .ok (.ireturn, 1) := by decide +kernel
theorem dX10_cut_0 : decode cX10_cut 0 = .ok (.iload_n 1, 1) := by decide +kernel
theorem dX10_cut_1 : decode cX10_cut 1 = .ok (.iload_n 2, 1) := by decide +kernel
theorem dX10_cut_2 : decode cX10_cut 2 = .ok (.invokestatic 80, 3) := by decide +kernel
theorem dX10_cut_5 : decode cX10_cut 5 = .ok (.ifCond .ne 5, 3) := by decide +kernel
theorem dX10_cut_8 : decode cX10_cut 8 = .ok (.iconst (-1), 1) := by decide +kernel
theorem dX10_cut_9 : decode cX10_cut 9 = .ok (.ireturn, 1) := by decide +kernel
theorem dX10_cut_10 : decode cX10_cut 10 = .ok (.aload_n 0, 1) := by decide +kernel
theorem dX10_cut_11 : decode cX10_cut 11 = .ok (.getfield 14, 3) := by decide +kernel
theorem dX10_cut_14 : decode cX10_cut 14 = .ok (.iload_n 1, 1) := by decide +kernel
theorem dX10_cut_15 : decode cX10_cut 15 = .ok (.iload_n 2, 1) := by decide +kernel
theorem dX10_cut_16 : decode cX10_cut 16 = .ok (.invokevirtual 86, 3) := by decide +kernel
theorem dX10_cut_19 : decode cX10_cut 19 = .ok (.ifCond .ne 6, 3) := by decide +kernel
theorem dX10_cut_22 : decode cX10_cut 22 = .ok (.bipush (-3), 2) := by decide +kernel
theorem dX10_cut_24 : decode cX10_cut 24 = .ok (.ireturn, 1) := by decide +kernel
theorem dX10_cut_25 : decode cX10_cut 25 = .ok (.aload_n 0, 1) := by decide +kernel
theorem dX10_cut_26 : decode cX10_cut 26 = .ok (.getfield 14, 3) := by decide +kernel
theorem dX10_cut_29 : decode cX10_cut 29 = .ok (.iload_n 1, 1) := by decide +kernel
theorem dX10_cut_30 : decode cX10_cut 30 = .ok (.iload_n 2, 1) := by decide +kernel
theorem dX10_cut_31 : decode cX10_cut 31 = .ok (.invokevirtual 103, 3) := by decide +kernel
theorem dX10_cut_34 : decode cX10_cut 34 = .ok (.aload_n 0, 1) := by decide +kernel
theorem dX10_cut_35 : decode cX10_cut 35 = .ok (.getfield 14, 3) := by decide +kernel
theorem dX10_cut_38 : decode cX10_cut 38 = .ok (.getfield 93, 3) := by decide +kernel
theorem dX10_cut_41 : decode cX10_cut 41 = .ok (.iload_n 1, 1) := by decide +kernel
theorem dX10_cut_42 : decode cX10_cut 42 = .ok (.iload_n 2, 1) := by decide +kernel
theorem dX10_cut_43 : decode cX10_cut 43 = .ok (.invokestatic 97, 3) := by decide +kernel
theorem dX10_cut_46 : decode cX10_cut 46 = .ok (.ireturn, 1) := by decide +kernel
theorem dX10_worth_0 : decode cX10_worth 0 = .ok (.iload_n 1, 1) := by decide +kernel
theorem dX10_worth_1 : decode cX10_worth 1 = .ok (.iload_n 2, 1) := by decide +kernel
theorem dX10_worth_2 : decode cX10_worth 2 = .ok (.invokestatic 80, 3) := by decide +kernel
theorem dX10_worth_5 : decode cX10_worth 5 = .ok (.ifCond .eq 15, 3) := by decide +kernel
theorem dX10_worth_8 : decode cX10_worth 8 = .ok (.aload_n 0, 1) := by decide +kernel
theorem dX10_worth_9 : decode cX10_worth 9 = .ok (.getfield 14, 3) := by decide +kernel
theorem dX10_worth_12 : decode cX10_worth 12 = .ok (.iload_n 1, 1) := by decide +kernel
theorem dX10_worth_13 : decode cX10_worth 13 = .ok (.iload_n 2, 1) := by decide +kernel
theorem dX10_worth_14 : decode cX10_worth 14 = .ok (.invokevirtual 86, 3) := by decide +kernel
theorem dX10_worth_17 : decode cX10_worth 17 = .ok (.ifCond .ne 7, 3) := by decide +kernel
theorem dX10_worth_20 : decode cX10_worth 20 = .ok (.ldc2_w 107, 3) := by decide +kernel
theorem dX10_worth_23 : decode cX10_worth 23 = .ok (.lreturn, 1) := by decide +kernel
theorem dX10_worth_24 : decode cX10_worth 24 = .ok (.aload_n 0, 1) := by decide +kernel
theorem dX10_worth_25 : decode cX10_worth 25 = .ok (.getfield 14, 3) := by decide +kernel
theorem dX10_worth_28 : decode cX10_worth 28 = .ok (.getfield 109, 3) := by decide +kernel
theorem dX10_worth_31 : decode cX10_worth 31 = .ok (.iload_n 1, 1) := by decide +kernel
theorem dX10_worth_32 : decode cX10_worth 32 = .ok (.iload_n 2, 1) := by decide +kernel
theorem dX10_worth_33 : decode cX10_worth 33 = .ok (.invokestatic 112, 3) := by decide +kernel
theorem dX10_worth_36 : decode cX10_worth 36 = .ok (.iaload, 1) := by decide +kernel
theorem dX10_worth_37 : decode cX10_worth 37 = .ok (.i2l, 1) := by decide +kernel
theorem dX10_worth_38 : decode cX10_worth 38 = .ok (.lreturn, 1) := by decide +kernel
theorem dX10_of_0 : decode cX10_of 0 = .ok (.iload_n 1, 1) := by decide +kernel
theorem dX10_of_1 : decode cX10_of 1 = .ok (.invokestatic 116, 3) := by decide +kernel
theorem dX10_of_4 : decode cX10_of 4 = .ok (.ifCond .ne 5, 3) := by decide +kernel
theorem dX10_of_7 : decode cX10_of 7 = .ok (.iconst (-1), 1) := by decide +kernel
theorem dX10_of_8 : decode cX10_of 8 = .ok (.ireturn, 1) := by decide +kernel
theorem dX10_of_9 : decode cX10_of 9 = .ok (.iload_n 2, 1) := by decide +kernel
theorem dX10_of_10 : decode cX10_of 10 = .ok (.tableswitch 124 0 5 #[38, 50, 62, 79, 100, 112], 38) := by decide +kernel
theorem dX10_of_48 : decode cX10_of 48 = .ok (.aload_n 0, 1) := by decide +kernel
theorem dX10_of_49 : decode cX10_of 49 = .ok (.getfield 14, 3) := by decide +kernel
theorem dX10_of_52 : decode cX10_of 52 = .ok (.getfield 93, 3) := by decide +kernel
theorem dX10_of_55 : decode cX10_of 55 = .ok (.iload_n 1, 1) := by decide +kernel
theorem dX10_of_56 : decode cX10_of 56 = .ok (.invokestatic 120, 3) := by decide +kernel
theorem dX10_of_59 : decode cX10_of 59 = .ok (.ireturn, 1) := by decide +kernel
theorem dX10_of_60 : decode cX10_of 60 = .ok (.aload_n 0, 1) := by decide +kernel
theorem dX10_of_61 : decode cX10_of 61 = .ok (.getfield 14, 3) := by decide +kernel
theorem dX10_of_64 : decode cX10_of 64 = .ok (.getfield 93, 3) := by decide +kernel
theorem dX10_of_67 : decode cX10_of 67 = .ok (.iload_n 1, 1) := by decide +kernel
theorem dX10_of_68 : decode cX10_of 68 = .ok (.invokestatic 124, 3) := by decide +kernel
theorem dX10_of_71 : decode cX10_of 71 = .ok (.ireturn, 1) := by decide +kernel
theorem dX10_of_72 : decode cX10_of 72 = .ok (.aload_n 0, 1) := by decide +kernel
theorem dX10_of_73 : decode cX10_of 73 = .ok (.getfield 14, 3) := by decide +kernel
theorem dX10_of_76 : decode cX10_of 76 = .ok (.iload_n 1, 1) := by decide +kernel
theorem dX10_of_77 : decode cX10_of 77 = .ok (.invokevirtual 127, 3) := by decide +kernel
theorem dX10_of_80 : decode cX10_of 80 = .ok (.ifCond .eq 7, 3) := by decide +kernel
theorem dX10_of_83 : decode cX10_of 83 = .ok (.iconst 1, 1) := by decide +kernel
theorem dX10_of_84 : decode cX10_of 84 = .ok (.goto 4, 3) := by decide +kernel
theorem dX10_of_87 : decode cX10_of 87 = .ok (.iconst 0, 1) := by decide +kernel
theorem dX10_of_88 : decode cX10_of 88 = .ok (.ireturn, 1) := by decide +kernel
theorem dX10_of_89 : decode cX10_of 89 = .ok (.aload_n 0, 1) := by decide +kernel
theorem dX10_of_90 : decode cX10_of 90 = .ok (.getfield 14, 3) := by decide +kernel
theorem dX10_of_93 : decode cX10_of 93 = .ok (.getfield 93, 3) := by decide +kernel
theorem dX10_of_96 : decode cX10_of 96 = .ok (.aload_n 0, 1) := by decide +kernel
theorem dX10_of_97 : decode cX10_of 97 = .ok (.getfield 73, 3) := by decide +kernel
theorem dX10_of_100 : decode cX10_of 100 = .ok (.invokestatic 130, 3) := by decide +kernel
theorem dX10_of_103 : decode cX10_of 103 = .ok (.aload_n 0, 1) := by decide +kernel
theorem dX10_of_104 : decode cX10_of 104 = .ok (.getfield 73, 3) := by decide +kernel
theorem dX10_of_107 : decode cX10_of 107 = .ok (.iload_n 1, 1) := by decide +kernel
theorem dX10_of_108 : decode cX10_of 108 = .ok (.iaload, 1) := by decide +kernel
theorem dX10_of_109 : decode cX10_of 109 = .ok (.ireturn, 1) := by decide +kernel
theorem dX10_of_110 : decode cX10_of 110 = .ok (.aload_n 0, 1) := by decide +kernel
theorem dX10_of_111 : decode cX10_of 111 = .ok (.getfield 14, 3) := by decide +kernel
theorem dX10_of_114 : decode cX10_of 114 = .ok (.getfield 93, 3) := by decide +kernel
theorem dX10_of_117 : decode cX10_of 117 = .ok (.iload_n 1, 1) := by decide +kernel
theorem dX10_of_118 : decode cX10_of 118 = .ok (.invokestatic 134, 3) := by decide +kernel
theorem dX10_of_121 : decode cX10_of 121 = .ok (.ireturn, 1) := by decide +kernel
theorem dX10_of_122 : decode cX10_of 122 = .ok (.aload_n 0, 1) := by decide +kernel
theorem dX10_of_123 : decode cX10_of 123 = .ok (.getfield 14, 3) := by decide +kernel
theorem dX10_of_126 : decode cX10_of 126 = .ok (.getfield 93, 3) := by decide +kernel
theorem dX10_of_129 : decode cX10_of 129 = .ok (.iload_n 1, 1) := by decide +kernel
theorem dX10_of_130 : decode cX10_of 130 = .ok (.invokestatic 137, 3) := by decide +kernel
theorem dX10_of_133 : decode cX10_of 133 = .ok (.ireturn, 1) := by decide +kernel
theorem dX10_of_134 : decode cX10_of 134 = .ok (.iconst (-1), 1) := by decide +kernel
theorem dX10_of_135 : decode cX10_of 135 = .ok (.ireturn, 1) := by decide +kernel
theorem dX10_two_0 : decode cX10_two 0 = .ok (.iload_n 1, 1) := by decide +kernel
theorem dX10_two_1 : decode cX10_two 1 = .ok (.iload_n 2, 1) := by decide +kernel
theorem dX10_two_2 : decode cX10_two 2 = .ok (.invokestatic 80, 3) := by decide +kernel
theorem dX10_two_5 : decode cX10_two 5 = .ok (.ifCond .ne 5, 3) := by decide +kernel
theorem dX10_two_8 : decode cX10_two 8 = .ok (.iconst (-1), 1) := by decide +kernel
theorem dX10_two_9 : decode cX10_two 9 = .ok (.ireturn, 1) := by decide +kernel
theorem dX10_two_10 : decode cX10_two 10 = .ok (.iload_n 3, 1) := by decide +kernel
theorem dX10_two_11 : decode cX10_two 11 = .ok (.tableswitch 125 0 4 #[33, 46, 81, 94, 112], 33) := by decide +kernel
theorem dX10_two_44 : decode cX10_two 44 = .ok (.aload_n 0, 1) := by decide +kernel
theorem dX10_two_45 : decode cX10_two 45 = .ok (.getfield 14, 3) := by decide +kernel
theorem dX10_two_48 : decode cX10_two 48 = .ok (.getfield 93, 3) := by decide +kernel
theorem dX10_two_51 : decode cX10_two 51 = .ok (.iload_n 1, 1) := by decide +kernel
theorem dX10_two_52 : decode cX10_two 52 = .ok (.iload_n 2, 1) := by decide +kernel
theorem dX10_two_53 : decode cX10_two 53 = .ok (.invokestatic 97, 3) := by decide +kernel
theorem dX10_two_56 : decode cX10_two 56 = .ok (.ireturn, 1) := by decide +kernel
theorem dX10_two_57 : decode cX10_two 57 = .ok (.aload_n 0, 1) := by decide +kernel
theorem dX10_two_58 : decode cX10_two 58 = .ok (.getfield 14, 3) := by decide +kernel
theorem dX10_two_61 : decode cX10_two 61 = .ok (.getfield 93, 3) := by decide +kernel
theorem dX10_two_64 : decode cX10_two 64 = .ok (.iload_n 1, 1) := by decide +kernel
theorem dX10_two_65 : decode cX10_two 65 = .ok (.laload, 1) := by decide +kernel
theorem dX10_two_66 : decode cX10_two 66 = .ok (.aload_n 0, 1) := by decide +kernel
theorem dX10_two_67 : decode cX10_two 67 = .ok (.getfield 14, 3) := by decide +kernel
theorem dX10_two_70 : decode cX10_two 70 = .ok (.getfield 93, 3) := by decide +kernel
theorem dX10_two_73 : decode cX10_two 73 = .ok (.iload_n 2, 1) := by decide +kernel
theorem dX10_two_74 : decode cX10_two 74 = .ok (.laload, 1) := by decide +kernel
theorem dX10_two_75 : decode cX10_two 75 = .ok (.land, 1) := by decide +kernel
theorem dX10_two_76 : decode cX10_two 76 = .ok (.aload_n 0, 1) := by decide +kernel
theorem dX10_two_77 : decode cX10_two 77 = .ok (.getfield 14, 3) := by decide +kernel
theorem dX10_two_80 : decode cX10_two 80 = .ok (.getfield 140, 3) := by decide +kernel
theorem dX10_two_83 : decode cX10_two 83 = .ok (.ldc2_w 144, 3) := by decide +kernel
theorem dX10_two_86 : decode cX10_two 86 = .ok (.lxor, 1) := by decide +kernel
theorem dX10_two_87 : decode cX10_two 87 = .ok (.land, 1) := by decide +kernel
theorem dX10_two_88 : decode cX10_two 88 = .ok (.invokestatic 146, 3) := by decide +kernel
theorem dX10_two_91 : decode cX10_two 91 = .ok (.ireturn, 1) := by decide +kernel
theorem dX10_two_92 : decode cX10_two 92 = .ok (.aload_n 0, 1) := by decide +kernel
theorem dX10_two_93 : decode cX10_two 93 = .ok (.getfield 14, 3) := by decide +kernel
theorem dX10_two_96 : decode cX10_two 96 = .ok (.getfield 93, 3) := by decide +kernel
theorem dX10_two_99 : decode cX10_two 99 = .ok (.iload_n 1, 1) := by decide +kernel
theorem dX10_two_100 : decode cX10_two 100 = .ok (.iload_n 2, 1) := by decide +kernel
theorem dX10_two_101 : decode cX10_two 101 = .ok (.invokestatic 150, 3) := by decide +kernel
theorem dX10_two_104 : decode cX10_two 104 = .ok (.ireturn, 1) := by decide +kernel
theorem dX10_two_105 : decode cX10_two 105 = .ok (.aload_n 0, 1) := by decide +kernel
theorem dX10_two_106 : decode cX10_two 106 = .ok (.getfield 14, 3) := by decide +kernel
theorem dX10_two_109 : decode cX10_two 109 = .ok (.iload_n 1, 1) := by decide +kernel
theorem dX10_two_110 : decode cX10_two 110 = .ok (.iload_n 2, 1) := by decide +kernel
theorem dX10_two_111 : decode cX10_two 111 = .ok (.invokevirtual 86, 3) := by decide +kernel
theorem dX10_two_114 : decode cX10_two 114 = .ok (.ifCond .eq 7, 3) := by decide +kernel
theorem dX10_two_117 : decode cX10_two 117 = .ok (.iconst 1, 1) := by decide +kernel
theorem dX10_two_118 : decode cX10_two 118 = .ok (.goto 4, 3) := by decide +kernel
theorem dX10_two_121 : decode cX10_two 121 = .ok (.iconst 0, 1) := by decide +kernel
theorem dX10_two_122 : decode cX10_two 122 = .ok (.ireturn, 1) := by decide +kernel
theorem dX10_two_123 : decode cX10_two 123 = .ok (.aload_n 0, 1) := by decide +kernel
theorem dX10_two_124 : decode cX10_two 124 = .ok (.getfield 14, 3) := by decide +kernel
theorem dX10_two_127 : decode cX10_two 127 = .ok (.getfield 93, 3) := by decide +kernel
theorem dX10_two_130 : decode cX10_two 130 = .ok (.iload_n 1, 1) := by decide +kernel
theorem dX10_two_131 : decode cX10_two 131 = .ok (.iload_n 2, 1) := by decide +kernel
theorem dX10_two_132 : decode cX10_two 132 = .ok (.invokestatic 153, 3) := by decide +kernel
theorem dX10_two_135 : decode cX10_two 135 = .ok (.ireturn, 1) := by decide +kernel
theorem dX10_two_136 : decode cX10_two 136 = .ok (.iconst (-1), 1) := by decide +kernel
theorem dX10_two_137 : decode cX10_two 137 = .ok (.ireturn, 1) := by decide +kernel
theorem dX10_edge_0 : decode cX10_edge 0 = .ok (.iload_n 1, 1) := by decide +kernel
theorem dX10_edge_1 : decode cX10_edge 1 = .ok (.iload_n 2, 1) := by decide +kernel
theorem dX10_edge_2 : decode cX10_edge 2 = .ok (.invokestatic 80, 3) := by decide +kernel
theorem dX10_edge_5 : decode cX10_edge 5 = .ok (.ifCond .eq 12, 3) := by decide +kernel
theorem dX10_edge_8 : decode cX10_edge 8 = .ok (.iload_n 3, 1) := by decide +kernel
theorem dX10_edge_9 : decode cX10_edge 9 = .ok (.ifCond .lt 8, 3) := by decide +kernel
theorem dX10_edge_12 : decode cX10_edge 12 = .ok (.iload_n 3, 1) := by decide +kernel
theorem dX10_edge_13 : decode cX10_edge 13 = .ok (.iconst 4, 1) := by decide +kernel
theorem dX10_edge_14 : decode cX10_edge 14 = .ok (.if_icmp .le 5, 3) := by decide +kernel
theorem dX10_edge_17 : decode cX10_edge 17 = .ok (.iconst (-1), 1) := by decide +kernel
theorem dX10_edge_18 : decode cX10_edge 18 = .ok (.ireturn, 1) := by decide +kernel
theorem dX10_edge_19 : decode cX10_edge 19 = .ok (.aload_n 0, 1) := by decide +kernel
theorem dX10_edge_20 : decode cX10_edge 20 = .ok (.getfield 14, 3) := by decide +kernel
theorem dX10_edge_23 : decode cX10_edge 23 = .ok (.iload_n 1, 1) := by decide +kernel
theorem dX10_edge_24 : decode cX10_edge 24 = .ok (.iload_n 2, 1) := by decide +kernel
theorem dX10_edge_25 : decode cX10_edge 25 = .ok (.invokevirtual 86, 3) := by decide +kernel
theorem dX10_edge_28 : decode cX10_edge 28 = .ok (.ifCond .ne 6, 3) := by decide +kernel
theorem dX10_edge_31 : decode cX10_edge 31 = .ok (.bipush (-3), 2) := by decide +kernel
theorem dX10_edge_33 : decode cX10_edge 33 = .ok (.ireturn, 1) := by decide +kernel
theorem dX10_edge_34 : decode cX10_edge 34 = .ok (.iload_n 3, 1) := by decide +kernel
theorem dX10_edge_35 : decode cX10_edge 35 = .ok (.tableswitch 111 0 3 #[29, 42, 70, 98], 29) := by decide +kernel
theorem dX10_edge_64 : decode cX10_edge 64 = .ok (.aload_n 0, 1) := by decide +kernel
theorem dX10_edge_65 : decode cX10_edge 65 = .ok (.getfield 14, 3) := by decide +kernel
theorem dX10_edge_68 : decode cX10_edge 68 = .ok (.getfield 93, 3) := by decide +kernel
theorem dX10_edge_71 : decode cX10_edge 71 = .ok (.iload_n 1, 1) := by decide +kernel
theorem dX10_edge_72 : decode cX10_edge 72 = .ok (.iload_n 2, 1) := by decide +kernel
theorem dX10_edge_73 : decode cX10_edge 73 = .ok (.invokestatic 97, 3) := by decide +kernel
theorem dX10_edge_76 : decode cX10_edge 76 = .ok (.ireturn, 1) := by decide +kernel
theorem dX10_edge_77 : decode cX10_edge 77 = .ok (.aload_n 0, 1) := by decide +kernel
theorem dX10_edge_78 : decode cX10_edge 78 = .ok (.getfield 28, 3) := by decide +kernel
theorem dX10_edge_81 : decode cX10_edge 81 = .ok (.aload_n 0, 1) := by decide +kernel
theorem dX10_edge_82 : decode cX10_edge 82 = .ok (.getfield 14, 3) := by decide +kernel
theorem dX10_edge_85 : decode cX10_edge 85 = .ok (.getfield 93, 3) := by decide +kernel
theorem dX10_edge_88 : decode cX10_edge 88 = .ok (.invokevirtual 156, 3) := by decide +kernel
theorem dX10_edge_91 : decode cX10_edge 91 = .ok (.aload_n 0, 1) := by decide +kernel
theorem dX10_edge_92 : decode cX10_edge 92 = .ok (.getfield 28, 3) := by decide +kernel
theorem dX10_edge_95 : decode cX10_edge 95 = .ok (.getfield 160, 3) := by decide +kernel
theorem dX10_edge_98 : decode cX10_edge 98 = .ok (.iload_n 1, 1) := by decide +kernel
theorem dX10_edge_99 : decode cX10_edge 99 = .ok (.iload_n 2, 1) := by decide +kernel
theorem dX10_edge_100 : decode cX10_edge 100 = .ok (.invokestatic 112, 3) := by decide +kernel
theorem dX10_edge_103 : decode cX10_edge 103 = .ok (.iaload, 1) := by decide +kernel
theorem dX10_edge_104 : decode cX10_edge 104 = .ok (.ireturn, 1) := by decide +kernel
theorem dX10_edge_105 : decode cX10_edge 105 = .ok (.aload_n 0, 1) := by decide +kernel
theorem dX10_edge_106 : decode cX10_edge 106 = .ok (.getfield 28, 3) := by decide +kernel
theorem dX10_edge_109 : decode cX10_edge 109 = .ok (.aload_n 0, 1) := by decide +kernel
theorem dX10_edge_110 : decode cX10_edge 110 = .ok (.getfield 14, 3) := by decide +kernel
theorem dX10_edge_113 : decode cX10_edge 113 = .ok (.getfield 93, 3) := by decide +kernel
theorem dX10_edge_116 : decode cX10_edge 116 = .ok (.invokevirtual 156, 3) := by decide +kernel
theorem dX10_edge_119 : decode cX10_edge 119 = .ok (.aload_n 0, 1) := by decide +kernel
theorem dX10_edge_120 : decode cX10_edge 120 = .ok (.getfield 28, 3) := by decide +kernel
theorem dX10_edge_123 : decode cX10_edge 123 = .ok (.getfield 163, 3) := by decide +kernel
theorem dX10_edge_126 : decode cX10_edge 126 = .ok (.iload_n 1, 1) := by decide +kernel
theorem dX10_edge_127 : decode cX10_edge 127 = .ok (.iload_n 2, 1) := by decide +kernel
theorem dX10_edge_128 : decode cX10_edge 128 = .ok (.invokestatic 112, 3) := by decide +kernel
theorem dX10_edge_131 : decode cX10_edge 131 = .ok (.iaload, 1) := by decide +kernel
theorem dX10_edge_132 : decode cX10_edge 132 = .ok (.ireturn, 1) := by decide +kernel
theorem dX10_edge_133 : decode cX10_edge 133 = .ok (.aload_n 0, 1) := by decide +kernel
theorem dX10_edge_134 : decode cX10_edge 134 = .ok (.getfield 14, 3) := by decide +kernel
theorem dX10_edge_137 : decode cX10_edge 137 = .ok (.getfield 93, 3) := by decide +kernel
theorem dX10_edge_140 : decode cX10_edge 140 = .ok (.iload_n 1, 1) := by decide +kernel
theorem dX10_edge_141 : decode cX10_edge 141 = .ok (.iload_n 2, 1) := by decide +kernel
theorem dX10_edge_142 : decode cX10_edge 142 = .ok (.invokestatic 150, 3) := by decide +kernel
theorem dX10_edge_145 : decode cX10_edge 145 = .ok (.ireturn, 1) := by decide +kernel
theorem dX10_edge_146 : decode cX10_edge 146 = .ok (.aload_n 0, 1) := by decide +kernel
theorem dX10_edge_147 : decode cX10_edge 147 = .ok (.getfield 14, 3) := by decide +kernel
theorem dX10_edge_150 : decode cX10_edge 150 = .ok (.getfield 93, 3) := by decide +kernel
theorem dX10_edge_153 : decode cX10_edge 153 = .ok (.iload_n 1, 1) := by decide +kernel
theorem dX10_edge_154 : decode cX10_edge 154 = .ok (.iload_n 2, 1) := by decide +kernel
theorem dX10_edge_155 : decode cX10_edge 155 = .ok (.invokestatic 166, 3) := by decide +kernel
theorem dX10_edge_158 : decode cX10_edge 158 = .ok (.ireturn, 1) := by decide +kernel
theorem dX10_swap_0 : decode cX10_swap 0 = .ok (.iload_n 1, 1) := by decide +kernel
theorem dX10_swap_1 : decode cX10_swap 1 = .ok (.iload_n 2, 1) := by decide +kernel
theorem dX10_swap_2 : decode cX10_swap 2 = .ok (.invokestatic 80, 3) := by decide +kernel
theorem dX10_swap_5 : decode cX10_swap 5 = .ok (.ifCond .eq 34, 3) := by decide +kernel
theorem dX10_swap_8 : decode cX10_swap 8 = .ok (.iload_n 3, 1) := by decide +kernel
theorem dX10_swap_9 : decode cX10_swap 9 = .ok (.iload 4, 2) := by decide +kernel
theorem dX10_swap_11 : decode cX10_swap 11 = .ok (.invokestatic 80, 3) := by decide +kernel
theorem dX10_swap_14 : decode cX10_swap 14 = .ok (.ifCond .eq 25, 3) := by decide +kernel
theorem dX10_swap_17 : decode cX10_swap 17 = .ok (.iload_n 1, 1) := by decide +kernel
theorem dX10_swap_18 : decode cX10_swap 18 = .ok (.iload_n 3, 1) := by decide +kernel
theorem dX10_swap_19 : decode cX10_swap 19 = .ok (.if_icmp .eq 20, 3) := by decide +kernel
theorem dX10_swap_22 : decode cX10_swap 22 = .ok (.iload_n 1, 1) := by decide +kernel
theorem dX10_swap_23 : decode cX10_swap 23 = .ok (.iload 4, 2) := by decide +kernel
theorem dX10_swap_25 : decode cX10_swap 25 = .ok (.if_icmp .eq 14, 3) := by decide +kernel
theorem dX10_swap_28 : decode cX10_swap 28 = .ok (.iload_n 2, 1) := by decide +kernel
theorem dX10_swap_29 : decode cX10_swap 29 = .ok (.iload_n 3, 1) := by decide +kernel
theorem dX10_swap_30 : decode cX10_swap 30 = .ok (.if_icmp .eq 9, 3) := by decide +kernel
theorem dX10_swap_33 : decode cX10_swap 33 = .ok (.iload_n 2, 1) := by decide +kernel
theorem dX10_swap_34 : decode cX10_swap 34 = .ok (.iload 4, 2) := by decide +kernel
theorem dX10_swap_36 : decode cX10_swap 36 = .ok (.if_icmp .ne 5, 3) := by decide +kernel
theorem dX10_swap_39 : decode cX10_swap 39 = .ok (.iconst (-1), 1) := by decide +kernel
theorem dX10_swap_40 : decode cX10_swap 40 = .ok (.ireturn, 1) := by decide +kernel
theorem dX10_swap_41 : decode cX10_swap 41 = .ok (.aload_n 0, 1) := by decide +kernel
theorem dX10_swap_42 : decode cX10_swap 42 = .ok (.getfield 14, 3) := by decide +kernel
theorem dX10_swap_45 : decode cX10_swap 45 = .ok (.iload_n 1, 1) := by decide +kernel
theorem dX10_swap_46 : decode cX10_swap 46 = .ok (.iload_n 2, 1) := by decide +kernel
theorem dX10_swap_47 : decode cX10_swap 47 = .ok (.invokevirtual 86, 3) := by decide +kernel
theorem dX10_swap_50 : decode cX10_swap 50 = .ok (.ifCond .eq 41, 3) := by decide +kernel
theorem dX10_swap_53 : decode cX10_swap 53 = .ok (.aload_n 0, 1) := by decide +kernel
theorem dX10_swap_54 : decode cX10_swap 54 = .ok (.getfield 14, 3) := by decide +kernel
theorem dX10_swap_57 : decode cX10_swap 57 = .ok (.iload_n 3, 1) := by decide +kernel
theorem dX10_swap_58 : decode cX10_swap 58 = .ok (.iload 4, 2) := by decide +kernel
theorem dX10_swap_60 : decode cX10_swap 60 = .ok (.invokevirtual 86, 3) := by decide +kernel
theorem dX10_swap_63 : decode cX10_swap 63 = .ok (.ifCond .eq 28, 3) := by decide +kernel
theorem dX10_swap_66 : decode cX10_swap 66 = .ok (.aload_n 0, 1) := by decide +kernel
theorem dX10_swap_67 : decode cX10_swap 67 = .ok (.getfield 14, 3) := by decide +kernel
theorem dX10_swap_70 : decode cX10_swap 70 = .ok (.iload_n 1, 1) := by decide +kernel
theorem dX10_swap_71 : decode cX10_swap 71 = .ok (.iload 4, 2) := by decide +kernel
theorem dX10_swap_73 : decode cX10_swap 73 = .ok (.invokevirtual 86, 3) := by decide +kernel
theorem dX10_swap_76 : decode cX10_swap 76 = .ok (.ifCond .ne 15, 3) := by decide +kernel
theorem dX10_swap_79 : decode cX10_swap 79 = .ok (.aload_n 0, 1) := by decide +kernel
theorem dX10_swap_80 : decode cX10_swap 80 = .ok (.getfield 14, 3) := by decide +kernel
theorem dX10_swap_83 : decode cX10_swap 83 = .ok (.iload_n 3, 1) := by decide +kernel
theorem dX10_swap_84 : decode cX10_swap 84 = .ok (.iload_n 2, 1) := by decide +kernel
theorem dX10_swap_85 : decode cX10_swap 85 = .ok (.invokevirtual 86, 3) := by decide +kernel
theorem dX10_swap_88 : decode cX10_swap 88 = .ok (.ifCond .eq 6, 3) := by decide +kernel
theorem dX10_swap_91 : decode cX10_swap 91 = .ok (.bipush (-3), 2) := by decide +kernel
theorem dX10_swap_93 : decode cX10_swap 93 = .ok (.ireturn, 1) := by decide +kernel
theorem dX10_swap_94 : decode cX10_swap 94 = .ok (.aload_n 0, 1) := by decide +kernel
theorem dX10_swap_95 : decode cX10_swap 95 = .ok (.getfield 14, 3) := by decide +kernel
theorem dX10_swap_98 : decode cX10_swap 98 = .ok (.getfield 109, 3) := by decide +kernel
theorem dX10_swap_101 : decode cX10_swap 101 = .ok (.iload_n 1, 1) := by decide +kernel
theorem dX10_swap_102 : decode cX10_swap 102 = .ok (.iload_n 2, 1) := by decide +kernel
theorem dX10_swap_103 : decode cX10_swap 103 = .ok (.invokestatic 112, 3) := by decide +kernel
theorem dX10_swap_106 : decode cX10_swap 106 = .ok (.iaload, 1) := by decide +kernel
theorem dX10_swap_107 : decode cX10_swap 107 = .ok (.istore 5, 2) := by decide +kernel
theorem dX10_swap_109 : decode cX10_swap 109 = .ok (.aload_n 0, 1) := by decide +kernel
theorem dX10_swap_110 : decode cX10_swap 110 = .ok (.getfield 14, 3) := by decide +kernel
theorem dX10_swap_113 : decode cX10_swap 113 = .ok (.getfield 109, 3) := by decide +kernel
theorem dX10_swap_116 : decode cX10_swap 116 = .ok (.iload_n 3, 1) := by decide +kernel
theorem dX10_swap_117 : decode cX10_swap 117 = .ok (.iload 4, 2) := by decide +kernel
theorem dX10_swap_119 : decode cX10_swap 119 = .ok (.invokestatic 112, 3) := by decide +kernel
theorem dX10_swap_122 : decode cX10_swap 122 = .ok (.iaload, 1) := by decide +kernel
theorem dX10_swap_123 : decode cX10_swap 123 = .ok (.istore 6, 2) := by decide +kernel
theorem dX10_swap_125 : decode cX10_swap 125 = .ok (.aload_n 0, 1) := by decide +kernel
theorem dX10_swap_126 : decode cX10_swap 126 = .ok (.getfield 14, 3) := by decide +kernel
theorem dX10_swap_129 : decode cX10_swap 129 = .ok (.iload_n 1, 1) := by decide +kernel
theorem dX10_swap_130 : decode cX10_swap 130 = .ok (.iload_n 2, 1) := by decide +kernel
theorem dX10_swap_131 : decode cX10_swap 131 = .ok (.invokevirtual 103, 3) := by decide +kernel
theorem dX10_swap_134 : decode cX10_swap 134 = .ok (.aload_n 0, 1) := by decide +kernel
theorem dX10_swap_135 : decode cX10_swap 135 = .ok (.getfield 14, 3) := by decide +kernel
theorem dX10_swap_138 : decode cX10_swap 138 = .ok (.iload_n 3, 1) := by decide +kernel
theorem dX10_swap_139 : decode cX10_swap 139 = .ok (.iload 4, 2) := by decide +kernel
theorem dX10_swap_141 : decode cX10_swap 141 = .ok (.invokevirtual 103, 3) := by decide +kernel
theorem dX10_swap_144 : decode cX10_swap 144 = .ok (.aload_n 0, 1) := by decide +kernel
theorem dX10_swap_145 : decode cX10_swap 145 = .ok (.getfield 14, 3) := by decide +kernel
theorem dX10_swap_148 : decode cX10_swap 148 = .ok (.iload_n 1, 1) := by decide +kernel
theorem dX10_swap_149 : decode cX10_swap 149 = .ok (.iload 4, 2) := by decide +kernel
theorem dX10_swap_151 : decode cX10_swap 151 = .ok (.iload 5, 2) := by decide +kernel
theorem dX10_swap_153 : decode cX10_swap 153 = .ok (.invokevirtual 89, 3) := by decide +kernel
theorem dX10_swap_156 : decode cX10_swap 156 = .ok (.aload_n 0, 1) := by decide +kernel
theorem dX10_swap_157 : decode cX10_swap 157 = .ok (.getfield 14, 3) := by decide +kernel
theorem dX10_swap_160 : decode cX10_swap 160 = .ok (.iload_n 3, 1) := by decide +kernel
theorem dX10_swap_161 : decode cX10_swap 161 = .ok (.iload_n 2, 1) := by decide +kernel
theorem dX10_swap_162 : decode cX10_swap 162 = .ok (.iload 6, 2) := by decide +kernel
theorem dX10_swap_164 : decode cX10_swap 164 = .ok (.invokevirtual 89, 3) := by decide +kernel
theorem dX10_swap_167 : decode cX10_swap 167 = .ok (.aload_n 0, 1) := by decide +kernel
theorem dX10_swap_168 : decode cX10_swap 168 = .ok (.getfield 14, 3) := by decide +kernel
theorem dX10_swap_171 : decode cX10_swap 171 = .ok (.getfield 93, 3) := by decide +kernel
theorem dX10_swap_174 : decode cX10_swap 174 = .ok (.invokestatic 169, 3) := by decide +kernel
theorem dX10_swap_177 : decode cX10_swap 177 = .ok (.ireturn, 1) := by decide +kernel
theorem dX10_near_0 : decode cX10_near 0 = .ok (.iload_n 1, 1) := by decide +kernel
theorem dX10_near_1 : decode cX10_near 1 = .ok (.invokestatic 116, 3) := by decide +kernel
theorem dX10_near_4 : decode cX10_near 4 = .ok (.ifCond .eq 15, 3) := by decide +kernel
theorem dX10_near_7 : decode cX10_near 7 = .ok (.aload_n 0, 1) := by decide +kernel
theorem dX10_near_8 : decode cX10_near 8 = .ok (.getfield 14, 3) := by decide +kernel
theorem dX10_near_11 : decode cX10_near 11 = .ok (.getfield 93, 3) := by decide +kernel
theorem dX10_near_14 : decode cX10_near 14 = .ok (.iload_n 1, 1) := by decide +kernel
theorem dX10_near_15 : decode cX10_near 15 = .ok (.laload, 1) := by decide +kernel
theorem dX10_near_16 : decode cX10_near 16 = .ok (.goto 6, 3) := by decide +kernel
theorem dX10_near_19 : decode cX10_near 19 = .ok (.ldc2_w 107, 3) := by decide +kernel
theorem dX10_near_22 : decode cX10_near 22 = .ok (.lreturn, 1) := by decide +kernel
theorem dX10_told_0 : decode cX10_told 0 = .ok (.iload_n 1, 1) := by decide +kernel
theorem dX10_told_1 : decode cX10_told 1 = .ok (.tableswitch 207 0 13 #[71, 80, 92, 104, 113, 122, 130, 138, 146, 154, 162, 174, 186, 195], 71) := by decide +kernel
theorem dX10_told_72 : decode cX10_told 72 = .ok (.aload_n 0, 1) := by decide +kernel
theorem dX10_told_73 : decode cX10_told 73 = .ok (.getfield 14, 3) := by decide +kernel
theorem dX10_told_76 : decode cX10_told 76 = .ok (.getfield 173, 3) := by decide +kernel
theorem dX10_told_79 : decode cX10_told 79 = .ok (.i2l, 1) := by decide +kernel
theorem dX10_told_80 : decode cX10_told 80 = .ok (.lreturn, 1) := by decide +kernel
theorem dX10_told_81 : decode cX10_told 81 = .ok (.aload_n 0, 1) := by decide +kernel
theorem dX10_told_82 : decode cX10_told 82 = .ok (.getfield 14, 3) := by decide +kernel
theorem dX10_told_85 : decode cX10_told 85 = .ok (.getfield 93, 3) := by decide +kernel
theorem dX10_told_88 : decode cX10_told 88 = .ok (.invokestatic 169, 3) := by decide +kernel
theorem dX10_told_91 : decode cX10_told 91 = .ok (.i2l, 1) := by decide +kernel
theorem dX10_told_92 : decode cX10_told 92 = .ok (.lreturn, 1) := by decide +kernel
theorem dX10_told_93 : decode cX10_told 93 = .ok (.aload_n 0, 1) := by decide +kernel
theorem dX10_told_94 : decode cX10_told 94 = .ok (.getfield 14, 3) := by decide +kernel
theorem dX10_told_97 : decode cX10_told 97 = .ok (.getfield 93, 3) := by decide +kernel
theorem dX10_told_100 : decode cX10_told 100 = .ok (.invokestatic 177, 3) := by decide +kernel
theorem dX10_told_103 : decode cX10_told 103 = .ok (.i2l, 1) := by decide +kernel
theorem dX10_told_104 : decode cX10_told 104 = .ok (.lreturn, 1) := by decide +kernel
theorem dX10_told_105 : decode cX10_told 105 = .ok (.aload_n 0, 1) := by decide +kernel
theorem dX10_told_106 : decode cX10_told 106 = .ok (.getfield 14, 3) := by decide +kernel
theorem dX10_told_109 : decode cX10_told 109 = .ok (.getfield 180, 3) := by decide +kernel
theorem dX10_told_112 : decode cX10_told 112 = .ok (.i2l, 1) := by decide +kernel
theorem dX10_told_113 : decode cX10_told 113 = .ok (.lreturn, 1) := by decide +kernel
theorem dX10_told_114 : decode cX10_told 114 = .ok (.aload_n 0, 1) := by decide +kernel
theorem dX10_told_115 : decode cX10_told 115 = .ok (.getfield 14, 3) := by decide +kernel
theorem dX10_told_118 : decode cX10_told 118 = .ok (.invokevirtual 183, 3) := by decide +kernel
theorem dX10_told_121 : decode cX10_told 121 = .ok (.i2l, 1) := by decide +kernel
theorem dX10_told_122 : decode cX10_told 122 = .ok (.lreturn, 1) := by decide +kernel
theorem dX10_told_123 : decode cX10_told 123 = .ok (.aload_n 0, 1) := by decide +kernel
theorem dX10_told_124 : decode cX10_told 124 = .ok (.getfield 14, 3) := by decide +kernel
theorem dX10_told_127 : decode cX10_told 127 = .ok (.getfield 140, 3) := by decide +kernel
theorem dX10_told_130 : decode cX10_told 130 = .ok (.lreturn, 1) := by decide +kernel
theorem dX10_told_131 : decode cX10_told 131 = .ok (.aload_n 0, 1) := by decide +kernel
theorem dX10_told_132 : decode cX10_told 132 = .ok (.getfield 14, 3) := by decide +kernel
theorem dX10_told_135 : decode cX10_told 135 = .ok (.getfield 187, 3) := by decide +kernel
theorem dX10_told_138 : decode cX10_told 138 = .ok (.lreturn, 1) := by decide +kernel
theorem dX10_told_139 : decode cX10_told 139 = .ok (.aload_n 0, 1) := by decide +kernel
theorem dX10_told_140 : decode cX10_told 140 = .ok (.getfield 14, 3) := by decide +kernel
theorem dX10_told_143 : decode cX10_told 143 = .ok (.getfield 190, 3) := by decide +kernel
theorem dX10_told_146 : decode cX10_told 146 = .ok (.lreturn, 1) := by decide +kernel
theorem dX10_told_147 : decode cX10_told 147 = .ok (.aload_n 0, 1) := by decide +kernel
theorem dX10_told_148 : decode cX10_told 148 = .ok (.getfield 14, 3) := by decide +kernel
theorem dX10_told_151 : decode cX10_told 151 = .ok (.getfield 193, 3) := by decide +kernel
theorem dX10_told_154 : decode cX10_told 154 = .ok (.lreturn, 1) := by decide +kernel
theorem dX10_told_155 : decode cX10_told 155 = .ok (.aload_n 0, 1) := by decide +kernel
theorem dX10_told_156 : decode cX10_told 156 = .ok (.getfield 14, 3) := by decide +kernel
theorem dX10_told_159 : decode cX10_told 159 = .ok (.getfield 196, 3) := by decide +kernel
theorem dX10_told_162 : decode cX10_told 162 = .ok (.lreturn, 1) := by decide +kernel
theorem dX10_told_163 : decode cX10_told 163 = .ok (.aload_n 0, 1) := by decide +kernel
theorem dX10_told_164 : decode cX10_told 164 = .ok (.getfield 14, 3) := by decide +kernel
theorem dX10_told_167 : decode cX10_told 167 = .ok (.getfield 199, 3) := by decide +kernel
theorem dX10_told_170 : decode cX10_told 170 = .ok (.getfield 203, 3) := by decide +kernel
theorem dX10_told_173 : decode cX10_told 173 = .ok (.i2l, 1) := by decide +kernel
theorem dX10_told_174 : decode cX10_told 174 = .ok (.lreturn, 1) := by decide +kernel
theorem dX10_told_175 : decode cX10_told 175 = .ok (.aload_n 0, 1) := by decide +kernel
theorem dX10_told_176 : decode cX10_told 176 = .ok (.getfield 14, 3) := by decide +kernel
theorem dX10_told_179 : decode cX10_told 179 = .ok (.getfield 93, 3) := by decide +kernel
theorem dX10_told_182 : decode cX10_told 182 = .ok (.invokestatic 208, 3) := by decide +kernel
theorem dX10_told_185 : decode cX10_told 185 = .ok (.i2l, 1) := by decide +kernel
theorem dX10_told_186 : decode cX10_told 186 = .ok (.lreturn, 1) := by decide +kernel
theorem dX10_told_187 : decode cX10_told 187 = .ok (.aload_n 0, 1) := by decide +kernel
theorem dX10_told_188 : decode cX10_told 188 = .ok (.getfield 63, 3) := by decide +kernel
theorem dX10_told_191 : decode cX10_told 191 = .ok (.getfield 211, 3) := by decide +kernel
theorem dX10_told_194 : decode cX10_told 194 = .ok (.i2l, 1) := by decide +kernel
theorem dX10_told_195 : decode cX10_told 195 = .ok (.lreturn, 1) := by decide +kernel
theorem dX10_told_196 : decode cX10_told 196 = .ok (.aload_n 0, 1) := by decide +kernel
theorem dX10_told_197 : decode cX10_told 197 = .ok (.getfield 14, 3) := by decide +kernel
theorem dX10_told_200 : decode cX10_told 200 = .ok (.getfield 93, 3) := by decide +kernel
theorem dX10_told_203 : decode cX10_told 203 = .ok (.invokestatic 214, 3) := by decide +kernel
theorem dX10_told_206 : decode cX10_told 206 = .ok (.i2l, 1) := by decide +kernel
theorem dX10_told_207 : decode cX10_told 207 = .ok (.lreturn, 1) := by decide +kernel
theorem dX10_told_208 : decode cX10_told 208 = .ok (.ldc2_w 107, 3) := by decide +kernel
theorem dX10_told_211 : decode cX10_told 211 = .ok (.lreturn, 1) := by decide +kernel
theorem dX10_truss_0 : decode cX10_truss 0 = .ok (.aload_n 0, 1) := by decide +kernel
theorem dX10_truss_1 : decode cX10_truss 1 = .ok (.getfield 28, 3) := by decide +kernel
theorem dX10_truss_4 : decode cX10_truss 4 = .ok (.aload_n 0, 1) := by decide +kernel
theorem dX10_truss_5 : decode cX10_truss 5 = .ok (.getfield 14, 3) := by decide +kernel
theorem dX10_truss_8 : decode cX10_truss 8 = .ok (.getfield 93, 3) := by decide +kernel
theorem dX10_truss_11 : decode cX10_truss 11 = .ok (.invokevirtual 156, 3) := by decide +kernel
theorem dX10_truss_14 : decode cX10_truss 14 = .ok (.aload_n 0, 1) := by decide +kernel
theorem dX10_truss_15 : decode cX10_truss 15 = .ok (.getfield 28, 3) := by decide +kernel
theorem dX10_truss_18 : decode cX10_truss 18 = .ok (.iload_n 1, 1) := by decide +kernel
theorem dX10_truss_19 : decode cX10_truss 19 = .ok (.invokevirtual 217, 3) := by decide +kernel
theorem dX10_truss_22 : decode cX10_truss 22 = .ok (.ireturn, 1) := by decide +kernel
theorem dX10_pieces_0 : decode cX10_pieces 0 = .ok (.aload_n 0, 1) := by decide +kernel
theorem dX10_pieces_1 : decode cX10_pieces 1 = .ok (.getfield 28, 3) := by decide +kernel
theorem dX10_pieces_4 : decode cX10_pieces 4 = .ok (.aload_n 0, 1) := by decide +kernel
theorem dX10_pieces_5 : decode cX10_pieces 5 = .ok (.getfield 14, 3) := by decide +kernel
theorem dX10_pieces_8 : decode cX10_pieces 8 = .ok (.getfield 93, 3) := by decide +kernel
theorem dX10_pieces_11 : decode cX10_pieces 11 = .ok (.invokevirtual 156, 3) := by decide +kernel
theorem dX10_pieces_14 : decode cX10_pieces 14 = .ok (.aload_n 0, 1) := by decide +kernel
theorem dX10_pieces_15 : decode cX10_pieces 15 = .ok (.getfield 28, 3) := by decide +kernel
theorem dX10_pieces_18 : decode cX10_pieces 18 = .ok (.iload_n 1, 1) := by decide +kernel
theorem dX10_pieces_19 : decode cX10_pieces 19 = .ok (.invokevirtual 221, 3) := by decide +kernel
theorem dX10_pieces_22 : decode cX10_pieces 22 = .ok (.ireturn, 1) := by decide +kernel
theorem dX10_hood_0 : decode cX10_hood 0 = .ok (.iload_n 1, 1) := by decide +kernel
theorem dX10_hood_1 : decode cX10_hood 1 = .ok (.iload_n 2, 1) := by decide +kernel
theorem dX10_hood_2 : decode cX10_hood 2 = .ok (.invokestatic 80, 3) := by decide +kernel
theorem dX10_hood_5 : decode cX10_hood 5 = .ok (.ifCond .ne 5, 3) := by decide +kernel
theorem dX10_hood_8 : decode cX10_hood 8 = .ok (.iconst (-1), 1) := by decide +kernel
theorem dX10_hood_9 : decode cX10_hood 9 = .ok (.ireturn, 1) := by decide +kernel
theorem dX10_hood_10 : decode cX10_hood 10 = .ok (.aload_n 0, 1) := by decide +kernel
theorem dX10_hood_11 : decode cX10_hood 11 = .ok (.getfield 14, 3) := by decide +kernel
theorem dX10_hood_14 : decode cX10_hood 14 = .ok (.iload_n 1, 1) := by decide +kernel
theorem dX10_hood_15 : decode cX10_hood 15 = .ok (.iload_n 2, 1) := by decide +kernel
theorem dX10_hood_16 : decode cX10_hood 16 = .ok (.invokevirtual 86, 3) := by decide +kernel
theorem dX10_hood_19 : decode cX10_hood 19 = .ok (.ifCond .ne 6, 3) := by decide +kernel
theorem dX10_hood_22 : decode cX10_hood 22 = .ok (.bipush (-3), 2) := by decide +kernel
theorem dX10_hood_24 : decode cX10_hood 24 = .ok (.ireturn, 1) := by decide +kernel
theorem dX10_hood_25 : decode cX10_hood 25 = .ok (.aload_n 0, 1) := by decide +kernel
theorem dX10_hood_26 : decode cX10_hood 26 = .ok (.getfield 28, 3) := by decide +kernel
theorem dX10_hood_29 : decode cX10_hood 29 = .ok (.aload_n 0, 1) := by decide +kernel
theorem dX10_hood_30 : decode cX10_hood 30 = .ok (.getfield 14, 3) := by decide +kernel
theorem dX10_hood_33 : decode cX10_hood 33 = .ok (.getfield 93, 3) := by decide +kernel
theorem dX10_hood_36 : decode cX10_hood 36 = .ok (.invokevirtual 156, 3) := by decide +kernel
theorem dX10_hood_39 : decode cX10_hood 39 = .ok (.aload_n 0, 1) := by decide +kernel
theorem dX10_hood_40 : decode cX10_hood 40 = .ok (.getfield 28, 3) := by decide +kernel
theorem dX10_hood_43 : decode cX10_hood 43 = .ok (.iload_n 1, 1) := by decide +kernel
theorem dX10_hood_44 : decode cX10_hood 44 = .ok (.iload_n 2, 1) := by decide +kernel
theorem dX10_hood_45 : decode cX10_hood 45 = .ok (.invokestatic 112, 3) := by decide +kernel
theorem dX10_hood_48 : decode cX10_hood 48 = .ok (.iload_n 3, 1) := by decide +kernel
theorem dX10_hood_49 : decode cX10_hood 49 = .ok (.invokevirtual 224, 3) := by decide +kernel
theorem dX10_hood_52 : decode cX10_hood 52 = .ok (.ireturn, 1) := by decide +kernel
theorem dX10_hoods_0 : decode cX10_hoods 0 = .ok (.aload_n 0, 1) := by decide +kernel
theorem dX10_hoods_1 : decode cX10_hoods 1 = .ok (.getfield 28, 3) := by decide +kernel
theorem dX10_hoods_4 : decode cX10_hoods 4 = .ok (.aload_n 0, 1) := by decide +kernel
theorem dX10_hoods_5 : decode cX10_hoods 5 = .ok (.getfield 14, 3) := by decide +kernel
theorem dX10_hoods_8 : decode cX10_hoods 8 = .ok (.getfield 93, 3) := by decide +kernel
theorem dX10_hoods_11 : decode cX10_hoods 11 = .ok (.invokevirtual 156, 3) := by decide +kernel
theorem dX10_hoods_14 : decode cX10_hoods 14 = .ok (.aload_n 0, 1) := by decide +kernel
theorem dX10_hoods_15 : decode cX10_hoods 15 = .ok (.getfield 28, 3) := by decide +kernel
theorem dX10_hoods_18 : decode cX10_hoods 18 = .ok (.iload_n 1, 1) := by decide +kernel
theorem dX10_hoods_19 : decode cX10_hoods 19 = .ok (.invokevirtual 227, 3) := by decide +kernel
theorem dX10_hoods_22 : decode cX10_hoods 22 = .ok (.ireturn, 1) := by decide +kernel
theorem dX10_core_0 : decode cX10_core 0 = .ok (.aload_n 0, 1) := by decide +kernel
theorem dX10_core_1 : decode cX10_core 1 = .ok (.getfield 14, 3) := by decide +kernel
theorem dX10_core_4 : decode cX10_core 4 = .ok (.getfield 93, 3) := by decide +kernel
theorem dX10_core_7 : decode cX10_core 7 = .ok (.ldc2_w 230, 3) := by decide +kernel
theorem dX10_core_10 : decode cX10_core 10 = .ok (.iload_n 1, 1) := by decide +kernel
theorem dX10_core_11 : decode cX10_core 11 = .ok (.invokestatic 232, 3) := by decide +kernel
theorem dX10_core_14 : decode cX10_core 14 = .ok (.lreturn, 1) := by decide +kernel
theorem dX10_peeled_0 : decode cX10_peeled 0 = .ok (.aload_n 0, 1) := by decide +kernel
theorem dX10_peeled_1 : decode cX10_peeled 1 = .ok (.getfield 28, 3) := by decide +kernel
theorem dX10_peeled_4 : decode cX10_peeled 4 = .ok (.aload_n 0, 1) := by decide +kernel
theorem dX10_peeled_5 : decode cX10_peeled 5 = .ok (.getfield 14, 3) := by decide +kernel
theorem dX10_peeled_8 : decode cX10_peeled 8 = .ok (.getfield 93, 3) := by decide +kernel
theorem dX10_peeled_11 : decode cX10_peeled 11 = .ok (.invokevirtual 156, 3) := by decide +kernel
theorem dX10_peeled_14 : decode cX10_peeled 14 = .ok (.iload_n 1, 1) := by decide +kernel
theorem dX10_peeled_15 : decode cX10_peeled 15 = .ok (.ifCond .lt 23, 3) := by decide +kernel
theorem dX10_peeled_18 : decode cX10_peeled 18 = .ok (.iload_n 1, 1) := by decide +kernel
theorem dX10_peeled_19 : decode cX10_peeled 19 = .ok (.aload_n 0, 1) := by decide +kernel
theorem dX10_peeled_20 : decode cX10_peeled 20 = .ok (.getfield 28, 3) := by decide +kernel
theorem dX10_peeled_23 : decode cX10_peeled 23 = .ok (.getfield 236, 3) := by decide +kernel
theorem dX10_peeled_26 : decode cX10_peeled 26 = .ok (.if_icmp .ge 12, 3) := by decide +kernel
theorem dX10_peeled_29 : decode cX10_peeled 29 = .ok (.iload_n 2, 1) := by decide +kernel
theorem dX10_peeled_30 : decode cX10_peeled 30 = .ok (.ifCond .lt 8, 3) := by decide +kernel
theorem dX10_peeled_33 : decode cX10_peeled 33 = .ok (.iload_n 2, 1) := by decide +kernel
theorem dX10_peeled_34 : decode cX10_peeled 34 = .ok (.iconst 2, 1) := by decide +kernel
theorem dX10_peeled_35 : decode cX10_peeled 35 = .ok (.if_icmp .le 5, 3) := by decide +kernel
theorem dX10_peeled_38 : decode cX10_peeled 38 = .ok (.iconst (-1), 1) := by decide +kernel
theorem dX10_peeled_39 : decode cX10_peeled 39 = .ok (.ireturn, 1) := by decide +kernel
theorem dX10_peeled_40 : decode cX10_peeled 40 = .ok (.aload_n 0, 1) := by decide +kernel
theorem dX10_peeled_41 : decode cX10_peeled 41 = .ok (.getfield 28, 3) := by decide +kernel
theorem dX10_peeled_44 : decode cX10_peeled 44 = .ok (.getfield 237, 3) := by decide +kernel
theorem dX10_peeled_47 : decode cX10_peeled 47 = .ok (.iload_n 1, 1) := by decide +kernel
theorem dX10_peeled_48 : decode cX10_peeled 48 = .ok (.iaload, 1) := by decide +kernel
theorem dX10_peeled_49 : decode cX10_peeled 49 = .ok (.istore_n 3, 1) := by decide +kernel
theorem dX10_peeled_50 : decode cX10_peeled 50 = .ok (.iload_n 2, 1) := by decide +kernel
theorem dX10_peeled_51 : decode cX10_peeled 51 = .ok (.lookupswitch 35 #[(0, 25), (1, 30)], 25) := by decide +kernel
theorem dX10_peeled_76 : decode cX10_peeled 76 = .ok (.iload_n 3, 1) := by decide +kernel
theorem dX10_peeled_77 : decode cX10_peeled 77 = .ok (.bipush 40, 2) := by decide +kernel
theorem dX10_peeled_79 : decode cX10_peeled 79 = .ok (.idiv, 1) := by decide +kernel
theorem dX10_peeled_80 : decode cX10_peeled 80 = .ok (.ireturn, 1) := by decide +kernel
theorem dX10_peeled_81 : decode cX10_peeled 81 = .ok (.iload_n 3, 1) := by decide +kernel
theorem dX10_peeled_82 : decode cX10_peeled 82 = .ok (.bipush 40, 2) := by decide +kernel
theorem dX10_peeled_84 : decode cX10_peeled 84 = .ok (.irem, 1) := by decide +kernel
theorem dX10_peeled_85 : decode cX10_peeled 85 = .ok (.ireturn, 1) := by decide +kernel
theorem dX10_peeled_86 : decode cX10_peeled 86 = .ok (.aload_n 0, 1) := by decide +kernel
theorem dX10_peeled_87 : decode cX10_peeled 87 = .ok (.getfield 28, 3) := by decide +kernel
theorem dX10_peeled_90 : decode cX10_peeled 90 = .ok (.getfield 160, 3) := by decide +kernel
theorem dX10_peeled_93 : decode cX10_peeled 93 = .ok (.iload_n 3, 1) := by decide +kernel
theorem dX10_peeled_94 : decode cX10_peeled 94 = .ok (.iaload, 1) := by decide +kernel
theorem dX10_peeled_95 : decode cX10_peeled 95 = .ok (.ireturn, 1) := by decide +kernel
theorem dX10_closed_0 : decode cX10_closed 0 = .ok (.iload_n 1, 1) := by decide +kernel
theorem dX10_closed_1 : decode cX10_closed 1 = .ok (.iconst (-1), 1) := by decide +kernel
theorem dX10_closed_2 : decode cX10_closed 2 = .ok (.if_icmp .lt 18, 3) := by decide +kernel
theorem dX10_closed_5 : decode cX10_closed 5 = .ok (.iload_n 1, 1) := by decide +kernel
theorem dX10_closed_6 : decode cX10_closed 6 = .ok (.bipush 40, 2) := by decide +kernel
theorem dX10_closed_8 : decode cX10_closed 8 = .ok (.if_icmp .ge 12, 3) := by decide +kernel
theorem dX10_closed_11 : decode cX10_closed 11 = .ok (.iload_n 2, 1) := by decide +kernel
theorem dX10_closed_12 : decode cX10_closed 12 = .ok (.ifCond .lt 8, 3) := by decide +kernel
theorem dX10_closed_15 : decode cX10_closed 15 = .ok (.iload_n 2, 1) := by decide +kernel
theorem dX10_closed_16 : decode cX10_closed 16 = .ok (.iconst 1, 1) := by decide +kernel
theorem dX10_closed_17 : decode cX10_closed 17 = .ok (.if_icmp .le 7, 3) := by decide +kernel
theorem dX10_closed_20 : decode cX10_closed 20 = .ok (.ldc2_w 107, 3) := by decide +kernel
theorem dX10_closed_23 : decode cX10_closed 23 = .ok (.lreturn, 1) := by decide +kernel
theorem dX10_closed_24 : decode cX10_closed 24 = .ok (.iload_n 1, 1) := by decide +kernel
theorem dX10_closed_25 : decode cX10_closed 25 = .ok (.ifCond .ge 18, 3) := by decide +kernel
theorem dX10_closed_28 : decode cX10_closed 28 = .ok (.iconst 3, 1) := by decide +kernel
theorem dX10_closed_29 : decode cX10_closed 29 = .ok (.aload_n 0, 1) := by decide +kernel
theorem dX10_closed_30 : decode cX10_closed 30 = .ok (.getfield 14, 3) := by decide +kernel
theorem dX10_closed_33 : decode cX10_closed 33 = .ok (.getfield 93, 3) := by decide +kernel
theorem dX10_closed_36 : decode cX10_closed 36 = .ok (.invokestatic 169, 3) := by decide +kernel
theorem dX10_closed_39 : decode cX10_closed 39 = .ok (.imul, 1) := by decide +kernel
theorem dX10_closed_40 : decode cX10_closed 40 = .ok (.goto 14, 3) := by decide +kernel
theorem dX10_closed_43 : decode cX10_closed 43 = .ok (.aload_n 0, 1) := by decide +kernel
theorem dX10_closed_44 : decode cX10_closed 44 = .ok (.getfield 14, 3) := by decide +kernel
theorem dX10_closed_47 : decode cX10_closed 47 = .ok (.getfield 93, 3) := by decide +kernel
theorem dX10_closed_50 : decode cX10_closed 50 = .ok (.iload_n 1, 1) := by decide +kernel
theorem dX10_closed_51 : decode cX10_closed 51 = .ok (.invokestatic 124, 3) := by decide +kernel
theorem dX10_closed_54 : decode cX10_closed 54 = .ok (.istore_n 3, 1) := by decide +kernel
theorem dX10_closed_55 : decode cX10_closed 55 = .ok (.iload_n 1, 1) := by decide +kernel
theorem dX10_closed_56 : decode cX10_closed 56 = .ok (.ifCond .ge 16, 3) := by decide +kernel
theorem dX10_closed_59 : decode cX10_closed 59 = .ok (.aload_n 0, 1) := by decide +kernel
theorem dX10_closed_60 : decode cX10_closed 60 = .ok (.getfield 14, 3) := by decide +kernel
theorem dX10_closed_63 : decode cX10_closed 63 = .ok (.getfield 93, 3) := by decide +kernel
theorem dX10_closed_66 : decode cX10_closed 66 = .ok (.invokestatic 208, 3) := by decide +kernel
theorem dX10_closed_69 : decode cX10_closed 69 = .ok (.goto 14, 3) := by decide +kernel
theorem dX10_closed_72 : decode cX10_closed 72 = .ok (.aload_n 0, 1) := by decide +kernel
theorem dX10_closed_73 : decode cX10_closed 73 = .ok (.getfield 14, 3) := by decide +kernel
theorem dX10_closed_76 : decode cX10_closed 76 = .ok (.getfield 93, 3) := by decide +kernel
theorem dX10_closed_79 : decode cX10_closed 79 = .ok (.iload_n 1, 1) := by decide +kernel
theorem dX10_closed_80 : decode cX10_closed 80 = .ok (.invokestatic 240, 3) := by decide +kernel
theorem dX10_closed_83 : decode cX10_closed 83 = .ok (.istore 4, 2) := by decide +kernel
theorem dX10_closed_85 : decode cX10_closed 85 = .ok (.iload_n 3, 1) := by decide +kernel
theorem dX10_closed_86 : decode cX10_closed 86 = .ok (.iload 4, 2) := by decide +kernel
theorem dX10_closed_88 : decode cX10_closed 88 = .ok (.invokestatic 243, 3) := by decide +kernel
theorem dX10_closed_91 : decode cX10_closed 91 = .ok (.istore 5, 2) := by decide +kernel
theorem dX10_closed_93 : decode cX10_closed 93 = .ok (.iload 4, 2) := by decide +kernel
theorem dX10_closed_95 : decode cX10_closed 95 = .ok (.iconst 1, 1) := by decide +kernel
theorem dX10_closed_96 : decode cX10_closed 96 = .ok (.if_icmp .lt 9, 3) := by decide +kernel
theorem dX10_closed_99 : decode cX10_closed 99 = .ok (.iload 5, 2) := by decide +kernel
theorem dX10_closed_101 : decode cX10_closed 101 = .ok (.iconst 1, 1) := by decide +kernel
theorem dX10_closed_102 : decode cX10_closed 102 = .ok (.if_icmp .ge 7, 3) := by decide +kernel
theorem dX10_closed_105 : decode cX10_closed 105 = .ok (.ldc2_w 107, 3) := by decide +kernel
theorem dX10_closed_108 : decode cX10_closed 108 = .ok (.lreturn, 1) := by decide +kernel
theorem dX10_closed_109 : decode cX10_closed 109 = .ok (.iload_n 2, 1) := by decide +kernel
theorem dX10_closed_110 : decode cX10_closed 110 = .ok (.ifCond .ne 11, 3) := by decide +kernel
theorem dX10_closed_113 : decode cX10_closed 113 = .ok (.iload_n 3, 1) := by decide +kernel
theorem dX10_closed_114 : decode cX10_closed 114 = .ok (.iload 5, 2) := by decide +kernel
theorem dX10_closed_116 : decode cX10_closed 116 = .ok (.idiv, 1) := by decide +kernel
theorem dX10_closed_117 : decode cX10_closed 117 = .ok (.i2l, 1) := by decide +kernel
theorem dX10_closed_118 : decode cX10_closed 118 = .ok (.goto 9, 3) := by decide +kernel
theorem dX10_closed_121 : decode cX10_closed 121 = .ok (.iload 4, 2) := by decide +kernel
theorem dX10_closed_123 : decode cX10_closed 123 = .ok (.iload 5, 2) := by decide +kernel
theorem dX10_closed_125 : decode cX10_closed 125 = .ok (.idiv, 1) := by decide +kernel
theorem dX10_closed_126 : decode cX10_closed 126 = .ok (.i2l, 1) := by decide +kernel
theorem dX10_closed_127 : decode cX10_closed 127 = .ok (.lreturn, 1) := by decide +kernel
theorem dX10_value_0 : decode cX10_value 0 = .ok (.lconst 0, 1) := by decide +kernel
theorem dX10_value_1 : decode cX10_value 1 = .ok (.lstore_n 1, 1) := by decide +kernel
theorem dX10_value_2 : decode cX10_value 2 = .ok (.iconst 0, 1) := by decide +kernel
theorem dX10_value_3 : decode cX10_value 3 = .ok (.istore_n 3, 1) := by decide +kernel
theorem dX10_value_4 : decode cX10_value 4 = .ok (.iload_n 3, 1) := by decide +kernel
theorem dX10_value_5 : decode cX10_value 5 = .ok (.bipush 40, 2) := by decide +kernel
theorem dX10_value_7 : decode cX10_value 7 = .ok (.if_icmp .ge 179, 3) := by decide +kernel
theorem dX10_value_10 : decode cX10_value 10 = .ok (.iload_n 3, 1) := by decide +kernel
theorem dX10_value_11 : decode cX10_value 11 = .ok (.iconst 1, 1) := by decide +kernel
theorem dX10_value_12 : decode cX10_value 12 = .ok (.iadd, 1) := by decide +kernel
theorem dX10_value_13 : decode cX10_value 13 = .ok (.istore 4, 2) := by decide +kernel
theorem dX10_value_15 : decode cX10_value 15 = .ok (.iload 4, 2) := by decide +kernel
theorem dX10_value_17 : decode cX10_value 17 = .ok (.bipush 40, 2) := by decide +kernel
theorem dX10_value_19 : decode cX10_value 19 = .ok (.if_icmp .ge 161, 3) := by decide +kernel
theorem dX10_value_22 : decode cX10_value 22 = .ok (.aload_n 0, 1) := by decide +kernel
theorem dX10_value_23 : decode cX10_value 23 = .ok (.getfield 14, 3) := by decide +kernel
theorem dX10_value_26 : decode cX10_value 26 = .ok (.iload_n 3, 1) := by decide +kernel
theorem dX10_value_27 : decode cX10_value 27 = .ok (.iload 4, 2) := by decide +kernel
theorem dX10_value_29 : decode cX10_value 29 = .ok (.invokevirtual 86, 3) := by decide +kernel
theorem dX10_value_32 : decode cX10_value 32 = .ok (.ifCond .eq 32, 3) := by decide +kernel
theorem dX10_value_35 : decode cX10_value 35 = .ok (.aload_n 0, 1) := by decide +kernel
theorem dX10_value_36 : decode cX10_value 36 = .ok (.getfield 14, 3) := by decide +kernel
theorem dX10_value_39 : decode cX10_value 39 = .ok (.getfield 93, 3) := by decide +kernel
theorem dX10_value_42 : decode cX10_value 42 = .ok (.iload_n 3, 1) := by decide +kernel
theorem dX10_value_43 : decode cX10_value 43 = .ok (.laload, 1) := by decide +kernel
theorem dX10_value_44 : decode cX10_value 44 = .ok (.aload_n 0, 1) := by decide +kernel
theorem dX10_value_45 : decode cX10_value 45 = .ok (.getfield 14, 3) := by decide +kernel
theorem dX10_value_48 : decode cX10_value 48 = .ok (.getfield 93, 3) := by decide +kernel
theorem dX10_value_51 : decode cX10_value 51 = .ok (.iload 4, 2) := by decide +kernel
theorem dX10_value_53 : decode cX10_value 53 = .ok (.laload, 1) := by decide +kernel
theorem dX10_value_54 : decode cX10_value 54 = .ok (.land, 1) := by decide +kernel
theorem dX10_value_55 : decode cX10_value 55 = .ok (.iload 4, 2) := by decide +kernel
theorem dX10_value_57 : decode cX10_value 57 = .ok (.invokestatic 246, 3) := by decide +kernel
theorem dX10_value_60 : decode cX10_value 60 = .ok (.land, 1) := by decide +kernel
theorem dX10_value_61 : decode cX10_value 61 = .ok (.goto 4, 3) := by decide +kernel
theorem dX10_value_64 : decode cX10_value 64 = .ok (.lconst 0, 1) := by decide +kernel
theorem dX10_value_65 : decode cX10_value 65 = .ok (.lstore 5, 2) := by decide +kernel
theorem dX10_value_67 : decode cX10_value 67 = .ok (.iload 4, 2) := by decide +kernel
theorem dX10_value_69 : decode cX10_value 69 = .ok (.iconst 1, 1) := by decide +kernel
theorem dX10_value_70 : decode cX10_value 70 = .ok (.iadd, 1) := by decide +kernel
theorem dX10_value_71 : decode cX10_value 71 = .ok (.istore 7, 2) := by decide +kernel
theorem dX10_value_73 : decode cX10_value 73 = .ok (.iload 7, 2) := by decide +kernel
theorem dX10_value_75 : decode cX10_value 75 = .ok (.bipush 40, 2) := by decide +kernel
theorem dX10_value_77 : decode cX10_value 77 = .ok (.if_icmp .ge 97, 3) := by decide +kernel
theorem dX10_value_80 : decode cX10_value 80 = .ok (.lload 5, 2) := by decide +kernel
theorem dX10_value_82 : decode cX10_value 82 = .ok (.lconst 0, 1) := by decide +kernel
theorem dX10_value_83 : decode cX10_value 83 = .ok (.lcmp, 1) := by decide +kernel
theorem dX10_value_84 : decode cX10_value 84 = .ok (.ifCond .eq 90, 3) := by decide +kernel
theorem dX10_value_87 : decode cX10_value 87 = .ok (.lload 5, 2) := by decide +kernel
theorem dX10_value_89 : decode cX10_value 89 = .ok (.iload 7, 2) := by decide +kernel
theorem dX10_value_91 : decode cX10_value 91 = .ok (.invokestatic 250, 3) := by decide +kernel
theorem dX10_value_94 : decode cX10_value 94 = .ok (.ifCond .ne 6, 3) := by decide +kernel
theorem dX10_value_97 : decode cX10_value 97 = .ok (.goto 71, 3) := by decide +kernel
theorem dX10_value_100 : decode cX10_value 100 = .ok (.aload_n 0, 1) := by decide +kernel
theorem dX10_value_101 : decode cX10_value 101 = .ok (.getfield 14, 3) := by decide +kernel
theorem dX10_value_104 : decode cX10_value 104 = .ok (.getfield 109, 3) := by decide +kernel
theorem dX10_value_107 : decode cX10_value 107 = .ok (.iload_n 3, 1) := by decide +kernel
theorem dX10_value_108 : decode cX10_value 108 = .ok (.iload 4, 2) := by decide +kernel
theorem dX10_value_110 : decode cX10_value 110 = .ok (.invokestatic 112, 3) := by decide +kernel
theorem dX10_value_113 : decode cX10_value 113 = .ok (.iaload, 1) := by decide +kernel
theorem dX10_value_114 : decode cX10_value 114 = .ok (.i2l, 1) := by decide +kernel
theorem dX10_value_115 : decode cX10_value 115 = .ok (.aload_n 0, 1) := by decide +kernel
theorem dX10_value_116 : decode cX10_value 116 = .ok (.getfield 14, 3) := by decide +kernel
theorem dX10_value_119 : decode cX10_value 119 = .ok (.getfield 109, 3) := by decide +kernel
theorem dX10_value_122 : decode cX10_value 122 = .ok (.iload_n 3, 1) := by decide +kernel
theorem dX10_value_123 : decode cX10_value 123 = .ok (.iload 7, 2) := by decide +kernel
theorem dX10_value_125 : decode cX10_value 125 = .ok (.invokestatic 112, 3) := by decide +kernel
theorem dX10_value_128 : decode cX10_value 128 = .ok (.iaload, 1) := by decide +kernel
theorem dX10_value_129 : decode cX10_value 129 = .ok (.i2l, 1) := by decide +kernel
theorem dX10_value_130 : decode cX10_value 130 = .ok (.lmul, 1) := by decide +kernel
theorem dX10_value_131 : decode cX10_value 131 = .ok (.aload_n 0, 1) := by decide +kernel
theorem dX10_value_132 : decode cX10_value 132 = .ok (.getfield 14, 3) := by decide +kernel
theorem dX10_value_135 : decode cX10_value 135 = .ok (.getfield 109, 3) := by decide +kernel
theorem dX10_value_138 : decode cX10_value 138 = .ok (.iload 4, 2) := by decide +kernel
theorem dX10_value_140 : decode cX10_value 140 = .ok (.iload 7, 2) := by decide +kernel
theorem dX10_value_142 : decode cX10_value 142 = .ok (.invokestatic 112, 3) := by decide +kernel
theorem dX10_value_145 : decode cX10_value 145 = .ok (.iaload, 1) := by decide +kernel
theorem dX10_value_146 : decode cX10_value 146 = .ok (.i2l, 1) := by decide +kernel
theorem dX10_value_147 : decode cX10_value 147 = .ok (.lmul, 1) := by decide +kernel
theorem dX10_value_148 : decode cX10_value 148 = .ok (.lstore 8, 2) := by decide +kernel
theorem dX10_value_150 : decode cX10_value 150 = .ok (.lload_n 1, 1) := by decide +kernel
theorem dX10_value_151 : decode cX10_value 151 = .ok (.lload 8, 2) := by decide +kernel
theorem dX10_value_153 : decode cX10_value 153 = .ok (.invokestatic 254, 3) := by decide +kernel
theorem dX10_value_156 : decode cX10_value 156 = .ok (.ifCond .eq 7, 3) := by decide +kernel
theorem dX10_value_159 : decode cX10_value 159 = .ok (.ldc2_w 258, 3) := by decide +kernel
theorem dX10_value_162 : decode cX10_value 162 = .ok (.lreturn, 1) := by decide +kernel
theorem dX10_value_163 : decode cX10_value 163 = .ok (.lload_n 1, 1) := by decide +kernel
theorem dX10_value_164 : decode cX10_value 164 = .ok (.lload 8, 2) := by decide +kernel
theorem dX10_value_166 : decode cX10_value 166 = .ok (.ladd, 1) := by decide +kernel
theorem dX10_value_167 : decode cX10_value 167 = .ok (.lstore_n 1, 1) := by decide +kernel
theorem dX10_value_168 : decode cX10_value 168 = .ok (.iinc 7 1, 3) := by decide +kernel
theorem dX10_value_171 : decode cX10_value 171 = .ok (.goto (-98), 3) := by decide +kernel
theorem dX10_value_174 : decode cX10_value 174 = .ok (.iinc 4 1, 3) := by decide +kernel
theorem dX10_value_177 : decode cX10_value 177 = .ok (.goto (-162), 3) := by decide +kernel
theorem dX10_value_180 : decode cX10_value 180 = .ok (.iinc 3 1, 3) := by decide +kernel
theorem dX10_value_183 : decode cX10_value 183 = .ok (.goto (-179), 3) := by decide +kernel
theorem dX10_value_186 : decode cX10_value 186 = .ok (.lload_n 1, 1) := by decide +kernel
theorem dX10_value_187 : decode cX10_value 187 = .ok (.lreturn, 1) := by decide +kernel
theorem dX10_broken_0 : decode cX10_broken 0 = .ok (.iload_n 1, 1) := by decide +kernel
theorem dX10_broken_1 : decode cX10_broken 1 = .ok (.ifCond .lt 8, 3) := by decide +kernel
theorem dX10_broken_4 : decode cX10_broken 4 = .ok (.iload_n 1, 1) := by decide +kernel
theorem dX10_broken_5 : decode cX10_broken 5 = .ok (.iconst 2, 1) := by decide +kernel
theorem dX10_broken_6 : decode cX10_broken 6 = .ok (.if_icmp .le 5, 3) := by decide +kernel
theorem dX10_broken_9 : decode cX10_broken 9 = .ok (.iconst (-1), 1) := by decide +kernel
theorem dX10_broken_10 : decode cX10_broken 10 = .ok (.ireturn, 1) := by decide +kernel
theorem dX10_broken_11 : decode cX10_broken 11 = .ok (.aload_n 0, 1) := by decide +kernel
theorem dX10_broken_12 : decode cX10_broken 12 = .ok (.getfield 35, 3) := by decide +kernel
theorem dX10_broken_15 : decode cX10_broken 15 = .ok (.aload_n 0, 1) := by decide +kernel
theorem dX10_broken_16 : decode cX10_broken 16 = .ok (.getfield 14, 3) := by decide +kernel
theorem dX10_broken_19 : decode cX10_broken 19 = .ok (.getfield 93, 3) := by decide +kernel
theorem dX10_broken_22 : decode cX10_broken 22 = .ok (.invokevirtual 260, 3) := by decide +kernel
theorem dX10_broken_25 : decode cX10_broken 25 = .ok (.iload_n 1, 1) := by decide +kernel
theorem dX10_broken_26 : decode cX10_broken 26 = .ok (.ifCond .ne 11, 3) := by decide +kernel
theorem dX10_broken_29 : decode cX10_broken 29 = .ok (.aload_n 0, 1) := by decide +kernel
theorem dX10_broken_30 : decode cX10_broken 30 = .ok (.getfield 35, 3) := by decide +kernel
theorem dX10_broken_33 : decode cX10_broken 33 = .ok (.getfield 263, 3) := by decide +kernel
theorem dX10_broken_36 : decode cX10_broken 36 = .ok (.ireturn, 1) := by decide +kernel
theorem dX10_broken_37 : decode cX10_broken 37 = .ok (.aload_n 0, 1) := by decide +kernel
theorem dX10_broken_38 : decode cX10_broken 38 = .ok (.getfield 35, 3) := by decide +kernel
theorem dX10_broken_41 : decode cX10_broken 41 = .ok (.getfield 263, 3) := by decide +kernel
theorem dX10_broken_44 : decode cX10_broken 44 = .ok (.ifCond .ne 6, 3) := by decide +kernel
theorem dX10_broken_47 : decode cX10_broken 47 = .ok (.bipush (-5), 2) := by decide +kernel
theorem dX10_broken_49 : decode cX10_broken 49 = .ok (.ireturn, 1) := by decide +kernel
theorem dX10_broken_50 : decode cX10_broken 50 = .ok (.iload_n 1, 1) := by decide +kernel
theorem dX10_broken_51 : decode cX10_broken 51 = .ok (.iconst 1, 1) := by decide +kernel
theorem dX10_broken_52 : decode cX10_broken 52 = .ok (.if_icmp .ne 16, 3) := by decide +kernel
theorem dX10_broken_55 : decode cX10_broken 55 = .ok (.aload_n 0, 1) := by decide +kernel
theorem dX10_broken_56 : decode cX10_broken 56 = .ok (.getfield 35, 3) := by decide +kernel
theorem dX10_broken_59 : decode cX10_broken 59 = .ok (.getfield 266, 3) := by decide +kernel
theorem dX10_broken_62 : decode cX10_broken 62 = .ok (.bipush 40, 2) := by decide +kernel
theorem dX10_broken_64 : decode cX10_broken 64 = .ok (.idiv, 1) := by decide +kernel
theorem dX10_broken_65 : decode cX10_broken 65 = .ok (.goto 13, 3) := by decide +kernel
theorem dX10_broken_68 : decode cX10_broken 68 = .ok (.aload_n 0, 1) := by decide +kernel
theorem dX10_broken_69 : decode cX10_broken 69 = .ok (.getfield 35, 3) := by decide +kernel
theorem dX10_broken_72 : decode cX10_broken 72 = .ok (.getfield 266, 3) := by decide +kernel
theorem dX10_broken_75 : decode cX10_broken 75 = .ok (.bipush 40, 2) := by decide +kernel
theorem dX10_broken_77 : decode cX10_broken 77 = .ok (.irem, 1) := by decide +kernel
theorem dX10_broken_78 : decode cX10_broken 78 = .ok (.ireturn, 1) := by decide +kernel
theorem dX10_fewest_0 : decode cX10_fewest 0 = .ok (.aload_n 0, 1) := by decide +kernel
theorem dX10_fewest_1 : decode cX10_fewest 1 = .ok (.getfield 35, 3) := by decide +kernel
theorem dX10_fewest_4 : decode cX10_fewest 4 = .ok (.aload_n 0, 1) := by decide +kernel
theorem dX10_fewest_5 : decode cX10_fewest 5 = .ok (.getfield 14, 3) := by decide +kernel
theorem dX10_fewest_8 : decode cX10_fewest 8 = .ok (.getfield 93, 3) := by decide +kernel
theorem dX10_fewest_11 : decode cX10_fewest 11 = .ok (.invokevirtual 269, 3) := by decide +kernel
theorem dX10_fewest_14 : decode cX10_fewest 14 = .ok (.ireturn, 1) := by decide +kernel
theorem dX10_feed_0 : decode cX10_feed 0 = .ok (.iload_n 1, 1) := by decide +kernel
theorem dX10_feed_1 : decode cX10_feed 1 = .ok (.iconst 1, 1) := by decide +kernel
theorem dX10_feed_2 : decode cX10_feed 2 = .ok (.if_icmp .lt 9, 3) := by decide +kernel
theorem dX10_feed_5 : decode cX10_feed 5 = .ok (.iload_n 1, 1) := by decide +kernel
theorem dX10_feed_6 : decode cX10_feed 6 = .ok (.bipush 127, 2) := by decide +kernel
theorem dX10_feed_8 : decode cX10_feed 8 = .ok (.if_icmp .le 6, 3) := by decide +kernel
theorem dX10_feed_11 : decode cX10_feed 11 = .ok (.bipush (-2), 2) := by decide +kernel
theorem dX10_feed_13 : decode cX10_feed 13 = .ok (.ireturn, 1) := by decide +kernel
theorem dX10_feed_14 : decode cX10_feed 14 = .ok (.aload_n 0, 1) := by decide +kernel
theorem dX10_feed_15 : decode cX10_feed 15 = .ok (.getfield 42, 3) := by decide +kernel
theorem dX10_feed_18 : decode cX10_feed 18 = .ok (.getfield 272, 3) := by decide +kernel
theorem dX10_feed_21 : decode cX10_feed 21 = .ok (.sipush 160, 3) := by decide +kernel
theorem dX10_feed_24 : decode cX10_feed 24 = .ok (.if_icmp .lt 6, 3) := by decide +kernel
theorem dX10_feed_27 : decode cX10_feed 27 = .ok (.bipush (-4), 2) := by decide +kernel
theorem dX10_feed_29 : decode cX10_feed 29 = .ok (.ireturn, 1) := by decide +kernel
theorem dX10_feed_30 : decode cX10_feed 30 = .ok (.aload_n 0, 1) := by decide +kernel
theorem dX10_feed_31 : decode cX10_feed 31 = .ok (.getfield 42, 3) := by decide +kernel
theorem dX10_feed_34 : decode cX10_feed 34 = .ok (.iload_n 1, 1) := by decide +kernel
theorem dX10_feed_35 : decode cX10_feed 35 = .ok (.invokevirtual 273, 3) := by decide +kernel
theorem dX10_feed_38 : decode cX10_feed 38 = .ok (.aload_n 0, 1) := by decide +kernel
theorem dX10_feed_39 : decode cX10_feed 39 = .ok (.getfield 42, 3) := by decide +kernel
theorem dX10_feed_42 : decode cX10_feed 42 = .ok (.getfield 272, 3) := by decide +kernel
theorem dX10_feed_45 : decode cX10_feed 45 = .ok (.ireturn, 1) := by decide +kernel
theorem dX10_clear_0 : decode cX10_clear 0 = .ok (.aload_n 0, 1) := by decide +kernel
theorem dX10_clear_1 : decode cX10_clear 1 = .ok (.getfield 42, 3) := by decide +kernel
theorem dX10_clear_4 : decode cX10_clear 4 = .ok (.getfield 272, 3) := by decide +kernel
theorem dX10_clear_7 : decode cX10_clear 7 = .ok (.istore_n 1, 1) := by decide +kernel
theorem dX10_clear_8 : decode cX10_clear 8 = .ok (.aload_n 0, 1) := by decide +kernel
theorem dX10_clear_9 : decode cX10_clear 9 = .ok (.getfield 42, 3) := by decide +kernel
theorem dX10_clear_12 : decode cX10_clear 12 = .ok (.iconst 0, 1) := by decide +kernel
theorem dX10_clear_13 : decode cX10_clear 13 = .ok (.putfield 272, 3) := by decide +kernel
theorem dX10_clear_16 : decode cX10_clear 16 = .ok (.iload_n 1, 1) := by decide +kernel
theorem dX10_clear_17 : decode cX10_clear 17 = .ok (.ireturn, 1) := by decide +kernel
theorem dX10_batch_0 : decode cX10_batch 0 = .ok (.aload_n 0, 1) := by decide +kernel
theorem dX10_batch_1 : decode cX10_batch 1 = .ok (.getfield 49, 3) := by decide +kernel
theorem dX10_batch_4 : decode cX10_batch 4 = .ok (.aload_n 0, 1) := by decide +kernel
theorem dX10_batch_5 : decode cX10_batch 5 = .ok (.getfield 42, 3) := by decide +kernel
theorem dX10_batch_8 : decode cX10_batch 8 = .ok (.invokevirtual 277, 3) := by decide +kernel
theorem dX10_batch_11 : decode cX10_batch 11 = .ok (.aload_n 0, 1) := by decide +kernel
theorem dX10_batch_12 : decode cX10_batch 12 = .ok (.getfield 42, 3) := by decide +kernel
theorem dX10_batch_15 : decode cX10_batch 15 = .ok (.iconst 0, 1) := by decide +kernel
theorem dX10_batch_16 : decode cX10_batch 16 = .ok (.putfield 272, 3) := by decide +kernel
theorem dX10_batch_19 : decode cX10_batch 19 = .ok (.aload_n 0, 1) := by decide +kernel
theorem dX10_batch_20 : decode cX10_batch 20 = .ok (.getfield 42, 3) := by decide +kernel
theorem dX10_batch_23 : decode cX10_batch 23 = .ok (.invokevirtual 281, 3) := by decide +kernel
theorem dX10_batch_26 : decode cX10_batch 26 = .ok (.ifCond .eq 14, 3) := by decide +kernel
theorem dX10_batch_29 : decode cX10_batch 29 = .ok (.bipush (-100), 2) := by decide +kernel
theorem dX10_batch_31 : decode cX10_batch 31 = .ok (.aload_n 0, 1) := by decide +kernel
theorem dX10_batch_32 : decode cX10_batch 32 = .ok (.getfield 42, 3) := by decide +kernel
theorem dX10_batch_35 : decode cX10_batch 35 = .ok (.getfield 285, 3) := by decide +kernel
theorem dX10_batch_38 : decode cX10_batch 38 = .ok (.isub, 1) := by decide +kernel
theorem dX10_batch_39 : decode cX10_batch 39 = .ok (.ireturn, 1) := by decide +kernel
theorem dX10_batch_40 : decode cX10_batch 40 = .ok (.aload_n 0, 1) := by decide +kernel
theorem dX10_batch_41 : decode cX10_batch 41 = .ok (.getfield 14, 3) := by decide +kernel
theorem dX10_batch_44 : decode cX10_batch 44 = .ok (.getfield 196, 3) := by decide +kernel
theorem dX10_batch_47 : decode cX10_batch 47 = .ok (.lstore_n 1, 1) := by decide +kernel
theorem dX10_batch_48 : decode cX10_batch 48 = .ok (.iconst 0, 1) := by decide +kernel
theorem dX10_batch_49 : decode cX10_batch 49 = .ok (.istore_n 3, 1) := by decide +kernel
theorem dX10_batch_50 : decode cX10_batch 50 = .ok (.iload_n 3, 1) := by decide +kernel
theorem dX10_batch_51 : decode cX10_batch 51 = .ok (.aload_n 0, 1) := by decide +kernel
theorem dX10_batch_52 : decode cX10_batch 52 = .ok (.getfield 49, 3) := by decide +kernel
theorem dX10_batch_55 : decode cX10_batch 55 = .ok (.getfield 288, 3) := by decide +kernel
theorem dX10_batch_58 : decode cX10_batch 58 = .ok (.if_icmp .ge 14, 3) := by decide +kernel
theorem dX10_batch_61 : decode cX10_batch 61 = .ok (.aload_n 0, 1) := by decide +kernel
theorem dX10_batch_62 : decode cX10_batch 62 = .ok (.iload_n 3, 1) := by decide +kernel
theorem dX10_batch_63 : decode cX10_batch 63 = .ok (.invokevirtual 291, 3) := by decide +kernel
theorem dX10_batch_66 : decode cX10_batch 66 = .ok (.iinc 3 1, 3) := by decide +kernel
theorem dX10_batch_69 : decode cX10_batch 69 = .ok (.goto (-19), 3) := by decide +kernel
theorem dX10_batch_72 : decode cX10_batch 72 = .ok (.aload_n 0, 1) := by decide +kernel
theorem dX10_batch_73 : decode cX10_batch 73 = .ok (.getfield 14, 3) := by decide +kernel
theorem dX10_batch_76 : decode cX10_batch 76 = .ok (.getfield 196, 3) := by decide +kernel
theorem dX10_batch_79 : decode cX10_batch 79 = .ok (.lload_n 1, 1) := by decide +kernel
theorem dX10_batch_80 : decode cX10_batch 80 = .ok (.lsub, 1) := by decide +kernel
theorem dX10_batch_81 : decode cX10_batch 81 = .ok (.l2i, 1) := by decide +kernel
theorem dX10_batch_82 : decode cX10_batch 82 = .ok (.ireturn, 1) := by decide +kernel
theorem dX10_pick_0 : decode cX10_pick 0 = .ok (.aload_n 0, 1) := by decide +kernel
theorem dX10_pick_1 : decode cX10_pick 1 = .ok (.getfield 56, 3) := by decide +kernel
theorem dX10_pick_4 : decode cX10_pick 4 = .ok (.aload_n 0, 1) := by decide +kernel
theorem dX10_pick_5 : decode cX10_pick 5 = .ok (.getfield 42, 3) := by decide +kernel
theorem dX10_pick_8 : decode cX10_pick 8 = .ok (.aload_n 0, 1) := by decide +kernel
theorem dX10_pick_9 : decode cX10_pick 9 = .ok (.getfield 14, 3) := by decide +kernel
theorem dX10_pick_12 : decode cX10_pick 12 = .ok (.invokevirtual 294, 3) := by decide +kernel
theorem dX10_pick_15 : decode cX10_pick 15 = .ok (.lstore_n 1, 1) := by decide +kernel
theorem dX10_pick_16 : decode cX10_pick 16 = .ok (.aload_n 0, 1) := by decide +kernel
theorem dX10_pick_17 : decode cX10_pick 17 = .ok (.getfield 42, 3) := by decide +kernel
theorem dX10_pick_20 : decode cX10_pick 20 = .ok (.iconst 0, 1) := by decide +kernel
theorem dX10_pick_21 : decode cX10_pick 21 = .ok (.putfield 272, 3) := by decide +kernel
theorem dX10_pick_24 : decode cX10_pick 24 = .ok (.aload_n 0, 1) := by decide +kernel
theorem dX10_pick_25 : decode cX10_pick 25 = .ok (.getfield 42, 3) := by decide +kernel
theorem dX10_pick_28 : decode cX10_pick 28 = .ok (.invokevirtual 281, 3) := by decide +kernel
theorem dX10_pick_31 : decode cX10_pick 31 = .ok (.ifCond .eq 14, 3) := by decide +kernel
theorem dX10_pick_34 : decode cX10_pick 34 = .ok (.bipush (-100), 2) := by decide +kernel
theorem dX10_pick_36 : decode cX10_pick 36 = .ok (.aload_n 0, 1) := by decide +kernel
theorem dX10_pick_37 : decode cX10_pick 37 = .ok (.getfield 42, 3) := by decide +kernel
theorem dX10_pick_40 : decode cX10_pick 40 = .ok (.getfield 285, 3) := by decide +kernel
theorem dX10_pick_43 : decode cX10_pick 43 = .ok (.isub, 1) := by decide +kernel
theorem dX10_pick_44 : decode cX10_pick 44 = .ok (.ireturn, 1) := by decide +kernel
theorem dX10_pick_45 : decode cX10_pick 45 = .ok (.aload_n 0, 1) := by decide +kernel
theorem dX10_pick_46 : decode cX10_pick 46 = .ok (.getfield 14, 3) := by decide +kernel
theorem dX10_pick_49 : decode cX10_pick 49 = .ok (.lload_n 1, 1) := by decide +kernel
theorem dX10_pick_50 : decode cX10_pick 50 = .ok (.putfield 297, 3) := by decide +kernel
theorem dX10_pick_53 : decode cX10_pick 53 = .ok (.lload_n 1, 1) := by decide +kernel
theorem dX10_pick_54 : decode cX10_pick 54 = .ok (.invokestatic 146, 3) := by decide +kernel
theorem dX10_pick_57 : decode cX10_pick 57 = .ok (.ireturn, 1) := by decide +kernel
theorem dX10_picked_0 : decode cX10_picked 0 = .ok (.aload_n 0, 1) := by decide +kernel
theorem dX10_picked_1 : decode cX10_picked 1 = .ok (.getfield 14, 3) := by decide +kernel
theorem dX10_picked_4 : decode cX10_picked 4 = .ok (.getfield 297, 3) := by decide +kernel
theorem dX10_picked_7 : decode cX10_picked 7 = .ok (.lreturn, 1) := by decide +kernel
theorem dX10_spell_0 : decode cX10_spell 0 = .ok (.aload_n 0, 1) := by decide +kernel
theorem dX10_spell_1 : decode cX10_spell 1 = .ok (.getfield 63, 3) := by decide +kernel
theorem dX10_spell_4 : decode cX10_spell 4 = .ok (.iconst 0, 1) := by decide +kernel
theorem dX10_spell_5 : decode cX10_spell 5 = .ok (.putfield 211, 3) := by decide +kernel
theorem dX10_spell_8 : decode cX10_spell 8 = .ok (.iconst 0, 1) := by decide +kernel
theorem dX10_spell_9 : decode cX10_spell 9 = .ok (.istore_n 1, 1) := by decide +kernel
theorem dX10_spell_10 : decode cX10_spell 10 = .ok (.iload_n 1, 1) := by decide +kernel
theorem dX10_spell_11 : decode cX10_spell 11 = .ok (.bipush 40, 2) := by decide +kernel
theorem dX10_spell_13 : decode cX10_spell 13 = .ok (.if_icmp .ge 59, 3) := by decide +kernel
theorem dX10_spell_16 : decode cX10_spell 16 = .ok (.iload_n 1, 1) := by decide +kernel
theorem dX10_spell_17 : decode cX10_spell 17 = .ok (.iconst 1, 1) := by decide +kernel
theorem dX10_spell_18 : decode cX10_spell 18 = .ok (.iadd, 1) := by decide +kernel
theorem dX10_spell_19 : decode cX10_spell 19 = .ok (.istore_n 2, 1) := by decide +kernel
theorem dX10_spell_20 : decode cX10_spell 20 = .ok (.iload_n 2, 1) := by decide +kernel
theorem dX10_spell_21 : decode cX10_spell 21 = .ok (.bipush 40, 2) := by decide +kernel
theorem dX10_spell_23 : decode cX10_spell 23 = .ok (.if_icmp .ge 43, 3) := by decide +kernel
theorem dX10_spell_26 : decode cX10_spell 26 = .ok (.aload_n 0, 1) := by decide +kernel
theorem dX10_spell_27 : decode cX10_spell 27 = .ok (.getfield 14, 3) := by decide +kernel
theorem dX10_spell_30 : decode cX10_spell 30 = .ok (.iload_n 1, 1) := by decide +kernel
theorem dX10_spell_31 : decode cX10_spell 31 = .ok (.iload_n 2, 1) := by decide +kernel
theorem dX10_spell_32 : decode cX10_spell 32 = .ok (.invokevirtual 86, 3) := by decide +kernel
theorem dX10_spell_35 : decode cX10_spell 35 = .ok (.ifCond .eq 25, 3) := by decide +kernel
theorem dX10_spell_38 : decode cX10_spell 38 = .ok (.aload_n 0, 1) := by decide +kernel
theorem dX10_spell_39 : decode cX10_spell 39 = .ok (.getfield 63, 3) := by decide +kernel
theorem dX10_spell_42 : decode cX10_spell 42 = .ok (.iload_n 1, 1) := by decide +kernel
theorem dX10_spell_43 : decode cX10_spell 43 = .ok (.iload_n 2, 1) := by decide +kernel
theorem dX10_spell_44 : decode cX10_spell 44 = .ok (.aload_n 0, 1) := by decide +kernel
theorem dX10_spell_45 : decode cX10_spell 45 = .ok (.getfield 14, 3) := by decide +kernel
theorem dX10_spell_48 : decode cX10_spell 48 = .ok (.getfield 109, 3) := by decide +kernel
theorem dX10_spell_51 : decode cX10_spell 51 = .ok (.iload_n 1, 1) := by decide +kernel
theorem dX10_spell_52 : decode cX10_spell 52 = .ok (.iload_n 2, 1) := by decide +kernel
theorem dX10_spell_53 : decode cX10_spell 53 = .ok (.invokestatic 112, 3) := by decide +kernel
theorem dX10_spell_56 : decode cX10_spell 56 = .ok (.iaload, 1) := by decide +kernel
theorem dX10_spell_57 : decode cX10_spell 57 = .ok (.invokevirtual 300, 3) := by decide +kernel
theorem dX10_spell_60 : decode cX10_spell 60 = .ok (.iinc 2 1, 3) := by decide +kernel
theorem dX10_spell_63 : decode cX10_spell 63 = .ok (.goto (-43), 3) := by decide +kernel
theorem dX10_spell_66 : decode cX10_spell 66 = .ok (.iinc 1 1, 3) := by decide +kernel
theorem dX10_spell_69 : decode cX10_spell 69 = .ok (.goto (-59), 3) := by decide +kernel
theorem dX10_spell_72 : decode cX10_spell 72 = .ok (.aload_n 0, 1) := by decide +kernel
theorem dX10_spell_73 : decode cX10_spell 73 = .ok (.getfield 63, 3) := by decide +kernel
theorem dX10_spell_76 : decode cX10_spell 76 = .ok (.getfield 211, 3) := by decide +kernel
theorem dX10_spell_79 : decode cX10_spell 79 = .ok (.ireturn, 1) := by decide +kernel
theorem dX10_paper_0 : decode cX10_paper 0 = .ok (.iload_n 1, 1) := by decide +kernel
theorem dX10_paper_1 : decode cX10_paper 1 = .ok (.ifCond .lt 14, 3) := by decide +kernel
theorem dX10_paper_4 : decode cX10_paper 4 = .ok (.iload_n 1, 1) := by decide +kernel
theorem dX10_paper_5 : decode cX10_paper 5 = .ok (.aload_n 0, 1) := by decide +kernel
theorem dX10_paper_6 : decode cX10_paper 6 = .ok (.getfield 63, 3) := by decide +kernel
theorem dX10_paper_9 : decode cX10_paper 9 = .ok (.getfield 211, 3) := by decide +kernel
theorem dX10_paper_12 : decode cX10_paper 12 = .ok (.if_icmp .lt 7, 3) := by decide +kernel
theorem dX10_paper_15 : decode cX10_paper 15 = .ok (.iconst (-1), 1) := by decide +kernel
theorem dX10_paper_16 : decode cX10_paper 16 = .ok (.goto 12, 3) := by decide +kernel
theorem dX10_paper_19 : decode cX10_paper 19 = .ok (.aload_n 0, 1) := by decide +kernel
theorem dX10_paper_20 : decode cX10_paper 20 = .ok (.getfield 63, 3) := by decide +kernel
theorem dX10_paper_23 : decode cX10_paper 23 = .ok (.getfield 303, 3) := by decide +kernel
theorem dX10_paper_26 : decode cX10_paper 26 = .ok (.iload_n 1, 1) := by decide +kernel
theorem dX10_paper_27 : decode cX10_paper 27 = .ok (.baload, 1) := by decide +kernel
theorem dX10_paper_28 : decode cX10_paper 28 = .ok (.ireturn, 1) := by decide +kernel
theorem dX10_back_0 : decode cX10_back 0 = .ok (.iload_n 1, 1) := by decide +kernel
theorem dX10_back_1 : decode cX10_back 1 = .ok (.ifCond .lt 9, 3) := by decide +kernel
theorem dX10_back_4 : decode cX10_back 4 = .ok (.iload_n 1, 1) := by decide +kernel
theorem dX10_back_5 : decode cX10_back 5 = .ok (.bipush 60, 2) := by decide +kernel
theorem dX10_back_7 : decode cX10_back 7 = .ok (.if_icmp .le 6, 3) := by decide +kernel
theorem dX10_back_10 : decode cX10_back 10 = .ok (.bipush (-2), 2) := by decide +kernel
theorem dX10_back_12 : decode cX10_back 12 = .ok (.ireturn, 1) := by decide +kernel
theorem dX10_back_13 : decode cX10_back 13 = .ok (.aload_n 0, 1) := by decide +kernel
theorem dX10_back_14 : decode cX10_back 14 = .ok (.getfield 14, 3) := by decide +kernel
theorem dX10_back_17 : decode cX10_back 17 = .ok (.iload_n 1, 1) := by decide +kernel
theorem dX10_back_18 : decode cX10_back 18 = .ok (.invokevirtual 307, 3) := by decide +kernel
theorem dX10_back_21 : decode cX10_back 21 = .ok (.ireturn, 1) := by decide +kernel
theorem dX10_list_0 : decode cX10_list 0 = .ok (.aload_n 0, 1) := by decide +kernel
theorem dX10_list_1 : decode cX10_list 1 = .ok (.iload_n 1, 1) := by decide +kernel
theorem dX10_list_2 : decode cX10_list 2 = .ok (.invokevirtual 310, 3) := by decide +kernel
theorem dX10_list_5 : decode cX10_list 5 = .ok (.astore_n 3, 1) := by decide +kernel
theorem dX10_list_6 : decode cX10_list 6 = .ok (.aload_n 3, 1) := by decide +kernel
theorem dX10_list_7 : decode cX10_list 7 = .ok (.ifnonnull 5, 3) := by decide +kernel
theorem dX10_list_10 : decode cX10_list 10 = .ok (.iconst (-1), 1) := by decide +kernel
theorem dX10_list_11 : decode cX10_list 11 = .ok (.ireturn, 1) := by decide +kernel
theorem dX10_list_12 : decode cX10_list 12 = .ok (.iload_n 2, 1) := by decide +kernel
theorem dX10_list_13 : decode cX10_list 13 = .ok (.bipush 60, 2) := by decide +kernel
theorem dX10_list_15 : decode cX10_list 15 = .ok (.if_icmp .le 6, 3) := by decide +kernel
theorem dX10_list_18 : decode cX10_list 18 = .ok (.bipush (-2), 2) := by decide +kernel
theorem dX10_list_20 : decode cX10_list 20 = .ok (.ireturn, 1) := by decide +kernel
theorem dX10_list_21 : decode cX10_list 21 = .ok (.iload_n 2, 1) := by decide +kernel
theorem dX10_list_22 : decode cX10_list 22 = .ok (.ifCond .ge 6, 3) := by decide +kernel
theorem dX10_list_25 : decode cX10_list 25 = .ok (.bipush (-14), 2) := by decide +kernel
theorem dX10_list_27 : decode cX10_list 27 = .ok (.ireturn, 1) := by decide +kernel
theorem dX10_list_28 : decode cX10_list 28 = .ok (.aload_n 3, 1) := by decide +kernel
theorem dX10_list_29 : decode cX10_list 29 = .ok (.iload_n 2, 1) := by decide +kernel
theorem dX10_list_30 : decode cX10_list 30 = .ok (.invokevirtual 314, 3) := by decide +kernel
theorem dX10_list_33 : decode cX10_list 33 = .ok (.iconst 1, 1) := by decide +kernel
theorem dX10_list_34 : decode cX10_list 34 = .ok (.ireturn, 1) := by decide +kernel
theorem dX10_set_0 : decode cX10_set 0 = .ok (.aload_n 0, 1) := by decide +kernel
theorem dX10_set_1 : decode cX10_set 1 = .ok (.iload_n 1, 1) := by decide +kernel
theorem dX10_set_2 : decode cX10_set 2 = .ok (.invokevirtual 310, 3) := by decide +kernel
theorem dX10_set_5 : decode cX10_set 5 = .ok (.astore 5, 2) := by decide +kernel
theorem dX10_set_7 : decode cX10_set 7 = .ok (.aload 5, 2) := by decide +kernel
theorem dX10_set_9 : decode cX10_set 9 = .ok (.ifnonnull 5, 3) := by decide +kernel
theorem dX10_set_12 : decode cX10_set 12 = .ok (.iconst (-1), 1) := by decide +kernel
theorem dX10_set_13 : decode cX10_set 13 = .ok (.ireturn, 1) := by decide +kernel
theorem dX10_set_14 : decode cX10_set 14 = .ok (.aload 5, 2) := by decide +kernel
theorem dX10_set_16 : decode cX10_set 16 = .ok (.getfield 317, 3) := by decide +kernel
theorem dX10_set_19 : decode cX10_set 19 = .ok (.ifCond .ne 6, 3) := by decide +kernel
theorem dX10_set_22 : decode cX10_set 22 = .ok (.bipush (-11), 2) := by decide +kernel
theorem dX10_set_24 : decode cX10_set 24 = .ok (.ireturn, 1) := by decide +kernel
theorem dX10_set_25 : decode cX10_set 25 = .ok (.aload 5, 2) := by decide +kernel
theorem dX10_set_27 : decode cX10_set 27 = .ok (.iload_n 2, 1) := by decide +kernel
theorem dX10_set_28 : decode cX10_set 28 = .ok (.invokevirtual 320, 3) := by decide +kernel
theorem dX10_set_31 : decode cX10_set 31 = .ok (.ifCond .ne 6, 3) := by decide +kernel
theorem dX10_set_34 : decode cX10_set 34 = .ok (.bipush (-13), 2) := by decide +kernel
theorem dX10_set_36 : decode cX10_set 36 = .ok (.ireturn, 1) := by decide +kernel
theorem dX10_set_37 : decode cX10_set 37 = .ok (.aload 5, 2) := by decide +kernel
theorem dX10_set_39 : decode cX10_set 39 = .ok (.iload_n 2, 1) := by decide +kernel
theorem dX10_set_40 : decode cX10_set 40 = .ok (.lload_n 3, 1) := by decide +kernel
theorem dX10_set_41 : decode cX10_set 41 = .ok (.invokevirtual 323, 3) := by decide +kernel
theorem dX10_set_44 : decode cX10_set 44 = .ok (.iconst 1, 1) := by decide +kernel
theorem dX10_set_45 : decode cX10_set 45 = .ok (.ireturn, 1) := by decide +kernel
theorem dX10_get_0 : decode cX10_get 0 = .ok (.aload_n 0, 1) := by decide +kernel
theorem dX10_get_1 : decode cX10_get 1 = .ok (.iload_n 1, 1) := by decide +kernel
theorem dX10_get_2 : decode cX10_get 2 = .ok (.invokevirtual 310, 3) := by decide +kernel
theorem dX10_get_5 : decode cX10_get 5 = .ok (.astore_n 3, 1) := by decide +kernel
theorem dX10_get_6 : decode cX10_get 6 = .ok (.aload_n 3, 1) := by decide +kernel
theorem dX10_get_7 : decode cX10_get 7 = .ok (.ifnull 11, 3) := by decide +kernel
theorem dX10_get_10 : decode cX10_get 10 = .ok (.aload_n 3, 1) := by decide +kernel
theorem dX10_get_11 : decode cX10_get 11 = .ok (.iload_n 2, 1) := by decide +kernel
theorem dX10_get_12 : decode cX10_get 12 = .ok (.invokevirtual 320, 3) := by decide +kernel
theorem dX10_get_15 : decode cX10_get 15 = .ok (.ifCond .ne 7, 3) := by decide +kernel
theorem dX10_get_18 : decode cX10_get 18 = .ok (.ldc2_w 107, 3) := by decide +kernel
theorem dX10_get_21 : decode cX10_get 21 = .ok (.lreturn, 1) := by decide +kernel
theorem dX10_get_22 : decode cX10_get 22 = .ok (.aload_n 3, 1) := by decide +kernel
theorem dX10_get_23 : decode cX10_get 23 = .ok (.getfield 327, 3) := by decide +kernel
theorem dX10_get_26 : decode cX10_get 26 = .ok (.iload_n 2, 1) := by decide +kernel
theorem dX10_get_27 : decode cX10_get 27 = .ok (.laload, 1) := by decide +kernel
theorem dX10_get_28 : decode cX10_get 28 = .ok (.lreturn, 1) := by decide +kernel
theorem dX10_move_0 : decode cX10_move 0 = .ok (.aload_n 0, 1) := by decide +kernel
theorem dX10_move_1 : decode cX10_move 1 = .ok (.iload_n 1, 1) := by decide +kernel
theorem dX10_move_2 : decode cX10_move 2 = .ok (.invokevirtual 310, 3) := by decide +kernel
theorem dX10_move_5 : decode cX10_move 5 = .ok (.astore 6, 2) := by decide +kernel
theorem dX10_move_7 : decode cX10_move 7 = .ok (.aload_n 0, 1) := by decide +kernel
theorem dX10_move_8 : decode cX10_move 8 = .ok (.iload_n 3, 1) := by decide +kernel
theorem dX10_move_9 : decode cX10_move 9 = .ok (.invokevirtual 310, 3) := by decide +kernel
theorem dX10_move_12 : decode cX10_move 12 = .ok (.astore 7, 2) := by decide +kernel
theorem dX10_move_14 : decode cX10_move 14 = .ok (.aload 6, 2) := by decide +kernel
theorem dX10_move_16 : decode cX10_move 16 = .ok (.ifnull 8, 3) := by decide +kernel
theorem dX10_move_19 : decode cX10_move 19 = .ok (.aload 7, 2) := by decide +kernel
theorem dX10_move_21 : decode cX10_move 21 = .ok (.ifnonnull 5, 3) := by decide +kernel
theorem dX10_move_24 : decode cX10_move 24 = .ok (.iconst (-1), 1) := by decide +kernel
theorem dX10_move_25 : decode cX10_move 25 = .ok (.ireturn, 1) := by decide +kernel
theorem dX10_move_26 : decode cX10_move 26 = .ok (.aload 6, 2) := by decide +kernel
theorem dX10_move_28 : decode cX10_move 28 = .ok (.getfield 317, 3) := by decide +kernel
theorem dX10_move_31 : decode cX10_move 31 = .ok (.ifCond .eq 11, 3) := by decide +kernel
theorem dX10_move_34 : decode cX10_move 34 = .ok (.aload 7, 2) := by decide +kernel
theorem dX10_move_36 : decode cX10_move 36 = .ok (.getfield 317, 3) := by decide +kernel
theorem dX10_move_39 : decode cX10_move 39 = .ok (.ifCond .ne 6, 3) := by decide +kernel
theorem dX10_move_42 : decode cX10_move 42 = .ok (.bipush (-11), 2) := by decide +kernel
theorem dX10_move_44 : decode cX10_move 44 = .ok (.ireturn, 1) := by decide +kernel
theorem dX10_move_45 : decode cX10_move 45 = .ok (.aload 6, 2) := by decide +kernel
theorem dX10_move_47 : decode cX10_move 47 = .ok (.getfield 330, 3) := by decide +kernel
theorem dX10_move_50 : decode cX10_move 50 = .ok (.aload 7, 2) := by decide +kernel
theorem dX10_move_52 : decode cX10_move 52 = .ok (.getfield 330, 3) := by decide +kernel
theorem dX10_move_55 : decode cX10_move 55 = .ok (.if_icmp .eq 6, 3) := by decide +kernel
theorem dX10_move_58 : decode cX10_move 58 = .ok (.bipush (-12), 2) := by decide +kernel
theorem dX10_move_60 : decode cX10_move 60 = .ok (.ireturn, 1) := by decide +kernel
theorem dX10_move_61 : decode cX10_move 61 = .ok (.iload 5, 2) := by decide +kernel
theorem dX10_move_63 : decode cX10_move 63 = .ok (.ifCond .lt 37, 3) := by decide +kernel
theorem dX10_move_66 : decode cX10_move 66 = .ok (.iload_n 2, 1) := by decide +kernel
theorem dX10_move_67 : decode cX10_move 67 = .ok (.ifCond .lt 33, 3) := by decide +kernel
theorem dX10_move_70 : decode cX10_move 70 = .ok (.iload 4, 2) := by decide +kernel
theorem dX10_move_72 : decode cX10_move 72 = .ok (.ifCond .lt 28, 3) := by decide +kernel
theorem dX10_move_75 : decode cX10_move 75 = .ok (.iload 5, 2) := by decide +kernel
theorem dX10_move_77 : decode cX10_move 77 = .ok (.aload 6, 2) := by decide +kernel
theorem dX10_move_79 : decode cX10_move 79 = .ok (.getfield 333, 3) := by decide +kernel
theorem dX10_move_82 : decode cX10_move 82 = .ok (.iload_n 2, 1) := by decide +kernel
theorem dX10_move_83 : decode cX10_move 83 = .ok (.isub, 1) := by decide +kernel
theorem dX10_move_84 : decode cX10_move 84 = .ok (.if_icmp .gt 16, 3) := by decide +kernel
theorem dX10_move_87 : decode cX10_move 87 = .ok (.iload 5, 2) := by decide +kernel
theorem dX10_move_89 : decode cX10_move 89 = .ok (.aload 7, 2) := by decide +kernel
theorem dX10_move_91 : decode cX10_move 91 = .ok (.getfield 333, 3) := by decide +kernel
theorem dX10_move_94 : decode cX10_move 94 = .ok (.iload 4, 2) := by decide +kernel
theorem dX10_move_96 : decode cX10_move 96 = .ok (.isub, 1) := by decide +kernel
theorem dX10_move_97 : decode cX10_move 97 = .ok (.if_icmp .le 6, 3) := by decide +kernel
theorem dX10_move_100 : decode cX10_move 100 = .ok (.bipush (-13), 2) := by decide +kernel
theorem dX10_move_102 : decode cX10_move 102 = .ok (.ireturn, 1) := by decide +kernel
theorem dX10_move_103 : decode cX10_move 103 = .ok (.aload 6, 2) := by decide +kernel
theorem dX10_move_105 : decode cX10_move 105 = .ok (.getfield 327, 3) := by decide +kernel
theorem dX10_move_108 : decode cX10_move 108 = .ok (.iload_n 2, 1) := by decide +kernel
theorem dX10_move_109 : decode cX10_move 109 = .ok (.aload 7, 2) := by decide +kernel
theorem dX10_move_111 : decode cX10_move 111 = .ok (.getfield 327, 3) := by decide +kernel
theorem dX10_move_114 : decode cX10_move 114 = .ok (.iload 4, 2) := by decide +kernel
theorem dX10_move_116 : decode cX10_move 116 = .ok (.iload 5, 2) := by decide +kernel
theorem dX10_move_118 : decode cX10_move 118 = .ok (.invokestatic 334, 3) := by decide +kernel
theorem dX10_move_121 : decode cX10_move 121 = .ok (.iload 5, 2) := by decide +kernel
theorem dX10_move_123 : decode cX10_move 123 = .ok (.ireturn, 1) := by decide +kernel
theorem dX10_lay_0 : decode cX10_lay 0 = .ok (.aload_n 0, 1) := by decide +kernel
theorem dX10_lay_1 : decode cX10_lay 1 = .ok (.iload_n 1, 1) := by decide +kernel
theorem dX10_lay_2 : decode cX10_lay 2 = .ok (.invokevirtual 310, 3) := by decide +kernel
theorem dX10_lay_5 : decode cX10_lay 5 = .ok (.astore 4, 2) := by decide +kernel
theorem dX10_lay_7 : decode cX10_lay 7 = .ok (.aload 4, 2) := by decide +kernel
theorem dX10_lay_9 : decode cX10_lay 9 = .ok (.ifnull 10, 3) := by decide +kernel
theorem dX10_lay_12 : decode cX10_lay 12 = .ok (.iload_n 3, 1) := by decide +kernel
theorem dX10_lay_13 : decode cX10_lay 13 = .ok (.invokestatic 340, 3) := by decide +kernel
theorem dX10_lay_16 : decode cX10_lay 16 = .ok (.ifCond .ne 5, 3) := by decide +kernel
theorem dX10_lay_19 : decode cX10_lay 19 = .ok (.iconst (-1), 1) := by decide +kernel
theorem dX10_lay_20 : decode cX10_lay 20 = .ok (.ireturn, 1) := by decide +kernel
theorem dX10_lay_21 : decode cX10_lay 21 = .ok (.aload 4, 2) := by decide +kernel
theorem dX10_lay_23 : decode cX10_lay 23 = .ok (.getfield 317, 3) := by decide +kernel
theorem dX10_lay_26 : decode cX10_lay 26 = .ok (.ifCond .ne 6, 3) := by decide +kernel
theorem dX10_lay_29 : decode cX10_lay 29 = .ok (.bipush (-11), 2) := by decide +kernel
theorem dX10_lay_31 : decode cX10_lay 31 = .ok (.ireturn, 1) := by decide +kernel
theorem dX10_lay_32 : decode cX10_lay 32 = .ok (.aload_n 0, 1) := by decide +kernel
theorem dX10_lay_33 : decode cX10_lay 33 = .ok (.getfield 14, 3) := by decide +kernel
theorem dX10_lay_36 : decode cX10_lay 36 = .ok (.getfield 93, 3) := by decide +kernel
theorem dX10_lay_39 : decode cX10_lay 39 = .ok (.iload_n 3, 1) := by decide +kernel
theorem dX10_lay_40 : decode cX10_lay 40 = .ok (.aload_n 0, 1) := by decide +kernel
theorem dX10_lay_41 : decode cX10_lay 41 = .ok (.getfield 73, 3) := by decide +kernel
theorem dX10_lay_44 : decode cX10_lay 44 = .ok (.invokestatic 343, 3) := by decide +kernel
theorem dX10_lay_47 : decode cX10_lay 47 = .ok (.bipush 40, 2) := by decide +kernel
theorem dX10_lay_49 : decode cX10_lay 49 = .ok (.aload 4, 2) := by decide +kernel
theorem dX10_lay_51 : decode cX10_lay 51 = .ok (.iload_n 2, 1) := by decide +kernel
theorem dX10_lay_52 : decode cX10_lay 52 = .ok (.invokevirtual 320, 3) := by decide +kernel
theorem dX10_lay_55 : decode cX10_lay 55 = .ok (.invokestatic 347, 3) := by decide +kernel
theorem dX10_lay_58 : decode cX10_lay 58 = .ok (.istore 5, 2) := by decide +kernel
theorem dX10_lay_60 : decode cX10_lay 60 = .ok (.iconst 0, 1) := by decide +kernel
theorem dX10_lay_61 : decode cX10_lay 61 = .ok (.istore 6, 2) := by decide +kernel
theorem dX10_lay_63 : decode cX10_lay 63 = .ok (.iload 6, 2) := by decide +kernel
theorem dX10_lay_65 : decode cX10_lay 65 = .ok (.iload 5, 2) := by decide +kernel
theorem dX10_lay_67 : decode cX10_lay 67 = .ok (.if_icmp .ge 26, 3) := by decide +kernel
theorem dX10_lay_70 : decode cX10_lay 70 = .ok (.aload 4, 2) := by decide +kernel
theorem dX10_lay_72 : decode cX10_lay 72 = .ok (.iload_n 2, 1) := by decide +kernel
theorem dX10_lay_73 : decode cX10_lay 73 = .ok (.iload 6, 2) := by decide +kernel
theorem dX10_lay_75 : decode cX10_lay 75 = .ok (.iadd, 1) := by decide +kernel
theorem dX10_lay_76 : decode cX10_lay 76 = .ok (.aload_n 0, 1) := by decide +kernel
theorem dX10_lay_77 : decode cX10_lay 77 = .ok (.getfield 73, 3) := by decide +kernel
theorem dX10_lay_80 : decode cX10_lay 80 = .ok (.iload 6, 2) := by decide +kernel
theorem dX10_lay_82 : decode cX10_lay 82 = .ok (.iaload, 1) := by decide +kernel
theorem dX10_lay_83 : decode cX10_lay 83 = .ok (.i2l, 1) := by decide +kernel
theorem dX10_lay_84 : decode cX10_lay 84 = .ok (.invokevirtual 323, 3) := by decide +kernel
theorem dX10_lay_87 : decode cX10_lay 87 = .ok (.iinc 6 1, 3) := by decide +kernel
theorem dX10_lay_90 : decode cX10_lay 90 = .ok (.goto (-27), 3) := by decide +kernel
theorem dX10_lay_93 : decode cX10_lay 93 = .ok (.iload 5, 2) := by decide +kernel
theorem dX10_lay_95 : decode cX10_lay 95 = .ok (.bipush 40, 2) := by decide +kernel
theorem dX10_lay_97 : decode cX10_lay 97 = .ok (.if_icmp .ge 8, 3) := by decide +kernel
theorem dX10_lay_100 : decode cX10_lay 100 = .ok (.bipush (-13), 2) := by decide +kernel
theorem dX10_lay_102 : decode cX10_lay 102 = .ok (.goto 5, 3) := by decide +kernel
theorem dX10_lay_105 : decode cX10_lay 105 = .ok (.bipush 40, 2) := by decide +kernel
theorem dX10_lay_107 : decode cX10_lay 107 = .ok (.ireturn, 1) := by decide +kernel
theorem dX10_judge_0 : decode cX10_judge 0 = .ok (.aload_n 0, 1) := by decide +kernel
theorem dX10_judge_1 : decode cX10_judge 1 = .ok (.iload_n 1, 1) := by decide +kernel
theorem dX10_judge_2 : decode cX10_judge 2 = .ok (.invokevirtual 310, 3) := by decide +kernel
theorem dX10_judge_5 : decode cX10_judge 5 = .ok (.astore 4, 2) := by decide +kernel
theorem dX10_judge_7 : decode cX10_judge 7 = .ok (.aload 4, 2) := by decide +kernel
theorem dX10_judge_9 : decode cX10_judge 9 = .ok (.ifnull 10, 3) := by decide +kernel
theorem dX10_judge_12 : decode cX10_judge 12 = .ok (.iload_n 3, 1) := by decide +kernel
theorem dX10_judge_13 : decode cX10_judge 13 = .ok (.invokestatic 340, 3) := by decide +kernel
theorem dX10_judge_16 : decode cX10_judge 16 = .ok (.ifCond .ne 5, 3) := by decide +kernel
theorem dX10_judge_19 : decode cX10_judge 19 = .ok (.iconst (-1), 1) := by decide +kernel
theorem dX10_judge_20 : decode cX10_judge 20 = .ok (.ireturn, 1) := by decide +kernel
theorem dX10_judge_21 : decode cX10_judge 21 = .ok (.aload 4, 2) := by decide +kernel
theorem dX10_judge_23 : decode cX10_judge 23 = .ok (.getfield 317, 3) := by decide +kernel
theorem dX10_judge_26 : decode cX10_judge 26 = .ok (.ifCond .ne 6, 3) := by decide +kernel
theorem dX10_judge_29 : decode cX10_judge 29 = .ok (.bipush (-11), 2) := by decide +kernel
theorem dX10_judge_31 : decode cX10_judge 31 = .ok (.ireturn, 1) := by decide +kernel
theorem dX10_judge_32 : decode cX10_judge 32 = .ok (.aload_n 0, 1) := by decide +kernel
theorem dX10_judge_33 : decode cX10_judge 33 = .ok (.getfield 14, 3) := by decide +kernel
theorem dX10_judge_36 : decode cX10_judge 36 = .ok (.getfield 93, 3) := by decide +kernel
theorem dX10_judge_39 : decode cX10_judge 39 = .ok (.iload_n 3, 1) := by decide +kernel
theorem dX10_judge_40 : decode cX10_judge 40 = .ok (.aload_n 0, 1) := by decide +kernel
theorem dX10_judge_41 : decode cX10_judge 41 = .ok (.getfield 73, 3) := by decide +kernel
theorem dX10_judge_44 : decode cX10_judge 44 = .ok (.invokestatic 343, 3) := by decide +kernel
theorem dX10_judge_47 : decode cX10_judge 47 = .ok (.bipush 40, 2) := by decide +kernel
theorem dX10_judge_49 : decode cX10_judge 49 = .ok (.aload 4, 2) := by decide +kernel
theorem dX10_judge_51 : decode cX10_judge 51 = .ok (.iload_n 2, 1) := by decide +kernel
theorem dX10_judge_52 : decode cX10_judge 52 = .ok (.invokevirtual 320, 3) := by decide +kernel
theorem dX10_judge_55 : decode cX10_judge 55 = .ok (.invokestatic 347, 3) := by decide +kernel
theorem dX10_judge_58 : decode cX10_judge 58 = .ok (.istore 5, 2) := by decide +kernel
theorem dX10_judge_60 : decode cX10_judge 60 = .ok (.iconst 0, 1) := by decide +kernel
theorem dX10_judge_61 : decode cX10_judge 61 = .ok (.istore 6, 2) := by decide +kernel
theorem dX10_judge_63 : decode cX10_judge 63 = .ok (.iload 6, 2) := by decide +kernel
theorem dX10_judge_65 : decode cX10_judge 65 = .ok (.iload 5, 2) := by decide +kernel
theorem dX10_judge_67 : decode cX10_judge 67 = .ok (.if_icmp .ge 34, 3) := by decide +kernel
theorem dX10_judge_70 : decode cX10_judge 70 = .ok (.aload 4, 2) := by decide +kernel
theorem dX10_judge_72 : decode cX10_judge 72 = .ok (.getfield 327, 3) := by decide +kernel
theorem dX10_judge_75 : decode cX10_judge 75 = .ok (.iload_n 2, 1) := by decide +kernel
theorem dX10_judge_76 : decode cX10_judge 76 = .ok (.iload 6, 2) := by decide +kernel
theorem dX10_judge_78 : decode cX10_judge 78 = .ok (.iadd, 1) := by decide +kernel
theorem dX10_judge_79 : decode cX10_judge 79 = .ok (.laload, 1) := by decide +kernel
theorem dX10_judge_80 : decode cX10_judge 80 = .ok (.aload_n 0, 1) := by decide +kernel
theorem dX10_judge_81 : decode cX10_judge 81 = .ok (.getfield 73, 3) := by decide +kernel
theorem dX10_judge_84 : decode cX10_judge 84 = .ok (.iload 6, 2) := by decide +kernel
theorem dX10_judge_86 : decode cX10_judge 86 = .ok (.iaload, 1) := by decide +kernel
theorem dX10_judge_87 : decode cX10_judge 87 = .ok (.i2l, 1) := by decide +kernel
theorem dX10_judge_88 : decode cX10_judge 88 = .ok (.lcmp, 1) := by decide +kernel
theorem dX10_judge_89 : decode cX10_judge 89 = .ok (.ifCond .eq 6, 3) := by decide +kernel
theorem dX10_judge_92 : decode cX10_judge 92 = .ok (.iload 6, 2) := by decide +kernel
theorem dX10_judge_94 : decode cX10_judge 94 = .ok (.ireturn, 1) := by decide +kernel
theorem dX10_judge_95 : decode cX10_judge 95 = .ok (.iinc 6 1, 3) := by decide +kernel
theorem dX10_judge_98 : decode cX10_judge 98 = .ok (.goto (-35), 3) := by decide +kernel
theorem dX10_judge_101 : decode cX10_judge 101 = .ok (.iload 5, 2) := by decide +kernel
theorem dX10_judge_103 : decode cX10_judge 103 = .ok (.bipush 40, 2) := by decide +kernel
theorem dX10_judge_105 : decode cX10_judge 105 = .ok (.if_icmp .ge 11, 3) := by decide +kernel
theorem dX10_judge_108 : decode cX10_judge 108 = .ok (.bipush 100, 2) := by decide +kernel
theorem dX10_judge_110 : decode cX10_judge 110 = .ok (.iload 5, 2) := by decide +kernel
theorem dX10_judge_112 : decode cX10_judge 112 = .ok (.iadd, 1) := by decide +kernel
theorem dX10_judge_113 : decode cX10_judge 113 = .ok (.goto 5, 3) := by decide +kernel
theorem dX10_judge_116 : decode cX10_judge 116 = .ok (.bipush (-5), 2) := by decide +kernel
theorem dX10_judge_118 : decode cX10_judge 118 = .ok (.ireturn, 1) := by decide +kernel
theorem dX10_image_0 : decode cX10_image 0 = .ok (.aload_n 0, 1) := by decide +kernel
theorem dX10_image_1 : decode cX10_image 1 = .ok (.getfield 18, 3) := by decide +kernel
theorem dX10_image_4 : decode cX10_image 4 = .ok (.aload_n 0, 1) := by decide +kernel
theorem dX10_image_5 : decode cX10_image 5 = .ok (.getfield 14, 3) := by decide +kernel
theorem dX10_image_8 : decode cX10_image 8 = .ok (.invokevirtual 352, 3) := by decide +kernel
theorem dX10_image_11 : decode cX10_image 11 = .ok (.aload_n 0, 1) := by decide +kernel
theorem dX10_image_12 : decode cX10_image 12 = .ok (.iconst 1, 1) := by decide +kernel
theorem dX10_image_13 : decode cX10_image 13 = .ok (.putfield 21, 3) := by decide +kernel
theorem dX10_image_16 : decode cX10_image 16 = .ok (.aload_n 0, 1) := by decide +kernel
theorem dX10_image_17 : decode cX10_image 17 = .ok (.getfield 14, 3) := by decide +kernel
theorem dX10_image_20 : decode cX10_image 20 = .ok (.getfield 173, 3) := by decide +kernel
theorem dX10_image_23 : decode cX10_image 23 = .ok (.ireturn, 1) := by decide +kernel
theorem dX10_undo_0 : decode cX10_undo 0 = .ok (.aload_n 0, 1) := by decide +kernel
theorem dX10_undo_1 : decode cX10_undo 1 = .ok (.getfield 21, 3) := by decide +kernel
theorem dX10_undo_4 : decode cX10_undo 4 = .ok (.ifCond .ne 6, 3) := by decide +kernel
theorem dX10_undo_7 : decode cX10_undo 7 = .ok (.bipush (-3), 2) := by decide +kernel
theorem dX10_undo_9 : decode cX10_undo 9 = .ok (.ireturn, 1) := by decide +kernel
theorem dX10_undo_10 : decode cX10_undo 10 = .ok (.aload_n 0, 1) := by decide +kernel
theorem dX10_undo_11 : decode cX10_undo 11 = .ok (.getfield 14, 3) := by decide +kernel
theorem dX10_undo_14 : decode cX10_undo 14 = .ok (.aload_n 0, 1) := by decide +kernel
theorem dX10_undo_15 : decode cX10_undo 15 = .ok (.getfield 18, 3) := by decide +kernel
theorem dX10_undo_18 : decode cX10_undo 18 = .ok (.invokevirtual 352, 3) := by decide +kernel
theorem dX10_undo_21 : decode cX10_undo 21 = .ok (.aload_n 0, 1) := by decide +kernel
theorem dX10_undo_22 : decode cX10_undo 22 = .ok (.getfield 14, 3) := by decide +kernel
theorem dX10_undo_25 : decode cX10_undo 25 = .ok (.getfield 173, 3) := by decide +kernel
theorem dX10_undo_28 : decode cX10_undo 28 = .ok (.ireturn, 1) := by decide +kernel
theorem dX10_doPart_0 : decode cX10_doPart 0 = .ok (.aload_n 0, 1) := by decide +kernel
theorem dX10_doPart_1 : decode cX10_doPart 1 = .ok (.getfield 49, 3) := by decide +kernel
theorem dX10_doPart_4 : decode cX10_doPart 4 = .ok (.getfield 356, 3) := by decide +kernel
theorem dX10_doPart_7 : decode cX10_doPart 7 = .ok (.iload_n 1, 1) := by decide +kernel
theorem dX10_doPart_8 : decode cX10_doPart 8 = .ok (.iaload, 1) := by decide +kernel
theorem dX10_doPart_9 : decode cX10_doPart 9 = .ok (.istore_n 2, 1) := by decide +kernel
theorem dX10_doPart_10 : decode cX10_doPart 10 = .ok (.aload_n 0, 1) := by decide +kernel
theorem dX10_doPart_11 : decode cX10_doPart 11 = .ok (.getfield 49, 3) := by decide +kernel
theorem dX10_doPart_14 : decode cX10_doPart 14 = .ok (.getfield 359, 3) := by decide +kernel
theorem dX10_doPart_17 : decode cX10_doPart 17 = .ok (.iload_n 1, 1) := by decide +kernel
theorem dX10_doPart_18 : decode cX10_doPart 18 = .ok (.iaload, 1) := by decide +kernel
theorem dX10_doPart_19 : decode cX10_doPart 19 = .ok (.istore_n 3, 1) := by decide +kernel
theorem dX10_doPart_20 : decode cX10_doPart 20 = .ok (.aload_n 0, 1) := by decide +kernel
theorem dX10_doPart_21 : decode cX10_doPart 21 = .ok (.getfield 49, 3) := by decide +kernel
theorem dX10_doPart_24 : decode cX10_doPart 24 = .ok (.getfield 362, 3) := by decide +kernel
theorem dX10_doPart_27 : decode cX10_doPart 27 = .ok (.iload_n 1, 1) := by decide +kernel
theorem dX10_doPart_28 : decode cX10_doPart 28 = .ok (.iaload, 1) := by decide +kernel
theorem dX10_doPart_29 : decode cX10_doPart 29 = .ok (.istore 4, 2) := by decide +kernel
theorem dX10_doPart_31 : decode cX10_doPart 31 = .ok (.iload 4, 2) := by decide +kernel
theorem dX10_doPart_33 : decode cX10_doPart 33 = .ok (.bipush 42, 2) := by decide +kernel
theorem dX10_doPart_35 : decode cX10_doPart 35 = .ok (.if_icmp .ne 45, 3) := by decide +kernel
theorem dX10_doPart_38 : decode cX10_doPart 38 = .ok (.iconst 0, 1) := by decide +kernel
theorem dX10_doPart_39 : decode cX10_doPart 39 = .ok (.istore 5, 2) := by decide +kernel
theorem dX10_doPart_41 : decode cX10_doPart 41 = .ok (.iload 5, 2) := by decide +kernel
theorem dX10_doPart_43 : decode cX10_doPart 43 = .ok (.bipush 40, 2) := by decide +kernel
theorem dX10_doPart_45 : decode cX10_doPart 45 = .ok (.if_icmp .ge 32, 3) := by decide +kernel
theorem dX10_doPart_48 : decode cX10_doPart 48 = .ok (.aload_n 0, 1) := by decide +kernel
theorem dX10_doPart_49 : decode cX10_doPart 49 = .ok (.getfield 14, 3) := by decide +kernel
theorem dX10_doPart_52 : decode cX10_doPart 52 = .ok (.iload_n 2, 1) := by decide +kernel
theorem dX10_doPart_53 : decode cX10_doPart 53 = .ok (.iload 5, 2) := by decide +kernel
theorem dX10_doPart_55 : decode cX10_doPart 55 = .ok (.invokevirtual 86, 3) := by decide +kernel
theorem dX10_doPart_58 : decode cX10_doPart 58 = .ok (.ifCond .eq 13, 3) := by decide +kernel
theorem dX10_doPart_61 : decode cX10_doPart 61 = .ok (.aload_n 0, 1) := by decide +kernel
theorem dX10_doPart_62 : decode cX10_doPart 62 = .ok (.getfield 14, 3) := by decide +kernel
theorem dX10_doPart_65 : decode cX10_doPart 65 = .ok (.iload_n 2, 1) := by decide +kernel
theorem dX10_doPart_66 : decode cX10_doPart 66 = .ok (.iload 5, 2) := by decide +kernel
theorem dX10_doPart_68 : decode cX10_doPart 68 = .ok (.invokevirtual 103, 3) := by decide +kernel
theorem dX10_doPart_71 : decode cX10_doPart 71 = .ok (.iinc 5 1, 3) := by decide +kernel
theorem dX10_doPart_74 : decode cX10_doPart 74 = .ok (.goto (-33), 3) := by decide +kernel
theorem dX10_doPart_77 : decode cX10_doPart 77 = .ok (.goto 59, 3) := by decide +kernel
theorem dX10_doPart_80 : decode cX10_doPart 80 = .ok (.aload_n 0, 1) := by decide +kernel
theorem dX10_doPart_81 : decode cX10_doPart 81 = .ok (.getfield 14, 3) := by decide +kernel
theorem dX10_doPart_84 : decode cX10_doPart 84 = .ok (.iload_n 2, 1) := by decide +kernel
theorem dX10_doPart_85 : decode cX10_doPart 85 = .ok (.iload_n 3, 1) := by decide +kernel
theorem dX10_doPart_86 : decode cX10_doPart 86 = .ok (.invokevirtual 86, 3) := by decide +kernel
theorem dX10_doPart_89 : decode cX10_doPart 89 = .ok (.ifCond .eq 22, 3) := by decide +kernel
theorem dX10_doPart_92 : decode cX10_doPart 92 = .ok (.iload 4, 2) := by decide +kernel
theorem dX10_doPart_94 : decode cX10_doPart 94 = .ok (.bipush 43, 2) := by decide +kernel
theorem dX10_doPart_96 : decode cX10_doPart 96 = .ok (.if_icmp .eq 40, 3) := by decide +kernel
theorem dX10_doPart_99 : decode cX10_doPart 99 = .ok (.aload_n 0, 1) := by decide +kernel
theorem dX10_doPart_100 : decode cX10_doPart 100 = .ok (.getfield 14, 3) := by decide +kernel
theorem dX10_doPart_103 : decode cX10_doPart 103 = .ok (.iload_n 2, 1) := by decide +kernel
theorem dX10_doPart_104 : decode cX10_doPart 104 = .ok (.iload_n 3, 1) := by decide +kernel
theorem dX10_doPart_105 : decode cX10_doPart 105 = .ok (.invokevirtual 103, 3) := by decide +kernel
theorem dX10_doPart_108 : decode cX10_doPart 108 = .ok (.goto 28, 3) := by decide +kernel
theorem dX10_doPart_111 : decode cX10_doPart 111 = .ok (.iload 4, 2) := by decide +kernel
theorem dX10_doPart_113 : decode cX10_doPart 113 = .ok (.bipush 45, 2) := by decide +kernel
theorem dX10_doPart_115 : decode cX10_doPart 115 = .ok (.if_icmp .eq 21, 3) := by decide +kernel
theorem dX10_doPart_118 : decode cX10_doPart 118 = .ok (.aload_n 0, 1) := by decide +kernel
theorem dX10_doPart_119 : decode cX10_doPart 119 = .ok (.getfield 14, 3) := by decide +kernel
theorem dX10_doPart_122 : decode cX10_doPart 122 = .ok (.iload_n 2, 1) := by decide +kernel
theorem dX10_doPart_123 : decode cX10_doPart 123 = .ok (.iload_n 3, 1) := by decide +kernel
theorem dX10_doPart_124 : decode cX10_doPart 124 = .ok (.aload_n 0, 1) := by decide +kernel
theorem dX10_doPart_125 : decode cX10_doPart 125 = .ok (.getfield 49, 3) := by decide +kernel
theorem dX10_doPart_128 : decode cX10_doPart 128 = .ok (.getfield 365, 3) := by decide +kernel
theorem dX10_doPart_131 : decode cX10_doPart 131 = .ok (.iload_n 1, 1) := by decide +kernel
theorem dX10_doPart_132 : decode cX10_doPart 132 = .ok (.iaload, 1) := by decide +kernel
theorem dX10_doPart_133 : decode cX10_doPart 133 = .ok (.invokevirtual 89, 3) := by decide +kernel
theorem dX10_doPart_136 : decode cX10_doPart 136 = .ok (.return_, 1) := by decide +kernel
theorem dX10_isVertex_0 : decode cX10_isVertex 0 = .ok (.iload_n 0, 1) := by decide +kernel
theorem dX10_isVertex_1 : decode cX10_isVertex 1 = .ok (.ifCond .lt 13, 3) := by decide +kernel
theorem dX10_isVertex_4 : decode cX10_isVertex 4 = .ok (.iload_n 0, 1) := by decide +kernel
theorem dX10_isVertex_5 : decode cX10_isVertex 5 = .ok (.bipush 40, 2) := by decide +kernel
theorem dX10_isVertex_7 : decode cX10_isVertex 7 = .ok (.if_icmp .ge 7, 3) := by decide +kernel
theorem dX10_isVertex_10 : decode cX10_isVertex 10 = .ok (.iconst 1, 1) := by decide +kernel
theorem dX10_isVertex_11 : decode cX10_isVertex 11 = .ok (.goto 4, 3) := by decide +kernel
theorem dX10_isVertex_14 : decode cX10_isVertex 14 = .ok (.iconst 0, 1) := by decide +kernel
theorem dX10_isVertex_15 : decode cX10_isVertex 15 = .ok (.ireturn, 1) := by decide +kernel
theorem dX10_isTwo_0 : decode cX10_isTwo 0 = .ok (.iload_n 0, 1) := by decide +kernel
theorem dX10_isTwo_1 : decode cX10_isTwo 1 = .ok (.invokestatic 116, 3) := by decide +kernel
theorem dX10_isTwo_4 : decode cX10_isTwo 4 = .ok (.ifCond .eq 19, 3) := by decide +kernel
theorem dX10_isTwo_7 : decode cX10_isTwo 7 = .ok (.iload_n 1, 1) := by decide +kernel
theorem dX10_isTwo_8 : decode cX10_isTwo 8 = .ok (.invokestatic 116, 3) := by decide +kernel
theorem dX10_isTwo_11 : decode cX10_isTwo 11 = .ok (.ifCond .eq 12, 3) := by decide +kernel
theorem dX10_isTwo_14 : decode cX10_isTwo 14 = .ok (.iload_n 0, 1) := by decide +kernel
theorem dX10_isTwo_15 : decode cX10_isTwo 15 = .ok (.iload_n 1, 1) := by decide +kernel
theorem dX10_isTwo_16 : decode cX10_isTwo 16 = .ok (.if_icmp .eq 7, 3) := by decide +kernel
theorem dX10_isTwo_19 : decode cX10_isTwo 19 = .ok (.iconst 1, 1) := by decide +kernel
theorem dX10_isTwo_20 : decode cX10_isTwo 20 = .ok (.goto 4, 3) := by decide +kernel
theorem dX10_isTwo_23 : decode cX10_isTwo 23 = .ok (.iconst 0, 1) := by decide +kernel
theorem dX10_isTwo_24 : decode cX10_isTwo 24 = .ok (.ireturn, 1) := by decide +kernel
theorem dX10_rowOf_0 : decode cX10_rowOf 0 = .ok (.iload_n 1, 1) := by decide +kernel
theorem dX10_rowOf_1 : decode cX10_rowOf 1 = .ok (.ifCond .lt 18, 3) := by decide +kernel
theorem dX10_rowOf_4 : decode cX10_rowOf 4 = .ok (.iload_n 1, 1) := by decide +kernel
theorem dX10_rowOf_5 : decode cX10_rowOf 5 = .ok (.bipush 6, 2) := by decide +kernel
theorem dX10_rowOf_7 : decode cX10_rowOf 7 = .ok (.if_icmp .ge 12, 3) := by decide +kernel
theorem dX10_rowOf_10 : decode cX10_rowOf 10 = .ok (.aload_n 0, 1) := by decide +kernel
theorem dX10_rowOf_11 : decode cX10_rowOf 11 = .ok (.getfield 69, 3) := by decide +kernel
theorem dX10_rowOf_14 : decode cX10_rowOf 14 = .ok (.iload_n 1, 1) := by decide +kernel
theorem dX10_rowOf_15 : decode cX10_rowOf 15 = .ok (.aaload, 1) := by decide +kernel
theorem dX10_rowOf_16 : decode cX10_rowOf 16 = .ok (.goto 4, 3) := by decide +kernel
theorem dX10_rowOf_19 : decode cX10_rowOf 19 = .ok (.aconst_null, 1) := by decide +kernel
theorem dX10_rowOf_20 : decode cX10_rowOf 20 = .ok (.areturn, 1) := by decide +kernel
theorem dX10_isSort_0 : decode cX10_isSort 0 = .ok (.iload_n 0, 1) := by decide +kernel
theorem dX10_isSort_1 : decode cX10_isSort 1 = .ok (.ifCond .lt 12, 3) := by decide +kernel
theorem dX10_isSort_4 : decode cX10_isSort 4 = .ok (.iload_n 0, 1) := by decide +kernel
theorem dX10_isSort_5 : decode cX10_isSort 5 = .ok (.iconst 3, 1) := by decide +kernel
theorem dX10_isSort_6 : decode cX10_isSort 6 = .ok (.if_icmp .gt 7, 3) := by decide +kernel
theorem dX10_isSort_9 : decode cX10_isSort 9 = .ok (.iconst 1, 1) := by decide +kernel
theorem dX10_isSort_10 : decode cX10_isSort 10 = .ok (.goto 4, 3) := by decide +kernel
theorem dX10_isSort_13 : decode cX10_isSort 13 = .ok (.iconst 0, 1) := by decide +kernel
theorem dX10_isSort_14 : decode cX10_isSort 14 = .ok (.ireturn, 1) := by decide +kernel
theorem dX10_pairOf_0 : decode cX10_pairOf 0 = .ok (.iload_n 0, 1) := by decide +kernel
theorem dX10_pairOf_1 : decode cX10_pairOf 1 = .ok (.iload_n 1, 1) := by decide +kernel
theorem dX10_pairOf_2 : decode cX10_pairOf 2 = .ok (.invokestatic 347, 3) := by decide +kernel
theorem dX10_pairOf_5 : decode cX10_pairOf 5 = .ok (.bipush 40, 2) := by decide +kernel
theorem dX10_pairOf_7 : decode cX10_pairOf 7 = .ok (.imul, 1) := by decide +kernel
theorem dX10_pairOf_8 : decode cX10_pairOf 8 = .ok (.iload_n 0, 1) := by decide +kernel
theorem dX10_pairOf_9 : decode cX10_pairOf 9 = .ok (.iload_n 1, 1) := by decide +kernel
theorem dX10_pairOf_10 : decode cX10_pairOf 10 = .ok (.invokestatic 366, 3) := by decide +kernel
theorem dX10_pairOf_13 : decode cX10_pairOf 13 = .ok (.iadd, 1) := by decide +kernel
theorem dX10_pairOf_14 : decode cX10_pairOf 14 = .ok (.ireturn, 1) := by decide +kernel
theorem dX10_hasBit_0 : decode cX10_hasBit 0 = .ok (.lload_n 0, 1) := by decide +kernel
theorem dX10_hasBit_1 : decode cX10_hasBit 1 = .ok (.iload_n 2, 1) := by decide +kernel
theorem dX10_hasBit_2 : decode cX10_hasBit 2 = .ok (.lushr, 1) := by decide +kernel
theorem dX10_hasBit_3 : decode cX10_hasBit 3 = .ok (.lconst 1, 1) := by decide +kernel
theorem dX10_hasBit_4 : decode cX10_hasBit 4 = .ok (.land, 1) := by decide +kernel
theorem dX10_hasBit_5 : decode cX10_hasBit 5 = .ok (.lconst 0, 1) := by decide +kernel
theorem dX10_hasBit_6 : decode cX10_hasBit 6 = .ok (.lcmp, 1) := by decide +kernel
theorem dX10_hasBit_7 : decode cX10_hasBit 7 = .ok (.ifCond .eq 7, 3) := by decide +kernel
theorem dX10_hasBit_10 : decode cX10_hasBit 10 = .ok (.iconst 1, 1) := by decide +kernel
theorem dX10_hasBit_11 : decode cX10_hasBit 11 = .ok (.goto 4, 3) := by decide +kernel
theorem dX10_hasBit_14 : decode cX10_hasBit 14 = .ok (.iconst 0, 1) := by decide +kernel
theorem dX10_hasBit_15 : decode cX10_hasBit 15 = .ok (.ireturn, 1) := by decide +kernel
theorem dX10_above_0 : decode cX10_above 0 = .ok (.ldc2_w 230, 3) := by decide +kernel
theorem dX10_above_3 : decode cX10_above 3 = .ok (.ldc2_w 369, 3) := by decide +kernel
theorem dX10_above_6 : decode cX10_above 6 = .ok (.iload_n 0, 1) := by decide +kernel
theorem dX10_above_7 : decode cX10_above 7 = .ok (.lshl, 1) := by decide +kernel
theorem dX10_above_8 : decode cX10_above 8 = .ok (.land, 1) := by decide +kernel
theorem dX10_above_9 : decode cX10_above 9 = .ok (.lreturn, 1) := by decide +kernel
theorem dX10_sumLeavesLong_0 : decode cX10_sumLeavesLong 0 = .ok (.lload_n 0, 1) := by decide +kernel
theorem dX10_sumLeavesLong_1 : decode cX10_sumLeavesLong 1 = .ok (.lload_n 2, 1) := by decide +kernel
theorem dX10_sumLeavesLong_2 : decode cX10_sumLeavesLong 2 = .ok (.ladd, 1) := by decide +kernel
theorem dX10_sumLeavesLong_3 : decode cX10_sumLeavesLong 3 = .ok (.lstore 4, 2) := by decide +kernel
theorem dX10_sumLeavesLong_5 : decode cX10_sumLeavesLong 5 = .ok (.lload_n 0, 1) := by decide +kernel
theorem dX10_sumLeavesLong_6 : decode cX10_sumLeavesLong 6 = .ok (.lload 4, 2) := by decide +kernel
theorem dX10_sumLeavesLong_8 : decode cX10_sumLeavesLong 8 = .ok (.lxor, 1) := by decide +kernel
theorem dX10_sumLeavesLong_9 : decode cX10_sumLeavesLong 9 = .ok (.lload_n 2, 1) := by decide +kernel
theorem dX10_sumLeavesLong_10 : decode cX10_sumLeavesLong 10 = .ok (.lload 4, 2) := by decide +kernel
theorem dX10_sumLeavesLong_12 : decode cX10_sumLeavesLong 12 = .ok (.lxor, 1) := by decide +kernel
theorem dX10_sumLeavesLong_13 : decode cX10_sumLeavesLong 13 = .ok (.land, 1) := by decide +kernel
theorem dX10_sumLeavesLong_14 : decode cX10_sumLeavesLong 14 = .ok (.lconst 0, 1) := by decide +kernel
theorem dX10_sumLeavesLong_15 : decode cX10_sumLeavesLong 15 = .ok (.lcmp, 1) := by decide +kernel
theorem dX10_sumLeavesLong_16 : decode cX10_sumLeavesLong 16 = .ok (.ifCond .ge 7, 3) := by decide +kernel
theorem dX10_sumLeavesLong_19 : decode cX10_sumLeavesLong 19 = .ok (.iconst 1, 1) := by decide +kernel
theorem dX10_sumLeavesLong_20 : decode cX10_sumLeavesLong 20 = .ok (.goto 4, 3) := by decide +kernel
theorem dX10_sumLeavesLong_23 : decode cX10_sumLeavesLong 23 = .ok (.iconst 0, 1) := by decide +kernel
theorem dX10_sumLeavesLong_24 : decode cX10_sumLeavesLong 24 = .ok (.ireturn, 1) := by decide +kernel
theorem dX10_greatestDivisor_0 : decode cX10_greatestDivisor 0 = .ok (.iload_n 0, 1) := by decide +kernel
theorem dX10_greatestDivisor_1 : decode cX10_greatestDivisor 1 = .ok (.istore_n 2, 1) := by decide +kernel
theorem dX10_greatestDivisor_2 : decode cX10_greatestDivisor 2 = .ok (.iload_n 1, 1) := by decide +kernel
theorem dX10_greatestDivisor_3 : decode cX10_greatestDivisor 3 = .ok (.istore_n 3, 1) := by decide +kernel
theorem dX10_greatestDivisor_4 : decode cX10_greatestDivisor 4 = .ok (.iconst 0, 1) := by decide +kernel
theorem dX10_greatestDivisor_5 : decode cX10_greatestDivisor 5 = .ok (.istore 4, 2) := by decide +kernel
theorem dX10_greatestDivisor_7 : decode cX10_greatestDivisor 7 = .ok (.iload 4, 2) := by decide +kernel
theorem dX10_greatestDivisor_9 : decode cX10_greatestDivisor 9 = .ok (.bipush 100, 2) := by decide +kernel
theorem dX10_greatestDivisor_11 : decode cX10_greatestDivisor 11 = .ok (.if_icmp .ge 23, 3) := by decide +kernel
theorem dX10_greatestDivisor_14 : decode cX10_greatestDivisor 14 = .ok (.iload_n 3, 1) := by decide +kernel
theorem dX10_greatestDivisor_15 : decode cX10_greatestDivisor 15 = .ok (.ifCond .le 19, 3) := by decide +kernel
theorem dX10_greatestDivisor_18 : decode cX10_greatestDivisor 18 = .ok (.iload_n 2, 1) := by decide +kernel
theorem dX10_greatestDivisor_19 : decode cX10_greatestDivisor 19 = .ok (.iload_n 3, 1) := by decide +kernel
theorem dX10_greatestDivisor_20 : decode cX10_greatestDivisor 20 = .ok (.irem, 1) := by decide +kernel
theorem dX10_greatestDivisor_21 : decode cX10_greatestDivisor 21 = .ok (.istore 5, 2) := by decide +kernel
theorem dX10_greatestDivisor_23 : decode cX10_greatestDivisor 23 = .ok (.iload_n 3, 1) := by decide +kernel
theorem dX10_greatestDivisor_24 : decode cX10_greatestDivisor 24 = .ok (.istore_n 2, 1) := by decide +kernel
theorem dX10_greatestDivisor_25 : decode cX10_greatestDivisor 25 = .ok (.iload 5, 2) := by decide +kernel
theorem dX10_greatestDivisor_27 : decode cX10_greatestDivisor 27 = .ok (.istore_n 3, 1) := by decide +kernel
theorem dX10_greatestDivisor_28 : decode cX10_greatestDivisor 28 = .ok (.iinc 4 1, 3) := by decide +kernel
theorem dX10_greatestDivisor_31 : decode cX10_greatestDivisor 31 = .ok (.goto (-24), 3) := by decide +kernel
theorem dX10_greatestDivisor_34 : decode cX10_greatestDivisor 34 = .ok (.iload_n 2, 1) := by decide +kernel
theorem dX10_greatestDivisor_35 : decode cX10_greatestDivisor 35 = .ok (.ireturn, 1) := by decide +kernel
theorem dX11_init_0 : decode cX11_init 0 = .ok (.aload_n 0, 1) := by decide +kernel
theorem dX11_init_1 : decode cX11_init 1 = .ok (.invokespecial 5, 3) := by decide +kernel
theorem dX11_init_4 : decode cX11_init 4 = .ok (.aload_n 0, 1) := by decide +kernel
theorem dX11_init_5 : decode cX11_init 5 = .ok (.sipush 187, 3) := by decide +kernel
theorem dX11_init_8 : decode cX11_init 8 = .ok (.newarray .int, 2) := by decide +kernel
theorem dX11_init_10 : decode cX11_init 10 = .ok (.putfield 11, 3) := by decide +kernel
theorem dX11_init_13 : decode cX11_init 13 = .ok (.aload_n 0, 1) := by decide +kernel
theorem dX11_init_14 : decode cX11_init 14 = .ok (.sipush 1600, 3) := by decide +kernel
theorem dX11_init_17 : decode cX11_init 17 = .ok (.newarray .int, 2) := by decide +kernel
theorem dX11_init_19 : decode cX11_init 19 = .ok (.putfield 15, 3) := by decide +kernel
theorem dX11_init_22 : decode cX11_init 22 = .ok (.aload_n 0, 1) := by decide +kernel
theorem dX11_init_23 : decode cX11_init 23 = .ok (.sipush 187, 3) := by decide +kernel
theorem dX11_init_26 : decode cX11_init 26 = .ok (.newarray .int, 2) := by decide +kernel
theorem dX11_init_28 : decode cX11_init 28 = .ok (.putfield 18, 3) := by decide +kernel
theorem dX11_init_31 : decode cX11_init 31 = .ok (.aload_n 0, 1) := by decide +kernel
theorem dX11_init_32 : decode cX11_init 32 = .ok (.sipush 1600, 3) := by decide +kernel
theorem dX11_init_35 : decode cX11_init 35 = .ok (.newarray .int, 2) := by decide +kernel
theorem dX11_init_37 : decode cX11_init 37 = .ok (.putfield 21, 3) := by decide +kernel
theorem dX11_init_40 : decode cX11_init 40 = .ok (.aload_n 0, 1) := by decide +kernel
theorem dX11_init_41 : decode cX11_init 41 = .ok (.bipush 40, 2) := by decide +kernel
theorem dX11_init_43 : decode cX11_init 43 = .ok (.newarray .long, 2) := by decide +kernel
theorem dX11_init_45 : decode cX11_init 45 = .ok (.putfield 24, 3) := by decide +kernel
theorem dX11_init_48 : decode cX11_init 48 = .ok (.aload_n 0, 1) := by decide +kernel
theorem dX11_init_49 : decode cX11_init 49 = .ok (.bipush 40, 2) := by decide +kernel
theorem dX11_init_51 : decode cX11_init 51 = .ok (.newarray .long, 2) := by decide +kernel
theorem dX11_init_53 : decode cX11_init 53 = .ok (.putfield 28, 3) := by decide +kernel
theorem dX11_init_56 : decode cX11_init 56 = .ok (.aload_n 0, 1) := by decide +kernel
theorem dX11_init_57 : decode cX11_init 57 = .ok (.bipush 40, 2) := by decide +kernel
theorem dX11_init_59 : decode cX11_init 59 = .ok (.newarray .int, 2) := by decide +kernel
theorem dX11_init_61 : decode cX11_init 61 = .ok (.putfield 31, 3) := by decide +kernel
theorem dX11_init_64 : decode cX11_init 64 = .ok (.aload_n 0, 1) := by decide +kernel
theorem dX11_init_65 : decode cX11_init 65 = .ok (.bipush 40, 2) := by decide +kernel
theorem dX11_init_67 : decode cX11_init 67 = .ok (.newarray .long, 2) := by decide +kernel
theorem dX11_init_69 : decode cX11_init 69 = .ok (.putfield 34, 3) := by decide +kernel
theorem dX11_init_72 : decode cX11_init 72 = .ok (.aload_n 0, 1) := by decide +kernel
theorem dX11_init_73 : decode cX11_init 73 = .ok (.sipush 1600, 3) := by decide +kernel
theorem dX11_init_76 : decode cX11_init 76 = .ok (.newarray .int, 2) := by decide +kernel
theorem dX11_init_78 : decode cX11_init 78 = .ok (.putfield 37, 3) := by decide +kernel
theorem dX11_init_81 : decode cX11_init 81 = .ok (.aload_n 0, 1) := by decide +kernel
theorem dX11_init_82 : decode cX11_init 82 = .ok (.sipush 1600, 3) := by decide +kernel
theorem dX11_init_85 : decode cX11_init 85 = .ok (.newarray .int, 2) := by decide +kernel
theorem dX11_init_87 : decode cX11_init 87 = .ok (.putfield 40, 3) := by decide +kernel
theorem dX11_init_90 : decode cX11_init 90 = .ok (.aload_n 0, 1) := by decide +kernel
theorem dX11_init_91 : decode cX11_init 91 = .ok (.sipush 1600, 3) := by decide +kernel
theorem dX11_init_94 : decode cX11_init 94 = .ok (.newarray .int, 2) := by decide +kernel
theorem dX11_init_96 : decode cX11_init 96 = .ok (.putfield 43, 3) := by decide +kernel
theorem dX11_init_99 : decode cX11_init 99 = .ok (.aload_n 0, 1) := by decide +kernel
theorem dX11_init_100 : decode cX11_init 100 = .ok (.sipush 1600, 3) := by decide +kernel
theorem dX11_init_103 : decode cX11_init 103 = .ok (.newarray .int, 2) := by decide +kernel
theorem dX11_init_105 : decode cX11_init 105 = .ok (.putfield 46, 3) := by decide +kernel
theorem dX11_init_108 : decode cX11_init 108 = .ok (.aload_n 0, 1) := by decide +kernel
theorem dX11_init_109 : decode cX11_init 109 = .ok (.sipush 160, 3) := by decide +kernel
theorem dX11_init_112 : decode cX11_init 112 = .ok (.newarray .int, 2) := by decide +kernel
theorem dX11_init_114 : decode cX11_init 114 = .ok (.putfield 49, 3) := by decide +kernel
theorem dX11_init_117 : decode cX11_init 117 = .ok (.aload_n 0, 1) := by decide +kernel
theorem dX11_init_118 : decode cX11_init 118 = .ok (.sipush 640, 3) := by decide +kernel
theorem dX11_init_121 : decode cX11_init 121 = .ok (.newarray .int, 2) := by decide +kernel
theorem dX11_init_123 : decode cX11_init 123 = .ok (.putfield 52, 3) := by decide +kernel
theorem dX11_init_126 : decode cX11_init 126 = .ok (.aload_n 0, 1) := by decide +kernel
theorem dX11_init_127 : decode cX11_init 127 = .ok (.sipush 32000, 3) := by decide +kernel
theorem dX11_init_130 : decode cX11_init 130 = .ok (.newarray .int, 2) := by decide +kernel
theorem dX11_init_132 : decode cX11_init 132 = .ok (.putfield 55, 3) := by decide +kernel
theorem dX11_init_135 : decode cX11_init 135 = .ok (.aload_n 0, 1) := by decide +kernel
theorem dX11_init_136 : decode cX11_init 136 = .ok (.bipush 6, 2) := by decide +kernel
theorem dX11_init_138 : decode cX11_init 138 = .ok (.newarray .int, 2) := by decide +kernel
theorem dX11_init_140 : decode cX11_init 140 = .ok (.dup, 1) := by decide +kernel
theorem dX11_init_141 : decode cX11_init 141 = .ok (.iconst 0, 1) := by decide +kernel
theorem dX11_init_142 : decode cX11_init 142 = .ok (.iconst (-1), 1) := by decide +kernel
theorem dX11_init_143 : decode cX11_init 143 = .ok (.iastore, 1) := by decide +kernel
theorem dX11_init_144 : decode cX11_init 144 = .ok (.dup, 1) := by decide +kernel
theorem dX11_init_145 : decode cX11_init 145 = .ok (.iconst 1, 1) := by decide +kernel
theorem dX11_init_146 : decode cX11_init 146 = .ok (.iconst (-1), 1) := by decide +kernel
theorem dX11_init_147 : decode cX11_init 147 = .ok (.iastore, 1) := by decide +kernel
theorem dX11_init_148 : decode cX11_init 148 = .ok (.dup, 1) := by decide +kernel
theorem dX11_init_149 : decode cX11_init 149 = .ok (.iconst 2, 1) := by decide +kernel
theorem dX11_init_150 : decode cX11_init 150 = .ok (.iconst (-1), 1) := by decide +kernel
theorem dX11_init_151 : decode cX11_init 151 = .ok (.iastore, 1) := by decide +kernel
theorem dX11_init_152 : decode cX11_init 152 = .ok (.dup, 1) := by decide +kernel
theorem dX11_init_153 : decode cX11_init 153 = .ok (.iconst 3, 1) := by decide +kernel
theorem dX11_init_154 : decode cX11_init 154 = .ok (.iconst (-1), 1) := by decide +kernel
theorem dX11_init_155 : decode cX11_init 155 = .ok (.iastore, 1) := by decide +kernel
theorem dX11_init_156 : decode cX11_init 156 = .ok (.dup, 1) := by decide +kernel
theorem dX11_init_157 : decode cX11_init 157 = .ok (.iconst 4, 1) := by decide +kernel
theorem dX11_init_158 : decode cX11_init 158 = .ok (.iconst (-1), 1) := by decide +kernel
theorem dX11_init_159 : decode cX11_init 159 = .ok (.iastore, 1) := by decide +kernel
theorem dX11_init_160 : decode cX11_init 160 = .ok (.dup, 1) := by decide +kernel
theorem dX11_init_161 : decode cX11_init 161 = .ok (.iconst 5, 1) := by decide +kernel
theorem dX11_init_162 : decode cX11_init 162 = .ok (.iconst (-1), 1) := by decide +kernel
theorem dX11_init_163 : decode cX11_init 163 = .ok (.iastore, 1) := by decide +kernel
theorem dX11_init_164 : decode cX11_init 164 = .ok (.putfield 58, 3) := by decide +kernel
theorem dX11_init_167 : decode cX11_init 167 = .ok (.aload_n 0, 1) := by decide +kernel
theorem dX11_init_168 : decode cX11_init 168 = .ok (.sipush 360, 3) := by decide +kernel
theorem dX11_init_171 : decode cX11_init 171 = .ok (.newarray .long, 2) := by decide +kernel
theorem dX11_init_173 : decode cX11_init 173 = .ok (.putfield 61, 3) := by decide +kernel
theorem dX11_init_176 : decode cX11_init 176 = .ok (.aload_n 0, 1) := by decide +kernel
theorem dX11_init_177 : decode cX11_init 177 = .ok (.getfield 11, 3) := by decide +kernel
theorem dX11_init_180 : decode cX11_init 180 = .ok (.iconst 0, 1) := by decide +kernel
theorem dX11_init_181 : decode cX11_init 181 = .ok (.iconst 1, 1) := by decide +kernel
theorem dX11_init_182 : decode cX11_init 182 = .ok (.iastore, 1) := by decide +kernel
theorem dX11_init_183 : decode cX11_init 183 = .ok (.return_, 1) := by decide +kernel
theorem dX11_isIn_0 : decode cX11_isIn 0 = .ok (.iload_n 0, 1) := by decide +kernel
theorem dX11_isIn_1 : decode cX11_isIn 1 = .ok (.iload_n 1, 1) := by decide +kernel
theorem dX11_isIn_2 : decode cX11_isIn 2 = .ok (.if_icmp .lt 12, 3) := by decide +kernel
theorem dX11_isIn_5 : decode cX11_isIn 5 = .ok (.iload_n 0, 1) := by decide +kernel
theorem dX11_isIn_6 : decode cX11_isIn 6 = .ok (.iload_n 2, 1) := by decide +kernel
theorem dX11_isIn_7 : decode cX11_isIn 7 = .ok (.if_icmp .gt 7, 3) := by decide +kernel
theorem dX11_isIn_10 : decode cX11_isIn 10 = .ok (.iconst 1, 1) := by decide +kernel
theorem dX11_isIn_11 : decode cX11_isIn 11 = .ok (.goto 4, 3) := by decide +kernel
theorem dX11_isIn_14 : decode cX11_isIn 14 = .ok (.iconst 0, 1) := by decide +kernel
theorem dX11_isIn_15 : decode cX11_isIn 15 = .ok (.ireturn, 1) := by decide +kernel
theorem dX11_isVertex_0 : decode cX11_isVertex 0 = .ok (.iload_n 0, 1) := by decide +kernel
theorem dX11_isVertex_1 : decode cX11_isVertex 1 = .ok (.iconst 0, 1) := by decide +kernel
theorem dX11_isVertex_2 : decode cX11_isVertex 2 = .ok (.bipush 39, 2) := by decide +kernel
theorem dX11_isVertex_4 : decode cX11_isVertex 4 = .ok (.invokestatic 64, 3) := by decide +kernel
theorem dX11_isVertex_7 : decode cX11_isVertex 7 = .ok (.ireturn, 1) := by decide +kernel
theorem dX11_areTwo_0 : decode cX11_areTwo 0 = .ok (.iload_n 0, 1) := by decide +kernel
theorem dX11_areTwo_1 : decode cX11_areTwo 1 = .ok (.invokestatic 68, 3) := by decide +kernel
theorem dX11_areTwo_4 : decode cX11_areTwo 4 = .ok (.ifCond .eq 19, 3) := by decide +kernel
theorem dX11_areTwo_7 : decode cX11_areTwo 7 = .ok (.iload_n 1, 1) := by decide +kernel
theorem dX11_areTwo_8 : decode cX11_areTwo 8 = .ok (.invokestatic 68, 3) := by decide +kernel
theorem dX11_areTwo_11 : decode cX11_areTwo 11 = .ok (.ifCond .eq 12, 3) := by decide +kernel
theorem dX11_areTwo_14 : decode cX11_areTwo 14 = .ok (.iload_n 0, 1) := by decide +kernel
theorem dX11_areTwo_15 : decode cX11_areTwo 15 = .ok (.iload_n 1, 1) := by decide +kernel
theorem dX11_areTwo_16 : decode cX11_areTwo 16 = .ok (.if_icmp .eq 7, 3) := by decide +kernel
theorem dX11_areTwo_19 : decode cX11_areTwo 19 = .ok (.iconst 1, 1) := by decide +kernel
theorem dX11_areTwo_20 : decode cX11_areTwo 20 = .ok (.goto 4, 3) := by decide +kernel
theorem dX11_areTwo_23 : decode cX11_areTwo 23 = .ok (.iconst 0, 1) := by decide +kernel
theorem dX11_areTwo_24 : decode cX11_areTwo 24 = .ok (.ireturn, 1) := by decide +kernel
theorem dX11_has_0 : decode cX11_has 0 = .ok (.lload_n 0, 1) := by decide +kernel
theorem dX11_has_1 : decode cX11_has 1 = .ok (.iload_n 2, 1) := by decide +kernel
theorem dX11_has_2 : decode cX11_has 2 = .ok (.lshr, 1) := by decide +kernel
theorem dX11_has_3 : decode cX11_has 3 = .ok (.lconst 1, 1) := by decide +kernel
theorem dX11_has_4 : decode cX11_has 4 = .ok (.land, 1) := by decide +kernel
theorem dX11_has_5 : decode cX11_has 5 = .ok (.lconst 1, 1) := by decide +kernel
theorem dX11_has_6 : decode cX11_has 6 = .ok (.lcmp, 1) := by decide +kernel
theorem dX11_has_7 : decode cX11_has 7 = .ok (.ifCond .ne 7, 3) := by decide +kernel
theorem dX11_has_10 : decode cX11_has 10 = .ok (.iconst 1, 1) := by decide +kernel
theorem dX11_has_11 : decode cX11_has 11 = .ok (.goto 4, 3) := by decide +kernel
theorem dX11_has_14 : decode cX11_has 14 = .ok (.iconst 0, 1) := by decide +kernel
theorem dX11_has_15 : decode cX11_has 15 = .ok (.ireturn, 1) := by decide +kernel
theorem dX11_bits_0 : decode cX11_bits 0 = .ok (.iconst 0, 1) := by decide +kernel
theorem dX11_bits_1 : decode cX11_bits 1 = .ok (.istore_n 2, 1) := by decide +kernel
theorem dX11_bits_2 : decode cX11_bits 2 = .ok (.lload_n 0, 1) := by decide +kernel
theorem dX11_bits_3 : decode cX11_bits 3 = .ok (.lstore_n 3, 1) := by decide +kernel
theorem dX11_bits_4 : decode cX11_bits 4 = .ok (.lload_n 3, 1) := by decide +kernel
theorem dX11_bits_5 : decode cX11_bits 5 = .ok (.lconst 0, 1) := by decide +kernel
theorem dX11_bits_6 : decode cX11_bits 6 = .ok (.lcmp, 1) := by decide +kernel
theorem dX11_bits_7 : decode cX11_bits 7 = .ok (.ifCond .eq 15, 3) := by decide +kernel
theorem dX11_bits_10 : decode cX11_bits 10 = .ok (.iinc 2 1, 3) := by decide +kernel
theorem dX11_bits_13 : decode cX11_bits 13 = .ok (.lload_n 3, 1) := by decide +kernel
theorem dX11_bits_14 : decode cX11_bits 14 = .ok (.lload_n 3, 1) := by decide +kernel
theorem dX11_bits_15 : decode cX11_bits 15 = .ok (.lconst 1, 1) := by decide +kernel
theorem dX11_bits_16 : decode cX11_bits 16 = .ok (.lsub, 1) := by decide +kernel
theorem dX11_bits_17 : decode cX11_bits 17 = .ok (.land, 1) := by decide +kernel
theorem dX11_bits_18 : decode cX11_bits 18 = .ok (.lstore_n 3, 1) := by decide +kernel
theorem dX11_bits_19 : decode cX11_bits 19 = .ok (.goto (-15), 3) := by decide +kernel
theorem dX11_bits_22 : decode cX11_bits 22 = .ok (.iload_n 2, 1) := by decide +kernel
theorem dX11_bits_23 : decode cX11_bits 23 = .ok (.ireturn, 1) := by decide +kernel
theorem dX11_edge_0 : decode cX11_edge 0 = .ok (.iload_n 0, 1) := by decide +kernel
theorem dX11_edge_1 : decode cX11_edge 1 = .ok (.iload_n 1, 1) := by decide +kernel
theorem dX11_edge_2 : decode cX11_edge 2 = .ok (.if_icmp .ge 12, 3) := by decide +kernel
theorem dX11_edge_5 : decode cX11_edge 5 = .ok (.bipush 40, 2) := by decide +kernel
theorem dX11_edge_7 : decode cX11_edge 7 = .ok (.iload_n 0, 1) := by decide +kernel
theorem dX11_edge_8 : decode cX11_edge 8 = .ok (.imul, 1) := by decide +kernel
theorem dX11_edge_9 : decode cX11_edge 9 = .ok (.iload_n 1, 1) := by decide +kernel
theorem dX11_edge_10 : decode cX11_edge 10 = .ok (.iadd, 1) := by decide +kernel
theorem dX11_edge_11 : decode cX11_edge 11 = .ok (.goto 9, 3) := by decide +kernel
theorem dX11_edge_14 : decode cX11_edge 14 = .ok (.bipush 40, 2) := by decide +kernel
theorem dX11_edge_16 : decode cX11_edge 16 = .ok (.iload_n 1, 1) := by decide +kernel
theorem dX11_edge_17 : decode cX11_edge 17 = .ok (.imul, 1) := by decide +kernel
theorem dX11_edge_18 : decode cX11_edge 18 = .ok (.iload_n 0, 1) := by decide +kernel
theorem dX11_edge_19 : decode cX11_edge 19 = .ok (.iadd, 1) := by decide +kernel
theorem dX11_edge_20 : decode cX11_edge 20 = .ok (.ireturn, 1) := by decide +kernel
theorem dX11_isEdge_0 : decode cX11_isEdge 0 = .ok (.aload_n 0, 1) := by decide +kernel
theorem dX11_isEdge_1 : decode cX11_isEdge 1 = .ok (.getfield 24, 3) := by decide +kernel
theorem dX11_isEdge_4 : decode cX11_isEdge 4 = .ok (.iload_n 1, 1) := by decide +kernel
theorem dX11_isEdge_5 : decode cX11_isEdge 5 = .ok (.laload, 1) := by decide +kernel
theorem dX11_isEdge_6 : decode cX11_isEdge 6 = .ok (.iload_n 2, 1) := by decide +kernel
theorem dX11_isEdge_7 : decode cX11_isEdge 7 = .ok (.invokestatic 72, 3) := by decide +kernel
theorem dX11_isEdge_10 : decode cX11_isEdge 10 = .ok (.ireturn, 1) := by decide +kernel
theorem dX11_degree_0 : decode cX11_degree 0 = .ok (.aload_n 0, 1) := by decide +kernel
theorem dX11_degree_1 : decode cX11_degree 1 = .ok (.getfield 24, 3) := by decide +kernel
theorem dX11_degree_4 : decode cX11_degree 4 = .ok (.iload_n 1, 1) := by decide +kernel
theorem dX11_degree_5 : decode cX11_degree 5 = .ok (.laload, 1) := by decide +kernel
theorem dX11_degree_6 : decode cX11_degree 6 = .ok (.invokestatic 76, 3) := by decide +kernel
theorem dX11_degree_9 : decode cX11_degree 9 = .ok (.ireturn, 1) := by decide +kernel
theorem dX11_shared_0 : decode cX11_shared 0 = .ok (.aload_n 0, 1) := by decide +kernel
theorem dX11_shared_1 : decode cX11_shared 1 = .ok (.getfield 24, 3) := by decide +kernel
theorem dX11_shared_4 : decode cX11_shared 4 = .ok (.iload_n 1, 1) := by decide +kernel
theorem dX11_shared_5 : decode cX11_shared 5 = .ok (.laload, 1) := by decide +kernel
theorem dX11_shared_6 : decode cX11_shared 6 = .ok (.aload_n 0, 1) := by decide +kernel
theorem dX11_shared_7 : decode cX11_shared 7 = .ok (.getfield 24, 3) := by decide +kernel
theorem dX11_shared_10 : decode cX11_shared 10 = .ok (.iload_n 2, 1) := by decide +kernel
theorem dX11_shared_11 : decode cX11_shared 11 = .ok (.laload, 1) := by decide +kernel
theorem dX11_shared_12 : decode cX11_shared 12 = .ok (.land, 1) := by decide +kernel
theorem dX11_shared_13 : decode cX11_shared 13 = .ok (.invokestatic 76, 3) := by decide +kernel
theorem dX11_shared_16 : decode cX11_shared 16 = .ok (.ireturn, 1) := by decide +kernel
theorem dX11_twos_0 : decode cX11_twos 0 = .ok (.iload_n 0, 1) := by decide +kernel
theorem dX11_twos_1 : decode cX11_twos 1 = .ok (.iload_n 0, 1) := by decide +kernel
theorem dX11_twos_2 : decode cX11_twos 2 = .ok (.iconst 1, 1) := by decide +kernel
theorem dX11_twos_3 : decode cX11_twos 3 = .ok (.isub, 1) := by decide +kernel
theorem dX11_twos_4 : decode cX11_twos 4 = .ok (.imul, 1) := by decide +kernel
theorem dX11_twos_5 : decode cX11_twos 5 = .ok (.iconst 2, 1) := by decide +kernel
theorem dX11_twos_6 : decode cX11_twos 6 = .ok (.idiv, 1) := by decide +kernel
theorem dX11_twos_7 : decode cX11_twos 7 = .ok (.ireturn, 1) := by decide +kernel
theorem dX11_bound_0 : decode cX11_bound 0 = .ok (.iconst 1, 1) := by decide +kernel
theorem dX11_bound_1 : decode cX11_bound 1 = .ok (.istore_n 1, 1) := by decide +kernel
theorem dX11_bound_2 : decode cX11_bound 2 = .ok (.iload_n 1, 1) := by decide +kernel
theorem dX11_bound_3 : decode cX11_bound 3 = .ok (.iload_n 1, 1) := by decide +kernel
theorem dX11_bound_4 : decode cX11_bound 4 = .ok (.imul, 1) := by decide +kernel
theorem dX11_bound_5 : decode cX11_bound 5 = .ok (.aload_n 0, 1) := by decide +kernel
theorem dX11_bound_6 : decode cX11_bound 6 = .ok (.getfield 11, 3) := by decide +kernel
theorem dX11_bound_9 : decode cX11_bound 9 = .ok (.iconst 0, 1) := by decide +kernel
theorem dX11_bound_10 : decode cX11_bound 10 = .ok (.iaload, 1) := by decide +kernel
theorem dX11_bound_11 : decode cX11_bound 11 = .ok (.if_icmp .ge 9, 3) := by decide +kernel
theorem dX11_bound_14 : decode cX11_bound 14 = .ok (.iinc 1 1, 3) := by decide +kernel
theorem dX11_bound_17 : decode cX11_bound 17 = .ok (.goto (-15), 3) := by decide +kernel
theorem dX11_bound_20 : decode cX11_bound 20 = .ok (.iload_n 1, 1) := by decide +kernel
theorem dX11_bound_21 : decode cX11_bound 21 = .ok (.ireturn, 1) := by decide +kernel
theorem dX11_rebases_0 : decode cX11_rebases 0 = .ok (.aload_n 0, 1) := by decide +kernel
theorem dX11_rebases_1 : decode cX11_rebases 1 = .ok (.lconst 0, 1) := by decide +kernel
theorem dX11_rebases_2 : decode cX11_rebases 2 = .ok (.putfield 80, 3) := by decide +kernel
theorem dX11_rebases_5 : decode cX11_rebases 5 = .ok (.iconst 0, 1) := by decide +kernel
theorem dX11_rebases_6 : decode cX11_rebases 6 = .ok (.istore_n 1, 1) := by decide +kernel
theorem dX11_rebases_7 : decode cX11_rebases 7 = .ok (.iload_n 1, 1) := by decide +kernel
theorem dX11_rebases_8 : decode cX11_rebases 8 = .ok (.bipush 40, 2) := by decide +kernel
theorem dX11_rebases_10 : decode cX11_rebases 10 = .ok (.if_icmp .ge 37, 3) := by decide +kernel
theorem dX11_rebases_13 : decode cX11_rebases 13 = .ok (.aload_n 0, 1) := by decide +kernel
theorem dX11_rebases_14 : decode cX11_rebases 14 = .ok (.dup, 1) := by decide +kernel
theorem dX11_rebases_15 : decode cX11_rebases 15 = .ok (.getfield 80, 3) := by decide +kernel
theorem dX11_rebases_18 : decode cX11_rebases 18 = .ok (.aload_n 0, 1) := by decide +kernel
theorem dX11_rebases_19 : decode cX11_rebases 19 = .ok (.iload_n 1, 1) := by decide +kernel
theorem dX11_rebases_20 : decode cX11_rebases 20 = .ok (.invokevirtual 84, 3) := by decide +kernel
theorem dX11_rebases_23 : decode cX11_rebases 23 = .ok (.aload_n 0, 1) := by decide +kernel
theorem dX11_rebases_24 : decode cX11_rebases 24 = .ok (.invokevirtual 88, 3) := by decide +kernel
theorem dX11_rebases_27 : decode cX11_rebases 27 = .ok (.if_icmp .lt 9, 3) := by decide +kernel
theorem dX11_rebases_30 : decode cX11_rebases 30 = .ok (.lconst 1, 1) := by decide +kernel
theorem dX11_rebases_31 : decode cX11_rebases 31 = .ok (.iload_n 1, 1) := by decide +kernel
theorem dX11_rebases_32 : decode cX11_rebases 32 = .ok (.lshl, 1) := by decide +kernel
theorem dX11_rebases_33 : decode cX11_rebases 33 = .ok (.goto 4, 3) := by decide +kernel
theorem dX11_rebases_36 : decode cX11_rebases 36 = .ok (.lconst 0, 1) := by decide +kernel
theorem dX11_rebases_37 : decode cX11_rebases 37 = .ok (.lor, 1) := by decide +kernel
theorem dX11_rebases_38 : decode cX11_rebases 38 = .ok (.putfield 80, 3) := by decide +kernel
theorem dX11_rebases_41 : decode cX11_rebases 41 = .ok (.iinc 1 1, 3) := by decide +kernel
theorem dX11_rebases_44 : decode cX11_rebases 44 = .ok (.goto (-37), 3) := by decide +kernel
theorem dX11_rebases_47 : decode cX11_rebases 47 = .ok (.aload_n 0, 1) := by decide +kernel
theorem dX11_rebases_48 : decode cX11_rebases 48 = .ok (.getfield 11, 3) := by decide +kernel
theorem dX11_rebases_51 : decode cX11_rebases 51 = .ok (.iconst 3, 1) := by decide +kernel
theorem dX11_rebases_52 : decode cX11_rebases 52 = .ok (.dup2, 1) := by decide +kernel
theorem dX11_rebases_53 : decode cX11_rebases 53 = .ok (.iaload, 1) := by decide +kernel
theorem dX11_rebases_54 : decode cX11_rebases 54 = .ok (.iconst 1, 1) := by decide +kernel
theorem dX11_rebases_55 : decode cX11_rebases 55 = .ok (.iadd, 1) := by decide +kernel
theorem dX11_rebases_56 : decode cX11_rebases 56 = .ok (.iastore, 1) := by decide +kernel
theorem dX11_rebases_57 : decode cX11_rebases 57 = .ok (.return_, 1) := by decide +kernel
theorem dX11_looksAt_0 : decode cX11_looksAt 0 = .ok (.iconst 2, 1) := by decide +kernel
theorem dX11_looksAt_1 : decode cX11_looksAt 1 = .ok (.aload_n 0, 1) := by decide +kernel
theorem dX11_looksAt_2 : decode cX11_looksAt 2 = .ok (.iload_n 1, 1) := by decide +kernel
theorem dX11_looksAt_3 : decode cX11_looksAt 3 = .ok (.invokevirtual 84, 3) := by decide +kernel
theorem dX11_looksAt_6 : decode cX11_looksAt 6 = .ok (.imul, 1) := by decide +kernel
theorem dX11_looksAt_7 : decode cX11_looksAt 7 = .ok (.istore_n 2, 1) := by decide +kernel
theorem dX11_looksAt_8 : decode cX11_looksAt 8 = .ok (.aload_n 0, 1) := by decide +kernel
theorem dX11_looksAt_9 : decode cX11_looksAt 9 = .ok (.getfield 80, 3) := by decide +kernel
theorem dX11_looksAt_12 : decode cX11_looksAt 12 = .ok (.iload_n 1, 1) := by decide +kernel
theorem dX11_looksAt_13 : decode cX11_looksAt 13 = .ok (.invokestatic 72, 3) := by decide +kernel
theorem dX11_looksAt_16 : decode cX11_looksAt 16 = .ok (.ifCond .eq 19, 3) := by decide +kernel
theorem dX11_looksAt_19 : decode cX11_looksAt 19 = .ok (.iload_n 2, 1) := by decide +kernel
theorem dX11_looksAt_20 : decode cX11_looksAt 20 = .ok (.aload_n 0, 1) := by decide +kernel
theorem dX11_looksAt_21 : decode cX11_looksAt 21 = .ok (.invokevirtual 88, 3) := by decide +kernel
theorem dX11_looksAt_24 : decode cX11_looksAt 24 = .ok (.if_icmp .ge 7, 3) := by decide +kernel
theorem dX11_looksAt_27 : decode cX11_looksAt 27 = .ok (.iconst 1, 1) := by decide +kernel
theorem dX11_looksAt_28 : decode cX11_looksAt 28 = .ok (.goto 22, 3) := by decide +kernel
theorem dX11_looksAt_31 : decode cX11_looksAt 31 = .ok (.iconst 0, 1) := by decide +kernel
theorem dX11_looksAt_32 : decode cX11_looksAt 32 = .ok (.goto 18, 3) := by decide +kernel
theorem dX11_looksAt_35 : decode cX11_looksAt 35 = .ok (.iload_n 2, 1) := by decide +kernel
theorem dX11_looksAt_36 : decode cX11_looksAt 36 = .ok (.iconst 3, 1) := by decide +kernel
theorem dX11_looksAt_37 : decode cX11_looksAt 37 = .ok (.aload_n 0, 1) := by decide +kernel
theorem dX11_looksAt_38 : decode cX11_looksAt 38 = .ok (.invokevirtual 88, 3) := by decide +kernel
theorem dX11_looksAt_41 : decode cX11_looksAt 41 = .ok (.imul, 1) := by decide +kernel
theorem dX11_looksAt_42 : decode cX11_looksAt 42 = .ok (.if_icmp .lt 7, 3) := by decide +kernel
theorem dX11_looksAt_45 : decode cX11_looksAt 45 = .ok (.iconst 1, 1) := by decide +kernel
theorem dX11_looksAt_46 : decode cX11_looksAt 46 = .ok (.goto 4, 3) := by decide +kernel
theorem dX11_looksAt_49 : decode cX11_looksAt 49 = .ok (.iconst 0, 1) := by decide +kernel
theorem dX11_looksAt_50 : decode cX11_looksAt 50 = .ok (.istore_n 3, 1) := by decide +kernel
theorem dX11_looksAt_51 : decode cX11_looksAt 51 = .ok (.iload_n 3, 1) := by decide +kernel
theorem dX11_looksAt_52 : decode cX11_looksAt 52 = .ok (.ifCond .ne 4, 3) := by decide +kernel
theorem dX11_looksAt_55 : decode cX11_looksAt 55 = .ok (.return_, 1) := by decide +kernel
theorem dX11_looksAt_56 : decode cX11_looksAt 56 = .ok (.aload_n 0, 1) := by decide +kernel
theorem dX11_looksAt_57 : decode cX11_looksAt 57 = .ok (.dup, 1) := by decide +kernel
theorem dX11_looksAt_58 : decode cX11_looksAt 58 = .ok (.getfield 80, 3) := by decide +kernel
theorem dX11_looksAt_61 : decode cX11_looksAt 61 = .ok (.lconst 1, 1) := by decide +kernel
theorem dX11_looksAt_62 : decode cX11_looksAt 62 = .ok (.iload_n 1, 1) := by decide +kernel
theorem dX11_looksAt_63 : decode cX11_looksAt 63 = .ok (.lshl, 1) := by decide +kernel
theorem dX11_looksAt_64 : decode cX11_looksAt 64 = .ok (.lxor, 1) := by decide +kernel
theorem dX11_looksAt_65 : decode cX11_looksAt 65 = .ok (.putfield 80, 3) := by decide +kernel
theorem dX11_looksAt_68 : decode cX11_looksAt 68 = .ok (.aload_n 0, 1) := by decide +kernel
theorem dX11_looksAt_69 : decode cX11_looksAt 69 = .ok (.getfield 11, 3) := by decide +kernel
theorem dX11_looksAt_72 : decode cX11_looksAt 72 = .ok (.iconst 1, 1) := by decide +kernel
theorem dX11_looksAt_73 : decode cX11_looksAt 73 = .ok (.dup2, 1) := by decide +kernel
theorem dX11_looksAt_74 : decode cX11_looksAt 74 = .ok (.iaload, 1) := by decide +kernel
theorem dX11_looksAt_75 : decode cX11_looksAt 75 = .ok (.iconst 1, 1) := by decide +kernel
theorem dX11_looksAt_76 : decode cX11_looksAt 76 = .ok (.iadd, 1) := by decide +kernel
theorem dX11_looksAt_77 : decode cX11_looksAt 77 = .ok (.iastore, 1) := by decide +kernel
theorem dX11_looksAt_78 : decode cX11_looksAt 78 = .ok (.aload_n 0, 1) := by decide +kernel
theorem dX11_looksAt_79 : decode cX11_looksAt 79 = .ok (.getfield 11, 3) := by decide +kernel
theorem dX11_looksAt_82 : decode cX11_looksAt 82 = .ok (.iconst 2, 1) := by decide +kernel
theorem dX11_looksAt_83 : decode cX11_looksAt 83 = .ok (.dup2, 1) := by decide +kernel
theorem dX11_looksAt_84 : decode cX11_looksAt 84 = .ok (.iaload, 1) := by decide +kernel
theorem dX11_looksAt_85 : decode cX11_looksAt 85 = .ok (.aload_n 0, 1) := by decide +kernel
theorem dX11_looksAt_86 : decode cX11_looksAt 86 = .ok (.iload_n 1, 1) := by decide +kernel
theorem dX11_looksAt_87 : decode cX11_looksAt 87 = .ok (.invokevirtual 84, 3) := by decide +kernel
theorem dX11_looksAt_90 : decode cX11_looksAt 90 = .ok (.iadd, 1) := by decide +kernel
theorem dX11_looksAt_91 : decode cX11_looksAt 91 = .ok (.iastore, 1) := by decide +kernel
theorem dX11_looksAt_92 : decode cX11_looksAt 92 = .ok (.return_, 1) := by decide +kernel
theorem dX11_changes_0 : decode cX11_changes 0 = .ok (.aload_n 0, 1) := by decide +kernel
theorem dX11_changes_1 : decode cX11_changes 1 = .ok (.getfield 24, 3) := by decide +kernel
theorem dX11_changes_4 : decode cX11_changes 4 = .ok (.iload_n 1, 1) := by decide +kernel
theorem dX11_changes_5 : decode cX11_changes 5 = .ok (.dup2, 1) := by decide +kernel
theorem dX11_changes_6 : decode cX11_changes 6 = .ok (.laload, 1) := by decide +kernel
theorem dX11_changes_7 : decode cX11_changes 7 = .ok (.lconst 1, 1) := by decide +kernel
theorem dX11_changes_8 : decode cX11_changes 8 = .ok (.iload_n 2, 1) := by decide +kernel
theorem dX11_changes_9 : decode cX11_changes 9 = .ok (.lshl, 1) := by decide +kernel
theorem dX11_changes_10 : decode cX11_changes 10 = .ok (.lxor, 1) := by decide +kernel
theorem dX11_changes_11 : decode cX11_changes 11 = .ok (.lastore, 1) := by decide +kernel
theorem dX11_changes_12 : decode cX11_changes 12 = .ok (.aload_n 0, 1) := by decide +kernel
theorem dX11_changes_13 : decode cX11_changes 13 = .ok (.getfield 24, 3) := by decide +kernel
theorem dX11_changes_16 : decode cX11_changes 16 = .ok (.iload_n 2, 1) := by decide +kernel
theorem dX11_changes_17 : decode cX11_changes 17 = .ok (.dup2, 1) := by decide +kernel
theorem dX11_changes_18 : decode cX11_changes 18 = .ok (.laload, 1) := by decide +kernel
theorem dX11_changes_19 : decode cX11_changes 19 = .ok (.lconst 1, 1) := by decide +kernel
theorem dX11_changes_20 : decode cX11_changes 20 = .ok (.iload_n 1, 1) := by decide +kernel
theorem dX11_changes_21 : decode cX11_changes 21 = .ok (.lshl, 1) := by decide +kernel
theorem dX11_changes_22 : decode cX11_changes 22 = .ok (.lxor, 1) := by decide +kernel
theorem dX11_changes_23 : decode cX11_changes 23 = .ok (.lastore, 1) := by decide +kernel
theorem dX11_changes_24 : decode cX11_changes 24 = .ok (.aload_n 0, 1) := by decide +kernel
theorem dX11_changes_25 : decode cX11_changes 25 = .ok (.getfield 15, 3) := by decide +kernel
theorem dX11_changes_28 : decode cX11_changes 28 = .ok (.iload_n 1, 1) := by decide +kernel
theorem dX11_changes_29 : decode cX11_changes 29 = .ok (.iload_n 2, 1) := by decide +kernel
theorem dX11_changes_30 : decode cX11_changes 30 = .ok (.invokestatic 92, 3) := by decide +kernel
theorem dX11_changes_33 : decode cX11_changes 33 = .ok (.iload 4, 2) := by decide +kernel
theorem dX11_changes_35 : decode cX11_changes 35 = .ok (.iastore, 1) := by decide +kernel
theorem dX11_changes_36 : decode cX11_changes 36 = .ok (.aload_n 0, 1) := by decide +kernel
theorem dX11_changes_37 : decode cX11_changes 37 = .ok (.getfield 11, 3) := by decide +kernel
theorem dX11_changes_40 : decode cX11_changes 40 = .ok (.iconst 5, 1) := by decide +kernel
theorem dX11_changes_41 : decode cX11_changes 41 = .ok (.dup2, 1) := by decide +kernel
theorem dX11_changes_42 : decode cX11_changes 42 = .ok (.iaload, 1) := by decide +kernel
theorem dX11_changes_43 : decode cX11_changes 43 = .ok (.iload_n 3, 1) := by decide +kernel
theorem dX11_changes_44 : decode cX11_changes 44 = .ok (.ifCond .eq 7, 3) := by decide +kernel
theorem dX11_changes_47 : decode cX11_changes 47 = .ok (.iconst 1, 1) := by decide +kernel
theorem dX11_changes_48 : decode cX11_changes 48 = .ok (.goto 4, 3) := by decide +kernel
theorem dX11_changes_51 : decode cX11_changes 51 = .ok (.iconst (-1), 1) := by decide +kernel
theorem dX11_changes_52 : decode cX11_changes 52 = .ok (.iadd, 1) := by decide +kernel
theorem dX11_changes_53 : decode cX11_changes 53 = .ok (.iastore, 1) := by decide +kernel
theorem dX11_changes_54 : decode cX11_changes 54 = .ok (.aload_n 0, 1) := by decide +kernel
theorem dX11_changes_55 : decode cX11_changes 55 = .ok (.getfield 11, 3) := by decide +kernel
theorem dX11_changes_58 : decode cX11_changes 58 = .ok (.iconst 4, 1) := by decide +kernel
theorem dX11_changes_59 : decode cX11_changes 59 = .ok (.dup2, 1) := by decide +kernel
theorem dX11_changes_60 : decode cX11_changes 60 = .ok (.iaload, 1) := by decide +kernel
theorem dX11_changes_61 : decode cX11_changes 61 = .ok (.iconst 1, 1) := by decide +kernel
theorem dX11_changes_62 : decode cX11_changes 62 = .ok (.iadd, 1) := by decide +kernel
theorem dX11_changes_63 : decode cX11_changes 63 = .ok (.iastore, 1) := by decide +kernel
theorem dX11_changes_64 : decode cX11_changes 64 = .ok (.iload_n 3, 1) := by decide +kernel
theorem dX11_changes_65 : decode cX11_changes 65 = .ok (.ifCond .eq 35, 3) := by decide +kernel
theorem dX11_changes_68 : decode cX11_changes 68 = .ok (.aload_n 0, 1) := by decide +kernel
theorem dX11_changes_69 : decode cX11_changes 69 = .ok (.getfield 11, 3) := by decide +kernel
theorem dX11_changes_72 : decode cX11_changes 72 = .ok (.iconst 5, 1) := by decide +kernel
theorem dX11_changes_73 : decode cX11_changes 73 = .ok (.iaload, 1) := by decide +kernel
theorem dX11_changes_74 : decode cX11_changes 74 = .ok (.aload_n 0, 1) := by decide +kernel
theorem dX11_changes_75 : decode cX11_changes 75 = .ok (.getfield 11, 3) := by decide +kernel
theorem dX11_changes_78 : decode cX11_changes 78 = .ok (.iconst 0, 1) := by decide +kernel
theorem dX11_changes_79 : decode cX11_changes 79 = .ok (.iaload, 1) := by decide +kernel
theorem dX11_changes_80 : decode cX11_changes 80 = .ok (.if_icmp .ne 20, 3) := by decide +kernel
theorem dX11_changes_83 : decode cX11_changes 83 = .ok (.aload_n 0, 1) := by decide +kernel
theorem dX11_changes_84 : decode cX11_changes 84 = .ok (.getfield 11, 3) := by decide +kernel
theorem dX11_changes_87 : decode cX11_changes 87 = .ok (.iconst 0, 1) := by decide +kernel
theorem dX11_changes_88 : decode cX11_changes 88 = .ok (.dup2, 1) := by decide +kernel
theorem dX11_changes_89 : decode cX11_changes 89 = .ok (.iaload, 1) := by decide +kernel
theorem dX11_changes_90 : decode cX11_changes 90 = .ok (.iconst 2, 1) := by decide +kernel
theorem dX11_changes_91 : decode cX11_changes 91 = .ok (.imul, 1) := by decide +kernel
theorem dX11_changes_92 : decode cX11_changes 92 = .ok (.iastore, 1) := by decide +kernel
theorem dX11_changes_93 : decode cX11_changes 93 = .ok (.aload_n 0, 1) := by decide +kernel
theorem dX11_changes_94 : decode cX11_changes 94 = .ok (.invokevirtual 96, 3) := by decide +kernel
theorem dX11_changes_97 : decode cX11_changes 97 = .ok (.goto 92, 3) := by decide +kernel
theorem dX11_changes_100 : decode cX11_changes 100 = .ok (.iload_n 3, 1) := by decide +kernel
theorem dX11_changes_101 : decode cX11_changes 101 = .ok (.ifCond .ne 60, 3) := by decide +kernel
theorem dX11_changes_104 : decode cX11_changes 104 = .ok (.aload_n 0, 1) := by decide +kernel
theorem dX11_changes_105 : decode cX11_changes 105 = .ok (.getfield 11, 3) := by decide +kernel
theorem dX11_changes_108 : decode cX11_changes 108 = .ok (.iconst 5, 1) := by decide +kernel
theorem dX11_changes_109 : decode cX11_changes 109 = .ok (.iaload, 1) := by decide +kernel
theorem dX11_changes_110 : decode cX11_changes 110 = .ok (.aload_n 0, 1) := by decide +kernel
theorem dX11_changes_111 : decode cX11_changes 111 = .ok (.getfield 11, 3) := by decide +kernel
theorem dX11_changes_114 : decode cX11_changes 114 = .ok (.iconst 0, 1) := by decide +kernel
theorem dX11_changes_115 : decode cX11_changes 115 = .ok (.iaload, 1) := by decide +kernel
theorem dX11_changes_116 : decode cX11_changes 116 = .ok (.iconst 4, 1) := by decide +kernel
theorem dX11_changes_117 : decode cX11_changes 117 = .ok (.idiv, 1) := by decide +kernel
theorem dX11_changes_118 : decode cX11_changes 118 = .ok (.if_icmp .ge 43, 3) := by decide +kernel
theorem dX11_changes_121 : decode cX11_changes 121 = .ok (.aload_n 0, 1) := by decide +kernel
theorem dX11_changes_122 : decode cX11_changes 122 = .ok (.getfield 11, 3) := by decide +kernel
theorem dX11_changes_125 : decode cX11_changes 125 = .ok (.iconst 0, 1) := by decide +kernel
theorem dX11_changes_126 : decode cX11_changes 126 = .ok (.aload_n 0, 1) := by decide +kernel
theorem dX11_changes_127 : decode cX11_changes 127 = .ok (.getfield 11, 3) := by decide +kernel
theorem dX11_changes_130 : decode cX11_changes 130 = .ok (.iconst 0, 1) := by decide +kernel
theorem dX11_changes_131 : decode cX11_changes 131 = .ok (.iaload, 1) := by decide +kernel
theorem dX11_changes_132 : decode cX11_changes 132 = .ok (.iconst 2, 1) := by decide +kernel
theorem dX11_changes_133 : decode cX11_changes 133 = .ok (.idiv, 1) := by decide +kernel
theorem dX11_changes_134 : decode cX11_changes 134 = .ok (.iconst 1, 1) := by decide +kernel
theorem dX11_changes_135 : decode cX11_changes 135 = .ok (.isub, 1) := by decide +kernel
theorem dX11_changes_136 : decode cX11_changes 136 = .ok (.iastore, 1) := by decide +kernel
theorem dX11_changes_137 : decode cX11_changes 137 = .ok (.aload_n 0, 1) := by decide +kernel
theorem dX11_changes_138 : decode cX11_changes 138 = .ok (.getfield 11, 3) := by decide +kernel
theorem dX11_changes_141 : decode cX11_changes 141 = .ok (.iconst 0, 1) := by decide +kernel
theorem dX11_changes_142 : decode cX11_changes 142 = .ok (.iaload, 1) := by decide +kernel
theorem dX11_changes_143 : decode cX11_changes 143 = .ok (.iconst 1, 1) := by decide +kernel
theorem dX11_changes_144 : decode cX11_changes 144 = .ok (.if_icmp .ge 10, 3) := by decide +kernel
theorem dX11_changes_147 : decode cX11_changes 147 = .ok (.aload_n 0, 1) := by decide +kernel
theorem dX11_changes_148 : decode cX11_changes 148 = .ok (.getfield 11, 3) := by decide +kernel
theorem dX11_changes_151 : decode cX11_changes 151 = .ok (.iconst 0, 1) := by decide +kernel
theorem dX11_changes_152 : decode cX11_changes 152 = .ok (.iconst 1, 1) := by decide +kernel
theorem dX11_changes_153 : decode cX11_changes 153 = .ok (.iastore, 1) := by decide +kernel
theorem dX11_changes_154 : decode cX11_changes 154 = .ok (.aload_n 0, 1) := by decide +kernel
theorem dX11_changes_155 : decode cX11_changes 155 = .ok (.invokevirtual 96, 3) := by decide +kernel
theorem dX11_changes_158 : decode cX11_changes 158 = .ok (.goto 31, 3) := by decide +kernel
theorem dX11_changes_161 : decode cX11_changes 161 = .ok (.aload_n 0, 1) := by decide +kernel
theorem dX11_changes_162 : decode cX11_changes 162 = .ok (.iload_n 1, 1) := by decide +kernel
theorem dX11_changes_163 : decode cX11_changes 163 = .ok (.iload_n 2, 1) := by decide +kernel
theorem dX11_changes_164 : decode cX11_changes 164 = .ok (.if_icmp .ge 7, 3) := by decide +kernel
theorem dX11_changes_167 : decode cX11_changes 167 = .ok (.iload_n 1, 1) := by decide +kernel
theorem dX11_changes_168 : decode cX11_changes 168 = .ok (.goto 4, 3) := by decide +kernel
theorem dX11_changes_171 : decode cX11_changes 171 = .ok (.iload_n 2, 1) := by decide +kernel
theorem dX11_changes_172 : decode cX11_changes 172 = .ok (.invokevirtual 99, 3) := by decide +kernel
theorem dX11_changes_175 : decode cX11_changes 175 = .ok (.aload_n 0, 1) := by decide +kernel
theorem dX11_changes_176 : decode cX11_changes 176 = .ok (.iload_n 1, 1) := by decide +kernel
theorem dX11_changes_177 : decode cX11_changes 177 = .ok (.iload_n 2, 1) := by decide +kernel
theorem dX11_changes_178 : decode cX11_changes 178 = .ok (.if_icmp .ge 7, 3) := by decide +kernel
theorem dX11_changes_181 : decode cX11_changes 181 = .ok (.iload_n 2, 1) := by decide +kernel
theorem dX11_changes_182 : decode cX11_changes 182 = .ok (.goto 4, 3) := by decide +kernel
theorem dX11_changes_185 : decode cX11_changes 185 = .ok (.iload_n 1, 1) := by decide +kernel
theorem dX11_changes_186 : decode cX11_changes 186 = .ok (.invokevirtual 99, 3) := by decide +kernel
theorem dX11_changes_189 : decode cX11_changes 189 = .ok (.return_, 1) := by decide +kernel
theorem dX11_logs_0 : decode cX11_logs 0 = .ok (.aload_n 0, 1) := by decide +kernel
theorem dX11_logs_1 : decode cX11_logs 1 = .ok (.getfield 11, 3) := by decide +kernel
theorem dX11_logs_4 : decode cX11_logs 4 = .ok (.bipush 6, 2) := by decide +kernel
theorem dX11_logs_6 : decode cX11_logs 6 = .ok (.iaload, 1) := by decide +kernel
theorem dX11_logs_7 : decode cX11_logs 7 = .ok (.bipush 60, 2) := by decide +kernel
theorem dX11_logs_9 : decode cX11_logs 9 = .ok (.if_icmp .ne 53, 3) := by decide +kernel
theorem dX11_logs_12 : decode cX11_logs 12 = .ok (.iconst 3, 1) := by decide +kernel
theorem dX11_logs_13 : decode cX11_logs 13 = .ok (.istore 5, 2) := by decide +kernel
theorem dX11_logs_15 : decode cX11_logs 15 = .ok (.iload 5, 2) := by decide +kernel
theorem dX11_logs_17 : decode cX11_logs 17 = .ok (.sipush 180, 3) := by decide +kernel
theorem dX11_logs_20 : decode cX11_logs 20 = .ok (.if_icmp .ge 31, 3) := by decide +kernel
theorem dX11_logs_23 : decode cX11_logs 23 = .ok (.aload_n 0, 1) := by decide +kernel
theorem dX11_logs_24 : decode cX11_logs 24 = .ok (.getfield 11, 3) := by decide +kernel
theorem dX11_logs_27 : decode cX11_logs 27 = .ok (.bipush 7, 2) := by decide +kernel
theorem dX11_logs_29 : decode cX11_logs 29 = .ok (.iload 5, 2) := by decide +kernel
theorem dX11_logs_31 : decode cX11_logs 31 = .ok (.iadd, 1) := by decide +kernel
theorem dX11_logs_32 : decode cX11_logs 32 = .ok (.iconst 3, 1) := by decide +kernel
theorem dX11_logs_33 : decode cX11_logs 33 = .ok (.isub, 1) := by decide +kernel
theorem dX11_logs_34 : decode cX11_logs 34 = .ok (.aload_n 0, 1) := by decide +kernel
theorem dX11_logs_35 : decode cX11_logs 35 = .ok (.getfield 11, 3) := by decide +kernel
theorem dX11_logs_38 : decode cX11_logs 38 = .ok (.bipush 7, 2) := by decide +kernel
theorem dX11_logs_40 : decode cX11_logs 40 = .ok (.iload 5, 2) := by decide +kernel
theorem dX11_logs_42 : decode cX11_logs 42 = .ok (.iadd, 1) := by decide +kernel
theorem dX11_logs_43 : decode cX11_logs 43 = .ok (.iaload, 1) := by decide +kernel
theorem dX11_logs_44 : decode cX11_logs 44 = .ok (.iastore, 1) := by decide +kernel
theorem dX11_logs_45 : decode cX11_logs 45 = .ok (.iinc 5 1, 3) := by decide +kernel
theorem dX11_logs_48 : decode cX11_logs 48 = .ok (.goto (-33), 3) := by decide +kernel
theorem dX11_logs_51 : decode cX11_logs 51 = .ok (.aload_n 0, 1) := by decide +kernel
theorem dX11_logs_52 : decode cX11_logs 52 = .ok (.getfield 11, 3) := by decide +kernel
theorem dX11_logs_55 : decode cX11_logs 55 = .ok (.bipush 6, 2) := by decide +kernel
theorem dX11_logs_57 : decode cX11_logs 57 = .ok (.dup2, 1) := by decide +kernel
theorem dX11_logs_58 : decode cX11_logs 58 = .ok (.iaload, 1) := by decide +kernel
theorem dX11_logs_59 : decode cX11_logs 59 = .ok (.iconst 1, 1) := by decide +kernel
theorem dX11_logs_60 : decode cX11_logs 60 = .ok (.isub, 1) := by decide +kernel
theorem dX11_logs_61 : decode cX11_logs 61 = .ok (.iastore, 1) := by decide +kernel
theorem dX11_logs_62 : decode cX11_logs 62 = .ok (.bipush 7, 2) := by decide +kernel
theorem dX11_logs_64 : decode cX11_logs 64 = .ok (.iconst 3, 1) := by decide +kernel
theorem dX11_logs_65 : decode cX11_logs 65 = .ok (.aload_n 0, 1) := by decide +kernel
theorem dX11_logs_66 : decode cX11_logs 66 = .ok (.getfield 11, 3) := by decide +kernel
theorem dX11_logs_69 : decode cX11_logs 69 = .ok (.bipush 6, 2) := by decide +kernel
theorem dX11_logs_71 : decode cX11_logs 71 = .ok (.iaload, 1) := by decide +kernel
theorem dX11_logs_72 : decode cX11_logs 72 = .ok (.imul, 1) := by decide +kernel
theorem dX11_logs_73 : decode cX11_logs 73 = .ok (.iadd, 1) := by decide +kernel
theorem dX11_logs_74 : decode cX11_logs 74 = .ok (.istore 5, 2) := by decide +kernel
theorem dX11_logs_76 : decode cX11_logs 76 = .ok (.aload_n 0, 1) := by decide +kernel
theorem dX11_logs_77 : decode cX11_logs 77 = .ok (.getfield 11, 3) := by decide +kernel
theorem dX11_logs_80 : decode cX11_logs 80 = .ok (.iload 5, 2) := by decide +kernel
theorem dX11_logs_82 : decode cX11_logs 82 = .ok (.iload_n 1, 1) := by decide +kernel
theorem dX11_logs_83 : decode cX11_logs 83 = .ok (.iload_n 2, 1) := by decide +kernel
theorem dX11_logs_84 : decode cX11_logs 84 = .ok (.invokestatic 92, 3) := by decide +kernel
theorem dX11_logs_87 : decode cX11_logs 87 = .ok (.iastore, 1) := by decide +kernel
theorem dX11_logs_88 : decode cX11_logs 88 = .ok (.aload_n 0, 1) := by decide +kernel
theorem dX11_logs_89 : decode cX11_logs 89 = .ok (.getfield 11, 3) := by decide +kernel
theorem dX11_logs_92 : decode cX11_logs 92 = .ok (.iload 5, 2) := by decide +kernel
theorem dX11_logs_94 : decode cX11_logs 94 = .ok (.iconst 1, 1) := by decide +kernel
theorem dX11_logs_95 : decode cX11_logs 95 = .ok (.iadd, 1) := by decide +kernel
theorem dX11_logs_96 : decode cX11_logs 96 = .ok (.iload 4, 2) := by decide +kernel
theorem dX11_logs_98 : decode cX11_logs 98 = .ok (.iastore, 1) := by decide +kernel
theorem dX11_logs_99 : decode cX11_logs 99 = .ok (.aload_n 0, 1) := by decide +kernel
theorem dX11_logs_100 : decode cX11_logs 100 = .ok (.getfield 11, 3) := by decide +kernel
theorem dX11_logs_103 : decode cX11_logs 103 = .ok (.iload 5, 2) := by decide +kernel
theorem dX11_logs_105 : decode cX11_logs 105 = .ok (.iconst 2, 1) := by decide +kernel
theorem dX11_logs_106 : decode cX11_logs 106 = .ok (.iadd, 1) := by decide +kernel
theorem dX11_logs_107 : decode cX11_logs 107 = .ok (.iload_n 3, 1) := by decide +kernel
theorem dX11_logs_108 : decode cX11_logs 108 = .ok (.ifCond .eq 7, 3) := by decide +kernel
theorem dX11_logs_111 : decode cX11_logs 111 = .ok (.iconst 1, 1) := by decide +kernel
theorem dX11_logs_112 : decode cX11_logs 112 = .ok (.goto 4, 3) := by decide +kernel
theorem dX11_logs_115 : decode cX11_logs 115 = .ok (.iconst 0, 1) := by decide +kernel
theorem dX11_logs_116 : decode cX11_logs 116 = .ok (.iastore, 1) := by decide +kernel
theorem dX11_logs_117 : decode cX11_logs 117 = .ok (.aload_n 0, 1) := by decide +kernel
theorem dX11_logs_118 : decode cX11_logs 118 = .ok (.getfield 11, 3) := by decide +kernel
theorem dX11_logs_121 : decode cX11_logs 121 = .ok (.bipush 6, 2) := by decide +kernel
theorem dX11_logs_123 : decode cX11_logs 123 = .ok (.dup2, 1) := by decide +kernel
theorem dX11_logs_124 : decode cX11_logs 124 = .ok (.iaload, 1) := by decide +kernel
theorem dX11_logs_125 : decode cX11_logs 125 = .ok (.iconst 1, 1) := by decide +kernel
theorem dX11_logs_126 : decode cX11_logs 126 = .ok (.iadd, 1) := by decide +kernel
theorem dX11_logs_127 : decode cX11_logs 127 = .ok (.iastore, 1) := by decide +kernel
theorem dX11_logs_128 : decode cX11_logs 128 = .ok (.return_, 1) := by decide +kernel
theorem dX11_comes_0 : decode cX11_comes 0 = .ok (.aload_n 0, 1) := by decide +kernel
theorem dX11_comes_1 : decode cX11_comes 1 = .ok (.iload_n 1, 1) := by decide +kernel
theorem dX11_comes_2 : decode cX11_comes 2 = .ok (.iload_n 2, 1) := by decide +kernel
theorem dX11_comes_3 : decode cX11_comes 3 = .ok (.iconst 1, 1) := by decide +kernel
theorem dX11_comes_4 : decode cX11_comes 4 = .ok (.iload_n 3, 1) := by decide +kernel
theorem dX11_comes_5 : decode cX11_comes 5 = .ok (.invokevirtual 103, 3) := by decide +kernel
theorem dX11_comes_8 : decode cX11_comes 8 = .ok (.aload_n 0, 1) := by decide +kernel
theorem dX11_comes_9 : decode cX11_comes 9 = .ok (.iload_n 1, 1) := by decide +kernel
theorem dX11_comes_10 : decode cX11_comes 10 = .ok (.iload_n 2, 1) := by decide +kernel
theorem dX11_comes_11 : decode cX11_comes 11 = .ok (.iconst 1, 1) := by decide +kernel
theorem dX11_comes_12 : decode cX11_comes 12 = .ok (.iload_n 3, 1) := by decide +kernel
theorem dX11_comes_13 : decode cX11_comes 13 = .ok (.invokevirtual 107, 3) := by decide +kernel
theorem dX11_comes_16 : decode cX11_comes 16 = .ok (.return_, 1) := by decide +kernel
theorem dX11_goes_0 : decode cX11_goes 0 = .ok (.aload_n 0, 1) := by decide +kernel
theorem dX11_goes_1 : decode cX11_goes 1 = .ok (.iload_n 1, 1) := by decide +kernel
theorem dX11_goes_2 : decode cX11_goes 2 = .ok (.iload_n 2, 1) := by decide +kernel
theorem dX11_goes_3 : decode cX11_goes 3 = .ok (.iconst 0, 1) := by decide +kernel
theorem dX11_goes_4 : decode cX11_goes 4 = .ok (.aload_n 0, 1) := by decide +kernel
theorem dX11_goes_5 : decode cX11_goes 5 = .ok (.getfield 15, 3) := by decide +kernel
theorem dX11_goes_8 : decode cX11_goes 8 = .ok (.iload_n 1, 1) := by decide +kernel
theorem dX11_goes_9 : decode cX11_goes 9 = .ok (.iload_n 2, 1) := by decide +kernel
theorem dX11_goes_10 : decode cX11_goes 10 = .ok (.invokestatic 92, 3) := by decide +kernel
theorem dX11_goes_13 : decode cX11_goes 13 = .ok (.iaload, 1) := by decide +kernel
theorem dX11_goes_14 : decode cX11_goes 14 = .ok (.invokevirtual 103, 3) := by decide +kernel
theorem dX11_goes_17 : decode cX11_goes 17 = .ok (.aload_n 0, 1) := by decide +kernel
theorem dX11_goes_18 : decode cX11_goes 18 = .ok (.iload_n 1, 1) := by decide +kernel
theorem dX11_goes_19 : decode cX11_goes 19 = .ok (.iload_n 2, 1) := by decide +kernel
theorem dX11_goes_20 : decode cX11_goes 20 = .ok (.iconst 0, 1) := by decide +kernel
theorem dX11_goes_21 : decode cX11_goes 21 = .ok (.iconst 0, 1) := by decide +kernel
theorem dX11_goes_22 : decode cX11_goes 22 = .ok (.invokevirtual 107, 3) := by decide +kernel
theorem dX11_goes_25 : decode cX11_goes 25 = .ok (.return_, 1) := by decide +kernel
theorem dX11_add_0 : decode cX11_add 0 = .ok (.iload_n 1, 1) := by decide +kernel
theorem dX11_add_1 : decode cX11_add 1 = .ok (.iload_n 2, 1) := by decide +kernel
theorem dX11_add_2 : decode cX11_add 2 = .ok (.invokestatic 110, 3) := by decide +kernel
theorem dX11_add_5 : decode cX11_add 5 = .ok (.ifCond .ne 5, 3) := by decide +kernel
theorem dX11_add_8 : decode cX11_add 8 = .ok (.iconst (-1), 1) := by decide +kernel
theorem dX11_add_9 : decode cX11_add 9 = .ok (.ireturn, 1) := by decide +kernel
theorem dX11_add_10 : decode cX11_add 10 = .ok (.iload_n 3, 1) := by decide +kernel
theorem dX11_add_11 : decode cX11_add 11 = .ok (.ldc 114, 2) := by decide +kernel
theorem dX11_add_13 : decode cX11_add 13 = .ok (.ldc 115, 2) := by decide +kernel
theorem dX11_add_15 : decode cX11_add 15 = .ok (.invokestatic 64, 3) := by decide +kernel
theorem dX11_add_18 : decode cX11_add 18 = .ok (.ifCond .ne 6, 3) := by decide +kernel
theorem dX11_add_21 : decode cX11_add 21 = .ok (.bipush (-2), 2) := by decide +kernel
theorem dX11_add_23 : decode cX11_add 23 = .ok (.ireturn, 1) := by decide +kernel
theorem dX11_add_24 : decode cX11_add 24 = .ok (.aload_n 0, 1) := by decide +kernel
theorem dX11_add_25 : decode cX11_add 25 = .ok (.iload_n 1, 1) := by decide +kernel
theorem dX11_add_26 : decode cX11_add 26 = .ok (.iload_n 2, 1) := by decide +kernel
theorem dX11_add_27 : decode cX11_add 27 = .ok (.invokevirtual 116, 3) := by decide +kernel
theorem dX11_add_30 : decode cX11_add 30 = .ok (.ifCond .eq 6, 3) := by decide +kernel
theorem dX11_add_33 : decode cX11_add 33 = .ok (.bipush (-3), 2) := by decide +kernel
theorem dX11_add_35 : decode cX11_add 35 = .ok (.ireturn, 1) := by decide +kernel
theorem dX11_add_36 : decode cX11_add 36 = .ok (.aload_n 0, 1) := by decide +kernel
theorem dX11_add_37 : decode cX11_add 37 = .ok (.iload_n 1, 1) := by decide +kernel
theorem dX11_add_38 : decode cX11_add 38 = .ok (.iload_n 2, 1) := by decide +kernel
theorem dX11_add_39 : decode cX11_add 39 = .ok (.iload_n 3, 1) := by decide +kernel
theorem dX11_add_40 : decode cX11_add 40 = .ok (.invokevirtual 119, 3) := by decide +kernel
theorem dX11_add_43 : decode cX11_add 43 = .ok (.aload_n 0, 1) := by decide +kernel
theorem dX11_add_44 : decode cX11_add 44 = .ok (.iload_n 1, 1) := by decide +kernel
theorem dX11_add_45 : decode cX11_add 45 = .ok (.iload_n 2, 1) := by decide +kernel
theorem dX11_add_46 : decode cX11_add 46 = .ok (.invokevirtual 123, 3) := by decide +kernel
theorem dX11_add_49 : decode cX11_add 49 = .ok (.ireturn, 1) := by decide +kernel
theorem dX11_cut_0 : decode cX11_cut 0 = .ok (.iload_n 1, 1) := by decide +kernel
theorem dX11_cut_1 : decode cX11_cut 1 = .ok (.iload_n 2, 1) := by decide +kernel
theorem dX11_cut_2 : decode cX11_cut 2 = .ok (.invokestatic 110, 3) := by decide +kernel
theorem dX11_cut_5 : decode cX11_cut 5 = .ok (.ifCond .ne 5, 3) := by decide +kernel
theorem dX11_cut_8 : decode cX11_cut 8 = .ok (.iconst (-1), 1) := by decide +kernel
theorem dX11_cut_9 : decode cX11_cut 9 = .ok (.ireturn, 1) := by decide +kernel
theorem dX11_cut_10 : decode cX11_cut 10 = .ok (.aload_n 0, 1) := by decide +kernel
theorem dX11_cut_11 : decode cX11_cut 11 = .ok (.iload_n 1, 1) := by decide +kernel
theorem dX11_cut_12 : decode cX11_cut 12 = .ok (.iload_n 2, 1) := by decide +kernel
theorem dX11_cut_13 : decode cX11_cut 13 = .ok (.invokevirtual 116, 3) := by decide +kernel
theorem dX11_cut_16 : decode cX11_cut 16 = .ok (.ifCond .ne 6, 3) := by decide +kernel
theorem dX11_cut_19 : decode cX11_cut 19 = .ok (.bipush (-3), 2) := by decide +kernel
theorem dX11_cut_21 : decode cX11_cut 21 = .ok (.ireturn, 1) := by decide +kernel
theorem dX11_cut_22 : decode cX11_cut 22 = .ok (.aload_n 0, 1) := by decide +kernel
theorem dX11_cut_23 : decode cX11_cut 23 = .ok (.iload_n 1, 1) := by decide +kernel
theorem dX11_cut_24 : decode cX11_cut 24 = .ok (.iload_n 2, 1) := by decide +kernel
theorem dX11_cut_25 : decode cX11_cut 25 = .ok (.invokevirtual 126, 3) := by decide +kernel
theorem dX11_cut_28 : decode cX11_cut 28 = .ok (.aload_n 0, 1) := by decide +kernel
theorem dX11_cut_29 : decode cX11_cut 29 = .ok (.iload_n 1, 1) := by decide +kernel
theorem dX11_cut_30 : decode cX11_cut 30 = .ok (.iload_n 2, 1) := by decide +kernel
theorem dX11_cut_31 : decode cX11_cut 31 = .ok (.invokevirtual 123, 3) := by decide +kernel
theorem dX11_cut_34 : decode cX11_cut 34 = .ok (.ireturn, 1) := by decide +kernel
theorem dX11_worth_0 : decode cX11_worth 0 = .ok (.iload_n 1, 1) := by decide +kernel
theorem dX11_worth_1 : decode cX11_worth 1 = .ok (.iload_n 2, 1) := by decide +kernel
theorem dX11_worth_2 : decode cX11_worth 2 = .ok (.invokestatic 110, 3) := by decide +kernel
theorem dX11_worth_5 : decode cX11_worth 5 = .ok (.ifCond .eq 26, 3) := by decide +kernel
theorem dX11_worth_8 : decode cX11_worth 8 = .ok (.aload_n 0, 1) := by decide +kernel
theorem dX11_worth_9 : decode cX11_worth 9 = .ok (.iload_n 1, 1) := by decide +kernel
theorem dX11_worth_10 : decode cX11_worth 10 = .ok (.iload_n 2, 1) := by decide +kernel
theorem dX11_worth_11 : decode cX11_worth 11 = .ok (.invokevirtual 116, 3) := by decide +kernel
theorem dX11_worth_14 : decode cX11_worth 14 = .ok (.ifCond .eq 17, 3) := by decide +kernel
theorem dX11_worth_17 : decode cX11_worth 17 = .ok (.aload_n 0, 1) := by decide +kernel
theorem dX11_worth_18 : decode cX11_worth 18 = .ok (.getfield 15, 3) := by decide +kernel
theorem dX11_worth_21 : decode cX11_worth 21 = .ok (.iload_n 1, 1) := by decide +kernel
theorem dX11_worth_22 : decode cX11_worth 22 = .ok (.iload_n 2, 1) := by decide +kernel
theorem dX11_worth_23 : decode cX11_worth 23 = .ok (.invokestatic 92, 3) := by decide +kernel
theorem dX11_worth_26 : decode cX11_worth 26 = .ok (.iaload, 1) := by decide +kernel
theorem dX11_worth_27 : decode cX11_worth 27 = .ok (.i2l, 1) := by decide +kernel
theorem dX11_worth_28 : decode cX11_worth 28 = .ok (.goto 6, 3) := by decide +kernel
theorem dX11_worth_31 : decode cX11_worth 31 = .ok (.ldc2_w 130, 3) := by decide +kernel
theorem dX11_worth_34 : decode cX11_worth 34 = .ok (.lreturn, 1) := by decide +kernel
theorem dX11_back_0 : decode cX11_back 0 = .ok (.iload_n 1, 1) := by decide +kernel
theorem dX11_back_1 : decode cX11_back 1 = .ok (.iconst 0, 1) := by decide +kernel
theorem dX11_back_2 : decode cX11_back 2 = .ok (.bipush 60, 2) := by decide +kernel
theorem dX11_back_4 : decode cX11_back 4 = .ok (.invokestatic 64, 3) := by decide +kernel
theorem dX11_back_7 : decode cX11_back 7 = .ok (.ifCond .ne 6, 3) := by decide +kernel
theorem dX11_back_10 : decode cX11_back 10 = .ok (.bipush (-2), 2) := by decide +kernel
theorem dX11_back_12 : decode cX11_back 12 = .ok (.ireturn, 1) := by decide +kernel
theorem dX11_back_13 : decode cX11_back 13 = .ok (.iconst 0, 1) := by decide +kernel
theorem dX11_back_14 : decode cX11_back 14 = .ok (.istore_n 2, 1) := by decide +kernel
theorem dX11_back_15 : decode cX11_back 15 = .ok (.iload_n 2, 1) := by decide +kernel
theorem dX11_back_16 : decode cX11_back 16 = .ok (.iload_n 1, 1) := by decide +kernel
theorem dX11_back_17 : decode cX11_back 17 = .ok (.if_icmp .ge 104, 3) := by decide +kernel
theorem dX11_back_20 : decode cX11_back 20 = .ok (.aload_n 0, 1) := by decide +kernel
theorem dX11_back_21 : decode cX11_back 21 = .ok (.getfield 11, 3) := by decide +kernel
theorem dX11_back_24 : decode cX11_back 24 = .ok (.bipush 6, 2) := by decide +kernel
theorem dX11_back_26 : decode cX11_back 26 = .ok (.iaload, 1) := by decide +kernel
theorem dX11_back_27 : decode cX11_back 27 = .ok (.ifCond .le 94, 3) := by decide +kernel
theorem dX11_back_30 : decode cX11_back 30 = .ok (.aload_n 0, 1) := by decide +kernel
theorem dX11_back_31 : decode cX11_back 31 = .ok (.getfield 11, 3) := by decide +kernel
theorem dX11_back_34 : decode cX11_back 34 = .ok (.bipush 6, 2) := by decide +kernel
theorem dX11_back_36 : decode cX11_back 36 = .ok (.dup2, 1) := by decide +kernel
theorem dX11_back_37 : decode cX11_back 37 = .ok (.iaload, 1) := by decide +kernel
theorem dX11_back_38 : decode cX11_back 38 = .ok (.iconst 1, 1) := by decide +kernel
theorem dX11_back_39 : decode cX11_back 39 = .ok (.isub, 1) := by decide +kernel
theorem dX11_back_40 : decode cX11_back 40 = .ok (.iastore, 1) := by decide +kernel
theorem dX11_back_41 : decode cX11_back 41 = .ok (.bipush 7, 2) := by decide +kernel
theorem dX11_back_43 : decode cX11_back 43 = .ok (.iconst 3, 1) := by decide +kernel
theorem dX11_back_44 : decode cX11_back 44 = .ok (.aload_n 0, 1) := by decide +kernel
theorem dX11_back_45 : decode cX11_back 45 = .ok (.getfield 11, 3) := by decide +kernel
theorem dX11_back_48 : decode cX11_back 48 = .ok (.bipush 6, 2) := by decide +kernel
theorem dX11_back_50 : decode cX11_back 50 = .ok (.iaload, 1) := by decide +kernel
theorem dX11_back_51 : decode cX11_back 51 = .ok (.imul, 1) := by decide +kernel
theorem dX11_back_52 : decode cX11_back 52 = .ok (.iadd, 1) := by decide +kernel
theorem dX11_back_53 : decode cX11_back 53 = .ok (.istore_n 3, 1) := by decide +kernel
theorem dX11_back_54 : decode cX11_back 54 = .ok (.aload_n 0, 1) := by decide +kernel
theorem dX11_back_55 : decode cX11_back 55 = .ok (.aload_n 0, 1) := by decide +kernel
theorem dX11_back_56 : decode cX11_back 56 = .ok (.getfield 11, 3) := by decide +kernel
theorem dX11_back_59 : decode cX11_back 59 = .ok (.iload_n 3, 1) := by decide +kernel
theorem dX11_back_60 : decode cX11_back 60 = .ok (.iaload, 1) := by decide +kernel
theorem dX11_back_61 : decode cX11_back 61 = .ok (.bipush 40, 2) := by decide +kernel
theorem dX11_back_63 : decode cX11_back 63 = .ok (.idiv, 1) := by decide +kernel
theorem dX11_back_64 : decode cX11_back 64 = .ok (.aload_n 0, 1) := by decide +kernel
theorem dX11_back_65 : decode cX11_back 65 = .ok (.getfield 11, 3) := by decide +kernel
theorem dX11_back_68 : decode cX11_back 68 = .ok (.iload_n 3, 1) := by decide +kernel
theorem dX11_back_69 : decode cX11_back 69 = .ok (.iaload, 1) := by decide +kernel
theorem dX11_back_70 : decode cX11_back 70 = .ok (.bipush 40, 2) := by decide +kernel
theorem dX11_back_72 : decode cX11_back 72 = .ok (.irem, 1) := by decide +kernel
theorem dX11_back_73 : decode cX11_back 73 = .ok (.aload_n 0, 1) := by decide +kernel
theorem dX11_back_74 : decode cX11_back 74 = .ok (.getfield 11, 3) := by decide +kernel
theorem dX11_back_77 : decode cX11_back 77 = .ok (.iload_n 3, 1) := by decide +kernel
theorem dX11_back_78 : decode cX11_back 78 = .ok (.iconst 2, 1) := by decide +kernel
theorem dX11_back_79 : decode cX11_back 79 = .ok (.iadd, 1) := by decide +kernel
theorem dX11_back_80 : decode cX11_back 80 = .ok (.iaload, 1) := by decide +kernel
theorem dX11_back_81 : decode cX11_back 81 = .ok (.ifCond .ne 7, 3) := by decide +kernel
theorem dX11_back_84 : decode cX11_back 84 = .ok (.iconst 1, 1) := by decide +kernel
theorem dX11_back_85 : decode cX11_back 85 = .ok (.goto 4, 3) := by decide +kernel
theorem dX11_back_88 : decode cX11_back 88 = .ok (.iconst 0, 1) := by decide +kernel
theorem dX11_back_89 : decode cX11_back 89 = .ok (.aload_n 0, 1) := by decide +kernel
theorem dX11_back_90 : decode cX11_back 90 = .ok (.getfield 11, 3) := by decide +kernel
theorem dX11_back_93 : decode cX11_back 93 = .ok (.iload_n 3, 1) := by decide +kernel
theorem dX11_back_94 : decode cX11_back 94 = .ok (.iconst 2, 1) := by decide +kernel
theorem dX11_back_95 : decode cX11_back 95 = .ok (.iadd, 1) := by decide +kernel
theorem dX11_back_96 : decode cX11_back 96 = .ok (.iaload, 1) := by decide +kernel
theorem dX11_back_97 : decode cX11_back 97 = .ok (.ifCond .ne 14, 3) := by decide +kernel
theorem dX11_back_100 : decode cX11_back 100 = .ok (.aload_n 0, 1) := by decide +kernel
theorem dX11_back_101 : decode cX11_back 101 = .ok (.getfield 11, 3) := by decide +kernel
theorem dX11_back_104 : decode cX11_back 104 = .ok (.iload_n 3, 1) := by decide +kernel
theorem dX11_back_105 : decode cX11_back 105 = .ok (.iconst 1, 1) := by decide +kernel
theorem dX11_back_106 : decode cX11_back 106 = .ok (.iadd, 1) := by decide +kernel
theorem dX11_back_107 : decode cX11_back 107 = .ok (.iaload, 1) := by decide +kernel
theorem dX11_back_108 : decode cX11_back 108 = .ok (.goto 4, 3) := by decide +kernel
theorem dX11_back_111 : decode cX11_back 111 = .ok (.iconst 0, 1) := by decide +kernel
theorem dX11_back_112 : decode cX11_back 112 = .ok (.invokevirtual 107, 3) := by decide +kernel
theorem dX11_back_115 : decode cX11_back 115 = .ok (.iinc 2 1, 3) := by decide +kernel
theorem dX11_back_118 : decode cX11_back 118 = .ok (.goto (-103), 3) := by decide +kernel
theorem dX11_back_121 : decode cX11_back 121 = .ok (.iload_n 2, 1) := by decide +kernel
theorem dX11_back_122 : decode cX11_back 122 = .ok (.ireturn, 1) := by decide +kernel
theorem dX11_trianglesOf_0 : decode cX11_trianglesOf 0 = .ok (.iconst 0, 1) := by decide +kernel
theorem dX11_trianglesOf_1 : decode cX11_trianglesOf 1 = .ok (.istore_n 2, 1) := by decide +kernel
theorem dX11_trianglesOf_2 : decode cX11_trianglesOf 2 = .ok (.iconst 0, 1) := by decide +kernel
theorem dX11_trianglesOf_3 : decode cX11_trianglesOf 3 = .ok (.istore_n 3, 1) := by decide +kernel
theorem dX11_trianglesOf_4 : decode cX11_trianglesOf 4 = .ok (.iload_n 3, 1) := by decide +kernel
theorem dX11_trianglesOf_5 : decode cX11_trianglesOf 5 = .ok (.bipush 40, 2) := by decide +kernel
theorem dX11_trianglesOf_7 : decode cX11_trianglesOf 7 = .ok (.if_icmp .ge 31, 3) := by decide +kernel
theorem dX11_trianglesOf_10 : decode cX11_trianglesOf 10 = .ok (.iload_n 2, 1) := by decide +kernel
theorem dX11_trianglesOf_11 : decode cX11_trianglesOf 11 = .ok (.aload_n 0, 1) := by decide +kernel
theorem dX11_trianglesOf_12 : decode cX11_trianglesOf 12 = .ok (.iload_n 1, 1) := by decide +kernel
theorem dX11_trianglesOf_13 : decode cX11_trianglesOf 13 = .ok (.iload_n 3, 1) := by decide +kernel
theorem dX11_trianglesOf_14 : decode cX11_trianglesOf 14 = .ok (.invokevirtual 116, 3) := by decide +kernel
theorem dX11_trianglesOf_17 : decode cX11_trianglesOf 17 = .ok (.ifCond .eq 12, 3) := by decide +kernel
theorem dX11_trianglesOf_20 : decode cX11_trianglesOf 20 = .ok (.aload_n 0, 1) := by decide +kernel
theorem dX11_trianglesOf_21 : decode cX11_trianglesOf 21 = .ok (.iload_n 1, 1) := by decide +kernel
theorem dX11_trianglesOf_22 : decode cX11_trianglesOf 22 = .ok (.iload_n 3, 1) := by decide +kernel
theorem dX11_trianglesOf_23 : decode cX11_trianglesOf 23 = .ok (.invokevirtual 123, 3) := by decide +kernel
theorem dX11_trianglesOf_26 : decode cX11_trianglesOf 26 = .ok (.goto 4, 3) := by decide +kernel
theorem dX11_trianglesOf_29 : decode cX11_trianglesOf 29 = .ok (.iconst 0, 1) := by decide +kernel
theorem dX11_trianglesOf_30 : decode cX11_trianglesOf 30 = .ok (.iadd, 1) := by decide +kernel
theorem dX11_trianglesOf_31 : decode cX11_trianglesOf 31 = .ok (.istore_n 2, 1) := by decide +kernel
theorem dX11_trianglesOf_32 : decode cX11_trianglesOf 32 = .ok (.iinc 3 1, 3) := by decide +kernel
theorem dX11_trianglesOf_35 : decode cX11_trianglesOf 35 = .ok (.goto (-31), 3) := by decide +kernel
theorem dX11_trianglesOf_38 : decode cX11_trianglesOf 38 = .ok (.iload_n 2, 1) := by decide +kernel
theorem dX11_trianglesOf_39 : decode cX11_trianglesOf 39 = .ok (.iconst 2, 1) := by decide +kernel
theorem dX11_trianglesOf_40 : decode cX11_trianglesOf 40 = .ok (.idiv, 1) := by decide +kernel
theorem dX11_trianglesOf_41 : decode cX11_trianglesOf 41 = .ok (.ireturn, 1) := by decide +kernel
theorem dX11_triangles_0 : decode cX11_triangles 0 = .ok (.iconst 0, 1) := by decide +kernel
theorem dX11_triangles_1 : decode cX11_triangles 1 = .ok (.istore_n 1, 1) := by decide +kernel
theorem dX11_triangles_2 : decode cX11_triangles 2 = .ok (.iconst 0, 1) := by decide +kernel
theorem dX11_triangles_3 : decode cX11_triangles 3 = .ok (.istore_n 2, 1) := by decide +kernel
theorem dX11_triangles_4 : decode cX11_triangles 4 = .ok (.iload_n 2, 1) := by decide +kernel
theorem dX11_triangles_5 : decode cX11_triangles 5 = .ok (.bipush 40, 2) := by decide +kernel
theorem dX11_triangles_7 : decode cX11_triangles 7 = .ok (.if_icmp .ge 17, 3) := by decide +kernel
theorem dX11_triangles_10 : decode cX11_triangles 10 = .ok (.iload_n 1, 1) := by decide +kernel
theorem dX11_triangles_11 : decode cX11_triangles 11 = .ok (.aload_n 0, 1) := by decide +kernel
theorem dX11_triangles_12 : decode cX11_triangles 12 = .ok (.iload_n 2, 1) := by decide +kernel
theorem dX11_triangles_13 : decode cX11_triangles 13 = .ok (.invokevirtual 132, 3) := by decide +kernel
theorem dX11_triangles_16 : decode cX11_triangles 16 = .ok (.iadd, 1) := by decide +kernel
theorem dX11_triangles_17 : decode cX11_triangles 17 = .ok (.istore_n 1, 1) := by decide +kernel
theorem dX11_triangles_18 : decode cX11_triangles 18 = .ok (.iinc 2 1, 3) := by decide +kernel
theorem dX11_triangles_21 : decode cX11_triangles 21 = .ok (.goto (-17), 3) := by decide +kernel
theorem dX11_triangles_24 : decode cX11_triangles 24 = .ok (.iload_n 1, 1) := by decide +kernel
theorem dX11_triangles_25 : decode cX11_triangles 25 = .ok (.iconst 3, 1) := by decide +kernel
theorem dX11_triangles_26 : decode cX11_triangles 26 = .ok (.idiv, 1) := by decide +kernel
theorem dX11_triangles_27 : decode cX11_triangles 27 = .ok (.ireturn, 1) := by decide +kernel
theorem dX11_ringsOf_0 : decode cX11_ringsOf 0 = .ok (.iconst 0, 1) := by decide +kernel
theorem dX11_ringsOf_1 : decode cX11_ringsOf 1 = .ok (.istore_n 2, 1) := by decide +kernel
theorem dX11_ringsOf_2 : decode cX11_ringsOf 2 = .ok (.iconst 0, 1) := by decide +kernel
theorem dX11_ringsOf_3 : decode cX11_ringsOf 3 = .ok (.istore_n 3, 1) := by decide +kernel
theorem dX11_ringsOf_4 : decode cX11_ringsOf 4 = .ok (.iload_n 3, 1) := by decide +kernel
theorem dX11_ringsOf_5 : decode cX11_ringsOf 5 = .ok (.bipush 40, 2) := by decide +kernel
theorem dX11_ringsOf_7 : decode cX11_ringsOf 7 = .ok (.if_icmp .ge 30, 3) := by decide +kernel
theorem dX11_ringsOf_10 : decode cX11_ringsOf 10 = .ok (.iload_n 2, 1) := by decide +kernel
theorem dX11_ringsOf_11 : decode cX11_ringsOf 11 = .ok (.iload_n 3, 1) := by decide +kernel
theorem dX11_ringsOf_12 : decode cX11_ringsOf 12 = .ok (.iload_n 1, 1) := by decide +kernel
theorem dX11_ringsOf_13 : decode cX11_ringsOf 13 = .ok (.if_icmp .ne 7, 3) := by decide +kernel
theorem dX11_ringsOf_16 : decode cX11_ringsOf 16 = .ok (.iconst 0, 1) := by decide +kernel
theorem dX11_ringsOf_17 : decode cX11_ringsOf 17 = .ok (.goto 12, 3) := by decide +kernel
theorem dX11_ringsOf_20 : decode cX11_ringsOf 20 = .ok (.aload_n 0, 1) := by decide +kernel
theorem dX11_ringsOf_21 : decode cX11_ringsOf 21 = .ok (.iload_n 1, 1) := by decide +kernel
theorem dX11_ringsOf_22 : decode cX11_ringsOf 22 = .ok (.iload_n 3, 1) := by decide +kernel
theorem dX11_ringsOf_23 : decode cX11_ringsOf 23 = .ok (.invokevirtual 123, 3) := by decide +kernel
theorem dX11_ringsOf_26 : decode cX11_ringsOf 26 = .ok (.invokestatic 135, 3) := by decide +kernel
theorem dX11_ringsOf_29 : decode cX11_ringsOf 29 = .ok (.iadd, 1) := by decide +kernel
theorem dX11_ringsOf_30 : decode cX11_ringsOf 30 = .ok (.istore_n 2, 1) := by decide +kernel
theorem dX11_ringsOf_31 : decode cX11_ringsOf 31 = .ok (.iinc 3 1, 3) := by decide +kernel
theorem dX11_ringsOf_34 : decode cX11_ringsOf 34 = .ok (.goto (-30), 3) := by decide +kernel
theorem dX11_ringsOf_37 : decode cX11_ringsOf 37 = .ok (.iload_n 2, 1) := by decide +kernel
theorem dX11_ringsOf_38 : decode cX11_ringsOf 38 = .ok (.ireturn, 1) := by decide +kernel
theorem dX11_rings_0 : decode cX11_rings 0 = .ok (.iconst 0, 1) := by decide +kernel
theorem dX11_rings_1 : decode cX11_rings 1 = .ok (.istore_n 1, 1) := by decide +kernel
theorem dX11_rings_2 : decode cX11_rings 2 = .ok (.iconst 0, 1) := by decide +kernel
theorem dX11_rings_3 : decode cX11_rings 3 = .ok (.istore_n 2, 1) := by decide +kernel
theorem dX11_rings_4 : decode cX11_rings 4 = .ok (.iload_n 2, 1) := by decide +kernel
theorem dX11_rings_5 : decode cX11_rings 5 = .ok (.bipush 40, 2) := by decide +kernel
theorem dX11_rings_7 : decode cX11_rings 7 = .ok (.if_icmp .ge 17, 3) := by decide +kernel
theorem dX11_rings_10 : decode cX11_rings 10 = .ok (.iload_n 1, 1) := by decide +kernel
theorem dX11_rings_11 : decode cX11_rings 11 = .ok (.aload_n 0, 1) := by decide +kernel
theorem dX11_rings_12 : decode cX11_rings 12 = .ok (.iload_n 2, 1) := by decide +kernel
theorem dX11_rings_13 : decode cX11_rings 13 = .ok (.invokevirtual 138, 3) := by decide +kernel
theorem dX11_rings_16 : decode cX11_rings 16 = .ok (.iadd, 1) := by decide +kernel
theorem dX11_rings_17 : decode cX11_rings 17 = .ok (.istore_n 1, 1) := by decide +kernel
theorem dX11_rings_18 : decode cX11_rings 18 = .ok (.iinc 2 1, 3) := by decide +kernel
theorem dX11_rings_21 : decode cX11_rings 21 = .ok (.goto (-17), 3) := by decide +kernel
theorem dX11_rings_24 : decode cX11_rings 24 = .ok (.iload_n 1, 1) := by decide +kernel
theorem dX11_rings_25 : decode cX11_rings 25 = .ok (.iconst 4, 1) := by decide +kernel
theorem dX11_rings_26 : decode cX11_rings 26 = .ok (.idiv, 1) := by decide +kernel
theorem dX11_rings_27 : decode cX11_rings 27 = .ok (.ireturn, 1) := by decide +kernel
theorem dX11_joinedIn_0 : decode cX11_joinedIn 0 = .ok (.iconst 0, 1) := by decide +kernel
theorem dX11_joinedIn_1 : decode cX11_joinedIn 1 = .ok (.istore_n 3, 1) := by decide +kernel
theorem dX11_joinedIn_2 : decode cX11_joinedIn 2 = .ok (.iconst 0, 1) := by decide +kernel
theorem dX11_joinedIn_3 : decode cX11_joinedIn 3 = .ok (.istore 4, 2) := by decide +kernel
theorem dX11_joinedIn_5 : decode cX11_joinedIn 5 = .ok (.iload 4, 2) := by decide +kernel
theorem dX11_joinedIn_7 : decode cX11_joinedIn 7 = .ok (.bipush 40, 2) := by decide +kernel
theorem dX11_joinedIn_9 : decode cX11_joinedIn 9 = .ok (.if_icmp .ge 37, 3) := by decide +kernel
theorem dX11_joinedIn_12 : decode cX11_joinedIn 12 = .ok (.iload_n 3, 1) := by decide +kernel
theorem dX11_joinedIn_13 : decode cX11_joinedIn 13 = .ok (.lload_n 1, 1) := by decide +kernel
theorem dX11_joinedIn_14 : decode cX11_joinedIn 14 = .ok (.iload 4, 2) := by decide +kernel
theorem dX11_joinedIn_16 : decode cX11_joinedIn 16 = .ok (.invokestatic 72, 3) := by decide +kernel
theorem dX11_joinedIn_19 : decode cX11_joinedIn 19 = .ok (.ifCond .eq 18, 3) := by decide +kernel
theorem dX11_joinedIn_22 : decode cX11_joinedIn 22 = .ok (.aload_n 0, 1) := by decide +kernel
theorem dX11_joinedIn_23 : decode cX11_joinedIn 23 = .ok (.getfield 24, 3) := by decide +kernel
theorem dX11_joinedIn_26 : decode cX11_joinedIn 26 = .ok (.iload 4, 2) := by decide +kernel
theorem dX11_joinedIn_28 : decode cX11_joinedIn 28 = .ok (.laload, 1) := by decide +kernel
theorem dX11_joinedIn_29 : decode cX11_joinedIn 29 = .ok (.lload_n 1, 1) := by decide +kernel
theorem dX11_joinedIn_30 : decode cX11_joinedIn 30 = .ok (.land, 1) := by decide +kernel
theorem dX11_joinedIn_31 : decode cX11_joinedIn 31 = .ok (.invokestatic 76, 3) := by decide +kernel
theorem dX11_joinedIn_34 : decode cX11_joinedIn 34 = .ok (.goto 4, 3) := by decide +kernel
theorem dX11_joinedIn_37 : decode cX11_joinedIn 37 = .ok (.iconst 0, 1) := by decide +kernel
theorem dX11_joinedIn_38 : decode cX11_joinedIn 38 = .ok (.iadd, 1) := by decide +kernel
theorem dX11_joinedIn_39 : decode cX11_joinedIn 39 = .ok (.istore_n 3, 1) := by decide +kernel
theorem dX11_joinedIn_40 : decode cX11_joinedIn 40 = .ok (.iinc 4 1, 3) := by decide +kernel
theorem dX11_joinedIn_43 : decode cX11_joinedIn 43 = .ok (.goto (-38), 3) := by decide +kernel
theorem dX11_joinedIn_46 : decode cX11_joinedIn 46 = .ok (.iload_n 3, 1) := by decide +kernel
theorem dX11_joinedIn_47 : decode cX11_joinedIn 47 = .ok (.iconst 2, 1) := by decide +kernel
theorem dX11_joinedIn_48 : decode cX11_joinedIn 48 = .ok (.idiv, 1) := by decide +kernel
theorem dX11_joinedIn_49 : decode cX11_joinedIn 49 = .ok (.ireturn, 1) := by decide +kernel
theorem dX11_foursAt_0 : decode cX11_foursAt 0 = .ok (.aload_n 0, 1) := by decide +kernel
theorem dX11_foursAt_1 : decode cX11_foursAt 1 = .ok (.aload_n 0, 1) := by decide +kernel
theorem dX11_foursAt_2 : decode cX11_foursAt 2 = .ok (.getfield 24, 3) := by decide +kernel
theorem dX11_foursAt_5 : decode cX11_foursAt 5 = .ok (.iload_n 1, 1) := by decide +kernel
theorem dX11_foursAt_6 : decode cX11_foursAt 6 = .ok (.laload, 1) := by decide +kernel
theorem dX11_foursAt_7 : decode cX11_foursAt 7 = .ok (.aload_n 0, 1) := by decide +kernel
theorem dX11_foursAt_8 : decode cX11_foursAt 8 = .ok (.getfield 24, 3) := by decide +kernel
theorem dX11_foursAt_11 : decode cX11_foursAt 11 = .ok (.iload_n 2, 1) := by decide +kernel
theorem dX11_foursAt_12 : decode cX11_foursAt 12 = .ok (.laload, 1) := by decide +kernel
theorem dX11_foursAt_13 : decode cX11_foursAt 13 = .ok (.land, 1) := by decide +kernel
theorem dX11_foursAt_14 : decode cX11_foursAt 14 = .ok (.invokevirtual 141, 3) := by decide +kernel
theorem dX11_foursAt_17 : decode cX11_foursAt 17 = .ok (.ireturn, 1) := by decide +kernel
theorem dX11_foursOf_0 : decode cX11_foursOf 0 = .ok (.iconst 0, 1) := by decide +kernel
theorem dX11_foursOf_1 : decode cX11_foursOf 1 = .ok (.istore_n 2, 1) := by decide +kernel
theorem dX11_foursOf_2 : decode cX11_foursOf 2 = .ok (.iconst 0, 1) := by decide +kernel
theorem dX11_foursOf_3 : decode cX11_foursOf 3 = .ok (.istore_n 3, 1) := by decide +kernel
theorem dX11_foursOf_4 : decode cX11_foursOf 4 = .ok (.iload_n 3, 1) := by decide +kernel
theorem dX11_foursOf_5 : decode cX11_foursOf 5 = .ok (.bipush 40, 2) := by decide +kernel
theorem dX11_foursOf_7 : decode cX11_foursOf 7 = .ok (.if_icmp .ge 31, 3) := by decide +kernel
theorem dX11_foursOf_10 : decode cX11_foursOf 10 = .ok (.iload_n 2, 1) := by decide +kernel
theorem dX11_foursOf_11 : decode cX11_foursOf 11 = .ok (.aload_n 0, 1) := by decide +kernel
theorem dX11_foursOf_12 : decode cX11_foursOf 12 = .ok (.iload_n 1, 1) := by decide +kernel
theorem dX11_foursOf_13 : decode cX11_foursOf 13 = .ok (.iload_n 3, 1) := by decide +kernel
theorem dX11_foursOf_14 : decode cX11_foursOf 14 = .ok (.invokevirtual 116, 3) := by decide +kernel
theorem dX11_foursOf_17 : decode cX11_foursOf 17 = .ok (.ifCond .eq 12, 3) := by decide +kernel
theorem dX11_foursOf_20 : decode cX11_foursOf 20 = .ok (.aload_n 0, 1) := by decide +kernel
theorem dX11_foursOf_21 : decode cX11_foursOf 21 = .ok (.iload_n 1, 1) := by decide +kernel
theorem dX11_foursOf_22 : decode cX11_foursOf 22 = .ok (.iload_n 3, 1) := by decide +kernel
theorem dX11_foursOf_23 : decode cX11_foursOf 23 = .ok (.invokevirtual 144, 3) := by decide +kernel
theorem dX11_foursOf_26 : decode cX11_foursOf 26 = .ok (.goto 4, 3) := by decide +kernel
theorem dX11_foursOf_29 : decode cX11_foursOf 29 = .ok (.iconst 0, 1) := by decide +kernel
theorem dX11_foursOf_30 : decode cX11_foursOf 30 = .ok (.iadd, 1) := by decide +kernel
theorem dX11_foursOf_31 : decode cX11_foursOf 31 = .ok (.istore_n 2, 1) := by decide +kernel
theorem dX11_foursOf_32 : decode cX11_foursOf 32 = .ok (.iinc 3 1, 3) := by decide +kernel
theorem dX11_foursOf_35 : decode cX11_foursOf 35 = .ok (.goto (-31), 3) := by decide +kernel
theorem dX11_foursOf_38 : decode cX11_foursOf 38 = .ok (.iload_n 2, 1) := by decide +kernel
theorem dX11_foursOf_39 : decode cX11_foursOf 39 = .ok (.iconst 3, 1) := by decide +kernel
theorem dX11_foursOf_40 : decode cX11_foursOf 40 = .ok (.idiv, 1) := by decide +kernel
theorem dX11_foursOf_41 : decode cX11_foursOf 41 = .ok (.ireturn, 1) := by decide +kernel
theorem dX11_fours_0 : decode cX11_fours 0 = .ok (.iconst 0, 1) := by decide +kernel
theorem dX11_fours_1 : decode cX11_fours 1 = .ok (.istore_n 1, 1) := by decide +kernel
theorem dX11_fours_2 : decode cX11_fours 2 = .ok (.iconst 0, 1) := by decide +kernel
theorem dX11_fours_3 : decode cX11_fours 3 = .ok (.istore_n 2, 1) := by decide +kernel
theorem dX11_fours_4 : decode cX11_fours 4 = .ok (.iload_n 2, 1) := by decide +kernel
theorem dX11_fours_5 : decode cX11_fours 5 = .ok (.bipush 40, 2) := by decide +kernel
theorem dX11_fours_7 : decode cX11_fours 7 = .ok (.if_icmp .ge 17, 3) := by decide +kernel
theorem dX11_fours_10 : decode cX11_fours 10 = .ok (.iload_n 1, 1) := by decide +kernel
theorem dX11_fours_11 : decode cX11_fours 11 = .ok (.aload_n 0, 1) := by decide +kernel
theorem dX11_fours_12 : decode cX11_fours 12 = .ok (.iload_n 2, 1) := by decide +kernel
theorem dX11_fours_13 : decode cX11_fours 13 = .ok (.invokevirtual 147, 3) := by decide +kernel
theorem dX11_fours_16 : decode cX11_fours 16 = .ok (.iadd, 1) := by decide +kernel
theorem dX11_fours_17 : decode cX11_fours 17 = .ok (.istore_n 1, 1) := by decide +kernel
theorem dX11_fours_18 : decode cX11_fours 18 = .ok (.iinc 2 1, 3) := by decide +kernel
theorem dX11_fours_21 : decode cX11_fours 21 = .ok (.goto (-17), 3) := by decide +kernel
theorem dX11_fours_24 : decode cX11_fours 24 = .ok (.iload_n 1, 1) := by decide +kernel
theorem dX11_fours_25 : decode cX11_fours 25 = .ok (.iconst 4, 1) := by decide +kernel
theorem dX11_fours_26 : decode cX11_fours 26 = .ok (.idiv, 1) := by decide +kernel
theorem dX11_fours_27 : decode cX11_fours 27 = .ok (.ireturn, 1) := by decide +kernel
theorem dX11_ways_0 : decode cX11_ways 0 = .ok (.iconst 0, 1) := by decide +kernel
theorem dX11_ways_1 : decode cX11_ways 1 = .ok (.istore_n 3, 1) := by decide +kernel
theorem dX11_ways_2 : decode cX11_ways 2 = .ok (.iconst 0, 1) := by decide +kernel
theorem dX11_ways_3 : decode cX11_ways 3 = .ok (.istore 4, 2) := by decide +kernel
theorem dX11_ways_5 : decode cX11_ways 5 = .ok (.iload 4, 2) := by decide +kernel
theorem dX11_ways_7 : decode cX11_ways 7 = .ok (.bipush 40, 2) := by decide +kernel
theorem dX11_ways_9 : decode cX11_ways 9 = .ok (.if_icmp .ge 57, 3) := by decide +kernel
theorem dX11_ways_12 : decode cX11_ways 12 = .ok (.aload_n 0, 1) := by decide +kernel
theorem dX11_ways_13 : decode cX11_ways 13 = .ok (.getfield 24, 3) := by decide +kernel
theorem dX11_ways_16 : decode cX11_ways 16 = .ok (.iload_n 1, 1) := by decide +kernel
theorem dX11_ways_17 : decode cX11_ways 17 = .ok (.laload, 1) := by decide +kernel
theorem dX11_ways_18 : decode cX11_ways 18 = .ok (.iload 4, 2) := by decide +kernel
theorem dX11_ways_20 : decode cX11_ways 20 = .ok (.invokestatic 72, 3) := by decide +kernel
theorem dX11_ways_23 : decode cX11_ways 23 = .ok (.ifCond .eq 37, 3) := by decide +kernel
theorem dX11_ways_26 : decode cX11_ways 26 = .ok (.iload 4, 2) := by decide +kernel
theorem dX11_ways_28 : decode cX11_ways 28 = .ok (.iload_n 2, 1) := by decide +kernel
theorem dX11_ways_29 : decode cX11_ways 29 = .ok (.if_icmp .eq 31, 3) := by decide +kernel
theorem dX11_ways_32 : decode cX11_ways 32 = .ok (.iload_n 3, 1) := by decide +kernel
theorem dX11_ways_33 : decode cX11_ways 33 = .ok (.aload_n 0, 1) := by decide +kernel
theorem dX11_ways_34 : decode cX11_ways 34 = .ok (.getfield 24, 3) := by decide +kernel
theorem dX11_ways_37 : decode cX11_ways 37 = .ok (.iload 4, 2) := by decide +kernel
theorem dX11_ways_39 : decode cX11_ways 39 = .ok (.laload, 1) := by decide +kernel
theorem dX11_ways_40 : decode cX11_ways 40 = .ok (.aload_n 0, 1) := by decide +kernel
theorem dX11_ways_41 : decode cX11_ways 41 = .ok (.getfield 24, 3) := by decide +kernel
theorem dX11_ways_44 : decode cX11_ways 44 = .ok (.iload_n 2, 1) := by decide +kernel
theorem dX11_ways_45 : decode cX11_ways 45 = .ok (.laload, 1) := by decide +kernel
theorem dX11_ways_46 : decode cX11_ways 46 = .ok (.land, 1) := by decide +kernel
theorem dX11_ways_47 : decode cX11_ways 47 = .ok (.lconst 1, 1) := by decide +kernel
theorem dX11_ways_48 : decode cX11_ways 48 = .ok (.iload_n 1, 1) := by decide +kernel
theorem dX11_ways_49 : decode cX11_ways 49 = .ok (.lshl, 1) := by decide +kernel
theorem dX11_ways_50 : decode cX11_ways 50 = .ok (.ldc2_w 150, 3) := by decide +kernel
theorem dX11_ways_53 : decode cX11_ways 53 = .ok (.lxor, 1) := by decide +kernel
theorem dX11_ways_54 : decode cX11_ways 54 = .ok (.land, 1) := by decide +kernel
theorem dX11_ways_55 : decode cX11_ways 55 = .ok (.invokestatic 76, 3) := by decide +kernel
theorem dX11_ways_58 : decode cX11_ways 58 = .ok (.iadd, 1) := by decide +kernel
theorem dX11_ways_59 : decode cX11_ways 59 = .ok (.istore_n 3, 1) := by decide +kernel
theorem dX11_ways_60 : decode cX11_ways 60 = .ok (.iinc 4 1, 3) := by decide +kernel
theorem dX11_ways_63 : decode cX11_ways 63 = .ok (.goto (-58), 3) := by decide +kernel
theorem dX11_ways_66 : decode cX11_ways 66 = .ok (.iload_n 3, 1) := by decide +kernel
theorem dX11_ways_67 : decode cX11_ways 67 = .ok (.ireturn, 1) := by decide +kernel
theorem dX11_far_0 : decode cX11_far 0 = .ok (.lconst 1, 1) := by decide +kernel
theorem dX11_far_1 : decode cX11_far 1 = .ok (.iload_n 1, 1) := by decide +kernel
theorem dX11_far_2 : decode cX11_far 2 = .ok (.lshl, 1) := by decide +kernel
theorem dX11_far_3 : decode cX11_far 3 = .ok (.lstore_n 3, 1) := by decide +kernel
theorem dX11_far_4 : decode cX11_far 4 = .ok (.iconst 0, 1) := by decide +kernel
theorem dX11_far_5 : decode cX11_far 5 = .ok (.istore 5, 2) := by decide +kernel
theorem dX11_far_7 : decode cX11_far 7 = .ok (.iload 5, 2) := by decide +kernel
theorem dX11_far_9 : decode cX11_far 9 = .ok (.bipush 40, 2) := by decide +kernel
theorem dX11_far_11 : decode cX11_far 11 = .ok (.if_icmp .ge 67, 3) := by decide +kernel
theorem dX11_far_14 : decode cX11_far 14 = .ok (.lload_n 3, 1) := by decide +kernel
theorem dX11_far_15 : decode cX11_far 15 = .ok (.iload_n 2, 1) := by decide +kernel
theorem dX11_far_16 : decode cX11_far 16 = .ok (.invokestatic 72, 3) := by decide +kernel
theorem dX11_far_19 : decode cX11_far 19 = .ok (.ifCond .eq 6, 3) := by decide +kernel
theorem dX11_far_22 : decode cX11_far 22 = .ok (.iload 5, 2) := by decide +kernel
theorem dX11_far_24 : decode cX11_far 24 = .ok (.ireturn, 1) := by decide +kernel
theorem dX11_far_25 : decode cX11_far 25 = .ok (.lload_n 3, 1) := by decide +kernel
theorem dX11_far_26 : decode cX11_far 26 = .ok (.lstore 6, 2) := by decide +kernel
theorem dX11_far_28 : decode cX11_far 28 = .ok (.iconst 0, 1) := by decide +kernel
theorem dX11_far_29 : decode cX11_far 29 = .ok (.istore 8, 2) := by decide +kernel
theorem dX11_far_31 : decode cX11_far 31 = .ok (.iload 8, 2) := by decide +kernel
theorem dX11_far_33 : decode cX11_far 33 = .ok (.bipush 40, 2) := by decide +kernel
theorem dX11_far_35 : decode cX11_far 35 = .ok (.if_icmp .ge 34, 3) := by decide +kernel
theorem dX11_far_38 : decode cX11_far 38 = .ok (.lload 6, 2) := by decide +kernel
theorem dX11_far_40 : decode cX11_far 40 = .ok (.lload_n 3, 1) := by decide +kernel
theorem dX11_far_41 : decode cX11_far 41 = .ok (.iload 8, 2) := by decide +kernel
theorem dX11_far_43 : decode cX11_far 43 = .ok (.invokestatic 72, 3) := by decide +kernel
theorem dX11_far_46 : decode cX11_far 46 = .ok (.ifCond .eq 13, 3) := by decide +kernel
theorem dX11_far_49 : decode cX11_far 49 = .ok (.aload_n 0, 1) := by decide +kernel
theorem dX11_far_50 : decode cX11_far 50 = .ok (.getfield 24, 3) := by decide +kernel
theorem dX11_far_53 : decode cX11_far 53 = .ok (.iload 8, 2) := by decide +kernel
theorem dX11_far_55 : decode cX11_far 55 = .ok (.laload, 1) := by decide +kernel
theorem dX11_far_56 : decode cX11_far 56 = .ok (.goto 4, 3) := by decide +kernel
theorem dX11_far_59 : decode cX11_far 59 = .ok (.lconst 0, 1) := by decide +kernel
theorem dX11_far_60 : decode cX11_far 60 = .ok (.lor, 1) := by decide +kernel
theorem dX11_far_61 : decode cX11_far 61 = .ok (.lstore 6, 2) := by decide +kernel
theorem dX11_far_63 : decode cX11_far 63 = .ok (.iinc 8 1, 3) := by decide +kernel
theorem dX11_far_66 : decode cX11_far 66 = .ok (.goto (-35), 3) := by decide +kernel
theorem dX11_far_69 : decode cX11_far 69 = .ok (.lload 6, 2) := by decide +kernel
theorem dX11_far_71 : decode cX11_far 71 = .ok (.lstore_n 3, 1) := by decide +kernel
theorem dX11_far_72 : decode cX11_far 72 = .ok (.iinc 5 1, 3) := by decide +kernel
theorem dX11_far_75 : decode cX11_far 75 = .ok (.goto (-68), 3) := by decide +kernel
theorem dX11_far_78 : decode cX11_far 78 = .ok (.bipush (-5), 2) := by decide +kernel
theorem dX11_far_80 : decode cX11_far 80 = .ok (.ireturn, 1) := by decide +kernel
theorem dX11_coreOf_0 : decode cX11_coreOf 0 = .ok (.ldc2_w 152, 3) := by decide +kernel
theorem dX11_coreOf_3 : decode cX11_coreOf 3 = .ok (.lstore_n 2, 1) := by decide +kernel
theorem dX11_coreOf_4 : decode cX11_coreOf 4 = .ok (.iconst 1, 1) := by decide +kernel
theorem dX11_coreOf_5 : decode cX11_coreOf 5 = .ok (.istore 4, 2) := by decide +kernel
theorem dX11_coreOf_7 : decode cX11_coreOf 7 = .ok (.iload 4, 2) := by decide +kernel
theorem dX11_coreOf_9 : decode cX11_coreOf 9 = .ok (.ifCond .eq 67, 3) := by decide +kernel
theorem dX11_coreOf_12 : decode cX11_coreOf 12 = .ok (.iconst 0, 1) := by decide +kernel
theorem dX11_coreOf_13 : decode cX11_coreOf 13 = .ok (.istore 4, 2) := by decide +kernel
theorem dX11_coreOf_15 : decode cX11_coreOf 15 = .ok (.iconst 0, 1) := by decide +kernel
theorem dX11_coreOf_16 : decode cX11_coreOf 16 = .ok (.istore 5, 2) := by decide +kernel
theorem dX11_coreOf_18 : decode cX11_coreOf 18 = .ok (.iload 5, 2) := by decide +kernel
theorem dX11_coreOf_20 : decode cX11_coreOf 20 = .ok (.bipush 40, 2) := by decide +kernel
theorem dX11_coreOf_22 : decode cX11_coreOf 22 = .ok (.if_icmp .ge 51, 3) := by decide +kernel
theorem dX11_coreOf_25 : decode cX11_coreOf 25 = .ok (.lload_n 2, 1) := by decide +kernel
theorem dX11_coreOf_26 : decode cX11_coreOf 26 = .ok (.iload 5, 2) := by decide +kernel
theorem dX11_coreOf_28 : decode cX11_coreOf 28 = .ok (.invokestatic 72, 3) := by decide +kernel
theorem dX11_coreOf_31 : decode cX11_coreOf 31 = .ok (.ifCond .eq 36, 3) := by decide +kernel
theorem dX11_coreOf_34 : decode cX11_coreOf 34 = .ok (.aload_n 0, 1) := by decide +kernel
theorem dX11_coreOf_35 : decode cX11_coreOf 35 = .ok (.getfield 24, 3) := by decide +kernel
theorem dX11_coreOf_38 : decode cX11_coreOf 38 = .ok (.iload 5, 2) := by decide +kernel
theorem dX11_coreOf_40 : decode cX11_coreOf 40 = .ok (.laload, 1) := by decide +kernel
theorem dX11_coreOf_41 : decode cX11_coreOf 41 = .ok (.lload_n 2, 1) := by decide +kernel
theorem dX11_coreOf_42 : decode cX11_coreOf 42 = .ok (.land, 1) := by decide +kernel
theorem dX11_coreOf_43 : decode cX11_coreOf 43 = .ok (.invokestatic 76, 3) := by decide +kernel
theorem dX11_coreOf_46 : decode cX11_coreOf 46 = .ok (.iload_n 1, 1) := by decide +kernel
theorem dX11_coreOf_47 : decode cX11_coreOf 47 = .ok (.if_icmp .lt 6, 3) := by decide +kernel
theorem dX11_coreOf_50 : decode cX11_coreOf 50 = .ok (.goto 17, 3) := by decide +kernel
theorem dX11_coreOf_53 : decode cX11_coreOf 53 = .ok (.lload_n 2, 1) := by decide +kernel
theorem dX11_coreOf_54 : decode cX11_coreOf 54 = .ok (.lconst 1, 1) := by decide +kernel
theorem dX11_coreOf_55 : decode cX11_coreOf 55 = .ok (.iload 5, 2) := by decide +kernel
theorem dX11_coreOf_57 : decode cX11_coreOf 57 = .ok (.lshl, 1) := by decide +kernel
theorem dX11_coreOf_58 : decode cX11_coreOf 58 = .ok (.ldc2_w 150, 3) := by decide +kernel
theorem dX11_coreOf_61 : decode cX11_coreOf 61 = .ok (.lxor, 1) := by decide +kernel
theorem dX11_coreOf_62 : decode cX11_coreOf 62 = .ok (.land, 1) := by decide +kernel
theorem dX11_coreOf_63 : decode cX11_coreOf 63 = .ok (.lstore_n 2, 1) := by decide +kernel
theorem dX11_coreOf_64 : decode cX11_coreOf 64 = .ok (.iconst 1, 1) := by decide +kernel
theorem dX11_coreOf_65 : decode cX11_coreOf 65 = .ok (.istore 4, 2) := by decide +kernel
theorem dX11_coreOf_67 : decode cX11_coreOf 67 = .ok (.iinc 5 1, 3) := by decide +kernel
theorem dX11_coreOf_70 : decode cX11_coreOf 70 = .ok (.goto (-52), 3) := by decide +kernel
theorem dX11_coreOf_73 : decode cX11_coreOf 73 = .ok (.goto (-66), 3) := by decide +kernel
theorem dX11_coreOf_76 : decode cX11_coreOf 76 = .ok (.lload_n 2, 1) := by decide +kernel
theorem dX11_coreOf_77 : decode cX11_coreOf 77 = .ok (.lreturn, 1) := by decide +kernel
theorem dX11_cores_0 : decode cX11_cores 0 = .ok (.iconst 0, 1) := by decide +kernel
theorem dX11_cores_1 : decode cX11_cores 1 = .ok (.istore_n 1, 1) := by decide +kernel
theorem dX11_cores_2 : decode cX11_cores 2 = .ok (.iload_n 1, 1) := by decide +kernel
theorem dX11_cores_3 : decode cX11_cores 3 = .ok (.bipush 40, 2) := by decide +kernel
theorem dX11_cores_5 : decode cX11_cores 5 = .ok (.if_icmp .ge 16, 3) := by decide +kernel
theorem dX11_cores_8 : decode cX11_cores 8 = .ok (.aload_n 0, 1) := by decide +kernel
theorem dX11_cores_9 : decode cX11_cores 9 = .ok (.getfield 31, 3) := by decide +kernel
theorem dX11_cores_12 : decode cX11_cores 12 = .ok (.iload_n 1, 1) := by decide +kernel
theorem dX11_cores_13 : decode cX11_cores 13 = .ok (.iconst 0, 1) := by decide +kernel
theorem dX11_cores_14 : decode cX11_cores 14 = .ok (.iastore, 1) := by decide +kernel
theorem dX11_cores_15 : decode cX11_cores 15 = .ok (.iinc 1 1, 3) := by decide +kernel
theorem dX11_cores_18 : decode cX11_cores 18 = .ok (.goto (-16), 3) := by decide +kernel
theorem dX11_cores_21 : decode cX11_cores 21 = .ok (.iconst 1, 1) := by decide +kernel
theorem dX11_cores_22 : decode cX11_cores 22 = .ok (.istore_n 1, 1) := by decide +kernel
theorem dX11_cores_23 : decode cX11_cores 23 = .ok (.aload_n 0, 1) := by decide +kernel
theorem dX11_cores_24 : decode cX11_cores 24 = .ok (.iload_n 1, 1) := by decide +kernel
theorem dX11_cores_25 : decode cX11_cores 25 = .ok (.invokevirtual 154, 3) := by decide +kernel
theorem dX11_cores_28 : decode cX11_cores 28 = .ok (.lstore_n 2, 1) := by decide +kernel
theorem dX11_cores_29 : decode cX11_cores 29 = .ok (.lload_n 2, 1) := by decide +kernel
theorem dX11_cores_30 : decode cX11_cores 30 = .ok (.lconst 0, 1) := by decide +kernel
theorem dX11_cores_31 : decode cX11_cores 31 = .ok (.lcmp, 1) := by decide +kernel
theorem dX11_cores_32 : decode cX11_cores 32 = .ok (.ifCond .eq 48, 3) := by decide +kernel
theorem dX11_cores_35 : decode cX11_cores 35 = .ok (.iconst 0, 1) := by decide +kernel
theorem dX11_cores_36 : decode cX11_cores 36 = .ok (.istore 4, 2) := by decide +kernel
theorem dX11_cores_38 : decode cX11_cores 38 = .ok (.iload 4, 2) := by decide +kernel
theorem dX11_cores_40 : decode cX11_cores 40 = .ok (.bipush 40, 2) := by decide +kernel
theorem dX11_cores_42 : decode cX11_cores 42 = .ok (.if_icmp .ge 26, 3) := by decide +kernel
theorem dX11_cores_45 : decode cX11_cores 45 = .ok (.lload_n 2, 1) := by decide +kernel
theorem dX11_cores_46 : decode cX11_cores 46 = .ok (.iload 4, 2) := by decide +kernel
theorem dX11_cores_48 : decode cX11_cores 48 = .ok (.invokestatic 72, 3) := by decide +kernel
theorem dX11_cores_51 : decode cX11_cores 51 = .ok (.ifCond .eq 11, 3) := by decide +kernel
theorem dX11_cores_54 : decode cX11_cores 54 = .ok (.aload_n 0, 1) := by decide +kernel
theorem dX11_cores_55 : decode cX11_cores 55 = .ok (.getfield 31, 3) := by decide +kernel
theorem dX11_cores_58 : decode cX11_cores 58 = .ok (.iload 4, 2) := by decide +kernel
theorem dX11_cores_60 : decode cX11_cores 60 = .ok (.iload_n 1, 1) := by decide +kernel
theorem dX11_cores_61 : decode cX11_cores 61 = .ok (.iastore, 1) := by decide +kernel
theorem dX11_cores_62 : decode cX11_cores 62 = .ok (.iinc 4 1, 3) := by decide +kernel
theorem dX11_cores_65 : decode cX11_cores 65 = .ok (.goto (-27), 3) := by decide +kernel
theorem dX11_cores_68 : decode cX11_cores 68 = .ok (.iinc 1 1, 3) := by decide +kernel
theorem dX11_cores_71 : decode cX11_cores 71 = .ok (.aload_n 0, 1) := by decide +kernel
theorem dX11_cores_72 : decode cX11_cores 72 = .ok (.iload_n 1, 1) := by decide +kernel
theorem dX11_cores_73 : decode cX11_cores 73 = .ok (.invokevirtual 154, 3) := by decide +kernel
theorem dX11_cores_76 : decode cX11_cores 76 = .ok (.lstore_n 2, 1) := by decide +kernel
theorem dX11_cores_77 : decode cX11_cores 77 = .ok (.goto (-48), 3) := by decide +kernel
theorem dX11_cores_80 : decode cX11_cores 80 = .ok (.return_, 1) := by decide +kernel
theorem dX11_coreAt_0 : decode cX11_coreAt 0 = .ok (.aload_n 0, 1) := by decide +kernel
theorem dX11_coreAt_1 : decode cX11_coreAt 1 = .ok (.invokevirtual 158, 3) := by decide +kernel
theorem dX11_coreAt_4 : decode cX11_coreAt 4 = .ok (.aload_n 0, 1) := by decide +kernel
theorem dX11_coreAt_5 : decode cX11_coreAt 5 = .ok (.getfield 31, 3) := by decide +kernel
theorem dX11_coreAt_8 : decode cX11_coreAt 8 = .ok (.iload_n 1, 1) := by decide +kernel
theorem dX11_coreAt_9 : decode cX11_coreAt 9 = .ok (.iaload, 1) := by decide +kernel
theorem dX11_coreAt_10 : decode cX11_coreAt 10 = .ok (.ireturn, 1) := by decide +kernel
theorem dX11_of_0 : decode cX11_of 0 = .ok (.iload_n 1, 1) := by decide +kernel
theorem dX11_of_1 : decode cX11_of 1 = .ok (.invokestatic 68, 3) := by decide +kernel
theorem dX11_of_4 : decode cX11_of 4 = .ok (.ifCond .ne 5, 3) := by decide +kernel
theorem dX11_of_7 : decode cX11_of 7 = .ok (.iconst (-1), 1) := by decide +kernel
theorem dX11_of_8 : decode cX11_of 8 = .ok (.ireturn, 1) := by decide +kernel
theorem dX11_of_9 : decode cX11_of 9 = .ok (.iload_n 2, 1) := by decide +kernel
theorem dX11_of_10 : decode cX11_of 10 = .ok (.tableswitch 85 0 5 #[38, 44, 50, 67, 73, 79], 38) := by decide +kernel
theorem dX11_of_48 : decode cX11_of 48 = .ok (.aload_n 0, 1) := by decide +kernel
theorem dX11_of_49 : decode cX11_of 49 = .ok (.iload_n 1, 1) := by decide +kernel
theorem dX11_of_50 : decode cX11_of 50 = .ok (.invokevirtual 84, 3) := by decide +kernel
theorem dX11_of_53 : decode cX11_of 53 = .ok (.ireturn, 1) := by decide +kernel
theorem dX11_of_54 : decode cX11_of 54 = .ok (.aload_n 0, 1) := by decide +kernel
theorem dX11_of_55 : decode cX11_of 55 = .ok (.iload_n 1, 1) := by decide +kernel
theorem dX11_of_56 : decode cX11_of 56 = .ok (.invokevirtual 132, 3) := by decide +kernel
theorem dX11_of_59 : decode cX11_of 59 = .ok (.ireturn, 1) := by decide +kernel
theorem dX11_of_60 : decode cX11_of 60 = .ok (.aload_n 0, 1) := by decide +kernel
theorem dX11_of_61 : decode cX11_of 61 = .ok (.getfield 80, 3) := by decide +kernel
theorem dX11_of_64 : decode cX11_of 64 = .ok (.iload_n 1, 1) := by decide +kernel
theorem dX11_of_65 : decode cX11_of 65 = .ok (.invokestatic 72, 3) := by decide +kernel
theorem dX11_of_68 : decode cX11_of 68 = .ok (.ifCond .eq 7, 3) := by decide +kernel
theorem dX11_of_71 : decode cX11_of 71 = .ok (.iconst 1, 1) := by decide +kernel
theorem dX11_of_72 : decode cX11_of 72 = .ok (.goto 4, 3) := by decide +kernel
theorem dX11_of_75 : decode cX11_of 75 = .ok (.iconst 0, 1) := by decide +kernel
theorem dX11_of_76 : decode cX11_of 76 = .ok (.ireturn, 1) := by decide +kernel
theorem dX11_of_77 : decode cX11_of 77 = .ok (.aload_n 0, 1) := by decide +kernel
theorem dX11_of_78 : decode cX11_of 78 = .ok (.iload_n 1, 1) := by decide +kernel
theorem dX11_of_79 : decode cX11_of 79 = .ok (.invokevirtual 161, 3) := by decide +kernel
theorem dX11_of_82 : decode cX11_of 82 = .ok (.ireturn, 1) := by decide +kernel
theorem dX11_of_83 : decode cX11_of 83 = .ok (.aload_n 0, 1) := by decide +kernel
theorem dX11_of_84 : decode cX11_of 84 = .ok (.iload_n 1, 1) := by decide +kernel
theorem dX11_of_85 : decode cX11_of 85 = .ok (.invokevirtual 138, 3) := by decide +kernel
theorem dX11_of_88 : decode cX11_of 88 = .ok (.ireturn, 1) := by decide +kernel
theorem dX11_of_89 : decode cX11_of 89 = .ok (.aload_n 0, 1) := by decide +kernel
theorem dX11_of_90 : decode cX11_of 90 = .ok (.iload_n 1, 1) := by decide +kernel
theorem dX11_of_91 : decode cX11_of 91 = .ok (.invokevirtual 147, 3) := by decide +kernel
theorem dX11_of_94 : decode cX11_of 94 = .ok (.ireturn, 1) := by decide +kernel
theorem dX11_of_95 : decode cX11_of 95 = .ok (.iconst (-1), 1) := by decide +kernel
theorem dX11_of_96 : decode cX11_of 96 = .ok (.ireturn, 1) := by decide +kernel
theorem dX11_two_0 : decode cX11_two 0 = .ok (.iload_n 1, 1) := by decide +kernel
theorem dX11_two_1 : decode cX11_two 1 = .ok (.iload_n 2, 1) := by decide +kernel
theorem dX11_two_2 : decode cX11_two 2 = .ok (.invokestatic 110, 3) := by decide +kernel
theorem dX11_two_5 : decode cX11_two 5 = .ok (.ifCond .ne 5, 3) := by decide +kernel
theorem dX11_two_8 : decode cX11_two 8 = .ok (.iconst (-1), 1) := by decide +kernel
theorem dX11_two_9 : decode cX11_two 9 = .ok (.ireturn, 1) := by decide +kernel
theorem dX11_two_10 : decode cX11_two 10 = .ok (.iload_n 3, 1) := by decide +kernel
theorem dX11_two_11 : decode cX11_two 11 = .ok (.tableswitch 95 0 4 #[33, 40, 66, 73, 88], 33) := by decide +kernel
theorem dX11_two_44 : decode cX11_two 44 = .ok (.aload_n 0, 1) := by decide +kernel
theorem dX11_two_45 : decode cX11_two 45 = .ok (.iload_n 1, 1) := by decide +kernel
theorem dX11_two_46 : decode cX11_two 46 = .ok (.iload_n 2, 1) := by decide +kernel
theorem dX11_two_47 : decode cX11_two 47 = .ok (.invokevirtual 123, 3) := by decide +kernel
theorem dX11_two_50 : decode cX11_two 50 = .ok (.ireturn, 1) := by decide +kernel
theorem dX11_two_51 : decode cX11_two 51 = .ok (.aload_n 0, 1) := by decide +kernel
theorem dX11_two_52 : decode cX11_two 52 = .ok (.getfield 24, 3) := by decide +kernel
theorem dX11_two_55 : decode cX11_two 55 = .ok (.iload_n 1, 1) := by decide +kernel
theorem dX11_two_56 : decode cX11_two 56 = .ok (.laload, 1) := by decide +kernel
theorem dX11_two_57 : decode cX11_two 57 = .ok (.aload_n 0, 1) := by decide +kernel
theorem dX11_two_58 : decode cX11_two 58 = .ok (.getfield 24, 3) := by decide +kernel
theorem dX11_two_61 : decode cX11_two 61 = .ok (.iload_n 2, 1) := by decide +kernel
theorem dX11_two_62 : decode cX11_two 62 = .ok (.laload, 1) := by decide +kernel
theorem dX11_two_63 : decode cX11_two 63 = .ok (.land, 1) := by decide +kernel
theorem dX11_two_64 : decode cX11_two 64 = .ok (.aload_n 0, 1) := by decide +kernel
theorem dX11_two_65 : decode cX11_two 65 = .ok (.getfield 80, 3) := by decide +kernel
theorem dX11_two_68 : decode cX11_two 68 = .ok (.ldc2_w 150, 3) := by decide +kernel
theorem dX11_two_71 : decode cX11_two 71 = .ok (.lxor, 1) := by decide +kernel
theorem dX11_two_72 : decode cX11_two 72 = .ok (.land, 1) := by decide +kernel
theorem dX11_two_73 : decode cX11_two 73 = .ok (.invokestatic 76, 3) := by decide +kernel
theorem dX11_two_76 : decode cX11_two 76 = .ok (.ireturn, 1) := by decide +kernel
theorem dX11_two_77 : decode cX11_two 77 = .ok (.aload_n 0, 1) := by decide +kernel
theorem dX11_two_78 : decode cX11_two 78 = .ok (.iload_n 1, 1) := by decide +kernel
theorem dX11_two_79 : decode cX11_two 79 = .ok (.iload_n 2, 1) := by decide +kernel
theorem dX11_two_80 : decode cX11_two 80 = .ok (.invokevirtual 164, 3) := by decide +kernel
theorem dX11_two_83 : decode cX11_two 83 = .ok (.ireturn, 1) := by decide +kernel
theorem dX11_two_84 : decode cX11_two 84 = .ok (.aload_n 0, 1) := by decide +kernel
theorem dX11_two_85 : decode cX11_two 85 = .ok (.iload_n 1, 1) := by decide +kernel
theorem dX11_two_86 : decode cX11_two 86 = .ok (.iload_n 2, 1) := by decide +kernel
theorem dX11_two_87 : decode cX11_two 87 = .ok (.invokevirtual 116, 3) := by decide +kernel
theorem dX11_two_90 : decode cX11_two 90 = .ok (.ifCond .eq 7, 3) := by decide +kernel
theorem dX11_two_93 : decode cX11_two 93 = .ok (.iconst 1, 1) := by decide +kernel
theorem dX11_two_94 : decode cX11_two 94 = .ok (.goto 4, 3) := by decide +kernel
theorem dX11_two_97 : decode cX11_two 97 = .ok (.iconst 0, 1) := by decide +kernel
theorem dX11_two_98 : decode cX11_two 98 = .ok (.ireturn, 1) := by decide +kernel
theorem dX11_two_99 : decode cX11_two 99 = .ok (.aload_n 0, 1) := by decide +kernel
theorem dX11_two_100 : decode cX11_two 100 = .ok (.iload_n 1, 1) := by decide +kernel
theorem dX11_two_101 : decode cX11_two 101 = .ok (.iload_n 2, 1) := by decide +kernel
theorem dX11_two_102 : decode cX11_two 102 = .ok (.invokevirtual 167, 3) := by decide +kernel
theorem dX11_two_105 : decode cX11_two 105 = .ok (.ireturn, 1) := by decide +kernel
theorem dX11_two_106 : decode cX11_two 106 = .ok (.iconst (-1), 1) := by decide +kernel
theorem dX11_two_107 : decode cX11_two 107 = .ok (.ireturn, 1) := by decide +kernel
theorem dX11_leaves_0 : decode cX11_leaves 0 = .ok (.iconst 0, 1) := by decide +kernel
theorem dX11_leaves_1 : decode cX11_leaves 1 = .ok (.istore_n 1, 1) := by decide +kernel
theorem dX11_leaves_2 : decode cX11_leaves 2 = .ok (.iload_n 1, 1) := by decide +kernel
theorem dX11_leaves_3 : decode cX11_leaves 3 = .ok (.bipush 40, 2) := by decide +kernel
theorem dX11_leaves_5 : decode cX11_leaves 5 = .ok (.if_icmp .ge 21, 3) := by decide +kernel
theorem dX11_leaves_8 : decode cX11_leaves 8 = .ok (.aload_n 0, 1) := by decide +kernel
theorem dX11_leaves_9 : decode cX11_leaves 9 = .ok (.getfield 34, 3) := by decide +kernel
theorem dX11_leaves_12 : decode cX11_leaves 12 = .ok (.iload_n 1, 1) := by decide +kernel
theorem dX11_leaves_13 : decode cX11_leaves 13 = .ok (.aload_n 0, 1) := by decide +kernel
theorem dX11_leaves_14 : decode cX11_leaves 14 = .ok (.getfield 24, 3) := by decide +kernel
theorem dX11_leaves_17 : decode cX11_leaves 17 = .ok (.iload_n 1, 1) := by decide +kernel
theorem dX11_leaves_18 : decode cX11_leaves 18 = .ok (.laload, 1) := by decide +kernel
theorem dX11_leaves_19 : decode cX11_leaves 19 = .ok (.lastore, 1) := by decide +kernel
theorem dX11_leaves_20 : decode cX11_leaves 20 = .ok (.iinc 1 1, 3) := by decide +kernel
theorem dX11_leaves_23 : decode cX11_leaves 23 = .ok (.goto (-21), 3) := by decide +kernel
theorem dX11_leaves_26 : decode cX11_leaves 26 = .ok (.return_, 1) := by decide +kernel
theorem dX11_leaves__0 : decode cX11_leaves_ 0 = .ok (.aload_n 0, 1) := by decide +kernel
theorem dX11_leaves__1 : decode cX11_leaves_ 1 = .ok (.getfield 34, 3) := by decide +kernel
theorem dX11_leaves__4 : decode cX11_leaves_ 4 = .ok (.iload_n 1, 1) := by decide +kernel
theorem dX11_leaves__5 : decode cX11_leaves_ 5 = .ok (.dup2, 1) := by decide +kernel
theorem dX11_leaves__6 : decode cX11_leaves_ 6 = .ok (.laload, 1) := by decide +kernel
theorem dX11_leaves__7 : decode cX11_leaves_ 7 = .ok (.lconst 1, 1) := by decide +kernel
theorem dX11_leaves__8 : decode cX11_leaves_ 8 = .ok (.iload_n 2, 1) := by decide +kernel
theorem dX11_leaves__9 : decode cX11_leaves_ 9 = .ok (.lshl, 1) := by decide +kernel
theorem dX11_leaves__10 : decode cX11_leaves_ 10 = .ok (.ldc2_w 150, 3) := by decide +kernel
theorem dX11_leaves__13 : decode cX11_leaves_ 13 = .ok (.lxor, 1) := by decide +kernel
theorem dX11_leaves__14 : decode cX11_leaves_ 14 = .ok (.land, 1) := by decide +kernel
theorem dX11_leaves__15 : decode cX11_leaves_ 15 = .ok (.lastore, 1) := by decide +kernel
theorem dX11_leaves__16 : decode cX11_leaves_ 16 = .ok (.aload_n 0, 1) := by decide +kernel
theorem dX11_leaves__17 : decode cX11_leaves_ 17 = .ok (.getfield 34, 3) := by decide +kernel
theorem dX11_leaves__20 : decode cX11_leaves_ 20 = .ok (.iload_n 2, 1) := by decide +kernel
theorem dX11_leaves__21 : decode cX11_leaves_ 21 = .ok (.dup2, 1) := by decide +kernel
theorem dX11_leaves__22 : decode cX11_leaves_ 22 = .ok (.laload, 1) := by decide +kernel
theorem dX11_leaves__23 : decode cX11_leaves_ 23 = .ok (.lconst 1, 1) := by decide +kernel
theorem dX11_leaves__24 : decode cX11_leaves_ 24 = .ok (.iload_n 1, 1) := by decide +kernel
theorem dX11_leaves__25 : decode cX11_leaves_ 25 = .ok (.lshl, 1) := by decide +kernel
theorem dX11_leaves__26 : decode cX11_leaves_ 26 = .ok (.ldc2_w 150, 3) := by decide +kernel
theorem dX11_leaves__29 : decode cX11_leaves_ 29 = .ok (.lxor, 1) := by decide +kernel
theorem dX11_leaves__30 : decode cX11_leaves_ 30 = .ok (.land, 1) := by decide +kernel
theorem dX11_leaves__31 : decode cX11_leaves_ 31 = .ok (.lastore, 1) := by decide +kernel
theorem dX11_leaves__32 : decode cX11_leaves_ 32 = .ok (.return_, 1) := by decide +kernel
theorem dX11_supportLeft_0 : decode cX11_supportLeft 0 = .ok (.aload_n 0, 1) := by decide +kernel
theorem dX11_supportLeft_1 : decode cX11_supportLeft 1 = .ok (.getfield 34, 3) := by decide +kernel
theorem dX11_supportLeft_4 : decode cX11_supportLeft 4 = .ok (.iload_n 1, 1) := by decide +kernel
theorem dX11_supportLeft_5 : decode cX11_supportLeft 5 = .ok (.bipush 40, 2) := by decide +kernel
theorem dX11_supportLeft_7 : decode cX11_supportLeft 7 = .ok (.idiv, 1) := by decide +kernel
theorem dX11_supportLeft_8 : decode cX11_supportLeft 8 = .ok (.laload, 1) := by decide +kernel
theorem dX11_supportLeft_9 : decode cX11_supportLeft 9 = .ok (.aload_n 0, 1) := by decide +kernel
theorem dX11_supportLeft_10 : decode cX11_supportLeft 10 = .ok (.getfield 34, 3) := by decide +kernel
theorem dX11_supportLeft_13 : decode cX11_supportLeft 13 = .ok (.iload_n 1, 1) := by decide +kernel
theorem dX11_supportLeft_14 : decode cX11_supportLeft 14 = .ok (.bipush 40, 2) := by decide +kernel
theorem dX11_supportLeft_16 : decode cX11_supportLeft 16 = .ok (.irem, 1) := by decide +kernel
theorem dX11_supportLeft_17 : decode cX11_supportLeft 17 = .ok (.laload, 1) := by decide +kernel
theorem dX11_supportLeft_18 : decode cX11_supportLeft 18 = .ok (.land, 1) := by decide +kernel
theorem dX11_supportLeft_19 : decode cX11_supportLeft 19 = .ok (.invokestatic 76, 3) := by decide +kernel
theorem dX11_supportLeft_22 : decode cX11_supportLeft 22 = .ok (.ireturn, 1) := by decide +kernel
theorem dX11_isLeft_0 : decode cX11_isLeft 0 = .ok (.iload_n 1, 1) := by decide +kernel
theorem dX11_isLeft_1 : decode cX11_isLeft 1 = .ok (.bipush 40, 2) := by decide +kernel
theorem dX11_isLeft_3 : decode cX11_isLeft 3 = .ok (.idiv, 1) := by decide +kernel
theorem dX11_isLeft_4 : decode cX11_isLeft 4 = .ok (.iload_n 1, 1) := by decide +kernel
theorem dX11_isLeft_5 : decode cX11_isLeft 5 = .ok (.bipush 40, 2) := by decide +kernel
theorem dX11_isLeft_7 : decode cX11_isLeft 7 = .ok (.irem, 1) := by decide +kernel
theorem dX11_isLeft_8 : decode cX11_isLeft 8 = .ok (.if_icmp .ge 26, 3) := by decide +kernel
theorem dX11_isLeft_11 : decode cX11_isLeft 11 = .ok (.aload_n 0, 1) := by decide +kernel
theorem dX11_isLeft_12 : decode cX11_isLeft 12 = .ok (.getfield 34, 3) := by decide +kernel
theorem dX11_isLeft_15 : decode cX11_isLeft 15 = .ok (.iload_n 1, 1) := by decide +kernel
theorem dX11_isLeft_16 : decode cX11_isLeft 16 = .ok (.bipush 40, 2) := by decide +kernel
theorem dX11_isLeft_18 : decode cX11_isLeft 18 = .ok (.idiv, 1) := by decide +kernel
theorem dX11_isLeft_19 : decode cX11_isLeft 19 = .ok (.laload, 1) := by decide +kernel
theorem dX11_isLeft_20 : decode cX11_isLeft 20 = .ok (.iload_n 1, 1) := by decide +kernel
theorem dX11_isLeft_21 : decode cX11_isLeft 21 = .ok (.bipush 40, 2) := by decide +kernel
theorem dX11_isLeft_23 : decode cX11_isLeft 23 = .ok (.irem, 1) := by decide +kernel
theorem dX11_isLeft_24 : decode cX11_isLeft 24 = .ok (.invokestatic 72, 3) := by decide +kernel
theorem dX11_isLeft_27 : decode cX11_isLeft 27 = .ok (.ifCond .eq 7, 3) := by decide +kernel
theorem dX11_isLeft_30 : decode cX11_isLeft 30 = .ok (.iconst 1, 1) := by decide +kernel
theorem dX11_isLeft_31 : decode cX11_isLeft 31 = .ok (.goto 4, 3) := by decide +kernel
theorem dX11_isLeft_34 : decode cX11_isLeft 34 = .ok (.iconst 0, 1) := by decide +kernel
theorem dX11_isLeft_35 : decode cX11_isLeft 35 = .ok (.ireturn, 1) := by decide +kernel
theorem dX11_peels_0 : decode cX11_peels 0 = .ok (.aload_n 0, 1) := by decide +kernel
theorem dX11_peels_1 : decode cX11_peels 1 = .ok (.invokevirtual 170, 3) := by decide +kernel
theorem dX11_peels_4 : decode cX11_peels 4 = .ok (.iconst 0, 1) := by decide +kernel
theorem dX11_peels_5 : decode cX11_peels 5 = .ok (.istore_n 1, 1) := by decide +kernel
theorem dX11_peels_6 : decode cX11_peels 6 = .ok (.aload_n 0, 1) := by decide +kernel
theorem dX11_peels_7 : decode cX11_peels 7 = .ok (.iconst 0, 1) := by decide +kernel
theorem dX11_peels_8 : decode cX11_peels 8 = .ok (.putfield 173, 3) := by decide +kernel
theorem dX11_peels_11 : decode cX11_peels 11 = .ok (.aload_n 0, 1) := by decide +kernel
theorem dX11_peels_12 : decode cX11_peels 12 = .ok (.getfield 173, 3) := by decide +kernel
theorem dX11_peels_15 : decode cX11_peels 15 = .ok (.aload_n 0, 1) := by decide +kernel
theorem dX11_peels_16 : decode cX11_peels 16 = .ok (.getfield 11, 3) := by decide +kernel
theorem dX11_peels_19 : decode cX11_peels 19 = .ok (.iconst 5, 1) := by decide +kernel
theorem dX11_peels_20 : decode cX11_peels 20 = .ok (.iaload, 1) := by decide +kernel
theorem dX11_peels_21 : decode cX11_peels 21 = .ok (.if_icmp .ge 116, 3) := by decide +kernel
theorem dX11_peels_24 : decode cX11_peels 24 = .ok (.iconst (-1), 1) := by decide +kernel
theorem dX11_peels_25 : decode cX11_peels 25 = .ok (.istore_n 2, 1) := by decide +kernel
theorem dX11_peels_26 : decode cX11_peels 26 = .ok (.iconst 0, 1) := by decide +kernel
theorem dX11_peels_27 : decode cX11_peels 27 = .ok (.istore_n 3, 1) := by decide +kernel
theorem dX11_peels_28 : decode cX11_peels 28 = .ok (.iload_n 3, 1) := by decide +kernel
theorem dX11_peels_29 : decode cX11_peels 29 = .ok (.sipush 1600, 3) := by decide +kernel
theorem dX11_peels_32 : decode cX11_peels 32 = .ok (.if_icmp .ge 36, 3) := by decide +kernel
theorem dX11_peels_35 : decode cX11_peels 35 = .ok (.aload_n 0, 1) := by decide +kernel
theorem dX11_peels_36 : decode cX11_peels 36 = .ok (.iload_n 3, 1) := by decide +kernel
theorem dX11_peels_37 : decode cX11_peels 37 = .ok (.invokevirtual 177, 3) := by decide +kernel
theorem dX11_peels_40 : decode cX11_peels 40 = .ok (.ifCond .eq 22, 3) := by decide +kernel
theorem dX11_peels_43 : decode cX11_peels 43 = .ok (.iload_n 2, 1) := by decide +kernel
theorem dX11_peels_44 : decode cX11_peels 44 = .ok (.ifCond .lt 16, 3) := by decide +kernel
theorem dX11_peels_47 : decode cX11_peels 47 = .ok (.aload_n 0, 1) := by decide +kernel
theorem dX11_peels_48 : decode cX11_peels 48 = .ok (.iload_n 3, 1) := by decide +kernel
theorem dX11_peels_49 : decode cX11_peels 49 = .ok (.invokevirtual 180, 3) := by decide +kernel
theorem dX11_peels_52 : decode cX11_peels 52 = .ok (.aload_n 0, 1) := by decide +kernel
theorem dX11_peels_53 : decode cX11_peels 53 = .ok (.iload_n 2, 1) := by decide +kernel
theorem dX11_peels_54 : decode cX11_peels 54 = .ok (.invokevirtual 180, 3) := by decide +kernel
theorem dX11_peels_57 : decode cX11_peels 57 = .ok (.if_icmp .ge 5, 3) := by decide +kernel
theorem dX11_peels_60 : decode cX11_peels 60 = .ok (.iload_n 3, 1) := by decide +kernel
theorem dX11_peels_61 : decode cX11_peels 61 = .ok (.istore_n 2, 1) := by decide +kernel
theorem dX11_peels_62 : decode cX11_peels 62 = .ok (.iinc 3 1, 3) := by decide +kernel
theorem dX11_peels_65 : decode cX11_peels 65 = .ok (.goto (-37), 3) := by decide +kernel
theorem dX11_peels_68 : decode cX11_peels 68 = .ok (.aload_n 0, 1) := by decide +kernel
theorem dX11_peels_69 : decode cX11_peels 69 = .ok (.iload_n 2, 1) := by decide +kernel
theorem dX11_peels_70 : decode cX11_peels 70 = .ok (.invokevirtual 180, 3) := by decide +kernel
theorem dX11_peels_73 : decode cX11_peels 73 = .ok (.iload_n 1, 1) := by decide +kernel
theorem dX11_peels_74 : decode cX11_peels 74 = .ok (.if_icmp .le 9, 3) := by decide +kernel
theorem dX11_peels_77 : decode cX11_peels 77 = .ok (.aload_n 0, 1) := by decide +kernel
theorem dX11_peels_78 : decode cX11_peels 78 = .ok (.iload_n 2, 1) := by decide +kernel
theorem dX11_peels_79 : decode cX11_peels 79 = .ok (.invokevirtual 180, 3) := by decide +kernel
theorem dX11_peels_82 : decode cX11_peels 82 = .ok (.istore_n 1, 1) := by decide +kernel
theorem dX11_peels_83 : decode cX11_peels 83 = .ok (.aload_n 0, 1) := by decide +kernel
theorem dX11_peels_84 : decode cX11_peels 84 = .ok (.getfield 37, 3) := by decide +kernel
theorem dX11_peels_87 : decode cX11_peels 87 = .ok (.iload_n 2, 1) := by decide +kernel
theorem dX11_peels_88 : decode cX11_peels 88 = .ok (.iload_n 1, 1) := by decide +kernel
theorem dX11_peels_89 : decode cX11_peels 89 = .ok (.iconst 2, 1) := by decide +kernel
theorem dX11_peels_90 : decode cX11_peels 90 = .ok (.iadd, 1) := by decide +kernel
theorem dX11_peels_91 : decode cX11_peels 91 = .ok (.iastore, 1) := by decide +kernel
theorem dX11_peels_92 : decode cX11_peels 92 = .ok (.aload_n 0, 1) := by decide +kernel
theorem dX11_peels_93 : decode cX11_peels 93 = .ok (.getfield 40, 3) := by decide +kernel
theorem dX11_peels_96 : decode cX11_peels 96 = .ok (.iload_n 2, 1) := by decide +kernel
theorem dX11_peels_97 : decode cX11_peels 97 = .ok (.aload_n 0, 1) := by decide +kernel
theorem dX11_peels_98 : decode cX11_peels 98 = .ok (.getfield 173, 3) := by decide +kernel
theorem dX11_peels_101 : decode cX11_peels 101 = .ok (.iastore, 1) := by decide +kernel
theorem dX11_peels_102 : decode cX11_peels 102 = .ok (.aload_n 0, 1) := by decide +kernel
theorem dX11_peels_103 : decode cX11_peels 103 = .ok (.getfield 43, 3) := by decide +kernel
theorem dX11_peels_106 : decode cX11_peels 106 = .ok (.aload_n 0, 1) := by decide +kernel
theorem dX11_peels_107 : decode cX11_peels 107 = .ok (.getfield 173, 3) := by decide +kernel
theorem dX11_peels_110 : decode cX11_peels 110 = .ok (.iload_n 2, 1) := by decide +kernel
theorem dX11_peels_111 : decode cX11_peels 111 = .ok (.iastore, 1) := by decide +kernel
theorem dX11_peels_112 : decode cX11_peels 112 = .ok (.aload_n 0, 1) := by decide +kernel
theorem dX11_peels_113 : decode cX11_peels 113 = .ok (.iload_n 2, 1) := by decide +kernel
theorem dX11_peels_114 : decode cX11_peels 114 = .ok (.bipush 40, 2) := by decide +kernel
theorem dX11_peels_116 : decode cX11_peels 116 = .ok (.idiv, 1) := by decide +kernel
theorem dX11_peels_117 : decode cX11_peels 117 = .ok (.iload_n 2, 1) := by decide +kernel
theorem dX11_peels_118 : decode cX11_peels 118 = .ok (.bipush 40, 2) := by decide +kernel
theorem dX11_peels_120 : decode cX11_peels 120 = .ok (.irem, 1) := by decide +kernel
theorem dX11_peels_121 : decode cX11_peels 121 = .ok (.invokevirtual 183, 3) := by decide +kernel
theorem dX11_peels_124 : decode cX11_peels 124 = .ok (.aload_n 0, 1) := by decide +kernel
theorem dX11_peels_125 : decode cX11_peels 125 = .ok (.dup, 1) := by decide +kernel
theorem dX11_peels_126 : decode cX11_peels 126 = .ok (.getfield 173, 3) := by decide +kernel
theorem dX11_peels_129 : decode cX11_peels 129 = .ok (.iconst 1, 1) := by decide +kernel
theorem dX11_peels_130 : decode cX11_peels 130 = .ok (.iadd, 1) := by decide +kernel
theorem dX11_peels_131 : decode cX11_peels 131 = .ok (.putfield 173, 3) := by decide +kernel
theorem dX11_peels_134 : decode cX11_peels 134 = .ok (.goto (-123), 3) := by decide +kernel
theorem dX11_peels_137 : decode cX11_peels 137 = .ok (.return_, 1) := by decide +kernel
theorem dX11_edge__0 : decode cX11_edge_ 0 = .ok (.iload_n 1, 1) := by decide +kernel
theorem dX11_edge__1 : decode cX11_edge_ 1 = .ok (.iload_n 2, 1) := by decide +kernel
theorem dX11_edge__2 : decode cX11_edge_ 2 = .ok (.invokestatic 110, 3) := by decide +kernel
theorem dX11_edge__5 : decode cX11_edge_ 5 = .ok (.ifCond .eq 12, 3) := by decide +kernel
theorem dX11_edge__8 : decode cX11_edge_ 8 = .ok (.iload_n 3, 1) := by decide +kernel
theorem dX11_edge__9 : decode cX11_edge_ 9 = .ok (.iconst 0, 1) := by decide +kernel
theorem dX11_edge__10 : decode cX11_edge_ 10 = .ok (.iconst 4, 1) := by decide +kernel
theorem dX11_edge__11 : decode cX11_edge_ 11 = .ok (.invokestatic 64, 3) := by decide +kernel
theorem dX11_edge__14 : decode cX11_edge_ 14 = .ok (.ifCond .ne 5, 3) := by decide +kernel
theorem dX11_edge__17 : decode cX11_edge_ 17 = .ok (.iconst (-1), 1) := by decide +kernel
theorem dX11_edge__18 : decode cX11_edge_ 18 = .ok (.ireturn, 1) := by decide +kernel
theorem dX11_edge__19 : decode cX11_edge_ 19 = .ok (.aload_n 0, 1) := by decide +kernel
theorem dX11_edge__20 : decode cX11_edge_ 20 = .ok (.iload_n 1, 1) := by decide +kernel
theorem dX11_edge__21 : decode cX11_edge_ 21 = .ok (.iload_n 2, 1) := by decide +kernel
theorem dX11_edge__22 : decode cX11_edge_ 22 = .ok (.invokevirtual 116, 3) := by decide +kernel
theorem dX11_edge__25 : decode cX11_edge_ 25 = .ok (.ifCond .ne 6, 3) := by decide +kernel
theorem dX11_edge__28 : decode cX11_edge_ 28 = .ok (.bipush (-3), 2) := by decide +kernel
theorem dX11_edge__30 : decode cX11_edge_ 30 = .ok (.ireturn, 1) := by decide +kernel
theorem dX11_edge__31 : decode cX11_edge_ 31 = .ok (.iload_n 3, 1) := by decide +kernel
theorem dX11_edge__32 : decode cX11_edge_ 32 = .ok (.ifCond .ne 10, 3) := by decide +kernel
theorem dX11_edge__35 : decode cX11_edge_ 35 = .ok (.aload_n 0, 1) := by decide +kernel
theorem dX11_edge__36 : decode cX11_edge_ 36 = .ok (.iload_n 1, 1) := by decide +kernel
theorem dX11_edge__37 : decode cX11_edge_ 37 = .ok (.iload_n 2, 1) := by decide +kernel
theorem dX11_edge__38 : decode cX11_edge_ 38 = .ok (.invokevirtual 123, 3) := by decide +kernel
theorem dX11_edge__41 : decode cX11_edge_ 41 = .ok (.ireturn, 1) := by decide +kernel
theorem dX11_edge__42 : decode cX11_edge_ 42 = .ok (.iload_n 3, 1) := by decide +kernel
theorem dX11_edge__43 : decode cX11_edge_ 43 = .ok (.iconst 3, 1) := by decide +kernel
theorem dX11_edge__44 : decode cX11_edge_ 44 = .ok (.if_icmp .ne 10, 3) := by decide +kernel
theorem dX11_edge__47 : decode cX11_edge_ 47 = .ok (.aload_n 0, 1) := by decide +kernel
theorem dX11_edge__48 : decode cX11_edge_ 48 = .ok (.iload_n 1, 1) := by decide +kernel
theorem dX11_edge__49 : decode cX11_edge_ 49 = .ok (.iload_n 2, 1) := by decide +kernel
theorem dX11_edge__50 : decode cX11_edge_ 50 = .ok (.invokevirtual 164, 3) := by decide +kernel
theorem dX11_edge__53 : decode cX11_edge_ 53 = .ok (.ireturn, 1) := by decide +kernel
theorem dX11_edge__54 : decode cX11_edge_ 54 = .ok (.iload_n 3, 1) := by decide +kernel
theorem dX11_edge__55 : decode cX11_edge_ 55 = .ok (.iconst 4, 1) := by decide +kernel
theorem dX11_edge__56 : decode cX11_edge_ 56 = .ok (.if_icmp .ne 10, 3) := by decide +kernel
theorem dX11_edge__59 : decode cX11_edge_ 59 = .ok (.aload_n 0, 1) := by decide +kernel
theorem dX11_edge__60 : decode cX11_edge_ 60 = .ok (.iload_n 1, 1) := by decide +kernel
theorem dX11_edge__61 : decode cX11_edge_ 61 = .ok (.iload_n 2, 1) := by decide +kernel
theorem dX11_edge__62 : decode cX11_edge_ 62 = .ok (.invokevirtual 144, 3) := by decide +kernel
theorem dX11_edge__65 : decode cX11_edge_ 65 = .ok (.ireturn, 1) := by decide +kernel
theorem dX11_edge__66 : decode cX11_edge_ 66 = .ok (.aload_n 0, 1) := by decide +kernel
theorem dX11_edge__67 : decode cX11_edge_ 67 = .ok (.invokevirtual 185, 3) := by decide +kernel
theorem dX11_edge__70 : decode cX11_edge_ 70 = .ok (.iload_n 3, 1) := by decide +kernel
theorem dX11_edge__71 : decode cX11_edge_ 71 = .ok (.iconst 1, 1) := by decide +kernel
theorem dX11_edge__72 : decode cX11_edge_ 72 = .ok (.if_icmp .ne 16, 3) := by decide +kernel
theorem dX11_edge__75 : decode cX11_edge_ 75 = .ok (.aload_n 0, 1) := by decide +kernel
theorem dX11_edge__76 : decode cX11_edge_ 76 = .ok (.getfield 37, 3) := by decide +kernel
theorem dX11_edge__79 : decode cX11_edge_ 79 = .ok (.iload_n 1, 1) := by decide +kernel
theorem dX11_edge__80 : decode cX11_edge_ 80 = .ok (.iload_n 2, 1) := by decide +kernel
theorem dX11_edge__81 : decode cX11_edge_ 81 = .ok (.invokestatic 92, 3) := by decide +kernel
theorem dX11_edge__84 : decode cX11_edge_ 84 = .ok (.iaload, 1) := by decide +kernel
theorem dX11_edge__85 : decode cX11_edge_ 85 = .ok (.goto 13, 3) := by decide +kernel
theorem dX11_edge__88 : decode cX11_edge_ 88 = .ok (.aload_n 0, 1) := by decide +kernel
theorem dX11_edge__89 : decode cX11_edge_ 89 = .ok (.getfield 40, 3) := by decide +kernel
theorem dX11_edge__92 : decode cX11_edge_ 92 = .ok (.iload_n 1, 1) := by decide +kernel
theorem dX11_edge__93 : decode cX11_edge_ 93 = .ok (.iload_n 2, 1) := by decide +kernel
theorem dX11_edge__94 : decode cX11_edge_ 94 = .ok (.invokestatic 92, 3) := by decide +kernel
theorem dX11_edge__97 : decode cX11_edge_ 97 = .ok (.iaload, 1) := by decide +kernel
theorem dX11_edge__98 : decode cX11_edge_ 98 = .ok (.ireturn, 1) := by decide +kernel
theorem dX11_peeled_0 : decode cX11_peeled 0 = .ok (.iload_n 1, 1) := by decide +kernel
theorem dX11_peeled_1 : decode cX11_peeled 1 = .ok (.iconst 0, 1) := by decide +kernel
theorem dX11_peeled_2 : decode cX11_peeled 2 = .ok (.aload_n 0, 1) := by decide +kernel
theorem dX11_peeled_3 : decode cX11_peeled 3 = .ok (.getfield 11, 3) := by decide +kernel
theorem dX11_peeled_6 : decode cX11_peeled 6 = .ok (.iconst 5, 1) := by decide +kernel
theorem dX11_peeled_7 : decode cX11_peeled 7 = .ok (.iaload, 1) := by decide +kernel
theorem dX11_peeled_8 : decode cX11_peeled 8 = .ok (.iconst 1, 1) := by decide +kernel
theorem dX11_peeled_9 : decode cX11_peeled 9 = .ok (.isub, 1) := by decide +kernel
theorem dX11_peeled_10 : decode cX11_peeled 10 = .ok (.invokestatic 64, 3) := by decide +kernel
theorem dX11_peeled_13 : decode cX11_peeled 13 = .ok (.ifCond .eq 12, 3) := by decide +kernel
theorem dX11_peeled_16 : decode cX11_peeled 16 = .ok (.iload_n 2, 1) := by decide +kernel
theorem dX11_peeled_17 : decode cX11_peeled 17 = .ok (.iconst 0, 1) := by decide +kernel
theorem dX11_peeled_18 : decode cX11_peeled 18 = .ok (.iconst 2, 1) := by decide +kernel
theorem dX11_peeled_19 : decode cX11_peeled 19 = .ok (.invokestatic 64, 3) := by decide +kernel
theorem dX11_peeled_22 : decode cX11_peeled 22 = .ok (.ifCond .ne 5, 3) := by decide +kernel
theorem dX11_peeled_25 : decode cX11_peeled 25 = .ok (.iconst (-1), 1) := by decide +kernel
theorem dX11_peeled_26 : decode cX11_peeled 26 = .ok (.ireturn, 1) := by decide +kernel
theorem dX11_peeled_27 : decode cX11_peeled 27 = .ok (.aload_n 0, 1) := by decide +kernel
theorem dX11_peeled_28 : decode cX11_peeled 28 = .ok (.invokevirtual 185, 3) := by decide +kernel
theorem dX11_peeled_31 : decode cX11_peeled 31 = .ok (.aload_n 0, 1) := by decide +kernel
theorem dX11_peeled_32 : decode cX11_peeled 32 = .ok (.getfield 43, 3) := by decide +kernel
theorem dX11_peeled_35 : decode cX11_peeled 35 = .ok (.iload_n 1, 1) := by decide +kernel
theorem dX11_peeled_36 : decode cX11_peeled 36 = .ok (.iaload, 1) := by decide +kernel
theorem dX11_peeled_37 : decode cX11_peeled 37 = .ok (.istore_n 3, 1) := by decide +kernel
theorem dX11_peeled_38 : decode cX11_peeled 38 = .ok (.iload_n 2, 1) := by decide +kernel
theorem dX11_peeled_39 : decode cX11_peeled 39 = .ok (.ifCond .ne 10, 3) := by decide +kernel
theorem dX11_peeled_42 : decode cX11_peeled 42 = .ok (.iload_n 3, 1) := by decide +kernel
theorem dX11_peeled_43 : decode cX11_peeled 43 = .ok (.bipush 40, 2) := by decide +kernel
theorem dX11_peeled_45 : decode cX11_peeled 45 = .ok (.idiv, 1) := by decide +kernel
theorem dX11_peeled_46 : decode cX11_peeled 46 = .ok (.goto 21, 3) := by decide +kernel
theorem dX11_peeled_49 : decode cX11_peeled 49 = .ok (.iload_n 2, 1) := by decide +kernel
theorem dX11_peeled_50 : decode cX11_peeled 50 = .ok (.iconst 1, 1) := by decide +kernel
theorem dX11_peeled_51 : decode cX11_peeled 51 = .ok (.if_icmp .ne 10, 3) := by decide +kernel
theorem dX11_peeled_54 : decode cX11_peeled 54 = .ok (.iload_n 3, 1) := by decide +kernel
theorem dX11_peeled_55 : decode cX11_peeled 55 = .ok (.bipush 40, 2) := by decide +kernel
theorem dX11_peeled_57 : decode cX11_peeled 57 = .ok (.irem, 1) := by decide +kernel
theorem dX11_peeled_58 : decode cX11_peeled 58 = .ok (.goto 9, 3) := by decide +kernel
theorem dX11_peeled_61 : decode cX11_peeled 61 = .ok (.aload_n 0, 1) := by decide +kernel
theorem dX11_peeled_62 : decode cX11_peeled 62 = .ok (.getfield 37, 3) := by decide +kernel
theorem dX11_peeled_65 : decode cX11_peeled 65 = .ok (.iload_n 3, 1) := by decide +kernel
theorem dX11_peeled_66 : decode cX11_peeled 66 = .ok (.iaload, 1) := by decide +kernel
theorem dX11_peeled_67 : decode cX11_peeled 67 = .ok (.ireturn, 1) := by decide +kernel
theorem dX11_isInTruss_0 : decode cX11_isInTruss 0 = .ok (.iload_n 1, 1) := by decide +kernel
theorem dX11_isInTruss_1 : decode cX11_isInTruss 1 = .ok (.bipush 40, 2) := by decide +kernel
theorem dX11_isInTruss_3 : decode cX11_isInTruss 3 = .ok (.idiv, 1) := by decide +kernel
theorem dX11_isInTruss_4 : decode cX11_isInTruss 4 = .ok (.iload_n 1, 1) := by decide +kernel
theorem dX11_isInTruss_5 : decode cX11_isInTruss 5 = .ok (.bipush 40, 2) := by decide +kernel
theorem dX11_isInTruss_7 : decode cX11_isInTruss 7 = .ok (.irem, 1) := by decide +kernel
theorem dX11_isInTruss_8 : decode cX11_isInTruss 8 = .ok (.if_icmp .ge 32, 3) := by decide +kernel
theorem dX11_isInTruss_11 : decode cX11_isInTruss 11 = .ok (.aload_n 0, 1) := by decide +kernel
theorem dX11_isInTruss_12 : decode cX11_isInTruss 12 = .ok (.iload_n 1, 1) := by decide +kernel
theorem dX11_isInTruss_13 : decode cX11_isInTruss 13 = .ok (.bipush 40, 2) := by decide +kernel
theorem dX11_isInTruss_15 : decode cX11_isInTruss 15 = .ok (.idiv, 1) := by decide +kernel
theorem dX11_isInTruss_16 : decode cX11_isInTruss 16 = .ok (.iload_n 1, 1) := by decide +kernel
theorem dX11_isInTruss_17 : decode cX11_isInTruss 17 = .ok (.bipush 40, 2) := by decide +kernel
theorem dX11_isInTruss_19 : decode cX11_isInTruss 19 = .ok (.irem, 1) := by decide +kernel
theorem dX11_isInTruss_20 : decode cX11_isInTruss 20 = .ok (.invokevirtual 116, 3) := by decide +kernel
theorem dX11_isInTruss_23 : decode cX11_isInTruss 23 = .ok (.ifCond .eq 17, 3) := by decide +kernel
theorem dX11_isInTruss_26 : decode cX11_isInTruss 26 = .ok (.aload_n 0, 1) := by decide +kernel
theorem dX11_isInTruss_27 : decode cX11_isInTruss 27 = .ok (.getfield 37, 3) := by decide +kernel
theorem dX11_isInTruss_30 : decode cX11_isInTruss 30 = .ok (.iload_n 1, 1) := by decide +kernel
theorem dX11_isInTruss_31 : decode cX11_isInTruss 31 = .ok (.iaload, 1) := by decide +kernel
theorem dX11_isInTruss_32 : decode cX11_isInTruss 32 = .ok (.iload_n 2, 1) := by decide +kernel
theorem dX11_isInTruss_33 : decode cX11_isInTruss 33 = .ok (.if_icmp .lt 7, 3) := by decide +kernel
theorem dX11_isInTruss_36 : decode cX11_isInTruss 36 = .ok (.iconst 1, 1) := by decide +kernel
theorem dX11_isInTruss_37 : decode cX11_isInTruss 37 = .ok (.goto 4, 3) := by decide +kernel
theorem dX11_isInTruss_40 : decode cX11_isInTruss 40 = .ok (.iconst 0, 1) := by decide +kernel
theorem dX11_isInTruss_41 : decode cX11_isInTruss 41 = .ok (.ireturn, 1) := by decide +kernel
theorem dX11_truss_0 : decode cX11_truss 0 = .ok (.aload_n 0, 1) := by decide +kernel
theorem dX11_truss_1 : decode cX11_truss 1 = .ok (.invokevirtual 185, 3) := by decide +kernel
theorem dX11_truss_4 : decode cX11_truss 4 = .ok (.iconst 0, 1) := by decide +kernel
theorem dX11_truss_5 : decode cX11_truss 5 = .ok (.istore_n 2, 1) := by decide +kernel
theorem dX11_truss_6 : decode cX11_truss 6 = .ok (.iconst 0, 1) := by decide +kernel
theorem dX11_truss_7 : decode cX11_truss 7 = .ok (.istore_n 3, 1) := by decide +kernel
theorem dX11_truss_8 : decode cX11_truss 8 = .ok (.iload_n 3, 1) := by decide +kernel
theorem dX11_truss_9 : decode cX11_truss 9 = .ok (.sipush 1600, 3) := by decide +kernel
theorem dX11_truss_12 : decode cX11_truss 12 = .ok (.if_icmp .ge 26, 3) := by decide +kernel
theorem dX11_truss_15 : decode cX11_truss 15 = .ok (.iload_n 2, 1) := by decide +kernel
theorem dX11_truss_16 : decode cX11_truss 16 = .ok (.aload_n 0, 1) := by decide +kernel
theorem dX11_truss_17 : decode cX11_truss 17 = .ok (.iload_n 3, 1) := by decide +kernel
theorem dX11_truss_18 : decode cX11_truss 18 = .ok (.iload_n 1, 1) := by decide +kernel
theorem dX11_truss_19 : decode cX11_truss 19 = .ok (.invokevirtual 188, 3) := by decide +kernel
theorem dX11_truss_22 : decode cX11_truss 22 = .ok (.ifCond .eq 7, 3) := by decide +kernel
theorem dX11_truss_25 : decode cX11_truss 25 = .ok (.iconst 1, 1) := by decide +kernel
theorem dX11_truss_26 : decode cX11_truss 26 = .ok (.goto 4, 3) := by decide +kernel
theorem dX11_truss_29 : decode cX11_truss 29 = .ok (.iconst 0, 1) := by decide +kernel
theorem dX11_truss_30 : decode cX11_truss 30 = .ok (.iadd, 1) := by decide +kernel
theorem dX11_truss_31 : decode cX11_truss 31 = .ok (.istore_n 2, 1) := by decide +kernel
theorem dX11_truss_32 : decode cX11_truss 32 = .ok (.iinc 3 1, 3) := by decide +kernel
theorem dX11_truss_35 : decode cX11_truss 35 = .ok (.goto (-27), 3) := by decide +kernel
theorem dX11_truss_38 : decode cX11_truss 38 = .ok (.iload_n 2, 1) := by decide +kernel
theorem dX11_truss_39 : decode cX11_truss 39 = .ok (.ireturn, 1) := by decide +kernel
theorem dX11_pieces_0 : decode cX11_pieces 0 = .ok (.aload_n 0, 1) := by decide +kernel
theorem dX11_pieces_1 : decode cX11_pieces 1 = .ok (.invokevirtual 185, 3) := by decide +kernel
theorem dX11_pieces_4 : decode cX11_pieces 4 = .ok (.iconst 0, 1) := by decide +kernel
theorem dX11_pieces_5 : decode cX11_pieces 5 = .ok (.istore_n 2, 1) := by decide +kernel
theorem dX11_pieces_6 : decode cX11_pieces 6 = .ok (.iload_n 2, 1) := by decide +kernel
theorem dX11_pieces_7 : decode cX11_pieces 7 = .ok (.bipush 40, 2) := by decide +kernel
theorem dX11_pieces_9 : decode cX11_pieces 9 = .ok (.if_icmp .ge 16, 3) := by decide +kernel
theorem dX11_pieces_12 : decode cX11_pieces 12 = .ok (.aload_n 0, 1) := by decide +kernel
theorem dX11_pieces_13 : decode cX11_pieces 13 = .ok (.getfield 46, 3) := by decide +kernel
theorem dX11_pieces_16 : decode cX11_pieces 16 = .ok (.iload_n 2, 1) := by decide +kernel
theorem dX11_pieces_17 : decode cX11_pieces 17 = .ok (.iload_n 2, 1) := by decide +kernel
theorem dX11_pieces_18 : decode cX11_pieces 18 = .ok (.iastore, 1) := by decide +kernel
theorem dX11_pieces_19 : decode cX11_pieces 19 = .ok (.iinc 2 1, 3) := by decide +kernel
theorem dX11_pieces_22 : decode cX11_pieces 22 = .ok (.goto (-16), 3) := by decide +kernel
theorem dX11_pieces_25 : decode cX11_pieces 25 = .ok (.iconst 1, 1) := by decide +kernel
theorem dX11_pieces_26 : decode cX11_pieces 26 = .ok (.istore_n 2, 1) := by decide +kernel
theorem dX11_pieces_27 : decode cX11_pieces 27 = .ok (.iload_n 2, 1) := by decide +kernel
theorem dX11_pieces_28 : decode cX11_pieces 28 = .ok (.ifCond .eq 120, 3) := by decide +kernel
theorem dX11_pieces_31 : decode cX11_pieces 31 = .ok (.iconst 0, 1) := by decide +kernel
theorem dX11_pieces_32 : decode cX11_pieces 32 = .ok (.istore_n 2, 1) := by decide +kernel
theorem dX11_pieces_33 : decode cX11_pieces 33 = .ok (.iconst 0, 1) := by decide +kernel
theorem dX11_pieces_34 : decode cX11_pieces 34 = .ok (.istore_n 3, 1) := by decide +kernel
theorem dX11_pieces_35 : decode cX11_pieces 35 = .ok (.iload_n 3, 1) := by decide +kernel
theorem dX11_pieces_36 : decode cX11_pieces 36 = .ok (.sipush 1600, 3) := by decide +kernel
theorem dX11_pieces_39 : decode cX11_pieces 39 = .ok (.if_icmp .ge 106, 3) := by decide +kernel
theorem dX11_pieces_42 : decode cX11_pieces 42 = .ok (.iload_n 3, 1) := by decide +kernel
theorem dX11_pieces_43 : decode cX11_pieces 43 = .ok (.bipush 40, 2) := by decide +kernel
theorem dX11_pieces_45 : decode cX11_pieces 45 = .ok (.idiv, 1) := by decide +kernel
theorem dX11_pieces_46 : decode cX11_pieces 46 = .ok (.istore 4, 2) := by decide +kernel
theorem dX11_pieces_48 : decode cX11_pieces 48 = .ok (.iload_n 3, 1) := by decide +kernel
theorem dX11_pieces_49 : decode cX11_pieces 49 = .ok (.bipush 40, 2) := by decide +kernel
theorem dX11_pieces_51 : decode cX11_pieces 51 = .ok (.irem, 1) := by decide +kernel
theorem dX11_pieces_52 : decode cX11_pieces 52 = .ok (.istore 5, 2) := by decide +kernel
theorem dX11_pieces_54 : decode cX11_pieces 54 = .ok (.aload_n 0, 1) := by decide +kernel
theorem dX11_pieces_55 : decode cX11_pieces 55 = .ok (.iload_n 3, 1) := by decide +kernel
theorem dX11_pieces_56 : decode cX11_pieces 56 = .ok (.iload_n 1, 1) := by decide +kernel
theorem dX11_pieces_57 : decode cX11_pieces 57 = .ok (.invokevirtual 188, 3) := by decide +kernel
theorem dX11_pieces_60 : decode cX11_pieces 60 = .ok (.ifCond .eq 79, 3) := by decide +kernel
theorem dX11_pieces_63 : decode cX11_pieces 63 = .ok (.aload_n 0, 1) := by decide +kernel
theorem dX11_pieces_64 : decode cX11_pieces 64 = .ok (.getfield 46, 3) := by decide +kernel
theorem dX11_pieces_67 : decode cX11_pieces 67 = .ok (.iload 4, 2) := by decide +kernel
theorem dX11_pieces_69 : decode cX11_pieces 69 = .ok (.iaload, 1) := by decide +kernel
theorem dX11_pieces_70 : decode cX11_pieces 70 = .ok (.aload_n 0, 1) := by decide +kernel
theorem dX11_pieces_71 : decode cX11_pieces 71 = .ok (.getfield 46, 3) := by decide +kernel
theorem dX11_pieces_74 : decode cX11_pieces 74 = .ok (.iload 5, 2) := by decide +kernel
theorem dX11_pieces_76 : decode cX11_pieces 76 = .ok (.iaload, 1) := by decide +kernel
theorem dX11_pieces_77 : decode cX11_pieces 77 = .ok (.if_icmp .ne 6, 3) := by decide +kernel
theorem dX11_pieces_80 : decode cX11_pieces 80 = .ok (.goto 59, 3) := by decide +kernel
theorem dX11_pieces_83 : decode cX11_pieces 83 = .ok (.aload_n 0, 1) := by decide +kernel
theorem dX11_pieces_84 : decode cX11_pieces 84 = .ok (.getfield 46, 3) := by decide +kernel
theorem dX11_pieces_87 : decode cX11_pieces 87 = .ok (.iload 4, 2) := by decide +kernel
theorem dX11_pieces_89 : decode cX11_pieces 89 = .ok (.iaload, 1) := by decide +kernel
theorem dX11_pieces_90 : decode cX11_pieces 90 = .ok (.aload_n 0, 1) := by decide +kernel
theorem dX11_pieces_91 : decode cX11_pieces 91 = .ok (.getfield 46, 3) := by decide +kernel
theorem dX11_pieces_94 : decode cX11_pieces 94 = .ok (.iload 5, 2) := by decide +kernel
theorem dX11_pieces_96 : decode cX11_pieces 96 = .ok (.iaload, 1) := by decide +kernel
theorem dX11_pieces_97 : decode cX11_pieces 97 = .ok (.if_icmp .ge 13, 3) := by decide +kernel
theorem dX11_pieces_100 : decode cX11_pieces 100 = .ok (.aload_n 0, 1) := by decide +kernel
theorem dX11_pieces_101 : decode cX11_pieces 101 = .ok (.getfield 46, 3) := by decide +kernel
theorem dX11_pieces_104 : decode cX11_pieces 104 = .ok (.iload 4, 2) := by decide +kernel
theorem dX11_pieces_106 : decode cX11_pieces 106 = .ok (.iaload, 1) := by decide +kernel
theorem dX11_pieces_107 : decode cX11_pieces 107 = .ok (.goto 10, 3) := by decide +kernel
theorem dX11_pieces_110 : decode cX11_pieces 110 = .ok (.aload_n 0, 1) := by decide +kernel
theorem dX11_pieces_111 : decode cX11_pieces 111 = .ok (.getfield 46, 3) := by decide +kernel
theorem dX11_pieces_114 : decode cX11_pieces 114 = .ok (.iload 5, 2) := by decide +kernel
theorem dX11_pieces_116 : decode cX11_pieces 116 = .ok (.iaload, 1) := by decide +kernel
theorem dX11_pieces_117 : decode cX11_pieces 117 = .ok (.istore 6, 2) := by decide +kernel
theorem dX11_pieces_119 : decode cX11_pieces 119 = .ok (.aload_n 0, 1) := by decide +kernel
theorem dX11_pieces_120 : decode cX11_pieces 120 = .ok (.getfield 46, 3) := by decide +kernel
theorem dX11_pieces_123 : decode cX11_pieces 123 = .ok (.iload 4, 2) := by decide +kernel
theorem dX11_pieces_125 : decode cX11_pieces 125 = .ok (.iload 6, 2) := by decide +kernel
theorem dX11_pieces_127 : decode cX11_pieces 127 = .ok (.iastore, 1) := by decide +kernel
theorem dX11_pieces_128 : decode cX11_pieces 128 = .ok (.aload_n 0, 1) := by decide +kernel
theorem dX11_pieces_129 : decode cX11_pieces 129 = .ok (.getfield 46, 3) := by decide +kernel
theorem dX11_pieces_132 : decode cX11_pieces 132 = .ok (.iload 5, 2) := by decide +kernel
theorem dX11_pieces_134 : decode cX11_pieces 134 = .ok (.iload 6, 2) := by decide +kernel
theorem dX11_pieces_136 : decode cX11_pieces 136 = .ok (.iastore, 1) := by decide +kernel
theorem dX11_pieces_137 : decode cX11_pieces 137 = .ok (.iconst 1, 1) := by decide +kernel
theorem dX11_pieces_138 : decode cX11_pieces 138 = .ok (.istore_n 2, 1) := by decide +kernel
theorem dX11_pieces_139 : decode cX11_pieces 139 = .ok (.iinc 3 1, 3) := by decide +kernel
theorem dX11_pieces_142 : decode cX11_pieces 142 = .ok (.goto (-107), 3) := by decide +kernel
theorem dX11_pieces_145 : decode cX11_pieces 145 = .ok (.goto (-118), 3) := by decide +kernel
theorem dX11_pieces_148 : decode cX11_pieces 148 = .ok (.iconst 0, 1) := by decide +kernel
theorem dX11_pieces_149 : decode cX11_pieces 149 = .ok (.istore_n 3, 1) := by decide +kernel
theorem dX11_pieces_150 : decode cX11_pieces 150 = .ok (.iconst 0, 1) := by decide +kernel
theorem dX11_pieces_151 : decode cX11_pieces 151 = .ok (.istore 4, 2) := by decide +kernel
theorem dX11_pieces_153 : decode cX11_pieces 153 = .ok (.iload 4, 2) := by decide +kernel
theorem dX11_pieces_155 : decode cX11_pieces 155 = .ok (.bipush 40, 2) := by decide +kernel
theorem dX11_pieces_157 : decode cX11_pieces 157 = .ok (.if_icmp .ge 85, 3) := by decide +kernel
theorem dX11_pieces_160 : decode cX11_pieces 160 = .ok (.iconst 0, 1) := by decide +kernel
theorem dX11_pieces_161 : decode cX11_pieces 161 = .ok (.istore 5, 2) := by decide +kernel
theorem dX11_pieces_163 : decode cX11_pieces 163 = .ok (.iconst 0, 1) := by decide +kernel
theorem dX11_pieces_164 : decode cX11_pieces 164 = .ok (.istore 6, 2) := by decide +kernel
theorem dX11_pieces_166 : decode cX11_pieces 166 = .ok (.iload 6, 2) := by decide +kernel
theorem dX11_pieces_168 : decode cX11_pieces 168 = .ok (.bipush 40, 2) := by decide +kernel
theorem dX11_pieces_170 : decode cX11_pieces 170 = .ok (.if_icmp .ge 41, 3) := by decide +kernel
theorem dX11_pieces_173 : decode cX11_pieces 173 = .ok (.iload 5, 2) := by decide +kernel
theorem dX11_pieces_175 : decode cX11_pieces 175 = .ok (.iload 6, 2) := by decide +kernel
theorem dX11_pieces_177 : decode cX11_pieces 177 = .ok (.iload 4, 2) := by decide +kernel
theorem dX11_pieces_179 : decode cX11_pieces 179 = .ok (.if_icmp .eq 22, 3) := by decide +kernel
theorem dX11_pieces_182 : decode cX11_pieces 182 = .ok (.aload_n 0, 1) := by decide +kernel
theorem dX11_pieces_183 : decode cX11_pieces 183 = .ok (.iload 4, 2) := by decide +kernel
theorem dX11_pieces_185 : decode cX11_pieces 185 = .ok (.iload 6, 2) := by decide +kernel
theorem dX11_pieces_187 : decode cX11_pieces 187 = .ok (.invokestatic 92, 3) := by decide +kernel
theorem dX11_pieces_190 : decode cX11_pieces 190 = .ok (.iload_n 1, 1) := by decide +kernel
theorem dX11_pieces_191 : decode cX11_pieces 191 = .ok (.invokevirtual 188, 3) := by decide +kernel
theorem dX11_pieces_194 : decode cX11_pieces 194 = .ok (.ifCond .eq 7, 3) := by decide +kernel
theorem dX11_pieces_197 : decode cX11_pieces 197 = .ok (.iconst 1, 1) := by decide +kernel
theorem dX11_pieces_198 : decode cX11_pieces 198 = .ok (.goto 4, 3) := by decide +kernel
theorem dX11_pieces_201 : decode cX11_pieces 201 = .ok (.iconst 0, 1) := by decide +kernel
theorem dX11_pieces_202 : decode cX11_pieces 202 = .ok (.ior, 1) := by decide +kernel
theorem dX11_pieces_203 : decode cX11_pieces 203 = .ok (.istore 5, 2) := by decide +kernel
theorem dX11_pieces_205 : decode cX11_pieces 205 = .ok (.iinc 6 1, 3) := by decide +kernel
theorem dX11_pieces_208 : decode cX11_pieces 208 = .ok (.goto (-42), 3) := by decide +kernel
theorem dX11_pieces_211 : decode cX11_pieces 211 = .ok (.iload_n 3, 1) := by decide +kernel
theorem dX11_pieces_212 : decode cX11_pieces 212 = .ok (.iload 5, 2) := by decide +kernel
theorem dX11_pieces_214 : decode cX11_pieces 214 = .ok (.ifCond .eq 19, 3) := by decide +kernel
theorem dX11_pieces_217 : decode cX11_pieces 217 = .ok (.aload_n 0, 1) := by decide +kernel
theorem dX11_pieces_218 : decode cX11_pieces 218 = .ok (.getfield 46, 3) := by decide +kernel
theorem dX11_pieces_221 : decode cX11_pieces 221 = .ok (.iload 4, 2) := by decide +kernel
theorem dX11_pieces_223 : decode cX11_pieces 223 = .ok (.iaload, 1) := by decide +kernel
theorem dX11_pieces_224 : decode cX11_pieces 224 = .ok (.iload 4, 2) := by decide +kernel
theorem dX11_pieces_226 : decode cX11_pieces 226 = .ok (.if_icmp .ne 7, 3) := by decide +kernel
theorem dX11_pieces_229 : decode cX11_pieces 229 = .ok (.iconst 1, 1) := by decide +kernel
theorem dX11_pieces_230 : decode cX11_pieces 230 = .ok (.goto 4, 3) := by decide +kernel
theorem dX11_pieces_233 : decode cX11_pieces 233 = .ok (.iconst 0, 1) := by decide +kernel
theorem dX11_pieces_234 : decode cX11_pieces 234 = .ok (.iadd, 1) := by decide +kernel
theorem dX11_pieces_235 : decode cX11_pieces 235 = .ok (.istore_n 3, 1) := by decide +kernel
theorem dX11_pieces_236 : decode cX11_pieces 236 = .ok (.iinc 4 1, 3) := by decide +kernel
theorem dX11_pieces_239 : decode cX11_pieces 239 = .ok (.goto (-86), 3) := by decide +kernel
theorem dX11_pieces_242 : decode cX11_pieces 242 = .ok (.iload_n 3, 1) := by decide +kernel
theorem dX11_pieces_243 : decode cX11_pieces 243 = .ok (.ireturn, 1) := by decide +kernel
theorem dX11_hoodsBy_0 : decode cX11_hoodsBy 0 = .ok (.aload_n 0, 1) := by decide +kernel
theorem dX11_hoodsBy_1 : decode cX11_hoodsBy 1 = .ok (.invokevirtual 185, 3) := by decide +kernel
theorem dX11_hoodsBy_4 : decode cX11_hoodsBy 4 = .ok (.iconst 0, 1) := by decide +kernel
theorem dX11_hoodsBy_5 : decode cX11_hoodsBy 5 = .ok (.istore_n 2, 1) := by decide +kernel
theorem dX11_hoodsBy_6 : decode cX11_hoodsBy 6 = .ok (.iload_n 2, 1) := by decide +kernel
theorem dX11_hoodsBy_7 : decode cX11_hoodsBy 7 = .ok (.sipush 1600, 3) := by decide +kernel
theorem dX11_hoodsBy_10 : decode cX11_hoodsBy 10 = .ok (.if_icmp .ge 16, 3) := by decide +kernel
theorem dX11_hoodsBy_13 : decode cX11_hoodsBy 13 = .ok (.aload_n 0, 1) := by decide +kernel
theorem dX11_hoodsBy_14 : decode cX11_hoodsBy 14 = .ok (.getfield 46, 3) := by decide +kernel
theorem dX11_hoodsBy_17 : decode cX11_hoodsBy 17 = .ok (.iload_n 2, 1) := by decide +kernel
theorem dX11_hoodsBy_18 : decode cX11_hoodsBy 18 = .ok (.iload_n 2, 1) := by decide +kernel
theorem dX11_hoodsBy_19 : decode cX11_hoodsBy 19 = .ok (.iastore, 1) := by decide +kernel
theorem dX11_hoodsBy_20 : decode cX11_hoodsBy 20 = .ok (.iinc 2 1, 3) := by decide +kernel
theorem dX11_hoodsBy_23 : decode cX11_hoodsBy 23 = .ok (.goto (-17), 3) := by decide +kernel
theorem dX11_hoodsBy_26 : decode cX11_hoodsBy 26 = .ok (.iconst 1, 1) := by decide +kernel
theorem dX11_hoodsBy_27 : decode cX11_hoodsBy 27 = .ok (.istore_n 2, 1) := by decide +kernel
theorem dX11_hoodsBy_28 : decode cX11_hoodsBy 28 = .ok (.iload_n 2, 1) := by decide +kernel
theorem dX11_hoodsBy_29 : decode cX11_hoodsBy 29 = .ok (.ifCond .eq 269, 3) := by decide +kernel
theorem dX11_hoodsBy_32 : decode cX11_hoodsBy 32 = .ok (.iconst 0, 1) := by decide +kernel
theorem dX11_hoodsBy_33 : decode cX11_hoodsBy 33 = .ok (.istore_n 2, 1) := by decide +kernel
theorem dX11_hoodsBy_34 : decode cX11_hoodsBy 34 = .ok (.iconst 0, 1) := by decide +kernel
theorem dX11_hoodsBy_35 : decode cX11_hoodsBy 35 = .ok (.istore_n 3, 1) := by decide +kernel
theorem dX11_hoodsBy_36 : decode cX11_hoodsBy 36 = .ok (.iload_n 3, 1) := by decide +kernel
theorem dX11_hoodsBy_37 : decode cX11_hoodsBy 37 = .ok (.sipush 1600, 3) := by decide +kernel
theorem dX11_hoodsBy_40 : decode cX11_hoodsBy 40 = .ok (.if_icmp .ge 255, 3) := by decide +kernel
theorem dX11_hoodsBy_43 : decode cX11_hoodsBy 43 = .ok (.aload_n 0, 1) := by decide +kernel
theorem dX11_hoodsBy_44 : decode cX11_hoodsBy 44 = .ok (.iload_n 3, 1) := by decide +kernel
theorem dX11_hoodsBy_45 : decode cX11_hoodsBy 45 = .ok (.iload_n 1, 1) := by decide +kernel
theorem dX11_hoodsBy_46 : decode cX11_hoodsBy 46 = .ok (.invokevirtual 188, 3) := by decide +kernel
theorem dX11_hoodsBy_49 : decode cX11_hoodsBy 49 = .ok (.ifCond .ne 6, 3) := by decide +kernel
theorem dX11_hoodsBy_52 : decode cX11_hoodsBy 52 = .ok (.goto 237, 3) := by decide +kernel
theorem dX11_hoodsBy_55 : decode cX11_hoodsBy 55 = .ok (.iconst 0, 1) := by decide +kernel
theorem dX11_hoodsBy_56 : decode cX11_hoodsBy 56 = .ok (.istore 4, 2) := by decide +kernel
theorem dX11_hoodsBy_58 : decode cX11_hoodsBy 58 = .ok (.iload 4, 2) := by decide +kernel
theorem dX11_hoodsBy_60 : decode cX11_hoodsBy 60 = .ok (.bipush 40, 2) := by decide +kernel
theorem dX11_hoodsBy_62 : decode cX11_hoodsBy 62 = .ok (.if_icmp .ge 227, 3) := by decide +kernel
theorem dX11_hoodsBy_65 : decode cX11_hoodsBy 65 = .ok (.iload_n 3, 1) := by decide +kernel
theorem dX11_hoodsBy_66 : decode cX11_hoodsBy 66 = .ok (.bipush 40, 2) := by decide +kernel
theorem dX11_hoodsBy_68 : decode cX11_hoodsBy 68 = .ok (.idiv, 1) := by decide +kernel
theorem dX11_hoodsBy_69 : decode cX11_hoodsBy 69 = .ok (.istore 5, 2) := by decide +kernel
theorem dX11_hoodsBy_71 : decode cX11_hoodsBy 71 = .ok (.iload_n 3, 1) := by decide +kernel
theorem dX11_hoodsBy_72 : decode cX11_hoodsBy 72 = .ok (.bipush 40, 2) := by decide +kernel
theorem dX11_hoodsBy_74 : decode cX11_hoodsBy 74 = .ok (.irem, 1) := by decide +kernel
theorem dX11_hoodsBy_75 : decode cX11_hoodsBy 75 = .ok (.istore 6, 2) := by decide +kernel
theorem dX11_hoodsBy_77 : decode cX11_hoodsBy 77 = .ok (.iload 4, 2) := by decide +kernel
theorem dX11_hoodsBy_79 : decode cX11_hoodsBy 79 = .ok (.iload 5, 2) := by decide +kernel
theorem dX11_hoodsBy_81 : decode cX11_hoodsBy 81 = .ok (.if_icmp .eq 202, 3) := by decide +kernel
theorem dX11_hoodsBy_84 : decode cX11_hoodsBy 84 = .ok (.iload 4, 2) := by decide +kernel
theorem dX11_hoodsBy_86 : decode cX11_hoodsBy 86 = .ok (.iload 6, 2) := by decide +kernel
theorem dX11_hoodsBy_88 : decode cX11_hoodsBy 88 = .ok (.if_icmp .eq 195, 3) := by decide +kernel
theorem dX11_hoodsBy_91 : decode cX11_hoodsBy 91 = .ok (.aload_n 0, 1) := by decide +kernel
theorem dX11_hoodsBy_92 : decode cX11_hoodsBy 92 = .ok (.iload 5, 2) := by decide +kernel
theorem dX11_hoodsBy_94 : decode cX11_hoodsBy 94 = .ok (.iload 4, 2) := by decide +kernel
theorem dX11_hoodsBy_96 : decode cX11_hoodsBy 96 = .ok (.invokestatic 92, 3) := by decide +kernel
theorem dX11_hoodsBy_99 : decode cX11_hoodsBy 99 = .ok (.iload_n 1, 1) := by decide +kernel
theorem dX11_hoodsBy_100 : decode cX11_hoodsBy 100 = .ok (.invokevirtual 188, 3) := by decide +kernel
theorem dX11_hoodsBy_103 : decode cX11_hoodsBy 103 = .ok (.ifCond .eq 180, 3) := by decide +kernel
theorem dX11_hoodsBy_106 : decode cX11_hoodsBy 106 = .ok (.aload_n 0, 1) := by decide +kernel
theorem dX11_hoodsBy_107 : decode cX11_hoodsBy 107 = .ok (.iload 6, 2) := by decide +kernel
theorem dX11_hoodsBy_109 : decode cX11_hoodsBy 109 = .ok (.iload 4, 2) := by decide +kernel
theorem dX11_hoodsBy_111 : decode cX11_hoodsBy 111 = .ok (.invokestatic 92, 3) := by decide +kernel
theorem dX11_hoodsBy_114 : decode cX11_hoodsBy 114 = .ok (.iload_n 1, 1) := by decide +kernel
theorem dX11_hoodsBy_115 : decode cX11_hoodsBy 115 = .ok (.invokevirtual 188, 3) := by decide +kernel
theorem dX11_hoodsBy_118 : decode cX11_hoodsBy 118 = .ok (.ifCond .ne 6, 3) := by decide +kernel
theorem dX11_hoodsBy_121 : decode cX11_hoodsBy 121 = .ok (.goto 162, 3) := by decide +kernel
theorem dX11_hoodsBy_124 : decode cX11_hoodsBy 124 = .ok (.aload_n 0, 1) := by decide +kernel
theorem dX11_hoodsBy_125 : decode cX11_hoodsBy 125 = .ok (.getfield 46, 3) := by decide +kernel
theorem dX11_hoodsBy_128 : decode cX11_hoodsBy 128 = .ok (.iload_n 3, 1) := by decide +kernel
theorem dX11_hoodsBy_129 : decode cX11_hoodsBy 129 = .ok (.iaload, 1) := by decide +kernel
theorem dX11_hoodsBy_130 : decode cX11_hoodsBy 130 = .ok (.istore 7, 2) := by decide +kernel
theorem dX11_hoodsBy_132 : decode cX11_hoodsBy 132 = .ok (.aload_n 0, 1) := by decide +kernel
theorem dX11_hoodsBy_133 : decode cX11_hoodsBy 133 = .ok (.getfield 46, 3) := by decide +kernel
theorem dX11_hoodsBy_136 : decode cX11_hoodsBy 136 = .ok (.iload 5, 2) := by decide +kernel
theorem dX11_hoodsBy_138 : decode cX11_hoodsBy 138 = .ok (.iload 4, 2) := by decide +kernel
theorem dX11_hoodsBy_140 : decode cX11_hoodsBy 140 = .ok (.invokestatic 92, 3) := by decide +kernel
theorem dX11_hoodsBy_143 : decode cX11_hoodsBy 143 = .ok (.iaload, 1) := by decide +kernel
theorem dX11_hoodsBy_144 : decode cX11_hoodsBy 144 = .ok (.iload 7, 2) := by decide +kernel
theorem dX11_hoodsBy_146 : decode cX11_hoodsBy 146 = .ok (.if_icmp .ge 17, 3) := by decide +kernel
theorem dX11_hoodsBy_149 : decode cX11_hoodsBy 149 = .ok (.aload_n 0, 1) := by decide +kernel
theorem dX11_hoodsBy_150 : decode cX11_hoodsBy 150 = .ok (.getfield 46, 3) := by decide +kernel
theorem dX11_hoodsBy_153 : decode cX11_hoodsBy 153 = .ok (.iload 5, 2) := by decide +kernel
theorem dX11_hoodsBy_155 : decode cX11_hoodsBy 155 = .ok (.iload 4, 2) := by decide +kernel
theorem dX11_hoodsBy_157 : decode cX11_hoodsBy 157 = .ok (.invokestatic 92, 3) := by decide +kernel
theorem dX11_hoodsBy_160 : decode cX11_hoodsBy 160 = .ok (.iaload, 1) := by decide +kernel
theorem dX11_hoodsBy_161 : decode cX11_hoodsBy 161 = .ok (.istore 7, 2) := by decide +kernel
theorem dX11_hoodsBy_163 : decode cX11_hoodsBy 163 = .ok (.aload_n 0, 1) := by decide +kernel
theorem dX11_hoodsBy_164 : decode cX11_hoodsBy 164 = .ok (.getfield 46, 3) := by decide +kernel
theorem dX11_hoodsBy_167 : decode cX11_hoodsBy 167 = .ok (.iload 6, 2) := by decide +kernel
theorem dX11_hoodsBy_169 : decode cX11_hoodsBy 169 = .ok (.iload 4, 2) := by decide +kernel
theorem dX11_hoodsBy_171 : decode cX11_hoodsBy 171 = .ok (.invokestatic 92, 3) := by decide +kernel
theorem dX11_hoodsBy_174 : decode cX11_hoodsBy 174 = .ok (.iaload, 1) := by decide +kernel
theorem dX11_hoodsBy_175 : decode cX11_hoodsBy 175 = .ok (.iload 7, 2) := by decide +kernel
theorem dX11_hoodsBy_177 : decode cX11_hoodsBy 177 = .ok (.if_icmp .ge 17, 3) := by decide +kernel
theorem dX11_hoodsBy_180 : decode cX11_hoodsBy 180 = .ok (.aload_n 0, 1) := by decide +kernel
theorem dX11_hoodsBy_181 : decode cX11_hoodsBy 181 = .ok (.getfield 46, 3) := by decide +kernel
theorem dX11_hoodsBy_184 : decode cX11_hoodsBy 184 = .ok (.iload 6, 2) := by decide +kernel
theorem dX11_hoodsBy_186 : decode cX11_hoodsBy 186 = .ok (.iload 4, 2) := by decide +kernel
theorem dX11_hoodsBy_188 : decode cX11_hoodsBy 188 = .ok (.invokestatic 92, 3) := by decide +kernel
theorem dX11_hoodsBy_191 : decode cX11_hoodsBy 191 = .ok (.iaload, 1) := by decide +kernel
theorem dX11_hoodsBy_192 : decode cX11_hoodsBy 192 = .ok (.istore 7, 2) := by decide +kernel
theorem dX11_hoodsBy_194 : decode cX11_hoodsBy 194 = .ok (.iload_n 2, 1) := by decide +kernel
theorem dX11_hoodsBy_195 : decode cX11_hoodsBy 195 = .ok (.aload_n 0, 1) := by decide +kernel
theorem dX11_hoodsBy_196 : decode cX11_hoodsBy 196 = .ok (.getfield 46, 3) := by decide +kernel
theorem dX11_hoodsBy_199 : decode cX11_hoodsBy 199 = .ok (.iload_n 3, 1) := by decide +kernel
theorem dX11_hoodsBy_200 : decode cX11_hoodsBy 200 = .ok (.iaload, 1) := by decide +kernel
theorem dX11_hoodsBy_201 : decode cX11_hoodsBy 201 = .ok (.iload 7, 2) := by decide +kernel
theorem dX11_hoodsBy_203 : decode cX11_hoodsBy 203 = .ok (.if_icmp .ne 37, 3) := by decide +kernel
theorem dX11_hoodsBy_206 : decode cX11_hoodsBy 206 = .ok (.aload_n 0, 1) := by decide +kernel
theorem dX11_hoodsBy_207 : decode cX11_hoodsBy 207 = .ok (.getfield 46, 3) := by decide +kernel
theorem dX11_hoodsBy_210 : decode cX11_hoodsBy 210 = .ok (.iload 5, 2) := by decide +kernel
theorem dX11_hoodsBy_212 : decode cX11_hoodsBy 212 = .ok (.iload 4, 2) := by decide +kernel
theorem dX11_hoodsBy_214 : decode cX11_hoodsBy 214 = .ok (.invokestatic 92, 3) := by decide +kernel
theorem dX11_hoodsBy_217 : decode cX11_hoodsBy 217 = .ok (.iaload, 1) := by decide +kernel
theorem dX11_hoodsBy_218 : decode cX11_hoodsBy 218 = .ok (.iload 7, 2) := by decide +kernel
theorem dX11_hoodsBy_220 : decode cX11_hoodsBy 220 = .ok (.if_icmp .ne 20, 3) := by decide +kernel
theorem dX11_hoodsBy_223 : decode cX11_hoodsBy 223 = .ok (.aload_n 0, 1) := by decide +kernel
theorem dX11_hoodsBy_224 : decode cX11_hoodsBy 224 = .ok (.getfield 46, 3) := by decide +kernel
theorem dX11_hoodsBy_227 : decode cX11_hoodsBy 227 = .ok (.iload 6, 2) := by decide +kernel
theorem dX11_hoodsBy_229 : decode cX11_hoodsBy 229 = .ok (.iload 4, 2) := by decide +kernel
theorem dX11_hoodsBy_231 : decode cX11_hoodsBy 231 = .ok (.invokestatic 92, 3) := by decide +kernel
theorem dX11_hoodsBy_234 : decode cX11_hoodsBy 234 = .ok (.iaload, 1) := by decide +kernel
theorem dX11_hoodsBy_235 : decode cX11_hoodsBy 235 = .ok (.iload 7, 2) := by decide +kernel
theorem dX11_hoodsBy_237 : decode cX11_hoodsBy 237 = .ok (.if_icmp .eq 7, 3) := by decide +kernel
theorem dX11_hoodsBy_240 : decode cX11_hoodsBy 240 = .ok (.iconst 1, 1) := by decide +kernel
theorem dX11_hoodsBy_241 : decode cX11_hoodsBy 241 = .ok (.goto 4, 3) := by decide +kernel
theorem dX11_hoodsBy_244 : decode cX11_hoodsBy 244 = .ok (.iconst 0, 1) := by decide +kernel
theorem dX11_hoodsBy_245 : decode cX11_hoodsBy 245 = .ok (.ior, 1) := by decide +kernel
theorem dX11_hoodsBy_246 : decode cX11_hoodsBy 246 = .ok (.istore_n 2, 1) := by decide +kernel
theorem dX11_hoodsBy_247 : decode cX11_hoodsBy 247 = .ok (.aload_n 0, 1) := by decide +kernel
theorem dX11_hoodsBy_248 : decode cX11_hoodsBy 248 = .ok (.getfield 46, 3) := by decide +kernel
theorem dX11_hoodsBy_251 : decode cX11_hoodsBy 251 = .ok (.iload_n 3, 1) := by decide +kernel
theorem dX11_hoodsBy_252 : decode cX11_hoodsBy 252 = .ok (.iload 7, 2) := by decide +kernel
theorem dX11_hoodsBy_254 : decode cX11_hoodsBy 254 = .ok (.iastore, 1) := by decide +kernel
theorem dX11_hoodsBy_255 : decode cX11_hoodsBy 255 = .ok (.aload_n 0, 1) := by decide +kernel
theorem dX11_hoodsBy_256 : decode cX11_hoodsBy 256 = .ok (.getfield 46, 3) := by decide +kernel
theorem dX11_hoodsBy_259 : decode cX11_hoodsBy 259 = .ok (.iload 5, 2) := by decide +kernel
theorem dX11_hoodsBy_261 : decode cX11_hoodsBy 261 = .ok (.iload 4, 2) := by decide +kernel
theorem dX11_hoodsBy_263 : decode cX11_hoodsBy 263 = .ok (.invokestatic 92, 3) := by decide +kernel
theorem dX11_hoodsBy_266 : decode cX11_hoodsBy 266 = .ok (.iload 7, 2) := by decide +kernel
theorem dX11_hoodsBy_268 : decode cX11_hoodsBy 268 = .ok (.iastore, 1) := by decide +kernel
theorem dX11_hoodsBy_269 : decode cX11_hoodsBy 269 = .ok (.aload_n 0, 1) := by decide +kernel
theorem dX11_hoodsBy_270 : decode cX11_hoodsBy 270 = .ok (.getfield 46, 3) := by decide +kernel
theorem dX11_hoodsBy_273 : decode cX11_hoodsBy 273 = .ok (.iload 6, 2) := by decide +kernel
theorem dX11_hoodsBy_275 : decode cX11_hoodsBy 275 = .ok (.iload 4, 2) := by decide +kernel
theorem dX11_hoodsBy_277 : decode cX11_hoodsBy 277 = .ok (.invokestatic 92, 3) := by decide +kernel
theorem dX11_hoodsBy_280 : decode cX11_hoodsBy 280 = .ok (.iload 7, 2) := by decide +kernel
theorem dX11_hoodsBy_282 : decode cX11_hoodsBy 282 = .ok (.iastore, 1) := by decide +kernel
theorem dX11_hoodsBy_283 : decode cX11_hoodsBy 283 = .ok (.iinc 4 1, 3) := by decide +kernel
theorem dX11_hoodsBy_286 : decode cX11_hoodsBy 286 = .ok (.goto (-228), 3) := by decide +kernel
theorem dX11_hoodsBy_289 : decode cX11_hoodsBy 289 = .ok (.iinc 3 1, 3) := by decide +kernel
theorem dX11_hoodsBy_292 : decode cX11_hoodsBy 292 = .ok (.goto (-256), 3) := by decide +kernel
theorem dX11_hoodsBy_295 : decode cX11_hoodsBy 295 = .ok (.goto (-267), 3) := by decide +kernel
theorem dX11_hoodsBy_298 : decode cX11_hoodsBy 298 = .ok (.return_, 1) := by decide +kernel
theorem dX11_hood_0 : decode cX11_hood 0 = .ok (.iload_n 1, 1) := by decide +kernel
theorem dX11_hood_1 : decode cX11_hood 1 = .ok (.iload_n 2, 1) := by decide +kernel
theorem dX11_hood_2 : decode cX11_hood 2 = .ok (.invokestatic 110, 3) := by decide +kernel
theorem dX11_hood_5 : decode cX11_hood 5 = .ok (.ifCond .ne 5, 3) := by decide +kernel
theorem dX11_hood_8 : decode cX11_hood 8 = .ok (.iconst (-1), 1) := by decide +kernel
theorem dX11_hood_9 : decode cX11_hood 9 = .ok (.ireturn, 1) := by decide +kernel
theorem dX11_hood_10 : decode cX11_hood 10 = .ok (.aload_n 0, 1) := by decide +kernel
theorem dX11_hood_11 : decode cX11_hood 11 = .ok (.iload_n 1, 1) := by decide +kernel
theorem dX11_hood_12 : decode cX11_hood 12 = .ok (.iload_n 2, 1) := by decide +kernel
theorem dX11_hood_13 : decode cX11_hood 13 = .ok (.invokevirtual 116, 3) := by decide +kernel
theorem dX11_hood_16 : decode cX11_hood 16 = .ok (.ifCond .ne 6, 3) := by decide +kernel
theorem dX11_hood_19 : decode cX11_hood 19 = .ok (.bipush (-3), 2) := by decide +kernel
theorem dX11_hood_21 : decode cX11_hood 21 = .ok (.ireturn, 1) := by decide +kernel
theorem dX11_hood_22 : decode cX11_hood 22 = .ok (.aload_n 0, 1) := by decide +kernel
theorem dX11_hood_23 : decode cX11_hood 23 = .ok (.iload_n 3, 1) := by decide +kernel
theorem dX11_hood_24 : decode cX11_hood 24 = .ok (.invokevirtual 191, 3) := by decide +kernel
theorem dX11_hood_27 : decode cX11_hood 27 = .ok (.aload_n 0, 1) := by decide +kernel
theorem dX11_hood_28 : decode cX11_hood 28 = .ok (.iload_n 1, 1) := by decide +kernel
theorem dX11_hood_29 : decode cX11_hood 29 = .ok (.iload_n 2, 1) := by decide +kernel
theorem dX11_hood_30 : decode cX11_hood 30 = .ok (.invokestatic 92, 3) := by decide +kernel
theorem dX11_hood_33 : decode cX11_hood 33 = .ok (.iload_n 3, 1) := by decide +kernel
theorem dX11_hood_34 : decode cX11_hood 34 = .ok (.invokevirtual 188, 3) := by decide +kernel
theorem dX11_hood_37 : decode cX11_hood 37 = .ok (.ifCond .ne 5, 3) := by decide +kernel
theorem dX11_hood_40 : decode cX11_hood 40 = .ok (.iconst 0, 1) := by decide +kernel
theorem dX11_hood_41 : decode cX11_hood 41 = .ok (.ireturn, 1) := by decide +kernel
theorem dX11_hood_42 : decode cX11_hood 42 = .ok (.iconst 0, 1) := by decide +kernel
theorem dX11_hood_43 : decode cX11_hood 43 = .ok (.istore 4, 2) := by decide +kernel
theorem dX11_hood_45 : decode cX11_hood 45 = .ok (.iconst 0, 1) := by decide +kernel
theorem dX11_hood_46 : decode cX11_hood 46 = .ok (.istore 5, 2) := by decide +kernel
theorem dX11_hood_48 : decode cX11_hood 48 = .ok (.iload 5, 2) := by decide +kernel
theorem dX11_hood_50 : decode cX11_hood 50 = .ok (.sipush 1600, 3) := by decide +kernel
theorem dX11_hood_53 : decode cX11_hood 53 = .ok (.if_icmp .ge 49, 3) := by decide +kernel
theorem dX11_hood_56 : decode cX11_hood 56 = .ok (.iload 4, 2) := by decide +kernel
theorem dX11_hood_58 : decode cX11_hood 58 = .ok (.aload_n 0, 1) := by decide +kernel
theorem dX11_hood_59 : decode cX11_hood 59 = .ok (.iload 5, 2) := by decide +kernel
theorem dX11_hood_61 : decode cX11_hood 61 = .ok (.iload_n 3, 1) := by decide +kernel
theorem dX11_hood_62 : decode cX11_hood 62 = .ok (.invokevirtual 188, 3) := by decide +kernel
theorem dX11_hood_65 : decode cX11_hood 65 = .ok (.ifCond .eq 27, 3) := by decide +kernel
theorem dX11_hood_68 : decode cX11_hood 68 = .ok (.aload_n 0, 1) := by decide +kernel
theorem dX11_hood_69 : decode cX11_hood 69 = .ok (.getfield 46, 3) := by decide +kernel
theorem dX11_hood_72 : decode cX11_hood 72 = .ok (.iload 5, 2) := by decide +kernel
theorem dX11_hood_74 : decode cX11_hood 74 = .ok (.iaload, 1) := by decide +kernel
theorem dX11_hood_75 : decode cX11_hood 75 = .ok (.aload_n 0, 1) := by decide +kernel
theorem dX11_hood_76 : decode cX11_hood 76 = .ok (.getfield 46, 3) := by decide +kernel
theorem dX11_hood_79 : decode cX11_hood 79 = .ok (.iload_n 1, 1) := by decide +kernel
theorem dX11_hood_80 : decode cX11_hood 80 = .ok (.iload_n 2, 1) := by decide +kernel
theorem dX11_hood_81 : decode cX11_hood 81 = .ok (.invokestatic 92, 3) := by decide +kernel
theorem dX11_hood_84 : decode cX11_hood 84 = .ok (.iaload, 1) := by decide +kernel
theorem dX11_hood_85 : decode cX11_hood 85 = .ok (.if_icmp .ne 7, 3) := by decide +kernel
theorem dX11_hood_88 : decode cX11_hood 88 = .ok (.iconst 1, 1) := by decide +kernel
theorem dX11_hood_89 : decode cX11_hood 89 = .ok (.goto 4, 3) := by decide +kernel
theorem dX11_hood_92 : decode cX11_hood 92 = .ok (.iconst 0, 1) := by decide +kernel
theorem dX11_hood_93 : decode cX11_hood 93 = .ok (.iadd, 1) := by decide +kernel
theorem dX11_hood_94 : decode cX11_hood 94 = .ok (.istore 4, 2) := by decide +kernel
theorem dX11_hood_96 : decode cX11_hood 96 = .ok (.iinc 5 1, 3) := by decide +kernel
theorem dX11_hood_99 : decode cX11_hood 99 = .ok (.goto (-51), 3) := by decide +kernel
theorem dX11_hood_102 : decode cX11_hood 102 = .ok (.iload 4, 2) := by decide +kernel
theorem dX11_hood_104 : decode cX11_hood 104 = .ok (.ireturn, 1) := by decide +kernel
theorem dX11_hoods_0 : decode cX11_hoods 0 = .ok (.aload_n 0, 1) := by decide +kernel
theorem dX11_hoods_1 : decode cX11_hoods 1 = .ok (.iload_n 1, 1) := by decide +kernel
theorem dX11_hoods_2 : decode cX11_hoods 2 = .ok (.invokevirtual 191, 3) := by decide +kernel
theorem dX11_hoods_5 : decode cX11_hoods 5 = .ok (.iconst 0, 1) := by decide +kernel
theorem dX11_hoods_6 : decode cX11_hoods 6 = .ok (.istore_n 2, 1) := by decide +kernel
theorem dX11_hoods_7 : decode cX11_hoods 7 = .ok (.iconst 0, 1) := by decide +kernel
theorem dX11_hoods_8 : decode cX11_hoods 8 = .ok (.istore_n 3, 1) := by decide +kernel
theorem dX11_hoods_9 : decode cX11_hoods 9 = .ok (.iload_n 3, 1) := by decide +kernel
theorem dX11_hoods_10 : decode cX11_hoods 10 = .ok (.sipush 1600, 3) := by decide +kernel
theorem dX11_hoods_13 : decode cX11_hoods 13 = .ok (.if_icmp .ge 36, 3) := by decide +kernel
theorem dX11_hoods_16 : decode cX11_hoods 16 = .ok (.iload_n 2, 1) := by decide +kernel
theorem dX11_hoods_17 : decode cX11_hoods 17 = .ok (.aload_n 0, 1) := by decide +kernel
theorem dX11_hoods_18 : decode cX11_hoods 18 = .ok (.iload_n 3, 1) := by decide +kernel
theorem dX11_hoods_19 : decode cX11_hoods 19 = .ok (.iload_n 1, 1) := by decide +kernel
theorem dX11_hoods_20 : decode cX11_hoods 20 = .ok (.invokevirtual 188, 3) := by decide +kernel
theorem dX11_hoods_23 : decode cX11_hoods 23 = .ok (.ifCond .eq 17, 3) := by decide +kernel
theorem dX11_hoods_26 : decode cX11_hoods 26 = .ok (.aload_n 0, 1) := by decide +kernel
theorem dX11_hoods_27 : decode cX11_hoods 27 = .ok (.getfield 46, 3) := by decide +kernel
theorem dX11_hoods_30 : decode cX11_hoods 30 = .ok (.iload_n 3, 1) := by decide +kernel
theorem dX11_hoods_31 : decode cX11_hoods 31 = .ok (.iaload, 1) := by decide +kernel
theorem dX11_hoods_32 : decode cX11_hoods 32 = .ok (.iload_n 3, 1) := by decide +kernel
theorem dX11_hoods_33 : decode cX11_hoods 33 = .ok (.if_icmp .ne 7, 3) := by decide +kernel
theorem dX11_hoods_36 : decode cX11_hoods 36 = .ok (.iconst 1, 1) := by decide +kernel
theorem dX11_hoods_37 : decode cX11_hoods 37 = .ok (.goto 4, 3) := by decide +kernel
theorem dX11_hoods_40 : decode cX11_hoods 40 = .ok (.iconst 0, 1) := by decide +kernel
theorem dX11_hoods_41 : decode cX11_hoods 41 = .ok (.iadd, 1) := by decide +kernel
theorem dX11_hoods_42 : decode cX11_hoods 42 = .ok (.istore_n 2, 1) := by decide +kernel
theorem dX11_hoods_43 : decode cX11_hoods 43 = .ok (.iinc 3 1, 3) := by decide +kernel
theorem dX11_hoods_46 : decode cX11_hoods 46 = .ok (.goto (-37), 3) := by decide +kernel
theorem dX11_hoods_49 : decode cX11_hoods 49 = .ok (.iload_n 2, 1) := by decide +kernel
theorem dX11_hoods_50 : decode cX11_hoods 50 = .ok (.ireturn, 1) := by decide +kernel
theorem dX11_core_0 : decode cX11_core 0 = .ok (.aload_n 0, 1) := by decide +kernel
theorem dX11_core_1 : decode cX11_core 1 = .ok (.iload_n 1, 1) := by decide +kernel
theorem dX11_core_2 : decode cX11_core 2 = .ok (.invokevirtual 154, 3) := by decide +kernel
theorem dX11_core_5 : decode cX11_core 5 = .ok (.lreturn, 1) := by decide +kernel
theorem dX11_swap_0 : decode cX11_swap 0 = .ok (.iload_n 1, 1) := by decide +kernel
theorem dX11_swap_1 : decode cX11_swap 1 = .ok (.iload_n 2, 1) := by decide +kernel
theorem dX11_swap_2 : decode cX11_swap 2 = .ok (.invokestatic 110, 3) := by decide +kernel
theorem dX11_swap_5 : decode cX11_swap 5 = .ok (.ifCond .eq 46, 3) := by decide +kernel
theorem dX11_swap_8 : decode cX11_swap 8 = .ok (.iload_n 3, 1) := by decide +kernel
theorem dX11_swap_9 : decode cX11_swap 9 = .ok (.iload 4, 2) := by decide +kernel
theorem dX11_swap_11 : decode cX11_swap 11 = .ok (.invokestatic 110, 3) := by decide +kernel
theorem dX11_swap_14 : decode cX11_swap 14 = .ok (.ifCond .eq 37, 3) := by decide +kernel
theorem dX11_swap_17 : decode cX11_swap 17 = .ok (.iload_n 1, 1) := by decide +kernel
theorem dX11_swap_18 : decode cX11_swap 18 = .ok (.iload_n 3, 1) := by decide +kernel
theorem dX11_swap_19 : decode cX11_swap 19 = .ok (.invokestatic 110, 3) := by decide +kernel
theorem dX11_swap_22 : decode cX11_swap 22 = .ok (.ifCond .eq 29, 3) := by decide +kernel
theorem dX11_swap_25 : decode cX11_swap 25 = .ok (.iload_n 1, 1) := by decide +kernel
theorem dX11_swap_26 : decode cX11_swap 26 = .ok (.iload 4, 2) := by decide +kernel
theorem dX11_swap_28 : decode cX11_swap 28 = .ok (.invokestatic 110, 3) := by decide +kernel
theorem dX11_swap_31 : decode cX11_swap 31 = .ok (.ifCond .eq 20, 3) := by decide +kernel
theorem dX11_swap_34 : decode cX11_swap 34 = .ok (.iload_n 2, 1) := by decide +kernel
theorem dX11_swap_35 : decode cX11_swap 35 = .ok (.iload_n 3, 1) := by decide +kernel
theorem dX11_swap_36 : decode cX11_swap 36 = .ok (.invokestatic 110, 3) := by decide +kernel
theorem dX11_swap_39 : decode cX11_swap 39 = .ok (.ifCond .eq 12, 3) := by decide +kernel
theorem dX11_swap_42 : decode cX11_swap 42 = .ok (.iload_n 2, 1) := by decide +kernel
theorem dX11_swap_43 : decode cX11_swap 43 = .ok (.iload 4, 2) := by decide +kernel
theorem dX11_swap_45 : decode cX11_swap 45 = .ok (.invokestatic 110, 3) := by decide +kernel
theorem dX11_swap_48 : decode cX11_swap 48 = .ok (.ifCond .ne 5, 3) := by decide +kernel
theorem dX11_swap_51 : decode cX11_swap 51 = .ok (.iconst (-1), 1) := by decide +kernel
theorem dX11_swap_52 : decode cX11_swap 52 = .ok (.ireturn, 1) := by decide +kernel
theorem dX11_swap_53 : decode cX11_swap 53 = .ok (.aload_n 0, 1) := by decide +kernel
theorem dX11_swap_54 : decode cX11_swap 54 = .ok (.iload_n 1, 1) := by decide +kernel
theorem dX11_swap_55 : decode cX11_swap 55 = .ok (.iload_n 2, 1) := by decide +kernel
theorem dX11_swap_56 : decode cX11_swap 56 = .ok (.invokevirtual 116, 3) := by decide +kernel
theorem dX11_swap_59 : decode cX11_swap 59 = .ok (.ifCond .eq 32, 3) := by decide +kernel
theorem dX11_swap_62 : decode cX11_swap 62 = .ok (.aload_n 0, 1) := by decide +kernel
theorem dX11_swap_63 : decode cX11_swap 63 = .ok (.iload_n 3, 1) := by decide +kernel
theorem dX11_swap_64 : decode cX11_swap 64 = .ok (.iload 4, 2) := by decide +kernel
theorem dX11_swap_66 : decode cX11_swap 66 = .ok (.invokevirtual 116, 3) := by decide +kernel
theorem dX11_swap_69 : decode cX11_swap 69 = .ok (.ifCond .eq 22, 3) := by decide +kernel
theorem dX11_swap_72 : decode cX11_swap 72 = .ok (.aload_n 0, 1) := by decide +kernel
theorem dX11_swap_73 : decode cX11_swap 73 = .ok (.iload_n 1, 1) := by decide +kernel
theorem dX11_swap_74 : decode cX11_swap 74 = .ok (.iload 4, 2) := by decide +kernel
theorem dX11_swap_76 : decode cX11_swap 76 = .ok (.invokevirtual 116, 3) := by decide +kernel
theorem dX11_swap_79 : decode cX11_swap 79 = .ok (.ifCond .ne 12, 3) := by decide +kernel
theorem dX11_swap_82 : decode cX11_swap 82 = .ok (.aload_n 0, 1) := by decide +kernel
theorem dX11_swap_83 : decode cX11_swap 83 = .ok (.iload_n 3, 1) := by decide +kernel
theorem dX11_swap_84 : decode cX11_swap 84 = .ok (.iload_n 2, 1) := by decide +kernel
theorem dX11_swap_85 : decode cX11_swap 85 = .ok (.invokevirtual 116, 3) := by decide +kernel
theorem dX11_swap_88 : decode cX11_swap 88 = .ok (.ifCond .eq 6, 3) := by decide +kernel
theorem dX11_swap_91 : decode cX11_swap 91 = .ok (.bipush (-3), 2) := by decide +kernel
theorem dX11_swap_93 : decode cX11_swap 93 = .ok (.ireturn, 1) := by decide +kernel
theorem dX11_swap_94 : decode cX11_swap 94 = .ok (.aload_n 0, 1) := by decide +kernel
theorem dX11_swap_95 : decode cX11_swap 95 = .ok (.getfield 15, 3) := by decide +kernel
theorem dX11_swap_98 : decode cX11_swap 98 = .ok (.iload_n 1, 1) := by decide +kernel
theorem dX11_swap_99 : decode cX11_swap 99 = .ok (.iload_n 2, 1) := by decide +kernel
theorem dX11_swap_100 : decode cX11_swap 100 = .ok (.invokestatic 92, 3) := by decide +kernel
theorem dX11_swap_103 : decode cX11_swap 103 = .ok (.iaload, 1) := by decide +kernel
theorem dX11_swap_104 : decode cX11_swap 104 = .ok (.istore 5, 2) := by decide +kernel
theorem dX11_swap_106 : decode cX11_swap 106 = .ok (.aload_n 0, 1) := by decide +kernel
theorem dX11_swap_107 : decode cX11_swap 107 = .ok (.getfield 15, 3) := by decide +kernel
theorem dX11_swap_110 : decode cX11_swap 110 = .ok (.iload_n 3, 1) := by decide +kernel
theorem dX11_swap_111 : decode cX11_swap 111 = .ok (.iload 4, 2) := by decide +kernel
theorem dX11_swap_113 : decode cX11_swap 113 = .ok (.invokestatic 92, 3) := by decide +kernel
theorem dX11_swap_116 : decode cX11_swap 116 = .ok (.iaload, 1) := by decide +kernel
theorem dX11_swap_117 : decode cX11_swap 117 = .ok (.istore 6, 2) := by decide +kernel
theorem dX11_swap_119 : decode cX11_swap 119 = .ok (.aload_n 0, 1) := by decide +kernel
theorem dX11_swap_120 : decode cX11_swap 120 = .ok (.iload_n 1, 1) := by decide +kernel
theorem dX11_swap_121 : decode cX11_swap 121 = .ok (.iload_n 2, 1) := by decide +kernel
theorem dX11_swap_122 : decode cX11_swap 122 = .ok (.invokevirtual 126, 3) := by decide +kernel
theorem dX11_swap_125 : decode cX11_swap 125 = .ok (.aload_n 0, 1) := by decide +kernel
theorem dX11_swap_126 : decode cX11_swap 126 = .ok (.iload_n 3, 1) := by decide +kernel
theorem dX11_swap_127 : decode cX11_swap 127 = .ok (.iload 4, 2) := by decide +kernel
theorem dX11_swap_129 : decode cX11_swap 129 = .ok (.invokevirtual 126, 3) := by decide +kernel
theorem dX11_swap_132 : decode cX11_swap 132 = .ok (.aload_n 0, 1) := by decide +kernel
theorem dX11_swap_133 : decode cX11_swap 133 = .ok (.iload_n 1, 1) := by decide +kernel
theorem dX11_swap_134 : decode cX11_swap 134 = .ok (.iload 4, 2) := by decide +kernel
theorem dX11_swap_136 : decode cX11_swap 136 = .ok (.iload 5, 2) := by decide +kernel
theorem dX11_swap_138 : decode cX11_swap 138 = .ok (.invokevirtual 119, 3) := by decide +kernel
theorem dX11_swap_141 : decode cX11_swap 141 = .ok (.aload_n 0, 1) := by decide +kernel
theorem dX11_swap_142 : decode cX11_swap 142 = .ok (.iload_n 3, 1) := by decide +kernel
theorem dX11_swap_143 : decode cX11_swap 143 = .ok (.iload_n 2, 1) := by decide +kernel
theorem dX11_swap_144 : decode cX11_swap 144 = .ok (.iload 6, 2) := by decide +kernel
theorem dX11_swap_146 : decode cX11_swap 146 = .ok (.invokevirtual 119, 3) := by decide +kernel
theorem dX11_swap_149 : decode cX11_swap 149 = .ok (.aload_n 0, 1) := by decide +kernel
theorem dX11_swap_150 : decode cX11_swap 150 = .ok (.invokevirtual 194, 3) := by decide +kernel
theorem dX11_swap_153 : decode cX11_swap 153 = .ok (.ireturn, 1) := by decide +kernel
theorem dX11_near_0 : decode cX11_near 0 = .ok (.iload_n 1, 1) := by decide +kernel
theorem dX11_near_1 : decode cX11_near 1 = .ok (.invokestatic 68, 3) := by decide +kernel
theorem dX11_near_4 : decode cX11_near 4 = .ok (.ifCond .eq 12, 3) := by decide +kernel
theorem dX11_near_7 : decode cX11_near 7 = .ok (.aload_n 0, 1) := by decide +kernel
theorem dX11_near_8 : decode cX11_near 8 = .ok (.getfield 24, 3) := by decide +kernel
theorem dX11_near_11 : decode cX11_near 11 = .ok (.iload_n 1, 1) := by decide +kernel
theorem dX11_near_12 : decode cX11_near 12 = .ok (.laload, 1) := by decide +kernel
theorem dX11_near_13 : decode cX11_near 13 = .ok (.goto 6, 3) := by decide +kernel
theorem dX11_near_16 : decode cX11_near 16 = .ok (.ldc2_w 130, 3) := by decide +kernel
theorem dX11_near_19 : decode cX11_near 19 = .ok (.lreturn, 1) := by decide +kernel
theorem dX11_allTwos_0 : decode cX11_allTwos 0 = .ok (.iconst 0, 1) := by decide +kernel
theorem dX11_allTwos_1 : decode cX11_allTwos 1 = .ok (.istore_n 1, 1) := by decide +kernel
theorem dX11_allTwos_2 : decode cX11_allTwos 2 = .ok (.iconst 0, 1) := by decide +kernel
theorem dX11_allTwos_3 : decode cX11_allTwos 3 = .ok (.istore_n 2, 1) := by decide +kernel
theorem dX11_allTwos_4 : decode cX11_allTwos 4 = .ok (.iload_n 2, 1) := by decide +kernel
theorem dX11_allTwos_5 : decode cX11_allTwos 5 = .ok (.bipush 40, 2) := by decide +kernel
theorem dX11_allTwos_7 : decode cX11_allTwos 7 = .ok (.if_icmp .ge 20, 3) := by decide +kernel
theorem dX11_allTwos_10 : decode cX11_allTwos 10 = .ok (.iload_n 1, 1) := by decide +kernel
theorem dX11_allTwos_11 : decode cX11_allTwos 11 = .ok (.aload_n 0, 1) := by decide +kernel
theorem dX11_allTwos_12 : decode cX11_allTwos 12 = .ok (.iload_n 2, 1) := by decide +kernel
theorem dX11_allTwos_13 : decode cX11_allTwos 13 = .ok (.invokevirtual 84, 3) := by decide +kernel
theorem dX11_allTwos_16 : decode cX11_allTwos 16 = .ok (.invokestatic 135, 3) := by decide +kernel
theorem dX11_allTwos_19 : decode cX11_allTwos 19 = .ok (.iadd, 1) := by decide +kernel
theorem dX11_allTwos_20 : decode cX11_allTwos 20 = .ok (.istore_n 1, 1) := by decide +kernel
theorem dX11_allTwos_21 : decode cX11_allTwos 21 = .ok (.iinc 2 1, 3) := by decide +kernel
theorem dX11_allTwos_24 : decode cX11_allTwos 24 = .ok (.goto (-20), 3) := by decide +kernel
theorem dX11_allTwos_27 : decode cX11_allTwos 27 = .ok (.iload_n 1, 1) := by decide +kernel
theorem dX11_allTwos_28 : decode cX11_allTwos 28 = .ok (.ireturn, 1) := by decide +kernel
theorem dX11_told_0 : decode cX11_told 0 = .ok (.iload_n 1, 1) := by decide +kernel
theorem dX11_told_1 : decode cX11_told 1 = .ok (.tableswitch 169 0 13 #[71, 79, 85, 91, 99, 105, 110, 118, 126, 134, 142, 151, 157, 163], 71) := by decide +kernel
theorem dX11_told_72 : decode cX11_told 72 = .ok (.aload_n 0, 1) := by decide +kernel
theorem dX11_told_73 : decode cX11_told 73 = .ok (.getfield 11, 3) := by decide +kernel
theorem dX11_told_76 : decode cX11_told 76 = .ok (.iconst 5, 1) := by decide +kernel
theorem dX11_told_77 : decode cX11_told 77 = .ok (.iaload, 1) := by decide +kernel
theorem dX11_told_78 : decode cX11_told 78 = .ok (.i2l, 1) := by decide +kernel
theorem dX11_told_79 : decode cX11_told 79 = .ok (.lreturn, 1) := by decide +kernel
theorem dX11_told_80 : decode cX11_told 80 = .ok (.aload_n 0, 1) := by decide +kernel
theorem dX11_told_81 : decode cX11_told 81 = .ok (.invokevirtual 194, 3) := by decide +kernel
theorem dX11_told_84 : decode cX11_told 84 = .ok (.i2l, 1) := by decide +kernel
theorem dX11_told_85 : decode cX11_told 85 = .ok (.lreturn, 1) := by decide +kernel
theorem dX11_told_86 : decode cX11_told 86 = .ok (.aload_n 0, 1) := by decide +kernel
theorem dX11_told_87 : decode cX11_told 87 = .ok (.invokevirtual 197, 3) := by decide +kernel
theorem dX11_told_90 : decode cX11_told 90 = .ok (.i2l, 1) := by decide +kernel
theorem dX11_told_91 : decode cX11_told 91 = .ok (.lreturn, 1) := by decide +kernel
theorem dX11_told_92 : decode cX11_told 92 = .ok (.aload_n 0, 1) := by decide +kernel
theorem dX11_told_93 : decode cX11_told 93 = .ok (.getfield 11, 3) := by decide +kernel
theorem dX11_told_96 : decode cX11_told 96 = .ok (.iconst 0, 1) := by decide +kernel
theorem dX11_told_97 : decode cX11_told 97 = .ok (.iaload, 1) := by decide +kernel
theorem dX11_told_98 : decode cX11_told 98 = .ok (.i2l, 1) := by decide +kernel
theorem dX11_told_99 : decode cX11_told 99 = .ok (.lreturn, 1) := by decide +kernel
theorem dX11_told_100 : decode cX11_told 100 = .ok (.aload_n 0, 1) := by decide +kernel
theorem dX11_told_101 : decode cX11_told 101 = .ok (.invokevirtual 88, 3) := by decide +kernel
theorem dX11_told_104 : decode cX11_told 104 = .ok (.i2l, 1) := by decide +kernel
theorem dX11_told_105 : decode cX11_told 105 = .ok (.lreturn, 1) := by decide +kernel
theorem dX11_told_106 : decode cX11_told 106 = .ok (.aload_n 0, 1) := by decide +kernel
theorem dX11_told_107 : decode cX11_told 107 = .ok (.getfield 80, 3) := by decide +kernel
theorem dX11_told_110 : decode cX11_told 110 = .ok (.lreturn, 1) := by decide +kernel
theorem dX11_told_111 : decode cX11_told 111 = .ok (.aload_n 0, 1) := by decide +kernel
theorem dX11_told_112 : decode cX11_told 112 = .ok (.getfield 11, 3) := by decide +kernel
theorem dX11_told_115 : decode cX11_told 115 = .ok (.iconst 1, 1) := by decide +kernel
theorem dX11_told_116 : decode cX11_told 116 = .ok (.iaload, 1) := by decide +kernel
theorem dX11_told_117 : decode cX11_told 117 = .ok (.i2l, 1) := by decide +kernel
theorem dX11_told_118 : decode cX11_told 118 = .ok (.lreturn, 1) := by decide +kernel
theorem dX11_told_119 : decode cX11_told 119 = .ok (.aload_n 0, 1) := by decide +kernel
theorem dX11_told_120 : decode cX11_told 120 = .ok (.getfield 11, 3) := by decide +kernel
theorem dX11_told_123 : decode cX11_told 123 = .ok (.iconst 2, 1) := by decide +kernel
theorem dX11_told_124 : decode cX11_told 124 = .ok (.iaload, 1) := by decide +kernel
theorem dX11_told_125 : decode cX11_told 125 = .ok (.i2l, 1) := by decide +kernel
theorem dX11_told_126 : decode cX11_told 126 = .ok (.lreturn, 1) := by decide +kernel
theorem dX11_told_127 : decode cX11_told 127 = .ok (.aload_n 0, 1) := by decide +kernel
theorem dX11_told_128 : decode cX11_told 128 = .ok (.getfield 11, 3) := by decide +kernel
theorem dX11_told_131 : decode cX11_told 131 = .ok (.iconst 3, 1) := by decide +kernel
theorem dX11_told_132 : decode cX11_told 132 = .ok (.iaload, 1) := by decide +kernel
theorem dX11_told_133 : decode cX11_told 133 = .ok (.i2l, 1) := by decide +kernel
theorem dX11_told_134 : decode cX11_told 134 = .ok (.lreturn, 1) := by decide +kernel
theorem dX11_told_135 : decode cX11_told 135 = .ok (.aload_n 0, 1) := by decide +kernel
theorem dX11_told_136 : decode cX11_told 136 = .ok (.getfield 11, 3) := by decide +kernel
theorem dX11_told_139 : decode cX11_told 139 = .ok (.iconst 4, 1) := by decide +kernel
theorem dX11_told_140 : decode cX11_told 140 = .ok (.iaload, 1) := by decide +kernel
theorem dX11_told_141 : decode cX11_told 141 = .ok (.i2l, 1) := by decide +kernel
theorem dX11_told_142 : decode cX11_told 142 = .ok (.lreturn, 1) := by decide +kernel
theorem dX11_told_143 : decode cX11_told 143 = .ok (.aload_n 0, 1) := by decide +kernel
theorem dX11_told_144 : decode cX11_told 144 = .ok (.getfield 11, 3) := by decide +kernel
theorem dX11_told_147 : decode cX11_told 147 = .ok (.bipush 6, 2) := by decide +kernel
theorem dX11_told_149 : decode cX11_told 149 = .ok (.iaload, 1) := by decide +kernel
theorem dX11_told_150 : decode cX11_told 150 = .ok (.i2l, 1) := by decide +kernel
theorem dX11_told_151 : decode cX11_told 151 = .ok (.lreturn, 1) := by decide +kernel
theorem dX11_told_152 : decode cX11_told 152 = .ok (.aload_n 0, 1) := by decide +kernel
theorem dX11_told_153 : decode cX11_told 153 = .ok (.invokevirtual 200, 3) := by decide +kernel
theorem dX11_told_156 : decode cX11_told 156 = .ok (.i2l, 1) := by decide +kernel
theorem dX11_told_157 : decode cX11_told 157 = .ok (.lreturn, 1) := by decide +kernel
theorem dX11_told_158 : decode cX11_told 158 = .ok (.aload_n 0, 1) := by decide +kernel
theorem dX11_told_159 : decode cX11_told 159 = .ok (.getfield 203, 3) := by decide +kernel
theorem dX11_told_162 : decode cX11_told 162 = .ok (.i2l, 1) := by decide +kernel
theorem dX11_told_163 : decode cX11_told 163 = .ok (.lreturn, 1) := by decide +kernel
theorem dX11_told_164 : decode cX11_told 164 = .ok (.aload_n 0, 1) := by decide +kernel
theorem dX11_told_165 : decode cX11_told 165 = .ok (.invokevirtual 206, 3) := by decide +kernel
theorem dX11_told_168 : decode cX11_told 168 = .ok (.i2l, 1) := by decide +kernel
theorem dX11_told_169 : decode cX11_told 169 = .ok (.lreturn, 1) := by decide +kernel
theorem dX11_told_170 : decode cX11_told 170 = .ok (.ldc2_w 130, 3) := by decide +kernel
theorem dX11_told_173 : decode cX11_told 173 = .ok (.lreturn, 1) := by decide +kernel
theorem dX11_gcd_0 : decode cX11_gcd 0 = .ok (.lload_n 0, 1) := by decide +kernel
theorem dX11_gcd_1 : decode cX11_gcd 1 = .ok (.lstore 4, 2) := by decide +kernel
theorem dX11_gcd_3 : decode cX11_gcd 3 = .ok (.lload_n 2, 1) := by decide +kernel
theorem dX11_gcd_4 : decode cX11_gcd 4 = .ok (.lstore 6, 2) := by decide +kernel
theorem dX11_gcd_6 : decode cX11_gcd 6 = .ok (.lload 6, 2) := by decide +kernel
theorem dX11_gcd_8 : decode cX11_gcd 8 = .ok (.lconst 0, 1) := by decide +kernel
theorem dX11_gcd_9 : decode cX11_gcd 9 = .ok (.lcmp, 1) := by decide +kernel
theorem dX11_gcd_10 : decode cX11_gcd 10 = .ok (.ifCond .eq 21, 3) := by decide +kernel
theorem dX11_gcd_13 : decode cX11_gcd 13 = .ok (.lload 4, 2) := by decide +kernel
theorem dX11_gcd_15 : decode cX11_gcd 15 = .ok (.lload 6, 2) := by decide +kernel
theorem dX11_gcd_17 : decode cX11_gcd 17 = .ok (.lrem, 1) := by decide +kernel
theorem dX11_gcd_18 : decode cX11_gcd 18 = .ok (.lstore 8, 2) := by decide +kernel
theorem dX11_gcd_20 : decode cX11_gcd 20 = .ok (.lload 6, 2) := by decide +kernel
theorem dX11_gcd_22 : decode cX11_gcd 22 = .ok (.lstore 4, 2) := by decide +kernel
theorem dX11_gcd_24 : decode cX11_gcd 24 = .ok (.lload 8, 2) := by decide +kernel
theorem dX11_gcd_26 : decode cX11_gcd 26 = .ok (.lstore 6, 2) := by decide +kernel
theorem dX11_gcd_28 : decode cX11_gcd 28 = .ok (.goto (-22), 3) := by decide +kernel
theorem dX11_gcd_31 : decode cX11_gcd 31 = .ok (.lload 4, 2) := by decide +kernel
theorem dX11_gcd_33 : decode cX11_gcd 33 = .ok (.lreturn, 1) := by decide +kernel
theorem dX11_closed_0 : decode cX11_closed 0 = .ok (.iload_n 1, 1) := by decide +kernel
theorem dX11_closed_1 : decode cX11_closed 1 = .ok (.iconst (-1), 1) := by decide +kernel
theorem dX11_closed_2 : decode cX11_closed 2 = .ok (.if_icmp .eq 10, 3) := by decide +kernel
theorem dX11_closed_5 : decode cX11_closed 5 = .ok (.iload_n 1, 1) := by decide +kernel
theorem dX11_closed_6 : decode cX11_closed 6 = .ok (.invokestatic 68, 3) := by decide +kernel
theorem dX11_closed_9 : decode cX11_closed 9 = .ok (.ifCond .eq 12, 3) := by decide +kernel
theorem dX11_closed_12 : decode cX11_closed 12 = .ok (.iload_n 2, 1) := by decide +kernel
theorem dX11_closed_13 : decode cX11_closed 13 = .ok (.iconst 0, 1) := by decide +kernel
theorem dX11_closed_14 : decode cX11_closed 14 = .ok (.iconst 1, 1) := by decide +kernel
theorem dX11_closed_15 : decode cX11_closed 15 = .ok (.invokestatic 64, 3) := by decide +kernel
theorem dX11_closed_18 : decode cX11_closed 18 = .ok (.ifCond .ne 7, 3) := by decide +kernel
theorem dX11_closed_21 : decode cX11_closed 21 = .ok (.ldc2_w 130, 3) := by decide +kernel
theorem dX11_closed_24 : decode cX11_closed 24 = .ok (.lreturn, 1) := by decide +kernel
theorem dX11_closed_25 : decode cX11_closed 25 = .ok (.iload_n 1, 1) := by decide +kernel
theorem dX11_closed_26 : decode cX11_closed 26 = .ok (.ifCond .ge 11, 3) := by decide +kernel
theorem dX11_closed_29 : decode cX11_closed 29 = .ok (.aload_n 0, 1) := by decide +kernel
theorem dX11_closed_30 : decode cX11_closed 30 = .ok (.invokevirtual 200, 3) := by decide +kernel
theorem dX11_closed_33 : decode cX11_closed 33 = .ok (.i2l, 1) := by decide +kernel
theorem dX11_closed_34 : decode cX11_closed 34 = .ok (.goto 12, 3) := by decide +kernel
theorem dX11_closed_37 : decode cX11_closed 37 = .ok (.aload_n 0, 1) := by decide +kernel
theorem dX11_closed_38 : decode cX11_closed 38 = .ok (.iload_n 1, 1) := by decide +kernel
theorem dX11_closed_39 : decode cX11_closed 39 = .ok (.invokevirtual 84, 3) := by decide +kernel
theorem dX11_closed_42 : decode cX11_closed 42 = .ok (.invokestatic 135, 3) := by decide +kernel
theorem dX11_closed_45 : decode cX11_closed 45 = .ok (.i2l, 1) := by decide +kernel
theorem dX11_closed_46 : decode cX11_closed 46 = .ok (.lstore_n 3, 1) := by decide +kernel
theorem dX11_closed_47 : decode cX11_closed 47 = .ok (.lload_n 3, 1) := by decide +kernel
theorem dX11_closed_48 : decode cX11_closed 48 = .ok (.lconst 0, 1) := by decide +kernel
theorem dX11_closed_49 : decode cX11_closed 49 = .ok (.lcmp, 1) := by decide +kernel
theorem dX11_closed_50 : decode cX11_closed 50 = .ok (.ifCond .ne 7, 3) := by decide +kernel
theorem dX11_closed_53 : decode cX11_closed 53 = .ok (.ldc2_w 130, 3) := by decide +kernel
theorem dX11_closed_56 : decode cX11_closed 56 = .ok (.lreturn, 1) := by decide +kernel
theorem dX11_closed_57 : decode cX11_closed 57 = .ok (.iload_n 1, 1) := by decide +kernel
theorem dX11_closed_58 : decode cX11_closed 58 = .ok (.ifCond .ge 15, 3) := by decide +kernel
theorem dX11_closed_61 : decode cX11_closed 61 = .ok (.ldc2_w 209, 3) := by decide +kernel
theorem dX11_closed_64 : decode cX11_closed 64 = .ok (.aload_n 0, 1) := by decide +kernel
theorem dX11_closed_65 : decode cX11_closed 65 = .ok (.invokevirtual 194, 3) := by decide +kernel
theorem dX11_closed_68 : decode cX11_closed 68 = .ok (.i2l, 1) := by decide +kernel
theorem dX11_closed_69 : decode cX11_closed 69 = .ok (.lmul, 1) := by decide +kernel
theorem dX11_closed_70 : decode cX11_closed 70 = .ok (.goto 9, 3) := by decide +kernel
theorem dX11_closed_73 : decode cX11_closed 73 = .ok (.aload_n 0, 1) := by decide +kernel
theorem dX11_closed_74 : decode cX11_closed 74 = .ok (.iload_n 1, 1) := by decide +kernel
theorem dX11_closed_75 : decode cX11_closed 75 = .ok (.invokevirtual 132, 3) := by decide +kernel
theorem dX11_closed_78 : decode cX11_closed 78 = .ok (.i2l, 1) := by decide +kernel
theorem dX11_closed_79 : decode cX11_closed 79 = .ok (.lstore 5, 2) := by decide +kernel
theorem dX11_closed_81 : decode cX11_closed 81 = .ok (.iload_n 2, 1) := by decide +kernel
theorem dX11_closed_82 : decode cX11_closed 82 = .ok (.ifCond .ne 8, 3) := by decide +kernel
theorem dX11_closed_85 : decode cX11_closed 85 = .ok (.lload 5, 2) := by decide +kernel
theorem dX11_closed_87 : decode cX11_closed 87 = .ok (.goto 4, 3) := by decide +kernel
theorem dX11_closed_90 : decode cX11_closed 90 = .ok (.lload_n 3, 1) := by decide +kernel
theorem dX11_closed_91 : decode cX11_closed 91 = .ok (.lload_n 3, 1) := by decide +kernel
theorem dX11_closed_92 : decode cX11_closed 92 = .ok (.lload 5, 2) := by decide +kernel
theorem dX11_closed_94 : decode cX11_closed 94 = .ok (.invokestatic 211, 3) := by decide +kernel
theorem dX11_closed_97 : decode cX11_closed 97 = .ok (.ldiv, 1) := by decide +kernel
theorem dX11_closed_98 : decode cX11_closed 98 = .ok (.lreturn, 1) := by decide +kernel
theorem dX11_value_0 : decode cX11_value 0 = .ok (.lconst 0, 1) := by decide +kernel
theorem dX11_value_1 : decode cX11_value 1 = .ok (.lstore_n 1, 1) := by decide +kernel
theorem dX11_value_2 : decode cX11_value 2 = .ok (.iconst 0, 1) := by decide +kernel
theorem dX11_value_3 : decode cX11_value 3 = .ok (.istore_n 3, 1) := by decide +kernel
theorem dX11_value_4 : decode cX11_value 4 = .ok (.iconst 0, 1) := by decide +kernel
theorem dX11_value_5 : decode cX11_value 5 = .ok (.istore 4, 2) := by decide +kernel
theorem dX11_value_7 : decode cX11_value 7 = .ok (.iload 4, 2) := by decide +kernel
theorem dX11_value_9 : decode cX11_value 9 = .ok (.bipush 40, 2) := by decide +kernel
theorem dX11_value_11 : decode cX11_value 11 = .ok (.if_icmp .ge 165, 3) := by decide +kernel
theorem dX11_value_14 : decode cX11_value 14 = .ok (.iload 4, 2) := by decide +kernel
theorem dX11_value_16 : decode cX11_value 16 = .ok (.iconst 1, 1) := by decide +kernel
theorem dX11_value_17 : decode cX11_value 17 = .ok (.iadd, 1) := by decide +kernel
theorem dX11_value_18 : decode cX11_value 18 = .ok (.istore 5, 2) := by decide +kernel
theorem dX11_value_20 : decode cX11_value 20 = .ok (.iload 5, 2) := by decide +kernel
theorem dX11_value_22 : decode cX11_value 22 = .ok (.bipush 40, 2) := by decide +kernel
theorem dX11_value_24 : decode cX11_value 24 = .ok (.if_icmp .ge 146, 3) := by decide +kernel
theorem dX11_value_27 : decode cX11_value 27 = .ok (.aload_n 0, 1) := by decide +kernel
theorem dX11_value_28 : decode cX11_value 28 = .ok (.iload 4, 2) := by decide +kernel
theorem dX11_value_30 : decode cX11_value 30 = .ok (.iload 5, 2) := by decide +kernel
theorem dX11_value_32 : decode cX11_value 32 = .ok (.invokevirtual 116, 3) := by decide +kernel
theorem dX11_value_35 : decode cX11_value 35 = .ok (.ifCond .ne 6, 3) := by decide +kernel
theorem dX11_value_38 : decode cX11_value 38 = .ok (.goto 126, 3) := by decide +kernel
theorem dX11_value_41 : decode cX11_value 41 = .ok (.iload 5, 2) := by decide +kernel
theorem dX11_value_43 : decode cX11_value 43 = .ok (.iconst 1, 1) := by decide +kernel
theorem dX11_value_44 : decode cX11_value 44 = .ok (.iadd, 1) := by decide +kernel
theorem dX11_value_45 : decode cX11_value 45 = .ok (.istore 6, 2) := by decide +kernel
theorem dX11_value_47 : decode cX11_value 47 = .ok (.iload 6, 2) := by decide +kernel
theorem dX11_value_49 : decode cX11_value 49 = .ok (.bipush 40, 2) := by decide +kernel
theorem dX11_value_51 : decode cX11_value 51 = .ok (.if_icmp .ge 113, 3) := by decide +kernel
theorem dX11_value_54 : decode cX11_value 54 = .ok (.aload_n 0, 1) := by decide +kernel
theorem dX11_value_55 : decode cX11_value 55 = .ok (.iload 4, 2) := by decide +kernel
theorem dX11_value_57 : decode cX11_value 57 = .ok (.iload 6, 2) := by decide +kernel
theorem dX11_value_59 : decode cX11_value 59 = .ok (.invokevirtual 116, 3) := by decide +kernel
theorem dX11_value_62 : decode cX11_value 62 = .ok (.ifCond .eq 96, 3) := by decide +kernel
theorem dX11_value_65 : decode cX11_value 65 = .ok (.aload_n 0, 1) := by decide +kernel
theorem dX11_value_66 : decode cX11_value 66 = .ok (.iload 5, 2) := by decide +kernel
theorem dX11_value_68 : decode cX11_value 68 = .ok (.iload 6, 2) := by decide +kernel
theorem dX11_value_70 : decode cX11_value 70 = .ok (.invokevirtual 116, 3) := by decide +kernel
theorem dX11_value_73 : decode cX11_value 73 = .ok (.ifCond .ne 6, 3) := by decide +kernel
theorem dX11_value_76 : decode cX11_value 76 = .ok (.goto 82, 3) := by decide +kernel
theorem dX11_value_79 : decode cX11_value 79 = .ok (.aload_n 0, 1) := by decide +kernel
theorem dX11_value_80 : decode cX11_value 80 = .ok (.getfield 15, 3) := by decide +kernel
theorem dX11_value_83 : decode cX11_value 83 = .ok (.iload 4, 2) := by decide +kernel
theorem dX11_value_85 : decode cX11_value 85 = .ok (.iload 5, 2) := by decide +kernel
theorem dX11_value_87 : decode cX11_value 87 = .ok (.invokestatic 92, 3) := by decide +kernel
theorem dX11_value_90 : decode cX11_value 90 = .ok (.iaload, 1) := by decide +kernel
theorem dX11_value_91 : decode cX11_value 91 = .ok (.i2l, 1) := by decide +kernel
theorem dX11_value_92 : decode cX11_value 92 = .ok (.aload_n 0, 1) := by decide +kernel
theorem dX11_value_93 : decode cX11_value 93 = .ok (.getfield 15, 3) := by decide +kernel
theorem dX11_value_96 : decode cX11_value 96 = .ok (.iload 4, 2) := by decide +kernel
theorem dX11_value_98 : decode cX11_value 98 = .ok (.iload 6, 2) := by decide +kernel
theorem dX11_value_100 : decode cX11_value 100 = .ok (.invokestatic 92, 3) := by decide +kernel
theorem dX11_value_103 : decode cX11_value 103 = .ok (.iaload, 1) := by decide +kernel
theorem dX11_value_104 : decode cX11_value 104 = .ok (.i2l, 1) := by decide +kernel
theorem dX11_value_105 : decode cX11_value 105 = .ok (.lmul, 1) := by decide +kernel
theorem dX11_value_106 : decode cX11_value 106 = .ok (.aload_n 0, 1) := by decide +kernel
theorem dX11_value_107 : decode cX11_value 107 = .ok (.getfield 15, 3) := by decide +kernel
theorem dX11_value_110 : decode cX11_value 110 = .ok (.iload 5, 2) := by decide +kernel
theorem dX11_value_112 : decode cX11_value 112 = .ok (.iload 6, 2) := by decide +kernel
theorem dX11_value_114 : decode cX11_value 114 = .ok (.invokestatic 92, 3) := by decide +kernel
theorem dX11_value_117 : decode cX11_value 117 = .ok (.iaload, 1) := by decide +kernel
theorem dX11_value_118 : decode cX11_value 118 = .ok (.i2l, 1) := by decide +kernel
theorem dX11_value_119 : decode cX11_value 119 = .ok (.lmul, 1) := by decide +kernel
theorem dX11_value_120 : decode cX11_value 120 = .ok (.lstore 7, 2) := by decide +kernel
theorem dX11_value_122 : decode cX11_value 122 = .ok (.lload_n 1, 1) := by decide +kernel
theorem dX11_value_123 : decode cX11_value 123 = .ok (.lload 7, 2) := by decide +kernel
theorem dX11_value_125 : decode cX11_value 125 = .ok (.ladd, 1) := by decide +kernel
theorem dX11_value_126 : decode cX11_value 126 = .ok (.lstore 9, 2) := by decide +kernel
theorem dX11_value_128 : decode cX11_value 128 = .ok (.iload_n 3, 1) := by decide +kernel
theorem dX11_value_129 : decode cX11_value 129 = .ok (.lload_n 1, 1) := by decide +kernel
theorem dX11_value_130 : decode cX11_value 130 = .ok (.lload 9, 2) := by decide +kernel
theorem dX11_value_132 : decode cX11_value 132 = .ok (.lxor, 1) := by decide +kernel
theorem dX11_value_133 : decode cX11_value 133 = .ok (.lconst 0, 1) := by decide +kernel
theorem dX11_value_134 : decode cX11_value 134 = .ok (.lcmp, 1) := by decide +kernel
theorem dX11_value_135 : decode cX11_value 135 = .ok (.ifCond .ge 17, 3) := by decide +kernel
theorem dX11_value_138 : decode cX11_value 138 = .ok (.lload 7, 2) := by decide +kernel
theorem dX11_value_140 : decode cX11_value 140 = .ok (.lload 9, 2) := by decide +kernel
theorem dX11_value_142 : decode cX11_value 142 = .ok (.lxor, 1) := by decide +kernel
theorem dX11_value_143 : decode cX11_value 143 = .ok (.lconst 0, 1) := by decide +kernel
theorem dX11_value_144 : decode cX11_value 144 = .ok (.lcmp, 1) := by decide +kernel
theorem dX11_value_145 : decode cX11_value 145 = .ok (.ifCond .ge 7, 3) := by decide +kernel
theorem dX11_value_148 : decode cX11_value 148 = .ok (.iconst 1, 1) := by decide +kernel
theorem dX11_value_149 : decode cX11_value 149 = .ok (.goto 4, 3) := by decide +kernel
theorem dX11_value_152 : decode cX11_value 152 = .ok (.iconst 0, 1) := by decide +kernel
theorem dX11_value_153 : decode cX11_value 153 = .ok (.ior, 1) := by decide +kernel
theorem dX11_value_154 : decode cX11_value 154 = .ok (.istore_n 3, 1) := by decide +kernel
theorem dX11_value_155 : decode cX11_value 155 = .ok (.lload 9, 2) := by decide +kernel
theorem dX11_value_157 : decode cX11_value 157 = .ok (.lstore_n 1, 1) := by decide +kernel
theorem dX11_value_158 : decode cX11_value 158 = .ok (.iinc 6 1, 3) := by decide +kernel
theorem dX11_value_161 : decode cX11_value 161 = .ok (.goto (-114), 3) := by decide +kernel
theorem dX11_value_164 : decode cX11_value 164 = .ok (.iinc 5 1, 3) := by decide +kernel
theorem dX11_value_167 : decode cX11_value 167 = .ok (.goto (-147), 3) := by decide +kernel
theorem dX11_value_170 : decode cX11_value 170 = .ok (.iinc 4 1, 3) := by decide +kernel
theorem dX11_value_173 : decode cX11_value 173 = .ok (.goto (-166), 3) := by decide +kernel
theorem dX11_value_176 : decode cX11_value 176 = .ok (.iload_n 3, 1) := by decide +kernel
theorem dX11_value_177 : decode cX11_value 177 = .ok (.ifCond .eq 9, 3) := by decide +kernel
theorem dX11_value_180 : decode cX11_value 180 = .ok (.ldc2_w 215, 3) := by decide +kernel
theorem dX11_value_183 : decode cX11_value 183 = .ok (.goto 4, 3) := by decide +kernel
theorem dX11_value_186 : decode cX11_value 186 = .ok (.lload_n 1, 1) := by decide +kernel
theorem dX11_value_187 : decode cX11_value 187 = .ok (.lreturn, 1) := by decide +kernel
theorem dX11_broken_0 : decode cX11_broken 0 = .ok (.iload_n 1, 1) := by decide +kernel
theorem dX11_broken_1 : decode cX11_broken 1 = .ok (.iconst 0, 1) := by decide +kernel
theorem dX11_broken_2 : decode cX11_broken 2 = .ok (.iconst 2, 1) := by decide +kernel
theorem dX11_broken_3 : decode cX11_broken 3 = .ok (.invokestatic 64, 3) := by decide +kernel
theorem dX11_broken_6 : decode cX11_broken 6 = .ok (.ifCond .ne 5, 3) := by decide +kernel
theorem dX11_broken_9 : decode cX11_broken 9 = .ok (.iconst (-1), 1) := by decide +kernel
theorem dX11_broken_10 : decode cX11_broken 10 = .ok (.ireturn, 1) := by decide +kernel
theorem dX11_broken_11 : decode cX11_broken 11 = .ok (.aload_n 0, 1) := by decide +kernel
theorem dX11_broken_12 : decode cX11_broken 12 = .ok (.invokevirtual 170, 3) := by decide +kernel
theorem dX11_broken_15 : decode cX11_broken 15 = .ok (.iconst (-1), 1) := by decide +kernel
theorem dX11_broken_16 : decode cX11_broken 16 = .ok (.istore_n 2, 1) := by decide +kernel
theorem dX11_broken_17 : decode cX11_broken 17 = .ok (.iconst 0, 1) := by decide +kernel
theorem dX11_broken_18 : decode cX11_broken 18 = .ok (.istore_n 3, 1) := by decide +kernel
theorem dX11_broken_19 : decode cX11_broken 19 = .ok (.iconst (-1), 1) := by decide +kernel
theorem dX11_broken_20 : decode cX11_broken 20 = .ok (.istore 4, 2) := by decide +kernel
theorem dX11_broken_22 : decode cX11_broken 22 = .ok (.iconst 0, 1) := by decide +kernel
theorem dX11_broken_23 : decode cX11_broken 23 = .ok (.istore 5, 2) := by decide +kernel
theorem dX11_broken_25 : decode cX11_broken 25 = .ok (.iload 5, 2) := by decide +kernel
theorem dX11_broken_27 : decode cX11_broken 27 = .ok (.sipush 1600, 3) := by decide +kernel
theorem dX11_broken_30 : decode cX11_broken 30 = .ok (.if_icmp .ge 46, 3) := by decide +kernel
theorem dX11_broken_33 : decode cX11_broken 33 = .ok (.aload_n 0, 1) := by decide +kernel
theorem dX11_broken_34 : decode cX11_broken 34 = .ok (.iload 5, 2) := by decide +kernel
theorem dX11_broken_36 : decode cX11_broken 36 = .ok (.invokevirtual 177, 3) := by decide +kernel
theorem dX11_broken_39 : decode cX11_broken 39 = .ok (.ifCond .eq 31, 3) := by decide +kernel
theorem dX11_broken_42 : decode cX11_broken 42 = .ok (.aload_n 0, 1) := by decide +kernel
theorem dX11_broken_43 : decode cX11_broken 43 = .ok (.iload 5, 2) := by decide +kernel
theorem dX11_broken_45 : decode cX11_broken 45 = .ok (.invokevirtual 180, 3) := by decide +kernel
theorem dX11_broken_48 : decode cX11_broken 48 = .ok (.iload 4, 2) := by decide +kernel
theorem dX11_broken_50 : decode cX11_broken 50 = .ok (.ifCond .ge 7, 3) := by decide +kernel
theorem dX11_broken_53 : decode cX11_broken 53 = .ok (.iconst 0, 1) := by decide +kernel
theorem dX11_broken_54 : decode cX11_broken 54 = .ok (.goto 9, 3) := by decide +kernel
theorem dX11_broken_57 : decode cX11_broken 57 = .ok (.aload_n 0, 1) := by decide +kernel
theorem dX11_broken_58 : decode cX11_broken 58 = .ok (.iload 4, 2) := by decide +kernel
theorem dX11_broken_60 : decode cX11_broken 60 = .ok (.invokevirtual 180, 3) := by decide +kernel
theorem dX11_broken_63 : decode cX11_broken 63 = .ok (.if_icmp .le 7, 3) := by decide +kernel
theorem dX11_broken_66 : decode cX11_broken 66 = .ok (.iload 5, 2) := by decide +kernel
theorem dX11_broken_68 : decode cX11_broken 68 = .ok (.istore 4, 2) := by decide +kernel
theorem dX11_broken_70 : decode cX11_broken 70 = .ok (.iinc 5 1, 3) := by decide +kernel
theorem dX11_broken_73 : decode cX11_broken 73 = .ok (.goto (-48), 3) := by decide +kernel
theorem dX11_broken_76 : decode cX11_broken 76 = .ok (.iload 4, 2) := by decide +kernel
theorem dX11_broken_78 : decode cX11_broken 78 = .ok (.ifCond .ge 37, 3) := by decide +kernel
theorem dX11_broken_81 : decode cX11_broken 81 = .ok (.iload_n 1, 1) := by decide +kernel
theorem dX11_broken_82 : decode cX11_broken 82 = .ok (.ifCond .ne 7, 3) := by decide +kernel
theorem dX11_broken_85 : decode cX11_broken 85 = .ok (.iload_n 3, 1) := by decide +kernel
theorem dX11_broken_86 : decode cX11_broken 86 = .ok (.goto 28, 3) := by decide +kernel
theorem dX11_broken_89 : decode cX11_broken 89 = .ok (.iload_n 2, 1) := by decide +kernel
theorem dX11_broken_90 : decode cX11_broken 90 = .ok (.ifCond .ge 8, 3) := by decide +kernel
theorem dX11_broken_93 : decode cX11_broken 93 = .ok (.bipush (-5), 2) := by decide +kernel
theorem dX11_broken_95 : decode cX11_broken 95 = .ok (.goto 19, 3) := by decide +kernel
theorem dX11_broken_98 : decode cX11_broken 98 = .ok (.iload_n 1, 1) := by decide +kernel
theorem dX11_broken_99 : decode cX11_broken 99 = .ok (.iconst 1, 1) := by decide +kernel
theorem dX11_broken_100 : decode cX11_broken 100 = .ok (.if_icmp .ne 10, 3) := by decide +kernel
theorem dX11_broken_103 : decode cX11_broken 103 = .ok (.iload_n 2, 1) := by decide +kernel
theorem dX11_broken_104 : decode cX11_broken 104 = .ok (.bipush 40, 2) := by decide +kernel
theorem dX11_broken_106 : decode cX11_broken 106 = .ok (.idiv, 1) := by decide +kernel
theorem dX11_broken_107 : decode cX11_broken 107 = .ok (.goto 7, 3) := by decide +kernel
theorem dX11_broken_110 : decode cX11_broken 110 = .ok (.iload_n 2, 1) := by decide +kernel
theorem dX11_broken_111 : decode cX11_broken 111 = .ok (.bipush 40, 2) := by decide +kernel
theorem dX11_broken_113 : decode cX11_broken 113 = .ok (.irem, 1) := by decide +kernel
theorem dX11_broken_114 : decode cX11_broken 114 = .ok (.ireturn, 1) := by decide +kernel
theorem dX11_broken_115 : decode cX11_broken 115 = .ok (.iload_n 2, 1) := by decide +kernel
theorem dX11_broken_116 : decode cX11_broken 116 = .ok (.ifCond .ge 8, 3) := by decide +kernel
theorem dX11_broken_119 : decode cX11_broken 119 = .ok (.iload 4, 2) := by decide +kernel
theorem dX11_broken_121 : decode cX11_broken 121 = .ok (.goto 4, 3) := by decide +kernel
theorem dX11_broken_124 : decode cX11_broken 124 = .ok (.iload_n 2, 1) := by decide +kernel
theorem dX11_broken_125 : decode cX11_broken 125 = .ok (.istore_n 2, 1) := by decide +kernel
theorem dX11_broken_126 : decode cX11_broken 126 = .ok (.aload_n 0, 1) := by decide +kernel
theorem dX11_broken_127 : decode cX11_broken 127 = .ok (.iload 4, 2) := by decide +kernel
theorem dX11_broken_129 : decode cX11_broken 129 = .ok (.bipush 40, 2) := by decide +kernel
theorem dX11_broken_131 : decode cX11_broken 131 = .ok (.idiv, 1) := by decide +kernel
theorem dX11_broken_132 : decode cX11_broken 132 = .ok (.iload 4, 2) := by decide +kernel
theorem dX11_broken_134 : decode cX11_broken 134 = .ok (.bipush 40, 2) := by decide +kernel
theorem dX11_broken_136 : decode cX11_broken 136 = .ok (.irem, 1) := by decide +kernel
theorem dX11_broken_137 : decode cX11_broken 137 = .ok (.invokevirtual 183, 3) := by decide +kernel
theorem dX11_broken_140 : decode cX11_broken 140 = .ok (.iinc 3 1, 3) := by decide +kernel
theorem dX11_broken_143 : decode cX11_broken 143 = .ok (.goto (-124), 3) := by decide +kernel
theorem dX11_isEnough_0 : decode cX11_isEnough 0 = .ok (.iconst 0, 1) := by decide +kernel
theorem dX11_isEnough_1 : decode cX11_isEnough 1 = .ok (.istore_n 2, 1) := by decide +kernel
theorem dX11_isEnough_2 : decode cX11_isEnough 2 = .ok (.iload_n 2, 1) := by decide +kernel
theorem dX11_isEnough_3 : decode cX11_isEnough 3 = .ok (.bipush 40, 2) := by decide +kernel
theorem dX11_isEnough_5 : decode cX11_isEnough 5 = .ok (.if_icmp .ge 139, 3) := by decide +kernel
theorem dX11_isEnough_8 : decode cX11_isEnough 8 = .ok (.iload_n 2, 1) := by decide +kernel
theorem dX11_isEnough_9 : decode cX11_isEnough 9 = .ok (.iconst 1, 1) := by decide +kernel
theorem dX11_isEnough_10 : decode cX11_isEnough 10 = .ok (.iadd, 1) := by decide +kernel
theorem dX11_isEnough_11 : decode cX11_isEnough 11 = .ok (.istore_n 3, 1) := by decide +kernel
theorem dX11_isEnough_12 : decode cX11_isEnough 12 = .ok (.iload_n 3, 1) := by decide +kernel
theorem dX11_isEnough_13 : decode cX11_isEnough 13 = .ok (.bipush 40, 2) := by decide +kernel
theorem dX11_isEnough_15 : decode cX11_isEnough 15 = .ok (.if_icmp .ge 123, 3) := by decide +kernel
theorem dX11_isEnough_18 : decode cX11_isEnough 18 = .ok (.aload_n 0, 1) := by decide +kernel
theorem dX11_isEnough_19 : decode cX11_isEnough 19 = .ok (.getfield 34, 3) := by decide +kernel
theorem dX11_isEnough_22 : decode cX11_isEnough 22 = .ok (.iload_n 2, 1) := by decide +kernel
theorem dX11_isEnough_23 : decode cX11_isEnough 23 = .ok (.laload, 1) := by decide +kernel
theorem dX11_isEnough_24 : decode cX11_isEnough 24 = .ok (.iload_n 3, 1) := by decide +kernel
theorem dX11_isEnough_25 : decode cX11_isEnough 25 = .ok (.invokestatic 72, 3) := by decide +kernel
theorem dX11_isEnough_28 : decode cX11_isEnough 28 = .ok (.ifCond .eq 104, 3) := by decide +kernel
theorem dX11_isEnough_31 : decode cX11_isEnough 31 = .ok (.aload_n 0, 1) := by decide +kernel
theorem dX11_isEnough_32 : decode cX11_isEnough 32 = .ok (.getfield 34, 3) := by decide +kernel
theorem dX11_isEnough_35 : decode cX11_isEnough 35 = .ok (.iload_n 2, 1) := by decide +kernel
theorem dX11_isEnough_36 : decode cX11_isEnough 36 = .ok (.laload, 1) := by decide +kernel
theorem dX11_isEnough_37 : decode cX11_isEnough 37 = .ok (.aload_n 0, 1) := by decide +kernel
theorem dX11_isEnough_38 : decode cX11_isEnough 38 = .ok (.getfield 34, 3) := by decide +kernel
theorem dX11_isEnough_41 : decode cX11_isEnough 41 = .ok (.iload_n 3, 1) := by decide +kernel
theorem dX11_isEnough_42 : decode cX11_isEnough 42 = .ok (.laload, 1) := by decide +kernel
theorem dX11_isEnough_43 : decode cX11_isEnough 43 = .ok (.land, 1) := by decide +kernel
theorem dX11_isEnough_44 : decode cX11_isEnough 44 = .ok (.lconst 0, 1) := by decide +kernel
theorem dX11_isEnough_45 : decode cX11_isEnough 45 = .ok (.lcmp, 1) := by decide +kernel
theorem dX11_isEnough_46 : decode cX11_isEnough 46 = .ok (.ifCond .ne 6, 3) := by decide +kernel
theorem dX11_isEnough_49 : decode cX11_isEnough 49 = .ok (.goto 83, 3) := by decide +kernel
theorem dX11_isEnough_52 : decode cX11_isEnough 52 = .ok (.iload_n 1, 1) := by decide +kernel
theorem dX11_isEnough_53 : decode cX11_isEnough 53 = .ok (.ifCond .ne 5, 3) := by decide +kernel
theorem dX11_isEnough_56 : decode cX11_isEnough 56 = .ok (.iconst 0, 1) := by decide +kernel
theorem dX11_isEnough_57 : decode cX11_isEnough 57 = .ok (.ireturn, 1) := by decide +kernel
theorem dX11_isEnough_58 : decode cX11_isEnough 58 = .ok (.iconst 0, 1) := by decide +kernel
theorem dX11_isEnough_59 : decode cX11_isEnough 59 = .ok (.istore 4, 2) := by decide +kernel
theorem dX11_isEnough_61 : decode cX11_isEnough 61 = .ok (.aload_n 0, 1) := by decide +kernel
theorem dX11_isEnough_62 : decode cX11_isEnough 62 = .ok (.getfield 34, 3) := by decide +kernel
theorem dX11_isEnough_65 : decode cX11_isEnough 65 = .ok (.iload_n 2, 1) := by decide +kernel
theorem dX11_isEnough_66 : decode cX11_isEnough 66 = .ok (.laload, 1) := by decide +kernel
theorem dX11_isEnough_67 : decode cX11_isEnough 67 = .ok (.aload_n 0, 1) := by decide +kernel
theorem dX11_isEnough_68 : decode cX11_isEnough 68 = .ok (.getfield 34, 3) := by decide +kernel
theorem dX11_isEnough_71 : decode cX11_isEnough 71 = .ok (.iload_n 3, 1) := by decide +kernel
theorem dX11_isEnough_72 : decode cX11_isEnough 72 = .ok (.laload, 1) := by decide +kernel
theorem dX11_isEnough_73 : decode cX11_isEnough 73 = .ok (.land, 1) := by decide +kernel
theorem dX11_isEnough_74 : decode cX11_isEnough 74 = .ok (.iload 4, 2) := by decide +kernel
theorem dX11_isEnough_76 : decode cX11_isEnough 76 = .ok (.invokestatic 72, 3) := by decide +kernel
theorem dX11_isEnough_79 : decode cX11_isEnough 79 = .ok (.ifCond .ne 9, 3) := by decide +kernel
theorem dX11_isEnough_82 : decode cX11_isEnough 82 = .ok (.iinc 4 1, 3) := by decide +kernel
theorem dX11_isEnough_85 : decode cX11_isEnough 85 = .ok (.goto (-24), 3) := by decide +kernel
theorem dX11_isEnough_88 : decode cX11_isEnough 88 = .ok (.aload_n 0, 1) := by decide +kernel
theorem dX11_isEnough_89 : decode cX11_isEnough 89 = .ok (.iload_n 2, 1) := by decide +kernel
theorem dX11_isEnough_90 : decode cX11_isEnough 90 = .ok (.iload_n 3, 1) := by decide +kernel
theorem dX11_isEnough_91 : decode cX11_isEnough 91 = .ok (.iload_n 1, 1) := by decide +kernel
theorem dX11_isEnough_92 : decode cX11_isEnough 92 = .ok (.iconst 1, 1) := by decide +kernel
theorem dX11_isEnough_93 : decode cX11_isEnough 93 = .ok (.isub, 1) := by decide +kernel
theorem dX11_isEnough_94 : decode cX11_isEnough 94 = .ok (.invokevirtual 217, 3) := by decide +kernel
theorem dX11_isEnough_97 : decode cX11_isEnough 97 = .ok (.ifCond .ne 29, 3) := by decide +kernel
theorem dX11_isEnough_100 : decode cX11_isEnough 100 = .ok (.aload_n 0, 1) := by decide +kernel
theorem dX11_isEnough_101 : decode cX11_isEnough 101 = .ok (.iload_n 2, 1) := by decide +kernel
theorem dX11_isEnough_102 : decode cX11_isEnough 102 = .ok (.iload 4, 2) := by decide +kernel
theorem dX11_isEnough_104 : decode cX11_isEnough 104 = .ok (.iload_n 1, 1) := by decide +kernel
theorem dX11_isEnough_105 : decode cX11_isEnough 105 = .ok (.iconst 1, 1) := by decide +kernel
theorem dX11_isEnough_106 : decode cX11_isEnough 106 = .ok (.isub, 1) := by decide +kernel
theorem dX11_isEnough_107 : decode cX11_isEnough 107 = .ok (.invokevirtual 217, 3) := by decide +kernel
theorem dX11_isEnough_110 : decode cX11_isEnough 110 = .ok (.ifCond .ne 16, 3) := by decide +kernel
theorem dX11_isEnough_113 : decode cX11_isEnough 113 = .ok (.aload_n 0, 1) := by decide +kernel
theorem dX11_isEnough_114 : decode cX11_isEnough 114 = .ok (.iload_n 3, 1) := by decide +kernel
theorem dX11_isEnough_115 : decode cX11_isEnough 115 = .ok (.iload 4, 2) := by decide +kernel
theorem dX11_isEnough_117 : decode cX11_isEnough 117 = .ok (.iload_n 1, 1) := by decide +kernel
theorem dX11_isEnough_118 : decode cX11_isEnough 118 = .ok (.iconst 1, 1) := by decide +kernel
theorem dX11_isEnough_119 : decode cX11_isEnough 119 = .ok (.isub, 1) := by decide +kernel
theorem dX11_isEnough_120 : decode cX11_isEnough 120 = .ok (.invokevirtual 217, 3) := by decide +kernel
theorem dX11_isEnough_123 : decode cX11_isEnough 123 = .ok (.ifCond .eq 7, 3) := by decide +kernel
theorem dX11_isEnough_126 : decode cX11_isEnough 126 = .ok (.iconst 1, 1) := by decide +kernel
theorem dX11_isEnough_127 : decode cX11_isEnough 127 = .ok (.goto 4, 3) := by decide +kernel
theorem dX11_isEnough_130 : decode cX11_isEnough 130 = .ok (.iconst 0, 1) := by decide +kernel
theorem dX11_isEnough_131 : decode cX11_isEnough 131 = .ok (.ireturn, 1) := by decide +kernel
theorem dX11_isEnough_132 : decode cX11_isEnough 132 = .ok (.iinc 3 1, 3) := by decide +kernel
theorem dX11_isEnough_135 : decode cX11_isEnough 135 = .ok (.goto (-123), 3) := by decide +kernel
theorem dX11_isEnough_138 : decode cX11_isEnough 138 = .ok (.iinc 2 1, 3) := by decide +kernel
theorem dX11_isEnough_141 : decode cX11_isEnough 141 = .ok (.goto (-139), 3) := by decide +kernel
theorem dX11_isEnough_144 : decode cX11_isEnough 144 = .ok (.iconst 1, 1) := by decide +kernel
theorem dX11_isEnough_145 : decode cX11_isEnough 145 = .ok (.ireturn, 1) := by decide +kernel
theorem dX11_isEnoughWithout_0 : decode cX11_isEnoughWithout 0 = .ok (.aload_n 0, 1) := by decide +kernel
theorem dX11_isEnoughWithout_1 : decode cX11_isEnoughWithout 1 = .ok (.iload_n 1, 1) := by decide +kernel
theorem dX11_isEnoughWithout_2 : decode cX11_isEnoughWithout 2 = .ok (.iload_n 2, 1) := by decide +kernel
theorem dX11_isEnoughWithout_3 : decode cX11_isEnoughWithout 3 = .ok (.invokevirtual 183, 3) := by decide +kernel
theorem dX11_isEnoughWithout_6 : decode cX11_isEnoughWithout 6 = .ok (.aload_n 0, 1) := by decide +kernel
theorem dX11_isEnoughWithout_7 : decode cX11_isEnoughWithout 7 = .ok (.iload_n 3, 1) := by decide +kernel
theorem dX11_isEnoughWithout_8 : decode cX11_isEnoughWithout 8 = .ok (.invokevirtual 220, 3) := by decide +kernel
theorem dX11_isEnoughWithout_11 : decode cX11_isEnoughWithout 11 = .ok (.istore 4, 2) := by decide +kernel
theorem dX11_isEnoughWithout_13 : decode cX11_isEnoughWithout 13 = .ok (.aload_n 0, 1) := by decide +kernel
theorem dX11_isEnoughWithout_14 : decode cX11_isEnoughWithout 14 = .ok (.getfield 34, 3) := by decide +kernel
theorem dX11_isEnoughWithout_17 : decode cX11_isEnoughWithout 17 = .ok (.iload_n 1, 1) := by decide +kernel
theorem dX11_isEnoughWithout_18 : decode cX11_isEnoughWithout 18 = .ok (.dup2, 1) := by decide +kernel
theorem dX11_isEnoughWithout_19 : decode cX11_isEnoughWithout 19 = .ok (.laload, 1) := by decide +kernel
theorem dX11_isEnoughWithout_20 : decode cX11_isEnoughWithout 20 = .ok (.lconst 1, 1) := by decide +kernel
theorem dX11_isEnoughWithout_21 : decode cX11_isEnoughWithout 21 = .ok (.iload_n 2, 1) := by decide +kernel
theorem dX11_isEnoughWithout_22 : decode cX11_isEnoughWithout 22 = .ok (.lshl, 1) := by decide +kernel
theorem dX11_isEnoughWithout_23 : decode cX11_isEnoughWithout 23 = .ok (.lor, 1) := by decide +kernel
theorem dX11_isEnoughWithout_24 : decode cX11_isEnoughWithout 24 = .ok (.lastore, 1) := by decide +kernel
theorem dX11_isEnoughWithout_25 : decode cX11_isEnoughWithout 25 = .ok (.aload_n 0, 1) := by decide +kernel
theorem dX11_isEnoughWithout_26 : decode cX11_isEnoughWithout 26 = .ok (.getfield 34, 3) := by decide +kernel
theorem dX11_isEnoughWithout_29 : decode cX11_isEnoughWithout 29 = .ok (.iload_n 2, 1) := by decide +kernel
theorem dX11_isEnoughWithout_30 : decode cX11_isEnoughWithout 30 = .ok (.dup2, 1) := by decide +kernel
theorem dX11_isEnoughWithout_31 : decode cX11_isEnoughWithout 31 = .ok (.laload, 1) := by decide +kernel
theorem dX11_isEnoughWithout_32 : decode cX11_isEnoughWithout 32 = .ok (.lconst 1, 1) := by decide +kernel
theorem dX11_isEnoughWithout_33 : decode cX11_isEnoughWithout 33 = .ok (.iload_n 1, 1) := by decide +kernel
theorem dX11_isEnoughWithout_34 : decode cX11_isEnoughWithout 34 = .ok (.lshl, 1) := by decide +kernel
theorem dX11_isEnoughWithout_35 : decode cX11_isEnoughWithout 35 = .ok (.lor, 1) := by decide +kernel
theorem dX11_isEnoughWithout_36 : decode cX11_isEnoughWithout 36 = .ok (.lastore, 1) := by decide +kernel
theorem dX11_isEnoughWithout_37 : decode cX11_isEnoughWithout 37 = .ok (.iload 4, 2) := by decide +kernel
theorem dX11_isEnoughWithout_39 : decode cX11_isEnoughWithout 39 = .ok (.ireturn, 1) := by decide +kernel
theorem dX11_fewest_0 : decode cX11_fewest 0 = .ok (.aload_n 0, 1) := by decide +kernel
theorem dX11_fewest_1 : decode cX11_fewest 1 = .ok (.invokevirtual 170, 3) := by decide +kernel
theorem dX11_fewest_4 : decode cX11_fewest 4 = .ok (.iconst 0, 1) := by decide +kernel
theorem dX11_fewest_5 : decode cX11_fewest 5 = .ok (.istore_n 1, 1) := by decide +kernel
theorem dX11_fewest_6 : decode cX11_fewest 6 = .ok (.iload_n 1, 1) := by decide +kernel
theorem dX11_fewest_7 : decode cX11_fewest 7 = .ok (.iconst 5, 1) := by decide +kernel
theorem dX11_fewest_8 : decode cX11_fewest 8 = .ok (.if_icmp .ge 19, 3) := by decide +kernel
theorem dX11_fewest_11 : decode cX11_fewest 11 = .ok (.aload_n 0, 1) := by decide +kernel
theorem dX11_fewest_12 : decode cX11_fewest 12 = .ok (.iload_n 1, 1) := by decide +kernel
theorem dX11_fewest_13 : decode cX11_fewest 13 = .ok (.invokevirtual 220, 3) := by decide +kernel
theorem dX11_fewest_16 : decode cX11_fewest 16 = .ok (.ifCond .eq 5, 3) := by decide +kernel
theorem dX11_fewest_19 : decode cX11_fewest 19 = .ok (.iload_n 1, 1) := by decide +kernel
theorem dX11_fewest_20 : decode cX11_fewest 20 = .ok (.ireturn, 1) := by decide +kernel
theorem dX11_fewest_21 : decode cX11_fewest 21 = .ok (.iinc 1 1, 3) := by decide +kernel
theorem dX11_fewest_24 : decode cX11_fewest 24 = .ok (.goto (-18), 3) := by decide +kernel
theorem dX11_fewest_27 : decode cX11_fewest 27 = .ok (.bipush (-5), 2) := by decide +kernel
theorem dX11_fewest_29 : decode cX11_fewest 29 = .ok (.ireturn, 1) := by decide +kernel
theorem dX11_feed_0 : decode cX11_feed 0 = .ok (.iload_n 1, 1) := by decide +kernel
theorem dX11_feed_1 : decode cX11_feed 1 = .ok (.iconst 1, 1) := by decide +kernel
theorem dX11_feed_2 : decode cX11_feed 2 = .ok (.bipush 127, 2) := by decide +kernel
theorem dX11_feed_4 : decode cX11_feed 4 = .ok (.invokestatic 64, 3) := by decide +kernel
theorem dX11_feed_7 : decode cX11_feed 7 = .ok (.ifCond .ne 6, 3) := by decide +kernel
theorem dX11_feed_10 : decode cX11_feed 10 = .ok (.bipush (-2), 2) := by decide +kernel
theorem dX11_feed_12 : decode cX11_feed 12 = .ok (.ireturn, 1) := by decide +kernel
theorem dX11_feed_13 : decode cX11_feed 13 = .ok (.aload_n 0, 1) := by decide +kernel
theorem dX11_feed_14 : decode cX11_feed 14 = .ok (.getfield 223, 3) := by decide +kernel
theorem dX11_feed_17 : decode cX11_feed 17 = .ok (.sipush 160, 3) := by decide +kernel
theorem dX11_feed_20 : decode cX11_feed 20 = .ok (.if_icmp .ne 6, 3) := by decide +kernel
theorem dX11_feed_23 : decode cX11_feed 23 = .ok (.bipush (-4), 2) := by decide +kernel
theorem dX11_feed_25 : decode cX11_feed 25 = .ok (.ireturn, 1) := by decide +kernel
theorem dX11_feed_26 : decode cX11_feed 26 = .ok (.aload_n 0, 1) := by decide +kernel
theorem dX11_feed_27 : decode cX11_feed 27 = .ok (.getfield 49, 3) := by decide +kernel
theorem dX11_feed_30 : decode cX11_feed 30 = .ok (.aload_n 0, 1) := by decide +kernel
theorem dX11_feed_31 : decode cX11_feed 31 = .ok (.getfield 223, 3) := by decide +kernel
theorem dX11_feed_34 : decode cX11_feed 34 = .ok (.iload_n 1, 1) := by decide +kernel
theorem dX11_feed_35 : decode cX11_feed 35 = .ok (.iastore, 1) := by decide +kernel
theorem dX11_feed_36 : decode cX11_feed 36 = .ok (.aload_n 0, 1) := by decide +kernel
theorem dX11_feed_37 : decode cX11_feed 37 = .ok (.dup, 1) := by decide +kernel
theorem dX11_feed_38 : decode cX11_feed 38 = .ok (.getfield 223, 3) := by decide +kernel
theorem dX11_feed_41 : decode cX11_feed 41 = .ok (.iconst 1, 1) := by decide +kernel
theorem dX11_feed_42 : decode cX11_feed 42 = .ok (.iadd, 1) := by decide +kernel
theorem dX11_feed_43 : decode cX11_feed 43 = .ok (.putfield 223, 3) := by decide +kernel
theorem dX11_feed_46 : decode cX11_feed 46 = .ok (.aload_n 0, 1) := by decide +kernel
theorem dX11_feed_47 : decode cX11_feed 47 = .ok (.getfield 223, 3) := by decide +kernel
theorem dX11_feed_50 : decode cX11_feed 50 = .ok (.ireturn, 1) := by decide +kernel
theorem dX11_clear_0 : decode cX11_clear 0 = .ok (.aload_n 0, 1) := by decide +kernel
theorem dX11_clear_1 : decode cX11_clear 1 = .ok (.getfield 223, 3) := by decide +kernel
theorem dX11_clear_4 : decode cX11_clear 4 = .ok (.istore_n 1, 1) := by decide +kernel
theorem dX11_clear_5 : decode cX11_clear 5 = .ok (.aload_n 0, 1) := by decide +kernel
theorem dX11_clear_6 : decode cX11_clear 6 = .ok (.iconst 0, 1) := by decide +kernel
theorem dX11_clear_7 : decode cX11_clear 7 = .ok (.putfield 223, 3) := by decide +kernel
theorem dX11_clear_10 : decode cX11_clear 10 = .ok (.iload_n 1, 1) := by decide +kernel
theorem dX11_clear_11 : decode cX11_clear 11 = .ok (.ireturn, 1) := by decide +kernel
theorem dX11_here_0 : decode cX11_here 0 = .ok (.aload_n 0, 1) := by decide +kernel
theorem dX11_here_1 : decode cX11_here 1 = .ok (.getfield 226, 3) := by decide +kernel
theorem dX11_here_4 : decode cX11_here 4 = .ok (.aload_n 0, 1) := by decide +kernel
theorem dX11_here_5 : decode cX11_here 5 = .ok (.getfield 223, 3) := by decide +kernel
theorem dX11_here_8 : decode cX11_here 8 = .ok (.if_icmp .ge 15, 3) := by decide +kernel
theorem dX11_here_11 : decode cX11_here 11 = .ok (.aload_n 0, 1) := by decide +kernel
theorem dX11_here_12 : decode cX11_here 12 = .ok (.getfield 49, 3) := by decide +kernel
theorem dX11_here_15 : decode cX11_here 15 = .ok (.aload_n 0, 1) := by decide +kernel
theorem dX11_here_16 : decode cX11_here 16 = .ok (.getfield 226, 3) := by decide +kernel
theorem dX11_here_19 : decode cX11_here 19 = .ok (.iaload, 1) := by decide +kernel
theorem dX11_here_20 : decode cX11_here 20 = .ok (.goto 4, 3) := by decide +kernel
theorem dX11_here_23 : decode cX11_here 23 = .ok (.iconst (-1), 1) := by decide +kernel
theorem dX11_here_24 : decode cX11_here 24 = .ok (.ireturn, 1) := by decide +kernel
theorem dX11_fails_0 : decode cX11_fails 0 = .ok (.aload_n 0, 1) := by decide +kernel
theorem dX11_fails_1 : decode cX11_fails 1 = .ok (.getfield 229, 3) := by decide +kernel
theorem dX11_fails_4 : decode cX11_fails 4 = .ok (.ifCond .ge 8, 3) := by decide +kernel
theorem dX11_fails_7 : decode cX11_fails 7 = .ok (.aload_n 0, 1) := by decide +kernel
theorem dX11_fails_8 : decode cX11_fails 8 = .ok (.iload_n 1, 1) := by decide +kernel
theorem dX11_fails_9 : decode cX11_fails 9 = .ok (.putfield 229, 3) := by decide +kernel
theorem dX11_fails_12 : decode cX11_fails 12 = .ok (.iconst 0, 1) := by decide +kernel
theorem dX11_fails_13 : decode cX11_fails 13 = .ok (.ireturn, 1) := by decide +kernel
theorem dX11_isSign_0 : decode cX11_isSign 0 = .ok (.aload_n 0, 1) := by decide +kernel
theorem dX11_isSign_1 : decode cX11_isSign 1 = .ok (.invokevirtual 232, 3) := by decide +kernel
theorem dX11_isSign_4 : decode cX11_isSign 4 = .ok (.iload_n 1, 1) := by decide +kernel
theorem dX11_isSign_5 : decode cX11_isSign 5 = .ok (.if_icmp .eq 12, 3) := by decide +kernel
theorem dX11_isSign_8 : decode cX11_isSign 8 = .ok (.aload_n 0, 1) := by decide +kernel
theorem dX11_isSign_9 : decode cX11_isSign 9 = .ok (.aload_n 0, 1) := by decide +kernel
theorem dX11_isSign_10 : decode cX11_isSign 10 = .ok (.getfield 226, 3) := by decide +kernel
theorem dX11_isSign_13 : decode cX11_isSign 13 = .ok (.invokevirtual 235, 3) := by decide +kernel
theorem dX11_isSign_16 : decode cX11_isSign 16 = .ok (.ireturn, 1) := by decide +kernel
theorem dX11_isSign_17 : decode cX11_isSign 17 = .ok (.aload_n 0, 1) := by decide +kernel
theorem dX11_isSign_18 : decode cX11_isSign 18 = .ok (.dup, 1) := by decide +kernel
theorem dX11_isSign_19 : decode cX11_isSign 19 = .ok (.getfield 226, 3) := by decide +kernel
theorem dX11_isSign_22 : decode cX11_isSign 22 = .ok (.iconst 1, 1) := by decide +kernel
theorem dX11_isSign_23 : decode cX11_isSign 23 = .ok (.iadd, 1) := by decide +kernel
theorem dX11_isSign_24 : decode cX11_isSign 24 = .ok (.putfield 226, 3) := by decide +kernel
theorem dX11_isSign_27 : decode cX11_isSign 27 = .ok (.iconst 1, 1) := by decide +kernel
theorem dX11_isSign_28 : decode cX11_isSign 28 = .ok (.ireturn, 1) := by decide +kernel
theorem dX11_isNumber_0 : decode cX11_isNumber 0 = .ok (.aload_n 0, 1) := by decide +kernel
theorem dX11_isNumber_1 : decode cX11_isNumber 1 = .ok (.getfield 226, 3) := by decide +kernel
theorem dX11_isNumber_4 : decode cX11_isNumber 4 = .ok (.istore_n 3, 1) := by decide +kernel
theorem dX11_isNumber_5 : decode cX11_isNumber 5 = .ok (.aload_n 0, 1) := by decide +kernel
theorem dX11_isNumber_6 : decode cX11_isNumber 6 = .ok (.iconst 0, 1) := by decide +kernel
theorem dX11_isNumber_7 : decode cX11_isNumber 7 = .ok (.putfield 238, 3) := by decide +kernel
theorem dX11_isNumber_10 : decode cX11_isNumber 10 = .ok (.aload_n 0, 1) := by decide +kernel
theorem dX11_isNumber_11 : decode cX11_isNumber 11 = .ok (.invokevirtual 232, 3) := by decide +kernel
theorem dX11_isNumber_14 : decode cX11_isNumber 14 = .ok (.bipush 48, 2) := by decide +kernel
theorem dX11_isNumber_16 : decode cX11_isNumber 16 = .ok (.bipush 57, 2) := by decide +kernel
theorem dX11_isNumber_18 : decode cX11_isNumber 18 = .ok (.invokestatic 64, 3) := by decide +kernel
theorem dX11_isNumber_21 : decode cX11_isNumber 21 = .ok (.ifCond .ne 12, 3) := by decide +kernel
theorem dX11_isNumber_24 : decode cX11_isNumber 24 = .ok (.aload_n 0, 1) := by decide +kernel
theorem dX11_isNumber_25 : decode cX11_isNumber 25 = .ok (.aload_n 0, 1) := by decide +kernel
theorem dX11_isNumber_26 : decode cX11_isNumber 26 = .ok (.getfield 226, 3) := by decide +kernel
theorem dX11_isNumber_29 : decode cX11_isNumber 29 = .ok (.invokevirtual 235, 3) := by decide +kernel
theorem dX11_isNumber_32 : decode cX11_isNumber 32 = .ok (.ireturn, 1) := by decide +kernel
theorem dX11_isNumber_33 : decode cX11_isNumber 33 = .ok (.iconst 0, 1) := by decide +kernel
theorem dX11_isNumber_34 : decode cX11_isNumber 34 = .ok (.istore 4, 2) := by decide +kernel
theorem dX11_isNumber_36 : decode cX11_isNumber 36 = .ok (.iload 4, 2) := by decide +kernel
theorem dX11_isNumber_38 : decode cX11_isNumber 38 = .ok (.iload_n 1, 1) := by decide +kernel
theorem dX11_isNumber_39 : decode cX11_isNumber 39 = .ok (.if_icmp .ge 52, 3) := by decide +kernel
theorem dX11_isNumber_42 : decode cX11_isNumber 42 = .ok (.aload_n 0, 1) := by decide +kernel
theorem dX11_isNumber_43 : decode cX11_isNumber 43 = .ok (.invokevirtual 232, 3) := by decide +kernel
theorem dX11_isNumber_46 : decode cX11_isNumber 46 = .ok (.bipush 48, 2) := by decide +kernel
theorem dX11_isNumber_48 : decode cX11_isNumber 48 = .ok (.bipush 57, 2) := by decide +kernel
theorem dX11_isNumber_50 : decode cX11_isNumber 50 = .ok (.invokestatic 64, 3) := by decide +kernel
theorem dX11_isNumber_53 : decode cX11_isNumber 53 = .ok (.ifCond .eq 38, 3) := by decide +kernel
theorem dX11_isNumber_56 : decode cX11_isNumber 56 = .ok (.aload_n 0, 1) := by decide +kernel
theorem dX11_isNumber_57 : decode cX11_isNumber 57 = .ok (.bipush 10, 2) := by decide +kernel
theorem dX11_isNumber_59 : decode cX11_isNumber 59 = .ok (.aload_n 0, 1) := by decide +kernel
theorem dX11_isNumber_60 : decode cX11_isNumber 60 = .ok (.getfield 238, 3) := by decide +kernel
theorem dX11_isNumber_63 : decode cX11_isNumber 63 = .ok (.imul, 1) := by decide +kernel
theorem dX11_isNumber_64 : decode cX11_isNumber 64 = .ok (.aload_n 0, 1) := by decide +kernel
theorem dX11_isNumber_65 : decode cX11_isNumber 65 = .ok (.invokevirtual 232, 3) := by decide +kernel
theorem dX11_isNumber_68 : decode cX11_isNumber 68 = .ok (.iadd, 1) := by decide +kernel
theorem dX11_isNumber_69 : decode cX11_isNumber 69 = .ok (.bipush 48, 2) := by decide +kernel
theorem dX11_isNumber_71 : decode cX11_isNumber 71 = .ok (.isub, 1) := by decide +kernel
theorem dX11_isNumber_72 : decode cX11_isNumber 72 = .ok (.putfield 238, 3) := by decide +kernel
theorem dX11_isNumber_75 : decode cX11_isNumber 75 = .ok (.aload_n 0, 1) := by decide +kernel
theorem dX11_isNumber_76 : decode cX11_isNumber 76 = .ok (.dup, 1) := by decide +kernel
theorem dX11_isNumber_77 : decode cX11_isNumber 77 = .ok (.getfield 226, 3) := by decide +kernel
theorem dX11_isNumber_80 : decode cX11_isNumber 80 = .ok (.iconst 1, 1) := by decide +kernel
theorem dX11_isNumber_81 : decode cX11_isNumber 81 = .ok (.iadd, 1) := by decide +kernel
theorem dX11_isNumber_82 : decode cX11_isNumber 82 = .ok (.putfield 226, 3) := by decide +kernel
theorem dX11_isNumber_85 : decode cX11_isNumber 85 = .ok (.iinc 4 1, 3) := by decide +kernel
theorem dX11_isNumber_88 : decode cX11_isNumber 88 = .ok (.goto (-52), 3) := by decide +kernel
theorem dX11_isNumber_91 : decode cX11_isNumber 91 = .ok (.aload_n 0, 1) := by decide +kernel
theorem dX11_isNumber_92 : decode cX11_isNumber 92 = .ok (.getfield 238, 3) := by decide +kernel
theorem dX11_isNumber_95 : decode cX11_isNumber 95 = .ok (.iload_n 2, 1) := by decide +kernel
theorem dX11_isNumber_96 : decode cX11_isNumber 96 = .ok (.if_icmp .le 11, 3) := by decide +kernel
theorem dX11_isNumber_99 : decode cX11_isNumber 99 = .ok (.aload_n 0, 1) := by decide +kernel
theorem dX11_isNumber_100 : decode cX11_isNumber 100 = .ok (.iload_n 3, 1) := by decide +kernel
theorem dX11_isNumber_101 : decode cX11_isNumber 101 = .ok (.invokevirtual 235, 3) := by decide +kernel
theorem dX11_isNumber_104 : decode cX11_isNumber 104 = .ok (.ifCond .eq 7, 3) := by decide +kernel
theorem dX11_isNumber_107 : decode cX11_isNumber 107 = .ok (.iconst 1, 1) := by decide +kernel
theorem dX11_isNumber_108 : decode cX11_isNumber 108 = .ok (.goto 4, 3) := by decide +kernel
theorem dX11_isNumber_111 : decode cX11_isNumber 111 = .ok (.iconst 0, 1) := by decide +kernel
theorem dX11_isNumber_112 : decode cX11_isNumber 112 = .ok (.ireturn, 1) := by decide +kernel
theorem dX11_begins_0 : decode cX11_begins 0 = .ok (.aload_n 0, 1) := by decide +kernel
theorem dX11_begins_1 : decode cX11_begins 1 = .ok (.iconst 0, 1) := by decide +kernel
theorem dX11_begins_2 : decode cX11_begins 2 = .ok (.putfield 226, 3) := by decide +kernel
theorem dX11_begins_5 : decode cX11_begins 5 = .ok (.aload_n 0, 1) := by decide +kernel
theorem dX11_begins_6 : decode cX11_begins 6 = .ok (.iconst (-1), 1) := by decide +kernel
theorem dX11_begins_7 : decode cX11_begins 7 = .ok (.putfield 229, 3) := by decide +kernel
theorem dX11_begins_10 : decode cX11_begins 10 = .ok (.return_, 1) := by decide +kernel
theorem dX11_isTwo_0 : decode cX11_isTwo 0 = .ok (.aload_n 0, 1) := by decide +kernel
theorem dX11_isTwo_1 : decode cX11_isTwo 1 = .ok (.iconst 2, 1) := by decide +kernel
theorem dX11_isTwo_2 : decode cX11_isTwo 2 = .ok (.bipush 39, 2) := by decide +kernel
theorem dX11_isTwo_4 : decode cX11_isTwo 4 = .ok (.invokevirtual 241, 3) := by decide +kernel
theorem dX11_isTwo_7 : decode cX11_isTwo 7 = .ok (.ifCond .ne 5, 3) := by decide +kernel
theorem dX11_isTwo_10 : decode cX11_isTwo 10 = .ok (.iconst 0, 1) := by decide +kernel
theorem dX11_isTwo_11 : decode cX11_isTwo 11 = .ok (.ireturn, 1) := by decide +kernel
theorem dX11_isTwo_12 : decode cX11_isTwo 12 = .ok (.aload_n 0, 1) := by decide +kernel
theorem dX11_isTwo_13 : decode cX11_isTwo 13 = .ok (.getfield 52, 3) := by decide +kernel
theorem dX11_isTwo_16 : decode cX11_isTwo 16 = .ok (.iload_n 1, 1) := by decide +kernel
theorem dX11_isTwo_17 : decode cX11_isTwo 17 = .ok (.iconst 1, 1) := by decide +kernel
theorem dX11_isTwo_18 : decode cX11_isTwo 18 = .ok (.iadd, 1) := by decide +kernel
theorem dX11_isTwo_19 : decode cX11_isTwo 19 = .ok (.aload_n 0, 1) := by decide +kernel
theorem dX11_isTwo_20 : decode cX11_isTwo 20 = .ok (.getfield 238, 3) := by decide +kernel
theorem dX11_isTwo_23 : decode cX11_isTwo 23 = .ok (.iastore, 1) := by decide +kernel
theorem dX11_isTwo_24 : decode cX11_isTwo 24 = .ok (.aload_n 0, 1) := by decide +kernel
theorem dX11_isTwo_25 : decode cX11_isTwo 25 = .ok (.bipush 44, 2) := by decide +kernel
theorem dX11_isTwo_27 : decode cX11_isTwo 27 = .ok (.invokevirtual 244, 3) := by decide +kernel
theorem dX11_isTwo_30 : decode cX11_isTwo 30 = .ok (.ifCond .ne 5, 3) := by decide +kernel
theorem dX11_isTwo_33 : decode cX11_isTwo 33 = .ok (.iconst 0, 1) := by decide +kernel
theorem dX11_isTwo_34 : decode cX11_isTwo 34 = .ok (.ireturn, 1) := by decide +kernel
theorem dX11_isTwo_35 : decode cX11_isTwo 35 = .ok (.aload_n 0, 1) := by decide +kernel
theorem dX11_isTwo_36 : decode cX11_isTwo 36 = .ok (.getfield 226, 3) := by decide +kernel
theorem dX11_isTwo_39 : decode cX11_isTwo 39 = .ok (.istore_n 2, 1) := by decide +kernel
theorem dX11_isTwo_40 : decode cX11_isTwo 40 = .ok (.aload_n 0, 1) := by decide +kernel
theorem dX11_isTwo_41 : decode cX11_isTwo 41 = .ok (.iconst 2, 1) := by decide +kernel
theorem dX11_isTwo_42 : decode cX11_isTwo 42 = .ok (.bipush 39, 2) := by decide +kernel
theorem dX11_isTwo_44 : decode cX11_isTwo 44 = .ok (.invokevirtual 241, 3) := by decide +kernel
theorem dX11_isTwo_47 : decode cX11_isTwo 47 = .ok (.ifCond .ne 5, 3) := by decide +kernel
theorem dX11_isTwo_50 : decode cX11_isTwo 50 = .ok (.iconst 0, 1) := by decide +kernel
theorem dX11_isTwo_51 : decode cX11_isTwo 51 = .ok (.ireturn, 1) := by decide +kernel
theorem dX11_isTwo_52 : decode cX11_isTwo 52 = .ok (.aload_n 0, 1) := by decide +kernel
theorem dX11_isTwo_53 : decode cX11_isTwo 53 = .ok (.getfield 52, 3) := by decide +kernel
theorem dX11_isTwo_56 : decode cX11_isTwo 56 = .ok (.iload_n 1, 1) := by decide +kernel
theorem dX11_isTwo_57 : decode cX11_isTwo 57 = .ok (.iconst 2, 1) := by decide +kernel
theorem dX11_isTwo_58 : decode cX11_isTwo 58 = .ok (.iadd, 1) := by decide +kernel
theorem dX11_isTwo_59 : decode cX11_isTwo 59 = .ok (.aload_n 0, 1) := by decide +kernel
theorem dX11_isTwo_60 : decode cX11_isTwo 60 = .ok (.getfield 238, 3) := by decide +kernel
theorem dX11_isTwo_63 : decode cX11_isTwo 63 = .ok (.iastore, 1) := by decide +kernel
theorem dX11_isTwo_64 : decode cX11_isTwo 64 = .ok (.aload_n 0, 1) := by decide +kernel
theorem dX11_isTwo_65 : decode cX11_isTwo 65 = .ok (.getfield 52, 3) := by decide +kernel
theorem dX11_isTwo_68 : decode cX11_isTwo 68 = .ok (.iload_n 1, 1) := by decide +kernel
theorem dX11_isTwo_69 : decode cX11_isTwo 69 = .ok (.iconst 1, 1) := by decide +kernel
theorem dX11_isTwo_70 : decode cX11_isTwo 70 = .ok (.iadd, 1) := by decide +kernel
theorem dX11_isTwo_71 : decode cX11_isTwo 71 = .ok (.iaload, 1) := by decide +kernel
theorem dX11_isTwo_72 : decode cX11_isTwo 72 = .ok (.aload_n 0, 1) := by decide +kernel
theorem dX11_isTwo_73 : decode cX11_isTwo 73 = .ok (.getfield 238, 3) := by decide +kernel
theorem dX11_isTwo_76 : decode cX11_isTwo 76 = .ok (.if_icmp .ne 11, 3) := by decide +kernel
theorem dX11_isTwo_79 : decode cX11_isTwo 79 = .ok (.aload_n 0, 1) := by decide +kernel
theorem dX11_isTwo_80 : decode cX11_isTwo 80 = .ok (.iload_n 2, 1) := by decide +kernel
theorem dX11_isTwo_81 : decode cX11_isTwo 81 = .ok (.invokevirtual 235, 3) := by decide +kernel
theorem dX11_isTwo_84 : decode cX11_isTwo 84 = .ok (.ifCond .eq 7, 3) := by decide +kernel
theorem dX11_isTwo_87 : decode cX11_isTwo 87 = .ok (.iconst 1, 1) := by decide +kernel
theorem dX11_isTwo_88 : decode cX11_isTwo 88 = .ok (.goto 4, 3) := by decide +kernel
theorem dX11_isTwo_91 : decode cX11_isTwo 91 = .ok (.iconst 0, 1) := by decide +kernel
theorem dX11_isTwo_92 : decode cX11_isTwo 92 = .ok (.ireturn, 1) := by decide +kernel
theorem dX11_isPart_0 : decode cX11_isPart 0 = .ok (.aload_n 0, 1) := by decide +kernel
theorem dX11_isPart_1 : decode cX11_isPart 1 = .ok (.invokevirtual 232, 3) := by decide +kernel
theorem dX11_isPart_4 : decode cX11_isPart 4 = .ok (.istore_n 2, 1) := by decide +kernel
theorem dX11_isPart_5 : decode cX11_isPart 5 = .ok (.aload_n 0, 1) := by decide +kernel
theorem dX11_isPart_6 : decode cX11_isPart 6 = .ok (.getfield 52, 3) := by decide +kernel
theorem dX11_isPart_9 : decode cX11_isPart 9 = .ok (.iload_n 1, 1) := by decide +kernel
theorem dX11_isPart_10 : decode cX11_isPart 10 = .ok (.iload_n 2, 1) := by decide +kernel
theorem dX11_isPart_11 : decode cX11_isPart 11 = .ok (.iastore, 1) := by decide +kernel
theorem dX11_isPart_12 : decode cX11_isPart 12 = .ok (.aload_n 0, 1) := by decide +kernel
theorem dX11_isPart_13 : decode cX11_isPart 13 = .ok (.getfield 52, 3) := by decide +kernel
theorem dX11_isPart_16 : decode cX11_isPart 16 = .ok (.iload_n 1, 1) := by decide +kernel
theorem dX11_isPart_17 : decode cX11_isPart 17 = .ok (.iconst 3, 1) := by decide +kernel
theorem dX11_isPart_18 : decode cX11_isPart 18 = .ok (.iadd, 1) := by decide +kernel
theorem dX11_isPart_19 : decode cX11_isPart 19 = .ok (.iconst 1, 1) := by decide +kernel
theorem dX11_isPart_20 : decode cX11_isPart 20 = .ok (.iastore, 1) := by decide +kernel
theorem dX11_isPart_21 : decode cX11_isPart 21 = .ok (.iload_n 2, 1) := by decide +kernel
theorem dX11_isPart_22 : decode cX11_isPart 22 = .ok (.bipush 43, 2) := by decide +kernel
theorem dX11_isPart_24 : decode cX11_isPart 24 = .ok (.if_icmp .eq 30, 3) := by decide +kernel
theorem dX11_isPart_27 : decode cX11_isPart 27 = .ok (.iload_n 2, 1) := by decide +kernel
theorem dX11_isPart_28 : decode cX11_isPart 28 = .ok (.bipush 45, 2) := by decide +kernel
theorem dX11_isPart_30 : decode cX11_isPart 30 = .ok (.if_icmp .eq 24, 3) := by decide +kernel
theorem dX11_isPart_33 : decode cX11_isPart 33 = .ok (.iload_n 2, 1) := by decide +kernel
theorem dX11_isPart_34 : decode cX11_isPart 34 = .ok (.bipush 126, 2) := by decide +kernel
theorem dX11_isPart_36 : decode cX11_isPart 36 = .ok (.if_icmp .eq 18, 3) := by decide +kernel
theorem dX11_isPart_39 : decode cX11_isPart 39 = .ok (.iload_n 2, 1) := by decide +kernel
theorem dX11_isPart_40 : decode cX11_isPart 40 = .ok (.bipush 42, 2) := by decide +kernel
theorem dX11_isPart_42 : decode cX11_isPart 42 = .ok (.if_icmp .eq 12, 3) := by decide +kernel
theorem dX11_isPart_45 : decode cX11_isPart 45 = .ok (.aload_n 0, 1) := by decide +kernel
theorem dX11_isPart_46 : decode cX11_isPart 46 = .ok (.aload_n 0, 1) := by decide +kernel
theorem dX11_isPart_47 : decode cX11_isPart 47 = .ok (.getfield 226, 3) := by decide +kernel
theorem dX11_isPart_50 : decode cX11_isPart 50 = .ok (.invokevirtual 235, 3) := by decide +kernel
theorem dX11_isPart_53 : decode cX11_isPart 53 = .ok (.ireturn, 1) := by decide +kernel
theorem dX11_isPart_54 : decode cX11_isPart 54 = .ok (.aload_n 0, 1) := by decide +kernel
theorem dX11_isPart_55 : decode cX11_isPart 55 = .ok (.dup, 1) := by decide +kernel
theorem dX11_isPart_56 : decode cX11_isPart 56 = .ok (.getfield 226, 3) := by decide +kernel
theorem dX11_isPart_59 : decode cX11_isPart 59 = .ok (.iconst 1, 1) := by decide +kernel
theorem dX11_isPart_60 : decode cX11_isPart 60 = .ok (.iadd, 1) := by decide +kernel
theorem dX11_isPart_61 : decode cX11_isPart 61 = .ok (.putfield 226, 3) := by decide +kernel
theorem dX11_isPart_64 : decode cX11_isPart 64 = .ok (.iload_n 2, 1) := by decide +kernel
theorem dX11_isPart_65 : decode cX11_isPart 65 = .ok (.bipush 42, 2) := by decide +kernel
theorem dX11_isPart_67 : decode cX11_isPart 67 = .ok (.if_icmp .ne 25, 3) := by decide +kernel
theorem dX11_isPart_70 : decode cX11_isPart 70 = .ok (.aload_n 0, 1) := by decide +kernel
theorem dX11_isPart_71 : decode cX11_isPart 71 = .ok (.iconst 2, 1) := by decide +kernel
theorem dX11_isPart_72 : decode cX11_isPart 72 = .ok (.bipush 39, 2) := by decide +kernel
theorem dX11_isPart_74 : decode cX11_isPart 74 = .ok (.invokevirtual 241, 3) := by decide +kernel
theorem dX11_isPart_77 : decode cX11_isPart 77 = .ok (.istore_n 3, 1) := by decide +kernel
theorem dX11_isPart_78 : decode cX11_isPart 78 = .ok (.aload_n 0, 1) := by decide +kernel
theorem dX11_isPart_79 : decode cX11_isPart 79 = .ok (.getfield 52, 3) := by decide +kernel
theorem dX11_isPart_82 : decode cX11_isPart 82 = .ok (.iload_n 1, 1) := by decide +kernel
theorem dX11_isPart_83 : decode cX11_isPart 83 = .ok (.iconst 1, 1) := by decide +kernel
theorem dX11_isPart_84 : decode cX11_isPart 84 = .ok (.iadd, 1) := by decide +kernel
theorem dX11_isPart_85 : decode cX11_isPart 85 = .ok (.aload_n 0, 1) := by decide +kernel
theorem dX11_isPart_86 : decode cX11_isPart 86 = .ok (.getfield 238, 3) := by decide +kernel
theorem dX11_isPart_89 : decode cX11_isPart 89 = .ok (.iastore, 1) := by decide +kernel
theorem dX11_isPart_90 : decode cX11_isPart 90 = .ok (.iload_n 3, 1) := by decide +kernel
theorem dX11_isPart_91 : decode cX11_isPart 91 = .ok (.ireturn, 1) := by decide +kernel
theorem dX11_isPart_92 : decode cX11_isPart 92 = .ok (.aload_n 0, 1) := by decide +kernel
theorem dX11_isPart_93 : decode cX11_isPart 93 = .ok (.iload_n 1, 1) := by decide +kernel
theorem dX11_isPart_94 : decode cX11_isPart 94 = .ok (.invokevirtual 247, 3) := by decide +kernel
theorem dX11_isPart_97 : decode cX11_isPart 97 = .ok (.ifCond .ne 5, 3) := by decide +kernel
theorem dX11_isPart_100 : decode cX11_isPart 100 = .ok (.iconst 0, 1) := by decide +kernel
theorem dX11_isPart_101 : decode cX11_isPart 101 = .ok (.ireturn, 1) := by decide +kernel
theorem dX11_isPart_102 : decode cX11_isPart 102 = .ok (.iload_n 2, 1) := by decide +kernel
theorem dX11_isPart_103 : decode cX11_isPart 103 = .ok (.bipush 43, 2) := by decide +kernel
theorem dX11_isPart_105 : decode cX11_isPart 105 = .ok (.if_icmp .ne 12, 3) := by decide +kernel
theorem dX11_isPart_108 : decode cX11_isPart 108 = .ok (.aload_n 0, 1) := by decide +kernel
theorem dX11_isPart_109 : decode cX11_isPart 109 = .ok (.invokevirtual 232, 3) := by decide +kernel
theorem dX11_isPart_112 : decode cX11_isPart 112 = .ok (.bipush 61, 2) := by decide +kernel
theorem dX11_isPart_114 : decode cX11_isPart 114 = .ok (.if_icmp .eq 5, 3) := by decide +kernel
theorem dX11_isPart_117 : decode cX11_isPart 117 = .ok (.iconst 1, 1) := by decide +kernel
theorem dX11_isPart_118 : decode cX11_isPart 118 = .ok (.ireturn, 1) := by decide +kernel
theorem dX11_isPart_119 : decode cX11_isPart 119 = .ok (.aload_n 0, 1) := by decide +kernel
theorem dX11_isPart_120 : decode cX11_isPart 120 = .ok (.dup, 1) := by decide +kernel
theorem dX11_isPart_121 : decode cX11_isPart 121 = .ok (.getfield 226, 3) := by decide +kernel
theorem dX11_isPart_124 : decode cX11_isPart 124 = .ok (.iconst 1, 1) := by decide +kernel
theorem dX11_isPart_125 : decode cX11_isPart 125 = .ok (.iadd, 1) := by decide +kernel
theorem dX11_isPart_126 : decode cX11_isPart 126 = .ok (.putfield 226, 3) := by decide +kernel
theorem dX11_isPart_129 : decode cX11_isPart 129 = .ok (.aload_n 0, 1) := by decide +kernel
theorem dX11_isPart_130 : decode cX11_isPart 130 = .ok (.invokevirtual 232, 3) := by decide +kernel
theorem dX11_isPart_133 : decode cX11_isPart 133 = .ok (.bipush 45, 2) := by decide +kernel
theorem dX11_isPart_135 : decode cX11_isPart 135 = .ok (.if_icmp .ne 7, 3) := by decide +kernel
theorem dX11_isPart_138 : decode cX11_isPart 138 = .ok (.iconst 1, 1) := by decide +kernel
theorem dX11_isPart_139 : decode cX11_isPart 139 = .ok (.goto 4, 3) := by decide +kernel
theorem dX11_isPart_142 : decode cX11_isPart 142 = .ok (.iconst 0, 1) := by decide +kernel
theorem dX11_isPart_143 : decode cX11_isPart 143 = .ok (.istore_n 3, 1) := by decide +kernel
theorem dX11_isPart_144 : decode cX11_isPart 144 = .ok (.aload_n 0, 1) := by decide +kernel
theorem dX11_isPart_145 : decode cX11_isPart 145 = .ok (.dup, 1) := by decide +kernel
theorem dX11_isPart_146 : decode cX11_isPart 146 = .ok (.getfield 226, 3) := by decide +kernel
theorem dX11_isPart_149 : decode cX11_isPart 149 = .ok (.iload_n 3, 1) := by decide +kernel
theorem dX11_isPart_150 : decode cX11_isPart 150 = .ok (.ifCond .eq 7, 3) := by decide +kernel
theorem dX11_isPart_153 : decode cX11_isPart 153 = .ok (.iconst 1, 1) := by decide +kernel
theorem dX11_isPart_154 : decode cX11_isPart 154 = .ok (.goto 4, 3) := by decide +kernel
theorem dX11_isPart_157 : decode cX11_isPart 157 = .ok (.iconst 0, 1) := by decide +kernel
theorem dX11_isPart_158 : decode cX11_isPart 158 = .ok (.iadd, 1) := by decide +kernel
theorem dX11_isPart_159 : decode cX11_isPart 159 = .ok (.putfield 226, 3) := by decide +kernel
theorem dX11_isPart_162 : decode cX11_isPart 162 = .ok (.aload_n 0, 1) := by decide +kernel
theorem dX11_isPart_163 : decode cX11_isPart 163 = .ok (.bipush 7, 2) := by decide +kernel
theorem dX11_isPart_165 : decode cX11_isPart 165 = .ok (.ldc 115, 2) := by decide +kernel
theorem dX11_isPart_167 : decode cX11_isPart 167 = .ok (.invokevirtual 241, 3) := by decide +kernel
theorem dX11_isPart_170 : decode cX11_isPart 170 = .ok (.ifCond .ne 5, 3) := by decide +kernel
theorem dX11_isPart_173 : decode cX11_isPart 173 = .ok (.iconst 0, 1) := by decide +kernel
theorem dX11_isPart_174 : decode cX11_isPart 174 = .ok (.ireturn, 1) := by decide +kernel
theorem dX11_isPart_175 : decode cX11_isPart 175 = .ok (.aload_n 0, 1) := by decide +kernel
theorem dX11_isPart_176 : decode cX11_isPart 176 = .ok (.getfield 52, 3) := by decide +kernel
theorem dX11_isPart_179 : decode cX11_isPart 179 = .ok (.iload_n 1, 1) := by decide +kernel
theorem dX11_isPart_180 : decode cX11_isPart 180 = .ok (.iconst 3, 1) := by decide +kernel
theorem dX11_isPart_181 : decode cX11_isPart 181 = .ok (.iadd, 1) := by decide +kernel
theorem dX11_isPart_182 : decode cX11_isPart 182 = .ok (.iload_n 3, 1) := by decide +kernel
theorem dX11_isPart_183 : decode cX11_isPart 183 = .ok (.ifCond .eq 11, 3) := by decide +kernel
theorem dX11_isPart_186 : decode cX11_isPart 186 = .ok (.aload_n 0, 1) := by decide +kernel
theorem dX11_isPart_187 : decode cX11_isPart 187 = .ok (.getfield 238, 3) := by decide +kernel
theorem dX11_isPart_190 : decode cX11_isPart 190 = .ok (.ineg, 1) := by decide +kernel
theorem dX11_isPart_191 : decode cX11_isPart 191 = .ok (.goto 7, 3) := by decide +kernel
theorem dX11_isPart_194 : decode cX11_isPart 194 = .ok (.aload_n 0, 1) := by decide +kernel
theorem dX11_isPart_195 : decode cX11_isPart 195 = .ok (.getfield 238, 3) := by decide +kernel
theorem dX11_isPart_198 : decode cX11_isPart 198 = .ok (.iastore, 1) := by decide +kernel
theorem dX11_isPart_199 : decode cX11_isPart 199 = .ok (.iconst 1, 1) := by decide +kernel
theorem dX11_isPart_200 : decode cX11_isPart 200 = .ok (.ireturn, 1) := by decide +kernel
theorem dX11_does_0 : decode cX11_does 0 = .ok (.aload_n 0, 1) := by decide +kernel
theorem dX11_does_1 : decode cX11_does 1 = .ok (.getfield 52, 3) := by decide +kernel
theorem dX11_does_4 : decode cX11_does 4 = .ok (.iload_n 1, 1) := by decide +kernel
theorem dX11_does_5 : decode cX11_does 5 = .ok (.iconst 1, 1) := by decide +kernel
theorem dX11_does_6 : decode cX11_does 6 = .ok (.iadd, 1) := by decide +kernel
theorem dX11_does_7 : decode cX11_does 7 = .ok (.iaload, 1) := by decide +kernel
theorem dX11_does_8 : decode cX11_does 8 = .ok (.istore_n 2, 1) := by decide +kernel
theorem dX11_does_9 : decode cX11_does 9 = .ok (.aload_n 0, 1) := by decide +kernel
theorem dX11_does_10 : decode cX11_does 10 = .ok (.getfield 52, 3) := by decide +kernel
theorem dX11_does_13 : decode cX11_does 13 = .ok (.iload_n 1, 1) := by decide +kernel
theorem dX11_does_14 : decode cX11_does 14 = .ok (.iconst 2, 1) := by decide +kernel
theorem dX11_does_15 : decode cX11_does 15 = .ok (.iadd, 1) := by decide +kernel
theorem dX11_does_16 : decode cX11_does 16 = .ok (.iaload, 1) := by decide +kernel
theorem dX11_does_17 : decode cX11_does 17 = .ok (.istore_n 3, 1) := by decide +kernel
theorem dX11_does_18 : decode cX11_does 18 = .ok (.aload_n 0, 1) := by decide +kernel
theorem dX11_does_19 : decode cX11_does 19 = .ok (.getfield 52, 3) := by decide +kernel
theorem dX11_does_22 : decode cX11_does 22 = .ok (.iload_n 1, 1) := by decide +kernel
theorem dX11_does_23 : decode cX11_does 23 = .ok (.iaload, 1) := by decide +kernel
theorem dX11_does_24 : decode cX11_does 24 = .ok (.bipush 42, 2) := by decide +kernel
theorem dX11_does_26 : decode cX11_does 26 = .ok (.if_icmp .ne 37, 3) := by decide +kernel
theorem dX11_does_29 : decode cX11_does 29 = .ok (.iconst 0, 1) := by decide +kernel
theorem dX11_does_30 : decode cX11_does 30 = .ok (.istore 4, 2) := by decide +kernel
theorem dX11_does_32 : decode cX11_does 32 = .ok (.iload 4, 2) := by decide +kernel
theorem dX11_does_34 : decode cX11_does 34 = .ok (.bipush 40, 2) := by decide +kernel
theorem dX11_does_36 : decode cX11_does 36 = .ok (.if_icmp .ge 26, 3) := by decide +kernel
theorem dX11_does_39 : decode cX11_does 39 = .ok (.aload_n 0, 1) := by decide +kernel
theorem dX11_does_40 : decode cX11_does 40 = .ok (.iload_n 2, 1) := by decide +kernel
theorem dX11_does_41 : decode cX11_does 41 = .ok (.iload 4, 2) := by decide +kernel
theorem dX11_does_43 : decode cX11_does 43 = .ok (.invokevirtual 116, 3) := by decide +kernel
theorem dX11_does_46 : decode cX11_does 46 = .ok (.ifCond .eq 10, 3) := by decide +kernel
theorem dX11_does_49 : decode cX11_does 49 = .ok (.aload_n 0, 1) := by decide +kernel
theorem dX11_does_50 : decode cX11_does 50 = .ok (.iload_n 2, 1) := by decide +kernel
theorem dX11_does_51 : decode cX11_does 51 = .ok (.iload 4, 2) := by decide +kernel
theorem dX11_does_53 : decode cX11_does 53 = .ok (.invokevirtual 126, 3) := by decide +kernel
theorem dX11_does_56 : decode cX11_does 56 = .ok (.iinc 4 1, 3) := by decide +kernel
theorem dX11_does_59 : decode cX11_does 59 = .ok (.goto (-27), 3) := by decide +kernel
theorem dX11_does_62 : decode cX11_does 62 = .ok (.return_, 1) := by decide +kernel
theorem dX11_does_63 : decode cX11_does 63 = .ok (.aload_n 0, 1) := by decide +kernel
theorem dX11_does_64 : decode cX11_does 64 = .ok (.iload_n 2, 1) := by decide +kernel
theorem dX11_does_65 : decode cX11_does 65 = .ok (.iload_n 3, 1) := by decide +kernel
theorem dX11_does_66 : decode cX11_does 66 = .ok (.invokevirtual 116, 3) := by decide +kernel
theorem dX11_does_69 : decode cX11_does 69 = .ok (.istore 4, 2) := by decide +kernel
theorem dX11_does_71 : decode cX11_does 71 = .ok (.aload_n 0, 1) := by decide +kernel
theorem dX11_does_72 : decode cX11_does 72 = .ok (.getfield 52, 3) := by decide +kernel
theorem dX11_does_75 : decode cX11_does 75 = .ok (.iload_n 1, 1) := by decide +kernel
theorem dX11_does_76 : decode cX11_does 76 = .ok (.iaload, 1) := by decide +kernel
theorem dX11_does_77 : decode cX11_does 77 = .ok (.bipush 43, 2) := by decide +kernel
theorem dX11_does_79 : decode cX11_does 79 = .ok (.if_icmp .ne 8, 3) := by decide +kernel
theorem dX11_does_82 : decode cX11_does 82 = .ok (.iload 4, 2) := by decide +kernel
theorem dX11_does_84 : decode cX11_does 84 = .ok (.ifCond .eq 19, 3) := by decide +kernel
theorem dX11_does_87 : decode cX11_does 87 = .ok (.aload_n 0, 1) := by decide +kernel
theorem dX11_does_88 : decode cX11_does 88 = .ok (.getfield 52, 3) := by decide +kernel
theorem dX11_does_91 : decode cX11_does 91 = .ok (.iload_n 1, 1) := by decide +kernel
theorem dX11_does_92 : decode cX11_does 92 = .ok (.iaload, 1) := by decide +kernel
theorem dX11_does_93 : decode cX11_does 93 = .ok (.bipush 126, 2) := by decide +kernel
theorem dX11_does_95 : decode cX11_does 95 = .ok (.if_icmp .ne 22, 3) := by decide +kernel
theorem dX11_does_98 : decode cX11_does 98 = .ok (.iload 4, 2) := by decide +kernel
theorem dX11_does_100 : decode cX11_does 100 = .ok (.ifCond .ne 17, 3) := by decide +kernel
theorem dX11_does_103 : decode cX11_does 103 = .ok (.aload_n 0, 1) := by decide +kernel
theorem dX11_does_104 : decode cX11_does 104 = .ok (.iload_n 2, 1) := by decide +kernel
theorem dX11_does_105 : decode cX11_does 105 = .ok (.iload_n 3, 1) := by decide +kernel
theorem dX11_does_106 : decode cX11_does 106 = .ok (.aload_n 0, 1) := by decide +kernel
theorem dX11_does_107 : decode cX11_does 107 = .ok (.getfield 52, 3) := by decide +kernel
theorem dX11_does_110 : decode cX11_does 110 = .ok (.iload_n 1, 1) := by decide +kernel
theorem dX11_does_111 : decode cX11_does 111 = .ok (.iconst 3, 1) := by decide +kernel
theorem dX11_does_112 : decode cX11_does 112 = .ok (.iadd, 1) := by decide +kernel
theorem dX11_does_113 : decode cX11_does 113 = .ok (.iaload, 1) := by decide +kernel
theorem dX11_does_114 : decode cX11_does 114 = .ok (.invokevirtual 119, 3) := by decide +kernel
theorem dX11_does_117 : decode cX11_does 117 = .ok (.aload_n 0, 1) := by decide +kernel
theorem dX11_does_118 : decode cX11_does 118 = .ok (.getfield 52, 3) := by decide +kernel
theorem dX11_does_121 : decode cX11_does 121 = .ok (.iload_n 1, 1) := by decide +kernel
theorem dX11_does_122 : decode cX11_does 122 = .ok (.iaload, 1) := by decide +kernel
theorem dX11_does_123 : decode cX11_does 123 = .ok (.bipush 45, 2) := by decide +kernel
theorem dX11_does_125 : decode cX11_does 125 = .ok (.if_icmp .ne 8, 3) := by decide +kernel
theorem dX11_does_128 : decode cX11_does 128 = .ok (.iload 4, 2) := by decide +kernel
theorem dX11_does_130 : decode cX11_does 130 = .ok (.ifCond .ne 19, 3) := by decide +kernel
theorem dX11_does_133 : decode cX11_does 133 = .ok (.aload_n 0, 1) := by decide +kernel
theorem dX11_does_134 : decode cX11_does 134 = .ok (.getfield 52, 3) := by decide +kernel
theorem dX11_does_137 : decode cX11_does 137 = .ok (.iload_n 1, 1) := by decide +kernel
theorem dX11_does_138 : decode cX11_does 138 = .ok (.iaload, 1) := by decide +kernel
theorem dX11_does_139 : decode cX11_does 139 = .ok (.bipush 126, 2) := by decide +kernel
theorem dX11_does_141 : decode cX11_does 141 = .ok (.if_icmp .ne 14, 3) := by decide +kernel
theorem dX11_does_144 : decode cX11_does 144 = .ok (.iload 4, 2) := by decide +kernel
theorem dX11_does_146 : decode cX11_does 146 = .ok (.ifCond .eq 9, 3) := by decide +kernel
theorem dX11_does_149 : decode cX11_does 149 = .ok (.aload_n 0, 1) := by decide +kernel
theorem dX11_does_150 : decode cX11_does 150 = .ok (.iload_n 2, 1) := by decide +kernel
theorem dX11_does_151 : decode cX11_does 151 = .ok (.iload_n 3, 1) := by decide +kernel
theorem dX11_does_152 : decode cX11_does 152 = .ok (.invokevirtual 126, 3) := by decide +kernel
theorem dX11_does_155 : decode cX11_does 155 = .ok (.return_, 1) := by decide +kernel
theorem dX11_batch_0 : decode cX11_batch 0 = .ok (.aload_n 0, 1) := by decide +kernel
theorem dX11_batch_1 : decode cX11_batch 1 = .ok (.invokevirtual 250, 3) := by decide +kernel
theorem dX11_batch_4 : decode cX11_batch 4 = .ok (.iconst 0, 1) := by decide +kernel
theorem dX11_batch_5 : decode cX11_batch 5 = .ok (.istore_n 1, 1) := by decide +kernel
theorem dX11_batch_6 : decode cX11_batch 6 = .ok (.iconst 1, 1) := by decide +kernel
theorem dX11_batch_7 : decode cX11_batch 7 = .ok (.istore_n 2, 1) := by decide +kernel
theorem dX11_batch_8 : decode cX11_batch 8 = .ok (.iload_n 2, 1) := by decide +kernel
theorem dX11_batch_9 : decode cX11_batch 9 = .ok (.ifCond .eq 48, 3) := by decide +kernel
theorem dX11_batch_12 : decode cX11_batch 12 = .ok (.aload_n 0, 1) := by decide +kernel
theorem dX11_batch_13 : decode cX11_batch 13 = .ok (.iconst 4, 1) := by decide +kernel
theorem dX11_batch_14 : decode cX11_batch 14 = .ok (.iload_n 1, 1) := by decide +kernel
theorem dX11_batch_15 : decode cX11_batch 15 = .ok (.imul, 1) := by decide +kernel
theorem dX11_batch_16 : decode cX11_batch 16 = .ok (.invokevirtual 253, 3) := by decide +kernel
theorem dX11_batch_19 : decode cX11_batch 19 = .ok (.istore_n 2, 1) := by decide +kernel
theorem dX11_batch_20 : decode cX11_batch 20 = .ok (.iinc 1 1, 3) := by decide +kernel
theorem dX11_batch_23 : decode cX11_batch 23 = .ok (.iload_n 2, 1) := by decide +kernel
theorem dX11_batch_24 : decode cX11_batch 24 = .ok (.ifCond .eq 19, 3) := by decide +kernel
theorem dX11_batch_27 : decode cX11_batch 27 = .ok (.aload_n 0, 1) := by decide +kernel
theorem dX11_batch_28 : decode cX11_batch 28 = .ok (.getfield 226, 3) := by decide +kernel
theorem dX11_batch_31 : decode cX11_batch 31 = .ok (.aload_n 0, 1) := by decide +kernel
theorem dX11_batch_32 : decode cX11_batch 32 = .ok (.getfield 223, 3) := by decide +kernel
theorem dX11_batch_35 : decode cX11_batch 35 = .ok (.if_icmp .ne 8, 3) := by decide +kernel
theorem dX11_batch_38 : decode cX11_batch 38 = .ok (.iconst 0, 1) := by decide +kernel
theorem dX11_batch_39 : decode cX11_batch 39 = .ok (.istore_n 2, 1) := by decide +kernel
theorem dX11_batch_40 : decode cX11_batch 40 = .ok (.goto (-32), 3) := by decide +kernel
theorem dX11_batch_43 : decode cX11_batch 43 = .ok (.iload_n 2, 1) := by decide +kernel
theorem dX11_batch_44 : decode cX11_batch 44 = .ok (.ifCond .eq (-36), 3) := by decide +kernel
theorem dX11_batch_47 : decode cX11_batch 47 = .ok (.aload_n 0, 1) := by decide +kernel
theorem dX11_batch_48 : decode cX11_batch 48 = .ok (.bipush 59, 2) := by decide +kernel
theorem dX11_batch_50 : decode cX11_batch 50 = .ok (.invokevirtual 244, 3) := by decide +kernel
theorem dX11_batch_53 : decode cX11_batch 53 = .ok (.istore_n 2, 1) := by decide +kernel
theorem dX11_batch_54 : decode cX11_batch 54 = .ok (.goto (-46), 3) := by decide +kernel
theorem dX11_batch_57 : decode cX11_batch 57 = .ok (.aload_n 0, 1) := by decide +kernel
theorem dX11_batch_58 : decode cX11_batch 58 = .ok (.iconst 0, 1) := by decide +kernel
theorem dX11_batch_59 : decode cX11_batch 59 = .ok (.putfield 223, 3) := by decide +kernel
theorem dX11_batch_62 : decode cX11_batch 62 = .ok (.aload_n 0, 1) := by decide +kernel
theorem dX11_batch_63 : decode cX11_batch 63 = .ok (.getfield 229, 3) := by decide +kernel
theorem dX11_batch_66 : decode cX11_batch 66 = .ok (.ifCond .lt 11, 3) := by decide +kernel
theorem dX11_batch_69 : decode cX11_batch 69 = .ok (.bipush (-100), 2) := by decide +kernel
theorem dX11_batch_71 : decode cX11_batch 71 = .ok (.aload_n 0, 1) := by decide +kernel
theorem dX11_batch_72 : decode cX11_batch 72 = .ok (.getfield 229, 3) := by decide +kernel
theorem dX11_batch_75 : decode cX11_batch 75 = .ok (.isub, 1) := by decide +kernel
theorem dX11_batch_76 : decode cX11_batch 76 = .ok (.ireturn, 1) := by decide +kernel
theorem dX11_batch_77 : decode cX11_batch 77 = .ok (.aload_n 0, 1) := by decide +kernel
theorem dX11_batch_78 : decode cX11_batch 78 = .ok (.getfield 11, 3) := by decide +kernel
theorem dX11_batch_81 : decode cX11_batch 81 = .ok (.iconst 4, 1) := by decide +kernel
theorem dX11_batch_82 : decode cX11_batch 82 = .ok (.iaload, 1) := by decide +kernel
theorem dX11_batch_83 : decode cX11_batch 83 = .ok (.istore_n 3, 1) := by decide +kernel
theorem dX11_batch_84 : decode cX11_batch 84 = .ok (.iconst 0, 1) := by decide +kernel
theorem dX11_batch_85 : decode cX11_batch 85 = .ok (.istore 4, 2) := by decide +kernel
theorem dX11_batch_87 : decode cX11_batch 87 = .ok (.iload 4, 2) := by decide +kernel
theorem dX11_batch_89 : decode cX11_batch 89 = .ok (.iload_n 1, 1) := by decide +kernel
theorem dX11_batch_90 : decode cX11_batch 90 = .ok (.if_icmp .ge 17, 3) := by decide +kernel
theorem dX11_batch_93 : decode cX11_batch 93 = .ok (.aload_n 0, 1) := by decide +kernel
theorem dX11_batch_94 : decode cX11_batch 94 = .ok (.iconst 4, 1) := by decide +kernel
theorem dX11_batch_95 : decode cX11_batch 95 = .ok (.iload 4, 2) := by decide +kernel
theorem dX11_batch_97 : decode cX11_batch 97 = .ok (.imul, 1) := by decide +kernel
theorem dX11_batch_98 : decode cX11_batch 98 = .ok (.invokevirtual 256, 3) := by decide +kernel
theorem dX11_batch_101 : decode cX11_batch 101 = .ok (.iinc 4 1, 3) := by decide +kernel
theorem dX11_batch_104 : decode cX11_batch 104 = .ok (.goto (-17), 3) := by decide +kernel
theorem dX11_batch_107 : decode cX11_batch 107 = .ok (.aload_n 0, 1) := by decide +kernel
theorem dX11_batch_108 : decode cX11_batch 108 = .ok (.getfield 11, 3) := by decide +kernel
theorem dX11_batch_111 : decode cX11_batch 111 = .ok (.iconst 4, 1) := by decide +kernel
theorem dX11_batch_112 : decode cX11_batch 112 = .ok (.iaload, 1) := by decide +kernel
theorem dX11_batch_113 : decode cX11_batch 113 = .ok (.iload_n 3, 1) := by decide +kernel
theorem dX11_batch_114 : decode cX11_batch 114 = .ok (.isub, 1) := by decide +kernel
theorem dX11_batch_115 : decode cX11_batch 115 = .ok (.ireturn, 1) := by decide +kernel
theorem dX11_letterOf_0 : decode cX11_letterOf 0 = .ok (.iload_n 2, 1) := by decide +kernel
theorem dX11_letterOf_1 : decode cX11_letterOf 1 = .ok (.bipush 110, 2) := by decide +kernel
theorem dX11_letterOf_3 : decode cX11_letterOf 3 = .ok (.if_icmp .ne 7, 3) := by decide +kernel
theorem dX11_letterOf_6 : decode cX11_letterOf 6 = .ok (.iload_n 1, 1) := by decide +kernel
theorem dX11_letterOf_7 : decode cX11_letterOf 7 = .ok (.goto 62, 3) := by decide +kernel
theorem dX11_letterOf_10 : decode cX11_letterOf 10 = .ok (.iload_n 2, 1) := by decide +kernel
theorem dX11_letterOf_11 : decode cX11_letterOf 11 = .ok (.bipush 100, 2) := by decide +kernel
theorem dX11_letterOf_13 : decode cX11_letterOf 13 = .ok (.if_icmp .ne 11, 3) := by decide +kernel
theorem dX11_letterOf_16 : decode cX11_letterOf 16 = .ok (.aload_n 0, 1) := by decide +kernel
theorem dX11_letterOf_17 : decode cX11_letterOf 17 = .ok (.iload_n 1, 1) := by decide +kernel
theorem dX11_letterOf_18 : decode cX11_letterOf 18 = .ok (.invokevirtual 84, 3) := by decide +kernel
theorem dX11_letterOf_21 : decode cX11_letterOf 21 = .ok (.goto 48, 3) := by decide +kernel
theorem dX11_letterOf_24 : decode cX11_letterOf 24 = .ok (.iload_n 2, 1) := by decide +kernel
theorem dX11_letterOf_25 : decode cX11_letterOf 25 = .ok (.bipush 116, 2) := by decide +kernel
theorem dX11_letterOf_27 : decode cX11_letterOf 27 = .ok (.if_icmp .ne 11, 3) := by decide +kernel
theorem dX11_letterOf_30 : decode cX11_letterOf 30 = .ok (.aload_n 0, 1) := by decide +kernel
theorem dX11_letterOf_31 : decode cX11_letterOf 31 = .ok (.iload_n 1, 1) := by decide +kernel
theorem dX11_letterOf_32 : decode cX11_letterOf 32 = .ok (.invokevirtual 132, 3) := by decide +kernel
theorem dX11_letterOf_35 : decode cX11_letterOf 35 = .ok (.goto 34, 3) := by decide +kernel
theorem dX11_letterOf_38 : decode cX11_letterOf 38 = .ok (.iload_n 2, 1) := by decide +kernel
theorem dX11_letterOf_39 : decode cX11_letterOf 39 = .ok (.bipush 99, 2) := by decide +kernel
theorem dX11_letterOf_41 : decode cX11_letterOf 41 = .ok (.if_icmp .ne 12, 3) := by decide +kernel
theorem dX11_letterOf_44 : decode cX11_letterOf 44 = .ok (.aload_n 0, 1) := by decide +kernel
theorem dX11_letterOf_45 : decode cX11_letterOf 45 = .ok (.getfield 31, 3) := by decide +kernel
theorem dX11_letterOf_48 : decode cX11_letterOf 48 = .ok (.iload_n 1, 1) := by decide +kernel
theorem dX11_letterOf_49 : decode cX11_letterOf 49 = .ok (.iaload, 1) := by decide +kernel
theorem dX11_letterOf_50 : decode cX11_letterOf 50 = .ok (.goto 19, 3) := by decide +kernel
theorem dX11_letterOf_53 : decode cX11_letterOf 53 = .ok (.aload_n 0, 1) := by decide +kernel
theorem dX11_letterOf_54 : decode cX11_letterOf 54 = .ok (.getfield 80, 3) := by decide +kernel
theorem dX11_letterOf_57 : decode cX11_letterOf 57 = .ok (.iload_n 1, 1) := by decide +kernel
theorem dX11_letterOf_58 : decode cX11_letterOf 58 = .ok (.invokestatic 72, 3) := by decide +kernel
theorem dX11_letterOf_61 : decode cX11_letterOf 61 = .ok (.ifCond .eq 7, 3) := by decide +kernel
theorem dX11_letterOf_64 : decode cX11_letterOf 64 = .ok (.iconst 1, 1) := by decide +kernel
theorem dX11_letterOf_65 : decode cX11_letterOf 65 = .ok (.goto 4, 3) := by decide +kernel
theorem dX11_letterOf_68 : decode cX11_letterOf 68 = .ok (.iconst 0, 1) := by decide +kernel
theorem dX11_letterOf_69 : decode cX11_letterOf 69 = .ok (.ireturn, 1) := by decide +kernel
theorem dX11_tested_0 : decode cX11_tested 0 = .ok (.aload_n 0, 1) := by decide +kernel
theorem dX11_tested_1 : decode cX11_tested 1 = .ok (.invokevirtual 232, 3) := by decide +kernel
theorem dX11_tested_4 : decode cX11_tested 4 = .ok (.istore_n 1, 1) := by decide +kernel
theorem dX11_tested_5 : decode cX11_tested 5 = .ok (.iload_n 1, 1) := by decide +kernel
theorem dX11_tested_6 : decode cX11_tested 6 = .ok (.bipush 110, 2) := by decide +kernel
theorem dX11_tested_8 : decode cX11_tested 8 = .ok (.if_icmp .eq 38, 3) := by decide +kernel
theorem dX11_tested_11 : decode cX11_tested 11 = .ok (.iload_n 1, 1) := by decide +kernel
theorem dX11_tested_12 : decode cX11_tested 12 = .ok (.bipush 100, 2) := by decide +kernel
theorem dX11_tested_14 : decode cX11_tested 14 = .ok (.if_icmp .eq 32, 3) := by decide +kernel
theorem dX11_tested_17 : decode cX11_tested 17 = .ok (.iload_n 1, 1) := by decide +kernel
theorem dX11_tested_18 : decode cX11_tested 18 = .ok (.bipush 116, 2) := by decide +kernel
theorem dX11_tested_20 : decode cX11_tested 20 = .ok (.if_icmp .eq 26, 3) := by decide +kernel
theorem dX11_tested_23 : decode cX11_tested 23 = .ok (.iload_n 1, 1) := by decide +kernel
theorem dX11_tested_24 : decode cX11_tested 24 = .ok (.bipush 99, 2) := by decide +kernel
theorem dX11_tested_26 : decode cX11_tested 26 = .ok (.if_icmp .eq 20, 3) := by decide +kernel
theorem dX11_tested_29 : decode cX11_tested 29 = .ok (.iload_n 1, 1) := by decide +kernel
theorem dX11_tested_30 : decode cX11_tested 30 = .ok (.bipush 104, 2) := by decide +kernel
theorem dX11_tested_32 : decode cX11_tested 32 = .ok (.if_icmp .eq 14, 3) := by decide +kernel
theorem dX11_tested_35 : decode cX11_tested 35 = .ok (.aload_n 0, 1) := by decide +kernel
theorem dX11_tested_36 : decode cX11_tested 36 = .ok (.aload_n 0, 1) := by decide +kernel
theorem dX11_tested_37 : decode cX11_tested 37 = .ok (.getfield 226, 3) := by decide +kernel
theorem dX11_tested_40 : decode cX11_tested 40 = .ok (.invokevirtual 235, 3) := by decide +kernel
theorem dX11_tested_43 : decode cX11_tested 43 = .ok (.pop, 1) := by decide +kernel
theorem dX11_tested_44 : decode cX11_tested 44 = .ok (.lconst 0, 1) := by decide +kernel
theorem dX11_tested_45 : decode cX11_tested 45 = .ok (.lreturn, 1) := by decide +kernel
theorem dX11_tested_46 : decode cX11_tested 46 = .ok (.aload_n 0, 1) := by decide +kernel
theorem dX11_tested_47 : decode cX11_tested 47 = .ok (.dup, 1) := by decide +kernel
theorem dX11_tested_48 : decode cX11_tested 48 = .ok (.getfield 226, 3) := by decide +kernel
theorem dX11_tested_51 : decode cX11_tested 51 = .ok (.iconst 1, 1) := by decide +kernel
theorem dX11_tested_52 : decode cX11_tested 52 = .ok (.iadd, 1) := by decide +kernel
theorem dX11_tested_53 : decode cX11_tested 53 = .ok (.putfield 226, 3) := by decide +kernel
theorem dX11_tested_56 : decode cX11_tested 56 = .ok (.aload_n 0, 1) := by decide +kernel
theorem dX11_tested_57 : decode cX11_tested 57 = .ok (.invokevirtual 232, 3) := by decide +kernel
theorem dX11_tested_60 : decode cX11_tested 60 = .ok (.istore_n 2, 1) := by decide +kernel
theorem dX11_tested_61 : decode cX11_tested 61 = .ok (.iload_n 2, 1) := by decide +kernel
theorem dX11_tested_62 : decode cX11_tested 62 = .ok (.bipush 60, 2) := by decide +kernel
theorem dX11_tested_64 : decode cX11_tested 64 = .ok (.if_icmp .eq 26, 3) := by decide +kernel
theorem dX11_tested_67 : decode cX11_tested 67 = .ok (.iload_n 2, 1) := by decide +kernel
theorem dX11_tested_68 : decode cX11_tested 68 = .ok (.bipush 61, 2) := by decide +kernel
theorem dX11_tested_70 : decode cX11_tested 70 = .ok (.if_icmp .eq 20, 3) := by decide +kernel
theorem dX11_tested_73 : decode cX11_tested 73 = .ok (.iload_n 2, 1) := by decide +kernel
theorem dX11_tested_74 : decode cX11_tested 74 = .ok (.bipush 62, 2) := by decide +kernel
theorem dX11_tested_76 : decode cX11_tested 76 = .ok (.if_icmp .eq 14, 3) := by decide +kernel
theorem dX11_tested_79 : decode cX11_tested 79 = .ok (.aload_n 0, 1) := by decide +kernel
theorem dX11_tested_80 : decode cX11_tested 80 = .ok (.aload_n 0, 1) := by decide +kernel
theorem dX11_tested_81 : decode cX11_tested 81 = .ok (.getfield 226, 3) := by decide +kernel
theorem dX11_tested_84 : decode cX11_tested 84 = .ok (.invokevirtual 235, 3) := by decide +kernel
theorem dX11_tested_87 : decode cX11_tested 87 = .ok (.pop, 1) := by decide +kernel
theorem dX11_tested_88 : decode cX11_tested 88 = .ok (.lconst 0, 1) := by decide +kernel
theorem dX11_tested_89 : decode cX11_tested 89 = .ok (.lreturn, 1) := by decide +kernel
theorem dX11_tested_90 : decode cX11_tested 90 = .ok (.aload_n 0, 1) := by decide +kernel
theorem dX11_tested_91 : decode cX11_tested 91 = .ok (.dup, 1) := by decide +kernel
theorem dX11_tested_92 : decode cX11_tested 92 = .ok (.getfield 226, 3) := by decide +kernel
theorem dX11_tested_95 : decode cX11_tested 95 = .ok (.iconst 1, 1) := by decide +kernel
theorem dX11_tested_96 : decode cX11_tested 96 = .ok (.iadd, 1) := by decide +kernel
theorem dX11_tested_97 : decode cX11_tested 97 = .ok (.putfield 226, 3) := by decide +kernel
theorem dX11_tested_100 : decode cX11_tested 100 = .ok (.aload_n 0, 1) := by decide +kernel
theorem dX11_tested_101 : decode cX11_tested 101 = .ok (.iconst 3, 1) := by decide +kernel
theorem dX11_tested_102 : decode cX11_tested 102 = .ok (.sipush 999, 3) := by decide +kernel
theorem dX11_tested_105 : decode cX11_tested 105 = .ok (.invokevirtual 241, 3) := by decide +kernel
theorem dX11_tested_108 : decode cX11_tested 108 = .ok (.ifCond .ne 5, 3) := by decide +kernel
theorem dX11_tested_111 : decode cX11_tested 111 = .ok (.lconst 0, 1) := by decide +kernel
theorem dX11_tested_112 : decode cX11_tested 112 = .ok (.lreturn, 1) := by decide +kernel
theorem dX11_tested_113 : decode cX11_tested 113 = .ok (.iload_n 1, 1) := by decide +kernel
theorem dX11_tested_114 : decode cX11_tested 114 = .ok (.bipush 99, 2) := by decide +kernel
theorem dX11_tested_116 : decode cX11_tested 116 = .ok (.if_icmp .ne 7, 3) := by decide +kernel
theorem dX11_tested_119 : decode cX11_tested 119 = .ok (.aload_n 0, 1) := by decide +kernel
theorem dX11_tested_120 : decode cX11_tested 120 = .ok (.invokevirtual 158, 3) := by decide +kernel
theorem dX11_tested_123 : decode cX11_tested 123 = .ok (.lconst 0, 1) := by decide +kernel
theorem dX11_tested_124 : decode cX11_tested 124 = .ok (.lstore_n 3, 1) := by decide +kernel
theorem dX11_tested_125 : decode cX11_tested 125 = .ok (.iconst 0, 1) := by decide +kernel
theorem dX11_tested_126 : decode cX11_tested 126 = .ok (.istore 5, 2) := by decide +kernel
theorem dX11_tested_128 : decode cX11_tested 128 = .ok (.iload 5, 2) := by decide +kernel
theorem dX11_tested_130 : decode cX11_tested 130 = .ok (.bipush 40, 2) := by decide +kernel
theorem dX11_tested_132 : decode cX11_tested 132 = .ok (.if_icmp .ge 74, 3) := by decide +kernel
theorem dX11_tested_135 : decode cX11_tested 135 = .ok (.aload_n 0, 1) := by decide +kernel
theorem dX11_tested_136 : decode cX11_tested 136 = .ok (.iload 5, 2) := by decide +kernel
theorem dX11_tested_138 : decode cX11_tested 138 = .ok (.iload_n 1, 1) := by decide +kernel
theorem dX11_tested_139 : decode cX11_tested 139 = .ok (.invokevirtual 259, 3) := by decide +kernel
theorem dX11_tested_142 : decode cX11_tested 142 = .ok (.istore 6, 2) := by decide +kernel
theorem dX11_tested_144 : decode cX11_tested 144 = .ok (.lload_n 3, 1) := by decide +kernel
theorem dX11_tested_145 : decode cX11_tested 145 = .ok (.iload_n 2, 1) := by decide +kernel
theorem dX11_tested_146 : decode cX11_tested 146 = .ok (.bipush 60, 2) := by decide +kernel
theorem dX11_tested_148 : decode cX11_tested 148 = .ok (.if_icmp .ne 15, 3) := by decide +kernel
theorem dX11_tested_151 : decode cX11_tested 151 = .ok (.iload 6, 2) := by decide +kernel
theorem dX11_tested_153 : decode cX11_tested 153 = .ok (.aload_n 0, 1) := by decide +kernel
theorem dX11_tested_154 : decode cX11_tested 154 = .ok (.getfield 238, 3) := by decide +kernel
theorem dX11_tested_157 : decode cX11_tested 157 = .ok (.if_icmp .ge 40, 3) := by decide +kernel
theorem dX11_tested_160 : decode cX11_tested 160 = .ok (.goto 30, 3) := by decide +kernel
theorem dX11_tested_163 : decode cX11_tested 163 = .ok (.iload_n 2, 1) := by decide +kernel
theorem dX11_tested_164 : decode cX11_tested 164 = .ok (.bipush 62, 2) := by decide +kernel
theorem dX11_tested_166 : decode cX11_tested 166 = .ok (.if_icmp .ne 15, 3) := by decide +kernel
theorem dX11_tested_169 : decode cX11_tested 169 = .ok (.iload 6, 2) := by decide +kernel
theorem dX11_tested_171 : decode cX11_tested 171 = .ok (.aload_n 0, 1) := by decide +kernel
theorem dX11_tested_172 : decode cX11_tested 172 = .ok (.getfield 238, 3) := by decide +kernel
theorem dX11_tested_175 : decode cX11_tested 175 = .ok (.if_icmp .le 22, 3) := by decide +kernel
theorem dX11_tested_178 : decode cX11_tested 178 = .ok (.goto 12, 3) := by decide +kernel
theorem dX11_tested_181 : decode cX11_tested 181 = .ok (.iload 6, 2) := by decide +kernel
theorem dX11_tested_183 : decode cX11_tested 183 = .ok (.aload_n 0, 1) := by decide +kernel
theorem dX11_tested_184 : decode cX11_tested 184 = .ok (.getfield 238, 3) := by decide +kernel
theorem dX11_tested_187 : decode cX11_tested 187 = .ok (.if_icmp .ne 10, 3) := by decide +kernel
theorem dX11_tested_190 : decode cX11_tested 190 = .ok (.lconst 1, 1) := by decide +kernel
theorem dX11_tested_191 : decode cX11_tested 191 = .ok (.iload 5, 2) := by decide +kernel
theorem dX11_tested_193 : decode cX11_tested 193 = .ok (.lshl, 1) := by decide +kernel
theorem dX11_tested_194 : decode cX11_tested 194 = .ok (.goto 4, 3) := by decide +kernel
theorem dX11_tested_197 : decode cX11_tested 197 = .ok (.lconst 0, 1) := by decide +kernel
theorem dX11_tested_198 : decode cX11_tested 198 = .ok (.lor, 1) := by decide +kernel
theorem dX11_tested_199 : decode cX11_tested 199 = .ok (.lstore_n 3, 1) := by decide +kernel
theorem dX11_tested_200 : decode cX11_tested 200 = .ok (.iinc 5 1, 3) := by decide +kernel
theorem dX11_tested_203 : decode cX11_tested 203 = .ok (.goto (-75), 3) := by decide +kernel
theorem dX11_tested_206 : decode cX11_tested 206 = .ok (.lload_n 3, 1) := by decide +kernel
theorem dX11_tested_207 : decode cX11_tested 207 = .ok (.lreturn, 1) := by decide +kernel
theorem dX11_factor_0 : decode cX11_factor 0 = .ok (.aload_n 0, 1) := by decide +kernel
theorem dX11_factor_1 : decode cX11_factor 1 = .ok (.invokevirtual 232, 3) := by decide +kernel
theorem dX11_factor_4 : decode cX11_factor 4 = .ok (.istore_n 2, 1) := by decide +kernel
theorem dX11_factor_5 : decode cX11_factor 5 = .ok (.iload_n 1, 1) := by decide +kernel
theorem dX11_factor_6 : decode cX11_factor 6 = .ok (.iconst 3, 1) := by decide +kernel
theorem dX11_factor_7 : decode cX11_factor 7 = .ok (.if_icmp .gt 27, 3) := by decide +kernel
theorem dX11_factor_10 : decode cX11_factor 10 = .ok (.iload_n 2, 1) := by decide +kernel
theorem dX11_factor_11 : decode cX11_factor 11 = .ok (.bipush 33, 2) := by decide +kernel
theorem dX11_factor_13 : decode cX11_factor 13 = .ok (.if_icmp .eq 26, 3) := by decide +kernel
theorem dX11_factor_16 : decode cX11_factor 16 = .ok (.iload_n 2, 1) := by decide +kernel
theorem dX11_factor_17 : decode cX11_factor 17 = .ok (.bipush 40, 2) := by decide +kernel
theorem dX11_factor_19 : decode cX11_factor 19 = .ok (.if_icmp .eq 20, 3) := by decide +kernel
theorem dX11_factor_22 : decode cX11_factor 22 = .ok (.iload_n 2, 1) := by decide +kernel
theorem dX11_factor_23 : decode cX11_factor 23 = .ok (.bipush 83, 2) := by decide +kernel
theorem dX11_factor_25 : decode cX11_factor 25 = .ok (.if_icmp .eq 14, 3) := by decide +kernel
theorem dX11_factor_28 : decode cX11_factor 28 = .ok (.iload_n 2, 1) := by decide +kernel
theorem dX11_factor_29 : decode cX11_factor 29 = .ok (.bipush 65, 2) := by decide +kernel
theorem dX11_factor_31 : decode cX11_factor 31 = .ok (.if_icmp .eq 8, 3) := by decide +kernel
theorem dX11_factor_34 : decode cX11_factor 34 = .ok (.aload_n 0, 1) := by decide +kernel
theorem dX11_factor_35 : decode cX11_factor 35 = .ok (.invokevirtual 262, 3) := by decide +kernel
theorem dX11_factor_38 : decode cX11_factor 38 = .ok (.lreturn, 1) := by decide +kernel
theorem dX11_factor_39 : decode cX11_factor 39 = .ok (.aload_n 0, 1) := by decide +kernel
theorem dX11_factor_40 : decode cX11_factor 40 = .ok (.dup, 1) := by decide +kernel
theorem dX11_factor_41 : decode cX11_factor 41 = .ok (.getfield 226, 3) := by decide +kernel
theorem dX11_factor_44 : decode cX11_factor 44 = .ok (.iconst 1, 1) := by decide +kernel
theorem dX11_factor_45 : decode cX11_factor 45 = .ok (.iadd, 1) := by decide +kernel
theorem dX11_factor_46 : decode cX11_factor 46 = .ok (.putfield 226, 3) := by decide +kernel
theorem dX11_factor_49 : decode cX11_factor 49 = .ok (.iload_n 2, 1) := by decide +kernel
theorem dX11_factor_50 : decode cX11_factor 50 = .ok (.bipush 40, 2) := by decide +kernel
theorem dX11_factor_52 : decode cX11_factor 52 = .ok (.if_icmp .ne 13, 3) := by decide +kernel
theorem dX11_factor_55 : decode cX11_factor 55 = .ok (.aload_n 0, 1) := by decide +kernel
theorem dX11_factor_56 : decode cX11_factor 56 = .ok (.iload_n 1, 1) := by decide +kernel
theorem dX11_factor_57 : decode cX11_factor 57 = .ok (.iconst 1, 1) := by decide +kernel
theorem dX11_factor_58 : decode cX11_factor 58 = .ok (.iadd, 1) := by decide +kernel
theorem dX11_factor_59 : decode cX11_factor 59 = .ok (.invokevirtual 266, 3) := by decide +kernel
theorem dX11_factor_62 : decode cX11_factor 62 = .ok (.goto 10, 3) := by decide +kernel
theorem dX11_factor_65 : decode cX11_factor 65 = .ok (.aload_n 0, 1) := by decide +kernel
theorem dX11_factor_66 : decode cX11_factor 66 = .ok (.iload_n 1, 1) := by decide +kernel
theorem dX11_factor_67 : decode cX11_factor 67 = .ok (.iconst 1, 1) := by decide +kernel
theorem dX11_factor_68 : decode cX11_factor 68 = .ok (.iadd, 1) := by decide +kernel
theorem dX11_factor_69 : decode cX11_factor 69 = .ok (.invokevirtual 269, 3) := by decide +kernel
theorem dX11_factor_72 : decode cX11_factor 72 = .ok (.lstore_n 3, 1) := by decide +kernel
theorem dX11_factor_73 : decode cX11_factor 73 = .ok (.iload_n 2, 1) := by decide +kernel
theorem dX11_factor_74 : decode cX11_factor 74 = .ok (.bipush 40, 2) := by decide +kernel
theorem dX11_factor_76 : decode cX11_factor 76 = .ok (.if_icmp .ne 19, 3) := by decide +kernel
theorem dX11_factor_79 : decode cX11_factor 79 = .ok (.aload_n 0, 1) := by decide +kernel
theorem dX11_factor_80 : decode cX11_factor 80 = .ok (.getfield 229, 3) := by decide +kernel
theorem dX11_factor_83 : decode cX11_factor 83 = .ok (.ifCond .ge 10, 3) := by decide +kernel
theorem dX11_factor_86 : decode cX11_factor 86 = .ok (.aload_n 0, 1) := by decide +kernel
theorem dX11_factor_87 : decode cX11_factor 87 = .ok (.bipush 41, 2) := by decide +kernel
theorem dX11_factor_89 : decode cX11_factor 89 = .ok (.invokevirtual 244, 3) := by decide +kernel
theorem dX11_factor_92 : decode cX11_factor 92 = .ok (.pop, 1) := by decide +kernel
theorem dX11_factor_93 : decode cX11_factor 93 = .ok (.lload_n 3, 1) := by decide +kernel
theorem dX11_factor_94 : decode cX11_factor 94 = .ok (.lreturn, 1) := by decide +kernel
theorem dX11_factor_95 : decode cX11_factor 95 = .ok (.iload_n 2, 1) := by decide +kernel
theorem dX11_factor_96 : decode cX11_factor 96 = .ok (.bipush 33, 2) := by decide +kernel
theorem dX11_factor_98 : decode cX11_factor 98 = .ok (.if_icmp .ne 13, 3) := by decide +kernel
theorem dX11_factor_101 : decode cX11_factor 101 = .ok (.ldc2_w 152, 3) := by decide +kernel
theorem dX11_factor_104 : decode cX11_factor 104 = .ok (.lload_n 3, 1) := by decide +kernel
theorem dX11_factor_105 : decode cX11_factor 105 = .ok (.ldc2_w 150, 3) := by decide +kernel
theorem dX11_factor_108 : decode cX11_factor 108 = .ok (.lxor, 1) := by decide +kernel
theorem dX11_factor_109 : decode cX11_factor 109 = .ok (.land, 1) := by decide +kernel
theorem dX11_factor_110 : decode cX11_factor 110 = .ok (.lreturn, 1) := by decide +kernel
theorem dX11_factor_111 : decode cX11_factor 111 = .ok (.lconst 0, 1) := by decide +kernel
theorem dX11_factor_112 : decode cX11_factor 112 = .ok (.lstore 5, 2) := by decide +kernel
theorem dX11_factor_114 : decode cX11_factor 114 = .ok (.iconst 0, 1) := by decide +kernel
theorem dX11_factor_115 : decode cX11_factor 115 = .ok (.istore 7, 2) := by decide +kernel
theorem dX11_factor_117 : decode cX11_factor 117 = .ok (.iload 7, 2) := by decide +kernel
theorem dX11_factor_119 : decode cX11_factor 119 = .ok (.bipush 40, 2) := by decide +kernel
theorem dX11_factor_121 : decode cX11_factor 121 = .ok (.if_icmp .ge 63, 3) := by decide +kernel
theorem dX11_factor_124 : decode cX11_factor 124 = .ok (.lload 5, 2) := by decide +kernel
theorem dX11_factor_126 : decode cX11_factor 126 = .ok (.iload_n 2, 1) := by decide +kernel
theorem dX11_factor_127 : decode cX11_factor 127 = .ok (.bipush 83, 2) := by decide +kernel
theorem dX11_factor_129 : decode cX11_factor 129 = .ok (.if_icmp .ne 20, 3) := by decide +kernel
theorem dX11_factor_132 : decode cX11_factor 132 = .ok (.aload_n 0, 1) := by decide +kernel
theorem dX11_factor_133 : decode cX11_factor 133 = .ok (.getfield 24, 3) := by decide +kernel
theorem dX11_factor_136 : decode cX11_factor 136 = .ok (.iload 7, 2) := by decide +kernel
theorem dX11_factor_138 : decode cX11_factor 138 = .ok (.laload, 1) := by decide +kernel
theorem dX11_factor_139 : decode cX11_factor 139 = .ok (.lload_n 3, 1) := by decide +kernel
theorem dX11_factor_140 : decode cX11_factor 140 = .ok (.land, 1) := by decide +kernel
theorem dX11_factor_141 : decode cX11_factor 141 = .ok (.lconst 0, 1) := by decide +kernel
theorem dX11_factor_142 : decode cX11_factor 142 = .ok (.lcmp, 1) := by decide +kernel
theorem dX11_factor_143 : decode cX11_factor 143 = .ok (.ifCond .eq 31, 3) := by decide +kernel
theorem dX11_factor_146 : decode cX11_factor 146 = .ok (.goto 21, 3) := by decide +kernel
theorem dX11_factor_149 : decode cX11_factor 149 = .ok (.aload_n 0, 1) := by decide +kernel
theorem dX11_factor_150 : decode cX11_factor 150 = .ok (.getfield 24, 3) := by decide +kernel
theorem dX11_factor_153 : decode cX11_factor 153 = .ok (.iload 7, 2) := by decide +kernel
theorem dX11_factor_155 : decode cX11_factor 155 = .ok (.laload, 1) := by decide +kernel
theorem dX11_factor_156 : decode cX11_factor 156 = .ok (.lload_n 3, 1) := by decide +kernel
theorem dX11_factor_157 : decode cX11_factor 157 = .ok (.ldc2_w 150, 3) := by decide +kernel
theorem dX11_factor_160 : decode cX11_factor 160 = .ok (.lxor, 1) := by decide +kernel
theorem dX11_factor_161 : decode cX11_factor 161 = .ok (.land, 1) := by decide +kernel
theorem dX11_factor_162 : decode cX11_factor 162 = .ok (.lconst 0, 1) := by decide +kernel
theorem dX11_factor_163 : decode cX11_factor 163 = .ok (.lcmp, 1) := by decide +kernel
theorem dX11_factor_164 : decode cX11_factor 164 = .ok (.ifCond .ne 10, 3) := by decide +kernel
theorem dX11_factor_167 : decode cX11_factor 167 = .ok (.lconst 1, 1) := by decide +kernel
theorem dX11_factor_168 : decode cX11_factor 168 = .ok (.iload 7, 2) := by decide +kernel
theorem dX11_factor_170 : decode cX11_factor 170 = .ok (.lshl, 1) := by decide +kernel
theorem dX11_factor_171 : decode cX11_factor 171 = .ok (.goto 4, 3) := by decide +kernel
theorem dX11_factor_174 : decode cX11_factor 174 = .ok (.lconst 0, 1) := by decide +kernel
theorem dX11_factor_175 : decode cX11_factor 175 = .ok (.lor, 1) := by decide +kernel
theorem dX11_factor_176 : decode cX11_factor 176 = .ok (.lstore 5, 2) := by decide +kernel
theorem dX11_factor_178 : decode cX11_factor 178 = .ok (.iinc 7 1, 3) := by decide +kernel
theorem dX11_factor_181 : decode cX11_factor 181 = .ok (.goto (-64), 3) := by decide +kernel
theorem dX11_factor_184 : decode cX11_factor 184 = .ok (.lload 5, 2) := by decide +kernel
theorem dX11_factor_186 : decode cX11_factor 186 = .ok (.lreturn, 1) := by decide +kernel
theorem dX11_both_0 : decode cX11_both 0 = .ok (.aload_n 0, 1) := by decide +kernel
theorem dX11_both_1 : decode cX11_both 1 = .ok (.iload_n 1, 1) := by decide +kernel
theorem dX11_both_2 : decode cX11_both 2 = .ok (.invokevirtual 269, 3) := by decide +kernel
theorem dX11_both_5 : decode cX11_both 5 = .ok (.lstore_n 2, 1) := by decide +kernel
theorem dX11_both_6 : decode cX11_both 6 = .ok (.aload_n 0, 1) := by decide +kernel
theorem dX11_both_7 : decode cX11_both 7 = .ok (.getfield 229, 3) := by decide +kernel
theorem dX11_both_10 : decode cX11_both 10 = .ok (.ifCond .ge 33, 3) := by decide +kernel
theorem dX11_both_13 : decode cX11_both 13 = .ok (.aload_n 0, 1) := by decide +kernel
theorem dX11_both_14 : decode cX11_both 14 = .ok (.invokevirtual 232, 3) := by decide +kernel
theorem dX11_both_17 : decode cX11_both 17 = .ok (.bipush 38, 2) := by decide +kernel
theorem dX11_both_19 : decode cX11_both 19 = .ok (.if_icmp .ne 24, 3) := by decide +kernel
theorem dX11_both_22 : decode cX11_both 22 = .ok (.aload_n 0, 1) := by decide +kernel
theorem dX11_both_23 : decode cX11_both 23 = .ok (.dup, 1) := by decide +kernel
theorem dX11_both_24 : decode cX11_both 24 = .ok (.getfield 226, 3) := by decide +kernel
theorem dX11_both_27 : decode cX11_both 27 = .ok (.iconst 1, 1) := by decide +kernel
theorem dX11_both_28 : decode cX11_both 28 = .ok (.iadd, 1) := by decide +kernel
theorem dX11_both_29 : decode cX11_both 29 = .ok (.putfield 226, 3) := by decide +kernel
theorem dX11_both_32 : decode cX11_both 32 = .ok (.lload_n 2, 1) := by decide +kernel
theorem dX11_both_33 : decode cX11_both 33 = .ok (.aload_n 0, 1) := by decide +kernel
theorem dX11_both_34 : decode cX11_both 34 = .ok (.iload_n 1, 1) := by decide +kernel
theorem dX11_both_35 : decode cX11_both 35 = .ok (.invokevirtual 269, 3) := by decide +kernel
theorem dX11_both_38 : decode cX11_both 38 = .ok (.land, 1) := by decide +kernel
theorem dX11_both_39 : decode cX11_both 39 = .ok (.lstore_n 2, 1) := by decide +kernel
theorem dX11_both_40 : decode cX11_both 40 = .ok (.goto (-34), 3) := by decide +kernel
theorem dX11_both_43 : decode cX11_both 43 = .ok (.lload_n 2, 1) := by decide +kernel
theorem dX11_both_44 : decode cX11_both 44 = .ok (.lreturn, 1) := by decide +kernel
theorem dX11_either_0 : decode cX11_either 0 = .ok (.aload_n 0, 1) := by decide +kernel
theorem dX11_either_1 : decode cX11_either 1 = .ok (.iload_n 1, 1) := by decide +kernel
theorem dX11_either_2 : decode cX11_either 2 = .ok (.invokevirtual 272, 3) := by decide +kernel
theorem dX11_either_5 : decode cX11_either 5 = .ok (.lstore_n 2, 1) := by decide +kernel
theorem dX11_either_6 : decode cX11_either 6 = .ok (.aload_n 0, 1) := by decide +kernel
theorem dX11_either_7 : decode cX11_either 7 = .ok (.getfield 229, 3) := by decide +kernel
theorem dX11_either_10 : decode cX11_either 10 = .ok (.ifCond .ge 33, 3) := by decide +kernel
theorem dX11_either_13 : decode cX11_either 13 = .ok (.aload_n 0, 1) := by decide +kernel
theorem dX11_either_14 : decode cX11_either 14 = .ok (.invokevirtual 232, 3) := by decide +kernel
theorem dX11_either_17 : decode cX11_either 17 = .ok (.bipush 124, 2) := by decide +kernel
theorem dX11_either_19 : decode cX11_either 19 = .ok (.if_icmp .ne 24, 3) := by decide +kernel
theorem dX11_either_22 : decode cX11_either 22 = .ok (.aload_n 0, 1) := by decide +kernel
theorem dX11_either_23 : decode cX11_either 23 = .ok (.dup, 1) := by decide +kernel
theorem dX11_either_24 : decode cX11_either 24 = .ok (.getfield 226, 3) := by decide +kernel
theorem dX11_either_27 : decode cX11_either 27 = .ok (.iconst 1, 1) := by decide +kernel
theorem dX11_either_28 : decode cX11_either 28 = .ok (.iadd, 1) := by decide +kernel
theorem dX11_either_29 : decode cX11_either 29 = .ok (.putfield 226, 3) := by decide +kernel
theorem dX11_either_32 : decode cX11_either 32 = .ok (.lload_n 2, 1) := by decide +kernel
theorem dX11_either_33 : decode cX11_either 33 = .ok (.aload_n 0, 1) := by decide +kernel
theorem dX11_either_34 : decode cX11_either 34 = .ok (.iload_n 1, 1) := by decide +kernel
theorem dX11_either_35 : decode cX11_either 35 = .ok (.invokevirtual 272, 3) := by decide +kernel
theorem dX11_either_38 : decode cX11_either 38 = .ok (.lor, 1) := by decide +kernel
theorem dX11_either_39 : decode cX11_either 39 = .ok (.lstore_n 2, 1) := by decide +kernel
theorem dX11_either_40 : decode cX11_either 40 = .ok (.goto (-34), 3) := by decide +kernel
theorem dX11_either_43 : decode cX11_either 43 = .ok (.lload_n 2, 1) := by decide +kernel
theorem dX11_either_44 : decode cX11_either 44 = .ok (.lreturn, 1) := by decide +kernel
theorem dX11_pick_0 : decode cX11_pick 0 = .ok (.aload_n 0, 1) := by decide +kernel
theorem dX11_pick_1 : decode cX11_pick 1 = .ok (.invokevirtual 250, 3) := by decide +kernel
theorem dX11_pick_4 : decode cX11_pick 4 = .ok (.aload_n 0, 1) := by decide +kernel
theorem dX11_pick_5 : decode cX11_pick 5 = .ok (.iconst 0, 1) := by decide +kernel
theorem dX11_pick_6 : decode cX11_pick 6 = .ok (.invokevirtual 266, 3) := by decide +kernel
theorem dX11_pick_9 : decode cX11_pick 9 = .ok (.lstore_n 1, 1) := by decide +kernel
theorem dX11_pick_10 : decode cX11_pick 10 = .ok (.aload_n 0, 1) := by decide +kernel
theorem dX11_pick_11 : decode cX11_pick 11 = .ok (.getfield 229, 3) := by decide +kernel
theorem dX11_pick_14 : decode cX11_pick 14 = .ok (.ifCond .ge 23, 3) := by decide +kernel
theorem dX11_pick_17 : decode cX11_pick 17 = .ok (.aload_n 0, 1) := by decide +kernel
theorem dX11_pick_18 : decode cX11_pick 18 = .ok (.getfield 226, 3) := by decide +kernel
theorem dX11_pick_21 : decode cX11_pick 21 = .ok (.aload_n 0, 1) := by decide +kernel
theorem dX11_pick_22 : decode cX11_pick 22 = .ok (.getfield 223, 3) := by decide +kernel
theorem dX11_pick_25 : decode cX11_pick 25 = .ok (.if_icmp .ge 12, 3) := by decide +kernel
theorem dX11_pick_28 : decode cX11_pick 28 = .ok (.aload_n 0, 1) := by decide +kernel
theorem dX11_pick_29 : decode cX11_pick 29 = .ok (.aload_n 0, 1) := by decide +kernel
theorem dX11_pick_30 : decode cX11_pick 30 = .ok (.getfield 226, 3) := by decide +kernel
theorem dX11_pick_33 : decode cX11_pick 33 = .ok (.invokevirtual 235, 3) := by decide +kernel
theorem dX11_pick_36 : decode cX11_pick 36 = .ok (.pop, 1) := by decide +kernel
theorem dX11_pick_37 : decode cX11_pick 37 = .ok (.aload_n 0, 1) := by decide +kernel
theorem dX11_pick_38 : decode cX11_pick 38 = .ok (.iconst 0, 1) := by decide +kernel
theorem dX11_pick_39 : decode cX11_pick 39 = .ok (.putfield 223, 3) := by decide +kernel
theorem dX11_pick_42 : decode cX11_pick 42 = .ok (.aload_n 0, 1) := by decide +kernel
theorem dX11_pick_43 : decode cX11_pick 43 = .ok (.getfield 229, 3) := by decide +kernel
theorem dX11_pick_46 : decode cX11_pick 46 = .ok (.ifCond .lt 11, 3) := by decide +kernel
theorem dX11_pick_49 : decode cX11_pick 49 = .ok (.bipush (-100), 2) := by decide +kernel
theorem dX11_pick_51 : decode cX11_pick 51 = .ok (.aload_n 0, 1) := by decide +kernel
theorem dX11_pick_52 : decode cX11_pick 52 = .ok (.getfield 229, 3) := by decide +kernel
theorem dX11_pick_55 : decode cX11_pick 55 = .ok (.isub, 1) := by decide +kernel
theorem dX11_pick_56 : decode cX11_pick 56 = .ok (.ireturn, 1) := by decide +kernel
theorem dX11_pick_57 : decode cX11_pick 57 = .ok (.aload_n 0, 1) := by decide +kernel
theorem dX11_pick_58 : decode cX11_pick 58 = .ok (.lload_n 1, 1) := by decide +kernel
theorem dX11_pick_59 : decode cX11_pick 59 = .ok (.putfield 275, 3) := by decide +kernel
theorem dX11_pick_62 : decode cX11_pick 62 = .ok (.lload_n 1, 1) := by decide +kernel
theorem dX11_pick_63 : decode cX11_pick 63 = .ok (.invokestatic 76, 3) := by decide +kernel
theorem dX11_pick_66 : decode cX11_pick 66 = .ok (.ireturn, 1) := by decide +kernel
theorem dX11_picked_0 : decode cX11_picked 0 = .ok (.aload_n 0, 1) := by decide +kernel
theorem dX11_picked_1 : decode cX11_picked 1 = .ok (.getfield 275, 3) := by decide +kernel
theorem dX11_picked_4 : decode cX11_picked 4 = .ok (.lreturn, 1) := by decide +kernel
theorem dX11_says_0 : decode cX11_says 0 = .ok (.aload_n 0, 1) := by decide +kernel
theorem dX11_says_1 : decode cX11_says 1 = .ok (.getfield 55, 3) := by decide +kernel
theorem dX11_says_4 : decode cX11_says 4 = .ok (.aload_n 0, 1) := by decide +kernel
theorem dX11_says_5 : decode cX11_says 5 = .ok (.getfield 203, 3) := by decide +kernel
theorem dX11_says_8 : decode cX11_says 8 = .ok (.iload_n 1, 1) := by decide +kernel
theorem dX11_says_9 : decode cX11_says 9 = .ok (.iastore, 1) := by decide +kernel
theorem dX11_says_10 : decode cX11_says 10 = .ok (.aload_n 0, 1) := by decide +kernel
theorem dX11_says_11 : decode cX11_says 11 = .ok (.dup, 1) := by decide +kernel
theorem dX11_says_12 : decode cX11_says 12 = .ok (.getfield 203, 3) := by decide +kernel
theorem dX11_says_15 : decode cX11_says 15 = .ok (.iconst 1, 1) := by decide +kernel
theorem dX11_says_16 : decode cX11_says 16 = .ok (.iadd, 1) := by decide +kernel
theorem dX11_says_17 : decode cX11_says 17 = .ok (.putfield 203, 3) := by decide +kernel
theorem dX11_says_20 : decode cX11_says 20 = .ok (.return_, 1) := by decide +kernel
theorem dX11_saysNumber_0 : decode cX11_saysNumber 0 = .ok (.iload_n 1, 1) := by decide +kernel
theorem dX11_saysNumber_1 : decode cX11_saysNumber 1 = .ok (.bipush 9, 2) := by decide +kernel
theorem dX11_saysNumber_3 : decode cX11_saysNumber 3 = .ok (.if_icmp .le 11, 3) := by decide +kernel
theorem dX11_saysNumber_6 : decode cX11_saysNumber 6 = .ok (.aload_n 0, 1) := by decide +kernel
theorem dX11_saysNumber_7 : decode cX11_saysNumber 7 = .ok (.iload_n 1, 1) := by decide +kernel
theorem dX11_saysNumber_8 : decode cX11_saysNumber 8 = .ok (.bipush 10, 2) := by decide +kernel
theorem dX11_saysNumber_10 : decode cX11_saysNumber 10 = .ok (.idiv, 1) := by decide +kernel
theorem dX11_saysNumber_11 : decode cX11_saysNumber 11 = .ok (.invokevirtual 278, 3) := by decide +kernel
theorem dX11_saysNumber_14 : decode cX11_saysNumber 14 = .ok (.aload_n 0, 1) := by decide +kernel
theorem dX11_saysNumber_15 : decode cX11_saysNumber 15 = .ok (.bipush 48, 2) := by decide +kernel
theorem dX11_saysNumber_17 : decode cX11_saysNumber 17 = .ok (.iload_n 1, 1) := by decide +kernel
theorem dX11_saysNumber_18 : decode cX11_saysNumber 18 = .ok (.bipush 10, 2) := by decide +kernel
theorem dX11_saysNumber_20 : decode cX11_saysNumber 20 = .ok (.irem, 1) := by decide +kernel
theorem dX11_saysNumber_21 : decode cX11_saysNumber 21 = .ok (.iadd, 1) := by decide +kernel
theorem dX11_saysNumber_22 : decode cX11_saysNumber 22 = .ok (.invokevirtual 281, 3) := by decide +kernel
theorem dX11_saysNumber_25 : decode cX11_saysNumber 25 = .ok (.return_, 1) := by decide +kernel
theorem dX11_spell_0 : decode cX11_spell 0 = .ok (.aload_n 0, 1) := by decide +kernel
theorem dX11_spell_1 : decode cX11_spell 1 = .ok (.iconst 0, 1) := by decide +kernel
theorem dX11_spell_2 : decode cX11_spell 2 = .ok (.putfield 203, 3) := by decide +kernel
theorem dX11_spell_5 : decode cX11_spell 5 = .ok (.iconst 0, 1) := by decide +kernel
theorem dX11_spell_6 : decode cX11_spell 6 = .ok (.istore_n 1, 1) := by decide +kernel
theorem dX11_spell_7 : decode cX11_spell 7 = .ok (.iload_n 1, 1) := by decide +kernel
theorem dX11_spell_8 : decode cX11_spell 8 = .ok (.sipush 1600, 3) := by decide +kernel
theorem dX11_spell_11 : decode cX11_spell 11 = .ok (.if_icmp .ge 142, 3) := by decide +kernel
theorem dX11_spell_14 : decode cX11_spell 14 = .ok (.iload_n 1, 1) := by decide +kernel
theorem dX11_spell_15 : decode cX11_spell 15 = .ok (.bipush 40, 2) := by decide +kernel
theorem dX11_spell_17 : decode cX11_spell 17 = .ok (.idiv, 1) := by decide +kernel
theorem dX11_spell_18 : decode cX11_spell 18 = .ok (.iload_n 1, 1) := by decide +kernel
theorem dX11_spell_19 : decode cX11_spell 19 = .ok (.bipush 40, 2) := by decide +kernel
theorem dX11_spell_21 : decode cX11_spell 21 = .ok (.irem, 1) := by decide +kernel
theorem dX11_spell_22 : decode cX11_spell 22 = .ok (.if_icmp .ge 125, 3) := by decide +kernel
theorem dX11_spell_25 : decode cX11_spell 25 = .ok (.aload_n 0, 1) := by decide +kernel
theorem dX11_spell_26 : decode cX11_spell 26 = .ok (.iload_n 1, 1) := by decide +kernel
theorem dX11_spell_27 : decode cX11_spell 27 = .ok (.bipush 40, 2) := by decide +kernel
theorem dX11_spell_29 : decode cX11_spell 29 = .ok (.idiv, 1) := by decide +kernel
theorem dX11_spell_30 : decode cX11_spell 30 = .ok (.iload_n 1, 1) := by decide +kernel
theorem dX11_spell_31 : decode cX11_spell 31 = .ok (.bipush 40, 2) := by decide +kernel
theorem dX11_spell_33 : decode cX11_spell 33 = .ok (.irem, 1) := by decide +kernel
theorem dX11_spell_34 : decode cX11_spell 34 = .ok (.invokevirtual 116, 3) := by decide +kernel
theorem dX11_spell_37 : decode cX11_spell 37 = .ok (.ifCond .ne 6, 3) := by decide +kernel
theorem dX11_spell_40 : decode cX11_spell 40 = .ok (.goto 107, 3) := by decide +kernel
theorem dX11_spell_43 : decode cX11_spell 43 = .ok (.aload_n 0, 1) := by decide +kernel
theorem dX11_spell_44 : decode cX11_spell 44 = .ok (.getfield 203, 3) := by decide +kernel
theorem dX11_spell_47 : decode cX11_spell 47 = .ok (.ifCond .le 9, 3) := by decide +kernel
theorem dX11_spell_50 : decode cX11_spell 50 = .ok (.aload_n 0, 1) := by decide +kernel
theorem dX11_spell_51 : decode cX11_spell 51 = .ok (.bipush 59, 2) := by decide +kernel
theorem dX11_spell_53 : decode cX11_spell 53 = .ok (.invokevirtual 281, 3) := by decide +kernel
theorem dX11_spell_56 : decode cX11_spell 56 = .ok (.aload_n 0, 1) := by decide +kernel
theorem dX11_spell_57 : decode cX11_spell 57 = .ok (.bipush 43, 2) := by decide +kernel
theorem dX11_spell_59 : decode cX11_spell 59 = .ok (.invokevirtual 281, 3) := by decide +kernel
theorem dX11_spell_62 : decode cX11_spell 62 = .ok (.aload_n 0, 1) := by decide +kernel
theorem dX11_spell_63 : decode cX11_spell 63 = .ok (.iload_n 1, 1) := by decide +kernel
theorem dX11_spell_64 : decode cX11_spell 64 = .ok (.bipush 40, 2) := by decide +kernel
theorem dX11_spell_66 : decode cX11_spell 66 = .ok (.idiv, 1) := by decide +kernel
theorem dX11_spell_67 : decode cX11_spell 67 = .ok (.invokevirtual 278, 3) := by decide +kernel
theorem dX11_spell_70 : decode cX11_spell 70 = .ok (.aload_n 0, 1) := by decide +kernel
theorem dX11_spell_71 : decode cX11_spell 71 = .ok (.bipush 44, 2) := by decide +kernel
theorem dX11_spell_73 : decode cX11_spell 73 = .ok (.invokevirtual 281, 3) := by decide +kernel
theorem dX11_spell_76 : decode cX11_spell 76 = .ok (.aload_n 0, 1) := by decide +kernel
theorem dX11_spell_77 : decode cX11_spell 77 = .ok (.iload_n 1, 1) := by decide +kernel
theorem dX11_spell_78 : decode cX11_spell 78 = .ok (.bipush 40, 2) := by decide +kernel
theorem dX11_spell_80 : decode cX11_spell 80 = .ok (.irem, 1) := by decide +kernel
theorem dX11_spell_81 : decode cX11_spell 81 = .ok (.invokevirtual 278, 3) := by decide +kernel
theorem dX11_spell_84 : decode cX11_spell 84 = .ok (.aload_n 0, 1) := by decide +kernel
theorem dX11_spell_85 : decode cX11_spell 85 = .ok (.getfield 15, 3) := by decide +kernel
theorem dX11_spell_88 : decode cX11_spell 88 = .ok (.iload_n 1, 1) := by decide +kernel
theorem dX11_spell_89 : decode cX11_spell 89 = .ok (.iaload, 1) := by decide +kernel
theorem dX11_spell_90 : decode cX11_spell 90 = .ok (.iconst 1, 1) := by decide +kernel
theorem dX11_spell_91 : decode cX11_spell 91 = .ok (.if_icmp .ne 6, 3) := by decide +kernel
theorem dX11_spell_94 : decode cX11_spell 94 = .ok (.goto 53, 3) := by decide +kernel
theorem dX11_spell_97 : decode cX11_spell 97 = .ok (.aload_n 0, 1) := by decide +kernel
theorem dX11_spell_98 : decode cX11_spell 98 = .ok (.bipush 61, 2) := by decide +kernel
theorem dX11_spell_100 : decode cX11_spell 100 = .ok (.invokevirtual 281, 3) := by decide +kernel
theorem dX11_spell_103 : decode cX11_spell 103 = .ok (.aload_n 0, 1) := by decide +kernel
theorem dX11_spell_104 : decode cX11_spell 104 = .ok (.getfield 15, 3) := by decide +kernel
theorem dX11_spell_107 : decode cX11_spell 107 = .ok (.iload_n 1, 1) := by decide +kernel
theorem dX11_spell_108 : decode cX11_spell 108 = .ok (.iaload, 1) := by decide +kernel
theorem dX11_spell_109 : decode cX11_spell 109 = .ok (.ifCond .ge 9, 3) := by decide +kernel
theorem dX11_spell_112 : decode cX11_spell 112 = .ok (.aload_n 0, 1) := by decide +kernel
theorem dX11_spell_113 : decode cX11_spell 113 = .ok (.bipush 45, 2) := by decide +kernel
theorem dX11_spell_115 : decode cX11_spell 115 = .ok (.invokevirtual 281, 3) := by decide +kernel
theorem dX11_spell_118 : decode cX11_spell 118 = .ok (.aload_n 0, 1) := by decide +kernel
theorem dX11_spell_119 : decode cX11_spell 119 = .ok (.aload_n 0, 1) := by decide +kernel
theorem dX11_spell_120 : decode cX11_spell 120 = .ok (.getfield 15, 3) := by decide +kernel
theorem dX11_spell_123 : decode cX11_spell 123 = .ok (.iload_n 1, 1) := by decide +kernel
theorem dX11_spell_124 : decode cX11_spell 124 = .ok (.iaload, 1) := by decide +kernel
theorem dX11_spell_125 : decode cX11_spell 125 = .ok (.ifCond .ge 13, 3) := by decide +kernel
theorem dX11_spell_128 : decode cX11_spell 128 = .ok (.aload_n 0, 1) := by decide +kernel
theorem dX11_spell_129 : decode cX11_spell 129 = .ok (.getfield 15, 3) := by decide +kernel
theorem dX11_spell_132 : decode cX11_spell 132 = .ok (.iload_n 1, 1) := by decide +kernel
theorem dX11_spell_133 : decode cX11_spell 133 = .ok (.iaload, 1) := by decide +kernel
theorem dX11_spell_134 : decode cX11_spell 134 = .ok (.ineg, 1) := by decide +kernel
theorem dX11_spell_135 : decode cX11_spell 135 = .ok (.goto 9, 3) := by decide +kernel
theorem dX11_spell_138 : decode cX11_spell 138 = .ok (.aload_n 0, 1) := by decide +kernel
theorem dX11_spell_139 : decode cX11_spell 139 = .ok (.getfield 15, 3) := by decide +kernel
theorem dX11_spell_142 : decode cX11_spell 142 = .ok (.iload_n 1, 1) := by decide +kernel
theorem dX11_spell_143 : decode cX11_spell 143 = .ok (.iaload, 1) := by decide +kernel
theorem dX11_spell_144 : decode cX11_spell 144 = .ok (.invokevirtual 278, 3) := by decide +kernel
theorem dX11_spell_147 : decode cX11_spell 147 = .ok (.iinc 1 1, 3) := by decide +kernel
theorem dX11_spell_150 : decode cX11_spell 150 = .ok (.goto (-143), 3) := by decide +kernel
theorem dX11_spell_153 : decode cX11_spell 153 = .ok (.aload_n 0, 1) := by decide +kernel
theorem dX11_spell_154 : decode cX11_spell 154 = .ok (.getfield 203, 3) := by decide +kernel
theorem dX11_spell_157 : decode cX11_spell 157 = .ok (.ireturn, 1) := by decide +kernel
theorem dX11_paper_0 : decode cX11_paper 0 = .ok (.iload_n 1, 1) := by decide +kernel
theorem dX11_paper_1 : decode cX11_paper 1 = .ok (.iconst 0, 1) := by decide +kernel
theorem dX11_paper_2 : decode cX11_paper 2 = .ok (.aload_n 0, 1) := by decide +kernel
theorem dX11_paper_3 : decode cX11_paper 3 = .ok (.getfield 203, 3) := by decide +kernel
theorem dX11_paper_6 : decode cX11_paper 6 = .ok (.iconst 1, 1) := by decide +kernel
theorem dX11_paper_7 : decode cX11_paper 7 = .ok (.isub, 1) := by decide +kernel
theorem dX11_paper_8 : decode cX11_paper 8 = .ok (.invokestatic 64, 3) := by decide +kernel
theorem dX11_paper_11 : decode cX11_paper 11 = .ok (.ifCond .eq 12, 3) := by decide +kernel
theorem dX11_paper_14 : decode cX11_paper 14 = .ok (.aload_n 0, 1) := by decide +kernel
theorem dX11_paper_15 : decode cX11_paper 15 = .ok (.getfield 55, 3) := by decide +kernel
theorem dX11_paper_18 : decode cX11_paper 18 = .ok (.iload_n 1, 1) := by decide +kernel
theorem dX11_paper_19 : decode cX11_paper 19 = .ok (.iaload, 1) := by decide +kernel
theorem dX11_paper_20 : decode cX11_paper 20 = .ok (.goto 4, 3) := by decide +kernel
theorem dX11_paper_23 : decode cX11_paper 23 = .ok (.iconst (-1), 1) := by decide +kernel
theorem dX11_paper_24 : decode cX11_paper 24 = .ok (.ireturn, 1) := by decide +kernel
theorem dX11_isList_0 : decode cX11_isList 0 = .ok (.iload_n 0, 1) := by decide +kernel
theorem dX11_isList_1 : decode cX11_isList 1 = .ok (.iconst 0, 1) := by decide +kernel
theorem dX11_isList_2 : decode cX11_isList 2 = .ok (.iconst 5, 1) := by decide +kernel
theorem dX11_isList_3 : decode cX11_isList 3 = .ok (.invokestatic 64, 3) := by decide +kernel
theorem dX11_isList_6 : decode cX11_isList 6 = .ok (.ireturn, 1) := by decide +kernel
theorem dX11_isWide_0 : decode cX11_isWide 0 = .ok (.iload_n 0, 1) := by decide +kernel
theorem dX11_isWide_1 : decode cX11_isWide 1 = .ok (.iconst 3, 1) := by decide +kernel
theorem dX11_isWide_2 : decode cX11_isWide 2 = .ok (.if_icmp .le 7, 3) := by decide +kernel
theorem dX11_isWide_5 : decode cX11_isWide 5 = .ok (.iconst 1, 1) := by decide +kernel
theorem dX11_isWide_6 : decode cX11_isWide 6 = .ok (.goto 4, 3) := by decide +kernel
theorem dX11_isWide_9 : decode cX11_isWide 9 = .ok (.iconst 0, 1) := by decide +kernel
theorem dX11_isWide_10 : decode cX11_isWide 10 = .ok (.ireturn, 1) := by decide +kernel
theorem dX11_wrong_0 : decode cX11_wrong 0 = .ok (.iload_n 1, 1) := by decide +kernel
theorem dX11_wrong_1 : decode cX11_wrong 1 = .ok (.invokestatic 284, 3) := by decide +kernel
theorem dX11_wrong_4 : decode cX11_wrong 4 = .ok (.ifCond .ne 7, 3) := by decide +kernel
theorem dX11_wrong_7 : decode cX11_wrong 7 = .ok (.iconst (-1), 1) := by decide +kernel
theorem dX11_wrong_8 : decode cX11_wrong 8 = .ok (.goto 18, 3) := by decide +kernel
theorem dX11_wrong_11 : decode cX11_wrong 11 = .ok (.aload_n 0, 1) := by decide +kernel
theorem dX11_wrong_12 : decode cX11_wrong 12 = .ok (.getfield 58, 3) := by decide +kernel
theorem dX11_wrong_15 : decode cX11_wrong 15 = .ok (.iload_n 1, 1) := by decide +kernel
theorem dX11_wrong_16 : decode cX11_wrong 16 = .ok (.iaload, 1) := by decide +kernel
theorem dX11_wrong_17 : decode cX11_wrong 17 = .ok (.ifCond .ge 8, 3) := by decide +kernel
theorem dX11_wrong_20 : decode cX11_wrong 20 = .ok (.bipush (-11), 2) := by decide +kernel
theorem dX11_wrong_22 : decode cX11_wrong 22 = .ok (.goto 4, 3) := by decide +kernel
theorem dX11_wrong_25 : decode cX11_wrong 25 = .ok (.iconst 0, 1) := by decide +kernel
theorem dX11_wrong_26 : decode cX11_wrong 26 = .ok (.ireturn, 1) := by decide +kernel
theorem dX11_list_0 : decode cX11_list 0 = .ok (.iload_n 1, 1) := by decide +kernel
theorem dX11_list_1 : decode cX11_list 1 = .ok (.invokestatic 284, 3) := by decide +kernel
theorem dX11_list_4 : decode cX11_list 4 = .ok (.ifCond .ne 5, 3) := by decide +kernel
theorem dX11_list_7 : decode cX11_list 7 = .ok (.iconst (-1), 1) := by decide +kernel
theorem dX11_list_8 : decode cX11_list 8 = .ok (.ireturn, 1) := by decide +kernel
theorem dX11_list_9 : decode cX11_list 9 = .ok (.iload_n 2, 1) := by decide +kernel
theorem dX11_list_10 : decode cX11_list 10 = .ok (.bipush 60, 2) := by decide +kernel
theorem dX11_list_12 : decode cX11_list 12 = .ok (.if_icmp .le 6, 3) := by decide +kernel
theorem dX11_list_15 : decode cX11_list 15 = .ok (.bipush (-2), 2) := by decide +kernel
theorem dX11_list_17 : decode cX11_list 17 = .ok (.ireturn, 1) := by decide +kernel
theorem dX11_list_18 : decode cX11_list 18 = .ok (.iload_n 2, 1) := by decide +kernel
theorem dX11_list_19 : decode cX11_list 19 = .ok (.ifCond .ge 6, 3) := by decide +kernel
theorem dX11_list_22 : decode cX11_list 22 = .ok (.bipush (-14), 2) := by decide +kernel
theorem dX11_list_24 : decode cX11_list 24 = .ok (.ireturn, 1) := by decide +kernel
theorem dX11_list_25 : decode cX11_list 25 = .ok (.aload_n 0, 1) := by decide +kernel
theorem dX11_list_26 : decode cX11_list 26 = .ok (.getfield 58, 3) := by decide +kernel
theorem dX11_list_29 : decode cX11_list 29 = .ok (.iload_n 1, 1) := by decide +kernel
theorem dX11_list_30 : decode cX11_list 30 = .ok (.iload_n 2, 1) := by decide +kernel
theorem dX11_list_31 : decode cX11_list 31 = .ok (.iastore, 1) := by decide +kernel
theorem dX11_list_32 : decode cX11_list 32 = .ok (.iconst 0, 1) := by decide +kernel
theorem dX11_list_33 : decode cX11_list 33 = .ok (.istore_n 3, 1) := by decide +kernel
theorem dX11_list_34 : decode cX11_list 34 = .ok (.iload_n 3, 1) := by decide +kernel
theorem dX11_list_35 : decode cX11_list 35 = .ok (.bipush 60, 2) := by decide +kernel
theorem dX11_list_37 : decode cX11_list 37 = .ok (.if_icmp .ge 21, 3) := by decide +kernel
theorem dX11_list_40 : decode cX11_list 40 = .ok (.aload_n 0, 1) := by decide +kernel
theorem dX11_list_41 : decode cX11_list 41 = .ok (.getfield 61, 3) := by decide +kernel
theorem dX11_list_44 : decode cX11_list 44 = .ok (.bipush 60, 2) := by decide +kernel
theorem dX11_list_46 : decode cX11_list 46 = .ok (.iload_n 1, 1) := by decide +kernel
theorem dX11_list_47 : decode cX11_list 47 = .ok (.imul, 1) := by decide +kernel
theorem dX11_list_48 : decode cX11_list 48 = .ok (.iload_n 3, 1) := by decide +kernel
theorem dX11_list_49 : decode cX11_list 49 = .ok (.iadd, 1) := by decide +kernel
theorem dX11_list_50 : decode cX11_list 50 = .ok (.lconst 0, 1) := by decide +kernel
theorem dX11_list_51 : decode cX11_list 51 = .ok (.lastore, 1) := by decide +kernel
theorem dX11_list_52 : decode cX11_list 52 = .ok (.iinc 3 1, 3) := by decide +kernel
theorem dX11_list_55 : decode cX11_list 55 = .ok (.goto (-21), 3) := by decide +kernel
theorem dX11_list_58 : decode cX11_list 58 = .ok (.iconst 1, 1) := by decide +kernel
theorem dX11_list_59 : decode cX11_list 59 = .ok (.ireturn, 1) := by decide +kernel
theorem dX11_set_0 : decode cX11_set 0 = .ok (.aload_n 0, 1) := by decide +kernel
theorem dX11_set_1 : decode cX11_set 1 = .ok (.iload_n 1, 1) := by decide +kernel
theorem dX11_set_2 : decode cX11_set 2 = .ok (.invokevirtual 287, 3) := by decide +kernel
theorem dX11_set_5 : decode cX11_set 5 = .ok (.istore 5, 2) := by decide +kernel
theorem dX11_set_7 : decode cX11_set 7 = .ok (.iload 5, 2) := by decide +kernel
theorem dX11_set_9 : decode cX11_set 9 = .ok (.ifCond .eq 6, 3) := by decide +kernel
theorem dX11_set_12 : decode cX11_set 12 = .ok (.iload 5, 2) := by decide +kernel
theorem dX11_set_14 : decode cX11_set 14 = .ok (.ireturn, 1) := by decide +kernel
theorem dX11_set_15 : decode cX11_set 15 = .ok (.iload_n 2, 1) := by decide +kernel
theorem dX11_set_16 : decode cX11_set 16 = .ok (.iconst 0, 1) := by decide +kernel
theorem dX11_set_17 : decode cX11_set 17 = .ok (.aload_n 0, 1) := by decide +kernel
theorem dX11_set_18 : decode cX11_set 18 = .ok (.getfield 58, 3) := by decide +kernel
theorem dX11_set_21 : decode cX11_set 21 = .ok (.iload_n 1, 1) := by decide +kernel
theorem dX11_set_22 : decode cX11_set 22 = .ok (.iaload, 1) := by decide +kernel
theorem dX11_set_23 : decode cX11_set 23 = .ok (.iconst 1, 1) := by decide +kernel
theorem dX11_set_24 : decode cX11_set 24 = .ok (.isub, 1) := by decide +kernel
theorem dX11_set_25 : decode cX11_set 25 = .ok (.invokestatic 64, 3) := by decide +kernel
theorem dX11_set_28 : decode cX11_set 28 = .ok (.ifCond .ne 6, 3) := by decide +kernel
theorem dX11_set_31 : decode cX11_set 31 = .ok (.bipush (-13), 2) := by decide +kernel
theorem dX11_set_33 : decode cX11_set 33 = .ok (.ireturn, 1) := by decide +kernel
theorem dX11_set_34 : decode cX11_set 34 = .ok (.aload_n 0, 1) := by decide +kernel
theorem dX11_set_35 : decode cX11_set 35 = .ok (.getfield 61, 3) := by decide +kernel
theorem dX11_set_38 : decode cX11_set 38 = .ok (.bipush 60, 2) := by decide +kernel
theorem dX11_set_40 : decode cX11_set 40 = .ok (.iload_n 1, 1) := by decide +kernel
theorem dX11_set_41 : decode cX11_set 41 = .ok (.imul, 1) := by decide +kernel
theorem dX11_set_42 : decode cX11_set 42 = .ok (.iload_n 2, 1) := by decide +kernel
theorem dX11_set_43 : decode cX11_set 43 = .ok (.iadd, 1) := by decide +kernel
theorem dX11_set_44 : decode cX11_set 44 = .ok (.iload_n 1, 1) := by decide +kernel
theorem dX11_set_45 : decode cX11_set 45 = .ok (.invokestatic 290, 3) := by decide +kernel
theorem dX11_set_48 : decode cX11_set 48 = .ok (.ifCond .eq 7, 3) := by decide +kernel
theorem dX11_set_51 : decode cX11_set 51 = .ok (.lload_n 3, 1) := by decide +kernel
theorem dX11_set_52 : decode cX11_set 52 = .ok (.goto 6, 3) := by decide +kernel
theorem dX11_set_55 : decode cX11_set 55 = .ok (.lload_n 3, 1) := by decide +kernel
theorem dX11_set_56 : decode cX11_set 56 = .ok (.l2i, 1) := by decide +kernel
theorem dX11_set_57 : decode cX11_set 57 = .ok (.i2l, 1) := by decide +kernel
theorem dX11_set_58 : decode cX11_set 58 = .ok (.lastore, 1) := by decide +kernel
theorem dX11_set_59 : decode cX11_set 59 = .ok (.iconst 1, 1) := by decide +kernel
theorem dX11_set_60 : decode cX11_set 60 = .ok (.ireturn, 1) := by decide +kernel
theorem dX11_get_0 : decode cX11_get 0 = .ok (.aload_n 0, 1) := by decide +kernel
theorem dX11_get_1 : decode cX11_get 1 = .ok (.iload_n 1, 1) := by decide +kernel
theorem dX11_get_2 : decode cX11_get 2 = .ok (.invokevirtual 287, 3) := by decide +kernel
theorem dX11_get_5 : decode cX11_get 5 = .ok (.ifCond .ne 19, 3) := by decide +kernel
theorem dX11_get_8 : decode cX11_get 8 = .ok (.iload_n 2, 1) := by decide +kernel
theorem dX11_get_9 : decode cX11_get 9 = .ok (.iconst 0, 1) := by decide +kernel
theorem dX11_get_10 : decode cX11_get 10 = .ok (.aload_n 0, 1) := by decide +kernel
theorem dX11_get_11 : decode cX11_get 11 = .ok (.getfield 58, 3) := by decide +kernel
theorem dX11_get_14 : decode cX11_get 14 = .ok (.iload_n 1, 1) := by decide +kernel
theorem dX11_get_15 : decode cX11_get 15 = .ok (.iaload, 1) := by decide +kernel
theorem dX11_get_16 : decode cX11_get 16 = .ok (.iconst 1, 1) := by decide +kernel
theorem dX11_get_17 : decode cX11_get 17 = .ok (.isub, 1) := by decide +kernel
theorem dX11_get_18 : decode cX11_get 18 = .ok (.invokestatic 64, 3) := by decide +kernel
theorem dX11_get_21 : decode cX11_get 21 = .ok (.ifCond .ne 9, 3) := by decide +kernel
theorem dX11_get_24 : decode cX11_get 24 = .ok (.ldc2_w 130, 3) := by decide +kernel
theorem dX11_get_27 : decode cX11_get 27 = .ok (.goto 14, 3) := by decide +kernel
theorem dX11_get_30 : decode cX11_get 30 = .ok (.aload_n 0, 1) := by decide +kernel
theorem dX11_get_31 : decode cX11_get 31 = .ok (.getfield 61, 3) := by decide +kernel
theorem dX11_get_34 : decode cX11_get 34 = .ok (.bipush 60, 2) := by decide +kernel
theorem dX11_get_36 : decode cX11_get 36 = .ok (.iload_n 1, 1) := by decide +kernel
theorem dX11_get_37 : decode cX11_get 37 = .ok (.imul, 1) := by decide +kernel
theorem dX11_get_38 : decode cX11_get 38 = .ok (.iload_n 2, 1) := by decide +kernel
theorem dX11_get_39 : decode cX11_get 39 = .ok (.iadd, 1) := by decide +kernel
theorem dX11_get_40 : decode cX11_get 40 = .ok (.laload, 1) := by decide +kernel
theorem dX11_get_41 : decode cX11_get 41 = .ok (.lreturn, 1) := by decide +kernel
theorem dX11_move_0 : decode cX11_move 0 = .ok (.iload_n 1, 1) := by decide +kernel
theorem dX11_move_1 : decode cX11_move 1 = .ok (.invokestatic 284, 3) := by decide +kernel
theorem dX11_move_4 : decode cX11_move 4 = .ok (.ifCond .eq 10, 3) := by decide +kernel
theorem dX11_move_7 : decode cX11_move 7 = .ok (.iload_n 3, 1) := by decide +kernel
theorem dX11_move_8 : decode cX11_move 8 = .ok (.invokestatic 284, 3) := by decide +kernel
theorem dX11_move_11 : decode cX11_move 11 = .ok (.ifCond .ne 5, 3) := by decide +kernel
theorem dX11_move_14 : decode cX11_move 14 = .ok (.iconst (-1), 1) := by decide +kernel
theorem dX11_move_15 : decode cX11_move 15 = .ok (.ireturn, 1) := by decide +kernel
theorem dX11_move_16 : decode cX11_move 16 = .ok (.aload_n 0, 1) := by decide +kernel
theorem dX11_move_17 : decode cX11_move 17 = .ok (.getfield 58, 3) := by decide +kernel
theorem dX11_move_20 : decode cX11_move 20 = .ok (.iload_n 1, 1) := by decide +kernel
theorem dX11_move_21 : decode cX11_move 21 = .ok (.iaload, 1) := by decide +kernel
theorem dX11_move_22 : decode cX11_move 22 = .ok (.ifCond .lt 12, 3) := by decide +kernel
theorem dX11_move_25 : decode cX11_move 25 = .ok (.aload_n 0, 1) := by decide +kernel
theorem dX11_move_26 : decode cX11_move 26 = .ok (.getfield 58, 3) := by decide +kernel
theorem dX11_move_29 : decode cX11_move 29 = .ok (.iload_n 3, 1) := by decide +kernel
theorem dX11_move_30 : decode cX11_move 30 = .ok (.iaload, 1) := by decide +kernel
theorem dX11_move_31 : decode cX11_move 31 = .ok (.ifCond .ge 6, 3) := by decide +kernel
theorem dX11_move_34 : decode cX11_move 34 = .ok (.bipush (-11), 2) := by decide +kernel
theorem dX11_move_36 : decode cX11_move 36 = .ok (.ireturn, 1) := by decide +kernel
theorem dX11_move_37 : decode cX11_move 37 = .ok (.iload_n 1, 1) := by decide +kernel
theorem dX11_move_38 : decode cX11_move 38 = .ok (.invokestatic 290, 3) := by decide +kernel
theorem dX11_move_41 : decode cX11_move 41 = .ok (.iload_n 3, 1) := by decide +kernel
theorem dX11_move_42 : decode cX11_move 42 = .ok (.invokestatic 290, 3) := by decide +kernel
theorem dX11_move_45 : decode cX11_move 45 = .ok (.if_icmp .eq 6, 3) := by decide +kernel
theorem dX11_move_48 : decode cX11_move 48 = .ok (.bipush (-12), 2) := by decide +kernel
theorem dX11_move_50 : decode cX11_move 50 = .ok (.ireturn, 1) := by decide +kernel
theorem dX11_move_51 : decode cX11_move 51 = .ok (.iload 5, 2) := by decide +kernel
theorem dX11_move_53 : decode cX11_move 53 = .ok (.ifCond .lt 39, 3) := by decide +kernel
theorem dX11_move_56 : decode cX11_move 56 = .ok (.iload_n 2, 1) := by decide +kernel
theorem dX11_move_57 : decode cX11_move 57 = .ok (.ifCond .lt 35, 3) := by decide +kernel
theorem dX11_move_60 : decode cX11_move 60 = .ok (.iload 4, 2) := by decide +kernel
theorem dX11_move_62 : decode cX11_move 62 = .ok (.ifCond .lt 30, 3) := by decide +kernel
theorem dX11_move_65 : decode cX11_move 65 = .ok (.iload 5, 2) := by decide +kernel
theorem dX11_move_67 : decode cX11_move 67 = .ok (.aload_n 0, 1) := by decide +kernel
theorem dX11_move_68 : decode cX11_move 68 = .ok (.getfield 58, 3) := by decide +kernel
theorem dX11_move_71 : decode cX11_move 71 = .ok (.iload_n 1, 1) := by decide +kernel
theorem dX11_move_72 : decode cX11_move 72 = .ok (.iaload, 1) := by decide +kernel
theorem dX11_move_73 : decode cX11_move 73 = .ok (.iload_n 2, 1) := by decide +kernel
theorem dX11_move_74 : decode cX11_move 74 = .ok (.isub, 1) := by decide +kernel
theorem dX11_move_75 : decode cX11_move 75 = .ok (.if_icmp .gt 17, 3) := by decide +kernel
theorem dX11_move_78 : decode cX11_move 78 = .ok (.iload 5, 2) := by decide +kernel
theorem dX11_move_80 : decode cX11_move 80 = .ok (.aload_n 0, 1) := by decide +kernel
theorem dX11_move_81 : decode cX11_move 81 = .ok (.getfield 58, 3) := by decide +kernel
theorem dX11_move_84 : decode cX11_move 84 = .ok (.iload_n 3, 1) := by decide +kernel
theorem dX11_move_85 : decode cX11_move 85 = .ok (.iaload, 1) := by decide +kernel
theorem dX11_move_86 : decode cX11_move 86 = .ok (.iload 4, 2) := by decide +kernel
theorem dX11_move_88 : decode cX11_move 88 = .ok (.isub, 1) := by decide +kernel
theorem dX11_move_89 : decode cX11_move 89 = .ok (.if_icmp .le 6, 3) := by decide +kernel
theorem dX11_move_92 : decode cX11_move 92 = .ok (.bipush (-13), 2) := by decide +kernel
theorem dX11_move_94 : decode cX11_move 94 = .ok (.ireturn, 1) := by decide +kernel
theorem dX11_move_95 : decode cX11_move 95 = .ok (.iconst 0, 1) := by decide +kernel
theorem dX11_move_96 : decode cX11_move 96 = .ok (.istore 6, 2) := by decide +kernel
theorem dX11_move_98 : decode cX11_move 98 = .ok (.iload 6, 2) := by decide +kernel
theorem dX11_move_100 : decode cX11_move 100 = .ok (.iload 5, 2) := by decide +kernel
theorem dX11_move_102 : decode cX11_move 102 = .ok (.if_icmp .ge 58, 3) := by decide +kernel
theorem dX11_move_105 : decode cX11_move 105 = .ok (.iload_n 2, 1) := by decide +kernel
theorem dX11_move_106 : decode cX11_move 106 = .ok (.iload 4, 2) := by decide +kernel
theorem dX11_move_108 : decode cX11_move 108 = .ok (.if_icmp .le 8, 3) := by decide +kernel
theorem dX11_move_111 : decode cX11_move 111 = .ok (.iload 6, 2) := by decide +kernel
theorem dX11_move_113 : decode cX11_move 113 = .ok (.goto 10, 3) := by decide +kernel
theorem dX11_move_116 : decode cX11_move 116 = .ok (.iload 5, 2) := by decide +kernel
theorem dX11_move_118 : decode cX11_move 118 = .ok (.iconst 1, 1) := by decide +kernel
theorem dX11_move_119 : decode cX11_move 119 = .ok (.isub, 1) := by decide +kernel
theorem dX11_move_120 : decode cX11_move 120 = .ok (.iload 6, 2) := by decide +kernel
theorem dX11_move_122 : decode cX11_move 122 = .ok (.isub, 1) := by decide +kernel
theorem dX11_move_123 : decode cX11_move 123 = .ok (.istore 7, 2) := by decide +kernel
theorem dX11_move_125 : decode cX11_move 125 = .ok (.aload_n 0, 1) := by decide +kernel
theorem dX11_move_126 : decode cX11_move 126 = .ok (.getfield 61, 3) := by decide +kernel
theorem dX11_move_129 : decode cX11_move 129 = .ok (.bipush 60, 2) := by decide +kernel
theorem dX11_move_131 : decode cX11_move 131 = .ok (.iload_n 3, 1) := by decide +kernel
theorem dX11_move_132 : decode cX11_move 132 = .ok (.imul, 1) := by decide +kernel
theorem dX11_move_133 : decode cX11_move 133 = .ok (.iload 4, 2) := by decide +kernel
theorem dX11_move_135 : decode cX11_move 135 = .ok (.iadd, 1) := by decide +kernel
theorem dX11_move_136 : decode cX11_move 136 = .ok (.iload 7, 2) := by decide +kernel
theorem dX11_move_138 : decode cX11_move 138 = .ok (.iadd, 1) := by decide +kernel
theorem dX11_move_139 : decode cX11_move 139 = .ok (.aload_n 0, 1) := by decide +kernel
theorem dX11_move_140 : decode cX11_move 140 = .ok (.getfield 61, 3) := by decide +kernel
theorem dX11_move_143 : decode cX11_move 143 = .ok (.bipush 60, 2) := by decide +kernel
theorem dX11_move_145 : decode cX11_move 145 = .ok (.iload_n 1, 1) := by decide +kernel
theorem dX11_move_146 : decode cX11_move 146 = .ok (.imul, 1) := by decide +kernel
theorem dX11_move_147 : decode cX11_move 147 = .ok (.iload_n 2, 1) := by decide +kernel
theorem dX11_move_148 : decode cX11_move 148 = .ok (.iadd, 1) := by decide +kernel
theorem dX11_move_149 : decode cX11_move 149 = .ok (.iload 7, 2) := by decide +kernel
theorem dX11_move_151 : decode cX11_move 151 = .ok (.iadd, 1) := by decide +kernel
theorem dX11_move_152 : decode cX11_move 152 = .ok (.laload, 1) := by decide +kernel
theorem dX11_move_153 : decode cX11_move 153 = .ok (.lastore, 1) := by decide +kernel
theorem dX11_move_154 : decode cX11_move 154 = .ok (.iinc 6 1, 3) := by decide +kernel
theorem dX11_move_157 : decode cX11_move 157 = .ok (.goto (-59), 3) := by decide +kernel
theorem dX11_move_160 : decode cX11_move 160 = .ok (.iload 5, 2) := by decide +kernel
theorem dX11_move_162 : decode cX11_move 162 = .ok (.ireturn, 1) := by decide +kernel
theorem dX11_figure_0 : decode cX11_figure 0 = .ok (.iload_n 2, 1) := by decide +kernel
theorem dX11_figure_1 : decode cX11_figure 1 = .ok (.ifCond .ne 11, 3) := by decide +kernel
theorem dX11_figure_4 : decode cX11_figure 4 = .ok (.aload_n 0, 1) := by decide +kernel
theorem dX11_figure_5 : decode cX11_figure 5 = .ok (.iload_n 1, 1) := by decide +kernel
theorem dX11_figure_6 : decode cX11_figure 6 = .ok (.invokevirtual 84, 3) := by decide +kernel
theorem dX11_figure_9 : decode cX11_figure 9 = .ok (.goto 35, 3) := by decide +kernel
theorem dX11_figure_12 : decode cX11_figure 12 = .ok (.iload_n 2, 1) := by decide +kernel
theorem dX11_figure_13 : decode cX11_figure 13 = .ok (.iconst 1, 1) := by decide +kernel
theorem dX11_figure_14 : decode cX11_figure 14 = .ok (.if_icmp .ne 11, 3) := by decide +kernel
theorem dX11_figure_17 : decode cX11_figure 17 = .ok (.aload_n 0, 1) := by decide +kernel
theorem dX11_figure_18 : decode cX11_figure 18 = .ok (.iload_n 1, 1) := by decide +kernel
theorem dX11_figure_19 : decode cX11_figure 19 = .ok (.invokevirtual 132, 3) := by decide +kernel
theorem dX11_figure_22 : decode cX11_figure 22 = .ok (.goto 22, 3) := by decide +kernel
theorem dX11_figure_25 : decode cX11_figure 25 = .ok (.iload_n 2, 1) := by decide +kernel
theorem dX11_figure_26 : decode cX11_figure 26 = .ok (.iconst 2, 1) := by decide +kernel
theorem dX11_figure_27 : decode cX11_figure 27 = .ok (.if_icmp .ne 12, 3) := by decide +kernel
theorem dX11_figure_30 : decode cX11_figure 30 = .ok (.aload_n 0, 1) := by decide +kernel
theorem dX11_figure_31 : decode cX11_figure 31 = .ok (.getfield 31, 3) := by decide +kernel
theorem dX11_figure_34 : decode cX11_figure 34 = .ok (.iload_n 1, 1) := by decide +kernel
theorem dX11_figure_35 : decode cX11_figure 35 = .ok (.iaload, 1) := by decide +kernel
theorem dX11_figure_36 : decode cX11_figure 36 = .ok (.goto 8, 3) := by decide +kernel
theorem dX11_figure_39 : decode cX11_figure 39 = .ok (.aload_n 0, 1) := by decide +kernel
theorem dX11_figure_40 : decode cX11_figure 40 = .ok (.iload_n 1, 1) := by decide +kernel
theorem dX11_figure_41 : decode cX11_figure 41 = .ok (.invokevirtual 138, 3) := by decide +kernel
theorem dX11_figure_44 : decode cX11_figure 44 = .ok (.ireturn, 1) := by decide +kernel
theorem dX11_lay_0 : decode cX11_lay 0 = .ok (.iload_n 1, 1) := by decide +kernel
theorem dX11_lay_1 : decode cX11_lay 1 = .ok (.invokestatic 284, 3) := by decide +kernel
theorem dX11_lay_4 : decode cX11_lay 4 = .ok (.ifCond .eq 12, 3) := by decide +kernel
theorem dX11_lay_7 : decode cX11_lay 7 = .ok (.iload_n 3, 1) := by decide +kernel
theorem dX11_lay_8 : decode cX11_lay 8 = .ok (.iconst 0, 1) := by decide +kernel
theorem dX11_lay_9 : decode cX11_lay 9 = .ok (.iconst 3, 1) := by decide +kernel
theorem dX11_lay_10 : decode cX11_lay 10 = .ok (.invokestatic 64, 3) := by decide +kernel
theorem dX11_lay_13 : decode cX11_lay 13 = .ok (.ifCond .ne 5, 3) := by decide +kernel
theorem dX11_lay_16 : decode cX11_lay 16 = .ok (.iconst (-1), 1) := by decide +kernel
theorem dX11_lay_17 : decode cX11_lay 17 = .ok (.ireturn, 1) := by decide +kernel
theorem dX11_lay_18 : decode cX11_lay 18 = .ok (.aload_n 0, 1) := by decide +kernel
theorem dX11_lay_19 : decode cX11_lay 19 = .ok (.getfield 58, 3) := by decide +kernel
theorem dX11_lay_22 : decode cX11_lay 22 = .ok (.iload_n 1, 1) := by decide +kernel
theorem dX11_lay_23 : decode cX11_lay 23 = .ok (.iaload, 1) := by decide +kernel
theorem dX11_lay_24 : decode cX11_lay 24 = .ok (.ifCond .ge 6, 3) := by decide +kernel
theorem dX11_lay_27 : decode cX11_lay 27 = .ok (.bipush (-11), 2) := by decide +kernel
theorem dX11_lay_29 : decode cX11_lay 29 = .ok (.ireturn, 1) := by decide +kernel
theorem dX11_lay_30 : decode cX11_lay 30 = .ok (.aload_n 0, 1) := by decide +kernel
theorem dX11_lay_31 : decode cX11_lay 31 = .ok (.invokevirtual 158, 3) := by decide +kernel
theorem dX11_lay_34 : decode cX11_lay 34 = .ok (.iconst 0, 1) := by decide +kernel
theorem dX11_lay_35 : decode cX11_lay 35 = .ok (.istore 4, 2) := by decide +kernel
theorem dX11_lay_37 : decode cX11_lay 37 = .ok (.iload 4, 2) := by decide +kernel
theorem dX11_lay_39 : decode cX11_lay 39 = .ok (.bipush 40, 2) := by decide +kernel
theorem dX11_lay_41 : decode cX11_lay 41 = .ok (.if_icmp .ge 51, 3) := by decide +kernel
theorem dX11_lay_44 : decode cX11_lay 44 = .ok (.iload_n 2, 1) := by decide +kernel
theorem dX11_lay_45 : decode cX11_lay 45 = .ok (.ifCond .lt 16, 3) := by decide +kernel
theorem dX11_lay_48 : decode cX11_lay 48 = .ok (.iload 4, 2) := by decide +kernel
theorem dX11_lay_50 : decode cX11_lay 50 = .ok (.aload_n 0, 1) := by decide +kernel
theorem dX11_lay_51 : decode cX11_lay 51 = .ok (.getfield 58, 3) := by decide +kernel
theorem dX11_lay_54 : decode cX11_lay 54 = .ok (.iload_n 1, 1) := by decide +kernel
theorem dX11_lay_55 : decode cX11_lay 55 = .ok (.iaload, 1) := by decide +kernel
theorem dX11_lay_56 : decode cX11_lay 56 = .ok (.iload_n 2, 1) := by decide +kernel
theorem dX11_lay_57 : decode cX11_lay 57 = .ok (.isub, 1) := by decide +kernel
theorem dX11_lay_58 : decode cX11_lay 58 = .ok (.if_icmp .lt 6, 3) := by decide +kernel
theorem dX11_lay_61 : decode cX11_lay 61 = .ok (.bipush (-13), 2) := by decide +kernel
theorem dX11_lay_63 : decode cX11_lay 63 = .ok (.ireturn, 1) := by decide +kernel
theorem dX11_lay_64 : decode cX11_lay 64 = .ok (.aload_n 0, 1) := by decide +kernel
theorem dX11_lay_65 : decode cX11_lay 65 = .ok (.getfield 61, 3) := by decide +kernel
theorem dX11_lay_68 : decode cX11_lay 68 = .ok (.bipush 60, 2) := by decide +kernel
theorem dX11_lay_70 : decode cX11_lay 70 = .ok (.iload_n 1, 1) := by decide +kernel
theorem dX11_lay_71 : decode cX11_lay 71 = .ok (.imul, 1) := by decide +kernel
theorem dX11_lay_72 : decode cX11_lay 72 = .ok (.iload_n 2, 1) := by decide +kernel
theorem dX11_lay_73 : decode cX11_lay 73 = .ok (.iadd, 1) := by decide +kernel
theorem dX11_lay_74 : decode cX11_lay 74 = .ok (.iload 4, 2) := by decide +kernel
theorem dX11_lay_76 : decode cX11_lay 76 = .ok (.iadd, 1) := by decide +kernel
theorem dX11_lay_77 : decode cX11_lay 77 = .ok (.aload_n 0, 1) := by decide +kernel
theorem dX11_lay_78 : decode cX11_lay 78 = .ok (.iload 4, 2) := by decide +kernel
theorem dX11_lay_80 : decode cX11_lay 80 = .ok (.iload_n 3, 1) := by decide +kernel
theorem dX11_lay_81 : decode cX11_lay 81 = .ok (.invokevirtual 293, 3) := by decide +kernel
theorem dX11_lay_84 : decode cX11_lay 84 = .ok (.i2l, 1) := by decide +kernel
theorem dX11_lay_85 : decode cX11_lay 85 = .ok (.lastore, 1) := by decide +kernel
theorem dX11_lay_86 : decode cX11_lay 86 = .ok (.iinc 4 1, 3) := by decide +kernel
theorem dX11_lay_89 : decode cX11_lay 89 = .ok (.goto (-52), 3) := by decide +kernel
theorem dX11_lay_92 : decode cX11_lay 92 = .ok (.bipush 40, 2) := by decide +kernel
theorem dX11_lay_94 : decode cX11_lay 94 = .ok (.ireturn, 1) := by decide +kernel
theorem dX11_judge_0 : decode cX11_judge 0 = .ok (.iload_n 1, 1) := by decide +kernel
theorem dX11_judge_1 : decode cX11_judge 1 = .ok (.invokestatic 284, 3) := by decide +kernel
theorem dX11_judge_4 : decode cX11_judge 4 = .ok (.ifCond .eq 12, 3) := by decide +kernel
theorem dX11_judge_7 : decode cX11_judge 7 = .ok (.iload_n 3, 1) := by decide +kernel
theorem dX11_judge_8 : decode cX11_judge 8 = .ok (.iconst 0, 1) := by decide +kernel
theorem dX11_judge_9 : decode cX11_judge 9 = .ok (.iconst 3, 1) := by decide +kernel
theorem dX11_judge_10 : decode cX11_judge 10 = .ok (.invokestatic 64, 3) := by decide +kernel
theorem dX11_judge_13 : decode cX11_judge 13 = .ok (.ifCond .ne 5, 3) := by decide +kernel
theorem dX11_judge_16 : decode cX11_judge 16 = .ok (.iconst (-1), 1) := by decide +kernel
theorem dX11_judge_17 : decode cX11_judge 17 = .ok (.ireturn, 1) := by decide +kernel
theorem dX11_judge_18 : decode cX11_judge 18 = .ok (.aload_n 0, 1) := by decide +kernel
theorem dX11_judge_19 : decode cX11_judge 19 = .ok (.getfield 58, 3) := by decide +kernel
theorem dX11_judge_22 : decode cX11_judge 22 = .ok (.iload_n 1, 1) := by decide +kernel
theorem dX11_judge_23 : decode cX11_judge 23 = .ok (.iaload, 1) := by decide +kernel
theorem dX11_judge_24 : decode cX11_judge 24 = .ok (.ifCond .ge 6, 3) := by decide +kernel
theorem dX11_judge_27 : decode cX11_judge 27 = .ok (.bipush (-11), 2) := by decide +kernel
theorem dX11_judge_29 : decode cX11_judge 29 = .ok (.ireturn, 1) := by decide +kernel
theorem dX11_judge_30 : decode cX11_judge 30 = .ok (.aload_n 0, 1) := by decide +kernel
theorem dX11_judge_31 : decode cX11_judge 31 = .ok (.invokevirtual 158, 3) := by decide +kernel
theorem dX11_judge_34 : decode cX11_judge 34 = .ok (.iconst 0, 1) := by decide +kernel
theorem dX11_judge_35 : decode cX11_judge 35 = .ok (.istore 4, 2) := by decide +kernel
theorem dX11_judge_37 : decode cX11_judge 37 = .ok (.iload 4, 2) := by decide +kernel
theorem dX11_judge_39 : decode cX11_judge 39 = .ok (.bipush 40, 2) := by decide +kernel
theorem dX11_judge_41 : decode cX11_judge 41 = .ok (.if_icmp .ge 61, 3) := by decide +kernel
theorem dX11_judge_44 : decode cX11_judge 44 = .ok (.iload_n 2, 1) := by decide +kernel
theorem dX11_judge_45 : decode cX11_judge 45 = .ok (.ifCond .lt 16, 3) := by decide +kernel
theorem dX11_judge_48 : decode cX11_judge 48 = .ok (.iload 4, 2) := by decide +kernel
theorem dX11_judge_50 : decode cX11_judge 50 = .ok (.aload_n 0, 1) := by decide +kernel
theorem dX11_judge_51 : decode cX11_judge 51 = .ok (.getfield 58, 3) := by decide +kernel
theorem dX11_judge_54 : decode cX11_judge 54 = .ok (.iload_n 1, 1) := by decide +kernel
theorem dX11_judge_55 : decode cX11_judge 55 = .ok (.iaload, 1) := by decide +kernel
theorem dX11_judge_56 : decode cX11_judge 56 = .ok (.iload_n 2, 1) := by decide +kernel
theorem dX11_judge_57 : decode cX11_judge 57 = .ok (.isub, 1) := by decide +kernel
theorem dX11_judge_58 : decode cX11_judge 58 = .ok (.if_icmp .lt 9, 3) := by decide +kernel
theorem dX11_judge_61 : decode cX11_judge 61 = .ok (.bipush 100, 2) := by decide +kernel
theorem dX11_judge_63 : decode cX11_judge 63 = .ok (.iload 4, 2) := by decide +kernel
theorem dX11_judge_65 : decode cX11_judge 65 = .ok (.iadd, 1) := by decide +kernel
theorem dX11_judge_66 : decode cX11_judge 66 = .ok (.ireturn, 1) := by decide +kernel
theorem dX11_judge_67 : decode cX11_judge 67 = .ok (.aload_n 0, 1) := by decide +kernel
theorem dX11_judge_68 : decode cX11_judge 68 = .ok (.getfield 61, 3) := by decide +kernel
theorem dX11_judge_71 : decode cX11_judge 71 = .ok (.bipush 60, 2) := by decide +kernel
theorem dX11_judge_73 : decode cX11_judge 73 = .ok (.iload_n 1, 1) := by decide +kernel
theorem dX11_judge_74 : decode cX11_judge 74 = .ok (.imul, 1) := by decide +kernel
theorem dX11_judge_75 : decode cX11_judge 75 = .ok (.iload_n 2, 1) := by decide +kernel
theorem dX11_judge_76 : decode cX11_judge 76 = .ok (.iadd, 1) := by decide +kernel
theorem dX11_judge_77 : decode cX11_judge 77 = .ok (.iload 4, 2) := by decide +kernel
theorem dX11_judge_79 : decode cX11_judge 79 = .ok (.iadd, 1) := by decide +kernel
theorem dX11_judge_80 : decode cX11_judge 80 = .ok (.laload, 1) := by decide +kernel
theorem dX11_judge_81 : decode cX11_judge 81 = .ok (.aload_n 0, 1) := by decide +kernel
theorem dX11_judge_82 : decode cX11_judge 82 = .ok (.iload 4, 2) := by decide +kernel
theorem dX11_judge_84 : decode cX11_judge 84 = .ok (.iload_n 3, 1) := by decide +kernel
theorem dX11_judge_85 : decode cX11_judge 85 = .ok (.invokevirtual 293, 3) := by decide +kernel
theorem dX11_judge_88 : decode cX11_judge 88 = .ok (.i2l, 1) := by decide +kernel
theorem dX11_judge_89 : decode cX11_judge 89 = .ok (.lcmp, 1) := by decide +kernel
theorem dX11_judge_90 : decode cX11_judge 90 = .ok (.ifCond .eq 6, 3) := by decide +kernel
theorem dX11_judge_93 : decode cX11_judge 93 = .ok (.iload 4, 2) := by decide +kernel
theorem dX11_judge_95 : decode cX11_judge 95 = .ok (.ireturn, 1) := by decide +kernel
theorem dX11_judge_96 : decode cX11_judge 96 = .ok (.iinc 4 1, 3) := by decide +kernel
theorem dX11_judge_99 : decode cX11_judge 99 = .ok (.goto (-62), 3) := by decide +kernel
theorem dX11_judge_102 : decode cX11_judge 102 = .ok (.bipush (-5), 2) := by decide +kernel
theorem dX11_judge_104 : decode cX11_judge 104 = .ok (.ireturn, 1) := by decide +kernel
theorem dX11_image_0 : decode cX11_image 0 = .ok (.iconst 0, 1) := by decide +kernel
theorem dX11_image_1 : decode cX11_image 1 = .ok (.istore_n 1, 1) := by decide +kernel
theorem dX11_image_2 : decode cX11_image 2 = .ok (.iload_n 1, 1) := by decide +kernel
theorem dX11_image_3 : decode cX11_image 3 = .ok (.sipush 187, 3) := by decide +kernel
theorem dX11_image_6 : decode cX11_image 6 = .ok (.if_icmp .ge 21, 3) := by decide +kernel
theorem dX11_image_9 : decode cX11_image 9 = .ok (.aload_n 0, 1) := by decide +kernel
theorem dX11_image_10 : decode cX11_image 10 = .ok (.getfield 18, 3) := by decide +kernel
theorem dX11_image_13 : decode cX11_image 13 = .ok (.iload_n 1, 1) := by decide +kernel
theorem dX11_image_14 : decode cX11_image 14 = .ok (.aload_n 0, 1) := by decide +kernel
theorem dX11_image_15 : decode cX11_image 15 = .ok (.getfield 11, 3) := by decide +kernel
theorem dX11_image_18 : decode cX11_image 18 = .ok (.iload_n 1, 1) := by decide +kernel
theorem dX11_image_19 : decode cX11_image 19 = .ok (.iaload, 1) := by decide +kernel
theorem dX11_image_20 : decode cX11_image 20 = .ok (.iastore, 1) := by decide +kernel
theorem dX11_image_21 : decode cX11_image 21 = .ok (.iinc 1 1, 3) := by decide +kernel
theorem dX11_image_24 : decode cX11_image 24 = .ok (.goto (-22), 3) := by decide +kernel
theorem dX11_image_27 : decode cX11_image 27 = .ok (.iconst 0, 1) := by decide +kernel
theorem dX11_image_28 : decode cX11_image 28 = .ok (.istore_n 1, 1) := by decide +kernel
theorem dX11_image_29 : decode cX11_image 29 = .ok (.iload_n 1, 1) := by decide +kernel
theorem dX11_image_30 : decode cX11_image 30 = .ok (.sipush 1600, 3) := by decide +kernel
theorem dX11_image_33 : decode cX11_image 33 = .ok (.if_icmp .ge 21, 3) := by decide +kernel
theorem dX11_image_36 : decode cX11_image 36 = .ok (.aload_n 0, 1) := by decide +kernel
theorem dX11_image_37 : decode cX11_image 37 = .ok (.getfield 21, 3) := by decide +kernel
theorem dX11_image_40 : decode cX11_image 40 = .ok (.iload_n 1, 1) := by decide +kernel
theorem dX11_image_41 : decode cX11_image 41 = .ok (.aload_n 0, 1) := by decide +kernel
theorem dX11_image_42 : decode cX11_image 42 = .ok (.getfield 15, 3) := by decide +kernel
theorem dX11_image_45 : decode cX11_image 45 = .ok (.iload_n 1, 1) := by decide +kernel
theorem dX11_image_46 : decode cX11_image 46 = .ok (.iaload, 1) := by decide +kernel
theorem dX11_image_47 : decode cX11_image 47 = .ok (.iastore, 1) := by decide +kernel
theorem dX11_image_48 : decode cX11_image 48 = .ok (.iinc 1 1, 3) := by decide +kernel
theorem dX11_image_51 : decode cX11_image 51 = .ok (.goto (-22), 3) := by decide +kernel
theorem dX11_image_54 : decode cX11_image 54 = .ok (.iconst 0, 1) := by decide +kernel
theorem dX11_image_55 : decode cX11_image 55 = .ok (.istore_n 1, 1) := by decide +kernel
theorem dX11_image_56 : decode cX11_image 56 = .ok (.iload_n 1, 1) := by decide +kernel
theorem dX11_image_57 : decode cX11_image 57 = .ok (.bipush 40, 2) := by decide +kernel
theorem dX11_image_59 : decode cX11_image 59 = .ok (.if_icmp .ge 21, 3) := by decide +kernel
theorem dX11_image_62 : decode cX11_image 62 = .ok (.aload_n 0, 1) := by decide +kernel
theorem dX11_image_63 : decode cX11_image 63 = .ok (.getfield 28, 3) := by decide +kernel
theorem dX11_image_66 : decode cX11_image 66 = .ok (.iload_n 1, 1) := by decide +kernel
theorem dX11_image_67 : decode cX11_image 67 = .ok (.aload_n 0, 1) := by decide +kernel
theorem dX11_image_68 : decode cX11_image 68 = .ok (.getfield 24, 3) := by decide +kernel
theorem dX11_image_71 : decode cX11_image 71 = .ok (.iload_n 1, 1) := by decide +kernel
theorem dX11_image_72 : decode cX11_image 72 = .ok (.laload, 1) := by decide +kernel
theorem dX11_image_73 : decode cX11_image 73 = .ok (.lastore, 1) := by decide +kernel
theorem dX11_image_74 : decode cX11_image 74 = .ok (.iinc 1 1, 3) := by decide +kernel
theorem dX11_image_77 : decode cX11_image 77 = .ok (.goto (-21), 3) := by decide +kernel
theorem dX11_image_80 : decode cX11_image 80 = .ok (.aload_n 0, 1) := by decide +kernel
theorem dX11_image_81 : decode cX11_image 81 = .ok (.aload_n 0, 1) := by decide +kernel
theorem dX11_image_82 : decode cX11_image 82 = .ok (.getfield 80, 3) := by decide +kernel
theorem dX11_image_85 : decode cX11_image 85 = .ok (.putfield 296, 3) := by decide +kernel
theorem dX11_image_88 : decode cX11_image 88 = .ok (.aload_n 0, 1) := by decide +kernel
theorem dX11_image_89 : decode cX11_image 89 = .ok (.aload_n 0, 1) := by decide +kernel
theorem dX11_image_90 : decode cX11_image 90 = .ok (.getfield 275, 3) := by decide +kernel
theorem dX11_image_93 : decode cX11_image 93 = .ok (.putfield 299, 3) := by decide +kernel
theorem dX11_image_96 : decode cX11_image 96 = .ok (.aload_n 0, 1) := by decide +kernel
theorem dX11_image_97 : decode cX11_image 97 = .ok (.iconst 1, 1) := by decide +kernel
theorem dX11_image_98 : decode cX11_image 98 = .ok (.putfield 302, 3) := by decide +kernel
theorem dX11_image_101 : decode cX11_image 101 = .ok (.aload_n 0, 1) := by decide +kernel
theorem dX11_image_102 : decode cX11_image 102 = .ok (.getfield 11, 3) := by decide +kernel
theorem dX11_image_105 : decode cX11_image 105 = .ok (.iconst 5, 1) := by decide +kernel
theorem dX11_image_106 : decode cX11_image 106 = .ok (.iaload, 1) := by decide +kernel
theorem dX11_image_107 : decode cX11_image 107 = .ok (.ireturn, 1) := by decide +kernel
theorem dX11_undo_0 : decode cX11_undo 0 = .ok (.aload_n 0, 1) := by decide +kernel
theorem dX11_undo_1 : decode cX11_undo 1 = .ok (.getfield 302, 3) := by decide +kernel
theorem dX11_undo_4 : decode cX11_undo 4 = .ok (.ifCond .ne 6, 3) := by decide +kernel
theorem dX11_undo_7 : decode cX11_undo 7 = .ok (.bipush (-3), 2) := by decide +kernel
theorem dX11_undo_9 : decode cX11_undo 9 = .ok (.ireturn, 1) := by decide +kernel
theorem dX11_undo_10 : decode cX11_undo 10 = .ok (.iconst 0, 1) := by decide +kernel
theorem dX11_undo_11 : decode cX11_undo 11 = .ok (.istore_n 1, 1) := by decide +kernel
theorem dX11_undo_12 : decode cX11_undo 12 = .ok (.iload_n 1, 1) := by decide +kernel
theorem dX11_undo_13 : decode cX11_undo 13 = .ok (.sipush 187, 3) := by decide +kernel
theorem dX11_undo_16 : decode cX11_undo 16 = .ok (.if_icmp .ge 21, 3) := by decide +kernel
theorem dX11_undo_19 : decode cX11_undo 19 = .ok (.aload_n 0, 1) := by decide +kernel
theorem dX11_undo_20 : decode cX11_undo 20 = .ok (.getfield 11, 3) := by decide +kernel
theorem dX11_undo_23 : decode cX11_undo 23 = .ok (.iload_n 1, 1) := by decide +kernel
theorem dX11_undo_24 : decode cX11_undo 24 = .ok (.aload_n 0, 1) := by decide +kernel
theorem dX11_undo_25 : decode cX11_undo 25 = .ok (.getfield 18, 3) := by decide +kernel
theorem dX11_undo_28 : decode cX11_undo 28 = .ok (.iload_n 1, 1) := by decide +kernel
theorem dX11_undo_29 : decode cX11_undo 29 = .ok (.iaload, 1) := by decide +kernel
theorem dX11_undo_30 : decode cX11_undo 30 = .ok (.iastore, 1) := by decide +kernel
theorem dX11_undo_31 : decode cX11_undo 31 = .ok (.iinc 1 1, 3) := by decide +kernel
theorem dX11_undo_34 : decode cX11_undo 34 = .ok (.goto (-22), 3) := by decide +kernel
theorem dX11_undo_37 : decode cX11_undo 37 = .ok (.iconst 0, 1) := by decide +kernel
theorem dX11_undo_38 : decode cX11_undo 38 = .ok (.istore_n 1, 1) := by decide +kernel
theorem dX11_undo_39 : decode cX11_undo 39 = .ok (.iload_n 1, 1) := by decide +kernel
theorem dX11_undo_40 : decode cX11_undo 40 = .ok (.sipush 1600, 3) := by decide +kernel
theorem dX11_undo_43 : decode cX11_undo 43 = .ok (.if_icmp .ge 21, 3) := by decide +kernel
theorem dX11_undo_46 : decode cX11_undo 46 = .ok (.aload_n 0, 1) := by decide +kernel
theorem dX11_undo_47 : decode cX11_undo 47 = .ok (.getfield 15, 3) := by decide +kernel
theorem dX11_undo_50 : decode cX11_undo 50 = .ok (.iload_n 1, 1) := by decide +kernel
theorem dX11_undo_51 : decode cX11_undo 51 = .ok (.aload_n 0, 1) := by decide +kernel
theorem dX11_undo_52 : decode cX11_undo 52 = .ok (.getfield 21, 3) := by decide +kernel
theorem dX11_undo_55 : decode cX11_undo 55 = .ok (.iload_n 1, 1) := by decide +kernel
theorem dX11_undo_56 : decode cX11_undo 56 = .ok (.iaload, 1) := by decide +kernel
theorem dX11_undo_57 : decode cX11_undo 57 = .ok (.iastore, 1) := by decide +kernel
theorem dX11_undo_58 : decode cX11_undo 58 = .ok (.iinc 1 1, 3) := by decide +kernel
theorem dX11_undo_61 : decode cX11_undo 61 = .ok (.goto (-22), 3) := by decide +kernel
theorem dX11_undo_64 : decode cX11_undo 64 = .ok (.iconst 0, 1) := by decide +kernel
theorem dX11_undo_65 : decode cX11_undo 65 = .ok (.istore_n 1, 1) := by decide +kernel
theorem dX11_undo_66 : decode cX11_undo 66 = .ok (.iload_n 1, 1) := by decide +kernel
theorem dX11_undo_67 : decode cX11_undo 67 = .ok (.bipush 40, 2) := by decide +kernel
theorem dX11_undo_69 : decode cX11_undo 69 = .ok (.if_icmp .ge 21, 3) := by decide +kernel
theorem dX11_undo_72 : decode cX11_undo 72 = .ok (.aload_n 0, 1) := by decide +kernel
theorem dX11_undo_73 : decode cX11_undo 73 = .ok (.getfield 24, 3) := by decide +kernel
theorem dX11_undo_76 : decode cX11_undo 76 = .ok (.iload_n 1, 1) := by decide +kernel
theorem dX11_undo_77 : decode cX11_undo 77 = .ok (.aload_n 0, 1) := by decide +kernel
theorem dX11_undo_78 : decode cX11_undo 78 = .ok (.getfield 28, 3) := by decide +kernel
theorem dX11_undo_81 : decode cX11_undo 81 = .ok (.iload_n 1, 1) := by decide +kernel
theorem dX11_undo_82 : decode cX11_undo 82 = .ok (.laload, 1) := by decide +kernel
theorem dX11_undo_83 : decode cX11_undo 83 = .ok (.lastore, 1) := by decide +kernel
theorem dX11_undo_84 : decode cX11_undo 84 = .ok (.iinc 1 1, 3) := by decide +kernel
theorem dX11_undo_87 : decode cX11_undo 87 = .ok (.goto (-21), 3) := by decide +kernel
theorem dX11_undo_90 : decode cX11_undo 90 = .ok (.aload_n 0, 1) := by decide +kernel
theorem dX11_undo_91 : decode cX11_undo 91 = .ok (.aload_n 0, 1) := by decide +kernel
theorem dX11_undo_92 : decode cX11_undo 92 = .ok (.getfield 296, 3) := by decide +kernel
theorem dX11_undo_95 : decode cX11_undo 95 = .ok (.putfield 80, 3) := by decide +kernel
theorem dX11_undo_98 : decode cX11_undo 98 = .ok (.aload_n 0, 1) := by decide +kernel
theorem dX11_undo_99 : decode cX11_undo 99 = .ok (.aload_n 0, 1) := by decide +kernel
theorem dX11_undo_100 : decode cX11_undo 100 = .ok (.getfield 299, 3) := by decide +kernel
theorem dX11_undo_103 : decode cX11_undo 103 = .ok (.putfield 275, 3) := by decide +kernel
theorem dX11_undo_106 : decode cX11_undo 106 = .ok (.aload_n 0, 1) := by decide +kernel
theorem dX11_undo_107 : decode cX11_undo 107 = .ok (.getfield 11, 3) := by decide +kernel
theorem dX11_undo_110 : decode cX11_undo 110 = .ok (.iconst 5, 1) := by decide +kernel
theorem dX11_undo_111 : decode cX11_undo 111 = .ok (.iaload, 1) := by decide +kernel
theorem dX11_undo_112 : decode cX11_undo 112 = .ok (.ireturn, 1) := by decide +kernel
theorem dJ6_numberOfTrailingZeros_0f7a4_0 : decode cJ6_numberOfTrailingZeros_0f7a4 0 = .ok (.iload_n 0, 1) := by decide +kernel
theorem dJ6_numberOfTrailingZeros_0f7a4_1 : decode cJ6_numberOfTrailingZeros_0f7a4 1 = .ok (.iconst (-1), 1) := by decide +kernel
theorem dJ6_numberOfTrailingZeros_0f7a4_2 : decode cJ6_numberOfTrailingZeros_0f7a4 2 = .ok (.ixor, 1) := by decide +kernel
theorem dJ6_numberOfTrailingZeros_0f7a4_3 : decode cJ6_numberOfTrailingZeros_0f7a4 3 = .ok (.iload_n 0, 1) := by decide +kernel
theorem dJ6_numberOfTrailingZeros_0f7a4_4 : decode cJ6_numberOfTrailingZeros_0f7a4 4 = .ok (.iconst 1, 1) := by decide +kernel
theorem dJ6_numberOfTrailingZeros_0f7a4_5 : decode cJ6_numberOfTrailingZeros_0f7a4 5 = .ok (.isub, 1) := by decide +kernel
theorem dJ6_numberOfTrailingZeros_0f7a4_6 : decode cJ6_numberOfTrailingZeros_0f7a4 6 = .ok (.iand, 1) := by decide +kernel
theorem dJ6_numberOfTrailingZeros_0f7a4_7 : decode cJ6_numberOfTrailingZeros_0f7a4 7 = .ok (.istore_n 0, 1) := by decide +kernel
theorem dJ6_numberOfTrailingZeros_0f7a4_8 : decode cJ6_numberOfTrailingZeros_0f7a4 8 = .ok (.iload_n 0, 1) := by decide +kernel
theorem dJ6_numberOfTrailingZeros_0f7a4_9 : decode cJ6_numberOfTrailingZeros_0f7a4 9 = .ok (.ifCond .gt 8, 3) := by decide +kernel
theorem dJ6_numberOfTrailingZeros_0f7a4_12 : decode cJ6_numberOfTrailingZeros_0f7a4 12 = .ok (.iload_n 0, 1) := by decide +kernel
theorem dJ6_numberOfTrailingZeros_0f7a4_13 : decode cJ6_numberOfTrailingZeros_0f7a4 13 = .ok (.bipush 32, 2) := by decide +kernel
theorem dJ6_numberOfTrailingZeros_0f7a4_15 : decode cJ6_numberOfTrailingZeros_0f7a4 15 = .ok (.iand, 1) := by decide +kernel
theorem dJ6_numberOfTrailingZeros_0f7a4_16 : decode cJ6_numberOfTrailingZeros_0f7a4 16 = .ok (.ireturn, 1) := by decide +kernel
theorem dJ6_numberOfTrailingZeros_0f7a4_17 : decode cJ6_numberOfTrailingZeros_0f7a4 17 = .ok (.iconst 1, 1) := by decide +kernel
theorem dJ6_numberOfTrailingZeros_0f7a4_18 : decode cJ6_numberOfTrailingZeros_0f7a4 18 = .ok (.istore_n 1, 1) := by decide +kernel
theorem dJ6_numberOfTrailingZeros_0f7a4_19 : decode cJ6_numberOfTrailingZeros_0f7a4 19 = .ok (.iload_n 0, 1) := by decide +kernel
theorem dJ6_numberOfTrailingZeros_0f7a4_20 : decode cJ6_numberOfTrailingZeros_0f7a4 20 = .ok (.ldc_w 264, 3) := by decide +kernel
theorem dJ6_numberOfTrailingZeros_0f7a4_23 : decode cJ6_numberOfTrailingZeros_0f7a4 23 = .ok (.if_icmp .le 11, 3) := by decide +kernel
theorem dJ6_numberOfTrailingZeros_0f7a4_26 : decode cJ6_numberOfTrailingZeros_0f7a4 26 = .ok (.iinc 1 16, 3) := by decide +kernel
theorem dJ6_numberOfTrailingZeros_0f7a4_29 : decode cJ6_numberOfTrailingZeros_0f7a4 29 = .ok (.iload_n 0, 1) := by decide +kernel
theorem dJ6_numberOfTrailingZeros_0f7a4_30 : decode cJ6_numberOfTrailingZeros_0f7a4 30 = .ok (.bipush 16, 2) := by decide +kernel
theorem dJ6_numberOfTrailingZeros_0f7a4_32 : decode cJ6_numberOfTrailingZeros_0f7a4 32 = .ok (.iushr, 1) := by decide +kernel
theorem dJ6_numberOfTrailingZeros_0f7a4_33 : decode cJ6_numberOfTrailingZeros_0f7a4 33 = .ok (.istore_n 0, 1) := by decide +kernel
theorem dJ6_numberOfTrailingZeros_0f7a4_34 : decode cJ6_numberOfTrailingZeros_0f7a4 34 = .ok (.iload_n 0, 1) := by decide +kernel
theorem dJ6_numberOfTrailingZeros_0f7a4_35 : decode cJ6_numberOfTrailingZeros_0f7a4 35 = .ok (.sipush 256, 3) := by decide +kernel
theorem dJ6_numberOfTrailingZeros_0f7a4_38 : decode cJ6_numberOfTrailingZeros_0f7a4 38 = .ok (.if_icmp .le 11, 3) := by decide +kernel
theorem dJ6_numberOfTrailingZeros_0f7a4_41 : decode cJ6_numberOfTrailingZeros_0f7a4 41 = .ok (.iinc 1 8, 3) := by decide +kernel
theorem dJ6_numberOfTrailingZeros_0f7a4_44 : decode cJ6_numberOfTrailingZeros_0f7a4 44 = .ok (.iload_n 0, 1) := by decide +kernel
theorem dJ6_numberOfTrailingZeros_0f7a4_45 : decode cJ6_numberOfTrailingZeros_0f7a4 45 = .ok (.bipush 8, 2) := by decide +kernel
theorem dJ6_numberOfTrailingZeros_0f7a4_47 : decode cJ6_numberOfTrailingZeros_0f7a4 47 = .ok (.iushr, 1) := by decide +kernel
theorem dJ6_numberOfTrailingZeros_0f7a4_48 : decode cJ6_numberOfTrailingZeros_0f7a4 48 = .ok (.istore_n 0, 1) := by decide +kernel
theorem dJ6_numberOfTrailingZeros_0f7a4_49 : decode cJ6_numberOfTrailingZeros_0f7a4 49 = .ok (.iload_n 0, 1) := by decide +kernel
theorem dJ6_numberOfTrailingZeros_0f7a4_50 : decode cJ6_numberOfTrailingZeros_0f7a4 50 = .ok (.bipush 16, 2) := by decide +kernel
theorem dJ6_numberOfTrailingZeros_0f7a4_52 : decode cJ6_numberOfTrailingZeros_0f7a4 52 = .ok (.if_icmp .le 10, 3) := by decide +kernel
theorem dJ6_numberOfTrailingZeros_0f7a4_55 : decode cJ6_numberOfTrailingZeros_0f7a4 55 = .ok (.iinc 1 4, 3) := by decide +kernel
theorem dJ6_numberOfTrailingZeros_0f7a4_58 : decode cJ6_numberOfTrailingZeros_0f7a4 58 = .ok (.iload_n 0, 1) := by decide +kernel
theorem dJ6_numberOfTrailingZeros_0f7a4_59 : decode cJ6_numberOfTrailingZeros_0f7a4 59 = .ok (.iconst 4, 1) := by decide +kernel
theorem dJ6_numberOfTrailingZeros_0f7a4_60 : decode cJ6_numberOfTrailingZeros_0f7a4 60 = .ok (.iushr, 1) := by decide +kernel
theorem dJ6_numberOfTrailingZeros_0f7a4_61 : decode cJ6_numberOfTrailingZeros_0f7a4 61 = .ok (.istore_n 0, 1) := by decide +kernel
theorem dJ6_numberOfTrailingZeros_0f7a4_62 : decode cJ6_numberOfTrailingZeros_0f7a4 62 = .ok (.iload_n 0, 1) := by decide +kernel
theorem dJ6_numberOfTrailingZeros_0f7a4_63 : decode cJ6_numberOfTrailingZeros_0f7a4 63 = .ok (.iconst 4, 1) := by decide +kernel
theorem dJ6_numberOfTrailingZeros_0f7a4_64 : decode cJ6_numberOfTrailingZeros_0f7a4 64 = .ok (.if_icmp .le 10, 3) := by decide +kernel
theorem dJ6_numberOfTrailingZeros_0f7a4_67 : decode cJ6_numberOfTrailingZeros_0f7a4 67 = .ok (.iinc 1 2, 3) := by decide +kernel
theorem dJ6_numberOfTrailingZeros_0f7a4_70 : decode cJ6_numberOfTrailingZeros_0f7a4 70 = .ok (.iload_n 0, 1) := by decide +kernel
theorem dJ6_numberOfTrailingZeros_0f7a4_71 : decode cJ6_numberOfTrailingZeros_0f7a4 71 = .ok (.iconst 2, 1) := by decide +kernel
theorem dJ6_numberOfTrailingZeros_0f7a4_72 : decode cJ6_numberOfTrailingZeros_0f7a4 72 = .ok (.iushr, 1) := by decide +kernel
theorem dJ6_numberOfTrailingZeros_0f7a4_73 : decode cJ6_numberOfTrailingZeros_0f7a4 73 = .ok (.istore_n 0, 1) := by decide +kernel
theorem dJ6_numberOfTrailingZeros_0f7a4_74 : decode cJ6_numberOfTrailingZeros_0f7a4 74 = .ok (.iload_n 1, 1) := by decide +kernel
theorem dJ6_numberOfTrailingZeros_0f7a4_75 : decode cJ6_numberOfTrailingZeros_0f7a4 75 = .ok (.iload_n 0, 1) := by decide +kernel
theorem dJ6_numberOfTrailingZeros_0f7a4_76 : decode cJ6_numberOfTrailingZeros_0f7a4 76 = .ok (.iconst 1, 1) := by decide +kernel
theorem dJ6_numberOfTrailingZeros_0f7a4_77 : decode cJ6_numberOfTrailingZeros_0f7a4 77 = .ok (.iushr, 1) := by decide +kernel
theorem dJ6_numberOfTrailingZeros_0f7a4_78 : decode cJ6_numberOfTrailingZeros_0f7a4 78 = .ok (.iadd, 1) := by decide +kernel
theorem dJ6_numberOfTrailingZeros_0f7a4_79 : decode cJ6_numberOfTrailingZeros_0f7a4 79 = .ok (.ireturn, 1) := by decide +kernel
theorem dJ13_numberOfTrailingZeros_95d88_0 : decode cJ13_numberOfTrailingZeros_95d88 0 = .ok (.lload_n 0, 1) := by decide +kernel
theorem dJ13_numberOfTrailingZeros_95d88_1 : decode cJ13_numberOfTrailingZeros_95d88 1 = .ok (.l2i, 1) := by decide +kernel
theorem dJ13_numberOfTrailingZeros_95d88_2 : decode cJ13_numberOfTrailingZeros_95d88 2 = .ok (.istore_n 2, 1) := by decide +kernel
theorem dJ13_numberOfTrailingZeros_95d88_3 : decode cJ13_numberOfTrailingZeros_95d88 3 = .ok (.iload_n 2, 1) := by decide +kernel
theorem dJ13_numberOfTrailingZeros_95d88_4 : decode cJ13_numberOfTrailingZeros_95d88 4 = .ok (.ifCond .ne 17, 3) := by decide +kernel
theorem dJ13_numberOfTrailingZeros_95d88_7 : decode cJ13_numberOfTrailingZeros_95d88 7 = .ok (.bipush 32, 2) := by decide +kernel
theorem dJ13_numberOfTrailingZeros_95d88_9 : decode cJ13_numberOfTrailingZeros_95d88 9 = .ok (.lload_n 0, 1) := by decide +kernel
theorem dJ13_numberOfTrailingZeros_95d88_10 : decode cJ13_numberOfTrailingZeros_95d88 10 = .ok (.bipush 32, 2) := by decide +kernel
theorem dJ13_numberOfTrailingZeros_95d88_12 : decode cJ13_numberOfTrailingZeros_95d88 12 = .ok (.lushr, 1) := by decide +kernel
theorem dJ13_numberOfTrailingZeros_95d88_13 : decode cJ13_numberOfTrailingZeros_95d88 13 = .ok (.l2i, 1) := by decide +kernel
theorem dJ13_numberOfTrailingZeros_95d88_14 : decode cJ13_numberOfTrailingZeros_95d88 14 = .ok (.invokestatic 311, 3) := by decide +kernel
theorem dJ13_numberOfTrailingZeros_95d88_17 : decode cJ13_numberOfTrailingZeros_95d88 17 = .ok (.iadd, 1) := by decide +kernel
theorem dJ13_numberOfTrailingZeros_95d88_18 : decode cJ13_numberOfTrailingZeros_95d88 18 = .ok (.goto 7, 3) := by decide +kernel
theorem dJ13_numberOfTrailingZeros_95d88_21 : decode cJ13_numberOfTrailingZeros_95d88 21 = .ok (.iload_n 2, 1) := by decide +kernel
theorem dJ13_numberOfTrailingZeros_95d88_22 : decode cJ13_numberOfTrailingZeros_95d88 22 = .ok (.invokestatic 311, 3) := by decide +kernel
theorem dJ13_numberOfTrailingZeros_95d88_25 : decode cJ13_numberOfTrailingZeros_95d88 25 = .ok (.ireturn, 1) := by decide +kernel
theorem dJ13_bitCount_95d88_0 : decode cJ13_bitCount_95d88 0 = .ok (.lload_n 0, 1) := by decide +kernel
theorem dJ13_bitCount_95d88_1 : decode cJ13_bitCount_95d88 1 = .ok (.lload_n 0, 1) := by decide +kernel
theorem dJ13_bitCount_95d88_2 : decode cJ13_bitCount_95d88 2 = .ok (.iconst 1, 1) := by decide +kernel
theorem dJ13_bitCount_95d88_3 : decode cJ13_bitCount_95d88 3 = .ok (.lushr, 1) := by decide +kernel
theorem dJ13_bitCount_95d88_4 : decode cJ13_bitCount_95d88 4 = .ok (.ldc2_w 314, 3) := by decide +kernel
theorem dJ13_bitCount_95d88_7 : decode cJ13_bitCount_95d88 7 = .ok (.land, 1) := by decide +kernel
theorem dJ13_bitCount_95d88_8 : decode cJ13_bitCount_95d88 8 = .ok (.lsub, 1) := by decide +kernel
theorem dJ13_bitCount_95d88_9 : decode cJ13_bitCount_95d88 9 = .ok (.lstore_n 0, 1) := by decide +kernel
theorem dJ13_bitCount_95d88_10 : decode cJ13_bitCount_95d88 10 = .ok (.lload_n 0, 1) := by decide +kernel
theorem dJ13_bitCount_95d88_11 : decode cJ13_bitCount_95d88 11 = .ok (.ldc2_w 316, 3) := by decide +kernel
theorem dJ13_bitCount_95d88_14 : decode cJ13_bitCount_95d88 14 = .ok (.land, 1) := by decide +kernel
theorem dJ13_bitCount_95d88_15 : decode cJ13_bitCount_95d88 15 = .ok (.lload_n 0, 1) := by decide +kernel
theorem dJ13_bitCount_95d88_16 : decode cJ13_bitCount_95d88 16 = .ok (.iconst 2, 1) := by decide +kernel
theorem dJ13_bitCount_95d88_17 : decode cJ13_bitCount_95d88 17 = .ok (.lushr, 1) := by decide +kernel
theorem dJ13_bitCount_95d88_18 : decode cJ13_bitCount_95d88 18 = .ok (.ldc2_w 316, 3) := by decide +kernel
theorem dJ13_bitCount_95d88_21 : decode cJ13_bitCount_95d88 21 = .ok (.land, 1) := by decide +kernel
theorem dJ13_bitCount_95d88_22 : decode cJ13_bitCount_95d88 22 = .ok (.ladd, 1) := by decide +kernel
theorem dJ13_bitCount_95d88_23 : decode cJ13_bitCount_95d88 23 = .ok (.lstore_n 0, 1) := by decide +kernel
theorem dJ13_bitCount_95d88_24 : decode cJ13_bitCount_95d88 24 = .ok (.lload_n 0, 1) := by decide +kernel
theorem dJ13_bitCount_95d88_25 : decode cJ13_bitCount_95d88 25 = .ok (.lload_n 0, 1) := by decide +kernel
theorem dJ13_bitCount_95d88_26 : decode cJ13_bitCount_95d88 26 = .ok (.iconst 4, 1) := by decide +kernel
theorem dJ13_bitCount_95d88_27 : decode cJ13_bitCount_95d88 27 = .ok (.lushr, 1) := by decide +kernel
theorem dJ13_bitCount_95d88_28 : decode cJ13_bitCount_95d88 28 = .ok (.ladd, 1) := by decide +kernel
theorem dJ13_bitCount_95d88_29 : decode cJ13_bitCount_95d88 29 = .ok (.ldc2_w 318, 3) := by decide +kernel
theorem dJ13_bitCount_95d88_32 : decode cJ13_bitCount_95d88 32 = .ok (.land, 1) := by decide +kernel
theorem dJ13_bitCount_95d88_33 : decode cJ13_bitCount_95d88 33 = .ok (.lstore_n 0, 1) := by decide +kernel
theorem dJ13_bitCount_95d88_34 : decode cJ13_bitCount_95d88 34 = .ok (.lload_n 0, 1) := by decide +kernel
theorem dJ13_bitCount_95d88_35 : decode cJ13_bitCount_95d88 35 = .ok (.lload_n 0, 1) := by decide +kernel
theorem dJ13_bitCount_95d88_36 : decode cJ13_bitCount_95d88 36 = .ok (.bipush 8, 2) := by decide +kernel
theorem dJ13_bitCount_95d88_38 : decode cJ13_bitCount_95d88 38 = .ok (.lushr, 1) := by decide +kernel
theorem dJ13_bitCount_95d88_39 : decode cJ13_bitCount_95d88 39 = .ok (.ladd, 1) := by decide +kernel
theorem dJ13_bitCount_95d88_40 : decode cJ13_bitCount_95d88 40 = .ok (.lstore_n 0, 1) := by decide +kernel
theorem dJ13_bitCount_95d88_41 : decode cJ13_bitCount_95d88 41 = .ok (.lload_n 0, 1) := by decide +kernel
theorem dJ13_bitCount_95d88_42 : decode cJ13_bitCount_95d88 42 = .ok (.lload_n 0, 1) := by decide +kernel
theorem dJ13_bitCount_95d88_43 : decode cJ13_bitCount_95d88 43 = .ok (.bipush 16, 2) := by decide +kernel
theorem dJ13_bitCount_95d88_45 : decode cJ13_bitCount_95d88 45 = .ok (.lushr, 1) := by decide +kernel
theorem dJ13_bitCount_95d88_46 : decode cJ13_bitCount_95d88 46 = .ok (.ladd, 1) := by decide +kernel
theorem dJ13_bitCount_95d88_47 : decode cJ13_bitCount_95d88 47 = .ok (.lstore_n 0, 1) := by decide +kernel
theorem dJ13_bitCount_95d88_48 : decode cJ13_bitCount_95d88 48 = .ok (.lload_n 0, 1) := by decide +kernel
theorem dJ13_bitCount_95d88_49 : decode cJ13_bitCount_95d88 49 = .ok (.lload_n 0, 1) := by decide +kernel
theorem dJ13_bitCount_95d88_50 : decode cJ13_bitCount_95d88 50 = .ok (.bipush 32, 2) := by decide +kernel
theorem dJ13_bitCount_95d88_52 : decode cJ13_bitCount_95d88 52 = .ok (.lushr, 1) := by decide +kernel
theorem dJ13_bitCount_95d88_53 : decode cJ13_bitCount_95d88 53 = .ok (.ladd, 1) := by decide +kernel
theorem dJ13_bitCount_95d88_54 : decode cJ13_bitCount_95d88 54 = .ok (.lstore_n 0, 1) := by decide +kernel
theorem dJ13_bitCount_95d88_55 : decode cJ13_bitCount_95d88 55 = .ok (.lload_n 0, 1) := by decide +kernel
theorem dJ13_bitCount_95d88_56 : decode cJ13_bitCount_95d88 56 = .ok (.l2i, 1) := by decide +kernel
theorem dJ13_bitCount_95d88_57 : decode cJ13_bitCount_95d88 57 = .ok (.bipush 127, 2) := by decide +kernel
theorem dJ13_bitCount_95d88_59 : decode cJ13_bitCount_95d88 59 = .ok (.iand, 1) := by decide +kernel
theorem dJ13_bitCount_95d88_60 : decode cJ13_bitCount_95d88 60 = .ok (.ireturn, 1) := by decide +kernel
theorem dJ9_abs_0f7a4_0 : decode cJ9_abs_0f7a4 0 = .ok (.iload_n 0, 1) := by decide +kernel
theorem dJ9_abs_0f7a4_1 : decode cJ9_abs_0f7a4 1 = .ok (.ifCond .ge 8, 3) := by decide +kernel
theorem dJ9_abs_0f7a4_4 : decode cJ9_abs_0f7a4 4 = .ok (.iload_n 0, 1) := by decide +kernel
theorem dJ9_abs_0f7a4_5 : decode cJ9_abs_0f7a4 5 = .ok (.ineg, 1) := by decide +kernel
theorem dJ9_abs_0f7a4_6 : decode cJ9_abs_0f7a4 6 = .ok (.goto 4, 3) := by decide +kernel
theorem dJ9_abs_0f7a4_9 : decode cJ9_abs_0f7a4 9 = .ok (.iload_n 0, 1) := by decide +kernel
theorem dJ9_abs_0f7a4_10 : decode cJ9_abs_0f7a4 10 = .ok (.ireturn, 1) := by decide +kernel
theorem dJ9_max_7cf53_0 : decode cJ9_max_7cf53 0 = .ok (.iload_n 0, 1) := by decide +kernel
theorem dJ9_max_7cf53_1 : decode cJ9_max_7cf53 1 = .ok (.iload_n 1, 1) := by decide +kernel
theorem dJ9_max_7cf53_2 : decode cJ9_max_7cf53 2 = .ok (.if_icmp .lt 7, 3) := by decide +kernel
theorem dJ9_max_7cf53_5 : decode cJ9_max_7cf53 5 = .ok (.iload_n 0, 1) := by decide +kernel
theorem dJ9_max_7cf53_6 : decode cJ9_max_7cf53 6 = .ok (.goto 4, 3) := by decide +kernel
theorem dJ9_max_7cf53_9 : decode cJ9_max_7cf53 9 = .ok (.iload_n 1, 1) := by decide +kernel
theorem dJ9_max_7cf53_10 : decode cJ9_max_7cf53 10 = .ok (.ireturn, 1) := by decide +kernel
theorem dJ9_min_7cf53_0 : decode cJ9_min_7cf53 0 = .ok (.iload_n 0, 1) := by decide +kernel
theorem dJ9_min_7cf53_1 : decode cJ9_min_7cf53 1 = .ok (.iload_n 1, 1) := by decide +kernel
theorem dJ9_min_7cf53_2 : decode cJ9_min_7cf53 2 = .ok (.if_icmp .gt 7, 3) := by decide +kernel
theorem dJ9_min_7cf53_5 : decode cJ9_min_7cf53 5 = .ok (.iload_n 0, 1) := by decide +kernel
theorem dJ9_min_7cf53_6 : decode cJ9_min_7cf53 6 = .ok (.goto 4, 3) := by decide +kernel
theorem dJ9_min_7cf53_9 : decode cJ9_min_7cf53 9 = .ok (.iload_n 1, 1) := by decide +kernel
theorem dJ9_min_7cf53_10 : decode cJ9_min_7cf53 10 = .ok (.ireturn, 1) := by decide +kernel
theorem dJ7_fill_d0a16_0 : decode cJ7_fill_d0a16 0 = .ok (.iconst 0, 1) := by decide +kernel
theorem dJ7_fill_d0a16_1 : decode cJ7_fill_d0a16 1 = .ok (.istore_n 3, 1) := by decide +kernel
theorem dJ7_fill_d0a16_2 : decode cJ7_fill_d0a16 2 = .ok (.aload_n 0, 1) := by decide +kernel
theorem dJ7_fill_d0a16_3 : decode cJ7_fill_d0a16 3 = .ok (.arraylength, 1) := by decide +kernel
theorem dJ7_fill_d0a16_4 : decode cJ7_fill_d0a16 4 = .ok (.istore 4, 2) := by decide +kernel
theorem dJ7_fill_d0a16_6 : decode cJ7_fill_d0a16 6 = .ok (.iload_n 3, 1) := by decide +kernel
theorem dJ7_fill_d0a16_7 : decode cJ7_fill_d0a16 7 = .ok (.iload 4, 2) := by decide +kernel
theorem dJ7_fill_d0a16_9 : decode cJ7_fill_d0a16 9 = .ok (.if_icmp .ge 13, 3) := by decide +kernel
theorem dJ7_fill_d0a16_12 : decode cJ7_fill_d0a16 12 = .ok (.aload_n 0, 1) := by decide +kernel
theorem dJ7_fill_d0a16_13 : decode cJ7_fill_d0a16 13 = .ok (.iload_n 3, 1) := by decide +kernel
theorem dJ7_fill_d0a16_14 : decode cJ7_fill_d0a16 14 = .ok (.lload_n 1, 1) := by decide +kernel
theorem dJ7_fill_d0a16_15 : decode cJ7_fill_d0a16 15 = .ok (.lastore, 1) := by decide +kernel
theorem dJ7_fill_d0a16_16 : decode cJ7_fill_d0a16 16 = .ok (.iinc 3 1, 3) := by decide +kernel
theorem dJ7_fill_d0a16_19 : decode cJ7_fill_d0a16 19 = .ok (.goto (-13), 3) := by decide +kernel
theorem dJ7_fill_d0a16_22 : decode cJ7_fill_d0a16 22 = .ok (.return_, 1) := by decide +kernel
theorem dJ7_fill_53178_0 : decode cJ7_fill_53178 0 = .ok (.iconst 0, 1) := by decide +kernel
theorem dJ7_fill_53178_1 : decode cJ7_fill_53178 1 = .ok (.istore_n 2, 1) := by decide +kernel
theorem dJ7_fill_53178_2 : decode cJ7_fill_53178 2 = .ok (.aload_n 0, 1) := by decide +kernel
theorem dJ7_fill_53178_3 : decode cJ7_fill_53178 3 = .ok (.arraylength, 1) := by decide +kernel
theorem dJ7_fill_53178_4 : decode cJ7_fill_53178 4 = .ok (.istore_n 3, 1) := by decide +kernel
theorem dJ7_fill_53178_5 : decode cJ7_fill_53178 5 = .ok (.iload_n 2, 1) := by decide +kernel
theorem dJ7_fill_53178_6 : decode cJ7_fill_53178 6 = .ok (.iload_n 3, 1) := by decide +kernel
theorem dJ7_fill_53178_7 : decode cJ7_fill_53178 7 = .ok (.if_icmp .ge 13, 3) := by decide +kernel
theorem dJ7_fill_53178_10 : decode cJ7_fill_53178 10 = .ok (.aload_n 0, 1) := by decide +kernel
theorem dJ7_fill_53178_11 : decode cJ7_fill_53178 11 = .ok (.iload_n 2, 1) := by decide +kernel
theorem dJ7_fill_53178_12 : decode cJ7_fill_53178 12 = .ok (.iload_n 1, 1) := by decide +kernel
theorem dJ7_fill_53178_13 : decode cJ7_fill_53178 13 = .ok (.iastore, 1) := by decide +kernel
theorem dJ7_fill_53178_14 : decode cJ7_fill_53178 14 = .ok (.iinc 2 1, 3) := by decide +kernel
theorem dJ7_fill_53178_17 : decode cJ7_fill_53178 17 = .ok (.goto (-12), 3) := by decide +kernel
theorem dJ7_fill_53178_20 : decode cJ7_fill_53178 20 = .ok (.return_, 1) := by decide +kernel
theorem dJ7_copyOf_9075b_0 : decode cJ7_copyOf_9075b 0 = .ok (.iload_n 1, 1) := by decide +kernel
theorem dJ7_copyOf_9075b_1 : decode cJ7_copyOf_9075b 1 = .ok (.aload_n 0, 1) := by decide +kernel
theorem dJ7_copyOf_9075b_2 : decode cJ7_copyOf_9075b 2 = .ok (.arraylength, 1) := by decide +kernel
theorem dJ7_copyOf_9075b_3 : decode cJ7_copyOf_9075b 3 = .ok (.if_icmp .ne 11, 3) := by decide +kernel
theorem dJ7_copyOf_9075b_6 : decode cJ7_copyOf_9075b 6 = .ok (.aload_n 0, 1) := by decide +kernel
theorem dJ7_copyOf_9075b_7 : decode cJ7_copyOf_9075b 7 = .ok (.invokevirtual 310, 3) := by decide +kernel
theorem dJ7_copyOf_9075b_10 : decode cJ7_copyOf_9075b 10 = .ok (.checkcast 311, 3) := by decide +kernel
theorem dJ7_copyOf_9075b_13 : decode cJ7_copyOf_9075b 13 = .ok (.areturn, 1) := by decide +kernel
theorem dJ7_copyOf_9075b_14 : decode cJ7_copyOf_9075b 14 = .ok (.iload_n 1, 1) := by decide +kernel
theorem dJ7_copyOf_9075b_15 : decode cJ7_copyOf_9075b 15 = .ok (.newarray .byte, 2) := by decide +kernel
theorem dJ7_copyOf_9075b_17 : decode cJ7_copyOf_9075b 17 = .ok (.astore_n 2, 1) := by decide +kernel
theorem dJ7_copyOf_9075b_18 : decode cJ7_copyOf_9075b 18 = .ok (.aload_n 0, 1) := by decide +kernel
theorem dJ7_copyOf_9075b_19 : decode cJ7_copyOf_9075b 19 = .ok (.iconst 0, 1) := by decide +kernel
theorem dJ7_copyOf_9075b_20 : decode cJ7_copyOf_9075b 20 = .ok (.aload_n 2, 1) := by decide +kernel
theorem dJ7_copyOf_9075b_21 : decode cJ7_copyOf_9075b 21 = .ok (.iconst 0, 1) := by decide +kernel
theorem dJ7_copyOf_9075b_22 : decode cJ7_copyOf_9075b 22 = .ok (.aload_n 0, 1) := by decide +kernel
theorem dJ7_copyOf_9075b_23 : decode cJ7_copyOf_9075b 23 = .ok (.arraylength, 1) := by decide +kernel
theorem dJ7_copyOf_9075b_24 : decode cJ7_copyOf_9075b 24 = .ok (.iload_n 1, 1) := by decide +kernel
theorem dJ7_copyOf_9075b_25 : decode cJ7_copyOf_9075b 25 = .ok (.invokestatic 304, 3) := by decide +kernel
theorem dJ7_copyOf_9075b_28 : decode cJ7_copyOf_9075b 28 = .ok (.invokestatic 150, 3) := by decide +kernel
theorem dJ7_copyOf_9075b_31 : decode cJ7_copyOf_9075b 31 = .ok (.aload_n 2, 1) := by decide +kernel
theorem dJ7_copyOf_9075b_32 : decode cJ7_copyOf_9075b 32 = .ok (.areturn, 1) := by decide +kernel
theorem dL_law_0 : decode cL_law 0 = .ok (.new 7, 3) := by decide +kernel
theorem dL_law_3 : decode cL_law 3 = .ok (.dup, 1) := by decide +kernel
theorem dL_law_4 : decode cL_law 4 = .ok (.invokespecial 9, 3) := by decide +kernel
theorem dL_law_7 : decode cL_law 7 = .ok (.astore_n 1, 1) := by decide +kernel
theorem dL_law_8 : decode cL_law 8 = .ok (.new 10, 3) := by decide +kernel
theorem dL_law_11 : decode cL_law 11 = .ok (.dup, 1) := by decide +kernel
theorem dL_law_12 : decode cL_law 12 = .ok (.invokespecial 12, 3) := by decide +kernel
theorem dL_law_15 : decode cL_law 15 = .ok (.astore_n 2, 1) := by decide +kernel
theorem dL_law_16 : decode cL_law 16 = .ok (.iconst 0, 1) := by decide +kernel
theorem dL_law_17 : decode cL_law 17 = .ok (.istore_n 3, 1) := by decide +kernel
theorem dL_law_18 : decode cL_law 18 = .ok (.iload_n 3, 1) := by decide +kernel
theorem dL_law_19 : decode cL_law 19 = .ok (.aload_n 0, 1) := by decide +kernel
theorem dL_law_20 : decode cL_law 20 = .ok (.arraylength, 1) := by decide +kernel
theorem dL_law_21 : decode cL_law 21 = .ok (.bipush 6, 2) := by decide +kernel
theorem dL_law_23 : decode cL_law 23 = .ok (.isub, 1) := by decide +kernel
theorem dL_law_24 : decode cL_law 24 = .ok (.if_icmp .gt 1203, 3) := by decide +kernel
theorem dL_law_27 : decode cL_law 27 = .ok (.aload_n 0, 1) := by decide +kernel
theorem dL_law_28 : decode cL_law 28 = .ok (.iload_n 3, 1) := by decide +kernel
theorem dL_law_29 : decode cL_law 29 = .ok (.iaload, 1) := by decide +kernel
theorem dL_law_30 : decode cL_law 30 = .ok (.bipush 63, 2) := by decide +kernel
theorem dL_law_32 : decode cL_law 32 = .ok (.iand, 1) := by decide +kernel
theorem dL_law_33 : decode cL_law 33 = .ok (.tableswitch 1188 0 34 #[155, 198, 231, 265, 298, 341, 384, 437, 461, 485, 508, 531, 574, 597, 621, 654, 688, 702, 725, 738, 761, 774, 787, 800, 814, 827, 850, 873, 906, 979, 1013, 1076, 1119, 1162, 1175], 155) := by decide +kernel
theorem dL_law_188 : decode cL_law 188 = .ok (.aload_n 1, 1) := by decide +kernel
theorem dL_law_189 : decode cL_law 189 = .ok (.aload_n 0, 1) := by decide +kernel
theorem dL_law_190 : decode cL_law 190 = .ok (.iload_n 3, 1) := by decide +kernel
theorem dL_law_191 : decode cL_law 191 = .ok (.iconst 1, 1) := by decide +kernel
theorem dL_law_192 : decode cL_law 192 = .ok (.iadd, 1) := by decide +kernel
theorem dL_law_193 : decode cL_law 193 = .ok (.iaload, 1) := by decide +kernel
theorem dL_law_194 : decode cL_law 194 = .ok (.aload_n 0, 1) := by decide +kernel
theorem dL_law_195 : decode cL_law 195 = .ok (.iload_n 3, 1) := by decide +kernel
theorem dL_law_196 : decode cL_law 196 = .ok (.iconst 2, 1) := by decide +kernel
theorem dL_law_197 : decode cL_law 197 = .ok (.iadd, 1) := by decide +kernel
theorem dL_law_198 : decode cL_law 198 = .ok (.iaload, 1) := by decide +kernel
theorem dL_law_199 : decode cL_law 199 = .ok (.aload_n 0, 1) := by decide +kernel
theorem dL_law_200 : decode cL_law 200 = .ok (.iload_n 3, 1) := by decide +kernel
theorem dL_law_201 : decode cL_law 201 = .ok (.iconst 3, 1) := by decide +kernel
theorem dL_law_202 : decode cL_law 202 = .ok (.iadd, 1) := by decide +kernel
theorem dL_law_203 : decode cL_law 203 = .ok (.iaload, 1) := by decide +kernel
theorem dL_law_204 : decode cL_law 204 = .ok (.invokevirtual 13, 3) := by decide +kernel
theorem dL_law_207 : decode cL_law 207 = .ok (.aload_n 2, 1) := by decide +kernel
theorem dL_law_208 : decode cL_law 208 = .ok (.aload_n 0, 1) := by decide +kernel
theorem dL_law_209 : decode cL_law 209 = .ok (.iload_n 3, 1) := by decide +kernel
theorem dL_law_210 : decode cL_law 210 = .ok (.iconst 1, 1) := by decide +kernel
theorem dL_law_211 : decode cL_law 211 = .ok (.iadd, 1) := by decide +kernel
theorem dL_law_212 : decode cL_law 212 = .ok (.iaload, 1) := by decide +kernel
theorem dL_law_213 : decode cL_law 213 = .ok (.aload_n 0, 1) := by decide +kernel
theorem dL_law_214 : decode cL_law 214 = .ok (.iload_n 3, 1) := by decide +kernel
theorem dL_law_215 : decode cL_law 215 = .ok (.iconst 2, 1) := by decide +kernel
theorem dL_law_216 : decode cL_law 216 = .ok (.iadd, 1) := by decide +kernel
theorem dL_law_217 : decode cL_law 217 = .ok (.iaload, 1) := by decide +kernel
theorem dL_law_218 : decode cL_law 218 = .ok (.aload_n 0, 1) := by decide +kernel
theorem dL_law_219 : decode cL_law 219 = .ok (.iload_n 3, 1) := by decide +kernel
theorem dL_law_220 : decode cL_law 220 = .ok (.iconst 3, 1) := by decide +kernel
theorem dL_law_221 : decode cL_law 221 = .ok (.iadd, 1) := by decide +kernel
theorem dL_law_222 : decode cL_law 222 = .ok (.iaload, 1) := by decide +kernel
theorem dL_law_223 : decode cL_law 223 = .ok (.invokevirtual 17, 3) := by decide +kernel
theorem dL_law_226 : decode cL_law 226 = .ok (.if_icmp .eq 995, 3) := by decide +kernel
theorem dL_law_229 : decode cL_law 229 = .ok (.iconst 0, 1) := by decide +kernel
theorem dL_law_230 : decode cL_law 230 = .ok (.ireturn, 1) := by decide +kernel
theorem dL_law_231 : decode cL_law 231 = .ok (.aload_n 1, 1) := by decide +kernel
theorem dL_law_232 : decode cL_law 232 = .ok (.aload_n 0, 1) := by decide +kernel
theorem dL_law_233 : decode cL_law 233 = .ok (.iload_n 3, 1) := by decide +kernel
theorem dL_law_234 : decode cL_law 234 = .ok (.iconst 1, 1) := by decide +kernel
theorem dL_law_235 : decode cL_law 235 = .ok (.iadd, 1) := by decide +kernel
theorem dL_law_236 : decode cL_law 236 = .ok (.iaload, 1) := by decide +kernel
theorem dL_law_237 : decode cL_law 237 = .ok (.aload_n 0, 1) := by decide +kernel
theorem dL_law_238 : decode cL_law 238 = .ok (.iload_n 3, 1) := by decide +kernel
theorem dL_law_239 : decode cL_law 239 = .ok (.iconst 2, 1) := by decide +kernel
theorem dL_law_240 : decode cL_law 240 = .ok (.iadd, 1) := by decide +kernel
theorem dL_law_241 : decode cL_law 241 = .ok (.iaload, 1) := by decide +kernel
theorem dL_law_242 : decode cL_law 242 = .ok (.invokevirtual 18, 3) := by decide +kernel
theorem dL_law_245 : decode cL_law 245 = .ok (.aload_n 2, 1) := by decide +kernel
theorem dL_law_246 : decode cL_law 246 = .ok (.aload_n 0, 1) := by decide +kernel
theorem dL_law_247 : decode cL_law 247 = .ok (.iload_n 3, 1) := by decide +kernel
theorem dL_law_248 : decode cL_law 248 = .ok (.iconst 1, 1) := by decide +kernel
theorem dL_law_249 : decode cL_law 249 = .ok (.iadd, 1) := by decide +kernel
theorem dL_law_250 : decode cL_law 250 = .ok (.iaload, 1) := by decide +kernel
theorem dL_law_251 : decode cL_law 251 = .ok (.aload_n 0, 1) := by decide +kernel
theorem dL_law_252 : decode cL_law 252 = .ok (.iload_n 3, 1) := by decide +kernel
theorem dL_law_253 : decode cL_law 253 = .ok (.iconst 2, 1) := by decide +kernel
theorem dL_law_254 : decode cL_law 254 = .ok (.iadd, 1) := by decide +kernel
theorem dL_law_255 : decode cL_law 255 = .ok (.iaload, 1) := by decide +kernel
theorem dL_law_256 : decode cL_law 256 = .ok (.invokevirtual 22, 3) := by decide +kernel
theorem dL_law_259 : decode cL_law 259 = .ok (.if_icmp .eq 962, 3) := by decide +kernel
theorem dL_law_262 : decode cL_law 262 = .ok (.iconst 0, 1) := by decide +kernel
theorem dL_law_263 : decode cL_law 263 = .ok (.ireturn, 1) := by decide +kernel
theorem dL_law_264 : decode cL_law 264 = .ok (.aload_n 1, 1) := by decide +kernel
theorem dL_law_265 : decode cL_law 265 = .ok (.aload_n 0, 1) := by decide +kernel
theorem dL_law_266 : decode cL_law 266 = .ok (.iload_n 3, 1) := by decide +kernel
theorem dL_law_267 : decode cL_law 267 = .ok (.iconst 1, 1) := by decide +kernel
theorem dL_law_268 : decode cL_law 268 = .ok (.iadd, 1) := by decide +kernel
theorem dL_law_269 : decode cL_law 269 = .ok (.iaload, 1) := by decide +kernel
theorem dL_law_270 : decode cL_law 270 = .ok (.aload_n 0, 1) := by decide +kernel
theorem dL_law_271 : decode cL_law 271 = .ok (.iload_n 3, 1) := by decide +kernel
theorem dL_law_272 : decode cL_law 272 = .ok (.iconst 2, 1) := by decide +kernel
theorem dL_law_273 : decode cL_law 273 = .ok (.iadd, 1) := by decide +kernel
theorem dL_law_274 : decode cL_law 274 = .ok (.iaload, 1) := by decide +kernel
theorem dL_law_275 : decode cL_law 275 = .ok (.invokevirtual 23, 3) := by decide +kernel
theorem dL_law_278 : decode cL_law 278 = .ok (.aload_n 2, 1) := by decide +kernel
theorem dL_law_279 : decode cL_law 279 = .ok (.aload_n 0, 1) := by decide +kernel
theorem dL_law_280 : decode cL_law 280 = .ok (.iload_n 3, 1) := by decide +kernel
theorem dL_law_281 : decode cL_law 281 = .ok (.iconst 1, 1) := by decide +kernel
theorem dL_law_282 : decode cL_law 282 = .ok (.iadd, 1) := by decide +kernel
theorem dL_law_283 : decode cL_law 283 = .ok (.iaload, 1) := by decide +kernel
theorem dL_law_284 : decode cL_law 284 = .ok (.aload_n 0, 1) := by decide +kernel
theorem dL_law_285 : decode cL_law 285 = .ok (.iload_n 3, 1) := by decide +kernel
theorem dL_law_286 : decode cL_law 286 = .ok (.iconst 2, 1) := by decide +kernel
theorem dL_law_287 : decode cL_law 287 = .ok (.iadd, 1) := by decide +kernel
theorem dL_law_288 : decode cL_law 288 = .ok (.iaload, 1) := by decide +kernel
theorem dL_law_289 : decode cL_law 289 = .ok (.invokevirtual 27, 3) := by decide +kernel
theorem dL_law_292 : decode cL_law 292 = .ok (.lcmp, 1) := by decide +kernel
theorem dL_law_293 : decode cL_law 293 = .ok (.ifCond .eq 928, 3) := by decide +kernel
theorem dL_law_296 : decode cL_law 296 = .ok (.iconst 0, 1) := by decide +kernel
theorem dL_law_297 : decode cL_law 297 = .ok (.ireturn, 1) := by decide +kernel
theorem dL_law_298 : decode cL_law 298 = .ok (.aload_n 1, 1) := by decide +kernel
theorem dL_law_299 : decode cL_law 299 = .ok (.aload_n 0, 1) := by decide +kernel
theorem dL_law_300 : decode cL_law 300 = .ok (.iload_n 3, 1) := by decide +kernel
theorem dL_law_301 : decode cL_law 301 = .ok (.iconst 1, 1) := by decide +kernel
theorem dL_law_302 : decode cL_law 302 = .ok (.iadd, 1) := by decide +kernel
theorem dL_law_303 : decode cL_law 303 = .ok (.iaload, 1) := by decide +kernel
theorem dL_law_304 : decode cL_law 304 = .ok (.aload_n 0, 1) := by decide +kernel
theorem dL_law_305 : decode cL_law 305 = .ok (.iload_n 3, 1) := by decide +kernel
theorem dL_law_306 : decode cL_law 306 = .ok (.iconst 2, 1) := by decide +kernel
theorem dL_law_307 : decode cL_law 307 = .ok (.iadd, 1) := by decide +kernel
theorem dL_law_308 : decode cL_law 308 = .ok (.iaload, 1) := by decide +kernel
theorem dL_law_309 : decode cL_law 309 = .ok (.invokevirtual 28, 3) := by decide +kernel
theorem dL_law_312 : decode cL_law 312 = .ok (.aload_n 2, 1) := by decide +kernel
theorem dL_law_313 : decode cL_law 313 = .ok (.aload_n 0, 1) := by decide +kernel
theorem dL_law_314 : decode cL_law 314 = .ok (.iload_n 3, 1) := by decide +kernel
theorem dL_law_315 : decode cL_law 315 = .ok (.iconst 1, 1) := by decide +kernel
theorem dL_law_316 : decode cL_law 316 = .ok (.iadd, 1) := by decide +kernel
theorem dL_law_317 : decode cL_law 317 = .ok (.iaload, 1) := by decide +kernel
theorem dL_law_318 : decode cL_law 318 = .ok (.aload_n 0, 1) := by decide +kernel
theorem dL_law_319 : decode cL_law 319 = .ok (.iload_n 3, 1) := by decide +kernel
theorem dL_law_320 : decode cL_law 320 = .ok (.iconst 2, 1) := by decide +kernel
theorem dL_law_321 : decode cL_law 321 = .ok (.iadd, 1) := by decide +kernel
theorem dL_law_322 : decode cL_law 322 = .ok (.iaload, 1) := by decide +kernel
theorem dL_law_323 : decode cL_law 323 = .ok (.invokevirtual 31, 3) := by decide +kernel
theorem dL_law_326 : decode cL_law 326 = .ok (.if_icmp .eq 895, 3) := by decide +kernel
theorem dL_law_329 : decode cL_law 329 = .ok (.iconst 0, 1) := by decide +kernel
theorem dL_law_330 : decode cL_law 330 = .ok (.ireturn, 1) := by decide +kernel
theorem dL_law_331 : decode cL_law 331 = .ok (.aload_n 1, 1) := by decide +kernel
theorem dL_law_332 : decode cL_law 332 = .ok (.aload_n 0, 1) := by decide +kernel
theorem dL_law_333 : decode cL_law 333 = .ok (.iload_n 3, 1) := by decide +kernel
theorem dL_law_334 : decode cL_law 334 = .ok (.iconst 1, 1) := by decide +kernel
theorem dL_law_335 : decode cL_law 335 = .ok (.iadd, 1) := by decide +kernel
theorem dL_law_336 : decode cL_law 336 = .ok (.iaload, 1) := by decide +kernel
theorem dL_law_337 : decode cL_law 337 = .ok (.aload_n 0, 1) := by decide +kernel
theorem dL_law_338 : decode cL_law 338 = .ok (.iload_n 3, 1) := by decide +kernel
theorem dL_law_339 : decode cL_law 339 = .ok (.iconst 2, 1) := by decide +kernel
theorem dL_law_340 : decode cL_law 340 = .ok (.iadd, 1) := by decide +kernel
theorem dL_law_341 : decode cL_law 341 = .ok (.iaload, 1) := by decide +kernel
theorem dL_law_342 : decode cL_law 342 = .ok (.aload_n 0, 1) := by decide +kernel
theorem dL_law_343 : decode cL_law 343 = .ok (.iload_n 3, 1) := by decide +kernel
theorem dL_law_344 : decode cL_law 344 = .ok (.iconst 3, 1) := by decide +kernel
theorem dL_law_345 : decode cL_law 345 = .ok (.iadd, 1) := by decide +kernel
theorem dL_law_346 : decode cL_law 346 = .ok (.iaload, 1) := by decide +kernel
theorem dL_law_347 : decode cL_law 347 = .ok (.invokevirtual 32, 3) := by decide +kernel
theorem dL_law_350 : decode cL_law 350 = .ok (.aload_n 2, 1) := by decide +kernel
theorem dL_law_351 : decode cL_law 351 = .ok (.aload_n 0, 1) := by decide +kernel
theorem dL_law_352 : decode cL_law 352 = .ok (.iload_n 3, 1) := by decide +kernel
theorem dL_law_353 : decode cL_law 353 = .ok (.iconst 1, 1) := by decide +kernel
theorem dL_law_354 : decode cL_law 354 = .ok (.iadd, 1) := by decide +kernel
theorem dL_law_355 : decode cL_law 355 = .ok (.iaload, 1) := by decide +kernel
theorem dL_law_356 : decode cL_law 356 = .ok (.aload_n 0, 1) := by decide +kernel
theorem dL_law_357 : decode cL_law 357 = .ok (.iload_n 3, 1) := by decide +kernel
theorem dL_law_358 : decode cL_law 358 = .ok (.iconst 2, 1) := by decide +kernel
theorem dL_law_359 : decode cL_law 359 = .ok (.iadd, 1) := by decide +kernel
theorem dL_law_360 : decode cL_law 360 = .ok (.iaload, 1) := by decide +kernel
theorem dL_law_361 : decode cL_law 361 = .ok (.aload_n 0, 1) := by decide +kernel
theorem dL_law_362 : decode cL_law 362 = .ok (.iload_n 3, 1) := by decide +kernel
theorem dL_law_363 : decode cL_law 363 = .ok (.iconst 3, 1) := by decide +kernel
theorem dL_law_364 : decode cL_law 364 = .ok (.iadd, 1) := by decide +kernel
theorem dL_law_365 : decode cL_law 365 = .ok (.iaload, 1) := by decide +kernel
theorem dL_law_366 : decode cL_law 366 = .ok (.invokevirtual 35, 3) := by decide +kernel
theorem dL_law_369 : decode cL_law 369 = .ok (.if_icmp .eq 852, 3) := by decide +kernel
theorem dL_law_372 : decode cL_law 372 = .ok (.iconst 0, 1) := by decide +kernel
theorem dL_law_373 : decode cL_law 373 = .ok (.ireturn, 1) := by decide +kernel
theorem dL_law_374 : decode cL_law 374 = .ok (.aload_n 1, 1) := by decide +kernel
theorem dL_law_375 : decode cL_law 375 = .ok (.aload_n 0, 1) := by decide +kernel
theorem dL_law_376 : decode cL_law 376 = .ok (.iload_n 3, 1) := by decide +kernel
theorem dL_law_377 : decode cL_law 377 = .ok (.iconst 1, 1) := by decide +kernel
theorem dL_law_378 : decode cL_law 378 = .ok (.iadd, 1) := by decide +kernel
theorem dL_law_379 : decode cL_law 379 = .ok (.iaload, 1) := by decide +kernel
theorem dL_law_380 : decode cL_law 380 = .ok (.aload_n 0, 1) := by decide +kernel
theorem dL_law_381 : decode cL_law 381 = .ok (.iload_n 3, 1) := by decide +kernel
theorem dL_law_382 : decode cL_law 382 = .ok (.iconst 2, 1) := by decide +kernel
theorem dL_law_383 : decode cL_law 383 = .ok (.iadd, 1) := by decide +kernel
theorem dL_law_384 : decode cL_law 384 = .ok (.iaload, 1) := by decide +kernel
theorem dL_law_385 : decode cL_law 385 = .ok (.aload_n 0, 1) := by decide +kernel
theorem dL_law_386 : decode cL_law 386 = .ok (.iload_n 3, 1) := by decide +kernel
theorem dL_law_387 : decode cL_law 387 = .ok (.iconst 3, 1) := by decide +kernel
theorem dL_law_388 : decode cL_law 388 = .ok (.iadd, 1) := by decide +kernel
theorem dL_law_389 : decode cL_law 389 = .ok (.iaload, 1) := by decide +kernel
theorem dL_law_390 : decode cL_law 390 = .ok (.invokevirtual 36, 3) := by decide +kernel
theorem dL_law_393 : decode cL_law 393 = .ok (.aload_n 2, 1) := by decide +kernel
theorem dL_law_394 : decode cL_law 394 = .ok (.aload_n 0, 1) := by decide +kernel
theorem dL_law_395 : decode cL_law 395 = .ok (.iload_n 3, 1) := by decide +kernel
theorem dL_law_396 : decode cL_law 396 = .ok (.iconst 1, 1) := by decide +kernel
theorem dL_law_397 : decode cL_law 397 = .ok (.iadd, 1) := by decide +kernel
theorem dL_law_398 : decode cL_law 398 = .ok (.iaload, 1) := by decide +kernel
theorem dL_law_399 : decode cL_law 399 = .ok (.aload_n 0, 1) := by decide +kernel
theorem dL_law_400 : decode cL_law 400 = .ok (.iload_n 3, 1) := by decide +kernel
theorem dL_law_401 : decode cL_law 401 = .ok (.iconst 2, 1) := by decide +kernel
theorem dL_law_402 : decode cL_law 402 = .ok (.iadd, 1) := by decide +kernel
theorem dL_law_403 : decode cL_law 403 = .ok (.iaload, 1) := by decide +kernel
theorem dL_law_404 : decode cL_law 404 = .ok (.aload_n 0, 1) := by decide +kernel
theorem dL_law_405 : decode cL_law 405 = .ok (.iload_n 3, 1) := by decide +kernel
theorem dL_law_406 : decode cL_law 406 = .ok (.iconst 3, 1) := by decide +kernel
theorem dL_law_407 : decode cL_law 407 = .ok (.iadd, 1) := by decide +kernel
theorem dL_law_408 : decode cL_law 408 = .ok (.iaload, 1) := by decide +kernel
theorem dL_law_409 : decode cL_law 409 = .ok (.invokevirtual 39, 3) := by decide +kernel
theorem dL_law_412 : decode cL_law 412 = .ok (.if_icmp .eq 809, 3) := by decide +kernel
theorem dL_law_415 : decode cL_law 415 = .ok (.iconst 0, 1) := by decide +kernel
theorem dL_law_416 : decode cL_law 416 = .ok (.ireturn, 1) := by decide +kernel
theorem dL_law_417 : decode cL_law 417 = .ok (.aload_n 1, 1) := by decide +kernel
theorem dL_law_418 : decode cL_law 418 = .ok (.aload_n 0, 1) := by decide +kernel
theorem dL_law_419 : decode cL_law 419 = .ok (.iload_n 3, 1) := by decide +kernel
theorem dL_law_420 : decode cL_law 420 = .ok (.iconst 1, 1) := by decide +kernel
theorem dL_law_421 : decode cL_law 421 = .ok (.iadd, 1) := by decide +kernel
theorem dL_law_422 : decode cL_law 422 = .ok (.iaload, 1) := by decide +kernel
theorem dL_law_423 : decode cL_law 423 = .ok (.aload_n 0, 1) := by decide +kernel
theorem dL_law_424 : decode cL_law 424 = .ok (.iload_n 3, 1) := by decide +kernel
theorem dL_law_425 : decode cL_law 425 = .ok (.iconst 2, 1) := by decide +kernel
theorem dL_law_426 : decode cL_law 426 = .ok (.iadd, 1) := by decide +kernel
theorem dL_law_427 : decode cL_law 427 = .ok (.iaload, 1) := by decide +kernel
theorem dL_law_428 : decode cL_law 428 = .ok (.aload_n 0, 1) := by decide +kernel
theorem dL_law_429 : decode cL_law 429 = .ok (.iload_n 3, 1) := by decide +kernel
theorem dL_law_430 : decode cL_law 430 = .ok (.iconst 3, 1) := by decide +kernel
theorem dL_law_431 : decode cL_law 431 = .ok (.iadd, 1) := by decide +kernel
theorem dL_law_432 : decode cL_law 432 = .ok (.iaload, 1) := by decide +kernel
theorem dL_law_433 : decode cL_law 433 = .ok (.aload_n 0, 1) := by decide +kernel
theorem dL_law_434 : decode cL_law 434 = .ok (.iload_n 3, 1) := by decide +kernel
theorem dL_law_435 : decode cL_law 435 = .ok (.iconst 4, 1) := by decide +kernel
theorem dL_law_436 : decode cL_law 436 = .ok (.iadd, 1) := by decide +kernel
theorem dL_law_437 : decode cL_law 437 = .ok (.iaload, 1) := by decide +kernel
theorem dL_law_438 : decode cL_law 438 = .ok (.invokevirtual 40, 3) := by decide +kernel
theorem dL_law_441 : decode cL_law 441 = .ok (.aload_n 2, 1) := by decide +kernel
theorem dL_law_442 : decode cL_law 442 = .ok (.aload_n 0, 1) := by decide +kernel
theorem dL_law_443 : decode cL_law 443 = .ok (.iload_n 3, 1) := by decide +kernel
theorem dL_law_444 : decode cL_law 444 = .ok (.iconst 1, 1) := by decide +kernel
theorem dL_law_445 : decode cL_law 445 = .ok (.iadd, 1) := by decide +kernel
theorem dL_law_446 : decode cL_law 446 = .ok (.iaload, 1) := by decide +kernel
theorem dL_law_447 : decode cL_law 447 = .ok (.aload_n 0, 1) := by decide +kernel
theorem dL_law_448 : decode cL_law 448 = .ok (.iload_n 3, 1) := by decide +kernel
theorem dL_law_449 : decode cL_law 449 = .ok (.iconst 2, 1) := by decide +kernel
theorem dL_law_450 : decode cL_law 450 = .ok (.iadd, 1) := by decide +kernel
theorem dL_law_451 : decode cL_law 451 = .ok (.iaload, 1) := by decide +kernel
theorem dL_law_452 : decode cL_law 452 = .ok (.aload_n 0, 1) := by decide +kernel
theorem dL_law_453 : decode cL_law 453 = .ok (.iload_n 3, 1) := by decide +kernel
theorem dL_law_454 : decode cL_law 454 = .ok (.iconst 3, 1) := by decide +kernel
theorem dL_law_455 : decode cL_law 455 = .ok (.iadd, 1) := by decide +kernel
theorem dL_law_456 : decode cL_law 456 = .ok (.iaload, 1) := by decide +kernel
theorem dL_law_457 : decode cL_law 457 = .ok (.aload_n 0, 1) := by decide +kernel
theorem dL_law_458 : decode cL_law 458 = .ok (.iload_n 3, 1) := by decide +kernel
theorem dL_law_459 : decode cL_law 459 = .ok (.iconst 4, 1) := by decide +kernel
theorem dL_law_460 : decode cL_law 460 = .ok (.iadd, 1) := by decide +kernel
theorem dL_law_461 : decode cL_law 461 = .ok (.iaload, 1) := by decide +kernel
theorem dL_law_462 : decode cL_law 462 = .ok (.invokevirtual 44, 3) := by decide +kernel
theorem dL_law_465 : decode cL_law 465 = .ok (.if_icmp .eq 756, 3) := by decide +kernel
theorem dL_law_468 : decode cL_law 468 = .ok (.iconst 0, 1) := by decide +kernel
theorem dL_law_469 : decode cL_law 469 = .ok (.ireturn, 1) := by decide +kernel
theorem dL_law_470 : decode cL_law 470 = .ok (.aload_n 1, 1) := by decide +kernel
theorem dL_law_471 : decode cL_law 471 = .ok (.aload_n 0, 1) := by decide +kernel
theorem dL_law_472 : decode cL_law 472 = .ok (.iload_n 3, 1) := by decide +kernel
theorem dL_law_473 : decode cL_law 473 = .ok (.iconst 1, 1) := by decide +kernel
theorem dL_law_474 : decode cL_law 474 = .ok (.iadd, 1) := by decide +kernel
theorem dL_law_475 : decode cL_law 475 = .ok (.iaload, 1) := by decide +kernel
theorem dL_law_476 : decode cL_law 476 = .ok (.invokevirtual 45, 3) := by decide +kernel
theorem dL_law_479 : decode cL_law 479 = .ok (.aload_n 2, 1) := by decide +kernel
theorem dL_law_480 : decode cL_law 480 = .ok (.aload_n 0, 1) := by decide +kernel
theorem dL_law_481 : decode cL_law 481 = .ok (.iload_n 3, 1) := by decide +kernel
theorem dL_law_482 : decode cL_law 482 = .ok (.iconst 1, 1) := by decide +kernel
theorem dL_law_483 : decode cL_law 483 = .ok (.iadd, 1) := by decide +kernel
theorem dL_law_484 : decode cL_law 484 = .ok (.iaload, 1) := by decide +kernel
theorem dL_law_485 : decode cL_law 485 = .ok (.invokevirtual 49, 3) := by decide +kernel
theorem dL_law_488 : decode cL_law 488 = .ok (.lcmp, 1) := by decide +kernel
theorem dL_law_489 : decode cL_law 489 = .ok (.ifCond .eq 732, 3) := by decide +kernel
theorem dL_law_492 : decode cL_law 492 = .ok (.iconst 0, 1) := by decide +kernel
theorem dL_law_493 : decode cL_law 493 = .ok (.ireturn, 1) := by decide +kernel
theorem dL_law_494 : decode cL_law 494 = .ok (.aload_n 1, 1) := by decide +kernel
theorem dL_law_495 : decode cL_law 495 = .ok (.aload_n 0, 1) := by decide +kernel
theorem dL_law_496 : decode cL_law 496 = .ok (.iload_n 3, 1) := by decide +kernel
theorem dL_law_497 : decode cL_law 497 = .ok (.iconst 1, 1) := by decide +kernel
theorem dL_law_498 : decode cL_law 498 = .ok (.iadd, 1) := by decide +kernel
theorem dL_law_499 : decode cL_law 499 = .ok (.iaload, 1) := by decide +kernel
theorem dL_law_500 : decode cL_law 500 = .ok (.invokevirtual 50, 3) := by decide +kernel
theorem dL_law_503 : decode cL_law 503 = .ok (.aload_n 2, 1) := by decide +kernel
theorem dL_law_504 : decode cL_law 504 = .ok (.aload_n 0, 1) := by decide +kernel
theorem dL_law_505 : decode cL_law 505 = .ok (.iload_n 3, 1) := by decide +kernel
theorem dL_law_506 : decode cL_law 506 = .ok (.iconst 1, 1) := by decide +kernel
theorem dL_law_507 : decode cL_law 507 = .ok (.iadd, 1) := by decide +kernel
theorem dL_law_508 : decode cL_law 508 = .ok (.iaload, 1) := by decide +kernel
theorem dL_law_509 : decode cL_law 509 = .ok (.invokevirtual 53, 3) := by decide +kernel
theorem dL_law_512 : decode cL_law 512 = .ok (.lcmp, 1) := by decide +kernel
theorem dL_law_513 : decode cL_law 513 = .ok (.ifCond .eq 708, 3) := by decide +kernel
theorem dL_law_516 : decode cL_law 516 = .ok (.iconst 0, 1) := by decide +kernel
theorem dL_law_517 : decode cL_law 517 = .ok (.ireturn, 1) := by decide +kernel
theorem dL_law_518 : decode cL_law 518 = .ok (.aload_n 1, 1) := by decide +kernel
theorem dL_law_519 : decode cL_law 519 = .ok (.aload_n 0, 1) := by decide +kernel
theorem dL_law_520 : decode cL_law 520 = .ok (.iload_n 3, 1) := by decide +kernel
theorem dL_law_521 : decode cL_law 521 = .ok (.iconst 1, 1) := by decide +kernel
theorem dL_law_522 : decode cL_law 522 = .ok (.iadd, 1) := by decide +kernel
theorem dL_law_523 : decode cL_law 523 = .ok (.iaload, 1) := by decide +kernel
theorem dL_law_524 : decode cL_law 524 = .ok (.invokevirtual 54, 3) := by decide +kernel
theorem dL_law_527 : decode cL_law 527 = .ok (.aload_n 2, 1) := by decide +kernel
theorem dL_law_528 : decode cL_law 528 = .ok (.aload_n 0, 1) := by decide +kernel
theorem dL_law_529 : decode cL_law 529 = .ok (.iload_n 3, 1) := by decide +kernel
theorem dL_law_530 : decode cL_law 530 = .ok (.iconst 1, 1) := by decide +kernel
theorem dL_law_531 : decode cL_law 531 = .ok (.iadd, 1) := by decide +kernel
theorem dL_law_532 : decode cL_law 532 = .ok (.iaload, 1) := by decide +kernel
theorem dL_law_533 : decode cL_law 533 = .ok (.invokevirtual 58, 3) := by decide +kernel
theorem dL_law_536 : decode cL_law 536 = .ok (.if_icmp .eq 685, 3) := by decide +kernel
theorem dL_law_539 : decode cL_law 539 = .ok (.iconst 0, 1) := by decide +kernel
theorem dL_law_540 : decode cL_law 540 = .ok (.ireturn, 1) := by decide +kernel
theorem dL_law_541 : decode cL_law 541 = .ok (.aload_n 1, 1) := by decide +kernel
theorem dL_law_542 : decode cL_law 542 = .ok (.aload_n 0, 1) := by decide +kernel
theorem dL_law_543 : decode cL_law 543 = .ok (.iload_n 3, 1) := by decide +kernel
theorem dL_law_544 : decode cL_law 544 = .ok (.iconst 1, 1) := by decide +kernel
theorem dL_law_545 : decode cL_law 545 = .ok (.iadd, 1) := by decide +kernel
theorem dL_law_546 : decode cL_law 546 = .ok (.iaload, 1) := by decide +kernel
theorem dL_law_547 : decode cL_law 547 = .ok (.invokevirtual 59, 3) := by decide +kernel
theorem dL_law_550 : decode cL_law 550 = .ok (.aload_n 2, 1) := by decide +kernel
theorem dL_law_551 : decode cL_law 551 = .ok (.aload_n 0, 1) := by decide +kernel
theorem dL_law_552 : decode cL_law 552 = .ok (.iload_n 3, 1) := by decide +kernel
theorem dL_law_553 : decode cL_law 553 = .ok (.iconst 1, 1) := by decide +kernel
theorem dL_law_554 : decode cL_law 554 = .ok (.iadd, 1) := by decide +kernel
theorem dL_law_555 : decode cL_law 555 = .ok (.iaload, 1) := by decide +kernel
theorem dL_law_556 : decode cL_law 556 = .ok (.invokevirtual 62, 3) := by decide +kernel
theorem dL_law_559 : decode cL_law 559 = .ok (.if_icmp .eq 662, 3) := by decide +kernel
theorem dL_law_562 : decode cL_law 562 = .ok (.iconst 0, 1) := by decide +kernel
theorem dL_law_563 : decode cL_law 563 = .ok (.ireturn, 1) := by decide +kernel
theorem dL_law_564 : decode cL_law 564 = .ok (.aload_n 1, 1) := by decide +kernel
theorem dL_law_565 : decode cL_law 565 = .ok (.aload_n 0, 1) := by decide +kernel
theorem dL_law_566 : decode cL_law 566 = .ok (.iload_n 3, 1) := by decide +kernel
theorem dL_law_567 : decode cL_law 567 = .ok (.iconst 1, 1) := by decide +kernel
theorem dL_law_568 : decode cL_law 568 = .ok (.iadd, 1) := by decide +kernel
theorem dL_law_569 : decode cL_law 569 = .ok (.iaload, 1) := by decide +kernel
theorem dL_law_570 : decode cL_law 570 = .ok (.aload_n 0, 1) := by decide +kernel
theorem dL_law_571 : decode cL_law 571 = .ok (.iload_n 3, 1) := by decide +kernel
theorem dL_law_572 : decode cL_law 572 = .ok (.iconst 2, 1) := by decide +kernel
theorem dL_law_573 : decode cL_law 573 = .ok (.iadd, 1) := by decide +kernel
theorem dL_law_574 : decode cL_law 574 = .ok (.iaload, 1) := by decide +kernel
theorem dL_law_575 : decode cL_law 575 = .ok (.aload_n 0, 1) := by decide +kernel
theorem dL_law_576 : decode cL_law 576 = .ok (.iload_n 3, 1) := by decide +kernel
theorem dL_law_577 : decode cL_law 577 = .ok (.iconst 3, 1) := by decide +kernel
theorem dL_law_578 : decode cL_law 578 = .ok (.iadd, 1) := by decide +kernel
theorem dL_law_579 : decode cL_law 579 = .ok (.iaload, 1) := by decide +kernel
theorem dL_law_580 : decode cL_law 580 = .ok (.invokevirtual 63, 3) := by decide +kernel
theorem dL_law_583 : decode cL_law 583 = .ok (.aload_n 2, 1) := by decide +kernel
theorem dL_law_584 : decode cL_law 584 = .ok (.aload_n 0, 1) := by decide +kernel
theorem dL_law_585 : decode cL_law 585 = .ok (.iload_n 3, 1) := by decide +kernel
theorem dL_law_586 : decode cL_law 586 = .ok (.iconst 1, 1) := by decide +kernel
theorem dL_law_587 : decode cL_law 587 = .ok (.iadd, 1) := by decide +kernel
theorem dL_law_588 : decode cL_law 588 = .ok (.iaload, 1) := by decide +kernel
theorem dL_law_589 : decode cL_law 589 = .ok (.aload_n 0, 1) := by decide +kernel
theorem dL_law_590 : decode cL_law 590 = .ok (.iload_n 3, 1) := by decide +kernel
theorem dL_law_591 : decode cL_law 591 = .ok (.iconst 2, 1) := by decide +kernel
theorem dL_law_592 : decode cL_law 592 = .ok (.iadd, 1) := by decide +kernel
theorem dL_law_593 : decode cL_law 593 = .ok (.iaload, 1) := by decide +kernel
theorem dL_law_594 : decode cL_law 594 = .ok (.aload_n 0, 1) := by decide +kernel
theorem dL_law_595 : decode cL_law 595 = .ok (.iload_n 3, 1) := by decide +kernel
theorem dL_law_596 : decode cL_law 596 = .ok (.iconst 3, 1) := by decide +kernel
theorem dL_law_597 : decode cL_law 597 = .ok (.iadd, 1) := by decide +kernel
theorem dL_law_598 : decode cL_law 598 = .ok (.iaload, 1) := by decide +kernel
theorem dL_law_599 : decode cL_law 599 = .ok (.invokevirtual 66, 3) := by decide +kernel
theorem dL_law_602 : decode cL_law 602 = .ok (.if_icmp .eq 619, 3) := by decide +kernel
theorem dL_law_605 : decode cL_law 605 = .ok (.iconst 0, 1) := by decide +kernel
theorem dL_law_606 : decode cL_law 606 = .ok (.ireturn, 1) := by decide +kernel
theorem dL_law_607 : decode cL_law 607 = .ok (.aload_n 1, 1) := by decide +kernel
theorem dL_law_608 : decode cL_law 608 = .ok (.aload_n 0, 1) := by decide +kernel
theorem dL_law_609 : decode cL_law 609 = .ok (.iload_n 3, 1) := by decide +kernel
theorem dL_law_610 : decode cL_law 610 = .ok (.iconst 1, 1) := by decide +kernel
theorem dL_law_611 : decode cL_law 611 = .ok (.iadd, 1) := by decide +kernel
theorem dL_law_612 : decode cL_law 612 = .ok (.iaload, 1) := by decide +kernel
theorem dL_law_613 : decode cL_law 613 = .ok (.invokevirtual 67, 3) := by decide +kernel
theorem dL_law_616 : decode cL_law 616 = .ok (.aload_n 2, 1) := by decide +kernel
theorem dL_law_617 : decode cL_law 617 = .ok (.aload_n 0, 1) := by decide +kernel
theorem dL_law_618 : decode cL_law 618 = .ok (.iload_n 3, 1) := by decide +kernel
theorem dL_law_619 : decode cL_law 619 = .ok (.iconst 1, 1) := by decide +kernel
theorem dL_law_620 : decode cL_law 620 = .ok (.iadd, 1) := by decide +kernel
theorem dL_law_621 : decode cL_law 621 = .ok (.iaload, 1) := by decide +kernel
theorem dL_law_622 : decode cL_law 622 = .ok (.invokevirtual 70, 3) := by decide +kernel
theorem dL_law_625 : decode cL_law 625 = .ok (.if_icmp .eq 596, 3) := by decide +kernel
theorem dL_law_628 : decode cL_law 628 = .ok (.iconst 0, 1) := by decide +kernel
theorem dL_law_629 : decode cL_law 629 = .ok (.ireturn, 1) := by decide +kernel
theorem dL_law_630 : decode cL_law 630 = .ok (.aload_n 1, 1) := by decide +kernel
theorem dL_law_631 : decode cL_law 631 = .ok (.aload_n 0, 1) := by decide +kernel
theorem dL_law_632 : decode cL_law 632 = .ok (.iload_n 3, 1) := by decide +kernel
theorem dL_law_633 : decode cL_law 633 = .ok (.iconst 1, 1) := by decide +kernel
theorem dL_law_634 : decode cL_law 634 = .ok (.iadd, 1) := by decide +kernel
theorem dL_law_635 : decode cL_law 635 = .ok (.iaload, 1) := by decide +kernel
theorem dL_law_636 : decode cL_law 636 = .ok (.invokevirtual 71, 3) := by decide +kernel
theorem dL_law_639 : decode cL_law 639 = .ok (.aload_n 2, 1) := by decide +kernel
theorem dL_law_640 : decode cL_law 640 = .ok (.aload_n 0, 1) := by decide +kernel
theorem dL_law_641 : decode cL_law 641 = .ok (.iload_n 3, 1) := by decide +kernel
theorem dL_law_642 : decode cL_law 642 = .ok (.iconst 1, 1) := by decide +kernel
theorem dL_law_643 : decode cL_law 643 = .ok (.iadd, 1) := by decide +kernel
theorem dL_law_644 : decode cL_law 644 = .ok (.iaload, 1) := by decide +kernel
theorem dL_law_645 : decode cL_law 645 = .ok (.invokevirtual 74, 3) := by decide +kernel
theorem dL_law_648 : decode cL_law 648 = .ok (.lcmp, 1) := by decide +kernel
theorem dL_law_649 : decode cL_law 649 = .ok (.ifCond .eq 572, 3) := by decide +kernel
theorem dL_law_652 : decode cL_law 652 = .ok (.iconst 0, 1) := by decide +kernel
theorem dL_law_653 : decode cL_law 653 = .ok (.ireturn, 1) := by decide +kernel
theorem dL_law_654 : decode cL_law 654 = .ok (.aload_n 1, 1) := by decide +kernel
theorem dL_law_655 : decode cL_law 655 = .ok (.aload_n 0, 1) := by decide +kernel
theorem dL_law_656 : decode cL_law 656 = .ok (.iload_n 3, 1) := by decide +kernel
theorem dL_law_657 : decode cL_law 657 = .ok (.iconst 1, 1) := by decide +kernel
theorem dL_law_658 : decode cL_law 658 = .ok (.iadd, 1) := by decide +kernel
theorem dL_law_659 : decode cL_law 659 = .ok (.iaload, 1) := by decide +kernel
theorem dL_law_660 : decode cL_law 660 = .ok (.aload_n 0, 1) := by decide +kernel
theorem dL_law_661 : decode cL_law 661 = .ok (.iload_n 3, 1) := by decide +kernel
theorem dL_law_662 : decode cL_law 662 = .ok (.iconst 2, 1) := by decide +kernel
theorem dL_law_663 : decode cL_law 663 = .ok (.iadd, 1) := by decide +kernel
theorem dL_law_664 : decode cL_law 664 = .ok (.iaload, 1) := by decide +kernel
theorem dL_law_665 : decode cL_law 665 = .ok (.invokevirtual 75, 3) := by decide +kernel
theorem dL_law_668 : decode cL_law 668 = .ok (.aload_n 2, 1) := by decide +kernel
theorem dL_law_669 : decode cL_law 669 = .ok (.aload_n 0, 1) := by decide +kernel
theorem dL_law_670 : decode cL_law 670 = .ok (.iload_n 3, 1) := by decide +kernel
theorem dL_law_671 : decode cL_law 671 = .ok (.iconst 1, 1) := by decide +kernel
theorem dL_law_672 : decode cL_law 672 = .ok (.iadd, 1) := by decide +kernel
theorem dL_law_673 : decode cL_law 673 = .ok (.iaload, 1) := by decide +kernel
theorem dL_law_674 : decode cL_law 674 = .ok (.aload_n 0, 1) := by decide +kernel
theorem dL_law_675 : decode cL_law 675 = .ok (.iload_n 3, 1) := by decide +kernel
theorem dL_law_676 : decode cL_law 676 = .ok (.iconst 2, 1) := by decide +kernel
theorem dL_law_677 : decode cL_law 677 = .ok (.iadd, 1) := by decide +kernel
theorem dL_law_678 : decode cL_law 678 = .ok (.iaload, 1) := by decide +kernel
theorem dL_law_679 : decode cL_law 679 = .ok (.invokevirtual 78, 3) := by decide +kernel
theorem dL_law_682 : decode cL_law 682 = .ok (.if_icmp .eq 539, 3) := by decide +kernel
theorem dL_law_685 : decode cL_law 685 = .ok (.iconst 0, 1) := by decide +kernel
theorem dL_law_686 : decode cL_law 686 = .ok (.ireturn, 1) := by decide +kernel
theorem dL_law_687 : decode cL_law 687 = .ok (.aload_n 1, 1) := by decide +kernel
theorem dL_law_688 : decode cL_law 688 = .ok (.aload_n 0, 1) := by decide +kernel
theorem dL_law_689 : decode cL_law 689 = .ok (.iload_n 3, 1) := by decide +kernel
theorem dL_law_690 : decode cL_law 690 = .ok (.iconst 1, 1) := by decide +kernel
theorem dL_law_691 : decode cL_law 691 = .ok (.iadd, 1) := by decide +kernel
theorem dL_law_692 : decode cL_law 692 = .ok (.iaload, 1) := by decide +kernel
theorem dL_law_693 : decode cL_law 693 = .ok (.aload_n 0, 1) := by decide +kernel
theorem dL_law_694 : decode cL_law 694 = .ok (.iload_n 3, 1) := by decide +kernel
theorem dL_law_695 : decode cL_law 695 = .ok (.iconst 2, 1) := by decide +kernel
theorem dL_law_696 : decode cL_law 696 = .ok (.iadd, 1) := by decide +kernel
theorem dL_law_697 : decode cL_law 697 = .ok (.iaload, 1) := by decide +kernel
theorem dL_law_698 : decode cL_law 698 = .ok (.invokevirtual 79, 3) := by decide +kernel
theorem dL_law_701 : decode cL_law 701 = .ok (.aload_n 2, 1) := by decide +kernel
theorem dL_law_702 : decode cL_law 702 = .ok (.aload_n 0, 1) := by decide +kernel
theorem dL_law_703 : decode cL_law 703 = .ok (.iload_n 3, 1) := by decide +kernel
theorem dL_law_704 : decode cL_law 704 = .ok (.iconst 1, 1) := by decide +kernel
theorem dL_law_705 : decode cL_law 705 = .ok (.iadd, 1) := by decide +kernel
theorem dL_law_706 : decode cL_law 706 = .ok (.iaload, 1) := by decide +kernel
theorem dL_law_707 : decode cL_law 707 = .ok (.aload_n 0, 1) := by decide +kernel
theorem dL_law_708 : decode cL_law 708 = .ok (.iload_n 3, 1) := by decide +kernel
theorem dL_law_709 : decode cL_law 709 = .ok (.iconst 2, 1) := by decide +kernel
theorem dL_law_710 : decode cL_law 710 = .ok (.iadd, 1) := by decide +kernel
theorem dL_law_711 : decode cL_law 711 = .ok (.iaload, 1) := by decide +kernel
theorem dL_law_712 : decode cL_law 712 = .ok (.invokevirtual 82, 3) := by decide +kernel
theorem dL_law_715 : decode cL_law 715 = .ok (.lcmp, 1) := by decide +kernel
theorem dL_law_716 : decode cL_law 716 = .ok (.ifCond .eq 505, 3) := by decide +kernel
theorem dL_law_719 : decode cL_law 719 = .ok (.iconst 0, 1) := by decide +kernel
theorem dL_law_720 : decode cL_law 720 = .ok (.ireturn, 1) := by decide +kernel
theorem dL_law_721 : decode cL_law 721 = .ok (.aload_n 1, 1) := by decide +kernel
theorem dL_law_722 : decode cL_law 722 = .ok (.invokevirtual 83, 3) := by decide +kernel
theorem dL_law_725 : decode cL_law 725 = .ok (.aload_n 2, 1) := by decide +kernel
theorem dL_law_726 : decode cL_law 726 = .ok (.invokevirtual 87, 3) := by decide +kernel
theorem dL_law_729 : decode cL_law 729 = .ok (.lcmp, 1) := by decide +kernel
theorem dL_law_730 : decode cL_law 730 = .ok (.ifCond .eq 491, 3) := by decide +kernel
theorem dL_law_733 : decode cL_law 733 = .ok (.iconst 0, 1) := by decide +kernel
theorem dL_law_734 : decode cL_law 734 = .ok (.ireturn, 1) := by decide +kernel
theorem dL_law_735 : decode cL_law 735 = .ok (.aload_n 1, 1) := by decide +kernel
theorem dL_law_736 : decode cL_law 736 = .ok (.aload_n 0, 1) := by decide +kernel
theorem dL_law_737 : decode cL_law 737 = .ok (.iload_n 3, 1) := by decide +kernel
theorem dL_law_738 : decode cL_law 738 = .ok (.iconst 1, 1) := by decide +kernel
theorem dL_law_739 : decode cL_law 739 = .ok (.iadd, 1) := by decide +kernel
theorem dL_law_740 : decode cL_law 740 = .ok (.iaload, 1) := by decide +kernel
theorem dL_law_741 : decode cL_law 741 = .ok (.invokevirtual 88, 3) := by decide +kernel
theorem dL_law_744 : decode cL_law 744 = .ok (.aload_n 2, 1) := by decide +kernel
theorem dL_law_745 : decode cL_law 745 = .ok (.aload_n 0, 1) := by decide +kernel
theorem dL_law_746 : decode cL_law 746 = .ok (.iload_n 3, 1) := by decide +kernel
theorem dL_law_747 : decode cL_law 747 = .ok (.iconst 1, 1) := by decide +kernel
theorem dL_law_748 : decode cL_law 748 = .ok (.iadd, 1) := by decide +kernel
theorem dL_law_749 : decode cL_law 749 = .ok (.iaload, 1) := by decide +kernel
theorem dL_law_750 : decode cL_law 750 = .ok (.invokevirtual 91, 3) := by decide +kernel
theorem dL_law_753 : decode cL_law 753 = .ok (.if_icmp .eq 468, 3) := by decide +kernel
theorem dL_law_756 : decode cL_law 756 = .ok (.iconst 0, 1) := by decide +kernel
theorem dL_law_757 : decode cL_law 757 = .ok (.ireturn, 1) := by decide +kernel
theorem dL_law_758 : decode cL_law 758 = .ok (.aload_n 1, 1) := by decide +kernel
theorem dL_law_759 : decode cL_law 759 = .ok (.invokevirtual 92, 3) := by decide +kernel
theorem dL_law_762 : decode cL_law 762 = .ok (.aload_n 2, 1) := by decide +kernel
theorem dL_law_763 : decode cL_law 763 = .ok (.invokevirtual 96, 3) := by decide +kernel
theorem dL_law_766 : decode cL_law 766 = .ok (.if_icmp .eq 455, 3) := by decide +kernel
theorem dL_law_769 : decode cL_law 769 = .ok (.iconst 0, 1) := by decide +kernel
theorem dL_law_770 : decode cL_law 770 = .ok (.ireturn, 1) := by decide +kernel
theorem dL_law_771 : decode cL_law 771 = .ok (.aload_n 1, 1) := by decide +kernel
theorem dL_law_772 : decode cL_law 772 = .ok (.aload_n 0, 1) := by decide +kernel
theorem dL_law_773 : decode cL_law 773 = .ok (.iload_n 3, 1) := by decide +kernel
theorem dL_law_774 : decode cL_law 774 = .ok (.iconst 1, 1) := by decide +kernel
theorem dL_law_775 : decode cL_law 775 = .ok (.iadd, 1) := by decide +kernel
theorem dL_law_776 : decode cL_law 776 = .ok (.iaload, 1) := by decide +kernel
theorem dL_law_777 : decode cL_law 777 = .ok (.invokevirtual 97, 3) := by decide +kernel
theorem dL_law_780 : decode cL_law 780 = .ok (.aload_n 2, 1) := by decide +kernel
theorem dL_law_781 : decode cL_law 781 = .ok (.aload_n 0, 1) := by decide +kernel
theorem dL_law_782 : decode cL_law 782 = .ok (.iload_n 3, 1) := by decide +kernel
theorem dL_law_783 : decode cL_law 783 = .ok (.iconst 1, 1) := by decide +kernel
theorem dL_law_784 : decode cL_law 784 = .ok (.iadd, 1) := by decide +kernel
theorem dL_law_785 : decode cL_law 785 = .ok (.iaload, 1) := by decide +kernel
theorem dL_law_786 : decode cL_law 786 = .ok (.invokevirtual 100, 3) := by decide +kernel
theorem dL_law_789 : decode cL_law 789 = .ok (.if_icmp .eq 432, 3) := by decide +kernel
theorem dL_law_792 : decode cL_law 792 = .ok (.iconst 0, 1) := by decide +kernel
theorem dL_law_793 : decode cL_law 793 = .ok (.ireturn, 1) := by decide +kernel
theorem dL_law_794 : decode cL_law 794 = .ok (.aload_n 1, 1) := by decide +kernel
theorem dL_law_795 : decode cL_law 795 = .ok (.invokevirtual 101, 3) := by decide +kernel
theorem dL_law_798 : decode cL_law 798 = .ok (.aload_n 2, 1) := by decide +kernel
theorem dL_law_799 : decode cL_law 799 = .ok (.invokevirtual 104, 3) := by decide +kernel
theorem dL_law_802 : decode cL_law 802 = .ok (.if_icmp .eq 419, 3) := by decide +kernel
theorem dL_law_805 : decode cL_law 805 = .ok (.iconst 0, 1) := by decide +kernel
theorem dL_law_806 : decode cL_law 806 = .ok (.ireturn, 1) := by decide +kernel
theorem dL_law_807 : decode cL_law 807 = .ok (.aload_n 1, 1) := by decide +kernel
theorem dL_law_808 : decode cL_law 808 = .ok (.invokevirtual 105, 3) := by decide +kernel
theorem dL_law_811 : decode cL_law 811 = .ok (.aload_n 2, 1) := by decide +kernel
theorem dL_law_812 : decode cL_law 812 = .ok (.invokevirtual 108, 3) := by decide +kernel
theorem dL_law_815 : decode cL_law 815 = .ok (.if_icmp .eq 406, 3) := by decide +kernel
theorem dL_law_818 : decode cL_law 818 = .ok (.iconst 0, 1) := by decide +kernel
theorem dL_law_819 : decode cL_law 819 = .ok (.ireturn, 1) := by decide +kernel
theorem dL_law_820 : decode cL_law 820 = .ok (.aload_n 1, 1) := by decide +kernel
theorem dL_law_821 : decode cL_law 821 = .ok (.invokevirtual 109, 3) := by decide +kernel
theorem dL_law_824 : decode cL_law 824 = .ok (.aload_n 2, 1) := by decide +kernel
theorem dL_law_825 : decode cL_law 825 = .ok (.invokevirtual 112, 3) := by decide +kernel
theorem dL_law_828 : decode cL_law 828 = .ok (.if_icmp .eq 393, 3) := by decide +kernel
theorem dL_law_831 : decode cL_law 831 = .ok (.iconst 0, 1) := by decide +kernel
theorem dL_law_832 : decode cL_law 832 = .ok (.ireturn, 1) := by decide +kernel
theorem dL_law_833 : decode cL_law 833 = .ok (.aload_n 1, 1) := by decide +kernel
theorem dL_law_834 : decode cL_law 834 = .ok (.invokevirtual 113, 3) := by decide +kernel
theorem dL_law_837 : decode cL_law 837 = .ok (.aload_n 2, 1) := by decide +kernel
theorem dL_law_838 : decode cL_law 838 = .ok (.invokevirtual 116, 3) := by decide +kernel
theorem dL_law_841 : decode cL_law 841 = .ok (.lcmp, 1) := by decide +kernel
theorem dL_law_842 : decode cL_law 842 = .ok (.ifCond .eq 379, 3) := by decide +kernel
theorem dL_law_845 : decode cL_law 845 = .ok (.iconst 0, 1) := by decide +kernel
theorem dL_law_846 : decode cL_law 846 = .ok (.ireturn, 1) := by decide +kernel
theorem dL_law_847 : decode cL_law 847 = .ok (.aload_n 1, 1) := by decide +kernel
theorem dL_law_848 : decode cL_law 848 = .ok (.invokevirtual 117, 3) := by decide +kernel
theorem dL_law_851 : decode cL_law 851 = .ok (.aload_n 2, 1) := by decide +kernel
theorem dL_law_852 : decode cL_law 852 = .ok (.invokevirtual 120, 3) := by decide +kernel
theorem dL_law_855 : decode cL_law 855 = .ok (.if_icmp .eq 366, 3) := by decide +kernel
theorem dL_law_858 : decode cL_law 858 = .ok (.iconst 0, 1) := by decide +kernel
theorem dL_law_859 : decode cL_law 859 = .ok (.ireturn, 1) := by decide +kernel
theorem dL_law_860 : decode cL_law 860 = .ok (.aload_n 1, 1) := by decide +kernel
theorem dL_law_861 : decode cL_law 861 = .ok (.aload_n 0, 1) := by decide +kernel
theorem dL_law_862 : decode cL_law 862 = .ok (.iload_n 3, 1) := by decide +kernel
theorem dL_law_863 : decode cL_law 863 = .ok (.iconst 1, 1) := by decide +kernel
theorem dL_law_864 : decode cL_law 864 = .ok (.iadd, 1) := by decide +kernel
theorem dL_law_865 : decode cL_law 865 = .ok (.iaload, 1) := by decide +kernel
theorem dL_law_866 : decode cL_law 866 = .ok (.invokevirtual 121, 3) := by decide +kernel
theorem dL_law_869 : decode cL_law 869 = .ok (.aload_n 2, 1) := by decide +kernel
theorem dL_law_870 : decode cL_law 870 = .ok (.aload_n 0, 1) := by decide +kernel
theorem dL_law_871 : decode cL_law 871 = .ok (.iload_n 3, 1) := by decide +kernel
theorem dL_law_872 : decode cL_law 872 = .ok (.iconst 1, 1) := by decide +kernel
theorem dL_law_873 : decode cL_law 873 = .ok (.iadd, 1) := by decide +kernel
theorem dL_law_874 : decode cL_law 874 = .ok (.iaload, 1) := by decide +kernel
theorem dL_law_875 : decode cL_law 875 = .ok (.invokevirtual 124, 3) := by decide +kernel
theorem dL_law_878 : decode cL_law 878 = .ok (.if_icmp .eq 343, 3) := by decide +kernel
theorem dL_law_881 : decode cL_law 881 = .ok (.iconst 0, 1) := by decide +kernel
theorem dL_law_882 : decode cL_law 882 = .ok (.ireturn, 1) := by decide +kernel
theorem dL_law_883 : decode cL_law 883 = .ok (.aload_n 1, 1) := by decide +kernel
theorem dL_law_884 : decode cL_law 884 = .ok (.aload_n 0, 1) := by decide +kernel
theorem dL_law_885 : decode cL_law 885 = .ok (.iload_n 3, 1) := by decide +kernel
theorem dL_law_886 : decode cL_law 886 = .ok (.iconst 1, 1) := by decide +kernel
theorem dL_law_887 : decode cL_law 887 = .ok (.iadd, 1) := by decide +kernel
theorem dL_law_888 : decode cL_law 888 = .ok (.iaload, 1) := by decide +kernel
theorem dL_law_889 : decode cL_law 889 = .ok (.invokevirtual 125, 3) := by decide +kernel
theorem dL_law_892 : decode cL_law 892 = .ok (.aload_n 2, 1) := by decide +kernel
theorem dL_law_893 : decode cL_law 893 = .ok (.aload_n 0, 1) := by decide +kernel
theorem dL_law_894 : decode cL_law 894 = .ok (.iload_n 3, 1) := by decide +kernel
theorem dL_law_895 : decode cL_law 895 = .ok (.iconst 1, 1) := by decide +kernel
theorem dL_law_896 : decode cL_law 896 = .ok (.iadd, 1) := by decide +kernel
theorem dL_law_897 : decode cL_law 897 = .ok (.iaload, 1) := by decide +kernel
theorem dL_law_898 : decode cL_law 898 = .ok (.invokevirtual 128, 3) := by decide +kernel
theorem dL_law_901 : decode cL_law 901 = .ok (.if_icmp .eq 320, 3) := by decide +kernel
theorem dL_law_904 : decode cL_law 904 = .ok (.iconst 0, 1) := by decide +kernel
theorem dL_law_905 : decode cL_law 905 = .ok (.ireturn, 1) := by decide +kernel
theorem dL_law_906 : decode cL_law 906 = .ok (.aload_n 1, 1) := by decide +kernel
theorem dL_law_907 : decode cL_law 907 = .ok (.aload_n 0, 1) := by decide +kernel
theorem dL_law_908 : decode cL_law 908 = .ok (.iload_n 3, 1) := by decide +kernel
theorem dL_law_909 : decode cL_law 909 = .ok (.iconst 1, 1) := by decide +kernel
theorem dL_law_910 : decode cL_law 910 = .ok (.iadd, 1) := by decide +kernel
theorem dL_law_911 : decode cL_law 911 = .ok (.iaload, 1) := by decide +kernel
theorem dL_law_912 : decode cL_law 912 = .ok (.aload_n 0, 1) := by decide +kernel
theorem dL_law_913 : decode cL_law 913 = .ok (.iload_n 3, 1) := by decide +kernel
theorem dL_law_914 : decode cL_law 914 = .ok (.iconst 2, 1) := by decide +kernel
theorem dL_law_915 : decode cL_law 915 = .ok (.iadd, 1) := by decide +kernel
theorem dL_law_916 : decode cL_law 916 = .ok (.iaload, 1) := by decide +kernel
theorem dL_law_917 : decode cL_law 917 = .ok (.invokevirtual 129, 3) := by decide +kernel
theorem dL_law_920 : decode cL_law 920 = .ok (.aload_n 2, 1) := by decide +kernel
theorem dL_law_921 : decode cL_law 921 = .ok (.aload_n 0, 1) := by decide +kernel
theorem dL_law_922 : decode cL_law 922 = .ok (.iload_n 3, 1) := by decide +kernel
theorem dL_law_923 : decode cL_law 923 = .ok (.iconst 1, 1) := by decide +kernel
theorem dL_law_924 : decode cL_law 924 = .ok (.iadd, 1) := by decide +kernel
theorem dL_law_925 : decode cL_law 925 = .ok (.iaload, 1) := by decide +kernel
theorem dL_law_926 : decode cL_law 926 = .ok (.aload_n 0, 1) := by decide +kernel
theorem dL_law_927 : decode cL_law 927 = .ok (.iload_n 3, 1) := by decide +kernel
theorem dL_law_928 : decode cL_law 928 = .ok (.iconst 2, 1) := by decide +kernel
theorem dL_law_929 : decode cL_law 929 = .ok (.iadd, 1) := by decide +kernel
theorem dL_law_930 : decode cL_law 930 = .ok (.iaload, 1) := by decide +kernel
theorem dL_law_931 : decode cL_law 931 = .ok (.invokevirtual 132, 3) := by decide +kernel
theorem dL_law_934 : decode cL_law 934 = .ok (.if_icmp .eq 287, 3) := by decide +kernel
theorem dL_law_937 : decode cL_law 937 = .ok (.iconst 0, 1) := by decide +kernel
theorem dL_law_938 : decode cL_law 938 = .ok (.ireturn, 1) := by decide +kernel
theorem dL_law_939 : decode cL_law 939 = .ok (.aload_n 1, 1) := by decide +kernel
theorem dL_law_940 : decode cL_law 940 = .ok (.aload_n 0, 1) := by decide +kernel
theorem dL_law_941 : decode cL_law 941 = .ok (.iload_n 3, 1) := by decide +kernel
theorem dL_law_942 : decode cL_law 942 = .ok (.iconst 1, 1) := by decide +kernel
theorem dL_law_943 : decode cL_law 943 = .ok (.iadd, 1) := by decide +kernel
theorem dL_law_944 : decode cL_law 944 = .ok (.iaload, 1) := by decide +kernel
theorem dL_law_945 : decode cL_law 945 = .ok (.aload_n 0, 1) := by decide +kernel
theorem dL_law_946 : decode cL_law 946 = .ok (.iload_n 3, 1) := by decide +kernel
theorem dL_law_947 : decode cL_law 947 = .ok (.iconst 2, 1) := by decide +kernel
theorem dL_law_948 : decode cL_law 948 = .ok (.iadd, 1) := by decide +kernel
theorem dL_law_949 : decode cL_law 949 = .ok (.iaload, 1) := by decide +kernel
theorem dL_law_950 : decode cL_law 950 = .ok (.aload_n 0, 1) := by decide +kernel
theorem dL_law_951 : decode cL_law 951 = .ok (.iload_n 3, 1) := by decide +kernel
theorem dL_law_952 : decode cL_law 952 = .ok (.iconst 3, 1) := by decide +kernel
theorem dL_law_953 : decode cL_law 953 = .ok (.iadd, 1) := by decide +kernel
theorem dL_law_954 : decode cL_law 954 = .ok (.iaload, 1) := by decide +kernel
theorem dL_law_955 : decode cL_law 955 = .ok (.i2l, 1) := by decide +kernel
theorem dL_law_956 : decode cL_law 956 = .ok (.bipush 32, 2) := by decide +kernel
theorem dL_law_958 : decode cL_law 958 = .ok (.lshl, 1) := by decide +kernel
theorem dL_law_959 : decode cL_law 959 = .ok (.aload_n 0, 1) := by decide +kernel
theorem dL_law_960 : decode cL_law 960 = .ok (.iload_n 3, 1) := by decide +kernel
theorem dL_law_961 : decode cL_law 961 = .ok (.iconst 4, 1) := by decide +kernel
theorem dL_law_962 : decode cL_law 962 = .ok (.iadd, 1) := by decide +kernel
theorem dL_law_963 : decode cL_law 963 = .ok (.iaload, 1) := by decide +kernel
theorem dL_law_964 : decode cL_law 964 = .ok (.i2l, 1) := by decide +kernel
theorem dL_law_965 : decode cL_law 965 = .ok (.ldc2_w 133, 3) := by decide +kernel
theorem dL_law_968 : decode cL_law 968 = .ok (.land, 1) := by decide +kernel
theorem dL_law_969 : decode cL_law 969 = .ok (.lor, 1) := by decide +kernel
theorem dL_law_970 : decode cL_law 970 = .ok (.invokevirtual 135, 3) := by decide +kernel
theorem dL_law_973 : decode cL_law 973 = .ok (.aload_n 2, 1) := by decide +kernel
theorem dL_law_974 : decode cL_law 974 = .ok (.aload_n 0, 1) := by decide +kernel
theorem dL_law_975 : decode cL_law 975 = .ok (.iload_n 3, 1) := by decide +kernel
theorem dL_law_976 : decode cL_law 976 = .ok (.iconst 1, 1) := by decide +kernel
theorem dL_law_977 : decode cL_law 977 = .ok (.iadd, 1) := by decide +kernel
theorem dL_law_978 : decode cL_law 978 = .ok (.iaload, 1) := by decide +kernel
theorem dL_law_979 : decode cL_law 979 = .ok (.aload_n 0, 1) := by decide +kernel
theorem dL_law_980 : decode cL_law 980 = .ok (.iload_n 3, 1) := by decide +kernel
theorem dL_law_981 : decode cL_law 981 = .ok (.iconst 2, 1) := by decide +kernel
theorem dL_law_982 : decode cL_law 982 = .ok (.iadd, 1) := by decide +kernel
theorem dL_law_983 : decode cL_law 983 = .ok (.iaload, 1) := by decide +kernel
theorem dL_law_984 : decode cL_law 984 = .ok (.aload_n 0, 1) := by decide +kernel
theorem dL_law_985 : decode cL_law 985 = .ok (.iload_n 3, 1) := by decide +kernel
theorem dL_law_986 : decode cL_law 986 = .ok (.iconst 3, 1) := by decide +kernel
theorem dL_law_987 : decode cL_law 987 = .ok (.iadd, 1) := by decide +kernel
theorem dL_law_988 : decode cL_law 988 = .ok (.iaload, 1) := by decide +kernel
theorem dL_law_989 : decode cL_law 989 = .ok (.i2l, 1) := by decide +kernel
theorem dL_law_990 : decode cL_law 990 = .ok (.bipush 32, 2) := by decide +kernel
theorem dL_law_992 : decode cL_law 992 = .ok (.lshl, 1) := by decide +kernel
theorem dL_law_993 : decode cL_law 993 = .ok (.aload_n 0, 1) := by decide +kernel
theorem dL_law_994 : decode cL_law 994 = .ok (.iload_n 3, 1) := by decide +kernel
theorem dL_law_995 : decode cL_law 995 = .ok (.iconst 4, 1) := by decide +kernel
theorem dL_law_996 : decode cL_law 996 = .ok (.iadd, 1) := by decide +kernel
theorem dL_law_997 : decode cL_law 997 = .ok (.iaload, 1) := by decide +kernel
theorem dL_law_998 : decode cL_law 998 = .ok (.i2l, 1) := by decide +kernel
theorem dL_law_999 : decode cL_law 999 = .ok (.ldc2_w 133, 3) := by decide +kernel
theorem dL_law_1002 : decode cL_law 1002 = .ok (.land, 1) := by decide +kernel
theorem dL_law_1003 : decode cL_law 1003 = .ok (.lor, 1) := by decide +kernel
theorem dL_law_1004 : decode cL_law 1004 = .ok (.invokevirtual 139, 3) := by decide +kernel
theorem dL_law_1007 : decode cL_law 1007 = .ok (.if_icmp .eq 214, 3) := by decide +kernel
theorem dL_law_1010 : decode cL_law 1010 = .ok (.iconst 0, 1) := by decide +kernel
theorem dL_law_1011 : decode cL_law 1011 = .ok (.ireturn, 1) := by decide +kernel
theorem dL_law_1012 : decode cL_law 1012 = .ok (.aload_n 1, 1) := by decide +kernel
theorem dL_law_1013 : decode cL_law 1013 = .ok (.aload_n 0, 1) := by decide +kernel
theorem dL_law_1014 : decode cL_law 1014 = .ok (.iload_n 3, 1) := by decide +kernel
theorem dL_law_1015 : decode cL_law 1015 = .ok (.iconst 1, 1) := by decide +kernel
theorem dL_law_1016 : decode cL_law 1016 = .ok (.iadd, 1) := by decide +kernel
theorem dL_law_1017 : decode cL_law 1017 = .ok (.iaload, 1) := by decide +kernel
theorem dL_law_1018 : decode cL_law 1018 = .ok (.aload_n 0, 1) := by decide +kernel
theorem dL_law_1019 : decode cL_law 1019 = .ok (.iload_n 3, 1) := by decide +kernel
theorem dL_law_1020 : decode cL_law 1020 = .ok (.iconst 2, 1) := by decide +kernel
theorem dL_law_1021 : decode cL_law 1021 = .ok (.iadd, 1) := by decide +kernel
theorem dL_law_1022 : decode cL_law 1022 = .ok (.iaload, 1) := by decide +kernel
theorem dL_law_1023 : decode cL_law 1023 = .ok (.invokevirtual 140, 3) := by decide +kernel
theorem dL_law_1026 : decode cL_law 1026 = .ok (.aload_n 2, 1) := by decide +kernel
theorem dL_law_1027 : decode cL_law 1027 = .ok (.aload_n 0, 1) := by decide +kernel
theorem dL_law_1028 : decode cL_law 1028 = .ok (.iload_n 3, 1) := by decide +kernel
theorem dL_law_1029 : decode cL_law 1029 = .ok (.iconst 1, 1) := by decide +kernel
theorem dL_law_1030 : decode cL_law 1030 = .ok (.iadd, 1) := by decide +kernel
theorem dL_law_1031 : decode cL_law 1031 = .ok (.iaload, 1) := by decide +kernel
theorem dL_law_1032 : decode cL_law 1032 = .ok (.aload_n 0, 1) := by decide +kernel
theorem dL_law_1033 : decode cL_law 1033 = .ok (.iload_n 3, 1) := by decide +kernel
theorem dL_law_1034 : decode cL_law 1034 = .ok (.iconst 2, 1) := by decide +kernel
theorem dL_law_1035 : decode cL_law 1035 = .ok (.iadd, 1) := by decide +kernel
theorem dL_law_1036 : decode cL_law 1036 = .ok (.iaload, 1) := by decide +kernel
theorem dL_law_1037 : decode cL_law 1037 = .ok (.invokevirtual 143, 3) := by decide +kernel
theorem dL_law_1040 : decode cL_law 1040 = .ok (.lcmp, 1) := by decide +kernel
theorem dL_law_1041 : decode cL_law 1041 = .ok (.ifCond .eq 180, 3) := by decide +kernel
theorem dL_law_1044 : decode cL_law 1044 = .ok (.iconst 0, 1) := by decide +kernel
theorem dL_law_1045 : decode cL_law 1045 = .ok (.ireturn, 1) := by decide +kernel
theorem dL_law_1046 : decode cL_law 1046 = .ok (.aload_n 1, 1) := by decide +kernel
theorem dL_law_1047 : decode cL_law 1047 = .ok (.aload_n 0, 1) := by decide +kernel
theorem dL_law_1048 : decode cL_law 1048 = .ok (.iload_n 3, 1) := by decide +kernel
theorem dL_law_1049 : decode cL_law 1049 = .ok (.iconst 1, 1) := by decide +kernel
theorem dL_law_1050 : decode cL_law 1050 = .ok (.iadd, 1) := by decide +kernel
theorem dL_law_1051 : decode cL_law 1051 = .ok (.iaload, 1) := by decide +kernel
theorem dL_law_1052 : decode cL_law 1052 = .ok (.aload_n 0, 1) := by decide +kernel
theorem dL_law_1053 : decode cL_law 1053 = .ok (.iload_n 3, 1) := by decide +kernel
theorem dL_law_1054 : decode cL_law 1054 = .ok (.iconst 2, 1) := by decide +kernel
theorem dL_law_1055 : decode cL_law 1055 = .ok (.iadd, 1) := by decide +kernel
theorem dL_law_1056 : decode cL_law 1056 = .ok (.iaload, 1) := by decide +kernel
theorem dL_law_1057 : decode cL_law 1057 = .ok (.aload_n 0, 1) := by decide +kernel
theorem dL_law_1058 : decode cL_law 1058 = .ok (.iload_n 3, 1) := by decide +kernel
theorem dL_law_1059 : decode cL_law 1059 = .ok (.iconst 3, 1) := by decide +kernel
theorem dL_law_1060 : decode cL_law 1060 = .ok (.iadd, 1) := by decide +kernel
theorem dL_law_1061 : decode cL_law 1061 = .ok (.iaload, 1) := by decide +kernel
theorem dL_law_1062 : decode cL_law 1062 = .ok (.aload_n 0, 1) := by decide +kernel
theorem dL_law_1063 : decode cL_law 1063 = .ok (.iload_n 3, 1) := by decide +kernel
theorem dL_law_1064 : decode cL_law 1064 = .ok (.iconst 4, 1) := by decide +kernel
theorem dL_law_1065 : decode cL_law 1065 = .ok (.iadd, 1) := by decide +kernel
theorem dL_law_1066 : decode cL_law 1066 = .ok (.iaload, 1) := by decide +kernel
theorem dL_law_1067 : decode cL_law 1067 = .ok (.aload_n 0, 1) := by decide +kernel
theorem dL_law_1068 : decode cL_law 1068 = .ok (.iload_n 3, 1) := by decide +kernel
theorem dL_law_1069 : decode cL_law 1069 = .ok (.iconst 5, 1) := by decide +kernel
theorem dL_law_1070 : decode cL_law 1070 = .ok (.iadd, 1) := by decide +kernel
theorem dL_law_1071 : decode cL_law 1071 = .ok (.iaload, 1) := by decide +kernel
theorem dL_law_1072 : decode cL_law 1072 = .ok (.invokevirtual 144, 3) := by decide +kernel
theorem dL_law_1075 : decode cL_law 1075 = .ok (.aload_n 2, 1) := by decide +kernel
theorem dL_law_1076 : decode cL_law 1076 = .ok (.aload_n 0, 1) := by decide +kernel
theorem dL_law_1077 : decode cL_law 1077 = .ok (.iload_n 3, 1) := by decide +kernel
theorem dL_law_1078 : decode cL_law 1078 = .ok (.iconst 1, 1) := by decide +kernel
theorem dL_law_1079 : decode cL_law 1079 = .ok (.iadd, 1) := by decide +kernel
theorem dL_law_1080 : decode cL_law 1080 = .ok (.iaload, 1) := by decide +kernel
theorem dL_law_1081 : decode cL_law 1081 = .ok (.aload_n 0, 1) := by decide +kernel
theorem dL_law_1082 : decode cL_law 1082 = .ok (.iload_n 3, 1) := by decide +kernel
theorem dL_law_1083 : decode cL_law 1083 = .ok (.iconst 2, 1) := by decide +kernel
theorem dL_law_1084 : decode cL_law 1084 = .ok (.iadd, 1) := by decide +kernel
theorem dL_law_1085 : decode cL_law 1085 = .ok (.iaload, 1) := by decide +kernel
theorem dL_law_1086 : decode cL_law 1086 = .ok (.aload_n 0, 1) := by decide +kernel
theorem dL_law_1087 : decode cL_law 1087 = .ok (.iload_n 3, 1) := by decide +kernel
theorem dL_law_1088 : decode cL_law 1088 = .ok (.iconst 3, 1) := by decide +kernel
theorem dL_law_1089 : decode cL_law 1089 = .ok (.iadd, 1) := by decide +kernel
theorem dL_law_1090 : decode cL_law 1090 = .ok (.iaload, 1) := by decide +kernel
theorem dL_law_1091 : decode cL_law 1091 = .ok (.aload_n 0, 1) := by decide +kernel
theorem dL_law_1092 : decode cL_law 1092 = .ok (.iload_n 3, 1) := by decide +kernel
theorem dL_law_1093 : decode cL_law 1093 = .ok (.iconst 4, 1) := by decide +kernel
theorem dL_law_1094 : decode cL_law 1094 = .ok (.iadd, 1) := by decide +kernel
theorem dL_law_1095 : decode cL_law 1095 = .ok (.iaload, 1) := by decide +kernel
theorem dL_law_1096 : decode cL_law 1096 = .ok (.aload_n 0, 1) := by decide +kernel
theorem dL_law_1097 : decode cL_law 1097 = .ok (.iload_n 3, 1) := by decide +kernel
theorem dL_law_1098 : decode cL_law 1098 = .ok (.iconst 5, 1) := by decide +kernel
theorem dL_law_1099 : decode cL_law 1099 = .ok (.iadd, 1) := by decide +kernel
theorem dL_law_1100 : decode cL_law 1100 = .ok (.iaload, 1) := by decide +kernel
theorem dL_law_1101 : decode cL_law 1101 = .ok (.invokevirtual 148, 3) := by decide +kernel
theorem dL_law_1104 : decode cL_law 1104 = .ok (.if_icmp .eq 117, 3) := by decide +kernel
theorem dL_law_1107 : decode cL_law 1107 = .ok (.iconst 0, 1) := by decide +kernel
theorem dL_law_1108 : decode cL_law 1108 = .ok (.ireturn, 1) := by decide +kernel
theorem dL_law_1109 : decode cL_law 1109 = .ok (.aload_n 1, 1) := by decide +kernel
theorem dL_law_1110 : decode cL_law 1110 = .ok (.aload_n 0, 1) := by decide +kernel
theorem dL_law_1111 : decode cL_law 1111 = .ok (.iload_n 3, 1) := by decide +kernel
theorem dL_law_1112 : decode cL_law 1112 = .ok (.iconst 1, 1) := by decide +kernel
theorem dL_law_1113 : decode cL_law 1113 = .ok (.iadd, 1) := by decide +kernel
theorem dL_law_1114 : decode cL_law 1114 = .ok (.iaload, 1) := by decide +kernel
theorem dL_law_1115 : decode cL_law 1115 = .ok (.aload_n 0, 1) := by decide +kernel
theorem dL_law_1116 : decode cL_law 1116 = .ok (.iload_n 3, 1) := by decide +kernel
theorem dL_law_1117 : decode cL_law 1117 = .ok (.iconst 2, 1) := by decide +kernel
theorem dL_law_1118 : decode cL_law 1118 = .ok (.iadd, 1) := by decide +kernel
theorem dL_law_1119 : decode cL_law 1119 = .ok (.iaload, 1) := by decide +kernel
theorem dL_law_1120 : decode cL_law 1120 = .ok (.aload_n 0, 1) := by decide +kernel
theorem dL_law_1121 : decode cL_law 1121 = .ok (.iload_n 3, 1) := by decide +kernel
theorem dL_law_1122 : decode cL_law 1122 = .ok (.iconst 3, 1) := by decide +kernel
theorem dL_law_1123 : decode cL_law 1123 = .ok (.iadd, 1) := by decide +kernel
theorem dL_law_1124 : decode cL_law 1124 = .ok (.iaload, 1) := by decide +kernel
theorem dL_law_1125 : decode cL_law 1125 = .ok (.invokevirtual 149, 3) := by decide +kernel
theorem dL_law_1128 : decode cL_law 1128 = .ok (.aload_n 2, 1) := by decide +kernel
theorem dL_law_1129 : decode cL_law 1129 = .ok (.aload_n 0, 1) := by decide +kernel
theorem dL_law_1130 : decode cL_law 1130 = .ok (.iload_n 3, 1) := by decide +kernel
theorem dL_law_1131 : decode cL_law 1131 = .ok (.iconst 1, 1) := by decide +kernel
theorem dL_law_1132 : decode cL_law 1132 = .ok (.iadd, 1) := by decide +kernel
theorem dL_law_1133 : decode cL_law 1133 = .ok (.iaload, 1) := by decide +kernel
theorem dL_law_1134 : decode cL_law 1134 = .ok (.aload_n 0, 1) := by decide +kernel
theorem dL_law_1135 : decode cL_law 1135 = .ok (.iload_n 3, 1) := by decide +kernel
theorem dL_law_1136 : decode cL_law 1136 = .ok (.iconst 2, 1) := by decide +kernel
theorem dL_law_1137 : decode cL_law 1137 = .ok (.iadd, 1) := by decide +kernel
theorem dL_law_1138 : decode cL_law 1138 = .ok (.iaload, 1) := by decide +kernel
theorem dL_law_1139 : decode cL_law 1139 = .ok (.aload_n 0, 1) := by decide +kernel
theorem dL_law_1140 : decode cL_law 1140 = .ok (.iload_n 3, 1) := by decide +kernel
theorem dL_law_1141 : decode cL_law 1141 = .ok (.iconst 3, 1) := by decide +kernel
theorem dL_law_1142 : decode cL_law 1142 = .ok (.iadd, 1) := by decide +kernel
theorem dL_law_1143 : decode cL_law 1143 = .ok (.iaload, 1) := by decide +kernel
theorem dL_law_1144 : decode cL_law 1144 = .ok (.invokevirtual 152, 3) := by decide +kernel
theorem dL_law_1147 : decode cL_law 1147 = .ok (.if_icmp .eq 74, 3) := by decide +kernel
theorem dL_law_1150 : decode cL_law 1150 = .ok (.iconst 0, 1) := by decide +kernel
theorem dL_law_1151 : decode cL_law 1151 = .ok (.ireturn, 1) := by decide +kernel
theorem dL_law_1152 : decode cL_law 1152 = .ok (.aload_n 1, 1) := by decide +kernel
theorem dL_law_1153 : decode cL_law 1153 = .ok (.aload_n 0, 1) := by decide +kernel
theorem dL_law_1154 : decode cL_law 1154 = .ok (.iload_n 3, 1) := by decide +kernel
theorem dL_law_1155 : decode cL_law 1155 = .ok (.iconst 1, 1) := by decide +kernel
theorem dL_law_1156 : decode cL_law 1156 = .ok (.iadd, 1) := by decide +kernel
theorem dL_law_1157 : decode cL_law 1157 = .ok (.iaload, 1) := by decide +kernel
theorem dL_law_1158 : decode cL_law 1158 = .ok (.aload_n 0, 1) := by decide +kernel
theorem dL_law_1159 : decode cL_law 1159 = .ok (.iload_n 3, 1) := by decide +kernel
theorem dL_law_1160 : decode cL_law 1160 = .ok (.iconst 2, 1) := by decide +kernel
theorem dL_law_1161 : decode cL_law 1161 = .ok (.iadd, 1) := by decide +kernel
theorem dL_law_1162 : decode cL_law 1162 = .ok (.iaload, 1) := by decide +kernel
theorem dL_law_1163 : decode cL_law 1163 = .ok (.aload_n 0, 1) := by decide +kernel
theorem dL_law_1164 : decode cL_law 1164 = .ok (.iload_n 3, 1) := by decide +kernel
theorem dL_law_1165 : decode cL_law 1165 = .ok (.iconst 3, 1) := by decide +kernel
theorem dL_law_1166 : decode cL_law 1166 = .ok (.iadd, 1) := by decide +kernel
theorem dL_law_1167 : decode cL_law 1167 = .ok (.iaload, 1) := by decide +kernel
theorem dL_law_1168 : decode cL_law 1168 = .ok (.invokevirtual 153, 3) := by decide +kernel
theorem dL_law_1171 : decode cL_law 1171 = .ok (.aload_n 2, 1) := by decide +kernel
theorem dL_law_1172 : decode cL_law 1172 = .ok (.aload_n 0, 1) := by decide +kernel
theorem dL_law_1173 : decode cL_law 1173 = .ok (.iload_n 3, 1) := by decide +kernel
theorem dL_law_1174 : decode cL_law 1174 = .ok (.iconst 1, 1) := by decide +kernel
theorem dL_law_1175 : decode cL_law 1175 = .ok (.iadd, 1) := by decide +kernel
theorem dL_law_1176 : decode cL_law 1176 = .ok (.iaload, 1) := by decide +kernel
theorem dL_law_1177 : decode cL_law 1177 = .ok (.aload_n 0, 1) := by decide +kernel
theorem dL_law_1178 : decode cL_law 1178 = .ok (.iload_n 3, 1) := by decide +kernel
theorem dL_law_1179 : decode cL_law 1179 = .ok (.iconst 2, 1) := by decide +kernel
theorem dL_law_1180 : decode cL_law 1180 = .ok (.iadd, 1) := by decide +kernel
theorem dL_law_1181 : decode cL_law 1181 = .ok (.iaload, 1) := by decide +kernel
theorem dL_law_1182 : decode cL_law 1182 = .ok (.aload_n 0, 1) := by decide +kernel
theorem dL_law_1183 : decode cL_law 1183 = .ok (.iload_n 3, 1) := by decide +kernel
theorem dL_law_1184 : decode cL_law 1184 = .ok (.iconst 3, 1) := by decide +kernel
theorem dL_law_1185 : decode cL_law 1185 = .ok (.iadd, 1) := by decide +kernel
theorem dL_law_1186 : decode cL_law 1186 = .ok (.iaload, 1) := by decide +kernel
theorem dL_law_1187 : decode cL_law 1187 = .ok (.invokevirtual 156, 3) := by decide +kernel
theorem dL_law_1190 : decode cL_law 1190 = .ok (.if_icmp .eq 31, 3) := by decide +kernel
theorem dL_law_1193 : decode cL_law 1193 = .ok (.iconst 0, 1) := by decide +kernel
theorem dL_law_1194 : decode cL_law 1194 = .ok (.ireturn, 1) := by decide +kernel
theorem dL_law_1195 : decode cL_law 1195 = .ok (.aload_n 1, 1) := by decide +kernel
theorem dL_law_1196 : decode cL_law 1196 = .ok (.invokevirtual 157, 3) := by decide +kernel
theorem dL_law_1199 : decode cL_law 1199 = .ok (.aload_n 2, 1) := by decide +kernel
theorem dL_law_1200 : decode cL_law 1200 = .ok (.invokevirtual 160, 3) := by decide +kernel
theorem dL_law_1203 : decode cL_law 1203 = .ok (.if_icmp .eq 18, 3) := by decide +kernel
theorem dL_law_1206 : decode cL_law 1206 = .ok (.iconst 0, 1) := by decide +kernel
theorem dL_law_1207 : decode cL_law 1207 = .ok (.ireturn, 1) := by decide +kernel
theorem dL_law_1208 : decode cL_law 1208 = .ok (.aload_n 1, 1) := by decide +kernel
theorem dL_law_1209 : decode cL_law 1209 = .ok (.invokevirtual 161, 3) := by decide +kernel
theorem dL_law_1212 : decode cL_law 1212 = .ok (.aload_n 2, 1) := by decide +kernel
theorem dL_law_1213 : decode cL_law 1213 = .ok (.invokevirtual 164, 3) := by decide +kernel
theorem dL_law_1216 : decode cL_law 1216 = .ok (.if_icmp .eq 5, 3) := by decide +kernel
theorem dL_law_1219 : decode cL_law 1219 = .ok (.iconst 0, 1) := by decide +kernel
theorem dL_law_1220 : decode cL_law 1220 = .ok (.ireturn, 1) := by decide +kernel
theorem dL_law_1221 : decode cL_law 1221 = .ok (.iinc 3 6, 3) := by decide +kernel
theorem dL_law_1224 : decode cL_law 1224 = .ok (.goto (-1206), 3) := by decide +kernel
theorem dL_law_1227 : decode cL_law 1227 = .ok (.iconst 1, 1) := by decide +kernel
theorem dL_law_1228 : decode cL_law 1228 = .ok (.ireturn, 1) := by decide +kernel
end
section
/-! the words that every method is given: those of the tables that a callee may be handed -/
def zT : List Cond := lw_tbl.filter goodWord
theorem zT_tbl {w : Cond} (h : w ∈ zT) : w ∈ lw_tbl := (List.mem_filter.mp h).1
theorem zT_good : GoodIn zT zT := fun _ h => ⟨h, good_of_word (List.mem_filter.mp h).2⟩
theorem zT_of {w : Cond} {i : Nat} (h : tables_1[i]? = some w) (hg : goodWord w = true) : w ∈ zT := List.mem_filter.mpr ⟨List.mem_append_right _ (List.mem_of_getElem? h), hg⟩
theorem zT_sel {w : Cond} {i : Nat} (h : (k2_sels lw_privs)[i]? = some w) (hg : goodWord w = true) : w ∈ zT := List.mem_filter.mpr ⟨List.mem_append_left _ (List.mem_of_getElem? h), hg⟩
/-- a method: its name, its bytes, how many locals, what it answers -/
abbrev Mth : Type := MethodName × ByteArray × Nat × Option FieldType
def zws (M : Mth) : List Cond := Cond.code M.1 M.2.1 M.2.2.1 M.2.2.2 :: zT
/-! classes by number -/
def zN (c : Nat) : Nat := match c with | 0 => 5 | 1 => 3 | 2 => 11 | 3 => 2 | 4 => 2 | 5 => 9 | 6 => 6 | 7 => 4 | 8 => 4 | 9 => 11 | 10 => 28 | _ => 0
def zR (c : Nat) : String := match c with | 0 => RX0 | 1 => RX1 | 2 => RX3 | 3 => RX4 | 4 => RX5 | 5 => RX6 | 6 => RX7 | 7 => RX8 | 8 => RX9 | 9 => RX10 | 10 => RX11 | _ => ""
def zTb (c : Nat) : u_T := match c with | 0 => TX0 | 1 => TX1 | 2 => TX3 | 3 => TX4 | 4 => TX5 | 5 => TX6 | 6 => TX7 | 7 => TX8 | 8 => TX9 | 9 => TX10 | 10 => TX11 | _ => TX0
def zty (c : Nat) : Nat → FieldType := match c with | 0 => tyX0 | 1 => tyX1 | 2 => tyX3 | 3 => tyX4 | 4 => tyX5 | 5 => tyX6 | 6 => tyX7 | 7 => tyX8 | 8 => tyX9 | 9 => tyX10 | 10 => tyX11 | _ => tyX0
/-- a field's kind: 0 whole numbers of 32 bits, 1 of 64, 2 references -/
def zkd (T : FieldType) : Nat := match T with | .long => 1 | .object _ => 2 | .array _ => 2 | _ => 0
def zdef (k : Nat) : Value := if k = 0 then .int 0 else if k = 1 then .long 0 else .null
theorem zcl_at : ∀ c, c < 11 → vwCl[c]? = some (zR c, zTb c, zN c) := fun c h => match c, h with
  | 0, _ => rfl | 1, _ => rfl | 2, _ => rfl | 3, _ => rfl | 4, _ => rfl | 5, _ => rfl | 6, _ => rfl | 7, _ => rfl | 8, _ => rfl | 9, _ => rfl | 10, _ => rfl
  | n + 11, h => absurd h (by omega)
set_option maxRecDepth 100000 in
theorem zcl_ws : ∀ c, c < 11 → ∀ w ∈ u_ws (zR c) (zTb c) (zN c), w ∈ zT := by decide +kernel
theorem zcl_ty : ∀ c, c < 11 → ∀ k, k < zN c → parseFieldDescriptor (zTb c k).2.2.1 = some (zty c k) := by decide +kernel
theorem zcl_nm : ∀ c, c < 11 → ∀ a, a < zN c → ∀ b, b < zN c → a ≠ b → (zTb c a).2.1 ≠ (zTb c b).2.1 := by decide +kernel
theorem zcl_def : ∀ c, c < 11 → ∀ k, k < zN c → defaultValue (zty c k) = zdef (zkd (zty c k)) := by decide +kernel
theorem zcl_own : ∀ c, c < 11 → ∀ k, k < zN c → (zTb c k).1 = zR c := by decide +kernel
/-! the abstract heap: how many cells, how many slots were made, each cell's shape, ints, longs, references by cell and place. A shape: an object of a class, or a row of a sort (0 int, 1 long, 2 byte, 3 Row) and a length. A reference is a cell's number; number 0 is the script. -/
abbrev Shp : Type := Nat ⊕ (Nat × Nat)
def AH : Type := Nat × Nat × (Nat → Option Shp) × (Nat → Nat → Int32) × (Nat → Nat → Int64) × (Nat → Nat → Option Nat)
def AH.n (h : AH) : Nat := h.1
def AH.u (h : AH) : Nat := h.2.1
def AH.sh (h : AH) : Nat → Option Shp := h.2.2.1
def AH.I (h : AH) : Nat → Nat → Int32 := h.2.2.2.1
def AH.L (h : AH) : Nat → Nat → Int64 := h.2.2.2.2.1
def AH.P (h : AH) : Nat → Nat → Option Nat := h.2.2.2.2.2
def AH.wI (h : AH) (k : Nat) (f : Nat → Int32) : AH := (h.n, h.u, h.sh, va_up h.I k f, h.L, h.P)
def AH.wL (h : AH) (k : Nat) (f : Nat → Int64) : AH := (h.n, h.u, h.sh, h.I, va_up h.L k f, h.P)
def AH.wP (h : AH) (k : Nat) (f : Nat → Option Nat) : AH := (h.n, h.u, h.sh, h.I, h.L, va_up h.P k f)
def AH.sI (h : AH) (k j : Nat) (x : Int32) : AH := h.wI k (va_up (h.I k) j x)
def AH.sL (h : AH) (k j : Nat) (x : Int64) : AH := h.wL k (va_up (h.L k) j x)
def AH.sP (h : AH) (k j : Nat) (x : Option Nat) : AH := h.wP k (va_up (h.P k) j x)
def AH.push (h : AH) (sh : Shp) (sz : Nat) : AH := (h.n + 1, h.u + sz, va_up h.sh h.n (some sh), va_up h.I h.n (fun _ => 0), va_up h.L h.n (fun _ => 0), va_up h.P h.n (fun _ => none))
def AH.ok (h : AH) : Prop := 1 ≤ h.n ∧ ∀ k, (h.sh k).isSome = true ↔ (0 < k ∧ k < h.n)
theorem AH.ok_push {h : AH} {sh : Shp} {sz : Nat} (H : h.ok) : (h.push sh sz).ok := by
  refine ⟨Nat.le_succ_of_le H.1, fun k => ?_⟩
  show (va_up h.sh h.n (some sh) k).isSome = true ↔ (0 < k ∧ k < h.n + 1)
  have h1 := H.1
  by_cases hk : k = h.n
  · subst hk; rw [va_up_self]; simp; omega
  · rw [va_up_ne _ _ hk, H.2 k]; omega
def zadr (b b0 k : Nat) : Nat := if k = 0 then b else b0 + k
def zv (b b0 : Nat) (v : Value) : Value := match v with | .ref k => .ref (zadr b b0 k) | v => v
theorem zv_cat (b b0 : Nat) (v : Value) : (zv b b0 v).category = v.category := by cases v <;> rfl
def zcf (b b0 : Nat) (h : AH) (k : Nat) (kd j : Nat) : Value := if kd = 0 then .int (h.I k j) else if kd = 1 then .long (h.L k j) else va_rf ((h.P k j).map (zadr b b0))
def zfs (b b0 : Nat) (h : AH) (k c : Nat) : List Value := (List.range (zN c)).map fun j => zcf b b0 h k (zkd (zty c j)) j
def zct (b b0 : Nat) (h : AH) (k t : Nat) : (Nat → Int32) ⊕ (Nat → Int64) ⊕ (Nat → UInt32) ⊕ (Nat → UInt64) ⊕ (Nat → Option Nat) :=
  if t = 1 then .inr (.inl (h.L k)) else if t = 3 then .inr (.inr (.inr (.inr fun j => (h.P k j).map (zadr b b0)))) else .inl (h.I k)
def zcell (b b0 : Nat) (dA : Nat → ClassId) (h : AH) (k : Nat) : va_E := match h.sh k with
  | some (.inl c) => .inr (c, zfs b b0 h k c)
  | some (.inr (t, len)) => .inl (dA t, (len, zct b b0 h k t))
  | none => .inr (0, [])
def zw (b b0 : Nat) (dA : Nat → ClassId) (h : AH) : va_W := (List.range (h.n - 1)).map fun i => (b0 + (i + 1), zcell b b0 dA h (i + 1))
def ztys (dA : Nat → ClassId) : List (ClassId × FieldType) := [(dA 0, .int), (dA 1, .long), (dA 2, .byte), (dA 3, .object RX8)]
theorem zw_get {b b0 : Nat} {dA : Nat → ClassId} {h : AH} {i : Nat} (hi : i < h.n - 1) : (zw b b0 dA h)[i]? = some (b0 + (i + 1), zcell b b0 dA h (i + 1)) := by simp [zw, hi]
theorem zw_len {b b0 : Nat} {dA : Nat → ClassId} {h : AH} : (zw b b0 dA h).length = h.n - 1 := by simp [zw]
theorem zw_lt {b b0 : Nat} {dA : Nat → ClassId} {h : AH} {i : Nat} {q : Nat × va_E} (hq : (zw b b0 dA h)[i]? = some q) : i < h.n - 1 := by
  have := (List.getElem?_eq_some_iff.mp hq).1
  rwa [zw_len] at this
theorem zw_at {b b0 : Nat} {dA : Nat → ClassId} {h : AH} {k : Nat} {x : Shp} (hok : h.ok) (hs : h.sh k = some x) : (zw b b0 dA h)[k - 1]? = some (zadr b b0 k, zcell b b0 dA h k) := by
  have hk := (hok.2 k).mp (by rw [hs]; rfl)
  have e : k - 1 + 1 = k := by omega
  rw [zw_get (by omega), e, zadr, if_neg (by omega)]
theorem zw_D {b b0 : Nat} {dA : Nat → ClassId} {h : AH} : va_D (fun q => b0 < q) (zw b b0 dA h) := by
  refine ⟨fun i j p q hp hq e => ?_, fun k q hq => ?_⟩
  · rw [zw_get (zw_lt hp)] at hp
    rw [zw_get (zw_lt hq)] at hq
    cases hp; cases hq
    simp only at e
    omega
  · rw [zw_get (zw_lt hq)] at hq
    cases hq
    simp only
    omega
theorem zcell_o {b b0 : Nat} {dA : Nat → ClassId} {h : AH} {k c : Nat} (hs : h.sh k = some (.inl c)) : zcell b b0 dA h k = .inr (c, zfs b b0 h k c) := by simp [zcell, hs]
theorem zcell_a {b b0 : Nat} {dA : Nat → ClassId} {h : AH} {k t len : Nat} (hs : h.sh k = some (.inr (t, len))) : zcell b b0 dA h k = .inl (dA t, (len, zct b b0 h k t)) := by simp [zcell, hs]
theorem zfs_get {b b0 : Nat} {h : AH} {k c j : Nat} (hj : j < zN c) : (zfs b b0 h k c)[j]? = some (zcf b b0 h k (zkd (zty c j)) j) := by simp [zfs, hj]
/-- a cell's new picture, the others as they were -/
theorem zw_set {b b0 : Nat} {dA : Nat → ClassId} {h h' : AH} {k : Nat} (hn : h'.n = h.n) (ho : ∀ j, j ≠ k → zcell b b0 dA h' j = zcell b b0 dA h j) (hk : 0 < k) : (zw b b0 dA h).set (k - 1) (zadr b b0 k, zcell b b0 dA h' k) = zw b b0 dA h' := by
  apply List.ext_getElem?
  intro i
  rw [List.getElem?_set]
  by_cases hi : k - 1 = i
  · subst hi
    rw [if_pos rfl]
    by_cases hl : k - 1 < h.n - 1
    · rw [if_pos (by rw [zw_len]; exact hl), zw_get (by rw [hn]; exact hl)]
      have e : k - 1 + 1 = k := by omega
      rw [e, zadr, if_neg (by omega)]
    · rw [if_neg (by rw [zw_len]; exact hl)]
      symm
      rw [List.getElem?_eq_none_iff, zw_len, hn]
      omega
  · rw [if_neg hi]
    by_cases hl : i < h.n - 1
    · rw [zw_get hl, zw_get (by rw [hn]; exact hl), ho (i + 1) (by omega)]
    · rw [List.getElem?_eq_none_iff.mpr (by rw [zw_len]; omega), List.getElem?_eq_none_iff.mpr (by rw [zw_len, hn]; omega)]
theorem zw_push {b b0 : Nat} {dA : Nat → ClassId} {h : AH} {sh : Shp} {sz : Nat} (hok : h.ok) : zw b b0 dA (h.push sh sz) = zw b b0 dA h ++ [(b0 + h.n, zcell b b0 dA (h.push sh sz) h.n)] := by
  have h1 := hok.1
  have e : (h.push sh sz).n - 1 = (h.n - 1) + 1 := by show h.n + 1 - 1 = _; omega
  unfold zw
  rw [e, List.range_succ, List.map_append]
  congr 1
  · apply List.map_congr_left
    intro i hi
    have hi := List.mem_range.mp hi
    have hne : i + 1 ≠ h.n := by omega
    simp only [zcell, AH.push, AH.sh, AH.I, AH.L, AH.P, zfs, zct, zcf, va_up_ne _ _ hne]
  · have e2 : h.n - 1 + 1 = h.n := by omega
    simp [e2]
theorem zc_wI {b b0 : Nat} {dA : Nat → ClassId} {h : AH} {k : Nat} {f : Nat → Int32} : ∀ j, j ≠ k → zcell b b0 dA (h.wI k f) j = zcell b b0 dA h j := fun j hj => by
  simp only [zcell, AH.wI, AH.sh, AH.I, AH.L, AH.P, zfs, zct, zcf, va_up_ne _ _ hj]
theorem zc_wL {b b0 : Nat} {dA : Nat → ClassId} {h : AH} {k : Nat} {f : Nat → Int64} : ∀ j, j ≠ k → zcell b b0 dA (h.wL k f) j = zcell b b0 dA h j := fun j hj => by
  simp only [zcell, AH.wL, AH.sh, AH.I, AH.L, AH.P, zfs, zct, zcf, va_up_ne _ _ hj]
theorem zc_wP {b b0 : Nat} {dA : Nat → ClassId} {h : AH} {k : Nat} {f : Nat → Option Nat} : ∀ j, j ≠ k → zcell b b0 dA (h.wP k f) j = zcell b b0 dA h j := fun j hj => by
  simp only [zcell, AH.wP, AH.sh, AH.I, AH.L, AH.P, zfs, zct, zcf, va_up_ne _ _ hj]
theorem zfs_sI {b b0 : Nat} {h : AH} {k c j : Nat} {x : Int32} (hj : zkd (zty c j) = 0) : (zfs b b0 h k c).set j (.int x) = zfs b b0 (h.sI k j x) k c := by
  apply List.ext_getElem?
  intro i
  rw [List.getElem?_set]
  by_cases hi : i < zN c
  · rw [zfs_get hi, zfs_get hi]
    by_cases e : j = i
    · subst e; simp [zfs, hi, zcf, hj, AH.sI, AH.wI, AH.I, va_up_self]
    · have e' : i ≠ j := fun q => e q.symm
      simp [e, zcf, AH.sI, AH.wI, AH.I, AH.L, AH.P, va_up_self, va_up_ne _ _ e']
  · have e1 : ∀ h : AH, (zfs b b0 h k c)[i]? = none := fun h => List.getElem?_eq_none_iff.mpr (by simp [zfs]; omega)
    rw [e1, e1]
    split <;> simp [zfs]
    omega
theorem zfs_sL {b b0 : Nat} {h : AH} {k c j : Nat} {x : Int64} (hj : zkd (zty c j) = 1) : (zfs b b0 h k c).set j (.long x) = zfs b b0 (h.sL k j x) k c := by
  apply List.ext_getElem?
  intro i
  rw [List.getElem?_set]
  by_cases hi : i < zN c
  · rw [zfs_get hi, zfs_get hi]
    by_cases e : j = i
    · subst e; simp [zfs, hi, zcf, hj, AH.sL, AH.wL, AH.L, va_up_self]
    · have e' : i ≠ j := fun q => e q.symm
      simp [e, zcf, AH.sL, AH.wL, AH.I, AH.L, AH.P, va_up_self, va_up_ne _ _ e']
  · have e1 : ∀ h : AH, (zfs b b0 h k c)[i]? = none := fun h => List.getElem?_eq_none_iff.mpr (by simp [zfs]; omega)
    rw [e1, e1]
    split <;> simp [zfs]
    omega
theorem zfs_sP {b b0 : Nat} {h : AH} {k c j : Nat} {x : Option Nat} (hj : zkd (zty c j) = 2) : (zfs b b0 h k c).set j (va_rf (x.map (zadr b b0))) = zfs b b0 (h.sP k j x) k c := by
  apply List.ext_getElem?
  intro i
  rw [List.getElem?_set]
  by_cases hi : i < zN c
  · rw [zfs_get hi, zfs_get hi]
    by_cases e : j = i
    · subst e; simp [zfs, hi, zcf, hj, AH.sP, AH.wP, AH.P, va_up_self]
    · have e' : i ≠ j := fun q => e q.symm
      simp [e, zcf, AH.sP, AH.wP, AH.I, AH.L, AH.P, va_up_self, va_up_ne _ _ e']
  · have e1 : ∀ h : AH, (zfs b b0 h k c)[i]? = none := fun h => List.getElem?_eq_none_iff.mpr (by simp [zfs]; omega)
    rw [e1, e1]
    split <;> simp [zfs]
    omega
end
section
/-- the law's own script: reference 0 -/
def zX (X : Option (Nat × (Nat → Int32))) (b b0 : Nat) (s : State) : Prop := match X with | none => True | some x => va_X b x.1 x.2 s s.heap ∧ b < s.heap.size ∧ b ≤ b0
def zC (M : Mth) (d : Nat) (X : Option (Nat × (Nat → Int32))) (b b0 : Nat) (dC : Nat → ClassId) (dI : Nat → Nat → Nat) (dA : Nat → ClassId) (p : Program) (l : Launch) (e : Env) (R : Room) (s : State) (m : MethodId) (args : Array Value) (below : List Frame) (meth : Method) (co : Code) : Prop :=
  p.tables.exec = Jvm.exec ∧ co.code = M.2.1 ∧ co.maxLocals = M.2.2.1 ∧ s.vm.findClass M.1.cls = some m.cls ∧ (∀ w ∈ zT, w.before args s = true) ∧ (M.1.name = "<init>" → meth.name = "<init>") ∧ d ≤ R.frames ∧ 60 * d ≤ R.locals ∧ b0 < s.heap.size ∧ va_K (dC, dI) vwCl (ztys dA) s ∧ zX X b b0 s ∧ va_AO RX8 s
def zH (b b0 : Nat) (dC : Nat → ClassId) (dI : Nat → Nat → Nat) (dA : Nat → ClassId) (s : State) (h : AH) (H : Heap) (locs : List Loc) (cells : Nat) : Prop :=
  va_P (dC, dI) vwCl (zw b b0 dA h) H ∧ va_S (fun q => b0 < q) s.heap H locs ∧ s.heap.size + cells = b0 + h.n
def zl (b b0 : Nat) (ls : List (Nat × Value)) : List (Nat × Value) := ls.map fun q => (q.1, zv b b0 q.2)
def zri (r : Option FieldType) : Instr := match r with | none => .return_ | some .long => .lreturn | some (.object _) => .areturn | some (.array _) => .areturn | some _ => .ireturn
/-- an answer that a method of that sort may give -/
def zret (r : Option FieldType) (v : Option Value) : Prop := match r, v with
  | none, none => True
  | some t, some (.int x) => narrow t (.int x) = .int x ∧ zri (some t) = .ireturn
  | some t, some (.long _) => t = .long
  | some t, some (.ref _) => (∃ n, t = .object n) ∨ ∃ u, t = .array u
  | some t, some .null => (∃ n, t = .object n) ∨ ∃ u, t = .array u
  | _, _ => False
def zSt (M : Mth) (h : AH) (r : Option Value) (h1 : AH) : Prop := h.n ≤ h1.n ∧ h.u ≤ h1.u ∧ (h.ok → h1.ok) ∧ zret M.2.2.2 r
/-- from (pc, ls, st, h) the method comes to its return with r over h1 -/
def zW (X : Option (Nat × (Nat → Int32))) (M : Mth) (d pc : Nat) (ls : List (Nat × Value)) (st : List Value) (h : AH) (r : Option Value) (h1 : AH) : Prop := zSt M h r h1 ∧
  (h.ok → ∀ (b b0 : Nat) (dC : Nat → ClassId) (dI : Nat → Nat → Nat) (dA : Nat → ClassId) (p : Program) (l : Launch) (e : Env) (R : Room) (s : State) (m : MethodId) (args : Array Value) (below : List Frame) (meth : Method) (co : Code) (H : Heap) (locs : List Loc) (cells slots : Nat) (lsA : Array Slot) (Q : State → Prop), zC M d X b b0 dC dI dA p l e R s m args below meth co → zH b b0 dC dI dA s h H locs cells → lv_has lsA M.2.2.1 (zl b b0 ls) → cells + (h1.n - h.n) ≤ R.cells → slots + (h1.u - h.u) ≤ R.slots →
    (∀ (H' : Heap) (locs' : List Loc) (pc' : Nat) (lsB : Array Slot), zH b b0 dC dI dA s h1 H' locs' (cells + (h1.n - h.n)) → decode M.2.1 pc' = .ok (zri M.2.2.2, 1) → W p l e R s m args below meth co H' locs' (cells + (h1.n - h.n)) (slots + (h1.u - h.u)) Q (F0 m pc' lsB (r.map (zv b b0)).toList)) →
    W p l e R s m args below meth co H locs cells slots Q (F0 m pc lsA (st.map (zv b b0))))
def zQ (X : Option (Nat × (Nat → Int32))) (M : Mth) (d pc : Nat) (ls : List (Nat × Value)) (st : List Value) (h : AH) (Qp : Option Value → AH → Prop) : Prop := ∃ r h1, zW X M d pc ls st h r h1 ∧ Qp r h1
theorem zl_at {b b0 : Nat} {ls : List (Nat × Value)} {k i : Nat} {v : Value} (h : ls[k]? = some (i, v)) : (zl b b0 ls)[k]? = some (i, zv b b0 v) := by simp [zl, h]
def zset1 (ls : List (Nat × Value)) (i : Nat) (v : Value) : List (Nat × Value) := (i, v) :: ls.filter (fun q => !(q.1 == i) && !(q.1 + 1 == i && q.2.category == 2))
def zset2 (ls : List (Nat × Value)) (i : Nat) (v : Value) : List (Nat × Value) := (i, v) :: ls.filter (fun q => !(q.1 == i) && (!(q.1 == i + 1) && !(q.1 + 1 == i && q.2.category == 2)))
theorem zl_set1 {b b0 : Nat} {ls : List (Nat × Value)} {i : Nat} {v : Value} : (i, zv b b0 v) :: (zl b b0 ls).filter (fun q => !(q.1 == i) && !(q.1 + 1 == i && q.2.category == 2)) = zl b b0 (zset1 ls i v) := by
  simp only [zl, zset1, List.map_cons, List.filter_map]
  congr 2
  apply List.filter_congr
  intro q _
  simp only [Function.comp, zv_cat]
theorem zl_set2 {b b0 : Nat} {ls : List (Nat × Value)} {i : Nat} {v : Value} : (i, zv b b0 v) :: (zl b b0 ls).filter (fun q => !(q.1 == i) && (!(q.1 == i + 1) && !(q.1 + 1 == i && q.2.category == 2))) = zl b b0 (zset2 ls i v) := by
  simp only [zl, zset2, List.map_cons, List.filter_map]
  congr 2
  apply List.filter_congr
  intro q _
  simp only [Function.comp, zv_cat]
theorem zl_sub {b b0 : Nat} {ls ls' : List (Nat × Value)} {ks : List Nat} (h : lv_pick ls ks = ls') : lv_pick (zl b b0 ls) ks = zl b b0 ls' := by
  subst h
  simp only [lv_pick, zl, List.map_filterMap]
  apply congrArg (fun f => List.filterMap f ks)
  funext k
  simp
theorem zSt.refl {M : Mth} {h : AH} {r : Option Value} (hr : zret M.2.2.2 r) : zSt M h r h := ⟨Nat.le_refl _, Nat.le_refl _, id, hr⟩
/-- a step that leaves the heap -/
theorem zq_move {X : Option (Nat × (Nat → Int32))} {M : Mth} {d pc pc' : Nat} {ls ls' : List (Nat × Value)} {st st' : List Value} {h : AH} {Qp : Option Value → AH → Prop}
    (hs : h.ok → ∀ (b b0 : Nat) (dC : Nat → ClassId) (dI : Nat → Nat → Nat) (dA : Nat → ClassId) (p : Program) (l : Launch) (e : Env) (R : Room) (s : State) (m : MethodId) (args : Array Value) (below : List Frame) (meth : Method) (co : Code) (H : Heap) (locs : List Loc) (cells slots : Nat) (lsA : Array Slot) (Q : State → Prop), zC M d X b b0 dC dI dA p l e R s m args below meth co → zH b b0 dC dI dA s h H locs cells → lv_has lsA M.2.2.1 (zl b b0 ls) →
      (∀ lsB : Array Slot, lv_has lsB M.2.2.1 (zl b b0 ls') → W p l e R s m args below meth co H locs cells slots Q (F0 m pc' lsB (st'.map (zv b b0)))) → W p l e R s m args below meth co H locs cells slots Q (F0 m pc lsA (st.map (zv b b0))))
    (k : zQ X M d pc' ls' st' h Qp) : zQ X M d pc ls st h Qp := by
  obtain ⟨r, h1, ⟨hst, hw⟩, hq⟩ := k
  exact ⟨r, h1, ⟨hst, fun hok b b0 dC dI dA p l e R s m args below meth co H locs cells slots lsA Q hC hH hl h2 h3 he => hs hok b b0 dC dI dA p l e R s m args below meth co H locs cells slots lsA Q hC hH hl fun lsB hlB => hw hok b b0 dC dI dA p l e R s m args below meth co H locs cells slots lsB Q hC hH hlB h2 h3 he⟩, hq⟩
/-- a step that moves the heap, and makes nothing -/
theorem zq_heap {X : Option (Nat × (Nat → Int32))} {M : Mth} {d pc pc' : Nat} {ls : List (Nat × Value)} {st st' : List Value} {h h' : AH} {Qp : Option Value → AH → Prop} (hn : h'.n = h.n) (hu : h'.u = h.u) (hk : h.ok → h'.ok)
    (hs : h.ok → ∀ (b b0 : Nat) (dC : Nat → ClassId) (dI : Nat → Nat → Nat) (dA : Nat → ClassId) (p : Program) (l : Launch) (e : Env) (R : Room) (s : State) (m : MethodId) (args : Array Value) (below : List Frame) (meth : Method) (co : Code) (H : Heap) (locs : List Loc) (cells slots : Nat) (lsA : Array Slot) (Q : State → Prop), zC M d X b b0 dC dI dA p l e R s m args below meth co → zH b b0 dC dI dA s h H locs cells → lv_has lsA M.2.2.1 (zl b b0 ls) →
      (∀ (H' : Heap) (locs' : List Loc), va_P (dC, dI) vwCl (zw b b0 dA h') H' → va_S (fun q => b0 < q) s.heap H' locs' → W p l e R s m args below meth co H' locs' cells slots Q (F0 m pc' lsA (st'.map (zv b b0)))) → W p l e R s m args below meth co H locs cells slots Q (F0 m pc lsA (st.map (zv b b0))))
    (k : zQ X M d pc' ls st' h' Qp) : zQ X M d pc ls st h Qp := by
  obtain ⟨r, h1, ⟨⟨s1, s2, s3, s4⟩, hw⟩, hq⟩ := k
  rw [hn] at s1
  rw [hu] at s2
  rw [hn, hu] at hw
  exact ⟨r, h1, ⟨⟨s1, s2, fun z => s3 (hk z), s4⟩, fun hok b b0 dC dI dA p l e R s m args below meth co H locs cells slots lsA Q hC hH hl h2 h3 he => hs hok b b0 dC dI dA p l e R s m args below meth co H locs cells slots lsA Q hC hH hl fun H' locs' a1 a2 => hw (hk hok) b b0 dC dI dA p l e R s m args below meth co H' locs' cells slots lsA Q hC ⟨a1, a2, by rw [hn]; exact hH.2.2⟩ hl h2 h3 he⟩, hq⟩
/-- the heap's size, from the cells that were made -/
theorem zsz {b b0 : Nat} {dC : Nat → ClassId} {dI : Nat → Nat → Nat} {dA : Nat → ClassId} {p : Program} {l : Launch} {e : Env} {R : Room} {s : State} {m : MethodId} {args : Array Value} {below : List Frame} {meth : Method} {co : Code} {H : Heap} {locs : List Loc} {cells slots : Nat} {Q : State → Prop} {g : JFrame} {h : AH} (hok : h.ok) (hbs : b0 < s.heap.size) (hH : zH b b0 dC dI dA s h H locs cells)
    (k : H.size = b0 + h.n → W p l e R s m args below meth co H locs cells slots Q g) : W p l e R s m args below meth co H locs cells slots Q g := by
  intro T hT X
  have h1 := X.heapSize
  rw [hT] at h1
  have h2 := hH.2.1.1
  have h3 := hH.2.2
  have h4 := hok.1
  refine k ?_ T hT X
  by_cases hn : h.n = 1
  · omega
  · have h5 := (hH.1 (h.n - 2) _ (zw_get (by omega))).lt
    simp only at h5
    omega
theorem zfresh {b b0 : Nat} {dC : Nat → ClassId} {dI : Nat → Nat → Nat} {dA : Nat → ClassId} {p : Program} {l : Launch} {e : Env} {R : Room} {s : State} {m : MethodId} {args : Array Value} {below : List Frame} {meth : Method} {co : Code} {H1 : Heap} {locs : List Loc} {cells slots : Nat} {Q : State → Prop} {g : JFrame} {h : AH} {q : Nat} {x : va_E} (hok : h.ok) (hc : s.heap.size + cells = b0 + h.n) (hP : va_P (dC, dI) vwCl (zw b b0 dA h ++ [(q, x)]) H1) (hD : va_D (fun q => b0 < q) (zw b b0 dA h ++ [(q, x)]))
    (k : q = b0 + h.n → W p l e R s m args below meth co H1 locs (cells + 1) slots Q g) : W p l e R s m args below meth co H1 locs (cells + 1) slots Q g := by
  intro T hT X
  have h1 := X.heapSize
  rw [hT] at h1
  have h4 := hok.1
  have hq : (zw b b0 dA h ++ [(q, x)])[h.n - 1]? = some (q, x) := by
    rw [List.getElem?_append_right (by rw [zw_len]; omega), zw_len, Nat.sub_self]; rfl
  have h5 := (hP _ _ hq).lt
  have h6 := hD.2 _ _ hq
  simp only at h5 h6
  refine k ?_ T hT X
  apply Classical.byContradiction
  intro hne
  have hlt : q - b0 - 1 < h.n - 1 := by omega
  have h7 : (zw b b0 dA h ++ [(q, x)])[q - b0 - 1]? = some (b0 + (q - b0 - 1 + 1), zcell b b0 dA h (q - b0 - 1 + 1)) := by
    rw [List.getElem?_append_left (by rw [zw_len]; exact hlt)]; exact zw_get hlt
  have h8 := hD.1 _ _ _ _ h7 hq (by simp only; omega)
  omega
/-! returns -/
theorem zq_ret {X : Option (Nat × (Nat → Int32))} {M : Mth} {d pc : Nat} {ls : List (Nat × Value)} {h : AH} {Qp : Option Value → AH → Prop} (r : Option Value) (hd : decode M.2.1 pc = .ok (zri M.2.2.2, 1)) (hr : zret M.2.2.2 r) (hq : Qp r h) : zQ X M d pc ls r.toList h Qp := by
  refine ⟨r, h, ⟨zSt.refl hr, fun hok b b0 dC dI dA p l e R s m args below meth co H locs cells slots lsA Q hC hH hl h2 h3 he => ?_⟩, hq⟩
  have e := he H locs pc lsA (by rw [Nat.sub_self]; exact hH) hd
  rw [Nat.sub_self, Nat.sub_self] at e
  have e2 : (r.map (zv b b0)).toList = r.toList.map (zv b b0) := by cases r <;> rfl
  rw [e2] at e
  exact e
theorem zq_iret {X : Option (Nat × (Nat → Int32))} {M : Mth} {d pc : Nat} {ls : List (Nat × Value)} {h : AH} {Qp : Option Value → AH → Prop} {x : Int32} {t : FieldType} (hd : decode M.2.1 pc = .ok (.ireturn, 1)) (hm : M.2.2.2 = some t) (ht : zri (some t) = .ireturn) (hn : narrow t (.int x) = .int x) (hq : Qp (some (.int x)) h) : zQ X M d pc ls [.int x] h Qp :=
  zq_ret (some (.int x)) (by rw [hm, ht]; exact hd) (by rw [hm]; exact ⟨hn, ht⟩) hq
theorem zq_lret {X : Option (Nat × (Nat → Int32))} {M : Mth} {d pc : Nat} {ls : List (Nat × Value)} {h : AH} {Qp : Option Value → AH → Prop} {x : Int64} (hd : decode M.2.1 pc = .ok (.lreturn, 1)) (hm : M.2.2.2 = some .long) (hq : Qp (some (.long x)) h) : zQ X M d pc ls [.long x] h Qp :=
  zq_ret (some (.long x)) (by rw [hm]; exact hd) (by rw [hm]; exact rfl) hq
theorem zq_vret {X : Option (Nat × (Nat → Int32))} {M : Mth} {d pc : Nat} {ls : List (Nat × Value)} {h : AH} {Qp : Option Value → AH → Prop} (hd : decode M.2.1 pc = .ok (.return_, 1)) (hm : M.2.2.2 = none) (hq : Qp none h) : zQ X M d pc ls [] h Qp :=
  zq_ret none (by rw [hm]; exact hd) (by rw [hm]; exact trivial) hq
theorem zq_aret {X : Option (Nat × (Nat → Int32))} {M : Mth} {d pc : Nat} {ls : List (Nat × Value)} {h : AH} {Qp : Option Value → AH → Prop} {k : Nat} {t : FieldType} (hd : decode M.2.1 pc = .ok (.areturn, 1)) (hm : M.2.2.2 = some t) (ht : zkd t = 2) (hq : Qp (some (.ref k)) h) : zQ X M d pc ls [.ref k] h Qp := by
  have h2 : (∃ n, t = .object n) ∨ ∃ u, t = .array u := by
    cases t <;> simp [zkd] at ht
    · exact Or.inl ⟨_, rfl⟩
    · exact Or.inr ⟨_, rfl⟩
  refine zq_ret (some (.ref k)) ?_ (by rw [hm]; exact h2) hq
  rw [hm]
  rcases h2 with ⟨n, rfl⟩ | ⟨u, rfl⟩ <;> exact hd
theorem zq_aretN {X : Option (Nat × (Nat → Int32))} {M : Mth} {d pc : Nat} {ls : List (Nat × Value)} {h : AH} {Qp : Option Value → AH → Prop} {t : FieldType} (hd : decode M.2.1 pc = .ok (.areturn, 1)) (hm : M.2.2.2 = some t) (ht : zkd t = 2) (hq : Qp (some .null) h) : zQ X M d pc ls [.null] h Qp := by
  have h2 : (∃ n, t = .object n) ∨ ∃ u, t = .array u := by
    cases t <;> simp [zkd] at ht
    · exact Or.inl ⟨_, rfl⟩
    · exact Or.inr ⟨_, rfl⟩
  refine zq_ret (some .null) ?_ (by rw [hm]; exact h2) hq
  rw [hm]
  rcases h2 with ⟨n, rfl⟩ | ⟨u, rfl⟩ <;> exact hd
/-- fewer known locals, in another order -/
theorem zq_sub {X : Option (Nat × (Nat → Int32))} {M : Mth} {d pc : Nat} {ls ls' : List (Nat × Value)} {st : List Value} {h : AH} {Qp : Option Value → AH → Prop} (ks : List Nat) (hk : lv_pick ls ks = ls') (kk : zQ X M d pc ls' st h Qp) : zQ X M d pc ls st h Qp :=
  zq_move (fun _ b b0 dC dI dA p l e R s m args below meth co H locs cells slots lsA Q _ _ hl k => k lsA (lv_sub hl ks (zl_sub hk))) kk
theorem zq_mono {X : Option (Nat × (Nat → Int32))} {M : Mth} {d pc : Nat} {ls : List (Nat × Value)} {st : List Value} {h : AH} {Qp Qp' : Option Value → AH → Prop} (k : zQ X M d pc ls st h Qp) (hm : ∀ r h', Qp r h' → Qp' r h') : zQ X M d pc ls st h Qp' := by
  obtain ⟨r, h1, a, q⟩ := k
  exact ⟨r, h1, a, hm _ _ q⟩
/-! one rule an instruction -/
theorem zq_iconst {X : Option (Nat × (Nat → Int32))} {M : Mth} {d pc : Nat} {ls : List (Nat × Value)} {st : List Value} {h : AH} {Qp : Option Value → AH → Prop} {n : Int} {v : Int32} (hv : Int32.ofInt n = v) (hd : decode M.2.1 pc = .ok (.iconst n, 1)) (kk : zQ X M d (pc + 1) ls (.int v :: st) h Qp) : zQ X M d pc ls (st) h Qp :=
  zq_move (fun _ b b0 dC dI dA p l e R s m args below meth co H locs cells slots lsA Q hC _ hl k => lv_iconst hC.1 hC.2.1 hd hv (k lsA hl)) kk
theorem zq_bipush {X : Option (Nat × (Nat → Int32))} {M : Mth} {d pc : Nat} {ls : List (Nat × Value)} {st : List Value} {h : AH} {Qp : Option Value → AH → Prop} {n : Int} {v : Int32} (hv : (Int8.ofInt n).toInt32 = v) (hd : decode M.2.1 pc = .ok (.bipush n, 2)) (kk : zQ X M d (pc + 2) ls (.int v :: st) h Qp) : zQ X M d pc ls (st) h Qp :=
  zq_move (fun _ b b0 dC dI dA p l e R s m args below meth co H locs cells slots lsA Q hC _ hl k => lv_bipush hC.1 hC.2.1 hd hv (k lsA hl)) kk
theorem zq_sipush {X : Option (Nat × (Nat → Int32))} {M : Mth} {d pc : Nat} {ls : List (Nat × Value)} {st : List Value} {h : AH} {Qp : Option Value → AH → Prop} {n : Int} {v : Int32} (hv : (Int16.ofInt n).toInt32 = v) (hd : decode M.2.1 pc = .ok (.sipush n, 3)) (kk : zQ X M d (pc + 3) ls (.int v :: st) h Qp) : zQ X M d pc ls (st) h Qp :=
  zq_move (fun _ b b0 dC dI dA p l e R s m args below meth co H locs cells slots lsA Q hC _ hl k => lv_sipush hC.1 hC.2.1 hd hv (k lsA hl)) kk
theorem zq_lconst {X : Option (Nat × (Nat → Int32))} {M : Mth} {d pc : Nat} {ls : List (Nat × Value)} {st : List Value} {h : AH} {Qp : Option Value → AH → Prop} {n : Fin 2} {v : Int64} (hv : Int64.ofNat (n : Nat) = v) (hd : decode M.2.1 pc = .ok (.lconst n, 1)) (kk : zQ X M d (pc + 1) ls (.long v :: st) h Qp) : zQ X M d pc ls (st) h Qp :=
  zq_move (fun _ b b0 dC dI dA p l e R s m args below meth co H locs cells slots lsA Q hC _ hl k => lv_lconst hC.1 hC.2.1 hd hv (k lsA hl)) kk
theorem zq_iload_n {X : Option (Nat × (Nat → Int32))} {M : Mth} {d pc : Nat} {ls : List (Nat × Value)} {st : List Value} {h : AH} {Qp : Option Value → AH → Prop} {k : Fin 4} {i : Nat} {x : Int32} (g : Nat) (hi : (k : Nat) = i) (hg : ls[g]? = some (i, .int x)) (hd : decode M.2.1 pc = .ok (.iload_n k, 1)) (kk : zQ X M d (pc + 1) ls (.int x :: st) h Qp) : zQ X M d pc ls (st) h Qp :=
  zq_move (fun _ b b0 dC dI dA p l e R s m args below meth co H locs cells slots lsA Q hC _ hl k => lv_iload_n hC.1 hC.2.1 hd hi (lv_at hl g (zl_at hg)) (k lsA hl)) kk
theorem zq_iload {X : Option (Nat × (Nat → Int32))} {M : Mth} {d pc : Nat} {ls : List (Nat × Value)} {st : List Value} {h : AH} {Qp : Option Value → AH → Prop} {i : Nat} {x : Int32} (g : Nat) (hg : ls[g]? = some (i, .int x)) (hd : decode M.2.1 pc = .ok (.iload i, 2)) (kk : zQ X M d (pc + 2) ls (.int x :: st) h Qp) : zQ X M d pc ls (st) h Qp :=
  zq_move (fun _ b b0 dC dI dA p l e R s m args below meth co H locs cells slots lsA Q hC _ hl k => lv_iload hC.1 hC.2.1 hd (lv_at hl g (zl_at hg)) (k lsA hl)) kk
theorem zq_lload_n {X : Option (Nat × (Nat → Int32))} {M : Mth} {d pc : Nat} {ls : List (Nat × Value)} {st : List Value} {h : AH} {Qp : Option Value → AH → Prop} {k : Fin 4} {i : Nat} {x : Int64} (g : Nat) (hi : (k : Nat) = i) (hg : ls[g]? = some (i, .long x)) (hd : decode M.2.1 pc = .ok (.lload_n k, 1)) (kk : zQ X M d (pc + 1) ls (.long x :: st) h Qp) : zQ X M d pc ls (st) h Qp :=
  zq_move (fun _ b b0 dC dI dA p l e R s m args below meth co H locs cells slots lsA Q hC _ hl k => lv_lload_n hC.1 hC.2.1 hd hi (lv_at hl g (zl_at hg)) (k lsA hl)) kk
theorem zq_lload {X : Option (Nat × (Nat → Int32))} {M : Mth} {d pc : Nat} {ls : List (Nat × Value)} {st : List Value} {h : AH} {Qp : Option Value → AH → Prop} {i : Nat} {x : Int64} (g : Nat) (hg : ls[g]? = some (i, .long x)) (hd : decode M.2.1 pc = .ok (.lload i, 2)) (kk : zQ X M d (pc + 2) ls (.long x :: st) h Qp) : zQ X M d pc ls (st) h Qp :=
  zq_move (fun _ b b0 dC dI dA p l e R s m args below meth co H locs cells slots lsA Q hC _ hl k => lv_lload hC.1 hC.2.1 hd (lv_at hl g (zl_at hg)) (k lsA hl)) kk
theorem zq_aload_n {X : Option (Nat × (Nat → Int32))} {M : Mth} {d pc : Nat} {ls : List (Nat × Value)} {st : List Value} {h : AH} {Qp : Option Value → AH → Prop} {k : Fin 4} {i : Nat} {x : Nat} (g : Nat) (hi : (k : Nat) = i) (hg : ls[g]? = some (i, .ref x)) (hd : decode M.2.1 pc = .ok (.aload_n k, 1)) (kk : zQ X M d (pc + 1) ls (.ref x :: st) h Qp) : zQ X M d pc ls (st) h Qp :=
  zq_move (fun _ b b0 dC dI dA p l e R s m args below meth co H locs cells slots lsA Q hC _ hl k => lv_aload_n hC.1 hC.2.1 hd hi (lv_at hl g (zl_at hg)) (k lsA hl)) kk
theorem zq_aload {X : Option (Nat × (Nat → Int32))} {M : Mth} {d pc : Nat} {ls : List (Nat × Value)} {st : List Value} {h : AH} {Qp : Option Value → AH → Prop} {i : Nat} {x : Nat} (g : Nat) (hg : ls[g]? = some (i, .ref x)) (hd : decode M.2.1 pc = .ok (.aload i, 2)) (kk : zQ X M d (pc + 2) ls (.ref x :: st) h Qp) : zQ X M d pc ls (st) h Qp :=
  zq_move (fun _ b b0 dC dI dA p l e R s m args below meth co H locs cells slots lsA Q hC _ hl k => lv_aload hC.1 hC.2.1 hd (lv_at hl g (zl_at hg)) (k lsA hl)) kk
theorem zq_aload_nN {X : Option (Nat × (Nat → Int32))} {M : Mth} {d pc : Nat} {ls : List (Nat × Value)} {st : List Value} {h : AH} {Qp : Option Value → AH → Prop} {k : Fin 4} {i : Nat} (g : Nat) (hi : (k : Nat) = i) (hg : ls[g]? = some (i, .null)) (hd : decode M.2.1 pc = .ok (.aload_n k, 1)) (kk : zQ X M d (pc + 1) ls (.null :: st) h Qp) : zQ X M d pc ls (st) h Qp :=
  zq_move (fun _ b b0 dC dI dA p l e R s m args below meth co H locs cells slots lsA Q hC _ hl k => lv_aload_nN hC.1 hC.2.1 hd hi (lv_at hl g (zl_at hg)) (k lsA hl)) kk
theorem zq_aloadN {X : Option (Nat × (Nat → Int32))} {M : Mth} {d pc : Nat} {ls : List (Nat × Value)} {st : List Value} {h : AH} {Qp : Option Value → AH → Prop} {i : Nat} (g : Nat) (hg : ls[g]? = some (i, .null)) (hd : decode M.2.1 pc = .ok (.aload i, 2)) (kk : zQ X M d (pc + 2) ls (.null :: st) h Qp) : zQ X M d pc ls (st) h Qp :=
  zq_move (fun _ b b0 dC dI dA p l e R s m args below meth co H locs cells slots lsA Q hC _ hl k => lv_aloadN hC.1 hC.2.1 hd (lv_at hl g (zl_at hg)) (k lsA hl)) kk
theorem zq_istore_n {X : Option (Nat × (Nat → Int32))} {M : Mth} {d pc : Nat} {ls : List (Nat × Value)} {st : List Value} {h : AH} {Qp : Option Value → AH → Prop} {k : Fin 4} {i : Nat} {x : Int32} {ls' : List (Nat × Value)} (hi : (k : Nat) = i) (hn : i < M.2.2.1) (hs : zset1 ls i (.int x) = ls') (hd : decode M.2.1 pc = .ok (.istore_n k, 1)) (kk : zQ X M d (pc + 1) ls' st h Qp) : zQ X M d pc ls (.int x :: st) h Qp :=
  zq_move (fun _ b b0 dC dI dA p l e R s m args below meth co H locs cells slots lsA Q hC _ hl k => lv_istore_n (lv' := zl b b0 ls') hC.1 hC.2.1 hd hi hl hn (hs ▸ zl_set1 (v := .int x)) k) kk
theorem zq_istore {X : Option (Nat × (Nat → Int32))} {M : Mth} {d pc : Nat} {ls : List (Nat × Value)} {st : List Value} {h : AH} {Qp : Option Value → AH → Prop} {i : Nat} {x : Int32} {ls' : List (Nat × Value)} (hn : i < M.2.2.1) (hs : zset1 ls i (.int x) = ls') (hd : decode M.2.1 pc = .ok (.istore i, 2)) (kk : zQ X M d (pc + 2) ls' st h Qp) : zQ X M d pc ls (.int x :: st) h Qp :=
  zq_move (fun _ b b0 dC dI dA p l e R s m args below meth co H locs cells slots lsA Q hC _ hl k => lv_istore (lv' := zl b b0 ls') hC.1 hC.2.1 hd hl hn (hs ▸ zl_set1 (v := .int x)) k) kk
theorem zq_lstore_n {X : Option (Nat × (Nat → Int32))} {M : Mth} {d pc : Nat} {ls : List (Nat × Value)} {st : List Value} {h : AH} {Qp : Option Value → AH → Prop} {k : Fin 4} {i : Nat} {x : Int64} {ls' : List (Nat × Value)} (hi : (k : Nat) = i) (hn : i + 1 < M.2.2.1) (hs : zset2 ls i (.long x) = ls') (hd : decode M.2.1 pc = .ok (.lstore_n k, 1)) (kk : zQ X M d (pc + 1) ls' st h Qp) : zQ X M d pc ls (.long x :: st) h Qp :=
  zq_move (fun _ b b0 dC dI dA p l e R s m args below meth co H locs cells slots lsA Q hC _ hl k => lv_lstore_n (lv' := zl b b0 ls') hC.1 hC.2.1 hd hi hl hn (hs ▸ zl_set2 (v := .long x)) k) kk
theorem zq_lstore {X : Option (Nat × (Nat → Int32))} {M : Mth} {d pc : Nat} {ls : List (Nat × Value)} {st : List Value} {h : AH} {Qp : Option Value → AH → Prop} {i : Nat} {x : Int64} {ls' : List (Nat × Value)} (hn : i + 1 < M.2.2.1) (hs : zset2 ls i (.long x) = ls') (hd : decode M.2.1 pc = .ok (.lstore i, 2)) (kk : zQ X M d (pc + 2) ls' st h Qp) : zQ X M d pc ls (.long x :: st) h Qp :=
  zq_move (fun _ b b0 dC dI dA p l e R s m args below meth co H locs cells slots lsA Q hC _ hl k => lv_lstore (lv' := zl b b0 ls') hC.1 hC.2.1 hd hl hn (hs ▸ zl_set2 (v := .long x)) k) kk
theorem zq_astore_n {X : Option (Nat × (Nat → Int32))} {M : Mth} {d pc : Nat} {ls : List (Nat × Value)} {st : List Value} {h : AH} {Qp : Option Value → AH → Prop} {k : Fin 4} {i : Nat} {x : Nat} {ls' : List (Nat × Value)} (hi : (k : Nat) = i) (hn : i < M.2.2.1) (hs : zset1 ls i (.ref x) = ls') (hd : decode M.2.1 pc = .ok (.astore_n k, 1)) (kk : zQ X M d (pc + 1) ls' st h Qp) : zQ X M d pc ls (.ref x :: st) h Qp :=
  zq_move (fun _ b b0 dC dI dA p l e R s m args below meth co H locs cells slots lsA Q hC _ hl k => lv_astore_n (lv' := zl b b0 ls') hC.1 hC.2.1 hd hi hl hn (hs ▸ zl_set1 (v := .ref x)) k) kk
theorem zq_astore {X : Option (Nat × (Nat → Int32))} {M : Mth} {d pc : Nat} {ls : List (Nat × Value)} {st : List Value} {h : AH} {Qp : Option Value → AH → Prop} {i : Nat} {x : Nat} {ls' : List (Nat × Value)} (hn : i < M.2.2.1) (hs : zset1 ls i (.ref x) = ls') (hd : decode M.2.1 pc = .ok (.astore i, 2)) (kk : zQ X M d (pc + 2) ls' st h Qp) : zQ X M d pc ls (.ref x :: st) h Qp :=
  zq_move (fun _ b b0 dC dI dA p l e R s m args below meth co H locs cells slots lsA Q hC _ hl k => lv_astore (lv' := zl b b0 ls') hC.1 hC.2.1 hd hl hn (hs ▸ zl_set1 (v := .ref x)) k) kk
theorem zq_astore_nN {X : Option (Nat × (Nat → Int32))} {M : Mth} {d pc : Nat} {ls : List (Nat × Value)} {st : List Value} {h : AH} {Qp : Option Value → AH → Prop} {k : Fin 4} {i : Nat} {ls' : List (Nat × Value)} (hi : (k : Nat) = i) (hn : i < M.2.2.1) (hs : zset1 ls i .null = ls') (hd : decode M.2.1 pc = .ok (.astore_n k, 1)) (kk : zQ X M d (pc + 1) ls' st h Qp) : zQ X M d pc ls (.null :: st) h Qp :=
  zq_move (fun _ b b0 dC dI dA p l e R s m args below meth co H locs cells slots lsA Q hC _ hl k => lv_astore_nN (lv' := zl b b0 ls') hC.1 hC.2.1 hd hi hl hn (hs ▸ zl_set1 (v := .null)) k) kk
theorem zq_astoreN {X : Option (Nat × (Nat → Int32))} {M : Mth} {d pc : Nat} {ls : List (Nat × Value)} {st : List Value} {h : AH} {Qp : Option Value → AH → Prop} {i : Nat} {ls' : List (Nat × Value)} (hn : i < M.2.2.1) (hs : zset1 ls i .null = ls') (hd : decode M.2.1 pc = .ok (.astore i, 2)) (kk : zQ X M d (pc + 2) ls' st h Qp) : zQ X M d pc ls (.null :: st) h Qp :=
  zq_move (fun _ b b0 dC dI dA p l e R s m args below meth co H locs cells slots lsA Q hC _ hl k => lv_astoreN (lv' := zl b b0 ls') hC.1 hC.2.1 hd hl hn (hs ▸ zl_set1 (v := .null)) k) kk
theorem zq_iinc {X : Option (Nat × (Nat → Int32))} {M : Mth} {d pc : Nat} {ls : List (Nat × Value)} {st : List Value} {h : AH} {Qp : Option Value → AH → Prop} {i : Nat} {n : Int} {x v : Int32} {ls' : List (Nat × Value)} (g : Nat) (hg : ls[g]? = some (i, .int x)) (hv : Int32.ofInt n = v) (hn : i < M.2.2.1) (hs : zset1 ls i (.int (x + v)) = ls') (hd : decode M.2.1 pc = .ok (.iinc i n, 3)) (kk : zQ X M d (pc + 3) ls' st h Qp) : zQ X M d pc ls st h Qp :=
  zq_move (fun _ b b0 dC dI dA p l e R s m args below meth co H locs cells slots lsA Q hC _ hl k => lv_iinc (v := x + v) (lv' := zl b b0 ls') hC.1 hC.2.1 hd hl (zl_at hg) (by rw [hv]) hn (hs ▸ zl_set1 (v := .int (x + v))) k) kk
theorem zq_iadd {X : Option (Nat × (Nat → Int32))} {M : Mth} {d pc : Nat} {ls : List (Nat × Value)} {st : List Value} {h : AH} {Qp : Option Value → AH → Prop} {x y : Int32}  (hd : decode M.2.1 pc = .ok (.iadd, 1)) (kk : zQ X M d (pc + 1) ls (.int (x + y) :: st) h Qp) : zQ X M d pc ls (.int y :: .int x :: st) h Qp :=
  zq_move (fun _ b b0 dC dI dA p l e R s m args below meth co H locs cells slots lsA Q hC _ hl k => lv_iadd hC.1 hC.2.1 hd (k lsA hl)) kk
theorem zq_isub {X : Option (Nat × (Nat → Int32))} {M : Mth} {d pc : Nat} {ls : List (Nat × Value)} {st : List Value} {h : AH} {Qp : Option Value → AH → Prop} {x y : Int32}  (hd : decode M.2.1 pc = .ok (.isub, 1)) (kk : zQ X M d (pc + 1) ls (.int (x - y) :: st) h Qp) : zQ X M d pc ls (.int y :: .int x :: st) h Qp :=
  zq_move (fun _ b b0 dC dI dA p l e R s m args below meth co H locs cells slots lsA Q hC _ hl k => lv_isub hC.1 hC.2.1 hd (k lsA hl)) kk
theorem zq_imul {X : Option (Nat × (Nat → Int32))} {M : Mth} {d pc : Nat} {ls : List (Nat × Value)} {st : List Value} {h : AH} {Qp : Option Value → AH → Prop} {x y : Int32}  (hd : decode M.2.1 pc = .ok (.imul, 1)) (kk : zQ X M d (pc + 1) ls (.int (x * y) :: st) h Qp) : zQ X M d pc ls (.int y :: .int x :: st) h Qp :=
  zq_move (fun _ b b0 dC dI dA p l e R s m args below meth co H locs cells slots lsA Q hC _ hl k => lv_imul hC.1 hC.2.1 hd (k lsA hl)) kk
theorem zq_iand {X : Option (Nat × (Nat → Int32))} {M : Mth} {d pc : Nat} {ls : List (Nat × Value)} {st : List Value} {h : AH} {Qp : Option Value → AH → Prop} {x y : Int32}  (hd : decode M.2.1 pc = .ok (.iand, 1)) (kk : zQ X M d (pc + 1) ls (.int (x &&& y) :: st) h Qp) : zQ X M d pc ls (.int y :: .int x :: st) h Qp :=
  zq_move (fun _ b b0 dC dI dA p l e R s m args below meth co H locs cells slots lsA Q hC _ hl k => lv_iand hC.1 hC.2.1 hd (k lsA hl)) kk
theorem zq_ior {X : Option (Nat × (Nat → Int32))} {M : Mth} {d pc : Nat} {ls : List (Nat × Value)} {st : List Value} {h : AH} {Qp : Option Value → AH → Prop} {x y : Int32}  (hd : decode M.2.1 pc = .ok (.ior, 1)) (kk : zQ X M d (pc + 1) ls (.int (x ||| y) :: st) h Qp) : zQ X M d pc ls (.int y :: .int x :: st) h Qp :=
  zq_move (fun _ b b0 dC dI dA p l e R s m args below meth co H locs cells slots lsA Q hC _ hl k => lv_ior hC.1 hC.2.1 hd (k lsA hl)) kk
theorem zq_ixor {X : Option (Nat × (Nat → Int32))} {M : Mth} {d pc : Nat} {ls : List (Nat × Value)} {st : List Value} {h : AH} {Qp : Option Value → AH → Prop} {x y : Int32}  (hd : decode M.2.1 pc = .ok (.ixor, 1)) (kk : zQ X M d (pc + 1) ls (.int (x ^^^ y) :: st) h Qp) : zQ X M d pc ls (.int y :: .int x :: st) h Qp :=
  zq_move (fun _ b b0 dC dI dA p l e R s m args below meth co H locs cells slots lsA Q hC _ hl k => lv_ixor hC.1 hC.2.1 hd (k lsA hl)) kk
theorem zq_ladd {X : Option (Nat × (Nat → Int32))} {M : Mth} {d pc : Nat} {ls : List (Nat × Value)} {st : List Value} {h : AH} {Qp : Option Value → AH → Prop} {x y : Int64}  (hd : decode M.2.1 pc = .ok (.ladd, 1)) (kk : zQ X M d (pc + 1) ls (.long (x + y) :: st) h Qp) : zQ X M d pc ls (.long y :: .long x :: st) h Qp :=
  zq_move (fun _ b b0 dC dI dA p l e R s m args below meth co H locs cells slots lsA Q hC _ hl k => lv_ladd hC.1 hC.2.1 hd (k lsA hl)) kk
theorem zq_lsub {X : Option (Nat × (Nat → Int32))} {M : Mth} {d pc : Nat} {ls : List (Nat × Value)} {st : List Value} {h : AH} {Qp : Option Value → AH → Prop} {x y : Int64}  (hd : decode M.2.1 pc = .ok (.lsub, 1)) (kk : zQ X M d (pc + 1) ls (.long (x - y) :: st) h Qp) : zQ X M d pc ls (.long y :: .long x :: st) h Qp :=
  zq_move (fun _ b b0 dC dI dA p l e R s m args below meth co H locs cells slots lsA Q hC _ hl k => lv_lsub hC.1 hC.2.1 hd (k lsA hl)) kk
theorem zq_lmul {X : Option (Nat × (Nat → Int32))} {M : Mth} {d pc : Nat} {ls : List (Nat × Value)} {st : List Value} {h : AH} {Qp : Option Value → AH → Prop} {x y : Int64}  (hd : decode M.2.1 pc = .ok (.lmul, 1)) (kk : zQ X M d (pc + 1) ls (.long (x * y) :: st) h Qp) : zQ X M d pc ls (.long y :: .long x :: st) h Qp :=
  zq_move (fun _ b b0 dC dI dA p l e R s m args below meth co H locs cells slots lsA Q hC _ hl k => lv_lmul hC.1 hC.2.1 hd (k lsA hl)) kk
theorem zq_land {X : Option (Nat × (Nat → Int32))} {M : Mth} {d pc : Nat} {ls : List (Nat × Value)} {st : List Value} {h : AH} {Qp : Option Value → AH → Prop} {x y : Int64}  (hd : decode M.2.1 pc = .ok (.land, 1)) (kk : zQ X M d (pc + 1) ls (.long (x &&& y) :: st) h Qp) : zQ X M d pc ls (.long y :: .long x :: st) h Qp :=
  zq_move (fun _ b b0 dC dI dA p l e R s m args below meth co H locs cells slots lsA Q hC _ hl k => lv_land hC.1 hC.2.1 hd (k lsA hl)) kk
theorem zq_lor {X : Option (Nat × (Nat → Int32))} {M : Mth} {d pc : Nat} {ls : List (Nat × Value)} {st : List Value} {h : AH} {Qp : Option Value → AH → Prop} {x y : Int64}  (hd : decode M.2.1 pc = .ok (.lor, 1)) (kk : zQ X M d (pc + 1) ls (.long (x ||| y) :: st) h Qp) : zQ X M d pc ls (.long y :: .long x :: st) h Qp :=
  zq_move (fun _ b b0 dC dI dA p l e R s m args below meth co H locs cells slots lsA Q hC _ hl k => lv_lor hC.1 hC.2.1 hd (k lsA hl)) kk
theorem zq_lxor {X : Option (Nat × (Nat → Int32))} {M : Mth} {d pc : Nat} {ls : List (Nat × Value)} {st : List Value} {h : AH} {Qp : Option Value → AH → Prop} {x y : Int64}  (hd : decode M.2.1 pc = .ok (.lxor, 1)) (kk : zQ X M d (pc + 1) ls (.long (x ^^^ y) :: st) h Qp) : zQ X M d pc ls (.long y :: .long x :: st) h Qp :=
  zq_move (fun _ b b0 dC dI dA p l e R s m args below meth co H locs cells slots lsA Q hC _ hl k => lv_lxor hC.1 hC.2.1 hd (k lsA hl)) kk
theorem zq_idiv {X : Option (Nat × (Nat → Int32))} {M : Mth} {d pc : Nat} {ls : List (Nat × Value)} {st : List Value} {h : AH} {Qp : Option Value → AH → Prop} {x y : Int32} (hne : ¬ y = 0) (hd : decode M.2.1 pc = .ok (.idiv, 1)) (kk : zQ X M d (pc + 1) ls (.int (x / y) :: st) h Qp) : zQ X M d pc ls (.int y :: .int x :: st) h Qp :=
  zq_move (fun _ b b0 dC dI dA p l e R s m args below meth co H locs cells slots lsA Q hC _ hl k => lv_idiv hC.1 hC.2.1 hd hne (k lsA hl)) kk
theorem zq_irem {X : Option (Nat × (Nat → Int32))} {M : Mth} {d pc : Nat} {ls : List (Nat × Value)} {st : List Value} {h : AH} {Qp : Option Value → AH → Prop} {x y : Int32} (hne : ¬ y = 0) (hd : decode M.2.1 pc = .ok (.irem, 1)) (kk : zQ X M d (pc + 1) ls (.int (x - x / y * y) :: st) h Qp) : zQ X M d pc ls (.int y :: .int x :: st) h Qp :=
  zq_move (fun _ b b0 dC dI dA p l e R s m args below meth co H locs cells slots lsA Q hC _ hl k => lv_irem hC.1 hC.2.1 hd hne (k lsA hl)) kk
theorem zq_ldiv {X : Option (Nat × (Nat → Int32))} {M : Mth} {d pc : Nat} {ls : List (Nat × Value)} {st : List Value} {h : AH} {Qp : Option Value → AH → Prop} {x y : Int64} (hne : ¬ y = 0) (hd : decode M.2.1 pc = .ok (.ldiv, 1)) (kk : zQ X M d (pc + 1) ls (.long (x / y) :: st) h Qp) : zQ X M d pc ls (.long y :: .long x :: st) h Qp :=
  zq_move (fun _ b b0 dC dI dA p l e R s m args below meth co H locs cells slots lsA Q hC _ hl k => lv_ldiv hC.1 hC.2.1 hd hne (k lsA hl)) kk
theorem zq_lrem {X : Option (Nat × (Nat → Int32))} {M : Mth} {d pc : Nat} {ls : List (Nat × Value)} {st : List Value} {h : AH} {Qp : Option Value → AH → Prop} {x y : Int64} (hne : ¬ y = 0) (hd : decode M.2.1 pc = .ok (.lrem, 1)) (kk : zQ X M d (pc + 1) ls (.long (x - x / y * y) :: st) h Qp) : zQ X M d pc ls (.long y :: .long x :: st) h Qp :=
  zq_move (fun _ b b0 dC dI dA p l e R s m args below meth co H locs cells slots lsA Q hC _ hl k => lv_lrem hC.1 hC.2.1 hd hne (k lsA hl)) kk
theorem zq_ineg {X : Option (Nat × (Nat → Int32))} {M : Mth} {d pc : Nat} {ls : List (Nat × Value)} {st : List Value} {h : AH} {Qp : Option Value → AH → Prop} {x : Int32}  (hd : decode M.2.1 pc = .ok (.ineg, 1)) (kk : zQ X M d (pc + 1) ls (.int (-x) :: st) h Qp) : zQ X M d pc ls (.int x :: st) h Qp :=
  zq_move (fun _ b b0 dC dI dA p l e R s m args below meth co H locs cells slots lsA Q hC _ hl k => lv_ineg hC.1 hC.2.1 hd (k lsA hl)) kk
theorem zq_i2l {X : Option (Nat × (Nat → Int32))} {M : Mth} {d pc : Nat} {ls : List (Nat × Value)} {st : List Value} {h : AH} {Qp : Option Value → AH → Prop} {x : Int32}  (hd : decode M.2.1 pc = .ok (.i2l, 1)) (kk : zQ X M d (pc + 1) ls (.long x.toInt64 :: st) h Qp) : zQ X M d pc ls (.int x :: st) h Qp :=
  zq_move (fun _ b b0 dC dI dA p l e R s m args below meth co H locs cells slots lsA Q hC _ hl k => lv_i2l hC.1 hC.2.1 hd rfl (k lsA hl)) kk
theorem zq_l2i {X : Option (Nat × (Nat → Int32))} {M : Mth} {d pc : Nat} {ls : List (Nat × Value)} {st : List Value} {h : AH} {Qp : Option Value → AH → Prop} {x : Int64}  (hd : decode M.2.1 pc = .ok (.l2i, 1)) (kk : zQ X M d (pc + 1) ls (.int x.toInt32 :: st) h Qp) : zQ X M d pc ls (.long x :: st) h Qp :=
  zq_move (fun _ b b0 dC dI dA p l e R s m args below meth co H locs cells slots lsA Q hC _ hl k => lv_l2i hC.1 hC.2.1 hd rfl (k lsA hl)) kk
theorem zq_i2b {X : Option (Nat × (Nat → Int32))} {M : Mth} {d pc : Nat} {ls : List (Nat × Value)} {st : List Value} {h : AH} {Qp : Option Value → AH → Prop} {x : Int32}  (hd : decode M.2.1 pc = .ok (.i2b, 1)) (kk : zQ X M d (pc + 1) ls (.int x.toInt8.toInt32 :: st) h Qp) : zQ X M d pc ls (.int x :: st) h Qp :=
  zq_move (fun _ b b0 dC dI dA p l e R s m args below meth co H locs cells slots lsA Q hC _ hl k => lv_i2b hC.1 hC.2.1 hd rfl (k lsA hl)) kk
theorem zq_iushr {X : Option (Nat × (Nat → Int32))} {M : Mth} {d pc : Nat} {ls : List (Nat × Value)} {st : List Value} {h : AH} {Qp : Option Value → AH → Prop} {x y : Int32}  (hd : decode M.2.1 pc = .ok (.iushr, 1)) (kk : zQ X M d (pc + 1) ls (.int (x.toUInt32 >>> (y.toUInt32 &&& Int32.toUInt32 31)).toInt32 :: st) h Qp) : zQ X M d pc ls (.int y :: .int x :: st) h Qp :=
  zq_move (fun _ b b0 dC dI dA p l e R s m args below meth co H locs cells slots lsA Q hC _ hl k => lv_iushr hC.1 hC.2.1 hd rfl (k lsA hl)) kk
theorem zq_lushr {X : Option (Nat × (Nat → Int32))} {M : Mth} {d pc : Nat} {ls : List (Nat × Value)} {st : List Value} {h : AH} {Qp : Option Value → AH → Prop} {x : Int64} {y : Int32}  (hd : decode M.2.1 pc = .ok (.lushr, 1)) (kk : zQ X M d (pc + 1) ls (.long (x.toUInt64 >>> (y.toInt64.toUInt64 &&& Int64.toUInt64 63)).toInt64 :: st) h Qp) : zQ X M d pc ls (.int y :: .long x :: st) h Qp :=
  zq_move (fun _ b b0 dC dI dA p l e R s m args below meth co H locs cells slots lsA Q hC _ hl k => lv_lushr hC.1 hC.2.1 hd rfl (k lsA hl)) kk
theorem zq_lshl {X : Option (Nat × (Nat → Int32))} {M : Mth} {d pc : Nat} {ls : List (Nat × Value)} {st : List Value} {h : AH} {Qp : Option Value → AH → Prop} {x : Int64} {y : Int32}  (hd : decode M.2.1 pc = .ok (.lshl, 1)) (kk : zQ X M d (pc + 1) ls (.long (x <<< (y.toInt64 &&& 63)) :: st) h Qp) : zQ X M d pc ls (.int y :: .long x :: st) h Qp :=
  zq_move (fun _ b b0 dC dI dA p l e R s m args below meth co H locs cells slots lsA Q hC _ hl k => lv_lshl hC.1 hC.2.1 hd rfl (k lsA hl)) kk
theorem zq_lshr {X : Option (Nat × (Nat → Int32))} {M : Mth} {d pc : Nat} {ls : List (Nat × Value)} {st : List Value} {h : AH} {Qp : Option Value → AH → Prop} {x : Int64} {y : Int32}  (hd : decode M.2.1 pc = .ok (.lshr, 1)) (kk : zQ X M d (pc + 1) ls (.long (x >>> (y.toInt64 &&& 63)) :: st) h Qp) : zQ X M d pc ls (.int y :: .long x :: st) h Qp :=
  zq_move (fun _ b b0 dC dI dA p l e R s m args below meth co H locs cells slots lsA Q hC _ hl k => lv_lshr hC.1 hC.2.1 hd rfl (k lsA hl)) kk
theorem zq_lcmp {X : Option (Nat × (Nat → Int32))} {M : Mth} {d pc : Nat} {ls : List (Nat × Value)} {st : List Value} {h : AH} {Qp : Option Value → AH → Prop} {x y : Int64}  (hd : decode M.2.1 pc = .ok (.lcmp, 1)) (kk : zQ X M d (pc + 1) ls (.int (lg_cmp x y) :: st) h Qp) : zQ X M d pc ls (.long y :: .long x :: st) h Qp :=
  zq_move (fun _ b b0 dC dI dA p l e R s m args below meth co H locs cells slots lsA Q hC _ hl k => W.lcmp hC.1 hC.2.1 hd (k lsA hl)) kk
theorem zq_dup {X : Option (Nat × (Nat → Int32))} {M : Mth} {d pc : Nat} {ls : List (Nat × Value)} {st : List Value} {h : AH} {Qp : Option Value → AH → Prop} {v : Value} (hv : v.category = 1) (hd : decode M.2.1 pc = .ok (.dup, 1)) (kk : zQ X M d (pc + 1) ls (v :: v :: st) h Qp) : zQ X M d pc ls (v :: st) h Qp :=
  zq_move (fun _ b b0 dC dI dA p l e R s m args below meth co H locs cells slots lsA Q hC _ hl k => lv_dup hC.1 hC.2.1 hd ((zv_cat b b0 v).trans hv) (k lsA hl)) kk
theorem zq_pop {X : Option (Nat × (Nat → Int32))} {M : Mth} {d pc : Nat} {ls : List (Nat × Value)} {st : List Value} {h : AH} {Qp : Option Value → AH → Prop} {v : Value} (hv : v.category = 1) (hd : decode M.2.1 pc = .ok (.pop, 1)) (kk : zQ X M d (pc + 1) ls (st) h Qp) : zQ X M d pc ls (v :: st) h Qp :=
  zq_move (fun _ b b0 dC dI dA p l e R s m args below meth co H locs cells slots lsA Q hC _ hl k => lv_pop hC.1 hC.2.1 hd ((zv_cat b b0 v).trans hv) (k lsA hl)) kk
theorem zq_dup2 {X : Option (Nat × (Nat → Int32))} {M : Mth} {d pc : Nat} {ls : List (Nat × Value)} {st : List Value} {h : AH} {Qp : Option Value → AH → Prop} {v w : Value} (hv : v.category = 1) (hw : w.category = 1) (hd : decode M.2.1 pc = .ok (.dup2, 1)) (kk : zQ X M d (pc + 1) ls (v :: w :: v :: w :: st) h Qp) : zQ X M d pc ls (v :: w :: st) h Qp :=
  zq_move (fun _ b b0 dC dI dA p l e R s m args below meth co H locs cells slots lsA Q hC _ hl k => lv_dup2_11 hC.1 hC.2.1 hd ((zv_cat b b0 v).trans hv) ((zv_cat b b0 w).trans hw) (k lsA hl)) kk
theorem zq_dup2L {X : Option (Nat × (Nat → Int32))} {M : Mth} {d pc : Nat} {ls : List (Nat × Value)} {st : List Value} {h : AH} {Qp : Option Value → AH → Prop} {v : Value} (hv : v.category = 2) (hd : decode M.2.1 pc = .ok (.dup2, 1)) (kk : zQ X M d (pc + 1) ls (v :: v :: st) h Qp) : zQ X M d pc ls (v :: st) h Qp :=
  zq_move (fun _ b b0 dC dI dA p l e R s m args below meth co H locs cells slots lsA Q hC _ hl k => lv_dup2_2 hC.1 hC.2.1 hd ((zv_cat b b0 v).trans hv) (k lsA hl)) kk
theorem zq_null {X : Option (Nat × (Nat → Int32))} {M : Mth} {d pc : Nat} {ls : List (Nat × Value)} {st : List Value} {h : AH} {Qp : Option Value → AH → Prop}   (hd : decode M.2.1 pc = .ok (.aconst_null, 1)) (kk : zQ X M d (pc + 1) ls (.null :: st) h Qp) : zQ X M d pc ls (st) h Qp :=
  zq_move (fun _ b b0 dC dI dA p l e R s m args below meth co H locs cells slots lsA Q hC _ hl k => lv_null hC.1 hC.2.1 hd (k lsA hl)) kk
theorem zq_goto {X : Option (Nat × (Nat → Int32))} {M : Mth} {d pc : Nat} {ls : List (Nat × Value)} {st : List Value} {h : AH} {Qp : Option Value → AH → Prop} {off : Int} {tgt : Nat} (hd : decode M.2.1 pc = .ok (.goto off, 3)) (ht : (pc : Int) + off = (tgt : Int)) (kk : zQ X M d tgt ls st h Qp) : zQ X M d pc ls st h Qp :=
  zq_move (fun _ b b0 dC dI dA p l e R s m args below meth co H locs cells slots lsA Q hC _ hl k => lv_goto hC.1 hC.2.1 hd ht (k lsA hl)) kk
theorem zq_icmp_eq {X : Option (Nat × (Nat → Int32))} {M : Mth} {d pc : Nat} {ls : List (Nat × Value)} {st : List Value} {h : AH} {Qp : Option Value → AH → Prop} {x y : Int32} {off : Int} {tgt : Nat} (hd : decode M.2.1 pc = .ok (.if_icmp .eq off, 3)) (ht : (pc : Int) + off = (tgt : Int)) (kk : (x = y → zQ X M d tgt ls st h Qp) ∧ (¬ (x = y) → zQ X M d (pc + 3) ls st h Qp)) : zQ X M d pc ls (.int y :: .int x :: st) h Qp := by
  by_cases hc : x = y
  · exact zq_move (fun _ b b0 dC dI dA p l e R s m args below meth co H locs cells slots lsA Q hC _ hl k => lv_icmp_eq hC.1 hC.2.1 hd ht (fun _ => k lsA hl) (fun q => absurd hc q)) (kk.1 hc)
  · exact zq_move (fun _ b b0 dC dI dA p l e R s m args below meth co H locs cells slots lsA Q hC _ hl k => lv_icmp_eq hC.1 hC.2.1 hd ht (fun q => absurd q hc) (fun _ => k lsA hl)) (kk.2 hc)
theorem zq_if_eq {X : Option (Nat × (Nat → Int32))} {M : Mth} {d pc : Nat} {ls : List (Nat × Value)} {st : List Value} {h : AH} {Qp : Option Value → AH → Prop} {x : Int32} {off : Int} {tgt : Nat} (hd : decode M.2.1 pc = .ok (.ifCond .eq off, 3)) (ht : (pc : Int) + off = (tgt : Int)) (kk : (x = 0 → zQ X M d tgt ls st h Qp) ∧ (¬ (x = 0) → zQ X M d (pc + 3) ls st h Qp)) : zQ X M d pc ls (.int x :: st) h Qp := by
  by_cases hc : x = 0
  · exact zq_move (fun _ b b0 dC dI dA p l e R s m args below meth co H locs cells slots lsA Q hC _ hl k => lv_if_eq hC.1 hC.2.1 hd ht (fun _ => k lsA hl) (fun q => absurd hc q)) (kk.1 hc)
  · exact zq_move (fun _ b b0 dC dI dA p l e R s m args below meth co H locs cells slots lsA Q hC _ hl k => lv_if_eq hC.1 hC.2.1 hd ht (fun q => absurd q hc) (fun _ => k lsA hl)) (kk.2 hc)
theorem zq_icmp_ne {X : Option (Nat × (Nat → Int32))} {M : Mth} {d pc : Nat} {ls : List (Nat × Value)} {st : List Value} {h : AH} {Qp : Option Value → AH → Prop} {x y : Int32} {off : Int} {tgt : Nat} (hd : decode M.2.1 pc = .ok (.if_icmp .ne off, 3)) (ht : (pc : Int) + off = (tgt : Int)) (kk : (x ≠ y → zQ X M d tgt ls st h Qp) ∧ (x = y → zQ X M d (pc + 3) ls st h Qp)) : zQ X M d pc ls (.int y :: .int x :: st) h Qp := by
  by_cases hc : x ≠ y
  · exact zq_move (fun _ b b0 dC dI dA p l e R s m args below meth co H locs cells slots lsA Q hC _ hl k => lv_icmp_ne hC.1 hC.2.1 hd ht (fun _ => k lsA hl) (fun q => absurd q hc)) (kk.1 hc)
  · exact zq_move (fun _ b b0 dC dI dA p l e R s m args below meth co H locs cells slots lsA Q hC _ hl k => lv_icmp_ne hC.1 hC.2.1 hd ht (fun q => absurd q hc) (fun _ => k lsA hl)) (kk.2 (Classical.byContradiction hc))
theorem zq_if_ne {X : Option (Nat × (Nat → Int32))} {M : Mth} {d pc : Nat} {ls : List (Nat × Value)} {st : List Value} {h : AH} {Qp : Option Value → AH → Prop} {x : Int32} {off : Int} {tgt : Nat} (hd : decode M.2.1 pc = .ok (.ifCond .ne off, 3)) (ht : (pc : Int) + off = (tgt : Int)) (kk : (x ≠ 0 → zQ X M d tgt ls st h Qp) ∧ (x = 0 → zQ X M d (pc + 3) ls st h Qp)) : zQ X M d pc ls (.int x :: st) h Qp := by
  by_cases hc : x ≠ 0
  · exact zq_move (fun _ b b0 dC dI dA p l e R s m args below meth co H locs cells slots lsA Q hC _ hl k => lv_if_ne hC.1 hC.2.1 hd ht (fun _ => k lsA hl) (fun q => absurd q hc)) (kk.1 hc)
  · exact zq_move (fun _ b b0 dC dI dA p l e R s m args below meth co H locs cells slots lsA Q hC _ hl k => lv_if_ne hC.1 hC.2.1 hd ht (fun q => absurd q hc) (fun _ => k lsA hl)) (kk.2 (Classical.byContradiction hc))
theorem zq_icmp_lt {X : Option (Nat × (Nat → Int32))} {M : Mth} {d pc : Nat} {ls : List (Nat × Value)} {st : List Value} {h : AH} {Qp : Option Value → AH → Prop} {x y : Int32} {off : Int} {tgt : Nat} (hd : decode M.2.1 pc = .ok (.if_icmp .lt off, 3)) (ht : (pc : Int) + off = (tgt : Int)) (kk : (x < y → zQ X M d tgt ls st h Qp) ∧ (¬ (x < y) → zQ X M d (pc + 3) ls st h Qp)) : zQ X M d pc ls (.int y :: .int x :: st) h Qp := by
  by_cases hc : x < y
  · exact zq_move (fun _ b b0 dC dI dA p l e R s m args below meth co H locs cells slots lsA Q hC _ hl k => lv_icmp_lt hC.1 hC.2.1 hd ht (fun _ => k lsA hl) (fun q => absurd hc q)) (kk.1 hc)
  · exact zq_move (fun _ b b0 dC dI dA p l e R s m args below meth co H locs cells slots lsA Q hC _ hl k => lv_icmp_lt hC.1 hC.2.1 hd ht (fun q => absurd q hc) (fun _ => k lsA hl)) (kk.2 hc)
theorem zq_if_lt {X : Option (Nat × (Nat → Int32))} {M : Mth} {d pc : Nat} {ls : List (Nat × Value)} {st : List Value} {h : AH} {Qp : Option Value → AH → Prop} {x : Int32} {off : Int} {tgt : Nat} (hd : decode M.2.1 pc = .ok (.ifCond .lt off, 3)) (ht : (pc : Int) + off = (tgt : Int)) (kk : (x < 0 → zQ X M d tgt ls st h Qp) ∧ (¬ (x < 0) → zQ X M d (pc + 3) ls st h Qp)) : zQ X M d pc ls (.int x :: st) h Qp := by
  by_cases hc : x < 0
  · exact zq_move (fun _ b b0 dC dI dA p l e R s m args below meth co H locs cells slots lsA Q hC _ hl k => lv_if_lt hC.1 hC.2.1 hd ht (fun _ => k lsA hl) (fun q => absurd hc q)) (kk.1 hc)
  · exact zq_move (fun _ b b0 dC dI dA p l e R s m args below meth co H locs cells slots lsA Q hC _ hl k => lv_if_lt hC.1 hC.2.1 hd ht (fun q => absurd q hc) (fun _ => k lsA hl)) (kk.2 hc)
theorem zq_icmp_ge {X : Option (Nat × (Nat → Int32))} {M : Mth} {d pc : Nat} {ls : List (Nat × Value)} {st : List Value} {h : AH} {Qp : Option Value → AH → Prop} {x y : Int32} {off : Int} {tgt : Nat} (hd : decode M.2.1 pc = .ok (.if_icmp .ge off, 3)) (ht : (pc : Int) + off = (tgt : Int)) (kk : (y ≤ x → zQ X M d tgt ls st h Qp) ∧ (¬ (y ≤ x) → zQ X M d (pc + 3) ls st h Qp)) : zQ X M d pc ls (.int y :: .int x :: st) h Qp := by
  by_cases hc : y ≤ x
  · exact zq_move (fun _ b b0 dC dI dA p l e R s m args below meth co H locs cells slots lsA Q hC _ hl k => lv_icmp_ge hC.1 hC.2.1 hd ht (fun _ => k lsA hl) (fun q => absurd hc q)) (kk.1 hc)
  · exact zq_move (fun _ b b0 dC dI dA p l e R s m args below meth co H locs cells slots lsA Q hC _ hl k => lv_icmp_ge hC.1 hC.2.1 hd ht (fun q => absurd q hc) (fun _ => k lsA hl)) (kk.2 hc)
theorem zq_if_ge {X : Option (Nat × (Nat → Int32))} {M : Mth} {d pc : Nat} {ls : List (Nat × Value)} {st : List Value} {h : AH} {Qp : Option Value → AH → Prop} {x : Int32} {off : Int} {tgt : Nat} (hd : decode M.2.1 pc = .ok (.ifCond .ge off, 3)) (ht : (pc : Int) + off = (tgt : Int)) (kk : (0 ≤ x → zQ X M d tgt ls st h Qp) ∧ (¬ (0 ≤ x) → zQ X M d (pc + 3) ls st h Qp)) : zQ X M d pc ls (.int x :: st) h Qp := by
  by_cases hc : 0 ≤ x
  · exact zq_move (fun _ b b0 dC dI dA p l e R s m args below meth co H locs cells slots lsA Q hC _ hl k => lv_if_ge hC.1 hC.2.1 hd ht (fun _ => k lsA hl) (fun q => absurd hc q)) (kk.1 hc)
  · exact zq_move (fun _ b b0 dC dI dA p l e R s m args below meth co H locs cells slots lsA Q hC _ hl k => lv_if_ge hC.1 hC.2.1 hd ht (fun q => absurd q hc) (fun _ => k lsA hl)) (kk.2 hc)
theorem zq_icmp_gt {X : Option (Nat × (Nat → Int32))} {M : Mth} {d pc : Nat} {ls : List (Nat × Value)} {st : List Value} {h : AH} {Qp : Option Value → AH → Prop} {x y : Int32} {off : Int} {tgt : Nat} (hd : decode M.2.1 pc = .ok (.if_icmp .gt off, 3)) (ht : (pc : Int) + off = (tgt : Int)) (kk : (y < x → zQ X M d tgt ls st h Qp) ∧ (¬ (y < x) → zQ X M d (pc + 3) ls st h Qp)) : zQ X M d pc ls (.int y :: .int x :: st) h Qp := by
  by_cases hc : y < x
  · exact zq_move (fun _ b b0 dC dI dA p l e R s m args below meth co H locs cells slots lsA Q hC _ hl k => lv_icmp_gt hC.1 hC.2.1 hd ht (fun _ => k lsA hl) (fun q => absurd hc q)) (kk.1 hc)
  · exact zq_move (fun _ b b0 dC dI dA p l e R s m args below meth co H locs cells slots lsA Q hC _ hl k => lv_icmp_gt hC.1 hC.2.1 hd ht (fun q => absurd q hc) (fun _ => k lsA hl)) (kk.2 hc)
theorem zq_if_gt {X : Option (Nat × (Nat → Int32))} {M : Mth} {d pc : Nat} {ls : List (Nat × Value)} {st : List Value} {h : AH} {Qp : Option Value → AH → Prop} {x : Int32} {off : Int} {tgt : Nat} (hd : decode M.2.1 pc = .ok (.ifCond .gt off, 3)) (ht : (pc : Int) + off = (tgt : Int)) (kk : (0 < x → zQ X M d tgt ls st h Qp) ∧ (¬ (0 < x) → zQ X M d (pc + 3) ls st h Qp)) : zQ X M d pc ls (.int x :: st) h Qp := by
  by_cases hc : 0 < x
  · exact zq_move (fun _ b b0 dC dI dA p l e R s m args below meth co H locs cells slots lsA Q hC _ hl k => lv_if_gt hC.1 hC.2.1 hd ht (fun _ => k lsA hl) (fun q => absurd hc q)) (kk.1 hc)
  · exact zq_move (fun _ b b0 dC dI dA p l e R s m args below meth co H locs cells slots lsA Q hC _ hl k => lv_if_gt hC.1 hC.2.1 hd ht (fun q => absurd q hc) (fun _ => k lsA hl)) (kk.2 hc)
theorem zq_icmp_le {X : Option (Nat × (Nat → Int32))} {M : Mth} {d pc : Nat} {ls : List (Nat × Value)} {st : List Value} {h : AH} {Qp : Option Value → AH → Prop} {x y : Int32} {off : Int} {tgt : Nat} (hd : decode M.2.1 pc = .ok (.if_icmp .le off, 3)) (ht : (pc : Int) + off = (tgt : Int)) (kk : (x ≤ y → zQ X M d tgt ls st h Qp) ∧ (¬ (x ≤ y) → zQ X M d (pc + 3) ls st h Qp)) : zQ X M d pc ls (.int y :: .int x :: st) h Qp := by
  by_cases hc : x ≤ y
  · exact zq_move (fun _ b b0 dC dI dA p l e R s m args below meth co H locs cells slots lsA Q hC _ hl k => lv_icmp_le hC.1 hC.2.1 hd ht (fun _ => k lsA hl) (fun q => absurd hc q)) (kk.1 hc)
  · exact zq_move (fun _ b b0 dC dI dA p l e R s m args below meth co H locs cells slots lsA Q hC _ hl k => lv_icmp_le hC.1 hC.2.1 hd ht (fun q => absurd q hc) (fun _ => k lsA hl)) (kk.2 hc)
theorem zq_if_le {X : Option (Nat × (Nat → Int32))} {M : Mth} {d pc : Nat} {ls : List (Nat × Value)} {st : List Value} {h : AH} {Qp : Option Value → AH → Prop} {x : Int32} {off : Int} {tgt : Nat} (hd : decode M.2.1 pc = .ok (.ifCond .le off, 3)) (ht : (pc : Int) + off = (tgt : Int)) (kk : (x ≤ 0 → zQ X M d tgt ls st h Qp) ∧ (¬ (x ≤ 0) → zQ X M d (pc + 3) ls st h Qp)) : zQ X M d pc ls (.int x :: st) h Qp := by
  by_cases hc : x ≤ 0
  · exact zq_move (fun _ b b0 dC dI dA p l e R s m args below meth co H locs cells slots lsA Q hC _ hl k => lv_if_le hC.1 hC.2.1 hd ht (fun _ => k lsA hl) (fun q => absurd hc q)) (kk.1 hc)
  · exact zq_move (fun _ b b0 dC dI dA p l e R s m args below meth co H locs cells slots lsA Q hC _ hl k => lv_if_le hC.1 hC.2.1 hd ht (fun q => absurd q hc) (fun _ => k lsA hl)) (kk.2 hc)
theorem zq_ifnonnull {X : Option (Nat × (Nat → Int32))} {M : Mth} {d pc : Nat} {ls : List (Nat × Value)} {st : List Value} {h : AH} {Qp : Option Value → AH → Prop} {x : Nat} {off : Int} {tgt : Nat} (hd : decode M.2.1 pc = .ok (.ifnonnull off, 3)) (ht : (pc : Int) + off = (tgt : Int)) (kk : zQ X M d tgt ls st h Qp) : zQ X M d pc ls (.ref x :: st) h Qp :=
  zq_move (fun _ b b0 dC dI dA p l e R s m args below meth co H locs cells slots lsA Q hC _ hl k => lv_ifnonnull hC.1 hC.2.1 hd ht (k lsA hl)) kk
theorem zq_ifnull {X : Option (Nat × (Nat → Int32))} {M : Mth} {d pc : Nat} {ls : List (Nat × Value)} {st : List Value} {h : AH} {Qp : Option Value → AH → Prop} {x : Nat} {off : Int} (hd : decode M.2.1 pc = .ok (.ifnull off, 3)) (kk : zQ X M d (pc + 3) ls st h Qp) : zQ X M d pc ls (.ref x :: st) h Qp :=
  zq_move (fun _ b b0 dC dI dA p l e R s m args below meth co H locs cells slots lsA Q hC _ hl k => lv_ifnull hC.1 hC.2.1 hd (k lsA hl)) kk
theorem zq_ifnullN {X : Option (Nat × (Nat → Int32))} {M : Mth} {d pc : Nat} {ls : List (Nat × Value)} {st : List Value} {h : AH} {Qp : Option Value → AH → Prop} {off : Int} {tgt : Nat} (hd : decode M.2.1 pc = .ok (.ifnull off, 3)) (ht : (pc : Int) + off = (tgt : Int)) (kk : zQ X M d tgt ls st h Qp) : zQ X M d pc ls (.null :: st) h Qp :=
  zq_move (fun _ b b0 dC dI dA p l e R s m args below meth co H locs cells slots lsA Q hC _ hl k => lv_ifnullN hC.1 hC.2.1 hd ht (k lsA hl)) kk
theorem zq_ifnonnullN {X : Option (Nat × (Nat → Int32))} {M : Mth} {d pc : Nat} {ls : List (Nat × Value)} {st : List Value} {h : AH} {Qp : Option Value → AH → Prop} {off : Int} (hd : decode M.2.1 pc = .ok (.ifnonnull off, 3)) (kk : zQ X M d (pc + 3) ls st h Qp) : zQ X M d pc ls (.null :: st) h Qp :=
  zq_move (fun _ b b0 dC dI dA p l e R s m args below meth co H locs cells slots lsA Q hC _ hl k => lv_ifnonnullN hC.1 hC.2.1 hd (k lsA hl)) kk
theorem zq_tabIn {X : Option (Nat × (Nat → Int32))} {M : Mth} {d pc : Nat} {ls : List (Nat × Value)} {st : List Value} {h : AH} {Qp : Option Value → AH → Prop} {dflt lo hi : Int} {offs : Array Int} {len : Nat} {x : Int32} {off : Int} {tgt : Nat} (hd : decode M.2.1 pc = .ok (.tableswitch dflt lo hi offs, len)) (h1 : ¬ x.toInt < lo) (h2 : ¬ hi < x.toInt) (ho : offs[(x.toInt - lo).toNat]? = some off) (ht : (pc : Int) + off = (tgt : Int)) (kk : zQ X M d tgt ls st h Qp) : zQ X M d pc ls (.int x :: st) h Qp :=
  zq_move (fun _ b b0 dC dI dA p l e R s m args below meth co H locs cells slots lsA Q hC _ hl k => lv_tableIn hC.1 hC.2.1 hd h1 h2 ho ht (k lsA hl)) kk
theorem zq_tabOut {X : Option (Nat × (Nat → Int32))} {M : Mth} {d pc : Nat} {ls : List (Nat × Value)} {st : List Value} {h : AH} {Qp : Option Value → AH → Prop} {dflt lo hi : Int} {offs : Array Int} {len : Nat} {x : Int32} {tgt : Nat} (hd : decode M.2.1 pc = .ok (.tableswitch dflt lo hi offs, len)) (h1 : x.toInt < lo ∨ hi < x.toInt) (ht : (pc : Int) + dflt = (tgt : Int)) (kk : zQ X M d tgt ls st h Qp) : zQ X M d pc ls (.int x :: st) h Qp :=
  zq_move (fun _ b b0 dC dI dA p l e R s m args below meth co H locs cells slots lsA Q hC _ hl k => lv_tableOut hC.1 hC.2.1 hd h1 ht (k lsA hl)) kk
theorem zq_lookup {X : Option (Nat × (Nat → Int32))} {M : Mth} {d pc : Nat} {ls : List (Nat × Value)} {st : List Value} {h : AH} {Qp : Option Value → AH → Prop} {dflt : Int} {ps : Array (Int × Int)} {len : Nat} {x : Int32} {off : Int} {tgt : Nat} (hd : decode M.2.1 pc = .ok (.lookupswitch dflt ps, len)) (hp : (ps.toList.zip (ps.toList.drop 1)).all (fun (a, next) => a.1 < next.1) = true) (ho : Op.lookupswitch.offset ps.toList dflt x.toInt = off) (ht : (pc : Int) + off = (tgt : Int)) (kk : zQ X M d tgt ls st h Qp) : zQ X M d pc ls (.int x :: st) h Qp :=
  zq_move (fun _ b b0 dC dI dA p l e R s m args below meth co H locs cells slots lsA Q hC _ hl k => lv_lookup hC.1 hC.2.1 hd hp ho ht (k lsA hl)) kk
theorem zq_ldc {X : Option (Nat × (Nat → Int32))} {M : Mth} {d pc : Nat} {ls : List (Nat × Value)} {st : List Value} {h : AH} {Qp : Option Value → AH → Prop} {ix : Nat} {v : Int32} (hw : Cond.constant M.1.cls ix v ∈ zT) (hd : decode M.2.1 pc = .ok (.ldc ix, 2)) (kk : zQ X M d (pc + 2) ls (.int v :: st) h Qp) : zQ X M d pc ls st h Qp :=
  zq_move (fun _ b b0 dC dI dA p l e R s m args below meth co H locs cells slots lsA Q hC _ hl k => lv_ldc hC.1 hC.2.1 hC.2.2.2.1 (hC.2.2.2.2.1 _ hw) hd (k lsA hl)) kk
theorem zq_ldcw {X : Option (Nat × (Nat → Int32))} {M : Mth} {d pc : Nat} {ls : List (Nat × Value)} {st : List Value} {h : AH} {Qp : Option Value → AH → Prop} {ix : Nat} {v : Int32} (hw : Cond.constant M.1.cls ix v ∈ zT) (hd : decode M.2.1 pc = .ok (.ldc_w ix, 3)) (kk : zQ X M d (pc + 3) ls (.int v :: st) h Qp) : zQ X M d pc ls st h Qp :=
  zq_move (fun _ b b0 dC dI dA p l e R s m args below meth co H locs cells slots lsA Q hC _ hl k => lv_ldcw hC.1 hC.2.1 hC.2.2.2.1 (hC.2.2.2.2.1 _ hw) hd (k lsA hl)) kk
theorem zq_ldc2 {X : Option (Nat × (Nat → Int32))} {M : Mth} {d pc : Nat} {ls : List (Nat × Value)} {st : List Value} {h : AH} {Qp : Option Value → AH → Prop} {ix : Nat} {v : Int64} (hw : Cond.constantLong M.1.cls ix v ∈ zT) (hd : decode M.2.1 pc = .ok (.ldc2_w ix, 3)) (kk : zQ X M d (pc + 3) ls (.long v :: st) h Qp) : zQ X M d pc ls st h Qp :=
  zq_move (fun _ b b0 dC dI dA p l e R s m args below meth co H locs cells slots lsA Q hC _ hl k => lv_ldc2 hC.1 hC.2.1 hC.2.2.2.1 (hC.2.2.2.2.1 _ hw) hd (k lsA hl)) kk
end
section
theorem zo_w1 : Cond.instanceMethod objectInit ∈ zT := zT_of (i := 25) rfl rfl
theorem zo_w2 : Cond.code objectInit ⟨#[0xb1]⟩ 1 none ∈ zT := zT_of (i := 26) rfl rfl
theorem zac_w1 : Cond.native arraycopyName ∈ zT := zT_of (i := 330) rfl rfl
theorem zac_w2 : Cond.static arraycopyName ∈ zT := zT_of (i := 329) rfl rfl
theorem zac_w3 : Cond.initialized "java/lang/System" ∈ zT := zT_of (i := 12) rfl rfl
theorem zar_int : Cond.arrayClass (newarray.typeOf .int) ∈ zT := zT_of (i := 49) rfl rfl
theorem zar_long : Cond.arrayClass (newarray.typeOf .long) ∈ zT := zT_of (i := 48) rfl rfl
theorem zar_byte : Cond.arrayClass (newarray.typeOf .byte) ∈ zT := zT_of (i := 175) rfl rfl
/-! fields -/
def zFL (own : String) (ix c k : Nat) : Prop := c < 11 ∧ k < zN c ∧ Cond.fieldLink own ix (zTb c k).1 (zTb c k).2.1 (zTb c k).2.2.1 ∈ zT
theorem zo_at {b b0 : Nat} {dA : Nat → ClassId} {h : AH} {o c : Nat} (hok : h.ok) (hs : h.sh o = some (.inl c)) : (zw b b0 dA h)[o - 1]? = some (zadr b b0 o, .inr (c, zfs b b0 h o c)) := by rw [zw_at hok hs, zcell_o hs]
theorem za_at {b b0 : Nat} {dA : Nat → ClassId} {h : AH} {o t n : Nat} (hok : h.ok) (hs : h.sh o = some (.inr (t, n))) : (zw b b0 dA h)[o - 1]? = some (zadr b b0 o, .inl (dA t, (n, zct b b0 h o t))) := by rw [zw_at hok hs, zcell_a hs]
theorem zpos {h : AH} {o : Nat} {x : Shp} (hok : h.ok) (hs : h.sh o = some x) : 0 < o := ((hok.2 o).mp (by rw [hs]; rfl)).1
theorem zq_getI {X : Option (Nat × (Nat → Int32))} {M : Mth} {d pc : Nat} {ls : List (Nat × Value)} {st : List Value} {h : AH} {Qp : Option Value → AH → Prop} {ix c o k : Nat} (hl : zFL M.1.cls ix c k) (hkd : zkd (zty c k) = 0) (hs : h.sh o = some (.inl c)) (hd : decode M.2.1 pc = .ok (.getfield ix, 3)) (kk : zQ X M d (pc + 3) ls (.int (h.I o k) :: st) h Qp) : zQ X M d pc ls (.ref o :: st) h Qp :=
  zq_move (fun hok b b0 dC dI dA p l e R s m args below meth co H locs cells slots lsA Q hC hH hlv kq => by
    obtain ⟨hx, hb, hml, hown, hts, hin, hfr, hlo, hbs, hK, hX, hAO⟩ := hC
    exact va_get (D := (dC, dI)) (ci := c) (v := .int (h.I o k)) (C := zR c) (T := zTb c) (N := zN c) hx hb hts (zcl_ws c hl.1) hown hK hH.1 (o - 1) (zo_at hok hs) (zcl_at c hl.1) k hl.2.1 (hts _ hl.2.2) (fun _ q => q) (by rw [zfs_get hl.2.1]; simp [zcf, hkd]) hd (kq lsA hlv)) kk
theorem zq_getL {X : Option (Nat × (Nat → Int32))} {M : Mth} {d pc : Nat} {ls : List (Nat × Value)} {st : List Value} {h : AH} {Qp : Option Value → AH → Prop} {ix c o k : Nat} (hl : zFL M.1.cls ix c k) (hkd : zkd (zty c k) = 1) (hs : h.sh o = some (.inl c)) (hd : decode M.2.1 pc = .ok (.getfield ix, 3)) (kk : zQ X M d (pc + 3) ls (.long (h.L o k) :: st) h Qp) : zQ X M d pc ls (.ref o :: st) h Qp :=
  zq_move (fun hok b b0 dC dI dA p l e R s m args below meth co H locs cells slots lsA Q hC hH hlv kq => by
    obtain ⟨hx, hb, hml, hown, hts, hin, hfr, hlo, hbs, hK, hX, hAO⟩ := hC
    exact va_get (D := (dC, dI)) (ci := c) (v := .long (h.L o k)) (C := zR c) (T := zTb c) (N := zN c) hx hb hts (zcl_ws c hl.1) hown hK hH.1 (o - 1) (zo_at hok hs) (zcl_at c hl.1) k hl.2.1 (hts _ hl.2.2) (fun _ q => q) (by rw [zfs_get hl.2.1]; simp [zcf, hkd]) hd (kq lsA hlv)) kk
theorem zq_getP {X : Option (Nat × (Nat → Int32))} {M : Mth} {d pc : Nat} {ls : List (Nat × Value)} {st : List Value} {h : AH} {Qp : Option Value → AH → Prop} {ix c o k q : Nat} (hl : zFL M.1.cls ix c k) (hkd : zkd (zty c k) = 2) (hs : h.sh o = some (.inl c)) (hp : h.P o k = some q) (hd : decode M.2.1 pc = .ok (.getfield ix, 3)) (kk : zQ X M d (pc + 3) ls (.ref q :: st) h Qp) : zQ X M d pc ls (.ref o :: st) h Qp :=
  zq_move (fun hok b b0 dC dI dA p l e R s m args below meth co H locs cells slots lsA Q hC hH hlv kq => by
    obtain ⟨hx, hb, hml, hown, hts, hin, hfr, hlo, hbs, hK, hX, hAO⟩ := hC
    exact va_get (D := (dC, dI)) (ci := c) (v := .ref (zadr b b0 q)) (C := zR c) (T := zTb c) (N := zN c) hx hb hts (zcl_ws c hl.1) hown hK hH.1 (o - 1) (zo_at hok hs) (zcl_at c hl.1) k hl.2.1 (hts _ hl.2.2) (fun _ q => q) (by rw [zfs_get hl.2.1]; simp [zcf, hkd, hp, va_rf]) hd (kq lsA hlv)) kk
theorem zq_putI {X : Option (Nat × (Nat → Int32))} {M : Mth} {d pc : Nat} {ls : List (Nat × Value)} {st : List Value} {h : AH} {Qp : Option Value → AH → Prop} {ix c o k : Nat} {x : Int32} (hl : zFL M.1.cls ix c k) (hkd : zkd (zty c k) = 0) (hf : (zTb c k).2.2.2 = false ∨ (M.1.name = "<init>" ∧ zR c = M.1.cls ∧ (zTb c k).2.2.2 = true)) (hs : h.sh o = some (.inl c)) (hn : narrow (zty c k) (.int x) = .int x) (hft : fits (zty c k) (.int x) = true) (hd : decode M.2.1 pc = .ok (.putfield ix, 3)) (kk : zQ X M d (pc + 3) ls st (h.sI o k x) Qp) : zQ X M d pc ls (.int x :: .ref o :: st) h Qp :=
  zq_heap (h' := h.sI o k x) rfl rfl id (fun hok b b0 dC dI dA p l e R s m args below meth co H locs cells slots lsA Q hC hH hlv kq => by
    obtain ⟨hx, hb, hml, hown, hts, hin, hfr, hlo, hbs, hK, hX, hAO⟩ := hC
    have e1 : (zw b b0 dA h).set (o - 1) (zadr b b0 o, .inr (c, (zfs b b0 h o c).set k (.int x))) = zw b b0 dA (h.sI o k x) := by
      have e2 : zcell b b0 dA (h.sI o k x) o = .inr (c, (zfs b b0 h o c).set k (.int x)) := by
        rw [zcell_o (h := h.sI o k x) (c := c) hs]; congr 2; symm; exact zfs_sI (x := x) hkd
      rw [← e2]
      exact zw_set (h' := h.sI o k x) rfl zc_wI (zpos hok hs)
    have hn' : narrow (zty c k) (Value.int x) = Value.int x := hn
    have hft' : fits (zty c k) (Value.int x) = true := hft
    have hlen : k < (zfs b b0 h o c).length := by simp [zfs]; exact hl.2.1
    rcases hf with hf | ⟨f1, f2, f3⟩
    · exact va_put (D := (dC, dI)) (ci := c) (v := .int x) (ty := zty c k) (C := zR c) (T := zTb c) (N := zN c) hx hb hts (zcl_ws c hl.1) (zty c) (zcl_ty c hl.1) (zcl_nm c hl.1) hown hK hH.1 zw_D hH.2.1 (o - 1) (zo_at hok hs) (zcl_at c hl.1) k hl.2.1 (hts _ hl.2.2) (fun _ q => q) hf (zcl_ty c hl.1 k hl.2.1) hn' hft' hlen hd (fun H1 locs1 hP1 _ hS1 => kq H1 locs1 (e1 ▸ hP1) hS1)
    · exact va_putF (D := (dC, dI)) (ci := c) (v := .int x) (ty := zty c k) (C := zR c) (T := zTb c) (N := zN c) hx hb hts (zcl_ws c hl.1) (zty c) (zcl_ty c hl.1) (zcl_nm c hl.1) hown hK hH.1 zw_D hH.2.1 (o - 1) (zo_at hok hs) (zcl_at c hl.1) k hl.2.1 (hts _ hl.2.2) (fun _ q => q) f3 (hin f1) ((zcl_own c hl.1 k hl.2.1).trans f2) (zcl_ty c hl.1 k hl.2.1) hn' hft' hlen hd (fun H1 locs1 hP1 _ hS1 => kq H1 locs1 (e1 ▸ hP1) hS1)) kk
theorem zq_putL {X : Option (Nat × (Nat → Int32))} {M : Mth} {d pc : Nat} {ls : List (Nat × Value)} {st : List Value} {h : AH} {Qp : Option Value → AH → Prop} {ix c o k : Nat} {x : Int64} (hl : zFL M.1.cls ix c k) (hkd : zkd (zty c k) = 1) (hf : (zTb c k).2.2.2 = false ∨ (M.1.name = "<init>" ∧ zR c = M.1.cls ∧ (zTb c k).2.2.2 = true)) (hs : h.sh o = some (.inl c))  (hd : decode M.2.1 pc = .ok (.putfield ix, 3)) (kk : zQ X M d (pc + 3) ls st (h.sL o k x) Qp) : zQ X M d pc ls (.long x :: .ref o :: st) h Qp :=
  zq_heap (h' := h.sL o k x) rfl rfl id (fun hok b b0 dC dI dA p l e R s m args below meth co H locs cells slots lsA Q hC hH hlv kq => by
    obtain ⟨hx, hb, hml, hown, hts, hin, hfr, hlo, hbs, hK, hX, hAO⟩ := hC
    have e1 : (zw b b0 dA h).set (o - 1) (zadr b b0 o, .inr (c, (zfs b b0 h o c).set k (.long x))) = zw b b0 dA (h.sL o k x) := by
      have e2 : zcell b b0 dA (h.sL o k x) o = .inr (c, (zfs b b0 h o c).set k (.long x)) := by
        rw [zcell_o (h := h.sL o k x) (c := c) hs]; congr 2; symm; exact zfs_sL (x := x) hkd
      rw [← e2]
      exact zw_set (h' := h.sL o k x) rfl zc_wL (zpos hok hs)
    have hty : zty c k = .long := by revert hkd; cases zty c k <;> simp [zkd]
    have hn' : narrow (zty c k) (Value.long x) = Value.long x := by rw [hty]; rfl
    have hft' : fits (zty c k) (Value.long x) = true := by rw [hty]; rfl
    have hlen : k < (zfs b b0 h o c).length := by simp [zfs]; exact hl.2.1
    rcases hf with hf | ⟨f1, f2, f3⟩
    · exact va_put (D := (dC, dI)) (ci := c) (v := .long x) (ty := zty c k) (C := zR c) (T := zTb c) (N := zN c) hx hb hts (zcl_ws c hl.1) (zty c) (zcl_ty c hl.1) (zcl_nm c hl.1) hown hK hH.1 zw_D hH.2.1 (o - 1) (zo_at hok hs) (zcl_at c hl.1) k hl.2.1 (hts _ hl.2.2) (fun _ q => q) hf (zcl_ty c hl.1 k hl.2.1) hn' hft' hlen hd (fun H1 locs1 hP1 _ hS1 => kq H1 locs1 (e1 ▸ hP1) hS1)
    · exact va_putF (D := (dC, dI)) (ci := c) (v := .long x) (ty := zty c k) (C := zR c) (T := zTb c) (N := zN c) hx hb hts (zcl_ws c hl.1) (zty c) (zcl_ty c hl.1) (zcl_nm c hl.1) hown hK hH.1 zw_D hH.2.1 (o - 1) (zo_at hok hs) (zcl_at c hl.1) k hl.2.1 (hts _ hl.2.2) (fun _ q => q) f3 (hin f1) ((zcl_own c hl.1 k hl.2.1).trans f2) (zcl_ty c hl.1 k hl.2.1) hn' hft' hlen hd (fun H1 locs1 hP1 _ hS1 => kq H1 locs1 (e1 ▸ hP1) hS1)) kk
theorem zq_putP {X : Option (Nat × (Nat → Int32))} {M : Mth} {d pc : Nat} {ls : List (Nat × Value)} {st : List Value} {h : AH} {Qp : Option Value → AH → Prop} {ix c o k : Nat} {x : Nat} (hl : zFL M.1.cls ix c k) (hkd : zkd (zty c k) = 2) (hf : (zTb c k).2.2.2 = false ∨ (M.1.name = "<init>" ∧ zR c = M.1.cls ∧ (zTb c k).2.2.2 = true)) (hs : h.sh o = some (.inl c))  (hd : decode M.2.1 pc = .ok (.putfield ix, 3)) (kk : zQ X M d (pc + 3) ls st (h.sP o k (some x)) Qp) : zQ X M d pc ls (.ref x :: .ref o :: st) h Qp :=
  zq_heap (h' := h.sP o k (some x)) rfl rfl id (fun hok b b0 dC dI dA p l e R s m args below meth co H locs cells slots lsA Q hC hH hlv kq => by
    obtain ⟨hx, hb, hml, hown, hts, hin, hfr, hlo, hbs, hK, hX, hAO⟩ := hC
    have e1 : (zw b b0 dA h).set (o - 1) (zadr b b0 o, .inr (c, (zfs b b0 h o c).set k (.ref (zadr b b0 x)))) = zw b b0 dA (h.sP o k (some x)) := by
      have e2 : zcell b b0 dA (h.sP o k (some x)) o = .inr (c, (zfs b b0 h o c).set k (.ref (zadr b b0 x))) := by
        rw [zcell_o (h := h.sP o k (some x)) (c := c) hs]; congr 2; symm; exact zfs_sP (x := some x) hkd
      rw [← e2]
      exact zw_set (h' := h.sP o k (some x)) rfl zc_wP (zpos hok hs)
    have hn' : narrow (zty c k) (Value.ref (zadr b b0 x)) = Value.ref (zadr b b0 x) := by revert hkd; cases zty c k <;> simp [zkd, narrow]
    have hft' : fits (zty c k) (Value.ref (zadr b b0 x)) = true := by revert hkd; cases zty c k <;> simp [zkd, fits]
    have hlen : k < (zfs b b0 h o c).length := by simp [zfs]; exact hl.2.1
    rcases hf with hf | ⟨f1, f2, f3⟩
    · exact va_put (D := (dC, dI)) (ci := c) (v := .ref (zadr b b0 x)) (ty := zty c k) (C := zR c) (T := zTb c) (N := zN c) hx hb hts (zcl_ws c hl.1) (zty c) (zcl_ty c hl.1) (zcl_nm c hl.1) hown hK hH.1 zw_D hH.2.1 (o - 1) (zo_at hok hs) (zcl_at c hl.1) k hl.2.1 (hts _ hl.2.2) (fun _ q => q) hf (zcl_ty c hl.1 k hl.2.1) hn' hft' hlen hd (fun H1 locs1 hP1 _ hS1 => kq H1 locs1 (e1 ▸ hP1) hS1)
    · exact va_putF (D := (dC, dI)) (ci := c) (v := .ref (zadr b b0 x)) (ty := zty c k) (C := zR c) (T := zTb c) (N := zN c) hx hb hts (zcl_ws c hl.1) (zty c) (zcl_ty c hl.1) (zcl_nm c hl.1) hown hK hH.1 zw_D hH.2.1 (o - 1) (zo_at hok hs) (zcl_at c hl.1) k hl.2.1 (hts _ hl.2.2) (fun _ q => q) f3 (hin f1) ((zcl_own c hl.1 k hl.2.1).trans f2) (zcl_ty c hl.1 k hl.2.1) hn' hft' hlen hd (fun H1 locs1 hP1 _ hS1 => kq H1 locs1 (e1 ▸ hP1) hS1)) kk
/-! rows -/
theorem zct_0 {b b0 : Nat} {h : AH} {k : Nat} : zct b b0 h k 0 = .inl (h.I k) := rfl
theorem zct_1 {b b0 : Nat} {h : AH} {k : Nat} : zct b b0 h k 1 = .inr (.inl (h.L k)) := rfl
theorem zct_2 {b b0 : Nat} {h : AH} {k : Nat} : zct b b0 h k 2 = .inl (h.I k) := rfl
theorem zct_3 {b b0 : Nat} {h : AH} {k : Nat} : zct b b0 h k 3 = .inr (.inr (.inr (.inr fun j => (h.P k j).map (zadr b b0)))) := rfl
theorem AH.wI_I {h : AH} {k : Nat} {f : Nat → Int32} : (h.wI k f).I k = f := va_up_self _ _ _
theorem AH.wL_L {h : AH} {k : Nat} {f : Nat → Int64} : (h.wL k f).L k = f := va_up_self _ _ _
theorem AH.wP_P {h : AH} {k : Nat} {f : Nat → Option Nat} : (h.wP k f).P k = f := va_up_self _ _ _
theorem zq_iald {X : Option (Nat × (Nat → Int32))} {M : Mth} {d pc : Nat} {ls : List (Nat × Value)} {st : List Value} {h : AH} {Qp : Option Value → AH → Prop} {o n : Nat} {i : Int32} (hs : h.sh o = some (.inr (0, n))) (hi : vp_in i n) (hd : decode M.2.1 pc = .ok (.iaload, 1)) (kk : zQ X M d (pc + 1) ls (.int (h.I o i.toNatClampNeg) :: st) h Qp) : zQ X M d pc ls (.int i :: .ref o :: st) h Qp :=
  zq_move (fun hok b b0 dC dI dA p l e R s m args below meth co H locs cells slots lsA Q hC hH hlv kq => by
    obtain ⟨hx, hb, hml, hown, hts, hin, hfr, hlo, hbs, hK, hX, hAO⟩ := hC
    exact va_iald (D := (dC, dI)) hx hb hK hH.1 (o - 1) 0 (za_at hok hs) rfl hi hd (kq lsA hlv)) kk
theorem zq_bald {X : Option (Nat × (Nat → Int32))} {M : Mth} {d pc : Nat} {ls : List (Nat × Value)} {st : List Value} {h : AH} {Qp : Option Value → AH → Prop} {o n : Nat} {i : Int32} (hs : h.sh o = some (.inr (2, n))) (hi : vp_in i n) (hd : decode M.2.1 pc = .ok (.baload, 1)) (kk : zQ X M d (pc + 1) ls (.int (h.I o i.toNatClampNeg) :: st) h Qp) : zQ X M d pc ls (.int i :: .ref o :: st) h Qp :=
  zq_move (fun hok b b0 dC dI dA p l e R s m args below meth co H locs cells slots lsA Q hC hH hlv kq => by
    obtain ⟨hx, hb, hml, hown, hts, hin, hfr, hlo, hbs, hK, hX, hAO⟩ := hC
    exact va_bald (D := (dC, dI)) hx hb hK hH.1 (o - 1) 2 (za_at hok hs) rfl hi hd (kq lsA hlv)) kk
theorem zq_lald {X : Option (Nat × (Nat → Int32))} {M : Mth} {d pc : Nat} {ls : List (Nat × Value)} {st : List Value} {h : AH} {Qp : Option Value → AH → Prop} {o n : Nat} {i : Int32} (hs : h.sh o = some (.inr (1, n))) (hi : vp_in i n) (hd : decode M.2.1 pc = .ok (.laload, 1)) (kk : zQ X M d (pc + 1) ls (.long (h.L o i.toNatClampNeg) :: st) h Qp) : zQ X M d pc ls (.int i :: .ref o :: st) h Qp :=
  zq_move (fun hok b b0 dC dI dA p l e R s m args below meth co H locs cells slots lsA Q hC hH hlv kq => by
    obtain ⟨hx, hb, hml, hown, hts, hin, hfr, hlo, hbs, hK, hX, hAO⟩ := hC
    exact va_lald (D := (dC, dI)) hx hb hK hH.1 (o - 1) 1 (za_at hok hs) rfl hi hd (kq lsA hlv)) kk
theorem zq_aald {X : Option (Nat × (Nat → Int32))} {M : Mth} {d pc : Nat} {ls : List (Nat × Value)} {st : List Value} {h : AH} {Qp : Option Value → AH → Prop} {o n q : Nat} {i : Int32} (hs : h.sh o = some (.inr (3, n))) (hi : vp_in i n) (hq : h.P o i.toNatClampNeg = some q) (hd : decode M.2.1 pc = .ok (.aaload, 1)) (kk : zQ X M d (pc + 1) ls (.ref q :: st) h Qp) : zQ X M d pc ls (.int i :: .ref o :: st) h Qp :=
  zq_move (fun hok b b0 dC dI dA p l e R s m args below meth co H locs cells slots lsA Q hC hH hlv kq => by
    obtain ⟨hx, hb, hml, hown, hts, hin, hfr, hlo, hbs, hK, hX, hAO⟩ := hC
    refine va_aldq (D := (dC, dI)) hx hb hK hH.1 (o - 1) 3 (za_at hok hs) rfl hi hd ?_
    rw [hq]
    exact kq lsA hlv) kk
theorem zupd (f : Nat → Int32) (k : Nat) (x : Int32) : upd f k x = va_up f k x := rfl
theorem zupdL (f : Nat → Int64) (k : Nat) (x : Int64) : vp_updL f k x = va_up f k x := rfl
theorem zq_iast {X : Option (Nat × (Nat → Int32))} {M : Mth} {d pc : Nat} {ls : List (Nat × Value)} {st : List Value} {h : AH} {Qp : Option Value → AH → Prop} {o n : Nat} {i : Int32} {x : Int32} (hs : h.sh o = some (.inr (0, n))) (hi : vp_in i n) (hd : decode M.2.1 pc = .ok (.iastore, 1)) (kk : zQ X M d (pc + 1) ls st (h.sI o i.toNatClampNeg x) Qp) : zQ X M d pc ls (.int x :: .int i :: .ref o :: st) h Qp :=
  zq_heap (h' := h.sI o i.toNatClampNeg x) rfl rfl id (fun hok b b0 dC dI dA p l e R s m args below meth co H locs cells slots lsA Q hC hH hlv kq => by
    obtain ⟨hx, hb, hml, hown, hts, hin, hfr, hlo, hbs, hK, hX, hAO⟩ := hC
    have e1 : (zw b b0 dA h).set (o - 1) (zadr b b0 o, .inl (dA 0, (n, zct b b0 (h.sI o i.toNatClampNeg x) o 0))) = zw b b0 dA (h.sI o i.toNatClampNeg x) := by
      rw [← zcell_a (h := h.sI o i.toNatClampNeg x) (t := 0) (len := n) hs]
      exact zw_set (h' := h.sI o i.toNatClampNeg x) rfl zc_wI (zpos hok hs)
    have e3 : zct b b0 (h.sI o i.toNatClampNeg x) o 0 = .inl (upd (h.I o) i.toNatClampNeg x) := by rw [zct_0]; exact congrArg Sum.inl AH.wI_I
    refine va_iast (D := (dC, dI)) hx hb hK hH.1 zw_D hH.2.1 (o - 1) 0 (za_at hok hs) rfl hi hd (fun H1 locs1 hP1 _ hS1 => kq H1 locs1 ?_ hS1)
    rw [← e1, e3]
    exact hP1) kk
theorem zq_bast {X : Option (Nat × (Nat → Int32))} {M : Mth} {d pc : Nat} {ls : List (Nat × Value)} {st : List Value} {h : AH} {Qp : Option Value → AH → Prop} {o n : Nat} {i : Int32} {x : Int32} (hs : h.sh o = some (.inr (2, n))) (hi : vp_in i n) (hd : decode M.2.1 pc = .ok (.bastore, 1)) (kk : zQ X M d (pc + 1) ls st (h.sI o i.toNatClampNeg x.toInt8.toInt32) Qp) : zQ X M d pc ls (.int x :: .int i :: .ref o :: st) h Qp :=
  zq_heap (h' := h.sI o i.toNatClampNeg x.toInt8.toInt32) rfl rfl id (fun hok b b0 dC dI dA p l e R s m args below meth co H locs cells slots lsA Q hC hH hlv kq => by
    obtain ⟨hx, hb, hml, hown, hts, hin, hfr, hlo, hbs, hK, hX, hAO⟩ := hC
    have e1 : (zw b b0 dA h).set (o - 1) (zadr b b0 o, .inl (dA 2, (n, zct b b0 (h.sI o i.toNatClampNeg x.toInt8.toInt32) o 2))) = zw b b0 dA (h.sI o i.toNatClampNeg x.toInt8.toInt32) := by
      rw [← zcell_a (h := h.sI o i.toNatClampNeg x.toInt8.toInt32) (t := 2) (len := n) hs]
      exact zw_set (h' := h.sI o i.toNatClampNeg x.toInt8.toInt32) rfl zc_wI (zpos hok hs)
    have e3 : zct b b0 (h.sI o i.toNatClampNeg x.toInt8.toInt32) o 2 = .inl (upd (h.I o) i.toNatClampNeg x.toInt8.toInt32) := by rw [zct_2]; exact congrArg Sum.inl AH.wI_I
    refine va_bast (D := (dC, dI)) hx hb hK hH.1 zw_D hH.2.1 (o - 1) 2 (za_at hok hs) rfl hi hd (fun H1 locs1 hP1 _ hS1 => kq H1 locs1 ?_ hS1)
    rw [← e1, e3]
    rw [vp_nar_byte] at hP1; exact hP1) kk
theorem zq_last {X : Option (Nat × (Nat → Int32))} {M : Mth} {d pc : Nat} {ls : List (Nat × Value)} {st : List Value} {h : AH} {Qp : Option Value → AH → Prop} {o n : Nat} {i : Int32} {x : Int64} (hs : h.sh o = some (.inr (1, n))) (hi : vp_in i n) (hd : decode M.2.1 pc = .ok (.lastore, 1)) (kk : zQ X M d (pc + 1) ls st (h.sL o i.toNatClampNeg x) Qp) : zQ X M d pc ls (.long x :: .int i :: .ref o :: st) h Qp :=
  zq_heap (h' := h.sL o i.toNatClampNeg x) rfl rfl id (fun hok b b0 dC dI dA p l e R s m args below meth co H locs cells slots lsA Q hC hH hlv kq => by
    obtain ⟨hx, hb, hml, hown, hts, hin, hfr, hlo, hbs, hK, hX, hAO⟩ := hC
    have e1 : (zw b b0 dA h).set (o - 1) (zadr b b0 o, .inl (dA 1, (n, zct b b0 (h.sL o i.toNatClampNeg x) o 1))) = zw b b0 dA (h.sL o i.toNatClampNeg x) := by
      rw [← zcell_a (h := h.sL o i.toNatClampNeg x) (t := 1) (len := n) hs]
      exact zw_set (h' := h.sL o i.toNatClampNeg x) rfl zc_wL (zpos hok hs)
    have e3 : zct b b0 (h.sL o i.toNatClampNeg x) o 1 = .inr (.inl (vp_updL (h.L o) i.toNatClampNeg x)) := by rw [zct_1]; exact congrArg (fun f => Sum.inr (Sum.inl f)) AH.wL_L
    refine va_last (D := (dC, dI)) hx hb hK hH.1 zw_D hH.2.1 (o - 1) 1 (za_at hok hs) rfl hi hd (fun H1 locs1 hP1 _ hS1 => kq H1 locs1 ?_ hS1)
    rw [← e1, e3]
    exact hP1) kk
theorem zq_aast {X : Option (Nat × (Nat → Int32))} {M : Mth} {d pc : Nat} {ls : List (Nat × Value)} {st : List Value} {h : AH} {Qp : Option Value → AH → Prop} {o n q : Nat} {i : Int32} (hs : h.sh o = some (.inr (3, n))) (hi : vp_in i n) (hq : h.sh q = some (.inl 7)) (hd : decode M.2.1 pc = .ok (.aastore, 1)) (kk : zQ X M d (pc + 1) ls st (h.sP o i.toNatClampNeg (some q)) Qp) : zQ X M d pc ls (.ref q :: .int i :: .ref o :: st) h Qp :=
  zq_heap (h' := h.sP o i.toNatClampNeg (some q)) rfl rfl id (fun hok b b0 dC dI dA p l e R s m args below meth co H locs cells slots lsA Q hC hH hlv kq => by
    obtain ⟨hx, hb, hml, hown, hts, hin, hfr, hlo, hbs, hK, hX, hAO⟩ := hC
    have e1 : (zw b b0 dA h).set (o - 1) (zadr b b0 o, .inl (dA 3, (n, zct b b0 (h.sP o i.toNatClampNeg (some q)) o 3))) = zw b b0 dA (h.sP o i.toNatClampNeg (some q)) := by
      rw [← zcell_a (h := h.sP o i.toNatClampNeg (some q)) (t := 3) (len := n) hs]
      exact zw_set (h' := h.sP o i.toNatClampNeg (some q)) rfl zc_wP (zpos hok hs)
    refine va_astq (D := (dC, dI)) (r := (zR 7, zTb 7, zN 7)) hx hb hK hH.1 zw_D hH.2.1 (o - 1) 3 (q - 1) 7 (za_at hok hs) rfl (zo_at hok hq) rfl hi hd (fun H1 locs1 hP1 _ hS1 => kq H1 locs1 ?_ hS1)
    rw [← e1]
    have e2 : zct b b0 (h.sP o i.toNatClampNeg (some q)) o 3 = .inr (.inr (.inr (.inr (va_up (fun j => (h.P o j).map (zadr b b0)) i.toNatClampNeg (some (zadr b b0 q)))))) := by
      rw [zct_3]
      refine congrArg (fun f => Sum.inr (Sum.inr (Sum.inr (Sum.inr f)))) (funext fun j => ?_)
      show ((h.sP o i.toNatClampNeg (some q)).P o j).map _ = _
      rw [show (h.sP o i.toNatClampNeg (some q)).P o = _ from AH.wP_P]
      by_cases hj : j = i.toNatClampNeg
      · subst hj; simp [va_up_self]
      · simp [va_up_ne _ _ hj]
    rw [e2]
    exact hP1) kk
theorem zq_alen {X : Option (Nat × (Nat → Int32))} {M : Mth} {d pc : Nat} {ls : List (Nat × Value)} {st : List Value} {h : AH} {Qp : Option Value → AH → Prop} {o t n : Nat} {v : Int32} (hs : h.sh o = some (.inr (t, n))) (ht : t < 4) (hv : Int32.ofNat n = v) (hd : decode M.2.1 pc = .ok (.arraylength, 1)) (kk : zQ X M d (pc + 1) ls (.int v :: st) h Qp) : zQ X M d pc ls (.ref o :: st) h Qp :=
  zq_move (fun hok b b0 dC dI dA p l e R s m args below meth co H locs cells slots lsA Q hC hH hlv kq => by
    obtain ⟨hx, hb, hml, hown, hts, hin, hfr, hlo, hbs, hK, hX, hAO⟩ := hC
    match t, ht, hs with
    | 0, _, hs => exact va_alen (D := (dC, dI)) hx hb hK hH.1 (o - 1) 0 (za_at hok hs) rfl hv hd (kq lsA hlv)
    | 1, _, hs => exact va_alen (D := (dC, dI)) hx hb hK hH.1 (o - 1) 1 (za_at hok hs) rfl hv hd (kq lsA hlv)
    | 2, _, hs => exact va_alen (D := (dC, dI)) hx hb hK hH.1 (o - 1) 2 (za_at hok hs) rfl hv hd (kq lsA hlv)
    | 3, _, hs => exact va_alen (D := (dC, dI)) hx hb hK hH.1 (o - 1) 3 (za_at hok hs) rfl hv hd (kq lsA hlv)) kk
/-! the script -/
theorem zq_slen {L : Nat} {xs : Nat → Int32} {M : Mth} {d pc : Nat} {ls : List (Nat × Value)} {st : List Value} {h : AH} {Qp : Option Value → AH → Prop} {v : Int32} (hv : Int32.ofNat L = v) (hd : decode M.2.1 pc = .ok (.arraylength, 1)) (kk : zQ (some (L, xs)) M d (pc + 1) ls (.int v :: st) h Qp) : zQ (some (L, xs)) M d pc ls (.ref 0 :: st) h Qp :=
  zq_move (fun hok b b0 dC dI dA p l e R s m args below meth co H locs cells slots lsA Q hC hH hlv kq => by
    obtain ⟨hx, hb, hml, hown, hts, hin, hfr, hlo, hbs, hK, hX, hAO⟩ := hC
    subst hv
    exact va_slen hx hb hX.1 hX.2.1 (show ¬ b0 < b from Nat.not_lt.mpr hX.2.2) hH.2.1 hd (kq lsA hlv)) kk
theorem zq_sld {L : Nat} {xs : Nat → Int32} {M : Mth} {d pc : Nat} {ls : List (Nat × Value)} {st : List Value} {h : AH} {Qp : Option Value → AH → Prop} {i : Int32} (hi : vp_in i L) (hd : decode M.2.1 pc = .ok (.iaload, 1)) (kk : zQ (some (L, xs)) M d (pc + 1) ls (.int (xs i.toNatClampNeg) :: st) h Qp) : zQ (some (L, xs)) M d pc ls (.int i :: .ref 0 :: st) h Qp :=
  zq_move (fun hok b b0 dC dI dA p l e R s m args below meth co H locs cells slots lsA Q hC hH hlv kq => by
    obtain ⟨hx, hb, hml, hown, hts, hin, hfr, hlo, hbs, hK, hX, hAO⟩ := hC
    exact va_sld hx hb hX.1 hX.2.1 (show ¬ b0 < b from Nat.not_lt.mpr hX.2.2) hH.2.1 hi hd (kq lsA hlv)) kk
/-! Object's own constructor -/
theorem zq_objInit {X : Option (Nat × (Nat → Int32))} {M : Mth} {d pc : Nat} {ls : List (Nat × Value)} {st : List Value} {h : AH} {Qp : Option Value → AH → Prop} {ix o : Nat} (hl : Cond.methodLink M.1.cls ix objectInit ∈ zT) (hst : (st.map fun v => v.category).sum ≤ 40) (hd : decode M.2.1 pc = .ok (.invokespecial ix, 3)) (kk : zQ X M (d + 1) (pc + 3) ls st h Qp) : zQ X M (d + 1) pc ls (.ref o :: st) h Qp :=
  zq_move (fun hok b b0 dC dI dA p l e R s m args below meth co H locs cells slots lsA Q hC hH hlv kq => by
    obtain ⟨hx, hb, hml, hown, hts, hin, hfr, hlo, hbs, hK, hX, hAO⟩ := hC
    have hcat : ((st.map (zv b b0)).map fun v => v.category) = st.map fun v => v.category := by rw [List.map_map]; exact List.map_congr_left (fun v _ => zv_cat b b0 v)
    refine W.objInit hx hb hown (hts _ hl) (hts _ zo_w1) (hts _ zo_w2) rfl (by rw [hml]; exact hlv.1) rfl hd (by omega) (by show 2 * (F0 m pc lsA _).monitorRoom + ((st.map (zv b b0)).map fun v => v.category).sum + 12 ≤ R.locals; rw [hcat]; show 2 * 0 + _ + 12 ≤ _; omega) ?_
    exact W.eq (g2 := F0 m (pc + 3) lsA (st.map (zv b b0))) rfl (kq lsA hlv)) kk
theorem zq_copyI {X : Option (Nat × (Nat → Int32))} {M : Mth} {d pc : Nat} {ls : List (Nat × Value)} {st : List Value} {h : AH} {Qp : Option Value → AH → Prop} {ix q0 q1 n0 n1 : Nat} {sp dp n : Int32} (hl : Cond.methodLink M.1.cls ix arraycopyName ∈ zT) (hs0 : h.sh q0 = some (.inr (0, n0))) (hs1 : h.sh q1 = some (.inr (0, n1))) (h1 : ¬ sp < 0) (h2 : ¬ dp < 0) (h3 : ¬ n < 0) (h4 : sp.toNatClampNeg + n.toNatClampNeg ≤ n0) (h5 : dp.toNatClampNeg + n.toNatClampNeg ≤ n1)  (hst : (st.map fun v => v.category).sum ≤ 20) (hd : decode M.2.1 pc = .ok (.invokestatic ix, 3)) (kk : zQ X M (d + 1) (pc + 3) ls st (h.wI q1 (va_cpy (h.I q0) (h.I q1) sp.toNatClampNeg dp.toNatClampNeg n.toNatClampNeg)) Qp) : zQ X M (d + 1) pc ls (.int n :: .int dp :: .ref q1 :: .int sp :: .ref q0 :: st) h Qp :=
  zq_heap (h' := h.wI q1 (va_cpy (h.I q0) (h.I q1) sp.toNatClampNeg dp.toNatClampNeg n.toNatClampNeg)) rfl rfl id (fun hok b b0 dC dI dA p l e R s m args below meth co H locs cells slots lsA Q hC hH hlv kq => by
    obtain ⟨hx, hb, hml, hown, hts, hin, hfr, hlo, hbs, hK, hX, hAO⟩ := hC
    have hcat : ((st.map (zv b b0)).map fun v => v.category) = st.map fun v => v.category := by rw [List.map_map]; exact List.map_congr_left (fun v _ => zv_cat b b0 v)
    have hnf : nativeFrameWords "java/lang/System" "arraycopy" 5 + 11 ≤ 40 := by decide +kernel
    have e1 : (zw b b0 dA h).set (q1 - 1) (zadr b b0 q1, .inl (dA 0, (n1, zct b b0 (h.wI q1 (va_cpy (h.I q0) (h.I q1) sp.toNatClampNeg dp.toNatClampNeg n.toNatClampNeg)) q1 0))) = zw b b0 dA (h.wI q1 (va_cpy (h.I q0) (h.I q1) sp.toNatClampNeg dp.toNatClampNeg n.toNatClampNeg)) := by
      rw [← zcell_a (h := h.wI q1 (va_cpy (h.I q0) (h.I q1) sp.toNatClampNeg dp.toNatClampNeg n.toNatClampNeg)) (t := 0) (len := n1) hs1]
      exact zw_set (h' := h.wI q1 (va_cpy (h.I q0) (h.I q1) sp.toNatClampNeg dp.toNatClampNeg n.toNatClampNeg)) rfl zc_wI (zpos hok hs1)
    have e3 : zct b b0 (h.wI q1 (va_cpy (h.I q0) (h.I q1) sp.toNatClampNeg dp.toNatClampNeg n.toNatClampNeg)) q1 0 = .inl (va_cpy (h.I q0) (h.I q1) sp.toNatClampNeg dp.toNatClampNeg n.toNatClampNeg) := by rw [zct_0]; exact congrArg Sum.inl AH.wI_I
    refine va_copyi (D := (dC, dI)) hx hb (by rw [hml]; exact hlv.1.symm) hown (hts _ hl) (hts _ zac_w1) (hts _ zac_w2) (hts _ zac_w3) hK hH.1 zw_D hH.2.1 (q0 - 1) (q1 - 1) 0 0 (za_at hok hs0) (za_at hok hs1) rfl rfl rfl h1 h2 h3 h4 h5 (fun _ _ => rfl) (by omega) (by show ((st.map (zv b b0)).map fun v => v.category).sum + _ ≤ R.locals; rw [hcat]; omega) hd (fun H1 locs1 hP1 _ hS1 => kq H1 locs1 ?_ hS1)
    rw [← e1, e3]
    exact hP1) kk
theorem zq_copyB {X : Option (Nat × (Nat → Int32))} {M : Mth} {d pc : Nat} {ls : List (Nat × Value)} {st : List Value} {h : AH} {Qp : Option Value → AH → Prop} {ix q0 q1 n0 n1 : Nat} {sp dp n : Int32} (hl : Cond.methodLink M.1.cls ix arraycopyName ∈ zT) (hs0 : h.sh q0 = some (.inr (2, n0))) (hs1 : h.sh q1 = some (.inr (2, n1))) (h1 : ¬ sp < 0) (h2 : ¬ dp < 0) (h3 : ¬ n < 0) (h4 : sp.toNatClampNeg + n.toNatClampNeg ≤ n0) (h5 : dp.toNatClampNeg + n.toNatClampNeg ≤ n1) (hft : ∀ i, i < n.toNatClampNeg → fits .byte (.int (h.I q0 (sp.toNatClampNeg + i))) = true) (hst : (st.map fun v => v.category).sum ≤ 20) (hd : decode M.2.1 pc = .ok (.invokestatic ix, 3)) (kk : zQ X M (d + 1) (pc + 3) ls st (h.wI q1 (va_cpy (h.I q0) (h.I q1) sp.toNatClampNeg dp.toNatClampNeg n.toNatClampNeg)) Qp) : zQ X M (d + 1) pc ls (.int n :: .int dp :: .ref q1 :: .int sp :: .ref q0 :: st) h Qp :=
  zq_heap (h' := h.wI q1 (va_cpy (h.I q0) (h.I q1) sp.toNatClampNeg dp.toNatClampNeg n.toNatClampNeg)) rfl rfl id (fun hok b b0 dC dI dA p l e R s m args below meth co H locs cells slots lsA Q hC hH hlv kq => by
    obtain ⟨hx, hb, hml, hown, hts, hin, hfr, hlo, hbs, hK, hX, hAO⟩ := hC
    have hcat : ((st.map (zv b b0)).map fun v => v.category) = st.map fun v => v.category := by rw [List.map_map]; exact List.map_congr_left (fun v _ => zv_cat b b0 v)
    have hnf : nativeFrameWords "java/lang/System" "arraycopy" 5 + 11 ≤ 40 := by decide +kernel
    have e1 : (zw b b0 dA h).set (q1 - 1) (zadr b b0 q1, .inl (dA 2, (n1, zct b b0 (h.wI q1 (va_cpy (h.I q0) (h.I q1) sp.toNatClampNeg dp.toNatClampNeg n.toNatClampNeg)) q1 2))) = zw b b0 dA (h.wI q1 (va_cpy (h.I q0) (h.I q1) sp.toNatClampNeg dp.toNatClampNeg n.toNatClampNeg)) := by
      rw [← zcell_a (h := h.wI q1 (va_cpy (h.I q0) (h.I q1) sp.toNatClampNeg dp.toNatClampNeg n.toNatClampNeg)) (t := 2) (len := n1) hs1]
      exact zw_set (h' := h.wI q1 (va_cpy (h.I q0) (h.I q1) sp.toNatClampNeg dp.toNatClampNeg n.toNatClampNeg)) rfl zc_wI (zpos hok hs1)
    have e3 : zct b b0 (h.wI q1 (va_cpy (h.I q0) (h.I q1) sp.toNatClampNeg dp.toNatClampNeg n.toNatClampNeg)) q1 2 = .inl (va_cpy (h.I q0) (h.I q1) sp.toNatClampNeg dp.toNatClampNeg n.toNatClampNeg) := by rw [zct_2]; exact congrArg Sum.inl AH.wI_I
    refine va_copyi (D := (dC, dI)) hx hb (by rw [hml]; exact hlv.1.symm) hown (hts _ hl) (hts _ zac_w1) (hts _ zac_w2) (hts _ zac_w3) hK hH.1 zw_D hH.2.1 (q0 - 1) (q1 - 1) 2 2 (za_at hok hs0) (za_at hok hs1) rfl rfl rfl h1 h2 h3 h4 h5 hft (by omega) (by show ((st.map (zv b b0)).map fun v => v.category).sum + _ ≤ R.locals; rw [hcat]; omega) hd (fun H1 locs1 hP1 _ hS1 => kq H1 locs1 ?_ hS1)
    rw [← e1, e3]
    exact hP1) kk
theorem zq_copyL {X : Option (Nat × (Nat → Int32))} {M : Mth} {d pc : Nat} {ls : List (Nat × Value)} {st : List Value} {h : AH} {Qp : Option Value → AH → Prop} {ix q0 q1 n0 n1 : Nat} {sp dp n : Int32} (hl : Cond.methodLink M.1.cls ix arraycopyName ∈ zT) (hs0 : h.sh q0 = some (.inr (1, n0))) (hs1 : h.sh q1 = some (.inr (1, n1))) (h1 : ¬ sp < 0) (h2 : ¬ dp < 0) (h3 : ¬ n < 0) (h4 : sp.toNatClampNeg + n.toNatClampNeg ≤ n0) (h5 : dp.toNatClampNeg + n.toNatClampNeg ≤ n1)  (hst : (st.map fun v => v.category).sum ≤ 20) (hd : decode M.2.1 pc = .ok (.invokestatic ix, 3)) (kk : zQ X M (d + 1) (pc + 3) ls st (h.wL q1 (va_cpy (h.L q0) (h.L q1) sp.toNatClampNeg dp.toNatClampNeg n.toNatClampNeg)) Qp) : zQ X M (d + 1) pc ls (.int n :: .int dp :: .ref q1 :: .int sp :: .ref q0 :: st) h Qp :=
  zq_heap (h' := h.wL q1 (va_cpy (h.L q0) (h.L q1) sp.toNatClampNeg dp.toNatClampNeg n.toNatClampNeg)) rfl rfl id (fun hok b b0 dC dI dA p l e R s m args below meth co H locs cells slots lsA Q hC hH hlv kq => by
    obtain ⟨hx, hb, hml, hown, hts, hin, hfr, hlo, hbs, hK, hX, hAO⟩ := hC
    have hcat : ((st.map (zv b b0)).map fun v => v.category) = st.map fun v => v.category := by rw [List.map_map]; exact List.map_congr_left (fun v _ => zv_cat b b0 v)
    have hnf : nativeFrameWords "java/lang/System" "arraycopy" 5 + 11 ≤ 40 := by decide +kernel
    have e1 : (zw b b0 dA h).set (q1 - 1) (zadr b b0 q1, .inl (dA 1, (n1, zct b b0 (h.wL q1 (va_cpy (h.L q0) (h.L q1) sp.toNatClampNeg dp.toNatClampNeg n.toNatClampNeg)) q1 1))) = zw b b0 dA (h.wL q1 (va_cpy (h.L q0) (h.L q1) sp.toNatClampNeg dp.toNatClampNeg n.toNatClampNeg)) := by
      rw [← zcell_a (h := h.wL q1 (va_cpy (h.L q0) (h.L q1) sp.toNatClampNeg dp.toNatClampNeg n.toNatClampNeg)) (t := 1) (len := n1) hs1]
      exact zw_set (h' := h.wL q1 (va_cpy (h.L q0) (h.L q1) sp.toNatClampNeg dp.toNatClampNeg n.toNatClampNeg)) rfl zc_wL (zpos hok hs1)
    have e3 : zct b b0 (h.wL q1 (va_cpy (h.L q0) (h.L q1) sp.toNatClampNeg dp.toNatClampNeg n.toNatClampNeg)) q1 1 = .inr (.inl (va_cpy (h.L q0) (h.L q1) sp.toNatClampNeg dp.toNatClampNeg n.toNatClampNeg)) := by rw [zct_1]; exact congrArg (fun f => Sum.inr (Sum.inl f)) AH.wL_L
    refine va_copyl (D := (dC, dI)) hx hb (by rw [hml]; exact hlv.1.symm) hown (hts _ hl) (hts _ zac_w1) (hts _ zac_w2) (hts _ zac_w3) hK hH.1 zw_D hH.2.1 (q0 - 1) (q1 - 1) 1 1 (za_at hok hs0) (za_at hok hs1) rfl rfl rfl h1 h2 h3 h4 h5 (fun _ _ => rfl) (by omega) (by show ((st.map (zv b b0)).map fun v => v.category).sum + _ ≤ R.locals; rw [hcat]; omega) hd (fun H1 locs1 hP1 _ hS1 => kq H1 locs1 ?_ hS1)
    rw [← e1, e3]
    exact hP1) kk
/-! new cells -/
theorem zq_new {X : Option (Nat × (Nat → Int32))} {M : Mth} {d pc : Nat} {ls : List (Nat × Value)} {st : List Value} {h : AH} {Qp : Option Value → AH → Prop} {ix c : Nat} (hc : c < 11) (hl : Cond.classLink M.1.cls ix (zR c) ∈ zT) (hi : Cond.instantiable (zR c) (zN c) ∈ zT) (hini : Cond.initialized (zR c) ∈ zT) (hd : decode M.2.1 pc = .ok (.new ix, 3)) (kk : zQ X M d (pc + 3) ls (.ref h.n :: st) (h.push (.inl c) (zN c)) Qp) : zQ X M d pc ls st h Qp := by
  obtain ⟨r, h1, ⟨⟨s1, s2, s3, s4⟩, hw⟩, hq⟩ := kk
  have s1 : h.n + 1 ≤ h1.n := s1
  have s2 : h.u + zN c ≤ h1.u := s2
  refine ⟨r, h1, ⟨⟨by omega, by omega, fun z => s3 (AH.ok_push z), s4⟩, fun hok b b0 dC dI dA p l e R s m args below meth co H locs cells slots lsA Q hC hH hlv h2 h3 he => ?_⟩, hq⟩
  have hC' := hC
  obtain ⟨hx, hb, hml, hown, hts, hin, hfr, hlo, hbs, hK, hX, hAO⟩ := hC
  have h0 := hok.1
  refine va_new (D := (dC, dI)) (ci := c) (fs := zfs b b0 (h.push (.inl c) (zN c)) h.n c) (C := zR c) (T := zTb c) (N := zN c) hx hb hts (zcl_ws c hc) (zty c) (zcl_ty c hc) hown (hts _ hl) (hts _ hi) (hts _ hini) hK hH.1 zw_D hH.2.1 (fun q hq => by show b0 < q; omega) (zcl_at c hc) (fun j hj => ?_) (by omega) (by omega) hd (fun q H1 hP1 hD1 hS1 => ?_)
  · rw [zcl_def c hc j hj]
    show _ = List.getD _ _ _
    rw [List.getD_eq_getElem?_getD, zfs_get hj]
    simp only [zcf, zdef, AH.push, AH.I, AH.L, AH.P, va_up_self, Option.getD_some]
    rfl
  · refine zfresh hok hH.2.2 hP1 hD1 fun hq' => ?_
    subst hq'
    have ez : zcell b b0 dA (h.push (.inl c) (zN c)) h.n = .inr (c, zfs b b0 (h.push (.inl c) (zN c)) h.n c) := zcell_o (by show va_up h.sh h.n _ h.n = _; rw [va_up_self])
    have e1 : zw b b0 dA h ++ [(b0 + h.n, .inr (c, zfs b b0 (h.push (.inl c) (zN c)) h.n c))] = zw b b0 dA (h.push (.inl c) (zN c)) := by rw [zw_push hok, ez]
    rw [e1] at hP1
    have ea : zadr b b0 h.n = b0 + h.n := by rw [zadr, if_neg (by omega)]
    have := hw (AH.ok_push hok) b b0 dC dI dA p l e R s m args below meth co H1 locs (cells + 1) (slots + zN c) lsA Q hC' ⟨hP1, hS1, by have := hH.2.2; show _ = b0 + (h.n + 1); omega⟩ hlv (by show cells + 1 + (h1.n - (h.n + 1)) ≤ _; omega) (by show slots + zN c + (h1.u - (h.u + zN c)) ≤ _; omega) ?_
    · rw [← ea]; exact this
    · have ec : cells + 1 + (h1.n - (h.push (.inl c) (zN c)).n) = cells + (h1.n - h.n) := by show cells + 1 + (h1.n - (h.n + 1)) = _; omega
      have eu : slots + zN c + (h1.u - (h.push (.inl c) (zN c)).u) = slots + (h1.u - h.u) := by show slots + zN c + (h1.u - (h.u + zN c)) = _; omega
      rw [ec, eu]
      exact he
theorem zRA_eq {s : State} {a1 a2 : ClassId} {ty : FieldType} (h1 : va_RA s a1 ty) (h2 : va_RA s a2 ty) : a1 = a2 := by
  cases ty with
  | object C =>
    obtain ⟨_, _, _, _, _, q1⟩ := h1
    obtain ⟨_, _, _, _, _, q2⟩ := h2
    exact Option.some.inj (q1.symm.trans q2)
  | _ => exact Option.some.inj (h1.symm.trans h2)
theorem zq_newaI {X : Option (Nat × (Nat → Int32))} {M : Mth} {d pc : Nat} {ls : List (Nat × Value)} {st : List Value} {h : AH} {Qp : Option Value → AH → Prop} {n : Int32} {N : Nat} (hl : Cond.arrayClass (newarray.typeOf .int) ∈ zT)  (hn : ¬ n < 0) (hN : n.toNatClampNeg = N) (hb32 : N ≤ 32768) (hd : decode M.2.1 pc = .ok (.newarray .int, 2)) (kk : zQ X M d (pc + 2) ls (.ref h.n :: st) (h.push (.inr (0, N)) N) Qp) : zQ X M d pc ls (.int n :: st) h Qp := by
  obtain ⟨r, h1, ⟨⟨s1, s2, s3, s4⟩, hw⟩, hq⟩ := kk
  have s1 : h.n + 1 ≤ h1.n := s1
  have s2 : h.u + N ≤ h1.u := s2
  refine ⟨r, h1, ⟨⟨by omega, by omega, fun z => s3 (AH.ok_push z), s4⟩, fun hok b b0 dC dI dA p l e R s m args below meth co H locs cells slots lsA Q hC hH hlv h2 h3 he => ?_⟩, hq⟩
  have hC' := hC
  obtain ⟨hx, hb, hml, hown, hts, hin, hfr, hlo, hbs, hK, hX, hAO⟩ := hC
  have h0 := hok.1
  refine va_newa (D := (dC, dI)) (atype := .int) (a0 := (N, .inl (fun _ => 0))) hx hb (hts _ hl) rfl hK hH.1 zw_D hH.2.1 (fun q hq => by show b0 < q; omega) (fun cA => rfl) hn hN (Nat.le_trans (Nat.mul_le_mul hb32 (show componentBytes .int ≤ 8 by decide)) (by decide)) (by omega) (by omega) hd (fun q cA H1 hK1 hP1 hD1 hS1 => ?_)
  have hcA : cA = dA 0 := zRA_eq (hK1.2 4 (cA, .int) rfl).2 (hK.2 0 (dA 0, .int) rfl).2
  subst hcA
  refine zfresh hok hH.2.2 hP1 hD1 fun hq' => ?_
  subst hq'
  have ez : zcell b b0 dA (h.push (.inr (0, N)) N) h.n = .inl (dA 0, (N, zct b b0 (h.push (.inr (0, N)) N) h.n 0)) := zcell_a (by show va_up h.sh h.n _ h.n = _; rw [va_up_self])
  have ey : zct b b0 (h.push (.inr (0, N)) N) h.n 0 = .inl (fun _ => 0) := by
    simp only [zct, AH.push, AH.I, AH.L, AH.P, va_up_self]
    rfl
  rw [ey] at ez
  have e1 := zw_push (b := b) (b0 := b0) (dA := dA) (sh := .inr (0, N)) (sz := N) hok
  rw [ez] at e1
  rw [← e1] at hP1
  have ea : zadr b b0 h.n = b0 + h.n := by rw [zadr, if_neg (by omega)]
  have := hw (AH.ok_push hok) b b0 dC dI dA p l e R s m args below meth co H1 locs (cells + 1) (slots + N) lsA Q hC' ⟨hP1, hS1, by have := hH.2.2; show _ = b0 + (h.n + 1); omega⟩ hlv (by show cells + 1 + (h1.n - (h.n + 1)) ≤ _; omega) (by show slots + N + (h1.u - (h.u + N)) ≤ _; omega) ?_
  · rw [← ea]; exact this
  · have ec : cells + 1 + (h1.n - (h.push (.inr (0, N)) N).n) = cells + (h1.n - h.n) := by show cells + 1 + (h1.n - (h.n + 1)) = _; omega
    have eu : slots + N + (h1.u - (h.push (.inr (0, N)) N).u) = slots + (h1.u - h.u) := by show slots + N + (h1.u - (h.u + N)) = _; omega
    rw [ec, eu]
    exact he
theorem zq_newaL {X : Option (Nat × (Nat → Int32))} {M : Mth} {d pc : Nat} {ls : List (Nat × Value)} {st : List Value} {h : AH} {Qp : Option Value → AH → Prop} {n : Int32} {N : Nat} (hl : Cond.arrayClass (newarray.typeOf .long) ∈ zT)  (hn : ¬ n < 0) (hN : n.toNatClampNeg = N) (hb32 : N ≤ 32768) (hd : decode M.2.1 pc = .ok (.newarray .long, 2)) (kk : zQ X M d (pc + 2) ls (.ref h.n :: st) (h.push (.inr (1, N)) N) Qp) : zQ X M d pc ls (.int n :: st) h Qp := by
  obtain ⟨r, h1, ⟨⟨s1, s2, s3, s4⟩, hw⟩, hq⟩ := kk
  have s1 : h.n + 1 ≤ h1.n := s1
  have s2 : h.u + N ≤ h1.u := s2
  refine ⟨r, h1, ⟨⟨by omega, by omega, fun z => s3 (AH.ok_push z), s4⟩, fun hok b b0 dC dI dA p l e R s m args below meth co H locs cells slots lsA Q hC hH hlv h2 h3 he => ?_⟩, hq⟩
  have hC' := hC
  obtain ⟨hx, hb, hml, hown, hts, hin, hfr, hlo, hbs, hK, hX, hAO⟩ := hC
  have h0 := hok.1
  refine va_newa (D := (dC, dI)) (atype := .long) (a0 := (N, .inr (.inl (fun _ => 0)))) hx hb (hts _ hl) rfl hK hH.1 zw_D hH.2.1 (fun q hq => by show b0 < q; omega) (fun cA => rfl) hn hN (Nat.le_trans (Nat.mul_le_mul hb32 (show componentBytes .long ≤ 8 by decide)) (by decide)) (by omega) (by omega) hd (fun q cA H1 hK1 hP1 hD1 hS1 => ?_)
  have hcA : cA = dA 1 := zRA_eq (hK1.2 4 (cA, .long) rfl).2 (hK.2 1 (dA 1, .long) rfl).2
  subst hcA
  refine zfresh hok hH.2.2 hP1 hD1 fun hq' => ?_
  subst hq'
  have ez : zcell b b0 dA (h.push (.inr (1, N)) N) h.n = .inl (dA 1, (N, zct b b0 (h.push (.inr (1, N)) N) h.n 1)) := zcell_a (by show va_up h.sh h.n _ h.n = _; rw [va_up_self])
  have ey : zct b b0 (h.push (.inr (1, N)) N) h.n 1 = .inr (.inl (fun _ => 0)) := by
    simp only [zct, AH.push, AH.I, AH.L, AH.P, va_up_self]
    rfl
  rw [ey] at ez
  have e1 := zw_push (b := b) (b0 := b0) (dA := dA) (sh := .inr (1, N)) (sz := N) hok
  rw [ez] at e1
  rw [← e1] at hP1
  have ea : zadr b b0 h.n = b0 + h.n := by rw [zadr, if_neg (by omega)]
  have := hw (AH.ok_push hok) b b0 dC dI dA p l e R s m args below meth co H1 locs (cells + 1) (slots + N) lsA Q hC' ⟨hP1, hS1, by have := hH.2.2; show _ = b0 + (h.n + 1); omega⟩ hlv (by show cells + 1 + (h1.n - (h.n + 1)) ≤ _; omega) (by show slots + N + (h1.u - (h.u + N)) ≤ _; omega) ?_
  · rw [← ea]; exact this
  · have ec : cells + 1 + (h1.n - (h.push (.inr (1, N)) N).n) = cells + (h1.n - h.n) := by show cells + 1 + (h1.n - (h.n + 1)) = _; omega
    have eu : slots + N + (h1.u - (h.push (.inr (1, N)) N).u) = slots + (h1.u - h.u) := by show slots + N + (h1.u - (h.u + N)) = _; omega
    rw [ec, eu]
    exact he
theorem zq_newaB {X : Option (Nat × (Nat → Int32))} {M : Mth} {d pc : Nat} {ls : List (Nat × Value)} {st : List Value} {h : AH} {Qp : Option Value → AH → Prop} {n : Int32} {N : Nat} (hl : Cond.arrayClass (newarray.typeOf .byte) ∈ zT)  (hn : ¬ n < 0) (hN : n.toNatClampNeg = N) (hb32 : N ≤ 32768) (hd : decode M.2.1 pc = .ok (.newarray .byte, 2)) (kk : zQ X M d (pc + 2) ls (.ref h.n :: st) (h.push (.inr (2, N)) N) Qp) : zQ X M d pc ls (.int n :: st) h Qp := by
  obtain ⟨r, h1, ⟨⟨s1, s2, s3, s4⟩, hw⟩, hq⟩ := kk
  have s1 : h.n + 1 ≤ h1.n := s1
  have s2 : h.u + N ≤ h1.u := s2
  refine ⟨r, h1, ⟨⟨by omega, by omega, fun z => s3 (AH.ok_push z), s4⟩, fun hok b b0 dC dI dA p l e R s m args below meth co H locs cells slots lsA Q hC hH hlv h2 h3 he => ?_⟩, hq⟩
  have hC' := hC
  obtain ⟨hx, hb, hml, hown, hts, hin, hfr, hlo, hbs, hK, hX, hAO⟩ := hC
  have h0 := hok.1
  refine va_newa (D := (dC, dI)) (atype := .byte) (a0 := (N, .inl (fun _ => 0))) hx hb (hts _ hl) rfl hK hH.1 zw_D hH.2.1 (fun q hq => by show b0 < q; omega) (fun cA => rfl) hn hN (Nat.le_trans (Nat.mul_le_mul hb32 (show componentBytes .byte ≤ 8 by decide)) (by decide)) (by omega) (by omega) hd (fun q cA H1 hK1 hP1 hD1 hS1 => ?_)
  have hcA : cA = dA 2 := zRA_eq (hK1.2 4 (cA, .byte) rfl).2 (hK.2 2 (dA 2, .byte) rfl).2
  subst hcA
  refine zfresh hok hH.2.2 hP1 hD1 fun hq' => ?_
  subst hq'
  have ez : zcell b b0 dA (h.push (.inr (2, N)) N) h.n = .inl (dA 2, (N, zct b b0 (h.push (.inr (2, N)) N) h.n 2)) := zcell_a (by show va_up h.sh h.n _ h.n = _; rw [va_up_self])
  have ey : zct b b0 (h.push (.inr (2, N)) N) h.n 2 = .inl (fun _ => 0) := by
    simp only [zct, AH.push, AH.I, AH.L, AH.P, va_up_self]
    rfl
  rw [ey] at ez
  have e1 := zw_push (b := b) (b0 := b0) (dA := dA) (sh := .inr (2, N)) (sz := N) hok
  rw [ez] at e1
  rw [← e1] at hP1
  have ea : zadr b b0 h.n = b0 + h.n := by rw [zadr, if_neg (by omega)]
  have := hw (AH.ok_push hok) b b0 dC dI dA p l e R s m args below meth co H1 locs (cells + 1) (slots + N) lsA Q hC' ⟨hP1, hS1, by have := hH.2.2; show _ = b0 + (h.n + 1); omega⟩ hlv (by show cells + 1 + (h1.n - (h.n + 1)) ≤ _; omega) (by show slots + N + (h1.u - (h.u + N)) ≤ _; omega) ?_
  · rw [← ea]; exact this
  · have ec : cells + 1 + (h1.n - (h.push (.inr (2, N)) N).n) = cells + (h1.n - h.n) := by show cells + 1 + (h1.n - (h.n + 1)) = _; omega
    have eu : slots + N + (h1.u - (h.push (.inr (2, N)) N).u) = slots + (h1.u - h.u) := by show slots + N + (h1.u - (h.u + N)) = _; omega
    rw [ec, eu]
    exact he
theorem zq_newaR {X : Option (Nat × (Nat → Int32))} {M : Mth} {d pc : Nat} {ls : List (Nat × Value)} {st : List Value} {h : AH} {Qp : Option Value → AH → Prop} {n : Int32} {N : Nat} {ix : Nat} (hl : Cond.classLink M.1.cls ix RX8 ∈ zT)  (hn : ¬ n < 0) (hN : n.toNatClampNeg = N) (hb32 : N ≤ 32768) (hd : decode M.2.1 pc = .ok (.anewarray ix, 3)) (kk : zQ X M d (pc + 3) ls (.ref h.n :: st) (h.push (.inr (3, N)) N) Qp) : zQ X M d pc ls (.int n :: st) h Qp := by
  obtain ⟨r, h1, ⟨⟨s1, s2, s3, s4⟩, hw⟩, hq⟩ := kk
  have s1 : h.n + 1 ≤ h1.n := s1
  have s2 : h.u + N ≤ h1.u := s2
  refine ⟨r, h1, ⟨⟨by omega, by omega, fun z => s3 (AH.ok_push z), s4⟩, fun hok b b0 dC dI dA p l e R s m args below meth co H locs cells slots lsA Q hC hH hlv h2 h3 he => ?_⟩, hq⟩
  have hC' := hC
  obtain ⟨hx, hb, hml, hown, hts, hin, hfr, hlo, hbs, hK, hX, hAO⟩ := hC
  have h0 := hok.1
  refine va_newq (D := (dC, dI)) (C := RX8) hx hb hown (hts _ hl) hAO hK hH.1 zw_D hH.2.1 (fun q hq => by show b0 < q; omega) hn hN (by omega) (by omega) (by omega) hd (fun q cA H1 hK1 hP1 hD1 hS1 => ?_)
  have hcA : cA = dA 3 := zRA_eq (hK1.2 4 (cA, .object RX8) rfl).2 (hK.2 3 (dA 3, .object RX8) rfl).2
  subst hcA
  refine zfresh hok hH.2.2 hP1 hD1 fun hq' => ?_
  subst hq'
  have ez : zcell b b0 dA (h.push (.inr (3, N)) N) h.n = .inl (dA 3, (N, zct b b0 (h.push (.inr (3, N)) N) h.n 3)) := zcell_a (by show va_up h.sh h.n _ h.n = _; rw [va_up_self])
  have ey : zct b b0 (h.push (.inr (3, N)) N) h.n 3 = .inr (.inr (.inr (.inr (fun _ => none)))) := by
    simp only [zct, AH.push, AH.I, AH.L, AH.P, va_up_self]
    rfl
  rw [ey] at ez
  have e1 := zw_push (b := b) (b0 := b0) (dA := dA) (sh := .inr (3, N)) (sz := N) hok
  rw [ez] at e1
  rw [← e1] at hP1
  have ea : zadr b b0 h.n = b0 + h.n := by rw [zadr, if_neg (by omega)]
  have := hw (AH.ok_push hok) b b0 dC dI dA p l e R s m args below meth co H1 locs (cells + 1) (slots + N) lsA Q hC' ⟨hP1, hS1, by have := hH.2.2; show _ = b0 + (h.n + 1); omega⟩ hlv (by show cells + 1 + (h1.n - (h.n + 1)) ≤ _; omega) (by show slots + N + (h1.u - (h.u + N)) ≤ _; omega) ?_
  · rw [← ea]; exact this
  · have ec : cells + 1 + (h1.n - (h.push (.inr (3, N)) N).n) = cells + (h1.n - h.n) := by show cells + 1 + (h1.n - (h.n + 1)) = _; omega
    have eu : slots + N + (h1.u - (h.push (.inr (3, N)) N).u) = slots + (h1.u - h.u) := by show slots + N + (h1.u - (h.u + N)) = _; omega
    rw [ec, eu]
    exact he
end
