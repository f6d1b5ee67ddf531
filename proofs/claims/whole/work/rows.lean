section
/-- a private method of a class that the tables say can be made, by its rows of tables_1 -/
def lw_okq (q : MethodName × Nat) : Prop := (q.1.cls ≠ "java/lang/invoke/MethodHandle" ∧ q.1.cls ≠ "java/lang/invoke/VarHandle") ∧ Cond.instantiable q.1.cls q.2 ∈ tables_1 ∧ Cond.privateMethod q.1 ∈ tables_1 ∧ Cond.instanceMethod q.1 ∈ tables_1
theorem lw_p0 : lw_okq (⟨"LastLoses$Reader", "readLine", "()V"⟩, 10) := ⟨⟨by decide +kernel, by decide +kernel⟩, List.mem_of_getElem? (i := 44) (by decide +kernel), List.mem_of_getElem? (i := 133) (by decide +kernel), List.mem_of_getElem? (i := 134) (by decide +kernel)⟩
theorem lw_p1 : lw_okq (⟨"LastLoses$Reader", "skipBlanks", "()V"⟩, 10) := ⟨⟨by decide +kernel, by decide +kernel⟩, List.mem_of_getElem? (i := 44) (by decide +kernel), List.mem_of_getElem? (i := 137) (by decide +kernel), List.mem_of_getElem? (i := 138) (by decide +kernel)⟩
theorem lw_p2 : lw_okq (⟨"LastLoses$Reader", "readKind", "()I"⟩, 10) := ⟨⟨by decide +kernel, by decide +kernel⟩, List.mem_of_getElem? (i := 44) (by decide +kernel), List.mem_of_getElem? (i := 146) (by decide +kernel), List.mem_of_getElem? (i := 147) (by decide +kernel)⟩
theorem lw_p3 : lw_okq (⟨"LastLoses$Reader", "passWord", "(Ljava/lang/String;)Z"⟩, 10) := ⟨⟨by decide +kernel, by decide +kernel⟩, List.mem_of_getElem? (i := 44) (by decide +kernel), List.mem_of_getElem? (i := 151) (by decide +kernel), List.mem_of_getElem? (i := 152) (by decide +kernel)⟩
theorem lw_p4 : lw_okq (⟨"LastLoses$Reader", "fail", "(II)V"⟩, 10) := ⟨⟨by decide +kernel, by decide +kernel⟩, List.mem_of_getElem? (i := 44) (by decide +kernel), List.mem_of_getElem? (i := 208) (by decide +kernel), List.mem_of_getElem? (i := 209) (by decide +kernel)⟩
theorem lw_p5 : lw_okq (⟨"LastLoses$Reader", "readCode", "()V"⟩, 10) := ⟨⟨by decide +kernel, by decide +kernel⟩, List.mem_of_getElem? (i := 44) (by decide +kernel), List.mem_of_getElem? (i := 212) (by decide +kernel), List.mem_of_getElem? (i := 213) (by decide +kernel)⟩
theorem lw_p6 : lw_okq (⟨"LastLoses$Reader", "readDigit", "(I)V"⟩, 10) := ⟨⟨by decide +kernel, by decide +kernel⟩, List.mem_of_getElem? (i := 44) (by decide +kernel), List.mem_of_getElem? (i := 219) (by decide +kernel), List.mem_of_getElem? (i := 220) (by decide +kernel)⟩
theorem lw_p7 : lw_okq (⟨"LastLoses$Reader", "readAlso", "()V"⟩, 10) := ⟨⟨by decide +kernel, by decide +kernel⟩, List.mem_of_getElem? (i := 44) (by decide +kernel), List.mem_of_getElem? (i := 223) (by decide +kernel), List.mem_of_getElem? (i := 224) (by decide +kernel)⟩
theorem lw_p8 : lw_okq (⟨"LastLoses$Reader", "readNumber", "(II)I"⟩, 10) := ⟨⟨by decide +kernel, by decide +kernel⟩, List.mem_of_getElem? (i := 44) (by decide +kernel), List.mem_of_getElem? (i := 227) (by decide +kernel), List.mem_of_getElem? (i := 228) (by decide +kernel)⟩
theorem lw_p9 : lw_okq (⟨"LastLoses$Reader", "store", "(III)V"⟩, 10) := ⟨⟨by decide +kernel, by decide +kernel⟩, List.mem_of_getElem? (i := 44) (by decide +kernel), List.mem_of_getElem? (i := 232) (by decide +kernel), List.mem_of_getElem? (i := 233) (by decide +kernel)⟩
theorem lw_p10 : lw_okq (⟨"LastLoses$Reader", "readNever", "()V"⟩, 10) := ⟨⟨by decide +kernel, by decide +kernel⟩, List.mem_of_getElem? (i := 44) (by decide +kernel), List.mem_of_getElem? (i := 236) (by decide +kernel), List.mem_of_getElem? (i := 237) (by decide +kernel)⟩
theorem lw_p11 : lw_okq (⟨"LastLoses$Reader", "passSemicolon", "()Z"⟩, 10) := ⟨⟨by decide +kernel, by decide +kernel⟩, List.mem_of_getElem? (i := 44) (by decide +kernel), List.mem_of_getElem? (i := 240) (by decide +kernel), List.mem_of_getElem? (i := 241) (by decide +kernel)⟩
theorem lw_p12 : lw_okq (⟨"LastLoses$Positions", "countWays", "()V"⟩, 6) := ⟨⟨by decide +kernel, by decide +kernel⟩, List.mem_of_getElem? (i := 310) (by decide +kernel), List.mem_of_getElem? (i := 316) (by decide +kernel), List.mem_of_getElem? (i := 317) (by decide +kernel)⟩
theorem lw_p13 : lw_okq (⟨"LastLoses$Positions", "waysOf", "(II)I"⟩, 6) := ⟨⟨by decide +kernel, by decide +kernel⟩, List.mem_of_getElem? (i := 310) (by decide +kernel), List.mem_of_getElem? (i := 320) (by decide +kernel), List.mem_of_getElem? (i := 321) (by decide +kernel)⟩
theorem lw_p14 : lw_okq (⟨"LastLoses$Positions", "linkParts", "(III)I"⟩, 6) := ⟨⟨by decide +kernel, by decide +kernel⟩, List.mem_of_getElem? (i := 310) (by decide +kernel), List.mem_of_getElem? (i := 324) (by decide +kernel), List.mem_of_getElem? (i := 325) (by decide +kernel)⟩
theorem lw_p15 : lw_okq (⟨"LastLoses$Positions", "link", "(IIII)I"⟩, 6) := ⟨⟨by decide +kernel, by decide +kernel⟩, List.mem_of_getElem? (i := 310) (by decide +kernel), List.mem_of_getElem? (i := 328) (by decide +kernel), List.mem_of_getElem? (i := 329) (by decide +kernel)⟩
def lw_privs_1 : List (MethodName × Nat) := [(⟨"LastLoses$Reader", "readLine", "()V"⟩, 10), (⟨"LastLoses$Reader", "skipBlanks", "()V"⟩, 10), (⟨"LastLoses$Reader", "readKind", "()I"⟩, 10), (⟨"LastLoses$Reader", "passWord", "(Ljava/lang/String;)Z"⟩, 10), (⟨"LastLoses$Reader", "fail", "(II)V"⟩, 10), (⟨"LastLoses$Reader", "readCode", "()V"⟩, 10), (⟨"LastLoses$Reader", "readDigit", "(I)V"⟩, 10), (⟨"LastLoses$Reader", "readAlso", "()V"⟩, 10), (⟨"LastLoses$Reader", "readNumber", "(II)I"⟩, 10), (⟨"LastLoses$Reader", "store", "(III)V"⟩, 10), (⟨"LastLoses$Reader", "readNever", "()V"⟩, 10), (⟨"LastLoses$Reader", "passSemicolon", "()Z"⟩, 10), (⟨"LastLoses$Positions", "countWays", "()V"⟩, 6), (⟨"LastLoses$Positions", "waysOf", "(II)I"⟩, 6), (⟨"LastLoses$Positions", "linkParts", "(III)I"⟩, 6), (⟨"LastLoses$Positions", "link", "(IIII)I"⟩, 6)]
theorem lw_r1 : ∀ q ∈ lw_privs_1, lw_okq q := List.forall_mem_cons.mpr ⟨lw_p0, List.forall_mem_cons.mpr ⟨lw_p1, List.forall_mem_cons.mpr ⟨lw_p2, List.forall_mem_cons.mpr ⟨lw_p3, List.forall_mem_cons.mpr ⟨lw_p4, List.forall_mem_cons.mpr ⟨lw_p5, List.forall_mem_cons.mpr ⟨lw_p6, List.forall_mem_cons.mpr ⟨lw_p7, List.forall_mem_cons.mpr ⟨lw_p8, List.forall_mem_cons.mpr ⟨lw_p9, List.forall_mem_cons.mpr ⟨lw_p10, List.forall_mem_cons.mpr ⟨lw_p11, List.forall_mem_cons.mpr ⟨lw_p12, List.forall_mem_cons.mpr ⟨lw_p13, List.forall_mem_cons.mpr ⟨lw_p14, List.forall_mem_cons.mpr ⟨lw_p15, fun _ h => absurd h List.not_mem_nil⟩⟩⟩⟩⟩⟩⟩⟩⟩⟩⟩⟩⟩⟩⟩⟩
theorem lw_p16 : lw_okq (⟨"LastLoses$Positions", "linkOthers", "(IIII)I"⟩, 6) := ⟨⟨by decide +kernel, by decide +kernel⟩, List.mem_of_getElem? (i := 310) (by decide +kernel), List.mem_of_getElem? (i := 332) (by decide +kernel), List.mem_of_getElem? (i := 333) (by decide +kernel)⟩
theorem lw_p17 : lw_okq (⟨"LastLoses$Rules", "learnLine", "(IIII)V"⟩, 10) := ⟨⟨by decide +kernel, by decide +kernel⟩, List.mem_of_getElem? (i := 250) (by decide +kernel), List.mem_of_getElem? (i := 579) (by decide +kernel), List.mem_of_getElem? (i := 580) (by decide +kernel)⟩
theorem lw_p18 : lw_okq (⟨"LastLoses$Rules", "listMoves", "()V"⟩, 10) := ⟨⟨by decide +kernel, by decide +kernel⟩, List.mem_of_getElem? (i := 250) (by decide +kernel), List.mem_of_getElem? (i := 595) (by decide +kernel), List.mem_of_getElem? (i := 596) (by decide +kernel)⟩
theorem lw_p19 : lw_okq (⟨"LastLoses$Rules", "allows", "(III)Z"⟩, 10) := ⟨⟨by decide +kernel, by decide +kernel⟩, List.mem_of_getElem? (i := 250) (by decide +kernel), List.mem_of_getElem? (i := 599) (by decide +kernel), List.mem_of_getElem? (i := 600) (by decide +kernel)⟩
theorem lw_p20 : lw_okq (⟨"LastLoses$Rules", "judgeHeap", "(I)V"⟩, 10) := ⟨⟨by decide +kernel, by decide +kernel⟩, List.mem_of_getElem? (i := 250) (by decide +kernel), List.mem_of_getElem? (i := 603) (by decide +kernel), List.mem_of_getElem? (i := 604) (by decide +kernel)⟩
theorem lw_p21 : lw_okq (⟨"LastLoses$Cycle", "findNimbers", "(LLastLoses$Rules;)V"⟩, 5) := ⟨⟨by decide +kernel, by decide +kernel⟩, List.mem_of_getElem? (i := 288) (by decide +kernel), List.mem_of_getElem? (i := 668) (by decide +kernel), List.mem_of_getElem? (i := 669) (by decide +kernel)⟩
theorem lw_p22 : lw_okq (⟨"LastLoses$Cycle", "seeMoves", "(III)V"⟩, 5) := ⟨⟨by decide +kernel, by decide +kernel⟩, List.mem_of_getElem? (i := 288) (by decide +kernel), List.mem_of_getElem? (i := 681) (by decide +kernel), List.mem_of_getElem? (i := 682) (by decide +kernel)⟩
theorem lw_p23 : lw_okq (⟨"LastLoses$Cycle", "findCycle", "(I)V"⟩, 5) := ⟨⟨by decide +kernel, by decide +kernel⟩, List.mem_of_getElem? (i := 288) (by decide +kernel), List.mem_of_getElem? (i := 685) (by decide +kernel), List.mem_of_getElem? (i := 686) (by decide +kernel)⟩
theorem lw_p24 : lw_okq (⟨"LastLoses$Cycle", "repeats", "(III)Z"⟩, 5) := ⟨⟨by decide +kernel, by decide +kernel⟩, List.mem_of_getElem? (i := 288) (by decide +kernel), List.mem_of_getElem? (i := 689) (by decide +kernel), List.mem_of_getElem? (i := 690) (by decide +kernel)⟩
theorem lw_p25 : lw_okq (⟨"LastLoses$Values", "settleTo", "(I)V"⟩, 9) := ⟨⟨by decide +kernel, by decide +kernel⟩, List.mem_of_getElem? (i := 402) (by decide +kernel), List.mem_of_getElem? (i := 721) (by decide +kernel), List.mem_of_getElem? (i := 722) (by decide +kernel)⟩
theorem lw_p26 : lw_okq (⟨"LastLoses$Values", "judgeOptions", "()I"⟩, 9) := ⟨⟨by decide +kernel, by decide +kernel⟩, List.mem_of_getElem? (i := 402) (by decide +kernel), List.mem_of_getElem? (i := 745) (by decide +kernel), List.mem_of_getElem? (i := 746) (by decide +kernel)⟩
theorem lw_p27 : lw_okq (⟨"LastLoses", "tallyOrNoSuch", "(II)I"⟩, 4) := ⟨⟨by decide +kernel, by decide +kernel⟩, List.mem_of_getElem? (i := 22) (by decide +kernel), List.mem_of_getElem? (i := 755) (by decide +kernel), List.mem_of_getElem? (i := 756) (by decide +kernel)⟩
theorem lw_p28 : lw_okq (⟨"LastLoses$Values", "settleGeneraTo", "(I)V"⟩, 9) := ⟨⟨by decide +kernel, by decide +kernel⟩, List.mem_of_getElem? (i := 402) (by decide +kernel), List.mem_of_getElem? (i := 791) (by decide +kernel), List.mem_of_getElem? (i := 792) (by decide +kernel)⟩
theorem lw_p29 : lw_okq (⟨"LastLoses$Values", "judgeGenera", "()I"⟩, 9) := ⟨⟨by decide +kernel, by decide +kernel⟩, List.mem_of_getElem? (i := 402) (by decide +kernel), List.mem_of_getElem? (i := 795) (by decide +kernel), List.mem_of_getElem? (i := 796) (by decide +kernel)⟩
theorem lw_p30 : lw_okq (⟨"LastLoses$Values", "countWinning", "(I)I"⟩, 9) := ⟨⟨by decide +kernel, by decide +kernel⟩, List.mem_of_getElem? (i := 402) (by decide +kernel), List.mem_of_getElem? (i := 883) (by decide +kernel), List.mem_of_getElem? (i := 884) (by decide +kernel)⟩
theorem lw_p31 : lw_okq (⟨"LastLoses$Values", "lengthOf", "(IZ)I"⟩, 9) := ⟨⟨by decide +kernel, by decide +kernel⟩, List.mem_of_getElem? (i := 402) (by decide +kernel), List.mem_of_getElem? (i := 892) (by decide +kernel), List.mem_of_getElem? (i := 893) (by decide +kernel)⟩
def lw_privs_2 : List (MethodName × Nat) := [(⟨"LastLoses$Positions", "linkOthers", "(IIII)I"⟩, 6), (⟨"LastLoses$Rules", "learnLine", "(IIII)V"⟩, 10), (⟨"LastLoses$Rules", "listMoves", "()V"⟩, 10), (⟨"LastLoses$Rules", "allows", "(III)Z"⟩, 10), (⟨"LastLoses$Rules", "judgeHeap", "(I)V"⟩, 10), (⟨"LastLoses$Cycle", "findNimbers", "(LLastLoses$Rules;)V"⟩, 5), (⟨"LastLoses$Cycle", "seeMoves", "(III)V"⟩, 5), (⟨"LastLoses$Cycle", "findCycle", "(I)V"⟩, 5), (⟨"LastLoses$Cycle", "repeats", "(III)Z"⟩, 5), (⟨"LastLoses$Values", "settleTo", "(I)V"⟩, 9), (⟨"LastLoses$Values", "judgeOptions", "()I"⟩, 9), (⟨"LastLoses", "tallyOrNoSuch", "(II)I"⟩, 4), (⟨"LastLoses$Values", "settleGeneraTo", "(I)V"⟩, 9), (⟨"LastLoses$Values", "judgeGenera", "()I"⟩, 9), (⟨"LastLoses$Values", "countWinning", "(I)I"⟩, 9), (⟨"LastLoses$Values", "lengthOf", "(IZ)I"⟩, 9)]
theorem lw_r2 : ∀ q ∈ lw_privs_2, lw_okq q := List.forall_mem_cons.mpr ⟨lw_p16, List.forall_mem_cons.mpr ⟨lw_p17, List.forall_mem_cons.mpr ⟨lw_p18, List.forall_mem_cons.mpr ⟨lw_p19, List.forall_mem_cons.mpr ⟨lw_p20, List.forall_mem_cons.mpr ⟨lw_p21, List.forall_mem_cons.mpr ⟨lw_p22, List.forall_mem_cons.mpr ⟨lw_p23, List.forall_mem_cons.mpr ⟨lw_p24, List.forall_mem_cons.mpr ⟨lw_p25, List.forall_mem_cons.mpr ⟨lw_p26, List.forall_mem_cons.mpr ⟨lw_p27, List.forall_mem_cons.mpr ⟨lw_p28, List.forall_mem_cons.mpr ⟨lw_p29, List.forall_mem_cons.mpr ⟨lw_p30, List.forall_mem_cons.mpr ⟨lw_p31, fun _ h => absurd h List.not_mem_nil⟩⟩⟩⟩⟩⟩⟩⟩⟩⟩⟩⟩⟩⟩⟩⟩
theorem lw_p32 : lw_okq (⟨"LastLoses$Board", "slowest", "()I"⟩, 10) := ⟨⟨by decide +kernel, by decide +kernel⟩, List.mem_of_getElem? (i := 244) (by decide +kernel), List.mem_of_getElem? (i := 918) (by decide +kernel), List.mem_of_getElem? (i := 919) (by decide +kernel)⟩
theorem lw_p33 : lw_okq (⟨"LastLoses$Board", "soonest", "()I"⟩, 10) := ⟨⟨by decide +kernel, by decide +kernel⟩, List.mem_of_getElem? (i := 244) (by decide +kernel), List.mem_of_getElem? (i := 923) (by decide +kernel), List.mem_of_getElem? (i := 924) (by decide +kernel)⟩
theorem lw_p34 : lw_okq (⟨"LastLoses$Board", "movesOf", "(I)I"⟩, 10) := ⟨⟨by decide +kernel, by decide +kernel⟩, List.mem_of_getElem? (i := 244) (by decide +kernel), List.mem_of_getElem? (i := 1002) (by decide +kernel), List.mem_of_getElem? (i := 1003) (by decide +kernel)⟩
theorem lw_p35 : lw_okq (⟨"LastLoses$Board", "afterMove", "(II)I"⟩, 10) := ⟨⟨by decide +kernel, by decide +kernel⟩, List.mem_of_getElem? (i := 244) (by decide +kernel), List.mem_of_getElem? (i := 1014) (by decide +kernel), List.mem_of_getElem? (i := 1015) (by decide +kernel)⟩
theorem lw_p36 : lw_okq (⟨"LastLoses", "quotientOf", "(I)LLastLoses$Quotient;"⟩, 4) := ⟨⟨by decide +kernel, by decide +kernel⟩, List.mem_of_getElem? (i := 22) (by decide +kernel), List.mem_of_getElem? (i := 1025) (by decide +kernel), List.mem_of_getElem? (i := 1026) (by decide +kernel)⟩
theorem lw_p37 : lw_okq (⟨"LastLoses$Quotient", "elementFor", "(IJ)I"⟩, 10) := ⟨⟨by decide +kernel, by decide +kernel⟩, List.mem_of_getElem? (i := 487) (by decide +kernel), List.mem_of_getElem? (i := 1044) (by decide +kernel), List.mem_of_getElem? (i := 1045) (by decide +kernel)⟩
theorem lw_p38 : lw_okq (⟨"LastLoses$Quotient", "kernel", "()I"⟩, 10) := ⟨⟨by decide +kernel, by decide +kernel⟩, List.mem_of_getElem? (i := 487) (by decide +kernel), List.mem_of_getElem? (i := 1102) (by decide +kernel), List.mem_of_getElem? (i := 1103) (by decide +kernel)⟩
theorem lw_p39 : lw_okq (⟨"LastLoses$Quotient", "reachOf", "(I)I"⟩, 10) := ⟨⟨by decide +kernel, by decide +kernel⟩, List.mem_of_getElem? (i := 487) (by decide +kernel), List.mem_of_getElem? (i := 1106) (by decide +kernel), List.mem_of_getElem? (i := 1107) (by decide +kernel)⟩
theorem lw_p40 : lw_okq (⟨"LastLoses$Quotient", "units", "()I"⟩, 10) := ⟨⟨by decide +kernel, by decide +kernel⟩, List.mem_of_getElem? (i := 487) (by decide +kernel), List.mem_of_getElem? (i := 1111) (by decide +kernel), List.mem_of_getElem? (i := 1112) (by decide +kernel)⟩
theorem lw_p41 : lw_okq (⟨"LastLoses$Quotient", "idle", "()I"⟩, 10) := ⟨⟨by decide +kernel, by decide +kernel⟩, List.mem_of_getElem? (i := 487) (by decide +kernel), List.mem_of_getElem? (i := 1115) (by decide +kernel), List.mem_of_getElem? (i := 1116) (by decide +kernel)⟩
theorem lw_p42 : lw_okq (⟨"LastLoses$Pairs", "listMoves", "(LLastLoses$Quotient;)V"⟩, 6) := ⟨⟨by decide +kernel, by decide +kernel⟩, List.mem_of_getElem? (i := 463) (by decide +kernel), List.mem_of_getElem? (i := 1132) (by decide +kernel), List.mem_of_getElem? (i := 1133) (by decide +kernel)⟩
theorem lw_p43 : lw_okq (⟨"LastLoses$Pairs", "movesOf", "(LLastLoses$Quotient;II)I"⟩, 6) := ⟨⟨by decide +kernel, by decide +kernel⟩, List.mem_of_getElem? (i := 463) (by decide +kernel), List.mem_of_getElem? (i := 1141) (by decide +kernel), List.mem_of_getElem? (i := 1142) (by decide +kernel)⟩
theorem lw_p44 : lw_okq (⟨"LastLoses$Pairs", "insert", "(I)V"⟩, 6) := ⟨⟨by decide +kernel, by decide +kernel⟩, List.mem_of_getElem? (i := 463) (by decide +kernel), List.mem_of_getElem? (i := 1148) (by decide +kernel), List.mem_of_getElem? (i := 1149) (by decide +kernel)⟩
theorem lw_p45 : lw_okq (⟨"LastLoses$Pairs", "append", "(II)V"⟩, 6) := ⟨⟨by decide +kernel, by decide +kernel⟩, List.mem_of_getElem? (i := 463) (by decide +kernel), List.mem_of_getElem? (i := 1153) (by decide +kernel), List.mem_of_getElem? (i := 1154) (by decide +kernel)⟩
theorem lw_p46 : lw_okq (⟨"LastLoses$Pairs", "follow", "(LLastLoses$Quotient;II)I"⟩, 6) := ⟨⟨by decide +kernel, by decide +kernel⟩, List.mem_of_getElem? (i := 463) (by decide +kernel), List.mem_of_getElem? (i := 1157) (by decide +kernel), List.mem_of_getElem? (i := 1158) (by decide +kernel)⟩
theorem lw_p47 : lw_okq (⟨"LastLoses$Pairs", "allFit", "(I)Z"⟩, 6) := ⟨⟨by decide +kernel, by decide +kernel⟩, List.mem_of_getElem? (i := 463) (by decide +kernel), List.mem_of_getElem? (i := 1163) (by decide +kernel), List.mem_of_getElem? (i := 1164) (by decide +kernel)⟩
def lw_privs_3 : List (MethodName × Nat) := [(⟨"LastLoses$Board", "slowest", "()I"⟩, 10), (⟨"LastLoses$Board", "soonest", "()I"⟩, 10), (⟨"LastLoses$Board", "movesOf", "(I)I"⟩, 10), (⟨"LastLoses$Board", "afterMove", "(II)I"⟩, 10), (⟨"LastLoses", "quotientOf", "(I)LLastLoses$Quotient;"⟩, 4), (⟨"LastLoses$Quotient", "elementFor", "(IJ)I"⟩, 10), (⟨"LastLoses$Quotient", "kernel", "()I"⟩, 10), (⟨"LastLoses$Quotient", "reachOf", "(I)I"⟩, 10), (⟨"LastLoses$Quotient", "units", "()I"⟩, 10), (⟨"LastLoses$Quotient", "idle", "()I"⟩, 10), (⟨"LastLoses$Pairs", "listMoves", "(LLastLoses$Quotient;)V"⟩, 6), (⟨"LastLoses$Pairs", "movesOf", "(LLastLoses$Quotient;II)I"⟩, 6), (⟨"LastLoses$Pairs", "insert", "(I)V"⟩, 6), (⟨"LastLoses$Pairs", "append", "(II)V"⟩, 6), (⟨"LastLoses$Pairs", "follow", "(LLastLoses$Quotient;II)I"⟩, 6), (⟨"LastLoses$Pairs", "allFit", "(I)Z"⟩, 6)]
theorem lw_r3 : ∀ q ∈ lw_privs_3, lw_okq q := List.forall_mem_cons.mpr ⟨lw_p32, List.forall_mem_cons.mpr ⟨lw_p33, List.forall_mem_cons.mpr ⟨lw_p34, List.forall_mem_cons.mpr ⟨lw_p35, List.forall_mem_cons.mpr ⟨lw_p36, List.forall_mem_cons.mpr ⟨lw_p37, List.forall_mem_cons.mpr ⟨lw_p38, List.forall_mem_cons.mpr ⟨lw_p39, List.forall_mem_cons.mpr ⟨lw_p40, List.forall_mem_cons.mpr ⟨lw_p41, List.forall_mem_cons.mpr ⟨lw_p42, List.forall_mem_cons.mpr ⟨lw_p43, List.forall_mem_cons.mpr ⟨lw_p44, List.forall_mem_cons.mpr ⟨lw_p45, List.forall_mem_cons.mpr ⟨lw_p46, List.forall_mem_cons.mpr ⟨lw_p47, fun _ h => absurd h List.not_mem_nil⟩⟩⟩⟩⟩⟩⟩⟩⟩⟩⟩⟩⟩⟩⟩⟩
theorem lw_p48 : lw_okq (⟨"LastLosesModel", "countsWays", "()V"⟩, 57) := ⟨⟨by decide +kernel, by decide +kernel⟩, List.mem_of_getElem? (i := 1221) (by decide +kernel), List.mem_of_getElem? (i := 1227) (by decide +kernel), List.mem_of_getElem? (i := 1228) (by decide +kernel)⟩
theorem lw_p49 : lw_okq (⟨"LastLosesModel", "readsAll", "()Z"⟩, 57) := ⟨⟨by decide +kernel, by decide +kernel⟩, List.mem_of_getElem? (i := 1221) (by decide +kernel), List.mem_of_getElem? (i := 1419) (by decide +kernel), List.mem_of_getElem? (i := 1420) (by decide +kernel)⟩
theorem lw_p50 : lw_okq (⟨"LastLosesModel", "readsLine", "(I)Z"⟩, 57) := ⟨⟨by decide +kernel, by decide +kernel⟩, List.mem_of_getElem? (i := 1221) (by decide +kernel), List.mem_of_getElem? (i := 1423) (by decide +kernel), List.mem_of_getElem? (i := 1424) (by decide +kernel)⟩
theorem lw_p51 : lw_okq (⟨"LastLosesModel", "wordHere", "()I"⟩, 57) := ⟨⟨by decide +kernel, by decide +kernel⟩, List.mem_of_getElem? (i := 1221) (by decide +kernel), List.mem_of_getElem? (i := 1427) (by decide +kernel), List.mem_of_getElem? (i := 1428) (by decide +kernel)⟩
theorem lw_p52 : lw_okq (⟨"LastLosesModel", "next", "()I"⟩, 57) := ⟨⟨by decide +kernel, by decide +kernel⟩, List.mem_of_getElem? (i := 1221) (by decide +kernel), List.mem_of_getElem? (i := 1431) (by decide +kernel), List.mem_of_getElem? (i := 1432) (by decide +kernel)⟩
theorem lw_p53 : lw_okq (⟨"LastLosesModel", "byteAt", "(I)I"⟩, 57) := ⟨⟨by decide +kernel, by decide +kernel⟩, List.mem_of_getElem? (i := 1221) (by decide +kernel), List.mem_of_getElem? (i := 1435) (by decide +kernel), List.mem_of_getElem? (i := 1436) (by decide +kernel)⟩
theorem lw_p54 : lw_okq (⟨"LastLosesModel", "fails", "(II)Z"⟩, 57) := ⟨⟨by decide +kernel, by decide +kernel⟩, List.mem_of_getElem? (i := 1221) (by decide +kernel), List.mem_of_getElem? (i := 1442) (by decide +kernel), List.mem_of_getElem? (i := 1443) (by decide +kernel)⟩
theorem lw_p55 : lw_okq (⟨"LastLosesModel", "passWord", "()V"⟩, 57) := ⟨⟨by decide +kernel, by decide +kernel⟩, List.mem_of_getElem? (i := 1221) (by decide +kernel), List.mem_of_getElem? (i := 1446) (by decide +kernel), List.mem_of_getElem? (i := 1447) (by decide +kernel)⟩
theorem lw_p56 : lw_okq (⟨"LastLosesModel", "readsOctal", "()Z"⟩, 57) := ⟨⟨by decide +kernel, by decide +kernel⟩, List.mem_of_getElem? (i := 1221) (by decide +kernel), List.mem_of_getElem? (i := 1450) (by decide +kernel), List.mem_of_getElem? (i := 1451) (by decide +kernel)⟩
theorem lw_p57 : lw_okq (⟨"LastLosesModel", "takesSign", "(I)Z"⟩, 57) := ⟨⟨by decide +kernel, by decide +kernel⟩, List.mem_of_getElem? (i := 1221) (by decide +kernel), List.mem_of_getElem? (i := 1454) (by decide +kernel), List.mem_of_getElem? (i := 1455) (by decide +kernel)⟩
theorem lw_p58 : lw_okq (⟨"LastLosesModel", "readsAlso", "()Z"⟩, 57) := ⟨⟨by decide +kernel, by decide +kernel⟩, List.mem_of_getElem? (i := 1221) (by decide +kernel), List.mem_of_getElem? (i := 1461) (by decide +kernel), List.mem_of_getElem? (i := 1462) (by decide +kernel)⟩
theorem lw_p59 : lw_okq (⟨"LastLosesModel", "reads", "(II)Z"⟩, 57) := ⟨⟨by decide +kernel, by decide +kernel⟩, List.mem_of_getElem? (i := 1221) (by decide +kernel), List.mem_of_getElem? (i := 1465) (by decide +kernel), List.mem_of_getElem? (i := 1466) (by decide +kernel)⟩
theorem lw_p60 : lw_okq (⟨"LastLosesModel", "readsNever", "()Z"⟩, 57) := ⟨⟨by decide +kernel, by decide +kernel⟩, List.mem_of_getElem? (i := 1221) (by decide +kernel), List.mem_of_getElem? (i := 1469) (by decide +kernel), List.mem_of_getElem? (i := 1470) (by decide +kernel)⟩
theorem lw_p61 : lw_okq (⟨"LastLosesModel", "laysMoves", "()V"⟩, 57) := ⟨⟨by decide +kernel, by decide +kernel⟩, List.mem_of_getElem? (i := 1221) (by decide +kernel), List.mem_of_getElem? (i := 1473) (by decide +kernel), List.mem_of_getElem? (i := 1474) (by decide +kernel)⟩
theorem lw_p62 : lw_okq (⟨"LastLosesModel", "isByCode", "(III)Z"⟩, 57) := ⟨⟨by decide +kernel, by decide +kernel⟩, List.mem_of_getElem? (i := 1221) (by decide +kernel), List.mem_of_getElem? (i := 1477) (by decide +kernel), List.mem_of_getElem? (i := 1478) (by decide +kernel)⟩
theorem lw_p63 : lw_okq (⟨"LastLosesModel", "laysNimbers", "()V"⟩, 57) := ⟨⟨by decide +kernel, by decide +kernel⟩, List.mem_of_getElem? (i := 1221) (by decide +kernel), List.mem_of_getElem? (i := 1481) (by decide +kernel), List.mem_of_getElem? (i := 1482) (by decide +kernel)⟩
def lw_privs_4 : List (MethodName × Nat) := [(⟨"LastLosesModel", "countsWays", "()V"⟩, 57), (⟨"LastLosesModel", "readsAll", "()Z"⟩, 57), (⟨"LastLosesModel", "readsLine", "(I)Z"⟩, 57), (⟨"LastLosesModel", "wordHere", "()I"⟩, 57), (⟨"LastLosesModel", "next", "()I"⟩, 57), (⟨"LastLosesModel", "byteAt", "(I)I"⟩, 57), (⟨"LastLosesModel", "fails", "(II)Z"⟩, 57), (⟨"LastLosesModel", "passWord", "()V"⟩, 57), (⟨"LastLosesModel", "readsOctal", "()Z"⟩, 57), (⟨"LastLosesModel", "takesSign", "(I)Z"⟩, 57), (⟨"LastLosesModel", "readsAlso", "()Z"⟩, 57), (⟨"LastLosesModel", "reads", "(II)Z"⟩, 57), (⟨"LastLosesModel", "readsNever", "()Z"⟩, 57), (⟨"LastLosesModel", "laysMoves", "()V"⟩, 57), (⟨"LastLosesModel", "isByCode", "(III)Z"⟩, 57), (⟨"LastLosesModel", "laysNimbers", "()V"⟩, 57)]
theorem lw_r4 : ∀ q ∈ lw_privs_4, lw_okq q := List.forall_mem_cons.mpr ⟨lw_p48, List.forall_mem_cons.mpr ⟨lw_p49, List.forall_mem_cons.mpr ⟨lw_p50, List.forall_mem_cons.mpr ⟨lw_p51, List.forall_mem_cons.mpr ⟨lw_p52, List.forall_mem_cons.mpr ⟨lw_p53, List.forall_mem_cons.mpr ⟨lw_p54, List.forall_mem_cons.mpr ⟨lw_p55, List.forall_mem_cons.mpr ⟨lw_p56, List.forall_mem_cons.mpr ⟨lw_p57, List.forall_mem_cons.mpr ⟨lw_p58, List.forall_mem_cons.mpr ⟨lw_p59, List.forall_mem_cons.mpr ⟨lw_p60, List.forall_mem_cons.mpr ⟨lw_p61, List.forall_mem_cons.mpr ⟨lw_p62, List.forall_mem_cons.mpr ⟨lw_p63, fun _ h => absurd h List.not_mem_nil⟩⟩⟩⟩⟩⟩⟩⟩⟩⟩⟩⟩⟩⟩⟩⟩
theorem lw_p64 : lw_okq (⟨"LastLosesModel", "takesNone", "(I)V"⟩, 57) := ⟨⟨by decide +kernel, by decide +kernel⟩, List.mem_of_getElem? (i := 1221) (by decide +kernel), List.mem_of_getElem? (i := 1485) (by decide +kernel), List.mem_of_getElem? (i := 1486) (by decide +kernel)⟩
theorem lw_p65 : lw_okq (⟨"LastLosesModel", "leastFree", "()I"⟩, 57) := ⟨⟨by decide +kernel, by decide +kernel⟩, List.mem_of_getElem? (i := 1221) (by decide +kernel), List.mem_of_getElem? (i := 1489) (by decide +kernel), List.mem_of_getElem? (i := 1490) (by decide +kernel)⟩
theorem lw_p66 : lw_okq (⟨"LastLosesModel", "laysPositions", "()V"⟩, 57) := ⟨⟨by decide +kernel, by decide +kernel⟩, List.mem_of_getElem? (i := 1221) (by decide +kernel), List.mem_of_getElem? (i := 1496) (by decide +kernel), List.mem_of_getElem? (i := 1497) (by decide +kernel)⟩
theorem lw_p67 : lw_okq (⟨"LastLosesModel", "laysHeaps", "(I[I)V"⟩, 57) := ⟨⟨by decide +kernel, by decide +kernel⟩, List.mem_of_getElem? (i := 1221) (by decide +kernel), List.mem_of_getElem? (i := 1500) (by decide +kernel), List.mem_of_getElem? (i := 1501) (by decide +kernel)⟩
theorem lw_p68 : lw_okq (⟨"LastLosesModel", "gathersBehind", "()V"⟩, 57) := ⟨⟨by decide +kernel, by decide +kernel⟩, List.mem_of_getElem? (i := 1221) (by decide +kernel), List.mem_of_getElem? (i := 1504) (by decide +kernel), List.mem_of_getElem? (i := 1505) (by decide +kernel)⟩
theorem lw_p69 : lw_okq (⟨"LastLosesModel", "behind", "([III)I"⟩, 57) := ⟨⟨by decide +kernel, by decide +kernel⟩, List.mem_of_getElem? (i := 1221) (by decide +kernel), List.mem_of_getElem? (i := 1508) (by decide +kernel), List.mem_of_getElem? (i := 1509) (by decide +kernel)⟩
theorem lw_p70 : lw_okq (⟨"LastLosesModel", "numberOf", "([I)I"⟩, 57) := ⟨⟨by decide +kernel, by decide +kernel⟩, List.mem_of_getElem? (i := 1221) (by decide +kernel), List.mem_of_getElem? (i := 1518) (by decide +kernel), List.mem_of_getElem? (i := 1519) (by decide +kernel)⟩
theorem lw_p71 : lw_okq (⟨"LastLosesModel", "laysOne", "(I)V"⟩, 57) := ⟨⟨by decide +kernel, by decide +kernel⟩, List.mem_of_getElem? (i := 1221) (by decide +kernel), List.mem_of_getElem? (i := 1525) (by decide +kernel), List.mem_of_getElem? (i := 1526) (by decide +kernel)⟩
theorem lw_p72 : lw_okq (⟨"LastLosesModel", "laysBack", "(II)V"⟩, 57) := ⟨⟨by decide +kernel, by decide +kernel⟩, List.mem_of_getElem? (i := 1221) (by decide +kernel), List.mem_of_getElem? (i := 1529) (by decide +kernel), List.mem_of_getElem? (i := 1530) (by decide +kernel)⟩
theorem lw_p73 : lw_okq (⟨"LastLosesModel", "isHeap", "(I)Z"⟩, 57) := ⟨⟨by decide +kernel, by decide +kernel⟩, List.mem_of_getElem? (i := 1221) (by decide +kernel), List.mem_of_getElem? (i := 1537) (by decide +kernel), List.mem_of_getElem? (i := 1538) (by decide +kernel)⟩
theorem lw_p74 : lw_okq (⟨"LastLosesModel", "isPeriod", "(II)Z"⟩, 57) := ⟨⟨by decide +kernel, by decide +kernel⟩, List.mem_of_getElem? (i := 1221) (by decide +kernel), List.mem_of_getElem? (i := 1554) (by decide +kernel), List.mem_of_getElem? (i := 1555) (by decide +kernel)⟩
theorem lw_p75 : lw_okq (⟨"LastLosesModel", "firstOdd", "(Z)I"⟩, 57) := ⟨⟨by decide +kernel, by decide +kernel⟩, List.mem_of_getElem? (i := 1221) (by decide +kernel), List.mem_of_getElem? (i := 1562) (by decide +kernel), List.mem_of_getElem? (i := 1563) (by decide +kernel)⟩
theorem lw_p76 : lw_okq (⟨"LastLosesModel", "nimberOfHeaps", "([I)I"⟩, 57) := ⟨⟨by decide +kernel, by decide +kernel⟩, List.mem_of_getElem? (i := 1221) (by decide +kernel), List.mem_of_getElem? (i := 1566) (by decide +kernel), List.mem_of_getElem? (i := 1567) (by decide +kernel)⟩
theorem lw_p77 : lw_okq (⟨"LastLosesModel", "isTame", "(II)Z"⟩, 57) := ⟨⟨by decide +kernel, by decide +kernel⟩, List.mem_of_getElem? (i := 1221) (by decide +kernel), List.mem_of_getElem? (i := 1570) (by decide +kernel), List.mem_of_getElem? (i := 1571) (by decide +kernel)⟩
theorem lw_p78 : lw_okq (⟨"LastLosesModel", "genusOf", "(II)I"⟩, 57) := ⟨⟨by decide +kernel, by decide +kernel⟩, List.mem_of_getElem? (i := 1221) (by decide +kernel), List.mem_of_getElem? (i := 1574) (by decide +kernel), List.mem_of_getElem? (i := 1575) (by decide +kernel)⟩
theorem lw_p79 : lw_okq (⟨"LastLosesModel", "isLikeNim", "(I[I)Z"⟩, 57) := ⟨⟨by decide +kernel, by decide +kernel⟩, List.mem_of_getElem? (i := 1221) (by decide +kernel), List.mem_of_getElem? (i := 1578) (by decide +kernel), List.mem_of_getElem? (i := 1579) (by decide +kernel)⟩
def lw_privs_5 : List (MethodName × Nat) := [(⟨"LastLosesModel", "takesNone", "(I)V"⟩, 57), (⟨"LastLosesModel", "leastFree", "()I"⟩, 57), (⟨"LastLosesModel", "laysPositions", "()V"⟩, 57), (⟨"LastLosesModel", "laysHeaps", "(I[I)V"⟩, 57), (⟨"LastLosesModel", "gathersBehind", "()V"⟩, 57), (⟨"LastLosesModel", "behind", "([III)I"⟩, 57), (⟨"LastLosesModel", "numberOf", "([I)I"⟩, 57), (⟨"LastLosesModel", "laysOne", "(I)V"⟩, 57), (⟨"LastLosesModel", "laysBack", "(II)V"⟩, 57), (⟨"LastLosesModel", "isHeap", "(I)Z"⟩, 57), (⟨"LastLosesModel", "isPeriod", "(II)Z"⟩, 57), (⟨"LastLosesModel", "firstOdd", "(Z)I"⟩, 57), (⟨"LastLosesModel", "nimberOfHeaps", "([I)I"⟩, 57), (⟨"LastLosesModel", "isTame", "(II)Z"⟩, 57), (⟨"LastLosesModel", "genusOf", "(II)I"⟩, 57), (⟨"LastLosesModel", "isLikeNim", "(I[I)Z"⟩, 57)]
theorem lw_r5 : ∀ q ∈ lw_privs_5, lw_okq q := List.forall_mem_cons.mpr ⟨lw_p64, List.forall_mem_cons.mpr ⟨lw_p65, List.forall_mem_cons.mpr ⟨lw_p66, List.forall_mem_cons.mpr ⟨lw_p67, List.forall_mem_cons.mpr ⟨lw_p68, List.forall_mem_cons.mpr ⟨lw_p69, List.forall_mem_cons.mpr ⟨lw_p70, List.forall_mem_cons.mpr ⟨lw_p71, List.forall_mem_cons.mpr ⟨lw_p72, List.forall_mem_cons.mpr ⟨lw_p73, List.forall_mem_cons.mpr ⟨lw_p74, List.forall_mem_cons.mpr ⟨lw_p75, List.forall_mem_cons.mpr ⟨lw_p76, List.forall_mem_cons.mpr ⟨lw_p77, List.forall_mem_cons.mpr ⟨lw_p78, List.forall_mem_cons.mpr ⟨lw_p79, fun _ h => absurd h List.not_mem_nil⟩⟩⟩⟩⟩⟩⟩⟩⟩⟩⟩⟩⟩⟩⟩⟩
theorem lw_p80 : lw_okq (⟨"LastLosesModel", "told", "(II)I"⟩, 57) := ⟨⟨by decide +kernel, by decide +kernel⟩, List.mem_of_getElem? (i := 1221) (by decide +kernel), List.mem_of_getElem? (i := 1582) (by decide +kernel), List.mem_of_getElem? (i := 1583) (by decide +kernel)⟩
theorem lw_p81 : lw_okq (⟨"LastLosesModel", "partOf", "(II)I"⟩, 57) := ⟨⟨by decide +kernel, by decide +kernel⟩, List.mem_of_getElem? (i := 1221) (by decide +kernel), List.mem_of_getElem? (i := 1586) (by decide +kernel), List.mem_of_getElem? (i := 1587) (by decide +kernel)⟩
theorem lw_p82 : lw_okq (⟨"LastLosesModel", "keepsAct", "()V"⟩, 57) := ⟨⟨by decide +kernel, by decide +kernel⟩, List.mem_of_getElem? (i := 1221) (by decide +kernel), List.mem_of_getElem? (i := 1598) (by decide +kernel), List.mem_of_getElem? (i := 1599) (by decide +kernel)⟩
theorem lw_p83 : lw_okq (⟨"LastLosesModel", "isMove", "(III)Z"⟩, 57) := ⟨⟨by decide +kernel, by decide +kernel⟩, List.mem_of_getElem? (i := 1221) (by decide +kernel), List.mem_of_getElem? (i := 1606) (by decide +kernel), List.mem_of_getElem? (i := 1607) (by decide +kernel)⟩
theorem lw_p84 : lw_okq (⟨"LastLosesModel", "handNumber", "()I"⟩, 57) := ⟨⟨by decide +kernel, by decide +kernel⟩, List.mem_of_getElem? (i := 1221) (by decide +kernel), List.mem_of_getElem? (i := 1610) (by decide +kernel), List.mem_of_getElem? (i := 1611) (by decide +kernel)⟩
theorem lw_p85 : lw_okq (⟨"LastLosesModel", "firstReply", "([I)I"⟩, 57) := ⟨⟨by decide +kernel, by decide +kernel⟩, List.mem_of_getElem? (i := 1221) (by decide +kernel), List.mem_of_getElem? (i := 1618) (by decide +kernel), List.mem_of_getElem? (i := 1619) (by decide +kernel)⟩
theorem lw_p86 : lw_okq (⟨"LastLosesModel", "goodMoves", "()I"⟩, 57) := ⟨⟨by decide +kernel, by decide +kernel⟩, List.mem_of_getElem? (i := 1221) (by decide +kernel), List.mem_of_getElem? (i := 1639) (by decide +kernel), List.mem_of_getElem? (i := 1640) (by decide +kernel)⟩
theorem lw_p87 : lw_okq (⟨"LastLosesModel", "playedOn", "()I"⟩, 57) := ⟨⟨by decide +kernel, by decide +kernel⟩, List.mem_of_getElem? (i := 1221) (by decide +kernel), List.mem_of_getElem? (i := 1652) (by decide +kernel), List.mem_of_getElem? (i := 1653) (by decide +kernel)⟩
theorem lw_p88 : lw_okq (⟨"LastLosesModel", "apartBy", "([I[I)I"⟩, 57) := ⟨⟨by decide +kernel, by decide +kernel⟩, List.mem_of_getElem? (i := 1221) (by decide +kernel), List.mem_of_getElem? (i := 1669) (by decide +kernel), List.mem_of_getElem? (i := 1670) (by decide +kernel)⟩
theorem lw_p89 : lw_okq (⟨"LastLosesModel", "losesBeside", "([I)Z"⟩, 57) := ⟨⟨by decide +kernel, by decide +kernel⟩, List.mem_of_getElem? (i := 1221) (by decide +kernel), List.mem_of_getElem? (i := 1673) (by decide +kernel), List.mem_of_getElem? (i := 1674) (by decide +kernel)⟩
theorem lw_p90 : lw_okq (⟨"LastLosesModel", "movesOfWalk", "()I"⟩, 57) := ⟨⟨by decide +kernel, by decide +kernel⟩, List.mem_of_getElem? (i := 1221) (by decide +kernel), List.mem_of_getElem? (i := 1694) (by decide +kernel), List.mem_of_getElem? (i := 1695) (by decide +kernel)⟩
theorem lw_p91 : lw_okq (⟨"LastLosesModel", "draw", "(I)I"⟩, 57) := ⟨⟨by decide +kernel, by decide +kernel⟩, List.mem_of_getElem? (i := 1221) (by decide +kernel), List.mem_of_getElem? (i := 1698) (by decide +kernel), List.mem_of_getElem? (i := 1699) (by decide +kernel)⟩
theorem lw_p92 : lw_okq (⟨"LastLosesModel", "goesBy", "(I)V"⟩, 57) := ⟨⟨by decide +kernel, by decide +kernel⟩, List.mem_of_getElem? (i := 1221) (by decide +kernel), List.mem_of_getElem? (i := 1706) (by decide +kernel), List.mem_of_getElem? (i := 1707) (by decide +kernel)⟩
theorem lw_p93 : lw_okq (⟨"LastLosesModel", "isQuotient", "(I)Z"⟩, 57) := ⟨⟨by decide +kernel, by decide +kernel⟩, List.mem_of_getElem? (i := 1221) (by decide +kernel), List.mem_of_getElem? (i := 1714) (by decide +kernel), List.mem_of_getElem? (i := 1715) (by decide +kernel)⟩
theorem lw_p94 : lw_okq (⟨"LastLosesModel", "laysQuotient", "(I)V"⟩, 57) := ⟨⟨by decide +kernel, by decide +kernel⟩, List.mem_of_getElem? (i := 1221) (by decide +kernel), List.mem_of_getElem? (i := 1719) (by decide +kernel), List.mem_of_getElem? (i := 1720) (by decide +kernel)⟩
theorem lw_p95 : lw_okq (⟨"LastLosesModel", "findsElements", "(I)Z"⟩, 57) := ⟨⟨by decide +kernel, by decide +kernel⟩, List.mem_of_getElem? (i := 1221) (by decide +kernel), List.mem_of_getElem? (i := 1723) (by decide +kernel), List.mem_of_getElem? (i := 1724) (by decide +kernel)⟩
def lw_privs_6 : List (MethodName × Nat) := [(⟨"LastLosesModel", "told", "(II)I"⟩, 57), (⟨"LastLosesModel", "partOf", "(II)I"⟩, 57), (⟨"LastLosesModel", "keepsAct", "()V"⟩, 57), (⟨"LastLosesModel", "isMove", "(III)Z"⟩, 57), (⟨"LastLosesModel", "handNumber", "()I"⟩, 57), (⟨"LastLosesModel", "firstReply", "([I)I"⟩, 57), (⟨"LastLosesModel", "goodMoves", "()I"⟩, 57), (⟨"LastLosesModel", "playedOn", "()I"⟩, 57), (⟨"LastLosesModel", "apartBy", "([I[I)I"⟩, 57), (⟨"LastLosesModel", "losesBeside", "([I)Z"⟩, 57), (⟨"LastLosesModel", "movesOfWalk", "()I"⟩, 57), (⟨"LastLosesModel", "draw", "(I)I"⟩, 57), (⟨"LastLosesModel", "goesBy", "(I)V"⟩, 57), (⟨"LastLosesModel", "isQuotient", "(I)Z"⟩, 57), (⟨"LastLosesModel", "laysQuotient", "(I)V"⟩, 57), (⟨"LastLosesModel", "findsElements", "(I)Z"⟩, 57)]
theorem lw_r6 : ∀ q ∈ lw_privs_6, lw_okq q := List.forall_mem_cons.mpr ⟨lw_p80, List.forall_mem_cons.mpr ⟨lw_p81, List.forall_mem_cons.mpr ⟨lw_p82, List.forall_mem_cons.mpr ⟨lw_p83, List.forall_mem_cons.mpr ⟨lw_p84, List.forall_mem_cons.mpr ⟨lw_p85, List.forall_mem_cons.mpr ⟨lw_p86, List.forall_mem_cons.mpr ⟨lw_p87, List.forall_mem_cons.mpr ⟨lw_p88, List.forall_mem_cons.mpr ⟨lw_p89, List.forall_mem_cons.mpr ⟨lw_p90, List.forall_mem_cons.mpr ⟨lw_p91, List.forall_mem_cons.mpr ⟨lw_p92, List.forall_mem_cons.mpr ⟨lw_p93, List.forall_mem_cons.mpr ⟨lw_p94, List.forall_mem_cons.mpr ⟨lw_p95, fun _ h => absurd h List.not_mem_nil⟩⟩⟩⟩⟩⟩⟩⟩⟩⟩⟩⟩⟩⟩⟩⟩
theorem lw_p96 : lw_okq (⟨"LastLosesModel", "markOf", "(I)J"⟩, 57) := ⟨⟨by decide +kernel, by decide +kernel⟩, List.mem_of_getElem? (i := 1221) (by decide +kernel), List.mem_of_getElem? (i := 1727) (by decide +kernel), List.mem_of_getElem? (i := 1728) (by decide +kernel)⟩
theorem lw_p97 : lw_okq (⟨"LastLosesModel", "addsElement", "(IJ)V"⟩, 57) := ⟨⟨by decide +kernel, by decide +kernel⟩, List.mem_of_getElem? (i := 1221) (by decide +kernel), List.mem_of_getElem? (i := 1731) (by decide +kernel), List.mem_of_getElem? (i := 1732) (by decide +kernel)⟩
theorem lw_p98 : lw_okq (⟨"LastLosesModel", "takesWord", "(II)V"⟩, 57) := ⟨⟨by decide +kernel, by decide +kernel⟩, List.mem_of_getElem? (i := 1221) (by decide +kernel), List.mem_of_getElem? (i := 1738) (by decide +kernel), List.mem_of_getElem? (i := 1739) (by decide +kernel)⟩
theorem lw_p99 : lw_okq (⟨"LastLosesModel", "elementBy", "(IJ)I"⟩, 57) := ⟨⟨by decide +kernel, by decide +kernel⟩, List.mem_of_getElem? (i := 1221) (by decide +kernel), List.mem_of_getElem? (i := 1742) (by decide +kernel), List.mem_of_getElem? (i := 1743) (by decide +kernel)⟩
theorem lw_p100 : lw_okq (⟨"LastLosesModel", "findsPairs", "(I)I"⟩, 57) := ⟨⟨by decide +kernel, by decide +kernel⟩, List.mem_of_getElem? (i := 1221) (by decide +kernel), List.mem_of_getElem? (i := 1746) (by decide +kernel), List.mem_of_getElem? (i := 1747) (by decide +kernel)⟩
theorem lw_p101 : lw_okq (⟨"LastLosesModel", "nextBy", "(III)I"⟩, 57) := ⟨⟨by decide +kernel, by decide +kernel⟩, List.mem_of_getElem? (i := 1221) (by decide +kernel), List.mem_of_getElem? (i := 1750) (by decide +kernel), List.mem_of_getElem? (i := 1751) (by decide +kernel)⟩
theorem lw_p102 : lw_okq (⟨"LastLosesModel", "setBy", "(IIII)I"⟩, 57) := ⟨⟨by decide +kernel, by decide +kernel⟩, List.mem_of_getElem? (i := 1221) (by decide +kernel), List.mem_of_getElem? (i := 1754) (by decide +kernel), List.mem_of_getElem? (i := 1755) (by decide +kernel)⟩
theorem lw_p103 : lw_okq (⟨"LastLosesModel", "pairAt", "(III)I"⟩, 57) := ⟨⟨by decide +kernel, by decide +kernel⟩, List.mem_of_getElem? (i := 1221) (by decide +kernel), List.mem_of_getElem? (i := 1758) (by decide +kernel), List.mem_of_getElem? (i := 1759) (by decide +kernel)⟩
theorem lw_p104 : lw_okq (⟨"LastLosesModel", "isSteady", "(I)Z"⟩, 57) := ⟨⟨by decide +kernel, by decide +kernel⟩, List.mem_of_getElem? (i := 1221) (by decide +kernel), List.mem_of_getElem? (i := 1762) (by decide +kernel), List.mem_of_getElem? (i := 1763) (by decide +kernel)⟩
theorem lw_p105 : lw_okq (⟨"LastLosesModel", "arePairsRight", "(I)Z"⟩, 57) := ⟨⟨by decide +kernel, by decide +kernel⟩, List.mem_of_getElem? (i := 1221) (by decide +kernel), List.mem_of_getElem? (i := 1766) (by decide +kernel), List.mem_of_getElem? (i := 1767) (by decide +kernel)⟩
theorem lw_p106 : lw_okq (⟨"LastLosesModel", "isKnown", "(I)Z"⟩, 57) := ⟨⟨by decide +kernel, by decide +kernel⟩, List.mem_of_getElem? (i := 1221) (by decide +kernel), List.mem_of_getElem? (i := 1774) (by decide +kernel), List.mem_of_getElem? (i := 1775) (by decide +kernel)⟩
theorem lw_p107 : lw_okq (⟨"LastLosesModel", "isElement", "(II)Z"⟩, 57) := ⟨⟨by decide +kernel, by decide +kernel⟩, List.mem_of_getElem? (i := 1221) (by decide +kernel), List.mem_of_getElem? (i := 1778) (by decide +kernel), List.mem_of_getElem? (i := 1779) (by decide +kernel)⟩
theorem lw_p108 : lw_okq (⟨"LastLosesModel", "timesOf", "(III)I"⟩, 57) := ⟨⟨by decide +kernel, by decide +kernel⟩, List.mem_of_getElem? (i := 1221) (by decide +kernel), List.mem_of_getElem? (i := 1790) (by decide +kernel), List.mem_of_getElem? (i := 1791) (by decide +kernel)⟩
theorem lw_p109 : lw_okq (⟨"LastLosesModel", "comesOf", "(II)I"⟩, 57) := ⟨⟨by decide +kernel, by decide +kernel⟩, List.mem_of_getElem? (i := 1221) (by decide +kernel), List.mem_of_getElem? (i := 1799) (by decide +kernel), List.mem_of_getElem? (i := 1800) (by decide +kernel)⟩
theorem lw_p110 : lw_okq (⟨"LastLosesModel", "areAlike", "(II)Z"⟩, 57) := ⟨⟨by decide +kernel, by decide +kernel⟩, List.mem_of_getElem? (i := 1221) (by decide +kernel), List.mem_of_getElem? (i := 1815) (by decide +kernel), List.mem_of_getElem? (i := 1816) (by decide +kernel)⟩
def lw_privs_7 : List (MethodName × Nat) := [(⟨"LastLosesModel", "markOf", "(I)J"⟩, 57), (⟨"LastLosesModel", "addsElement", "(IJ)V"⟩, 57), (⟨"LastLosesModel", "takesWord", "(II)V"⟩, 57), (⟨"LastLosesModel", "elementBy", "(IJ)I"⟩, 57), (⟨"LastLosesModel", "findsPairs", "(I)I"⟩, 57), (⟨"LastLosesModel", "nextBy", "(III)I"⟩, 57), (⟨"LastLosesModel", "setBy", "(IIII)I"⟩, 57), (⟨"LastLosesModel", "pairAt", "(III)I"⟩, 57), (⟨"LastLosesModel", "isSteady", "(I)Z"⟩, 57), (⟨"LastLosesModel", "arePairsRight", "(I)Z"⟩, 57), (⟨"LastLosesModel", "isKnown", "(I)Z"⟩, 57), (⟨"LastLosesModel", "isElement", "(II)Z"⟩, 57), (⟨"LastLosesModel", "timesOf", "(III)I"⟩, 57), (⟨"LastLosesModel", "comesOf", "(II)I"⟩, 57), (⟨"LastLosesModel", "areAlike", "(II)Z"⟩, 57)]
theorem lw_r7 : ∀ q ∈ lw_privs_7, lw_okq q := List.forall_mem_cons.mpr ⟨lw_p96, List.forall_mem_cons.mpr ⟨lw_p97, List.forall_mem_cons.mpr ⟨lw_p98, List.forall_mem_cons.mpr ⟨lw_p99, List.forall_mem_cons.mpr ⟨lw_p100, List.forall_mem_cons.mpr ⟨lw_p101, List.forall_mem_cons.mpr ⟨lw_p102, List.forall_mem_cons.mpr ⟨lw_p103, List.forall_mem_cons.mpr ⟨lw_p104, List.forall_mem_cons.mpr ⟨lw_p105, List.forall_mem_cons.mpr ⟨lw_p106, List.forall_mem_cons.mpr ⟨lw_p107, List.forall_mem_cons.mpr ⟨lw_p108, List.forall_mem_cons.mpr ⟨lw_p109, List.forall_mem_cons.mpr ⟨lw_p110, fun _ h => absurd h List.not_mem_nil⟩⟩⟩⟩⟩⟩⟩⟩⟩⟩⟩⟩⟩⟩⟩
def lw_privs : List (MethodName × Nat) := lw_privs_1 ++ (lw_privs_2 ++ (lw_privs_3 ++ (lw_privs_4 ++ (lw_privs_5 ++ (lw_privs_6 ++ (lw_privs_7))))))
def lw_tbl : List Cond := k2_sels lw_privs ++ tables_1
theorem lw_privs_ok : ∀ q ∈ lw_privs, lw_okq q := by
  show ∀ q ∈ lw_privs_1 ++ (lw_privs_2 ++ (lw_privs_3 ++ (lw_privs_4 ++ (lw_privs_5 ++ (lw_privs_6 ++ (lw_privs_7)))))), lw_okq q
  exact List.forall_mem_append.mpr ⟨lw_r1, List.forall_mem_append.mpr ⟨lw_r2, List.forall_mem_append.mpr ⟨lw_r3, List.forall_mem_append.mpr ⟨lw_r4, List.forall_mem_append.mpr ⟨lw_r5, List.forall_mem_append.mpr ⟨lw_r6, lw_r7⟩⟩⟩⟩⟩⟩
end
section
def RX0 : String := "LastLoses$Board"
def TX0 : u_T := fun k => match k with
  | 0 => ("LastLoses$Board", "rules", "LLastLoses$Rules;", true)
  | 1 => ("LastLoses$Board", "cycle", "LLastLoses$Cycle;", true)
  | 2 => ("LastLoses$Board", "positions", "LLastLoses$Positions;", true)
  | 3 => ("LastLoses$Board", "hand", "LLastLoses$Hand;", true)
  | 4 => ("LastLoses$Board", "values", "LLastLoses$Values;", true)
  | 5 => ("LastLoses$Board", "options", "LLastLoses$Options;", true)
  | 6 => ("LastLoses$Board", "pairSearch", "LLastLoses$Pairs;", true)
  | 7 => ("LastLoses$Board", "quotients", "[LLastLoses$Quotient;", true)
  | 8 => ("LastLoses$Board", "oddOne", "I", false)
  | _ => ("LastLoses$Board", "wildOne", "I", false)
def tyX0 : Nat → FieldType := fun k => match k with
  | 0 => .object "LastLoses$Rules"
  | 1 => .object "LastLoses$Cycle"
  | 2 => .object "LastLoses$Positions"
  | 3 => .object "LastLoses$Hand"
  | 4 => .object "LastLoses$Values"
  | 5 => .object "LastLoses$Options"
  | 6 => .object "LastLoses$Pairs"
  | 7 => .array (.object "LastLoses$Quotient")
  | 8 => .int
  | _ => .int
abbrev wsX00 : List Cond := u_ws RX0 TX0 10
theorem nmX0 : ∀ a, a < 10 → ∀ b, b < 10 → a ≠ b → (TX0 a).2.1 ≠ (TX0 b).2.1 := by decide +kernel
theorem tyX0_ok : ∀ k, k < 10 → parseFieldDescriptor (TX0 k).2.2.1 = some (tyX0 k) := by decide +kernel
abbrev cX0_init : ByteArray := prog_2_method_1_code
def yX0_init : MethodName := ⟨RX0, "<init>", "()V"⟩
abbrev cX0_begin : ByteArray := prog_2_method_2_code
def yX0_begin : MethodName := ⟨RX0, "begin", "(LLastLoses$Reader;)V"⟩
abbrev cX0_firstOdd : ByteArray := prog_2_method_3_code
def yX0_firstOdd : MethodName := ⟨RX0, "firstOdd", "()I"⟩
abbrev cX0_firstWild : ByteArray := prog_2_method_4_code
def yX0_firstWild : MethodName := ⟨RX0, "firstWild", "()I"⟩
abbrev cX0_makeReply : ByteArray := prog_2_method_5_code
def yX0_makeReply : MethodName := ⟨RX0, "makeReply", "()I"⟩
abbrev cX0_answerAt : ByteArray := prog_2_method_6_code
def yX0_answerAt : MethodName := ⟨RX0, "answerAt", "(I)I"⟩
abbrev cX0_lineMove : ByteArray := prog_2_method_7_code
def yX0_lineMove : MethodName := ⟨RX0, "lineMove", "(I)I"⟩
abbrev cX0_soonest : ByteArray := prog_2_method_8_code
def yX0_soonest : MethodName := ⟨RX0, "soonest", "()I"⟩
abbrev cX0_slowest : ByteArray := prog_2_method_9_code
def yX0_slowest : MethodName := ⟨RX0, "slowest", "()I"⟩
abbrev cX0_drawGames : ByteArray := prog_2_method_10_code
def yX0_drawGames : MethodName := ⟨RX0, "drawGames", "(III)I"⟩
abbrev cX0_movesOf : ByteArray := prog_2_method_11_code
def yX0_movesOf : MethodName := ⟨RX0, "movesOf", "(I)I"⟩
abbrev cX0_afterMove : ByteArray := prog_2_method_12_code
def yX0_afterMove : MethodName := ⟨RX0, "afterMove", "(II)I"⟩
abbrev cX0_pairsOf : ByteArray := prog_2_method_13_code
def yX0_pairsOf : MethodName := ⟨RX0, "pairsOf", "(LLastLoses$Quotient;)I"⟩
abbrev cX0_proofOf : ByteArray := prog_2_method_14_code
def yX0_proofOf : MethodName := ⟨RX0, "proofOf", "(LLastLoses$Quotient;)I"⟩
def RX1 : String := "LastLoses$Cycle"
def TX1 : u_T := fun k => match k with
  | 0 => ("LastLoses$Cycle", "nimbers", "[I", true)
  | 1 => ("LastLoses$Cycle", "seenFor", "[I", true)
  | 2 => ("LastLoses$Cycle", "looked", "Z", false)
  | 3 => ("LastLoses$Cycle", "length", "I", false)
  | _ => ("LastLoses$Cycle", "start", "I", false)
def tyX1 : Nat → FieldType := fun k => match k with
  | 0 => .array .int
  | 1 => .array .int
  | 2 => .boolean
  | 3 => .int
  | _ => .int
abbrev wsX10 : List Cond := u_ws RX1 TX1 5
theorem nmX1 : ∀ a, a < 5 → ∀ b, b < 5 → a ≠ b → (TX1 a).2.1 ≠ (TX1 b).2.1 := by decide +kernel
theorem tyX1_ok : ∀ k, k < 5 → parseFieldDescriptor (TX1 k).2.2.1 = some (tyX1 k) := by decide +kernel
abbrev cX1_init : ByteArray := prog_3_method_1_code
def yX1_init : MethodName := ⟨RX1, "<init>", "()V"⟩
abbrev cX1_forget : ByteArray := prog_3_method_2_code
def yX1_forget : MethodName := ⟨RX1, "forget", "()V"⟩
abbrev cX1_answer : ByteArray := prog_3_method_3_code
def yX1_answer : MethodName := ⟨RX1, "answer", "(LLastLoses$Rules;I)I"⟩
abbrev cX1_findNimbers : ByteArray := prog_3_method_4_code
def yX1_findNimbers : MethodName := ⟨RX1, "findNimbers", "(LLastLoses$Rules;)V"⟩
abbrev cX1_seeMoves : ByteArray := prog_3_method_5_code
def yX1_seeMoves : MethodName := ⟨RX1, "seeMoves", "(III)V"⟩
abbrev cX1_findCycle : ByteArray := prog_3_method_6_code
def yX1_findCycle : MethodName := ⟨RX1, "findCycle", "(I)V"⟩
abbrev cX1_repeats : ByteArray := prog_3_method_7_code
def yX1_repeats : MethodName := ⟨RX1, "repeats", "(III)Z"⟩
def RX2 : String := "LastLoses$Hand"
def TX2 : u_T := fun k => match k with
  | 0 => ("LastLoses$Hand", "before", "[I", true)
  | 1 => ("LastLoses$Hand", "kept", "[I", true)
  | 2 => ("LastLoses$Hand", "now", "I", false)
  | 3 => ("LastLoses$Hand", "top", "I", false)
  | _ => ("LastLoses$Hand", "acts", "I", false)
def tyX2 : Nat → FieldType := fun k => match k with
  | 0 => .array .int
  | 1 => .array .int
  | 2 => .int
  | 3 => .int
  | _ => .int
abbrev wsX20 : List Cond := u_ws RX2 TX2 5
theorem nmX2 : ∀ a, a < 5 → ∀ b, b < 5 → a ≠ b → (TX2 a).2.1 ≠ (TX2 b).2.1 := by decide +kernel
theorem tyX2_ok : ∀ k, k < 5 → parseFieldDescriptor (TX2 k).2.2.1 = some (tyX2 k) := by decide +kernel
abbrev cX2_init : ByteArray := prog_4_method_1_code
def yX2_init : MethodName := ⟨RX2, "<init>", "()V"⟩
abbrev cX2_empty : ByteArray := prog_4_method_2_code
def yX2_empty : MethodName := ⟨RX2, "empty", "()V"⟩
abbrev cX2_position : ByteArray := prog_4_method_3_code
def yX2_position : MethodName := ⟨RX2, "position", "()I"⟩
abbrev cX2_become : ByteArray := prog_4_method_4_code
def yX2_become : MethodName := ⟨RX2, "become", "(I)V"⟩
abbrev cX2_takeBack : ByteArray := prog_4_method_5_code
def yX2_takeBack : MethodName := ⟨RX2, "takeBack", "()I"⟩
abbrev cX2_undoable : ByteArray := prog_4_method_6_code
def yX2_undoable : MethodName := ⟨RX2, "undoable", "()I"⟩
abbrev cX2_keepUnder : ByteArray := prog_4_method_7_code
def yX2_keepUnder : MethodName := ⟨RX2, "keepUnder", "(I)V"⟩
abbrev cX2_keptUnder : ByteArray := prog_4_method_8_code
def yX2_keptUnder : MethodName := ⟨RX2, "keptUnder", "(I)I"⟩
abbrev cX2_keptBits : ByteArray := prog_4_method_9_code
def yX2_keptBits : MethodName := ⟨RX2, "keptBits", "()I"⟩
def RX3 : String := "LastLoses$Options"
def TX3 : u_T := fun k => match k with
  | 0 => ("LastLoses$Options", "positions", "LLastLoses$Positions;", true)
  | 1 => ("LastLoses$Options", "rules", "LLastLoses$Rules;", true)
  | 2 => ("LastLoses$Options", "targets", "[I", true)
  | 3 => ("LastLoses$Options", "codes", "[I", true)
  | _ => ("LastLoses$Options", "length", "I", false)
def tyX3 : Nat → FieldType := fun k => match k with
  | 0 => .object "LastLoses$Positions"
  | 1 => .object "LastLoses$Rules"
  | 2 => .array .int
  | 3 => .array .int
  | _ => .int
abbrev wsX30 : List Cond := u_ws RX3 TX3 5
theorem nmX3 : ∀ a, a < 5 → ∀ b, b < 5 → a ≠ b → (TX3 a).2.1 ≠ (TX3 b).2.1 := by decide +kernel
theorem tyX3_ok : ∀ k, k < 5 → parseFieldDescriptor (TX3 k).2.2.1 = some (tyX3 k) := by decide +kernel
abbrev cX3_init : ByteArray := prog_5_method_1_code
def yX3_init : MethodName := ⟨RX3, "<init>", "(LLastLoses$Positions;LLastLoses$Rules;)V"⟩
abbrev cX3_list : ByteArray := prog_5_method_2_code
def yX3_list : MethodName := ⟨RX3, "list", "(I)V"⟩
abbrev cX3_size : ByteArray := prog_5_method_3_code
def yX3_size : MethodName := ⟨RX3, "size", "()I"⟩
abbrev cX3_target : ByteArray := prog_5_method_4_code
def yX3_target : MethodName := ⟨RX3, "target", "(I)I"⟩
abbrev cX3_code : ByteArray := prog_5_method_5_code
def yX3_code : MethodName := ⟨RX3, "code", "(I)I"⟩
def RX4 : String := "LastLoses$Pairs"
def TX4 : u_T := fun k => match k with
  | 0 => ("LastLoses$Pairs", "rules", "LLastLoses$Rules;", true)
  | 1 => ("LastLoses$Pairs", "found", "[I", true)
  | 2 => ("LastLoses$Pairs", "slots", "[I", true)
  | 3 => ("LastLoses$Pairs", "movesTo", "[I", true)
  | 4 => ("LastLoses$Pairs", "size", "I", false)
  | _ => ("LastLoses$Pairs", "tooMany", "Z", false)
def tyX4 : Nat → FieldType := fun k => match k with
  | 0 => .object "LastLoses$Rules"
  | 1 => .array .int
  | 2 => .array .int
  | 3 => .array .int
  | 4 => .int
  | _ => .boolean
abbrev wsX40 : List Cond := u_ws RX4 TX4 6
theorem nmX4 : ∀ a, a < 6 → ∀ b, b < 6 → a ≠ b → (TX4 a).2.1 ≠ (TX4 b).2.1 := by decide +kernel
theorem tyX4_ok : ∀ k, k < 6 → parseFieldDescriptor (TX4 k).2.2.1 = some (tyX4 k) := by decide +kernel
abbrev cX4_init : ByteArray := prog_6_method_1_code
def yX4_init : MethodName := ⟨RX4, "<init>", "(LLastLoses$Rules;)V"⟩
abbrev cX4_search : ByteArray := prog_6_method_2_code
def yX4_search : MethodName := ⟨RX4, "search", "(LLastLoses$Quotient;)V"⟩
abbrev cX4_listMoves : ByteArray := prog_6_method_3_code
def yX4_listMoves : MethodName := ⟨RX4, "listMoves", "(LLastLoses$Quotient;)V"⟩
abbrev cX4_movesOf : ByteArray := prog_6_method_4_code
def yX4_movesOf : MethodName := ⟨RX4, "movesOf", "(LLastLoses$Quotient;II)I"⟩
abbrev cX4_follow : ByteArray := prog_6_method_5_code
def yX4_follow : MethodName := ⟨RX4, "follow", "(LLastLoses$Quotient;II)I"⟩
abbrev cX4_insert : ByteArray := prog_6_method_6_code
def yX4_insert : MethodName := ⟨RX4, "insert", "(I)V"⟩
abbrev cX4_append : ByteArray := prog_6_method_7_code
def yX4_append : MethodName := ⟨RX4, "append", "(II)V"⟩
abbrev cX4_allFit : ByteArray := prog_6_method_8_code
def yX4_allFit : MethodName := ⟨RX4, "allFit", "(I)Z"⟩
def RX5 : String := "LastLoses$Positions"
def TX5 : u_T := fun k => match k with
  | 0 => ("LastLoses$Positions", "ways", "[I", true)
  | 1 => ("LastLoses$Positions", "firstOf", "[I", true)
  | 2 => ("LastLoses$Positions", "joinStart", "[I", true)
  | 3 => ("LastLoses$Positions", "joined", "[I", true)
  | 4 => ("LastLoses$Positions", "partStart", "[I", true)
  | _ => ("LastLoses$Positions", "parts", "[I", true)
def tyX5 : Nat → FieldType := fun k => match k with
  | 0 => .array .int
  | 1 => .array .int
  | 2 => .array .int
  | 3 => .array .int
  | 4 => .array .int
  | _ => .array .int
abbrev wsX50 : List Cond := u_ws RX5 TX5 6
theorem nmX5 : ∀ a, a < 6 → ∀ b, b < 6 → a ≠ b → (TX5 a).2.1 ≠ (TX5 b).2.1 := by decide +kernel
theorem tyX5_ok : ∀ k, k < 6 → parseFieldDescriptor (TX5 k).2.2.1 = some (tyX5 k) := by decide +kernel
abbrev cX5_init : ByteArray := prog_7_method_1_code
def yX5_init : MethodName := ⟨RX5, "<init>", "()V"⟩
abbrev cX5_countWays : ByteArray := prog_7_method_2_code
def yX5_countWays : MethodName := ⟨RX5, "countWays", "()V"⟩
abbrev cX5_waysOf : ByteArray := prog_7_method_3_code
def yX5_waysOf : MethodName := ⟨RX5, "waysOf", "(II)I"⟩
abbrev cX5_linkParts : ByteArray := prog_7_method_4_code
def yX5_linkParts : MethodName := ⟨RX5, "linkParts", "(III)I"⟩
abbrev cX5_linkOthers : ByteArray := prog_7_method_5_code
def yX5_linkOthers : MethodName := ⟨RX5, "linkOthers", "(IIII)I"⟩
abbrev cX5_link : ByteArray := prog_7_method_6_code
def yX5_link : MethodName := ⟨RX5, "link", "(IIII)I"⟩
abbrev cX5_isPosition : ByteArray := prog_7_method_7_code
def yX5_isPosition : MethodName := ⟨RX5, "isPosition", "(I)Z"⟩
abbrev cX5_join : ByteArray := prog_7_method_8_code
def yX5_join : MethodName := ⟨RX5, "join", "(II)I"⟩
abbrev cX5_joinMove : ByteArray := prog_7_method_9_code
def yX5_joinMove : MethodName := ⟨RX5, "joinMove", "(II)I"⟩
abbrev cX5_joinAll : ByteArray := prog_7_method_10_code
def yX5_joinAll : MethodName := ⟨RX5, "joinAll", "(II)I"⟩
abbrev cX5_firstPart : ByteArray := prog_7_method_11_code
def yX5_firstPart : MethodName := ⟨RX5, "firstPart", "(I)I"⟩
abbrev cX5_endPart : ByteArray := prog_7_method_12_code
def yX5_endPart : MethodName := ⟨RX5, "endPart", "(I)I"⟩
abbrev cX5_heapOf : ByteArray := prog_7_method_13_code
def yX5_heapOf : MethodName := ⟨RX5, "heapOf", "(I)I"⟩
abbrev cX5_restOf : ByteArray := prog_7_method_14_code
def yX5_restOf : MethodName := ⟨RX5, "restOf", "(I)I"⟩
abbrev cX5_without : ByteArray := prog_7_method_15_code
def yX5_without : MethodName := ⟨RX5, "without", "(II)I"⟩
abbrev cX5_countOf : ByteArray := prog_7_method_16_code
def yX5_countOf : MethodName := ⟨RX5, "countOf", "(II)I"⟩
abbrev cX5_beansOf : ByteArray := prog_7_method_17_code
def yX5_beansOf : MethodName := ⟨RX5, "beansOf", "(I)I"⟩
abbrev cX5_tally : ByteArray := prog_7_method_18_code
def yX5_tally : MethodName := ⟨RX5, "tally", "(II)I"⟩
abbrev cX5_firstWith : ByteArray := prog_7_method_19_code
def yX5_firstWith : MethodName := ⟨RX5, "firstWith", "(I)I"⟩
abbrev cX5_biggestHeap : ByteArray := prog_7_method_20_code
def yX5_biggestHeap : MethodName := ⟨RX5, "biggestHeap", "(I)I"⟩
def RX6 : String := "LastLoses$Quotient"
def TX6 : u_T := fun k => match k with
  | 0 => ("LastLoses$Quotient", "biggest", "I", true)
  | 1 => ("LastLoses$Quotient", "positions", "LLastLoses$Positions;", true)
  | 2 => ("LastLoses$Quotient", "values", "LLastLoses$Values;", true)
  | 3 => ("LastLoses$Quotient", "words", "[I", true)
  | 4 => ("LastLoses$Quotient", "marks", "[J", true)
  | 5 => ("LastLoses$Quotient", "nexts", "[I", true)
  | 6 => ("LastLoses$Quotient", "cameAs", "[I", true)
  | 7 => ("LastLoses$Quotient", "length", "I", false)
  | 8 => ("LastLoses$Quotient", "pairCount", "I", false)
  | _ => ("LastLoses$Quotient", "pairsFit", "Z", false)
def tyX6 : Nat → FieldType := fun k => match k with
  | 0 => .int
  | 1 => .object "LastLoses$Positions"
  | 2 => .object "LastLoses$Values"
  | 3 => .array .int
  | 4 => .array .long
  | 5 => .array .int
  | 6 => .array .int
  | 7 => .int
  | 8 => .int
  | _ => .boolean
abbrev wsX60 : List Cond := u_ws RX6 TX6 10
theorem nmX6 : ∀ a, a < 10 → ∀ b, b < 10 → a ≠ b → (TX6 a).2.1 ≠ (TX6 b).2.1 := by decide +kernel
theorem tyX6_ok : ∀ k, k < 10 → parseFieldDescriptor (TX6 k).2.2.1 = some (tyX6 k) := by decide +kernel
abbrev cX6_init : ByteArray := prog_8_method_1_code
def yX6_init : MethodName := ⟨RX6, "<init>", "(ILLastLoses$Positions;LLastLoses$Values;)V"⟩
abbrev cX6_forget : ByteArray := prog_8_method_2_code
def yX6_forget : MethodName := ⟨RX6, "forget", "()V"⟩
abbrev cX6_build : ByteArray := prog_8_method_3_code
def yX6_build : MethodName := ⟨RX6, "build", "()V"⟩
abbrev cX6_elementFor : ByteArray := prog_8_method_4_code
def yX6_elementFor : MethodName := ⟨RX6, "elementFor", "(IJ)I"⟩
abbrev cX6_size : ByteArray := prog_8_method_5_code
def yX6_size : MethodName := ⟨RX6, "size", "()I"⟩
abbrev cX6_heaps : ByteArray := prog_8_method_6_code
def yX6_heaps : MethodName := ⟨RX6, "heaps", "()I"⟩
abbrev cX6_isKnown : ByteArray := prog_8_method_7_code
def yX6_isKnown : MethodName := ⟨RX6, "isKnown", "()Z"⟩
abbrev cX6_has : ByteArray := prog_8_method_8_code
def yX6_has : MethodName := ⟨RX6, "has", "(I)Z"⟩
abbrev cX6_wordOf : ByteArray := prog_8_method_9_code
def yX6_wordOf : MethodName := ⟨RX6, "wordOf", "(I)I"⟩
abbrev cX6_nextOf : ByteArray := prog_8_method_10_code
def yX6_nextOf : MethodName := ⟨RX6, "nextOf", "(II)I"⟩
abbrev cX6_product : ByteArray := prog_8_method_11_code
def yX6_product : MethodName := ⟨RX6, "product", "(II)I"⟩
abbrev cX6_setOf : ByteArray := prog_8_method_12_code
def yX6_setOf : MethodName := ⟨RX6, "setOf", "(I)I"⟩
abbrev cX6_lostSet : ByteArray := prog_8_method_13_code
def yX6_lostSet : MethodName := ⟨RX6, "lostSet", "()I"⟩
abbrev cX6_reachOf : ByteArray := prog_8_method_14_code
def yX6_reachOf : MethodName := ⟨RX6, "reachOf", "(I)I"⟩
abbrev cX6_kernel : ByteArray := prog_8_method_15_code
def yX6_kernel : MethodName := ⟨RX6, "kernel", "()I"⟩
abbrev cX6_units : ByteArray := prog_8_method_16_code
def yX6_units : MethodName := ⟨RX6, "units", "()I"⟩
abbrev cX6_idle : ByteArray := prog_8_method_17_code
def yX6_idle : MethodName := ⟨RX6, "idle", "()I"⟩
abbrev cX6_isSteady : ByteArray := prog_8_method_18_code
def yX6_isSteady : MethodName := ⟨RX6, "isSteady", "()Z"⟩
abbrev cX6_powerOf : ByteArray := prog_8_method_19_code
def yX6_powerOf : MethodName := ⟨RX6, "powerOf", "(II)I"⟩
abbrev cX6_placeOf : ByteArray := prog_8_method_20_code
def yX6_placeOf : MethodName := ⟨RX6, "placeOf", "(LLastLoses$Tape;)I"⟩
abbrev cX6_isAlike : ByteArray := prog_8_method_21_code
def yX6_isAlike : MethodName := ⟨RX6, "isAlike", "(LLastLoses$Quotient;)Z"⟩
def RX7 : String := "LastLoses$Reader"
def TX7 : u_T := fun k => match k with
  | 0 => ("LastLoses$Reader", "tape", "LLastLoses$Tape;", true)
  | 1 => ("LastLoses$Reader", "digits", "[I", true)
  | 2 => ("LastLoses$Reader", "kinds", "[I", true)
  | 3 => ("LastLoses$Reader", "heaps", "[I", true)
  | 4 => ("LastLoses$Reader", "seconds", "[I", true)
  | 5 => ("LastLoses$Reader", "thirds", "[I", true)
  | 6 => ("LastLoses$Reader", "digitCount", "I", false)
  | 7 => ("LastLoses$Reader", "lineCount", "I", false)
  | 8 => ("LastLoses$Reader", "at", "I", false)
  | _ => ("LastLoses$Reader", "fault", "I", false)
def tyX7 : Nat → FieldType := fun k => match k with
  | 0 => .object "LastLoses$Tape"
  | 1 => .array .int
  | 2 => .array .int
  | 3 => .array .int
  | 4 => .array .int
  | 5 => .array .int
  | 6 => .int
  | 7 => .int
  | 8 => .int
  | _ => .int
abbrev wsX70 : List Cond := u_ws RX7 TX7 10
theorem nmX7 : ∀ a, a < 10 → ∀ b, b < 10 → a ≠ b → (TX7 a).2.1 ≠ (TX7 b).2.1 := by decide +kernel
theorem tyX7_ok : ∀ k, k < 10 → parseFieldDescriptor (TX7 k).2.2.1 = some (tyX7 k) := by decide +kernel
abbrev cX7_init : ByteArray := prog_9_method_1_code
def yX7_init : MethodName := ⟨RX7, "<init>", "(LLastLoses$Tape;)V"⟩
abbrev cX7_readText : ByteArray := prog_9_method_2_code
def yX7_readText : MethodName := ⟨RX7, "readText", "()I"⟩
abbrev cX7_readLine : ByteArray := prog_9_method_3_code
def yX7_readLine : MethodName := ⟨RX7, "readLine", "()V"⟩
abbrev cX7_readKind : ByteArray := prog_9_method_4_code
def yX7_readKind : MethodName := ⟨RX7, "readKind", "()I"⟩
abbrev cX7_readCode : ByteArray := prog_9_method_5_code
def yX7_readCode : MethodName := ⟨RX7, "readCode", "()V"⟩
abbrev cX7_readDigit : ByteArray := prog_9_method_6_code
def yX7_readDigit : MethodName := ⟨RX7, "readDigit", "(I)V"⟩
abbrev cX7_readAlso : ByteArray := prog_9_method_7_code
def yX7_readAlso : MethodName := ⟨RX7, "readAlso", "()V"⟩
abbrev cX7_readNever : ByteArray := prog_9_method_8_code
def yX7_readNever : MethodName := ⟨RX7, "readNever", "()V"⟩
abbrev cX7_store : ByteArray := prog_9_method_9_code
def yX7_store : MethodName := ⟨RX7, "store", "(III)V"⟩
abbrev cX7_readNumber : ByteArray := prog_9_method_10_code
def yX7_readNumber : MethodName := ⟨RX7, "readNumber", "(II)I"⟩
abbrev cX7_passWord : ByteArray := prog_9_method_11_code
def yX7_passWord : MethodName := ⟨RX7, "passWord", "(Ljava/lang/String;)Z"⟩
abbrev cX7_passSemicolon : ByteArray := prog_9_method_12_code
def yX7_passSemicolon : MethodName := ⟨RX7, "passSemicolon", "()Z"⟩
abbrev cX7_skipBlanks : ByteArray := prog_9_method_13_code
def yX7_skipBlanks : MethodName := ⟨RX7, "skipBlanks", "()V"⟩
abbrev cX7_fail : ByteArray := prog_9_method_14_code
def yX7_fail : MethodName := ⟨RX7, "fail", "(II)V"⟩
abbrev cX7_isDigit : ByteArray := prog_9_method_15_code
def yX7_isDigit : MethodName := ⟨RX7, "isDigit", "(I)Z"⟩
abbrev cX7_isLetter : ByteArray := prog_9_method_16_code
def yX7_isLetter : MethodName := ⟨RX7, "isLetter", "(I)Z"⟩
def RX8 : String := "LastLoses$Rules"
def TX8 : u_T := fun k => match k with
  | 0 => ("LastLoses$Rules", "digits", "[I", true)
  | 1 => ("LastLoses$Rules", "banned", "[I", true)
  | 2 => ("LastLoses$Rules", "granted", "[I", true)
  | 3 => ("LastLoses$Rules", "moveStart", "[I", true)
  | 4 => ("LastLoses$Rules", "packedMoves", "[I", true)
  | 5 => ("LastLoses$Rules", "nimbers", "[I", true)
  | 6 => ("LastLoses$Rules", "leasts", "[I", true)
  | 7 => ("LastLoses$Rules", "mosts", "[I", true)
  | 8 => ("LastLoses$Rules", "digitTotal", "I", false)
  | _ => ("LastLoses$Rules", "extras", "I", false)
def tyX8 : Nat → FieldType := fun k => match k with
  | 0 => .array .int
  | 1 => .array .int
  | 2 => .array .int
  | 3 => .array .int
  | 4 => .array .int
  | 5 => .array .int
  | 6 => .array .int
  | 7 => .array .int
  | 8 => .int
  | _ => .int
abbrev wsX80 : List Cond := u_ws RX8 TX8 10
theorem nmX8 : ∀ a, a < 10 → ∀ b, b < 10 → a ≠ b → (TX8 a).2.1 ≠ (TX8 b).2.1 := by decide +kernel
theorem tyX8_ok : ∀ k, k < 10 → parseFieldDescriptor (TX8 k).2.2.1 = some (tyX8 k) := by decide +kernel
abbrev cX8_init : ByteArray := prog_10_method_1_code
def yX8_init : MethodName := ⟨RX8, "<init>", "()V"⟩
abbrev cX8_learn : ByteArray := prog_10_method_2_code
def yX8_learn : MethodName := ⟨RX8, "learn", "(LLastLoses$Reader;)V"⟩
abbrev cX8_learnLine : ByteArray := prog_10_method_3_code
def yX8_learnLine : MethodName := ⟨RX8, "learnLine", "(IIII)V"⟩
abbrev cX8_listMoves : ByteArray := prog_10_method_4_code
def yX8_listMoves : MethodName := ⟨RX8, "listMoves", "()V"⟩
abbrev cX8_allows : ByteArray := prog_10_method_5_code
def yX8_allows : MethodName := ⟨RX8, "allows", "(III)Z"⟩
abbrev cX8_judgeHeap : ByteArray := prog_10_method_6_code
def yX8_judgeHeap : MethodName := ⟨RX8, "judgeHeap", "(I)V"⟩
abbrev cX8_digitCount : ByteArray := prog_10_method_7_code
def yX8_digitCount : MethodName := ⟨RX8, "digitCount", "()I"⟩
abbrev cX8_extraLines : ByteArray := prog_10_method_8_code
def yX8_extraLines : MethodName := ⟨RX8, "extraLines", "()I"⟩
abbrev cX8_digitFor : ByteArray := prog_10_method_9_code
def yX8_digitFor : MethodName := ⟨RX8, "digitFor", "(I)I"⟩
abbrev cX8_firstMove : ByteArray := prog_10_method_10_code
def yX8_firstMove : MethodName := ⟨RX8, "firstMove", "(I)I"⟩
abbrev cX8_packedAt : ByteArray := prog_10_method_11_code
def yX8_packedAt : MethodName := ⟨RX8, "packedAt", "(I)I"⟩
abbrev cX8_moveCount : ByteArray := prog_10_method_12_code
def yX8_moveCount : MethodName := ⟨RX8, "moveCount", "(I)I"⟩
abbrev cX8_moveAt : ByteArray := prog_10_method_13_code
def yX8_moveAt : MethodName := ⟨RX8, "moveAt", "(II)I"⟩
abbrev cX8_isMove : ByteArray := prog_10_method_14_code
def yX8_isMove : MethodName := ⟨RX8, "isMove", "(III)Z"⟩
abbrev cX8_nimberOf : ByteArray := prog_10_method_15_code
def yX8_nimberOf : MethodName := ⟨RX8, "nimberOf", "(I)I"⟩
abbrev cX8_leastOf : ByteArray := prog_10_method_16_code
def yX8_leastOf : MethodName := ⟨RX8, "leastOf", "(I)I"⟩
abbrev cX8_mostOf : ByteArray := prog_10_method_17_code
def yX8_mostOf : MethodName := ⟨RX8, "mostOf", "(I)I"⟩
def RX9 : String := "LastLoses$Tape"
def TX9 : u_T := fun k => match k with
  | 0 => ("LastLoses$Tape", "bytes", "[I", true)
  | _ => ("LastLoses$Tape", "length", "I", false)
def tyX9 : Nat → FieldType := fun k => match k with
  | 0 => .array .int
  | _ => .int
abbrev wsX90 : List Cond := u_ws RX9 TX9 2
theorem nmX9 : ∀ a, a < 2 → ∀ b, b < 2 → a ≠ b → (TX9 a).2.1 ≠ (TX9 b).2.1 := by decide +kernel
theorem tyX9_ok : ∀ k, k < 2 → parseFieldDescriptor (TX9 k).2.2.1 = some (tyX9 k) := by decide +kernel
abbrev cX9_init : ByteArray := prog_11_method_1_code
def yX9_init : MethodName := ⟨RX9, "<init>", "()V"⟩
abbrev cX9_hasRoom : ByteArray := prog_11_method_2_code
def yX9_hasRoom : MethodName := ⟨RX9, "hasRoom", "()Z"⟩
abbrev cX9_append : ByteArray := prog_11_method_3_code
def yX9_append : MethodName := ⟨RX9, "append", "(I)V"⟩
abbrev cX9_cutTo : ByteArray := prog_11_method_4_code
def yX9_cutTo : MethodName := ⟨RX9, "cutTo", "(I)Z"⟩
abbrev cX9_size : ByteArray := prog_11_method_5_code
def yX9_size : MethodName := ⟨RX9, "size", "()I"⟩
abbrev cX9_at : ByteArray := prog_11_method_6_code
def yX9_at : MethodName := ⟨RX9, "at", "(I)I"⟩
def RX10 : String := "LastLoses$Values"
def TX10 : u_T := fun k => match k with
  | 0 => ("LastLoses$Values", "positions", "LLastLoses$Positions;", true)
  | 1 => ("LastLoses$Values", "rules", "LLastLoses$Rules;", true)
  | 2 => ("LastLoses$Values", "options", "LLastLoses$Options;", true)
  | 3 => ("LastLoses$Values", "outcomes", "[I", true)
  | 4 => ("LastLoses$Values", "genera", "[I", true)
  | 5 => ("LastLoses$Values", "seen", "[I", true)
  | 6 => ("LastLoses$Values", "marks", "[J", true)
  | 7 => ("LastLoses$Values", "outcomesKnown", "I", false)
  | _ => ("LastLoses$Values", "generaKnown", "I", false)
def tyX10 : Nat → FieldType := fun k => match k with
  | 0 => .object "LastLoses$Positions"
  | 1 => .object "LastLoses$Rules"
  | 2 => .object "LastLoses$Options"
  | 3 => .array .int
  | 4 => .array .int
  | 5 => .array .int
  | 6 => .array .long
  | 7 => .int
  | _ => .int
abbrev wsX100 : List Cond := u_ws RX10 TX10 9
theorem nmX10 : ∀ a, a < 9 → ∀ b, b < 9 → a ≠ b → (TX10 a).2.1 ≠ (TX10 b).2.1 := by decide +kernel
theorem tyX10_ok : ∀ k, k < 9 → parseFieldDescriptor (TX10 k).2.2.1 = some (tyX10 k) := by decide +kernel
abbrev cX10_init : ByteArray := prog_12_method_1_code
def yX10_init : MethodName := ⟨RX10, "<init>", "(LLastLoses$Positions;LLastLoses$Rules;)V"⟩
abbrev cX10_forget : ByteArray := prog_12_method_2_code
def yX10_forget : MethodName := ⟨RX10, "forget", "()V"⟩
abbrev cX10_settleTo : ByteArray := prog_12_method_3_code
def yX10_settleTo : MethodName := ⟨RX10, "settleTo", "(I)V"⟩
abbrev cX10_judgeOptions : ByteArray := prog_12_method_4_code
def yX10_judgeOptions : MethodName := ⟨RX10, "judgeOptions", "()I"⟩
abbrev cX10_loses : ByteArray := prog_12_method_5_code
def yX10_loses : MethodName := ⟨RX10, "loses", "(I)Z"⟩
abbrev cX10_remoteOf : ByteArray := prog_12_method_6_code
def yX10_remoteOf : MethodName := ⟨RX10, "remoteOf", "(I)I"⟩
abbrev cX10_countLosers : ByteArray := prog_12_method_7_code
def yX10_countLosers : MethodName := ⟨RX10, "countLosers", "(I)I"⟩
abbrev cX10_firstLoser : ByteArray := prog_12_method_8_code
def yX10_firstLoser : MethodName := ⟨RX10, "firstLoser", "(I)I"⟩
abbrev cX10_settleGeneraTo : ByteArray := prog_12_method_9_code
def yX10_settleGeneraTo : MethodName := ⟨RX10, "settleGeneraTo", "(I)V"⟩
abbrev cX10_judgeGenera : ByteArray := prog_12_method_10_code
def yX10_judgeGenera : MethodName := ⟨RX10, "judgeGenera", "()I"⟩
abbrev cX10_genusOf : ByteArray := prog_12_method_11_code
def yX10_genusOf : MethodName := ⟨RX10, "genusOf", "(II)I"⟩
abbrev cX10_isTame : ByteArray := prog_12_method_12_code
def yX10_isTame : MethodName := ⟨RX10, "isTame", "(I)Z"⟩
abbrev cX10_nimberOf : ByteArray := prog_12_method_13_code
def yX10_nimberOf : MethodName := ⟨RX10, "nimberOf", "(I)I"⟩
abbrev cX10_isLikeNim : ByteArray := prog_12_method_14_code
def yX10_isLikeNim : MethodName := ⟨RX10, "isLikeNim", "(I)Z"⟩
abbrev cX10_lengthOf : ByteArray := prog_12_method_15_code
def yX10_lengthOf : MethodName := ⟨RX10, "lengthOf", "(IZ)I"⟩
abbrev cX10_countWinning : ByteArray := prog_12_method_16_code
def yX10_countWinning : MethodName := ⟨RX10, "countWinning", "(I)I"⟩
abbrev cX10_stateOf : ByteArray := prog_12_method_17_code
def yX10_stateOf : MethodName := ⟨RX10, "stateOf", "(II)I"⟩
abbrev cX10_hasMark : ByteArray := prog_12_method_18_code
def yX10_hasMark : MethodName := ⟨RX10, "hasMark", "(I)Z"⟩
abbrev cX10_markOf : ByteArray := prog_12_method_19_code
def yX10_markOf : MethodName := ⟨RX10, "markOf", "(I)J"⟩
abbrev cX10_testsOf : ByteArray := prog_12_method_20_code
def yX10_testsOf : MethodName := ⟨RX10, "testsOf", "(I)J"⟩
abbrev cX10_firstBetween : ByteArray := prog_12_method_21_code
def yX10_firstBetween : MethodName := ⟨RX10, "firstBetween", "(II)I"⟩
abbrev cX10_firstAlike : ByteArray := prog_12_method_22_code
def yX10_firstAlike : MethodName := ⟨RX10, "firstAlike", "(I)I"⟩
def RX11 : String := "LastLoses"
def TX11 : u_T := fun k => match k with
  | 0 => ("LastLoses", "tape", "LLastLoses$Tape;", true)
  | 1 => ("LastLoses", "reader", "LLastLoses$Reader;", true)
  | 2 => ("LastLoses", "board", "LLastLoses$Board;", false)
  | _ => ("LastLoses", "x", "I", false)
def tyX11 : Nat → FieldType := fun k => match k with
  | 0 => .object "LastLoses$Tape"
  | 1 => .object "LastLoses$Reader"
  | 2 => .object "LastLoses$Board"
  | _ => .int
abbrev wsX110 : List Cond := u_ws RX11 TX11 4
theorem nmX11 : ∀ a, a < 4 → ∀ b, b < 4 → a ≠ b → (TX11 a).2.1 ≠ (TX11 b).2.1 := by decide +kernel
theorem tyX11_ok : ∀ k, k < 4 → parseFieldDescriptor (TX11 k).2.2.1 = some (tyX11 k) := by decide +kernel
abbrev cX11_init : ByteArray := prog_1_method_1_code
def yX11_init : MethodName := ⟨RX11, "<init>", "()V"⟩
abbrev cX11_feed : ByteArray := prog_1_method_2_code
def yX11_feed : MethodName := ⟨RX11, "feed", "(IIIII)I"⟩
abbrev cX11_end : ByteArray := prog_1_method_3_code
def yX11_end : MethodName := ⟨RX11, "end", "(I)I"⟩
abbrev cX11_game : ByteArray := prog_1_method_4_code
def yX11_game : MethodName := ⟨RX11, "game", "()I"⟩
abbrev cX11_moves : ByteArray := prog_1_method_5_code
def yX11_moves : MethodName := ⟨RX11, "moves", "(I)I"⟩
abbrev cX11_option : ByteArray := prog_1_method_6_code
def yX11_option : MethodName := ⟨RX11, "option", "(III)I"⟩
abbrev cX11_nimber : ByteArray := prog_1_method_7_code
def yX11_nimber : MethodName := ⟨RX11, "nimber", "(I)I"⟩
abbrev cX11_period : ByteArray := prog_1_method_8_code
def yX11_period : MethodName := ⟨RX11, "period", "(I)I"⟩
abbrev cX11_odd : ByteArray := prog_1_method_9_code
def yX11_odd : MethodName := ⟨RX11, "odd", "(I)I"⟩
abbrev cX11_wild : ByteArray := prog_1_method_10_code
def yX11_wild : MethodName := ⟨RX11, "wild", "(I)I"⟩
abbrev cX11_put : ByteArray := prog_1_method_11_code
def yX11_put : MethodName := ⟨RX11, "put", "(I)I"⟩
abbrev cX11_move : ByteArray := prog_1_method_12_code
def yX11_move : MethodName := ⟨RX11, "move", "(III)I"⟩
abbrev cX11_reply : ByteArray := prog_1_method_13_code
def yX11_reply : MethodName := ⟨RX11, "reply", "()I"⟩
abbrev cX11_clear : ByteArray := prog_1_method_14_code
def yX11_clear : MethodName := ⟨RX11, "clear", "()I"⟩
abbrev cX11_undo : ByteArray := prog_1_method_15_code
def yX11_undo : MethodName := ⟨RX11, "undo", "()I"⟩
abbrev cX11_hand : ByteArray := prog_1_method_16_code
def yX11_hand : MethodName := ⟨RX11, "hand", "(I)I"⟩
abbrev cX11_state : ByteArray := prog_1_method_17_code
def yX11_state : MethodName := ⟨RX11, "state", "(I)I"⟩
abbrev cX11_genus : ByteArray := prog_1_method_18_code
def yX11_genus : MethodName := ⟨RX11, "genus", "(I)I"⟩
abbrev cX11_line : ByteArray := prog_1_method_19_code
def yX11_line : MethodName := ⟨RX11, "line", "(I)I"⟩
abbrev cX11_losers : ByteArray := prog_1_method_20_code
def yX11_losers : MethodName := ⟨RX11, "losers", "(II)I"⟩
abbrev cX11_keep : ByteArray := prog_1_method_21_code
def yX11_keep : MethodName := ⟨RX11, "keep", "(I)I"⟩
abbrev cX11_apart : ByteArray := prog_1_method_22_code
def yX11_apart : MethodName := ⟨RX11, "apart", "(II)I"⟩
abbrev cX11_simplest : ByteArray := prog_1_method_23_code
def yX11_simplest : MethodName := ⟨RX11, "simplest", "(I)I"⟩
abbrev cX11_answers : ByteArray := prog_1_method_24_code
def yX11_answers : MethodName := ⟨RX11, "answers", "(I)I"⟩
abbrev cX11_draws : ByteArray := prog_1_method_25_code
def yX11_draws : MethodName := ⟨RX11, "draws", "(I)I"⟩
abbrev cX11_games : ByteArray := prog_1_method_26_code
def yX11_games : MethodName := ⟨RX11, "games", "(II)I"⟩
abbrev cX11_elements : ByteArray := prog_1_method_27_code
def yX11_elements : MethodName := ⟨RX11, "elements", "(I)I"⟩
abbrev cX11_word : ByteArray := prog_1_method_28_code
def yX11_word : MethodName := ⟨RX11, "word", "(III)I"⟩
abbrev cX11_next : ByteArray := prog_1_method_29_code
def yX11_next : MethodName := ⟨RX11, "next", "(III)I"⟩
abbrev cX11_times : ByteArray := prog_1_method_30_code
def yX11_times : MethodName := ⟨RX11, "times", "(III)I"⟩
abbrev cX11_sets : ByteArray := prog_1_method_31_code
def yX11_sets : MethodName := ⟨RX11, "sets", "(II)I"⟩
abbrev cX11_pairs : ByteArray := prog_1_method_32_code
def yX11_pairs : MethodName := ⟨RX11, "pairs", "(I)I"⟩
abbrev cX11_proved : ByteArray := prog_1_method_33_code
def yX11_proved : MethodName := ⟨RX11, "proved", "(I)I"⟩
abbrev cX11_stays : ByteArray := prog_1_method_34_code
def yX11_stays : MethodName := ⟨RX11, "stays", "(I)I"⟩
abbrev cX11_power : ByteArray := prog_1_method_35_code
def yX11_power : MethodName := ⟨RX11, "power", "(III)I"⟩
abbrev cX11_place : ByteArray := prog_1_method_36_code
def yX11_place : MethodName := ⟨RX11, "place", "(I)I"⟩
abbrev cX11_count : ByteArray := prog_1_method_37_code
def yX11_count : MethodName := ⟨RX11, "count", "(I)I"⟩
abbrev cX11_isHeap : ByteArray := prog_1_method_38_code
def yX11_isHeap : MethodName := ⟨RX11, "isHeap", "(I)Z"⟩
abbrev cX11_isHeapOrAll : ByteArray := prog_1_method_39_code
def yX11_isHeapOrAll : MethodName := ⟨RX11, "isHeapOrAll", "(I)Z"⟩
abbrev cX11_tallyOrNoSuch : ByteArray := prog_1_method_40_code
def yX11_tallyOrNoSuch : MethodName := ⟨RX11, "tallyOrNoSuch", "(II)I"⟩
abbrev cX11_quotientOf : ByteArray := prog_1_method_41_code
def yX11_quotientOf : MethodName := ⟨RX11, "quotientOf", "(I)LLastLoses$Quotient;"⟩
abbrev cX11_leastMissing : ByteArray := prog_1_method_42_code
def yX11_leastMissing : MethodName := ⟨RX11, "leastMissing", "(I)I"⟩
def RX12 : String := "LastLosesModel"
def TX12 : u_T := fun k => match k with
  | 0 => ("LastLosesModel", "tape", "[B", true)
  | 1 => ("LastLosesModel", "taped", "I", false)
  | 2 => ("LastLosesModel", "at", "I", false)
  | 3 => ("LastLosesModel", "wrong", "I", false)
  | 4 => ("LastLosesModel", "number", "I", false)
  | 5 => ("LastLosesModel", "words", "[B", true)
  | 6 => ("LastLosesModel", "readDigits", "I", false)
  | 7 => ("LastLosesModel", "readLines", "I", false)
  | 8 => ("LastLosesModel", "readCode", "[I", true)
  | 9 => ("LastLosesModel", "readAlso", "[Z", true)
  | 10 => ("LastLosesModel", "readNever", "[Z", true)
  | 11 => ("LastLosesModel", "digits", "I", false)
  | 12 => ("LastLosesModel", "lines", "I", false)
  | 13 => ("LastLosesModel", "isGame", "Z", false)
  | 14 => ("LastLosesModel", "code", "[I", true)
  | 15 => ("LastLosesModel", "also", "[Z", true)
  | 16 => ("LastLosesModel", "never", "[Z", true)
  | 17 => ("LastLosesModel", "linesRead", "I", false)
  | 18 => ("LastLosesModel", "moveOf", "[I", true)
  | 19 => ("LastLosesModel", "moveMany", "[I", true)
  | 20 => ("LastLosesModel", "nimberOf", "[I", true)
  | 21 => ("LastLosesModel", "isTaken", "[Z", true)
  | 22 => ("LastLosesModel", "ways", "[I", true)
  | 23 => ("LastLosesModel", "begins", "[I", true)
  | 24 => ("LastLosesModel", "all", "I", false)
  | 25 => ("LastLosesModel", "loses", "[Z", true)
  | 26 => ("LastLosesModel", "remote", "[I", true)
  | 27 => ("LastLosesModel", "fewest", "[I", true)
  | 28 => ("LastLosesModel", "most", "[I", true)
  | 29 => ("LastLosesModel", "back", "[I", true)
  | 30 => ("LastLosesModel", "here", "[I", true)
  | 31 => ("LastLosesModel", "to", "[I", true)
  | 32 => ("LastLosesModel", "toMany", "I", false)
  | 33 => ("LastLosesModel", "twoMany", "[I", true)
  | 34 => ("LastLosesModel", "twoTo", "[I", true)
  | 35 => ("LastLosesModel", "hand", "[I", true)
  | 36 => ("LastLosesModel", "was", "[I", true)
  | 37 => ("LastLosesModel", "undone", "I", false)
  | 38 => ("LastLosesModel", "walk", "[I", true)
  | 39 => ("LastLosesModel", "kept", "[I", true)
  | 40 => ("LastLosesModel", "keptSet", "I", false)
  | 41 => ("LastLosesModel", "other", "[I", true)
  | 42 => ("LastLosesModel", "test", "[I", true)
  | 43 => ("LastLosesModel", "x", "I", false)
  | 44 => ("LastLosesModel", "drawX", "J", false)
  | 45 => ("LastLosesModel", "isLaid", "[Z", true)
  | 46 => ("LastLosesModel", "elementMany", "[I", true)
  | 47 => ("LastLosesModel", "wordOf", "[I", true)
  | 48 => ("LastLosesModel", "nextOf", "[I", true)
  | 49 => ("LastLosesModel", "lostOf", "[I", true)
  | 50 => ("LastLosesModel", "pairMany", "[I", true)
  | 51 => ("LastLosesModel", "provedAs", "[I", true)
  | 52 => ("LastLosesModel", "marks", "[J", true)
  | 53 => ("LastLosesModel", "tryWord", "[I", true)
  | 54 => ("LastLosesModel", "pairElement", "[I", true)
  | 55 => ("LastLosesModel", "pairSet", "[I", true)
  | _ => ("LastLosesModel", "cameAs", "[I", true)
def tyX12 : Nat → FieldType := fun k => match k with
  | 0 => .array .byte
  | 1 => .int
  | 2 => .int
  | 3 => .int
  | 4 => .int
  | 5 => .array .byte
  | 6 => .int
  | 7 => .int
  | 8 => .array .int
  | 9 => .array .boolean
  | 10 => .array .boolean
  | 11 => .int
  | 12 => .int
  | 13 => .boolean
  | 14 => .array .int
  | 15 => .array .boolean
  | 16 => .array .boolean
  | 17 => .int
  | 18 => .array .int
  | 19 => .array .int
  | 20 => .array .int
  | 21 => .array .boolean
  | 22 => .array .int
  | 23 => .array .int
  | 24 => .int
  | 25 => .array .boolean
  | 26 => .array .int
  | 27 => .array .int
  | 28 => .array .int
  | 29 => .array .int
  | 30 => .array .int
  | 31 => .array .int
  | 32 => .int
  | 33 => .array .int
  | 34 => .array .int
  | 35 => .array .int
  | 36 => .array .int
  | 37 => .int
  | 38 => .array .int
  | 39 => .array .int
  | 40 => .int
  | 41 => .array .int
  | 42 => .array .int
  | 43 => .int
  | 44 => .long
  | 45 => .array .boolean
  | 46 => .array .int
  | 47 => .array .int
  | 48 => .array .int
  | 49 => .array .int
  | 50 => .array .int
  | 51 => .array .int
  | 52 => .array .long
  | 53 => .array .int
  | 54 => .array .int
  | 55 => .array .int
  | _ => .array .int
abbrev wsX120 : List Cond := u_ws RX12 TX12 57
theorem nmX12 : ∀ a, a < 57 → ∀ b, b < 57 → a ≠ b → (TX12 a).2.1 ≠ (TX12 b).2.1 := by decide +kernel
theorem tyX12_ok : ∀ k, k < 57 → parseFieldDescriptor (TX12 k).2.2.1 = some (tyX12 k) := by decide +kernel
abbrev cX12_init : ByteArray := prog_14_method_1_code
def yX12_init : MethodName := ⟨RX12, "<init>", "()V"⟩
abbrev cX12_isIn : ByteArray := prog_14_method_2_code
def yX12_isIn : MethodName := ⟨RX12, "isIn", "(JJJ)Z"⟩
abbrev cX12_has : ByteArray := prog_14_method_3_code
def yX12_has : MethodName := ⟨RX12, "has", "(II)Z"⟩
abbrev cX12_feed : ByteArray := prog_14_method_4_code
def yX12_feed : MethodName := ⟨RX12, "feed", "(IIIII)I"⟩
abbrev cX12_end : ByteArray := prog_14_method_5_code
def yX12_end : MethodName := ⟨RX12, "end", "(I)I"⟩
abbrev cX12_fails : ByteArray := prog_14_method_6_code
def yX12_fails : MethodName := ⟨RX12, "fails", "(II)Z"⟩
abbrev cX12_byteAt : ByteArray := prog_14_method_7_code
def yX12_byteAt : MethodName := ⟨RX12, "byteAt", "(I)I"⟩
abbrev cX12_next : ByteArray := prog_14_method_8_code
def yX12_next : MethodName := ⟨RX12, "next", "()I"⟩
abbrev cX12_isDigit : ByteArray := prog_14_method_9_code
def yX12_isDigit : MethodName := ⟨RX12, "isDigit", "(I)Z"⟩
abbrev cX12_isLetter : ByteArray := prog_14_method_10_code
def yX12_isLetter : MethodName := ⟨RX12, "isLetter", "(I)Z"⟩
abbrev cX12_takesSign : ByteArray := prog_14_method_11_code
def yX12_takesSign : MethodName := ⟨RX12, "takesSign", "(I)Z"⟩
abbrev cX12_wordHere : ByteArray := prog_14_method_12_code
def yX12_wordHere : MethodName := ⟨RX12, "wordHere", "()I"⟩
abbrev cX12_passWord : ByteArray := prog_14_method_13_code
def yX12_passWord : MethodName := ⟨RX12, "passWord", "()V"⟩
abbrev cX12_reads : ByteArray := prog_14_method_14_code
def yX12_reads : MethodName := ⟨RX12, "reads", "(II)Z"⟩
abbrev cX12_readsOctal : ByteArray := prog_14_method_15_code
def yX12_readsOctal : MethodName := ⟨RX12, "readsOctal", "()Z"⟩
abbrev cX12_readsAlso : ByteArray := prog_14_method_16_code
def yX12_readsAlso : MethodName := ⟨RX12, "readsAlso", "()Z"⟩
abbrev cX12_readsNever : ByteArray := prog_14_method_17_code
def yX12_readsNever : MethodName := ⟨RX12, "readsNever", "()Z"⟩
abbrev cX12_readsLine : ByteArray := prog_14_method_18_code
def yX12_readsLine : MethodName := ⟨RX12, "readsLine", "(I)Z"⟩
abbrev cX12_readsAll : ByteArray := prog_14_method_19_code
def yX12_readsAll : MethodName := ⟨RX12, "readsAll", "()Z"⟩
abbrev cX12_game : ByteArray := prog_14_method_20_code
def yX12_game : MethodName := ⟨RX12, "game", "()I"⟩
abbrev cX12_isByCode : ByteArray := prog_14_method_21_code
def yX12_isByCode : MethodName := ⟨RX12, "isByCode", "(III)Z"⟩
abbrev cX12_laysMoves : ByteArray := prog_14_method_22_code
def yX12_laysMoves : MethodName := ⟨RX12, "laysMoves", "()V"⟩
abbrev cX12_leastFree : ByteArray := prog_14_method_23_code
def yX12_leastFree : MethodName := ⟨RX12, "leastFree", "()I"⟩
abbrev cX12_takesNone : ByteArray := prog_14_method_24_code
def yX12_takesNone : MethodName := ⟨RX12, "takesNone", "(I)V"⟩
abbrev cX12_laysNimbers : ByteArray := prog_14_method_25_code
def yX12_laysNimbers : MethodName := ⟨RX12, "laysNimbers", "()V"⟩
abbrev cX12_countsWays : ByteArray := prog_14_method_26_code
def yX12_countsWays : MethodName := ⟨RX12, "countsWays", "()V"⟩
abbrev cX12_beansOf : ByteArray := prog_14_method_27_code
def yX12_beansOf : MethodName := ⟨RX12, "beansOf", "([I)I"⟩
abbrev cX12_numberOf : ByteArray := prog_14_method_28_code
def yX12_numberOf : MethodName := ⟨RX12, "numberOf", "([I)I"⟩
abbrev cX12_laysHeaps : ByteArray := prog_14_method_29_code
def yX12_laysHeaps : MethodName := ⟨RX12, "laysHeaps", "(I[I)V"⟩
abbrev cX12_puts : ByteArray := prog_14_method_30_code
def yX12_puts : MethodName := ⟨RX12, "puts", "([III)V"⟩
abbrev cX12_changes : ByteArray := prog_14_method_31_code
def yX12_changes : MethodName := ⟨RX12, "changes", "([IIII)V"⟩
abbrev cX12_behind : ByteArray := prog_14_method_32_code
def yX12_behind : MethodName := ⟨RX12, "behind", "([III)I"⟩
abbrev cX12_gathersBehind : ByteArray := prog_14_method_33_code
def yX12_gathersBehind : MethodName := ⟨RX12, "gathersBehind", "()V"⟩
abbrev cX12_laysPositions : ByteArray := prog_14_method_34_code
def yX12_laysPositions : MethodName := ⟨RX12, "laysPositions", "()V"⟩
abbrev cX12_laysOne : ByteArray := prog_14_method_35_code
def yX12_laysOne : MethodName := ⟨RX12, "laysOne", "(I)V"⟩
abbrev cX12_laysBack : ByteArray := prog_14_method_36_code
def yX12_laysBack : MethodName := ⟨RX12, "laysBack", "(II)V"⟩
abbrev cX12_nimberOfHeaps : ByteArray := prog_14_method_37_code
def yX12_nimberOfHeaps : MethodName := ⟨RX12, "nimberOfHeaps", "([I)I"⟩
abbrev cX12_genusOf : ByteArray := prog_14_method_38_code
def yX12_genusOf : MethodName := ⟨RX12, "genusOf", "(II)I"⟩
abbrev cX12_isTame : ByteArray := prog_14_method_39_code
def yX12_isTame : MethodName := ⟨RX12, "isTame", "(II)Z"⟩
abbrev cX12_isLikeNim : ByteArray := prog_14_method_40_code
def yX12_isLikeNim : MethodName := ⟨RX12, "isLikeNim", "(I[I)Z"⟩
abbrev cX12_firstOdd : ByteArray := prog_14_method_41_code
def yX12_firstOdd : MethodName := ⟨RX12, "firstOdd", "(Z)I"⟩
abbrev cX12_partOf : ByteArray := prog_14_method_42_code
def yX12_partOf : MethodName := ⟨RX12, "partOf", "(II)I"⟩
abbrev cX12_isHeap : ByteArray := prog_14_method_43_code
def yX12_isHeap : MethodName := ⟨RX12, "isHeap", "(I)Z"⟩
abbrev cX12_moves : ByteArray := prog_14_method_44_code
def yX12_moves : MethodName := ⟨RX12, "moves", "(I)I"⟩
abbrev cX12_option : ByteArray := prog_14_method_45_code
def yX12_option : MethodName := ⟨RX12, "option", "(III)I"⟩
abbrev cX12_nimber : ByteArray := prog_14_method_46_code
def yX12_nimber : MethodName := ⟨RX12, "nimber", "(I)I"⟩
abbrev cX12_isPeriod : ByteArray := prog_14_method_47_code
def yX12_isPeriod : MethodName := ⟨RX12, "isPeriod", "(II)Z"⟩
abbrev cX12_period : ByteArray := prog_14_method_48_code
def yX12_period : MethodName := ⟨RX12, "period", "(I)I"⟩
abbrev cX12_told : ByteArray := prog_14_method_49_code
def yX12_told : MethodName := ⟨RX12, "told", "(II)I"⟩
abbrev cX12_odd : ByteArray := prog_14_method_50_code
def yX12_odd : MethodName := ⟨RX12, "odd", "(I)I"⟩
abbrev cX12_wild : ByteArray := prog_14_method_51_code
def yX12_wild : MethodName := ⟨RX12, "wild", "(I)I"⟩
abbrev cX12_keepsAct : ByteArray := prog_14_method_52_code
def yX12_keepsAct : MethodName := ⟨RX12, "keepsAct", "()V"⟩
abbrev cX12_handNumber : ByteArray := prog_14_method_53_code
def yX12_handNumber : MethodName := ⟨RX12, "handNumber", "()I"⟩
abbrev cX12_put : ByteArray := prog_14_method_54_code
def yX12_put : MethodName := ⟨RX12, "put", "(I)I"⟩
abbrev cX12_isMove : ByteArray := prog_14_method_55_code
def yX12_isMove : MethodName := ⟨RX12, "isMove", "(III)Z"⟩
abbrev cX12_move : ByteArray := prog_14_method_56_code
def yX12_move : MethodName := ⟨RX12, "move", "(III)I"⟩
abbrev cX12_firstReply : ByteArray := prog_14_method_57_code
def yX12_firstReply : MethodName := ⟨RX12, "firstReply", "([I)I"⟩
abbrev cX12_reply : ByteArray := prog_14_method_58_code
def yX12_reply : MethodName := ⟨RX12, "reply", "()I"⟩
abbrev cX12_clear : ByteArray := prog_14_method_59_code
def yX12_clear : MethodName := ⟨RX12, "clear", "()I"⟩
abbrev cX12_undo : ByteArray := prog_14_method_60_code
def yX12_undo : MethodName := ⟨RX12, "undo", "()I"⟩
abbrev cX12_hand : ByteArray := prog_14_method_61_code
def yX12_hand : MethodName := ⟨RX12, "hand", "(I)I"⟩
abbrev cX12_goodMoves : ByteArray := prog_14_method_62_code
def yX12_goodMoves : MethodName := ⟨RX12, "goodMoves", "()I"⟩
abbrev cX12_state : ByteArray := prog_14_method_63_code
def yX12_state : MethodName := ⟨RX12, "state", "(I)I"⟩
abbrev cX12_genus : ByteArray := prog_14_method_64_code
def yX12_genus : MethodName := ⟨RX12, "genus", "(I)I"⟩
abbrev cX12_playedOn : ByteArray := prog_14_method_65_code
def yX12_playedOn : MethodName := ⟨RX12, "playedOn", "()I"⟩
abbrev cX12_line : ByteArray := prog_14_method_66_code
def yX12_line : MethodName := ⟨RX12, "line", "(I)I"⟩
abbrev cX12_losers : ByteArray := prog_14_method_67_code
def yX12_losers : MethodName := ⟨RX12, "losers", "(II)I"⟩
abbrev cX12_keep : ByteArray := prog_14_method_68_code
def yX12_keep : MethodName := ⟨RX12, "keep", "(I)I"⟩
abbrev cX12_losesBeside : ByteArray := prog_14_method_69_code
def yX12_losesBeside : MethodName := ⟨RX12, "losesBeside", "([I)Z"⟩
abbrev cX12_apartBy : ByteArray := prog_14_method_70_code
def yX12_apartBy : MethodName := ⟨RX12, "apartBy", "([I[I)I"⟩
abbrev cX12_apart : ByteArray := prog_14_method_71_code
def yX12_apart : MethodName := ⟨RX12, "apart", "(II)I"⟩
abbrev cX12_simplest : ByteArray := prog_14_method_72_code
def yX12_simplest : MethodName := ⟨RX12, "simplest", "(I)I"⟩
abbrev cX12_answers : ByteArray := prog_14_method_73_code
def yX12_answers : MethodName := ⟨RX12, "answers", "(I)I"⟩
abbrev cX12_draws : ByteArray := prog_14_method_74_code
def yX12_draws : MethodName := ⟨RX12, "draws", "(I)I"⟩
abbrev cX12_draw : ByteArray := prog_14_method_75_code
def yX12_draw : MethodName := ⟨RX12, "draw", "(I)I"⟩
abbrev cX12_movesOfWalk : ByteArray := prog_14_method_76_code
def yX12_movesOfWalk : MethodName := ⟨RX12, "movesOfWalk", "()I"⟩
abbrev cX12_goesBy : ByteArray := prog_14_method_77_code
def yX12_goesBy : MethodName := ⟨RX12, "goesBy", "(I)V"⟩
abbrev cX12_games : ByteArray := prog_14_method_78_code
def yX12_games : MethodName := ⟨RX12, "games", "(II)I"⟩
abbrev cX12_placeOf : ByteArray := prog_14_method_79_code
def yX12_placeOf : MethodName := ⟨RX12, "placeOf", "(III)I"⟩
abbrev cX12_markOf : ByteArray := prog_14_method_80_code
def yX12_markOf : MethodName := ⟨RX12, "markOf", "(I)J"⟩
abbrev cX12_takesWord : ByteArray := prog_14_method_81_code
def yX12_takesWord : MethodName := ⟨RX12, "takesWord", "(II)V"⟩
abbrev cX12_addsElement : ByteArray := prog_14_method_82_code
def yX12_addsElement : MethodName := ⟨RX12, "addsElement", "(IJ)V"⟩
abbrev cX12_elementBy : ByteArray := prog_14_method_83_code
def yX12_elementBy : MethodName := ⟨RX12, "elementBy", "(IJ)I"⟩
abbrev cX12_findsElements : ByteArray := prog_14_method_84_code
def yX12_findsElements : MethodName := ⟨RX12, "findsElements", "(I)Z"⟩
abbrev cX12_nextBy : ByteArray := prog_14_method_85_code
def yX12_nextBy : MethodName := ⟨RX12, "nextBy", "(III)I"⟩
abbrev cX12_timesOf : ByteArray := prog_14_method_86_code
def yX12_timesOf : MethodName := ⟨RX12, "timesOf", "(III)I"⟩
abbrev cX12_isSteady : ByteArray := prog_14_method_87_code
def yX12_isSteady : MethodName := ⟨RX12, "isSteady", "(I)Z"⟩
abbrev cX12_setBy : ByteArray := prog_14_method_88_code
def yX12_setBy : MethodName := ⟨RX12, "setBy", "(IIII)I"⟩
abbrev cX12_pairAt : ByteArray := prog_14_method_89_code
def yX12_pairAt : MethodName := ⟨RX12, "pairAt", "(III)I"⟩
abbrev cX12_findsPairs : ByteArray := prog_14_method_90_code
def yX12_findsPairs : MethodName := ⟨RX12, "findsPairs", "(I)I"⟩
abbrev cX12_arePairsRight : ByteArray := prog_14_method_91_code
def yX12_arePairsRight : MethodName := ⟨RX12, "arePairsRight", "(I)Z"⟩
abbrev cX12_laysQuotient : ByteArray := prog_14_method_92_code
def yX12_laysQuotient : MethodName := ⟨RX12, "laysQuotient", "(I)V"⟩
abbrev cX12_isQuotient : ByteArray := prog_14_method_93_code
def yX12_isQuotient : MethodName := ⟨RX12, "isQuotient", "(I)Z"⟩
abbrev cX12_isKnown : ByteArray := prog_14_method_94_code
def yX12_isKnown : MethodName := ⟨RX12, "isKnown", "(I)Z"⟩
abbrev cX12_isElement : ByteArray := prog_14_method_95_code
def yX12_isElement : MethodName := ⟨RX12, "isElement", "(II)Z"⟩
abbrev cX12_elements : ByteArray := prog_14_method_96_code
def yX12_elements : MethodName := ⟨RX12, "elements", "(I)I"⟩
abbrev cX12_word : ByteArray := prog_14_method_97_code
def yX12_word : MethodName := ⟨RX12, "word", "(III)I"⟩
abbrev cX12_next_ : ByteArray := prog_14_method_98_code
def yX12_next_ : MethodName := ⟨RX12, "next", "(III)I"⟩
abbrev cX12_times : ByteArray := prog_14_method_99_code
def yX12_times : MethodName := ⟨RX12, "times", "(III)I"⟩
abbrev cX12_comesOf : ByteArray := prog_14_method_100_code
def yX12_comesOf : MethodName := ⟨RX12, "comesOf", "(II)I"⟩
abbrev cX12_sets : ByteArray := prog_14_method_101_code
def yX12_sets : MethodName := ⟨RX12, "sets", "(II)I"⟩
abbrev cX12_pairs : ByteArray := prog_14_method_102_code
def yX12_pairs : MethodName := ⟨RX12, "pairs", "(I)I"⟩
abbrev cX12_proved : ByteArray := prog_14_method_103_code
def yX12_proved : MethodName := ⟨RX12, "proved", "(I)I"⟩
abbrev cX12_areAlike : ByteArray := prog_14_method_104_code
def yX12_areAlike : MethodName := ⟨RX12, "areAlike", "(II)Z"⟩
abbrev cX12_stays : ByteArray := prog_14_method_105_code
def yX12_stays : MethodName := ⟨RX12, "stays", "(I)I"⟩
abbrev cX12_power : ByteArray := prog_14_method_106_code
def yX12_power : MethodName := ⟨RX12, "power", "(III)I"⟩
abbrev cX12_place : ByteArray := prog_14_method_107_code
def yX12_place : MethodName := ⟨RX12, "place", "(I)I"⟩
abbrev cX12_count : ByteArray := prog_14_method_108_code
def yX12_count : MethodName := ⟨RX12, "count", "(I)I"⟩
def RJx145de : String := "java/io/Serializable"
def RJx9f9b0 : String := "java/lang/CharSequence"
def RJxb160c : String := "java/lang/Comparable"
def RJ9 : String := "java/lang/Math"
abbrev cJ9_max_7cf53 : ByteArray := prog_15_method_65_code
def yJ9_max_7cf53 : MethodName := ⟨RJ9, "max", "(II)I"⟩
abbrev cJ9_min_7cf53 : ByteArray := prog_15_method_69_code
def yJ9_min_7cf53 : MethodName := ⟨RJ9, "min", "(II)I"⟩
def RJ0 : String := "java/lang/String"
abbrev cJ0_length_8abf5 : ByteArray := prog_16_method_54_code
def yJ0_length_8abf5 : MethodName := ⟨RJ0, "length", "()I"⟩
abbrev cJ0_charAt_5068e : ByteArray := prog_16_method_56_code
def yJ0_charAt_5068e : MethodName := ⟨RJ0, "charAt", "(I)C"⟩
abbrev cJ0_coder_7d493 : ByteArray := prog_16_method_152_code
def yJ0_coder_7d493 : MethodName := ⟨RJ0, "coder", "()B"⟩
abbrev cJ0_isLatin1_aae02 : ByteArray := prog_16_method_154_code
def yJ0_isLatin1_aae02 : MethodName := ⟨RJ0, "isLatin1", "()Z"⟩
abbrev cJ0_checkIndex_df160 : ByteArray := prog_16_method_155_code
def yJ0_checkIndex_df160 : MethodName := ⟨RJ0, "checkIndex", "(II)V"⟩
def RJ1 : String := "java/lang/StringLatin1"
abbrev cJ1_charAt_3b067 : ByteArray := prog_17_method_2_code
def yJ1_charAt_3b067 : MethodName := ⟨RJ1, "charAt", "([BI)C"⟩
def RJ2 : String := "java/lang/StringUTF16"
abbrev cJ2_getChar_3b067 : ByteArray := prog_18_method_5_code
def yJ2_getChar_3b067 : MethodName := ⟨RJ2, "getChar", "([BI)C"⟩
abbrev cJ2_length_9d52b : ByteArray := prog_18_method_6_code
def yJ2_length_9d52b : MethodName := ⟨RJ2, "length", "([B)I"⟩
abbrev cJ2_charAt_3b067 : ByteArray := prog_18_method_83_code
def yJ2_charAt_3b067 : MethodName := ⟨RJ2, "charAt", "([BI)C"⟩
abbrev cJ2_checkIndex_2214a : ByteArray := prog_18_method_91_code
def yJ2_checkIndex_2214a : MethodName := ⟨RJ2, "checkIndex", "(I[B)V"⟩
def RJ10 : String := "java/lang/System"
def RJxfd54e : String := "java/lang/constant/Constable"
def RJx3cf43 : String := "java/lang/constant/ConstantDesc"
def RJ7 : String := "java/util/Arrays"
abbrev cJ7_fill_d0a16 : ByteArray := prog_20_method_101_code
def yJ7_fill_d0a16 : MethodName := ⟨RJ7, "fill", "([JJ)V"⟩
abbrev cJ7_fill_53178 : ByteArray := prog_20_method_103_code
def yJ7_fill_53178 : MethodName := ⟨RJ7, "fill", "([II)V"⟩
def RJ3 : String := "jdk/internal/util/Preconditions"
abbrev cJ3_checkIndex_8e157 : ByteArray := prog_21_method_11_code
def yJ3_checkIndex_8e157 : MethodName := ⟨RJ3, "checkIndex", "(IILjava/util/function/BiFunction;)I"⟩
def RL : String := "LastLosesLaw"
abbrev cL_law : ByteArray := code
abbrev vwCl : List vw_C := [(RX0, TX0, 10), (RX1, TX1, 5), (RX2, TX2, 5), (RX3, TX3, 5), (RX4, TX4, 6), (RX5, TX5, 6), (RX6, TX6, 10), (RX7, TX7, 10), (RX8, TX8, 10), (RX9, TX9, 2), (RX10, TX10, 9), (RX11, TX11, 4), (RX12, TX12, 57)]
end
section
/-! The small machine: values, states, shapes of cells, and one run of instructions as a function. -/
/-- the numbers of a state: by the cell, then by the place in it -/
abbrev jxS : Type := Nat → Int → Int
/-- a value: a number, a long, a cell, nothing -/
abbrev jxV : Type := Int ⊕ Int ⊕ Nat ⊕ Unit
abbrev jmi (x : Int) : jxV := Sum.inl x
abbrev jml (x : Int) : jxV := Sum.inr (Sum.inl x)
abbrev jmr (k : Nat) : jxV := Sum.inr (Sum.inr (Sum.inl k))
abbrev jmn : jxV := Sum.inr (Sum.inr (Sum.inr ()))
def jI (x : Int) : Int32 := Int32.ofInt x
def jL (x : Int) : Int64 := Int64.ofInt x
def jtoV (ad : Nat → Nat) (v : jxV) : Value := match v with
  | .inl x => .int (jI x)
  | .inr (.inl x) => .long (jL x)
  | .inr (.inr (.inl k)) => .ref (ad k)
  | .inr (.inr (.inr _)) => .null
/-- a field: 0 an int, 1 a long, 2 a boolean; or a cell that never changes, or null -/
abbrev jxF : Type := Nat ⊕ Option Nat
/-- a cell: an object (its class, its fields), a row (0 int, 1 byte, 2 boolean, 3 long, 4 references; how long), a table that nobody writes -/
abbrev jxC : Type := (Nat × List jxF) ⊕ (Nat × Nat) ⊕ List Int
def jfv (ad : Nat → Nat) (f : Int → Int) (k : Nat) (fk : jxF) : Value := match fk with
  | .inl 1 => .long (jL (f k))
  | .inl _ => .int (jI (f k))
  | .inr none => .null
  | .inr (some j) => .ref (ad j)
def jrf (ad : Nat → Nat) (v : Int) : Option Nat := if v = 0 then none else some (ad v.toNat)
def jent (ad : Nat → Nat) (cy : Nat → ClassId) (c : jxC) (f : Int → Int) : va_E := match c with
  | .inl (ci, fks) => .inr (ci, fks.mapIdx (fun k fk => jfv ad f k fk))
  | .inr (.inl (3, n)) => .inl (cy 3, n, .inr (.inl (fun j => jL (f j))))
  | .inr (.inl (4, n)) => .inl (cy 4, n, .inr (.inr (.inr (.inr (fun j => jrf ad (f j))))))
  | .inr (.inl (t, n)) => .inl (cy t, n, .inl (fun j => jI (f j)))
  | .inr (.inr _) => .inr (0, [])
def jW (ad : Nat → Nat) (cy : Nat → ClassId) (sh : List jxC) (σ : jxS) : va_W := sh.mapIdx (fun i c => (ad i, jent ad cy c (σ i)))
def jup (σ : jxS) (i : Nat) (k v : Int) : jxS := fun a j => if a = i ∧ j = k then v else σ a j
theorem jW_get {ad : Nat → Nat} {cy : Nat → ClassId} {sh : List jxC} {σ : jxS} {i : Nat} {c : jxC} (h : sh[i]? = some c) : (jW ad cy sh σ)[i]? = some (ad i, jent ad cy c (σ i)) := by
  simp [jW, List.getElem?_mapIdx, h]
theorem jup_ne {σ : jxS} {i a : Nat} {k v : Int} (h : a ≠ i) : jup σ i k v a = σ a := by
  funext j
  simp [jup, h]
theorem jW_set {ad : Nat → Nat} {cy : Nat → ClassId} {sh : List jxC} {σ : jxS} {i : Nat} {c : jxC} {k v : Int} {e : va_E} (h : sh[i]? = some c) (he : e = jent ad cy c (jup σ i k v i)) : (jW ad cy sh σ).set i (ad i, e) = jW ad cy sh (jup σ i k v) := by
  subst he
  refine List.ext_getElem? fun a => ?_
  by_cases ha : a = i
  · subst ha
    have hl : a < (jW ad cy sh σ).length := by
      rw [jW, List.length_mapIdx]
      exact (List.getElem?_eq_some_iff.mp h).1
    rw [List.getElem?_set_self hl, jW_get h]
  · rw [List.getElem?_set_ne (Ne.symm ha)]
    simp [jW, List.getElem?_mapIdx, jup_ne ha]
theorem jW_D {ad : Nat → Nat} {cy : Nat → ClassId} {sh : List jxC} {σ σ' : jxS} {A : Nat → Prop} (h : va_D A (jW ad cy sh σ)) : va_D A (jW ad cy sh σ') := by
  have key : ∀ (k : Nat) (q : Nat × va_E), (jW ad cy sh σ')[k]? = some q → ∃ q0, (jW ad cy sh σ)[k]? = some q0 ∧ q0.1 = q.1 := by
    intro k q hk
    simp only [jW, List.getElem?_mapIdx, Option.map_eq_some_iff] at hk ⊢
    obtain ⟨c, hc, rfl⟩ := hk
    exact ⟨_, ⟨c, hc, rfl⟩, rfl⟩
  refine ⟨fun i j x y hi hj hxy => ?_, fun k q hk => ?_⟩
  · obtain ⟨x0, h1, h2⟩ := key i x hi
    obtain ⟨y0, h3, h4⟩ := key j y hj
    exact h.1 i j x0 y0 h1 h3 (h2.trans (hxy.trans h4.symm))
  · obtain ⟨q0, h1, h2⟩ := key k q hk
    rw [← h2]
    exact h.2 k q0 h1
/-- a number as an int of 32 bits shows it -/
def jw (x : Int) : Int := (x + 2147483648) % 4294967296 - 2147483648
def jw64 (x : Int) : Int := (x + 9223372036854775808) % 18446744073709551616 - 9223372036854775808
def jw8 (x : Int) : Int := (x + 128) % 256 - 128
theorem jw_toInt (x : Int) : (jI x).toInt = jw x := by
  simp only [jI, Int32.toInt_ofInt, Int.bmod_def, jw]
  have : (Int32.size : Int) = 4294967296 := rfl
  split <;> simp_all <;> omega
theorem jw64_toInt (x : Int) : (jL x).toInt = jw64 x := by
  simp only [jL, Int64.toInt_ofInt, Int.bmod_def, jw64]
  have : (Int64.size : Int) = 18446744073709551616 := rfl
  split <;> simp_all <;> omega
theorem jw_id {x : Int} (h1 : -2147483648 ≤ x) (h2 : x ≤ 2147483647) : jw x = x := by unfold jw; omega
theorem jI_w (x : Int) : jI (jw x) = jI x := by
  apply Int32.toInt_inj.mp
  rw [jw_toInt, jw_toInt]
  unfold jw
  omega
theorem jL_w (x : Int) : jL (jw64 x) = jL x := by
  apply Int64.toInt_inj.mp
  rw [jw64_toInt, jw64_toInt]
  unfold jw64
  omega
theorem jI_toInt (x : Int32) : jI x.toInt = x := by simp [jI]
theorem jL_toInt (x : Int64) : jL x.toInt = x := by simp [jL]
/-- the bits -/
def jand (x y : Int) : Int := (jI x &&& jI y).toInt
def jor (x y : Int) : Int := (jI x ||| jI y).toInt
def jxor (x y : Int) : Int := (jI x ^^^ jI y).toInt
def jshl (x y : Int) : Int := (jI x <<< (jI y &&& 31)).toInt
def jshr (x y : Int) : Int := (jI x >>> (jI y &&& 31)).toInt
def jushr (x y : Int) : Int := ((jI x).toUInt32 >>> ((jI y).toUInt32 &&& Int32.toUInt32 31)).toInt32.toInt
def jland (x y : Int) : Int := (jL x &&& jL y).toInt
def jlor (x y : Int) : Int := (jL x ||| jL y).toInt
def jlxor (x y : Int) : Int := (jL x ^^^ jL y).toInt
def jlshl (x y : Int) : Int := (jL x <<< ((jI y).toInt64 &&& 63)).toInt
def jlshr (x y : Int) : Int := (jL x >>> ((jI y).toInt64 &&& 63)).toInt
def jdiv (x y : Int) : Int := Int.tdiv (jw x) (jw y)
def jrem (x y : Int) : Int := Int.tmod (jw x) (jw y)
def jldiv (x y : Int) : Int := Int.tdiv (jw64 x) (jw64 y)
def jlrem (x y : Int) : Int := Int.tmod (jw64 x) (jw64 y)
def jlcmp (x y : Int) : Int := if jw64 y < jw64 x then 1 else if jw64 x = jw64 y then 0 else -1
/-- a run's end: the answer as a number (0 for none; a cell by its number, 0 null), and the state -/
abbrev jxR : Type := Int × jxS
abbrev jxL : Type := List (Option jxV)
abbrev jxK : Type := Nat → jxL → List jxV → jxS → Option jxR
/-- what a method's instructions mean: fields by pool number (class, field); calls: how many arguments, what they do; constants; statics; the answer's kind (0 none, 1 int, 2 long, 3 cell, 4 boolean); shapes -/
abbrev jxE : Type := (Nat → Option (Nat × Nat)) × (Nat → Option (Nat × Bool)) × (Nat → List jxV → jxS → (Option jxV → jxS → Option jxR) → Option jxR) × (Nat → Option jxV) × (Nat → Option Nat) × Nat × (Nat → Option jxC)
def jset1 (l : jxL) (i : Nat) (v : jxV) : jxL := match l, i with
  | [], _ => []
  | _ :: t, 0 => some v :: t
  | a :: t, 1 => (match a with
      | some (.inr (.inl _)) => none
      | x => x) :: jset1 t 0 v
  | a :: t, n + 2 => a :: jset1 t (n + 1) v
def jset2 (l : jxL) (i : Nat) (v : jxV) : jxL := match l, i with
  | [], _ => []
  | _ :: t, 0 => some v :: (match t with
      | [] => []
      | _ :: t' => none :: t')
  | a :: t, 1 => (match a with
      | some (.inr (.inl _)) => none
      | x => x) :: jset2 t 0 v
  | a :: t, n + 2 => a :: jset2 t (n + 1) v
def jget (l : jxL) (i : Nat) : Option jxV := match l, i with
  | [], _ => none
  | a :: _, 0 => a
  | _ :: t, n + 1 => jget t n
def jcat (st : List jxV) : Nat := match st with
  | [] => 0
  | .inr (.inl _) :: t => jcat t + 2
  | _ :: t => jcat t + 1
def jtgt (pc : Nat) (off : Int) (k : Nat → Option jxR) : Option jxR := match (pc : Int) + off with
  | .ofNat n => k n
  | .negSucc _ => none
def jsw (x lo : Int) (os : List Int) (kd : Option jxR) (kk : Int → Option jxR) : Option jxR := match os with
  | [] => kd
  | o :: t => if x = lo then kk o else jsw x (lo + 1) t kd kk
def jstore (t : Nat) (v : Int) : Int := match t with
  | 1 => jw8 v
  | 2 => v % 2
  | _ => v
/-- the cells of the quotients -/
def jQS : List Nat := [90, 95, 100, 105, 110, 115]
def jsel (qs : List Nat) (v : Int) (k : Nat → Option jxR) : Option jxR := match qs with
  | [] => none
  | q :: t => if v = (q : Int) then k q else jsel t v k
/-- one instruction, and what goes on behind it -/
def jx1 (E : jxE) (i : Instr) (pc : Nat) (loc : jxL) (st : List jxV) (σ : jxS) (k : jxK) : Option jxR := match i with
  | .iconst n => k (pc + 1) loc (jmi n :: st) σ
  | .bipush n => if -128 ≤ n ∧ n ≤ 127 then k (pc + 2) loc (jmi n :: st) σ else none
  | .sipush n => if -32768 ≤ n ∧ n ≤ 32767 then k (pc + 3) loc (jmi n :: st) σ else none
  | .lconst n => k (pc + 1) loc (jml (n.val : Int) :: st) σ
  | .aconst_null => k (pc + 1) loc (jmn :: st) σ
  | .ldc n => (match E.2.2.2.1 n with
    | some (.inl x) => k (pc + 2) loc (jmi x :: st) σ
    | some (.inr (.inr z)) => k (pc + 2) loc (.inr (.inr z) :: st) σ
    | _ => none)
  | .ldc2_w n => (match E.2.2.2.1 n with
    | some (.inr (.inl x)) => k (pc + 3) loc (jml x :: st) σ
    | _ => none)
  | .iload_n n => (match jget loc n.val with
    | some (.inl x) => k (pc + 1) loc (jmi x :: st) σ
    | _ => none)
  | .iload n => (match jget loc n with
    | some (.inl x) => k (pc + 2) loc (jmi x :: st) σ
    | _ => none)
  | .lload_n n => (match jget loc n.val with
    | some (.inr (.inl x)) => k (pc + 1) loc (jml x :: st) σ
    | _ => none)
  | .lload n => (match jget loc n with
    | some (.inr (.inl x)) => k (pc + 2) loc (jml x :: st) σ
    | _ => none)
  | .aload_n n => (match jget loc n.val with
    | some (.inr (.inr (.inl x))) => k (pc + 1) loc (jmr x :: st) σ
    | some (.inr (.inr (.inr _))) => k (pc + 1) loc (jmn :: st) σ
    | _ => none)
  | .aload n => (match jget loc n with
    | some (.inr (.inr (.inl x))) => k (pc + 2) loc (jmr x :: st) σ
    | some (.inr (.inr (.inr _))) => k (pc + 2) loc (jmn :: st) σ
    | _ => none)
  | .istore_n n => (match st with
    | .inl x :: r => bif Nat.ble (n.val + 1) loc.length then k (pc + 1) (jset1 loc n.val (jmi x)) r σ else none
    | _ => none)
  | .istore n => (match st with
    | .inl x :: r => bif Nat.ble (n + 1) loc.length then k (pc + 2) (jset1 loc n (jmi x)) r σ else none
    | _ => none)
  | .lstore_n n => (match st with
    | .inr (.inl x) :: r => bif Nat.ble (n.val + 2) loc.length then k (pc + 1) (jset2 loc n.val (jml x)) r σ else none
    | _ => none)
  | .lstore n => (match st with
    | .inr (.inl x) :: r => bif Nat.ble (n + 2) loc.length then k (pc + 2) (jset2 loc n (jml x)) r σ else none
    | _ => none)
  | .astore_n n => (match st with
    | .inr (.inr (.inl x)) :: r => bif Nat.ble (n.val + 1) loc.length then k (pc + 1) (jset1 loc n.val (jmr x)) r σ else none
    | _ => none)
  | .astore n => (match st with
    | .inr (.inr (.inl x)) :: r => bif Nat.ble (n + 1) loc.length then k (pc + 2) (jset1 loc n (jmr x)) r σ else none
    | _ => none)
  | .iinc n d => (match jget loc n with
    | some (.inl x) => bif Nat.ble (n + 1) loc.length then k (pc + 3) (jset1 loc n (jmi (x + d))) st σ else none
    | _ => none)
  | .iadd => (match st with
    | .inl y :: .inl x :: r => k (pc + 1) loc (jmi (x + y) :: r) σ
    | _ => none)
  | .isub => (match st with
    | .inl y :: .inl x :: r => k (pc + 1) loc (jmi (x - y) :: r) σ
    | _ => none)
  | .imul => (match st with
    | .inl y :: .inl x :: r => k (pc + 1) loc (jmi (x * y) :: r) σ
    | _ => none)
  | .idiv => (match st with
    | .inl y :: .inl x :: r => if jw y = 0 then none else k (pc + 1) loc (jmi (jdiv x y) :: r) σ
    | _ => none)
  | .irem => (match st with
    | .inl y :: .inl x :: r => if jw y = 0 then none else k (pc + 1) loc (jmi (jrem x y) :: r) σ
    | _ => none)
  | .iand => (match st with
    | .inl y :: .inl x :: r => k (pc + 1) loc (jmi (jand x y) :: r) σ
    | _ => none)
  | .ior => (match st with
    | .inl y :: .inl x :: r => k (pc + 1) loc (jmi (jor x y) :: r) σ
    | _ => none)
  | .ixor => (match st with
    | .inl y :: .inl x :: r => k (pc + 1) loc (jmi (jxor x y) :: r) σ
    | _ => none)
  | .ishl => (match st with
    | .inl y :: .inl x :: r => k (pc + 1) loc (jmi (jshl x y) :: r) σ
    | _ => none)
  | .ishr => (match st with
    | .inl y :: .inl x :: r => k (pc + 1) loc (jmi (jshr x y) :: r) σ
    | _ => none)
  | .iushr => (match st with
    | .inl y :: .inl x :: r => k (pc + 1) loc (jmi (jushr x y) :: r) σ
    | _ => none)
  | .ladd => (match st with
    | .inr (.inl y) :: .inr (.inl x) :: r => k (pc + 1) loc (jml (x + y) :: r) σ
    | _ => none)
  | .lmul => (match st with
    | .inr (.inl y) :: .inr (.inl x) :: r => k (pc + 1) loc (jml (x * y) :: r) σ
    | _ => none)
  | .ldiv => (match st with
    | .inr (.inl y) :: .inr (.inl x) :: r => if jw64 y = 0 then none else k (pc + 1) loc (jml (jldiv x y) :: r) σ
    | _ => none)
  | .lrem => (match st with
    | .inr (.inl y) :: .inr (.inl x) :: r => if jw64 y = 0 then none else k (pc + 1) loc (jml (jlrem x y) :: r) σ
    | _ => none)
  | .land => (match st with
    | .inr (.inl y) :: .inr (.inl x) :: r => k (pc + 1) loc (jml (jland x y) :: r) σ
    | _ => none)
  | .lor => (match st with
    | .inr (.inl y) :: .inr (.inl x) :: r => k (pc + 1) loc (jml (jlor x y) :: r) σ
    | _ => none)
  | .lxor => (match st with
    | .inr (.inl y) :: .inr (.inl x) :: r => k (pc + 1) loc (jml (jlxor x y) :: r) σ
    | _ => none)
  | .lshl => (match st with
    | .inl y :: .inr (.inl x) :: r => k (pc + 1) loc (jml (jlshl x y) :: r) σ
    | _ => none)
  | .lshr => (match st with
    | .inl y :: .inr (.inl x) :: r => k (pc + 1) loc (jml (jlshr x y) :: r) σ
    | _ => none)
  | .lcmp => (match st with
    | .inr (.inl y) :: .inr (.inl x) :: r => k (pc + 1) loc (jmi (jlcmp x y) :: r) σ
    | _ => none)
  | .i2l => (match st with
    | .inl x :: r => k (pc + 1) loc (jml (jw x) :: r) σ
    | _ => none)
  | .l2i => (match st with
    | .inr (.inl x) :: r => k (pc + 1) loc (jmi x :: r) σ
    | _ => none)
  | .i2b => (match st with
    | .inl x :: r => k (pc + 1) loc (jmi (jw8 x) :: r) σ
    | _ => none)
  | .dup => (match st with
    | .inl x :: r => k (pc + 1) loc (jmi x :: jmi x :: r) σ
    | .inr (.inr x) :: r => k (pc + 1) loc (.inr (.inr x) :: .inr (.inr x) :: r) σ
    | _ => none)
  | .dup2 => (match st with
    | .inl y :: .inr (.inr x) :: r => k (pc + 1) loc (jmi y :: .inr (.inr x) :: jmi y :: .inr (.inr x) :: r) σ
    | _ => none)
  | .pop => (match st with
    | .inl _ :: r => k (pc + 1) loc r σ
    | .inr (.inr _) :: r => k (pc + 1) loc r σ
    | _ => none)
  | .goto off => jtgt pc off (fun t => k t loc st σ)
  | .ifCond c off => (match st with
    | .inl x :: r => (match c with
      | .eq => if jw x = 0 then jtgt pc off (fun t => k t loc r σ) else k (pc + 3) loc r σ
      | .ne => if jw x = 0 then k (pc + 3) loc r σ else jtgt pc off (fun t => k t loc r σ)
      | .lt => if jw x < 0 then jtgt pc off (fun t => k t loc r σ) else k (pc + 3) loc r σ
      | .ge => if jw x < 0 then k (pc + 3) loc r σ else jtgt pc off (fun t => k t loc r σ)
      | .gt => if 0 < jw x then jtgt pc off (fun t => k t loc r σ) else k (pc + 3) loc r σ
      | .le => if 0 < jw x then k (pc + 3) loc r σ else jtgt pc off (fun t => k t loc r σ))
    | _ => none)
  | .if_icmp c off => (match st with
    | .inl y :: .inl x :: r => (match c with
      | .eq => if jw x = jw y then jtgt pc off (fun t => k t loc r σ) else k (pc + 3) loc r σ
      | .ne => if jw x = jw y then k (pc + 3) loc r σ else jtgt pc off (fun t => k t loc r σ)
      | .lt => if jw x < jw y then jtgt pc off (fun t => k t loc r σ) else k (pc + 3) loc r σ
      | .ge => if jw x < jw y then k (pc + 3) loc r σ else jtgt pc off (fun t => k t loc r σ)
      | .gt => if jw y < jw x then jtgt pc off (fun t => k t loc r σ) else k (pc + 3) loc r σ
      | .le => if jw y < jw x then k (pc + 3) loc r σ else jtgt pc off (fun t => k t loc r σ))
    | _ => none)
  | .ifnull off => (match st with
    | .inr (.inr (.inl _)) :: r => k (pc + 3) loc r σ
    | .inr (.inr (.inr _)) :: r => jtgt pc off (fun t => k t loc r σ)
    | _ => none)
  | .ifnonnull off => (match st with
    | .inr (.inr (.inl _)) :: r => jtgt pc off (fun t => k t loc r σ)
    | .inr (.inr (.inr _)) :: r => k (pc + 3) loc r σ
    | _ => none)
  | .iaload => (match st with
    | .inl x :: .inr (.inr (.inl id)) :: r => (match E.2.2.2.2.2.2 id with
      | some (.inr (.inl (0, n))) => if 0 ≤ x ∧ x < (n : Int) then k (pc + 1) loc (jmi (σ id x) :: r) σ else none
      | some (.inr (.inr tb)) => if 0 ≤ x ∧ x < (tb.length : Int) then k (pc + 1) loc (jmi (tb.getD x.toNat 0) :: r) σ else none
      | _ => none)
    | _ => none)
  | .baload => (match st with
    | .inl x :: .inr (.inr (.inl id)) :: r => (match E.2.2.2.2.2.2 id with
      | some (.inr (.inl (1, n))) => if 0 ≤ x ∧ x < (n : Int) then k (pc + 1) loc (jmi (σ id x) :: r) σ else none
      | some (.inr (.inl (2, n))) => if 0 ≤ x ∧ x < (n : Int) then k (pc + 1) loc (jmi (σ id x) :: r) σ else none
      | _ => none)
    | _ => none)
  | .aaload => (match st with
    | .inl x :: .inr (.inr (.inl id)) :: r => (match E.2.2.2.2.2.2 id with
      | some (.inr (.inl (4, n))) => if 0 ≤ x ∧ x < (n : Int) then (if σ id x = 0 then k (pc + 1) loc (jmn :: r) σ else jsel jQS (σ id x) (fun q => k (pc + 1) loc (jmr q :: r) σ)) else none
      | _ => none)
    | _ => none)
  | .laload => (match st with
    | .inl x :: .inr (.inr (.inl id)) :: r => (match E.2.2.2.2.2.2 id with
      | some (.inr (.inl (3, n))) => if 0 ≤ x ∧ x < (n : Int) then k (pc + 1) loc (jml (σ id x) :: r) σ else none
      | _ => none)
    | _ => none)
  | .iastore => (match st with
    | .inl v :: .inl x :: .inr (.inr (.inl id)) :: r => (match E.2.2.2.2.2.2 id with
      | some (.inr (.inl (0, n))) => if 0 ≤ x ∧ x < (n : Int) then k (pc + 1) loc r (jup σ id x v) else none
      | _ => none)
    | _ => none)
  | .bastore => (match st with
    | .inl v :: .inl x :: .inr (.inr (.inl id)) :: r => (match E.2.2.2.2.2.2 id with
      | some (.inr (.inl (1, n))) => if 0 ≤ x ∧ x < (n : Int) then k (pc + 1) loc r (jup σ id x (jw8 v)) else none
      | some (.inr (.inl (2, n))) => if 0 ≤ x ∧ x < (n : Int) then k (pc + 1) loc r (jup σ id x (v % 2)) else none
      | _ => none)
    | _ => none)
  | .lastore => (match st with
    | .inr (.inl v) :: .inl x :: .inr (.inr (.inl id)) :: r => (match E.2.2.2.2.2.2 id with
      | some (.inr (.inl (3, n))) => if 0 ≤ x ∧ x < (n : Int) then k (pc + 1) loc r (jup σ id x v) else none
      | _ => none)
    | _ => none)
  | .arraylength => (match st with
    | .inr (.inr (.inl id)) :: r => (match E.2.2.2.2.2.2 id with
      | some (.inr (.inl (0, n))) => k (pc + 1) loc (jmi (n : Int) :: r) σ
      | some (.inr (.inl (3, n))) => k (pc + 1) loc (jmi (n : Int) :: r) σ
      | some (.inr (.inr tb)) => k (pc + 1) loc (jmi (tb.length : Int) :: r) σ
      | _ => none)
    | _ => none)
  | .getfield n => (match st with
    | .inr (.inr (.inl id)) :: r => (match E.1 n, E.2.2.2.2.2.2 id with
      | some (ci, f), some (.inl (cj, fks)) => bif Nat.beq ci cj then (match fks[f]? with
        | some (.inl 1) => k (pc + 3) loc (jml (σ id f) :: r) σ
        | some (.inl _) => k (pc + 3) loc (jmi (σ id f) :: r) σ
        | some (.inr (some j)) => k (pc + 3) loc (jmr j :: r) σ
        | some (.inr none) => k (pc + 3) loc (jmn :: r) σ
        | none => none) else none
      | _, _ => none)
    | _ => none)
  | .putfield n => (match st with
    | .inl v :: .inr (.inr (.inl id)) :: r => (match E.1 n, E.2.2.2.2.2.2 id with
      | some (ci, f), some (.inl (cj, fks)) => bif Nat.beq ci cj then (match fks[f]? with
        | some (.inl 0) => k (pc + 3) loc r (jup σ id f v)
        | some (.inl 2) => if v = 0 ∨ v = 1 then k (pc + 3) loc r (jup σ id f v) else none
        | _ => none) else none
      | _, _ => none)
    | .inr (.inl v) :: .inr (.inr (.inl id)) :: r => (match E.1 n, E.2.2.2.2.2.2 id with
      | some (ci, f), some (.inl (cj, fks)) => bif Nat.beq ci cj then (match fks[f]? with
        | some (.inl 1) => k (pc + 3) loc r (jup σ id f v)
        | _ => none) else none
      | _, _ => none)
    | _ => none)
  | .getstatic n => (match E.2.2.2.2.1 n with
    | some id => k (pc + 3) loc (jmr id :: st) σ
    | none => none)
  | .invokevirtual n => (match E.2.1 n with
    | some (a, false) => bif Nat.ble (jcat (st.drop a)) 8 then E.2.2.1 n (st.take a).reverse σ (fun r σ' => k (pc + 3) loc (r.toList ++ st.drop a) σ') else none
    | _ => none)
  | .invokestatic n => (match E.2.1 n with
    | some (a, true) => bif Nat.ble (jcat (st.drop a)) 8 then E.2.2.1 n (st.take a).reverse σ (fun r σ' => k (pc + 3) loc (r.toList ++ st.drop a) σ') else none
    | _ => none)
  | .ireturn => (match st with
    | [.inl x] => (match E.2.2.2.2.2.1 with
      | 1 => some (x, σ)
      | 4 => if x = 0 ∨ x = 1 then some (x, σ) else none
      | _ => none)
    | _ => none)
  | .lreturn => (match st with
    | [.inr (.inl x)] => (match E.2.2.2.2.2.1 with
      | 2 => some (x, σ)
      | _ => none)
    | _ => none)
  | .areturn => (match st with
    | [.inr (.inr (.inl (id + 1)))] => (match E.2.2.2.2.2.1 with
      | 3 => some (((id + 1 : Nat) : Int), σ)
      | _ => none)
    | [.inr (.inr (.inr _))] => (match E.2.2.2.2.2.1 with
      | 3 => some (0, σ)
      | _ => none)
    | _ => none)
  | .return_ => (match st with
    | [] => (match E.2.2.2.2.2.1 with
      | 0 => some (0, σ)
      | _ => none)
    | _ => none)
  | .tableswitch d lo hi offs => (match st with
    | .inl x :: r => if hi = lo + (offs.toList.length : Int) - 1 then jsw (jw x) lo offs.toList (jtgt pc d (fun t => k t loc r σ)) (fun o => jtgt pc o (fun t => k t loc r σ)) else none
    | _ => none)
  | _ => none
/-- how long an instruction is (a switch: as it is decoded) -/
def jlen (i : Instr) : Nat := match i with
  | .bipush _ | .ldc _ | .iload _ | .lload _ | .aload _ | .istore _ | .lstore _ | .astore _ => 2
  | .sipush _ | .ldc2_w _ | .iinc _ _ | .goto _ | .ifCond _ _ | .if_icmp _ _ | .ifnull _ | .ifnonnull _ | .getfield _ | .putfield _ | .getstatic _ | .invokevirtual _ | .invokestatic _ => 3
  | .tableswitch _ _ _ _ => 0
  | _ => 1
def jlk (tb : List (Nat × Instr)) (pc : Nat) : Option Instr := match tb with
  | [] => none
  | q :: t => bif Nat.beq q.1 pc then some q.2 else jlk t pc
def jin (l : List Nat) (n : Nat) : Bool := match l with
  | [] => false
  | a :: t => bif Nat.beq a n then true else jin t n
/-- a run of at most so many instructions, up to the next of the places 'cuts' -/
def jex (E : jxE) (tb : List (Nat × Instr)) (cuts : List Nat) (k : jxK) (n : Nat) (pc : Nat) (loc : jxL) (st : List jxV) (σ : jxS) : Option jxR := match n with
  | 0 => none
  | n + 1 => (match jlk tb pc with
    | none => none
    | some i => jx1 E i pc loc st σ (fun pc' loc' st' σ' => bif jin cuts pc' then k pc' loc' st' σ' else jex E tb cuts k n pc' loc' st' σ'))
/-- the table of a method's instructions is its code's -/
def jtab (cc : ByteArray) (tb : List (Nat × Instr)) : Bool := tb.all (fun q => match decode cc q.1 with
  | .ok (i, n) => decide (i = q.2) && (Nat.beq (jlen i) 0 || Nat.beq n (jlen i))
  | .error _ => false)
end
section
/-! The small machine is the machine: what a run of it answers, the machine does. -/
def jTB : List Cond := lw_tbl.filter goodWord
def jnst (w : Cond) : Bool := match w with
  | .fieldLinkNest .. => true
  | .methodLinkNest .. => true
  | _ => false
def jNS : List Cond := lw_tbl.filter jnst
theorem jTB_at {w : Cond} (i : Nat) (h : lw_tbl[i]? = some w) (hg : goodWord w = true) : w ∈ jTB := List.mem_filter.mpr ⟨List.mem_of_getElem? h, hg⟩
theorem jNS_at {w : Cond} (i : Nat) (h : lw_tbl[i]? = some w) (hg : jnst w = true) : w ∈ jNS := List.mem_filter.mpr ⟨List.mem_of_getElem? h, hg⟩
theorem jTB_good {w : Cond} (h : w ∈ jTB) : goodWord w = true := (List.mem_filter.mp h).2
theorem jTB_in {y : MethodName} {bytes : ByteArray} {maxL : Nat} {ret : Option FieldType} {big : List Cond} (hb : ∀ w ∈ jTB, w ∈ big) (h : Cond.code y bytes maxL ret ∈ jTB) : GoodIn big (Cond.code y bytes maxL ret :: jTB) := by
  intro w hw
  rcases List.mem_cons.mp hw with rfl | hw
  · exact ⟨hb _ h, good_of_word (jTB_good h)⟩
  · exact ⟨hb _ hw, good_of_word (jTB_good hw)⟩
def jtys (cy : Nat → ClassId) : List (ClassId × FieldType) := [(cy 0, .int), (cy 1, .byte), (cy 2, .boolean), (cy 3, .long), (cy 4, .object "LastLoses$Quotient")]
def jtab0 : List Int := [0, 1, 2, 3, 14, 24]
def jtab1 : List Int := [0, 3, 5]
def jslen : List Nat := [5, 4, 5, 2]
def jsbyt : List (List Int32) := [[111, 99, 116, 97, 108], [97, 108, 115, 111], [110, 101, 118, 101, 114], [116, 111]]
def jsown : String := "LastLoses$Reader"
def jsidx (i : Nat) : Nat := match i with
  | 0 => 71
  | 1 => 77
  | 2 => 79
  | _ => 101
def jstx (i : Nat) : String := match i with
  | 0 => "octal"
  | 1 => "also"
  | 2 => "never"
  | _ => "to"
/-- what stands outside the cells that change: tables, texts, links among nest mates -/
def jBG (ad : Nat → Nat) (A : Nat → Prop) (U : State) : Prop :=
  (∀ w ∈ jNS, va_Nw w U) ∧
  va_Z "LastLoses$Values" "BESIDE_MOVES" "[I" (.ref (ad 1000)) A U U.heap ∧ va_T .int (ad 1000) 6 (fun j => .int (jI (jtab0.getD j 0))) A U U.heap ∧
  va_Z "LastLoses$Values" "BESIDE_OF_GENUS" "[I" (.ref (ad 1001)) A U U.heap ∧ va_T .int (ad 1001) 3 (fun j => .int (jI (jtab1.getD j 0))) A U U.heap ∧
  vk_S 4 jslen jsbyt (fun i => ad (1002 + i)) (fun i => ad (1006 + i)) A U U.heap ∧ (∀ i, i < 4 → vk_R jsown (jsidx i) (jstx i) (ad (1002 + i)) U) ∧
  va_Z "java/lang/String" "COMPACT_STRINGS" "Z" (.int 1) A U U.heap ∧ va_Zq "jdk/internal/util/Preconditions" "SIOOBE_FORMATTER" "Ljava/util/function/BiFunction;" A U U.heap
theorem jNS_warm {w : Cond} (h : w ∈ jNS) {s U : State} (hW : s.WarmedH U.vm) (hz : va_Nw w s) : va_Nw w U := by
  have h2 := (List.mem_filter.mp h).2
  cases w <;> first | exact va_Nw.warmF hW hz | exact va_Nw.warmM hW hz | (exact absurd h2 (by simp [jnst]))
theorem jNS_tab {w : Cond} (h : w ∈ jNS) : w.onTables = true := by
  have h2 := (List.mem_filter.mp h).2
  cases w <;> first | rfl | (exact absurd h2 (by simp [jnst]))
/-- behind a stretch of a run: a later heap, warmer tables -/
theorem jBG.go {ad : Nat → Nat} {A : Nat → Prop} {s U : State} (h : jBG ad A s) (hW : s.WarmedH U.vm) (hq : ∀ a : Nat, a < s.heap.size → ¬ A a → U.heap[a]? = s.heap[a]?) : jBG ad A U := by
  obtain ⟨h1, h2, h3, h4, h5, h6, h7, h8, h9⟩ := h
  have hv := hW.alike
  exact ⟨fun w hw => jNS_warm hw hW (h1 w hw), (h2.kept hq).moved hv, (h3.kept hq).moved hv, (h4.kept hq).moved hv, (h5.kept hq).moved hv, (h6.kept hq).moved hv, fun i hi => vk_R.warm hW (h7 i hi), (h8.kept hq).moved hv, (h9.kept hq).moved hv⟩
theorem jBG.same {ad : Nat → Nat} {A : Nat → Prop} {s U : State} (h : jBG ad A s) (hv : U.vm = s.vm) (hh : U.heap = s.heap) : jBG ad A U := by
  obtain ⟨h1, h2, h3, h4, h5, h6, h7, h8, h9⟩ := h
  have ha : s.vm.Alike U.vm := by rw [hv]; exact Vm.Alike.refl _
  rw [← hh] at h2 h3 h4 h5 h6 h8 h9
  exact ⟨fun w hw => va_Nw.same (jNS_tab hw) hv.symm (h1 w hw), h2.moved ha, h3.moved ha, h4.moved ha, h5.moved ha, h6.moved ha, fun i hi => vk_R.same hv (h7 i hi), h8.moved ha, h9.moved ha⟩
/-- a method under way: the machine, its code, where its cells lie -/
abbrev jxX : Type := Program × Launch × Env × Room × State × MethodId × Array Value × List Frame × Method × Code × ByteArray × Nat × String × va_G × (Nat → ClassId) × (Nat → Prop) × (Nat → Nat) × List jxC × Nat
def jrt (kd : Nat) : Option FieldType := match kd with
  | 0 => none
  | 1 => some .int
  | 2 => some .long
  | 3 => some (.object "LastLoses$Quotient")
  | 4 => some .boolean
  | _ => some .char
def jOK (X : jxX) : Prop := match X with
  | (p, l, e, R, s, m, args, below, meth, c, cc, nL, own, D, cy, A, ad, sh, kd) => p.tables.exec = Jvm.exec ∧ c.code = cc ∧ c.maxLocals = nL ∧ s.vm.findClass own = some m.cls ∧ (∀ w ∈ jTB, w.before args s = true) ∧ meth.locks = false ∧ va_K D vwCl (jtys cy) s ∧ (∀ q, s.heap.size ≤ q → A q) ∧ jBG ad A s ∧ meth.sig.returnType = jrt kd
def jLH (ls : Array Slot) (nL : Nat) (ad : Nat → Nat) (loc : jxL) : Prop := ls.size = nL ∧ lv_wf ls ∧ loc.length ≤ nL ∧ ∀ i v, jget loc i = some v → ls[i]? = some (.val (jtoV ad v))
def jWj (X : jxX) (Q : State → Prop) (pc : Nat) (loc : jxL) (st : List jxV) (σ : jxS) : Prop := match X with
  | (p, l, e, R, s, m, args, below, meth, c, _, nL, _, D, cy, A, ad, sh, _) => ∀ (H : Heap) (locs : List Loc) (ls : Array Slot), va_P D vwCl (jW ad cy sh σ) H → va_D A (jW ad cy sh σ) → va_S A s.heap H locs → jLH ls nL ad loc → W p l e R s m args below meth c H locs 0 0 Q (F0 m pc ls (st.map (jtoV ad)))
def jQc (D : va_G) (cy : Nat → ClassId) (A : Nat → Prop) (ad : Nat → Nat) (sh : List jxC) (r : Option jxV) (σ' : jxS) : Array Value → State → Outcome → State → Prop := fun _ st oc t => oc = .returned (r.map (jtoV ad)) ∧ va_P D vwCl (jW ad cy sh σ') t.heap ∧ va_F A st t
def jQ (X : jxX) (r : Option jxV) (σ' : jxS) : State → Prop := match X with
  | (_, _, _, _, s, _, args, below, _, _, _, _, _, D, cy, A, ad, sh, _) => MQ below (jQc D cy A ad sh r σ') args s 0 0 A
def jrv (kd : Nat) (x : Int) : Option jxV := match kd with
  | 0 => none
  | 2 => some (jml x)
  | 3 => some (if x = 0 then jmn else jmr x.toNat)
  | _ => some (jmi x)
def jkd (X : jxX) : Nat := match X with
  | (_, _, _, _, _, _, _, _, _, _, _, _, _, _, _, _, _, _, kd) => kd
def jcc (X : jxX) : ByteArray := match X with
  | (_, _, _, _, _, _, _, _, _, _, cc, _) => cc
def jsh (X : jxX) : List jxC := match X with
  | (_, _, _, _, _, _, _, _, _, _, _, _, _, _, _, _, _, sh, _) => sh
def jown (X : jxX) : String := match X with
  | (_, _, _, _, _, _, _, _, _, _, _, _, own, _) => own
/-- a run's function is what the machine does from here on -/
def jRf (X : jxX) (f : Option jxR) (pc : Nat) (loc : jxL) (st : List jxV) (σ : jxS) : Prop := ∀ x σ', f = some (x, σ') → jWj X (jQ X (jrv (jkd X) x) σ') pc loc st σ
theorem jRf_none {X : jxX} {pc : Nat} {loc : jxL} {st : List jxV} {σ : jxS} : jRf X none pc loc st σ := fun _ _ h => by cases h
/-- numbers -/
theorem jI_add (x y : Int) : jI (x + y) = jI x + jI y := Int32.ofInt_add x y
theorem jI_sub (x y : Int) : jI (x - y) = jI x - jI y := Int32.ofInt_sub x y
theorem jI_mul (x y : Int) : jI (x * y) = jI x * jI y := Int32.ofInt_mul x y
theorem jL_add (x y : Int) : jL (x + y) = jL x + jL y := Int64.ofInt_add x y
theorem jL_mul (x y : Int) : jL (x * y) = jL x * jL y := Int64.ofInt_mul x y
theorem jI_and (x y : Int) : jI (jand x y) = jI x &&& jI y := jI_toInt _
theorem jI_or (x y : Int) : jI (jor x y) = jI x ||| jI y := jI_toInt _
theorem jI_xor (x y : Int) : jI (jxor x y) = jI x ^^^ jI y := jI_toInt _
theorem jI_shl (x y : Int) : jI (jshl x y) = jI x <<< (jI y &&& 31) := jI_toInt _
theorem jI_shr (x y : Int) : jI (jshr x y) = jI x >>> (jI y &&& 31) := jI_toInt _
theorem jI_ushr (x y : Int) : jI (jushr x y) = ((jI x).toUInt32 >>> ((jI y).toUInt32 &&& Int32.toUInt32 31)).toInt32 := jI_toInt _
theorem jL_and (x y : Int) : jL (jland x y) = jL x &&& jL y := jL_toInt _
theorem jL_or (x y : Int) : jL (jlor x y) = jL x ||| jL y := jL_toInt _
theorem jL_xor (x y : Int) : jL (jlxor x y) = jL x ^^^ jL y := jL_toInt _
theorem jL_shl (x y : Int) : jL (jlshl x y) = jL x <<< ((jI y).toInt64 &&& 63) := jL_toInt _
theorem jL_shr (x y : Int) : jL (jlshr x y) = jL x >>> ((jI y).toInt64 &&& 63) := jL_toInt _
theorem jI_lt (x y : Int) : jI x < jI y ↔ jw x < jw y := by rw [Int32.lt_iff_toInt_lt, jw_toInt, jw_toInt]
theorem jI_le (x y : Int) : jI x ≤ jI y ↔ jw x ≤ jw y := by rw [Int32.le_iff_toInt_le, jw_toInt, jw_toInt]
theorem jI_eq (x y : Int) : jI x = jI y ↔ jw x = jw y := by rw [← Int32.toInt_inj, jw_toInt, jw_toInt]
theorem jI_0 : (0 : Int32) = jI 0 := rfl
theorem jw_0 : jw 0 = 0 := rfl
theorem jI_eq0 (x : Int) : jI x = 0 ↔ jw x = 0 := by rw [jI_0, jI_eq, jw_0]
theorem jI_lt0 (x : Int) : jI x < 0 ↔ jw x < 0 := by rw [jI_0, jI_lt, jw_0]
theorem jI_gt0 (x : Int) : 0 < jI x ↔ 0 < jw x := by rw [jI_0, jI_lt, jw_0]
theorem jL_lt (x y : Int) : jL x < jL y ↔ jw64 x < jw64 y := by rw [Int64.lt_iff_toInt_lt, jw64_toInt, jw64_toInt]
theorem jL_eq (x y : Int) : jL x = jL y ↔ jw64 x = jw64 y := by rw [← Int64.toInt_inj, jw64_toInt, jw64_toInt]
theorem jL_eq0 (x : Int) : jL x = 0 ↔ jw64 x = 0 := by rw [show (0 : Int64) = jL 0 from rfl, jL_eq, show jw64 0 = 0 from rfl]
theorem jI_div (x y : Int) : jI (jdiv x y) = jI x / jI y := by
  apply Int32.toInt_inj.mp
  rw [jw_toInt, Int32.toInt_div, jw_toInt, jw_toInt, jdiv, ← jw_toInt, jI, Int32.toInt_ofInt]
theorem jI_rem (x y : Int) : jI (jrem x y) = jI x - jI x / jI y * jI y := by
  rw [jrem, Int.tmod_def, jI_sub, jI_w, jI_mul, jI_w, ← jI_div, jdiv, Int32.mul_comm]
theorem jL_div (x y : Int) : jL (jldiv x y) = jL x / jL y := by
  apply Int64.toInt_inj.mp
  rw [jw64_toInt, Int64.toInt_div, jw64_toInt, jw64_toInt, jldiv, ← jw64_toInt, jL, Int64.toInt_ofInt]
theorem jL_rem (x y : Int) : jL (jlrem x y) = jL x - jL x / jL y * jL y := by
  have hs : ∀ a b : Int, jL (a - b) = jL a - jL b := fun a b => Int64.ofInt_sub a b
  rw [jlrem, Int.tmod_def, hs, jL_w, jL_mul, jL_w, ← jL_div, jldiv, Int64.mul_comm]
theorem jI_lcmp (x y : Int) : jI (jlcmp x y) = lg_cmp (jL x) (jL y) := by
  unfold jlcmp lg_cmp
  simp only [gt_iff_lt, jL_lt, jL_eq]
  split
  · rfl
  · split <;> rfl
theorem jL_i (x : Int) : jL (jw x) = (jI x).toInt64 := by
  apply Int64.toInt_inj.mp
  rw [Int32.toInt_toInt64, jw_toInt, jw64_toInt]
  unfold jw64 jw
  omega
theorem jI_l (x : Int) : jI x = (jL x).toInt32 := by
  apply Int32.toInt_inj.mp
  rw [Int64.toInt_toInt32, jw_toInt, jw64_toInt, Int.bmod_def]
  unfold jw jw64
  have : ((2 ^ 32 : Nat) : Int) = 4294967296 := rfl
  split <;> simp_all <;> omega
theorem jI_b (x : Int) : jI (jw8 x) = (jI x).toInt8.toInt32 := by
  apply Int32.toInt_inj.mp
  rw [Int8.toInt_toInt32, Int32.toInt_toInt8, jw_toInt, jw_toInt, Int.bmod_def]
  unfold jw jw8
  have : ((2 ^ 8 : Nat) : Int) = 256 := rfl
  split <;> simp_all <;> omega
theorem j_in {x : Int} {n : Nat} (hn : n < 2 ^ 31) (h : 0 ≤ x ∧ x < (n : Int)) : vp_in (jI x) n ∧ (jI x).toNatClampNeg = x.toNat := by
  have h1 : (jI x).toInt = x := by rw [jw_toInt, jw]; omega
  have h2 : (jI x).toNatClampNeg = x.toNat := by show (jI x).toInt.toNat = _; rw [h1]
  refine ⟨?_, h2⟩
  rw [vp_in_iff, h1]
  exact h
end
section
/-! One instruction of the small machine is one of the machine. -/
theorem jget_len {l : jxL} : ∀ {i : Nat} {v : jxV}, jget l i = some v → i < l.length := by
  induction l with
  | nil => intro i v h; simp [jget] at h
  | cons a t ih =>
    intro i v h
    cases i with
    | zero => exact Nat.zero_lt_succ _
    | succ n => exact Nat.succ_lt_succ (ih (by simpa [jget] using h))
def jlv (ad : Nat → Nat) (n : Nat) (l : jxL) : List (Nat × Value) := match l with
  | [] => []
  | none :: t => jlv ad (n + 1) t
  | some v :: t => (n, jtoV ad v) :: jlv ad (n + 1) t
theorem jlv_of {ad : Nat → Nat} {l : jxL} : ∀ {n j : Nat} {v : jxV}, jget l j = some v → (n + j, jtoV ad v) ∈ jlv ad n l := by
  induction l with
  | nil => intro n j v h; simp [jget] at h
  | cons a t ih =>
    intro n j v h
    cases j with
    | zero =>
      simp only [jget] at h
      subst h
      simp [jlv]
    | succ j =>
      have h1 := ih (n := n + 1) (j := j) (v := v) (by simpa [jget] using h)
      have e : n + 1 + j = n + (j + 1) := by omega
      rw [e] at h1
      cases a with
      | none => simpa [jlv] using h1
      | some w => simp [jlv, h1]
theorem jlv_to {ad : Nat → Nat} {l : jxL} : ∀ {n : Nat} {q : Nat × Value}, q ∈ jlv ad n l → ∃ j v, q = (n + j, jtoV ad v) ∧ jget l j = some v := by
  induction l with
  | nil => intro n q h; simp [jlv] at h
  | cons a t ih =>
    intro n q h
    cases a with
    | none =>
      obtain ⟨j, v, h1, h2⟩ := ih (by simpa [jlv] using h)
      exact ⟨j + 1, v, by rw [h1]; congr 1; omega, by simpa [jget] using h2⟩
    | some w =>
      simp only [jlv, List.mem_cons] at h
      rcases h with h | h
      · exact ⟨0, w, h, rfl⟩
      · obtain ⟨j, v, h1, h2⟩ := ih h
        exact ⟨j + 1, v, by rw [h1]; congr 1; omega, by simpa [jget] using h2⟩
theorem jLH.has {ls : Array Slot} {nL : Nat} {ad : Nat → Nat} {loc : jxL} (h : jLH ls nL ad loc) : lv_has ls nL (jlv ad 0 loc) := by
  refine ⟨h.1, h.2.1, fun q hq => ?_⟩
  obtain ⟨j, v, rfl, h2⟩ := jlv_to hq
  simpa using h.2.2.2 j v h2
theorem jset1_len (l : jxL) : ∀ (i : Nat) (v : jxV), (jset1 l i v).length = l.length := by
  induction l with
  | nil => intro i v; simp [jset1]
  | cons a t ih =>
    intro i v
    match i with
    | 0 => simp [jset1]
    | 1 => simp [jset1, ih]
    | n + 2 => simp [jset1, ih]
def jlng (v : jxV) : Prop := match v with
  | .inr (.inl _) => True
  | _ => False
theorem jset1_get (l : jxL) : ∀ {i j : Nat} {v u : jxV}, jget (jset1 l i v) j = some u → (j = i ∧ u = v) ∨ (j ≠ i ∧ jget l j = some u ∧ ¬ (j + 1 = i ∧ jlng u)) := by
  induction l with
  | nil => intro i j v u h; simp [jset1, jget] at h
  | cons a t ih =>
    intro i j v u h
    match i, j with
    | 0, 0 => simp only [jset1, jget, Option.some.injEq] at h; exact Or.inl ⟨rfl, h.symm⟩
    | 0, j + 1 => simp only [jset1, jget] at h; exact Or.inr ⟨by omega, by simpa [jget] using h, by omega⟩
    | 1, 0 =>
      simp only [jset1, jget] at h
      refine Or.inr ⟨by omega, ?_, ?_⟩
      · split at h <;> first | (cases h; done) | simpa [jget] using h
      · rintro ⟨-, hl⟩
        split at h
        · cases h
        · rename_i hn
          subst h
          match u, hl with
          | .inr (.inl z), _ => exact hn z rfl
    | 1, j + 1 =>
      simp only [jset1, jget] at h
      rcases ih h with ⟨rfl, rfl⟩ | ⟨h1, h2, h3⟩
      · exact Or.inl ⟨rfl, rfl⟩
      · exact Or.inr ⟨by omega, by simpa [jget] using h2, by omega⟩
    | n + 2, 0 =>
      simp only [jset1, jget] at h
      exact Or.inr ⟨by omega, by simpa [jget] using h, by omega⟩
    | n + 2, j + 1 =>
      simp only [jset1, jget] at h
      rcases ih h with ⟨h1, rfl⟩ | ⟨h1, h2, h3⟩
      · exact Or.inl ⟨by omega, rfl⟩
      · exact Or.inr ⟨by omega, by simpa [jget] using h2, fun q => h3 ⟨by omega, q.2⟩⟩
theorem jset2_len (l : jxL) : ∀ (i : Nat) (v : jxV), (jset2 l i v).length = l.length := by
  induction l with
  | nil => intro i v; simp [jset2]
  | cons a t ih =>
    intro i v
    match i with
    | 0 => cases t <;> simp [jset2]
    | 1 => simp [jset2, ih]
    | n + 2 => simp [jset2, ih]
theorem jset2_get (l : jxL) : ∀ {i j : Nat} {v u : jxV}, jget (jset2 l i v) j = some u → (j = i ∧ u = v) ∨ (j ≠ i ∧ j ≠ i + 1 ∧ jget l j = some u ∧ ¬ (j + 1 = i ∧ jlng u)) := by
  induction l with
  | nil => intro i j v u h; simp [jset2, jget] at h
  | cons a t ih =>
    intro i j v u h
    match i, j with
    | 0, 0 => simp only [jset2, jget, Option.some.injEq] at h; exact Or.inl ⟨rfl, h.symm⟩
    | 0, 1 => cases t <;> simp [jset2, jget] at h
    | 0, j + 2 =>
      cases t with
      | nil => simp [jset2, jget] at h
      | cons b t => simp only [jset2, jget] at h; exact Or.inr ⟨by omega, by omega, by simpa [jget] using h, by omega⟩
    | 1, 0 =>
      simp only [jset2, jget] at h
      refine Or.inr ⟨by omega, by omega, ?_, ?_⟩
      · split at h <;> first | (cases h; done) | simpa [jget] using h
      · rintro ⟨-, hl⟩
        split at h
        · cases h
        · rename_i hn
          subst h
          match u, hl with
          | .inr (.inl z), _ => exact hn z rfl
    | 1, j + 1 =>
      simp only [jset2, jget] at h
      rcases ih h with ⟨rfl, rfl⟩ | ⟨h1, h2, h3, h4⟩
      · exact Or.inl ⟨rfl, rfl⟩
      · exact Or.inr ⟨by omega, by omega, by simpa [jget] using h3, by omega⟩
    | n + 2, 0 =>
      simp only [jset2, jget] at h
      exact Or.inr ⟨by omega, by omega, by simpa [jget] using h, by omega⟩
    | n + 2, j + 1 =>
      simp only [jset2, jget] at h
      rcases ih h with ⟨h1, rfl⟩ | ⟨h1, h2, h3, h4⟩
      · exact Or.inl ⟨by omega, rfl⟩
      · exact Or.inr ⟨by omega, by omega, by simpa [jget] using h3, fun q => h4 ⟨by omega, q.2⟩⟩
theorem jcat2 {ad : Nat → Nat} {u : jxV} (h : (jtoV ad u).category = 2) : jlng u := by
  match u with
  | .inl x => simp [jtoV, Value.category] at h
  | .inr (.inl x) => trivial
  | .inr (.inr (.inl x)) => simp [jtoV, Value.category] at h
  | .inr (.inr (.inr x)) => simp [jtoV, Value.category] at h
theorem jLH.set1 {ls ls' : Array Slot} {nL i : Nat} {ad : Nat → Nat} {loc : jxL} {v : jxV} (h : jLH ls nL ad loc) (h' : lv_has ls' nL ((i, jtoV ad v) :: (jlv ad 0 loc).filter (fun q => !(q.1 == i) && !(q.1 + 1 == i && q.2.category == 2)))) : jLH ls' nL ad (jset1 loc i v) := by
  refine ⟨h'.1, h'.2.1, by rw [jset1_len]; exact h.2.2.1, fun j u hu => ?_⟩
  rcases jset1_get loc hu with ⟨rfl, rfl⟩ | ⟨h1, h2, h3⟩
  · exact h'.2.2 (j, jtoV ad u) List.mem_cons_self
  · refine h'.2.2 (j, jtoV ad u) (List.mem_cons_of_mem _ (List.mem_filter.mpr ⟨by simpa using jlv_of (n := 0) h2, ?_⟩))
    by_cases hj : j + 1 = i
    · have hc : ¬ (jtoV ad u).category = 2 := fun q => h3 ⟨hj, jcat2 q⟩
      simp [h1, hc]
    · simp [h1, hj]
theorem jLH.set2 {ls ls' : Array Slot} {nL i : Nat} {ad : Nat → Nat} {loc : jxL} {v : jxV} (h : jLH ls nL ad loc) (h' : lv_has ls' nL ((i, jtoV ad v) :: (jlv ad 0 loc).filter (fun q => !(q.1 == i) && (!(q.1 == i + 1) && !(q.1 + 1 == i && q.2.category == 2))))) : jLH ls' nL ad (jset2 loc i v) := by
  refine ⟨h'.1, h'.2.1, by rw [jset2_len]; exact h.2.2.1, fun j u hu => ?_⟩
  rcases jset2_get loc hu with ⟨rfl, rfl⟩ | ⟨h1, h2, h3, h4⟩
  · exact h'.2.2 (j, jtoV ad u) List.mem_cons_self
  · refine h'.2.2 (j, jtoV ad u) (List.mem_cons_of_mem _ (List.mem_filter.mpr ⟨by simpa using jlv_of (n := 0) h3, ?_⟩))
    by_cases hj : j + 1 = i
    · have hc : ¬ (jtoV ad u).category = 2 := fun q => h4 ⟨hj, jcat2 q⟩
      simp [h1, h2, hc]
    · simp [h1, h2, hj]
theorem jnar_z (v : Int) : vp_nar .boolean (jI v) = jI (v % 2) := by
  have e : vp_nar .boolean (jI v) = jI v &&& 1 := by simp [vp_nar, narrow]
  rw [e]
  have h1 := pk_and (jI v) (m := 1) 1 rfl
  rw [h1]
  apply Int32.toInt_inj.mp
  rw [jw_toInt]
  have h2 : (jI v).toBitVec.toNat = (v % 4294967296).toNat := by
    show (BitVec.ofInt 32 v).toNat = _
    rw [BitVec.toNat_ofInt]
    rfl
  have h3 : (jI v).toBitVec.toNat % 2 ^ 1 < 2 ^ 31 := by omega
  rw [nI_toInt h3, h2]
  unfold jw
  omega
section JS
variable {X : jxX} {Q : State → Prop} {pc : Nat} {loc : jxL} {r st : List jxV} {σ : jxS}
theorem jw_iadd {x y : Int} (hX : jOK X) (hd : decode (jcc X) pc = .ok (.iadd, 1)) (hk : jWj X Q (pc + 1) loc (jmi (x + y) :: r) σ) : jWj X Q pc loc (jmi y :: jmi x :: r) σ := by
  obtain ⟨p, l, e, R, s, m, args, below, meth, c, cc, nL, own, D, cy, A, ad, sh, kd⟩ := X
  obtain ⟨hx, hb, hml, hown, hts, hlk, hK, hA, hBG, hr⟩ := hX
  intro H locs ls hP hD hS hL
  have k := hk H locs ls hP hD hS hL
  simp only [List.map_cons, jtoV, jI_add] at k ⊢
  exact lv_iadd hx hb hd k
theorem jw_isub {x y : Int} (hX : jOK X) (hd : decode (jcc X) pc = .ok (.isub, 1)) (hk : jWj X Q (pc + 1) loc (jmi (x - y) :: r) σ) : jWj X Q pc loc (jmi y :: jmi x :: r) σ := by
  obtain ⟨p, l, e, R, s, m, args, below, meth, c, cc, nL, own, D, cy, A, ad, sh, kd⟩ := X
  obtain ⟨hx, hb, hml, hown, hts, hlk, hK, hA, hBG, hr⟩ := hX
  intro H locs ls hP hD hS hL
  have k := hk H locs ls hP hD hS hL
  simp only [List.map_cons, jtoV, jI_sub] at k ⊢
  exact lv_isub hx hb hd k
theorem jw_imul {x y : Int} (hX : jOK X) (hd : decode (jcc X) pc = .ok (.imul, 1)) (hk : jWj X Q (pc + 1) loc (jmi (x * y) :: r) σ) : jWj X Q pc loc (jmi y :: jmi x :: r) σ := by
  obtain ⟨p, l, e, R, s, m, args, below, meth, c, cc, nL, own, D, cy, A, ad, sh, kd⟩ := X
  obtain ⟨hx, hb, hml, hown, hts, hlk, hK, hA, hBG, hr⟩ := hX
  intro H locs ls hP hD hS hL
  have k := hk H locs ls hP hD hS hL
  simp only [List.map_cons, jtoV, jI_mul] at k ⊢
  exact lv_imul hx hb hd k
theorem jw_iand {x y : Int} (hX : jOK X) (hd : decode (jcc X) pc = .ok (.iand, 1)) (hk : jWj X Q (pc + 1) loc (jmi (jand x y) :: r) σ) : jWj X Q pc loc (jmi y :: jmi x :: r) σ := by
  obtain ⟨p, l, e, R, s, m, args, below, meth, c, cc, nL, own, D, cy, A, ad, sh, kd⟩ := X
  obtain ⟨hx, hb, hml, hown, hts, hlk, hK, hA, hBG, hr⟩ := hX
  intro H locs ls hP hD hS hL
  have k := hk H locs ls hP hD hS hL
  simp only [List.map_cons, jtoV, jI_and] at k ⊢
  exact lv_iand hx hb hd k
theorem jw_ior {x y : Int} (hX : jOK X) (hd : decode (jcc X) pc = .ok (.ior, 1)) (hk : jWj X Q (pc + 1) loc (jmi (jor x y) :: r) σ) : jWj X Q pc loc (jmi y :: jmi x :: r) σ := by
  obtain ⟨p, l, e, R, s, m, args, below, meth, c, cc, nL, own, D, cy, A, ad, sh, kd⟩ := X
  obtain ⟨hx, hb, hml, hown, hts, hlk, hK, hA, hBG, hr⟩ := hX
  intro H locs ls hP hD hS hL
  have k := hk H locs ls hP hD hS hL
  simp only [List.map_cons, jtoV, jI_or] at k ⊢
  exact lv_ior hx hb hd k
theorem jw_ixor {x y : Int} (hX : jOK X) (hd : decode (jcc X) pc = .ok (.ixor, 1)) (hk : jWj X Q (pc + 1) loc (jmi (jxor x y) :: r) σ) : jWj X Q pc loc (jmi y :: jmi x :: r) σ := by
  obtain ⟨p, l, e, R, s, m, args, below, meth, c, cc, nL, own, D, cy, A, ad, sh, kd⟩ := X
  obtain ⟨hx, hb, hml, hown, hts, hlk, hK, hA, hBG, hr⟩ := hX
  intro H locs ls hP hD hS hL
  have k := hk H locs ls hP hD hS hL
  simp only [List.map_cons, jtoV, jI_xor] at k ⊢
  exact lv_ixor hx hb hd k
theorem jw_ishl {x y : Int} (hX : jOK X) (hd : decode (jcc X) pc = .ok (.ishl, 1)) (hk : jWj X Q (pc + 1) loc (jmi (jshl x y) :: r) σ) : jWj X Q pc loc (jmi y :: jmi x :: r) σ := by
  obtain ⟨p, l, e, R, s, m, args, below, meth, c, cc, nL, own, D, cy, A, ad, sh, kd⟩ := X
  obtain ⟨hx, hb, hml, hown, hts, hlk, hK, hA, hBG, hr⟩ := hX
  intro H locs ls hP hD hS hL
  have k := hk H locs ls hP hD hS hL
  simp only [List.map_cons, jtoV, jI_shl] at k ⊢
  exact lv_ishl hx hb hd k
theorem jw_ishr {x y : Int} (hX : jOK X) (hd : decode (jcc X) pc = .ok (.ishr, 1)) (hk : jWj X Q (pc + 1) loc (jmi (jshr x y) :: r) σ) : jWj X Q pc loc (jmi y :: jmi x :: r) σ := by
  obtain ⟨p, l, e, R, s, m, args, below, meth, c, cc, nL, own, D, cy, A, ad, sh, kd⟩ := X
  obtain ⟨hx, hb, hml, hown, hts, hlk, hK, hA, hBG, hr⟩ := hX
  intro H locs ls hP hD hS hL
  have k := hk H locs ls hP hD hS hL
  simp only [List.map_cons, jtoV, jI_shr] at k ⊢
  exact lv_ishr hx hb hd k
theorem jw_iushr {x y : Int} (hX : jOK X) (hd : decode (jcc X) pc = .ok (.iushr, 1)) (hk : jWj X Q (pc + 1) loc (jmi (jushr x y) :: r) σ) : jWj X Q pc loc (jmi y :: jmi x :: r) σ := by
  obtain ⟨p, l, e, R, s, m, args, below, meth, c, cc, nL, own, D, cy, A, ad, sh, kd⟩ := X
  obtain ⟨hx, hb, hml, hown, hts, hlk, hK, hA, hBG, hr⟩ := hX
  intro H locs ls hP hD hS hL
  have k := hk H locs ls hP hD hS hL
  simp only [List.map_cons, jtoV, jI_ushr] at k ⊢
  exact lv_iushr hx hb hd rfl k
theorem jw_ladd {x y : Int} (hX : jOK X) (hd : decode (jcc X) pc = .ok (.ladd, 1)) (hk : jWj X Q (pc + 1) loc (jml (x + y) :: r) σ) : jWj X Q pc loc (jml y :: jml x :: r) σ := by
  obtain ⟨p, l, e, R, s, m, args, below, meth, c, cc, nL, own, D, cy, A, ad, sh, kd⟩ := X
  obtain ⟨hx, hb, hml, hown, hts, hlk, hK, hA, hBG, hr⟩ := hX
  intro H locs ls hP hD hS hL
  have k := hk H locs ls hP hD hS hL
  simp only [List.map_cons, jtoV, jL_add] at k ⊢
  exact lv_ladd hx hb hd k
theorem jw_lmul {x y : Int} (hX : jOK X) (hd : decode (jcc X) pc = .ok (.lmul, 1)) (hk : jWj X Q (pc + 1) loc (jml (x * y) :: r) σ) : jWj X Q pc loc (jml y :: jml x :: r) σ := by
  obtain ⟨p, l, e, R, s, m, args, below, meth, c, cc, nL, own, D, cy, A, ad, sh, kd⟩ := X
  obtain ⟨hx, hb, hml, hown, hts, hlk, hK, hA, hBG, hr⟩ := hX
  intro H locs ls hP hD hS hL
  have k := hk H locs ls hP hD hS hL
  simp only [List.map_cons, jtoV, jL_mul] at k ⊢
  exact lv_lmul hx hb hd k
theorem jw_land {x y : Int} (hX : jOK X) (hd : decode (jcc X) pc = .ok (.land, 1)) (hk : jWj X Q (pc + 1) loc (jml (jland x y) :: r) σ) : jWj X Q pc loc (jml y :: jml x :: r) σ := by
  obtain ⟨p, l, e, R, s, m, args, below, meth, c, cc, nL, own, D, cy, A, ad, sh, kd⟩ := X
  obtain ⟨hx, hb, hml, hown, hts, hlk, hK, hA, hBG, hr⟩ := hX
  intro H locs ls hP hD hS hL
  have k := hk H locs ls hP hD hS hL
  simp only [List.map_cons, jtoV, jL_and] at k ⊢
  exact lv_land hx hb hd k
theorem jw_lor {x y : Int} (hX : jOK X) (hd : decode (jcc X) pc = .ok (.lor, 1)) (hk : jWj X Q (pc + 1) loc (jml (jlor x y) :: r) σ) : jWj X Q pc loc (jml y :: jml x :: r) σ := by
  obtain ⟨p, l, e, R, s, m, args, below, meth, c, cc, nL, own, D, cy, A, ad, sh, kd⟩ := X
  obtain ⟨hx, hb, hml, hown, hts, hlk, hK, hA, hBG, hr⟩ := hX
  intro H locs ls hP hD hS hL
  have k := hk H locs ls hP hD hS hL
  simp only [List.map_cons, jtoV, jL_or] at k ⊢
  exact lv_lor hx hb hd k
theorem jw_lxor {x y : Int} (hX : jOK X) (hd : decode (jcc X) pc = .ok (.lxor, 1)) (hk : jWj X Q (pc + 1) loc (jml (jlxor x y) :: r) σ) : jWj X Q pc loc (jml y :: jml x :: r) σ := by
  obtain ⟨p, l, e, R, s, m, args, below, meth, c, cc, nL, own, D, cy, A, ad, sh, kd⟩ := X
  obtain ⟨hx, hb, hml, hown, hts, hlk, hK, hA, hBG, hr⟩ := hX
  intro H locs ls hP hD hS hL
  have k := hk H locs ls hP hD hS hL
  simp only [List.map_cons, jtoV, jL_xor] at k ⊢
  exact lv_lxor hx hb hd k
theorem jw_idiv {x y : Int} (h0 : ¬ jw y = 0) (hX : jOK X) (hd : decode (jcc X) pc = .ok (.idiv, 1)) (hk : jWj X Q (pc + 1) loc (jmi (jdiv x y) :: r) σ) : jWj X Q pc loc (jmi y :: jmi x :: r) σ := by
  obtain ⟨p, l, e, R, s, m, args, below, meth, c, cc, nL, own, D, cy, A, ad, sh, kd⟩ := X
  obtain ⟨hx, hb, hml, hown, hts, hlk, hK, hA, hBG, hr⟩ := hX
  intro H locs ls hP hD hS hL
  have k := hk H locs ls hP hD hS hL
  simp only [List.map_cons, jtoV, jI_div] at k ⊢
  exact lv_idiv hx hb hd (fun h => h0 ((jI_eq0 y).mp h)) k
theorem jw_irem {x y : Int} (h0 : ¬ jw y = 0) (hX : jOK X) (hd : decode (jcc X) pc = .ok (.irem, 1)) (hk : jWj X Q (pc + 1) loc (jmi (jrem x y) :: r) σ) : jWj X Q pc loc (jmi y :: jmi x :: r) σ := by
  obtain ⟨p, l, e, R, s, m, args, below, meth, c, cc, nL, own, D, cy, A, ad, sh, kd⟩ := X
  obtain ⟨hx, hb, hml, hown, hts, hlk, hK, hA, hBG, hr⟩ := hX
  intro H locs ls hP hD hS hL
  have k := hk H locs ls hP hD hS hL
  simp only [List.map_cons, jtoV, jI_rem] at k ⊢
  exact lv_irem hx hb hd (fun h => h0 ((jI_eq0 y).mp h)) k
theorem jw_ldiv {x y : Int} (h0 : ¬ jw64 y = 0) (hX : jOK X) (hd : decode (jcc X) pc = .ok (.ldiv, 1)) (hk : jWj X Q (pc + 1) loc (jml (jldiv x y) :: r) σ) : jWj X Q pc loc (jml y :: jml x :: r) σ := by
  obtain ⟨p, l, e, R, s, m, args, below, meth, c, cc, nL, own, D, cy, A, ad, sh, kd⟩ := X
  obtain ⟨hx, hb, hml, hown, hts, hlk, hK, hA, hBG, hr⟩ := hX
  intro H locs ls hP hD hS hL
  have k := hk H locs ls hP hD hS hL
  simp only [List.map_cons, jtoV, jL_div] at k ⊢
  exact lv_ldiv hx hb hd (fun h => h0 ((jL_eq0 y).mp h)) k
theorem jw_lrem {x y : Int} (h0 : ¬ jw64 y = 0) (hX : jOK X) (hd : decode (jcc X) pc = .ok (.lrem, 1)) (hk : jWj X Q (pc + 1) loc (jml (jlrem x y) :: r) σ) : jWj X Q pc loc (jml y :: jml x :: r) σ := by
  obtain ⟨p, l, e, R, s, m, args, below, meth, c, cc, nL, own, D, cy, A, ad, sh, kd⟩ := X
  obtain ⟨hx, hb, hml, hown, hts, hlk, hK, hA, hBG, hr⟩ := hX
  intro H locs ls hP hD hS hL
  have k := hk H locs ls hP hD hS hL
  simp only [List.map_cons, jtoV, jL_rem] at k ⊢
  exact lv_lrem hx hb hd (fun h => h0 ((jL_eq0 y).mp h)) k
theorem jw_lshl {x y : Int} (hX : jOK X) (hd : decode (jcc X) pc = .ok (.lshl, 1)) (hk : jWj X Q (pc + 1) loc (jml (jlshl x y) :: r) σ) : jWj X Q pc loc (jmi y :: jml x :: r) σ := by
  obtain ⟨p, l, e, R, s, m, args, below, meth, c, cc, nL, own, D, cy, A, ad, sh, kd⟩ := X
  obtain ⟨hx, hb, hml, hown, hts, hlk, hK, hA, hBG, hr⟩ := hX
  intro H locs ls hP hD hS hL
  have k := hk H locs ls hP hD hS hL
  simp only [List.map_cons, jtoV, jL_shl] at k ⊢
  exact lv_lshl hx hb hd rfl k
theorem jw_lshr {x y : Int} (hX : jOK X) (hd : decode (jcc X) pc = .ok (.lshr, 1)) (hk : jWj X Q (pc + 1) loc (jml (jlshr x y) :: r) σ) : jWj X Q pc loc (jmi y :: jml x :: r) σ := by
  obtain ⟨p, l, e, R, s, m, args, below, meth, c, cc, nL, own, D, cy, A, ad, sh, kd⟩ := X
  obtain ⟨hx, hb, hml, hown, hts, hlk, hK, hA, hBG, hr⟩ := hX
  intro H locs ls hP hD hS hL
  have k := hk H locs ls hP hD hS hL
  simp only [List.map_cons, jtoV, jL_shr] at k ⊢
  exact lv_lshr hx hb hd rfl k
theorem jw_lcmp {x y : Int} (hX : jOK X) (hd : decode (jcc X) pc = .ok (.lcmp, 1)) (hk : jWj X Q (pc + 1) loc (jmi (jlcmp x y) :: r) σ) : jWj X Q pc loc (jml y :: jml x :: r) σ := by
  obtain ⟨p, l, e, R, s, m, args, below, meth, c, cc, nL, own, D, cy, A, ad, sh, kd⟩ := X
  obtain ⟨hx, hb, hml, hown, hts, hlk, hK, hA, hBG, hr⟩ := hX
  intro H locs ls hP hD hS hL
  have k := hk H locs ls hP hD hS hL
  simp only [List.map_cons, jtoV, jI_lcmp] at k ⊢
  exact W.lcmp hx hb hd k
theorem jw_i2l {x : Int} (hX : jOK X) (hd : decode (jcc X) pc = .ok (.i2l, 1)) (hk : jWj X Q (pc + 1) loc (jml (jw x) :: r) σ) : jWj X Q pc loc (jmi x :: r) σ := by
  obtain ⟨p, l, e, R, s, m, args, below, meth, c, cc, nL, own, D, cy, A, ad, sh, kd⟩ := X
  obtain ⟨hx, hb, hml, hown, hts, hlk, hK, hA, hBG, hr⟩ := hX
  intro H locs ls hP hD hS hL
  have k := hk H locs ls hP hD hS hL
  simp only [List.map_cons, jtoV, jL_i] at k ⊢
  exact lv_i2l hx hb hd rfl k
theorem jw_l2i {x : Int} (hX : jOK X) (hd : decode (jcc X) pc = .ok (.l2i, 1)) (hk : jWj X Q (pc + 1) loc (jmi x :: r) σ) : jWj X Q pc loc (jml x :: r) σ := by
  obtain ⟨p, l, e, R, s, m, args, below, meth, c, cc, nL, own, D, cy, A, ad, sh, kd⟩ := X
  obtain ⟨hx, hb, hml, hown, hts, hlk, hK, hA, hBG, hr⟩ := hX
  intro H locs ls hP hD hS hL
  have k := hk H locs ls hP hD hS hL
  simp only [List.map_cons, jtoV] at k ⊢
  exact lv_l2i hx hb hd (jI_l x).symm k
theorem jw_i2b {x : Int} (hX : jOK X) (hd : decode (jcc X) pc = .ok (.i2b, 1)) (hk : jWj X Q (pc + 1) loc (jmi (jw8 x) :: r) σ) : jWj X Q pc loc (jmi x :: r) σ := by
  obtain ⟨p, l, e, R, s, m, args, below, meth, c, cc, nL, own, D, cy, A, ad, sh, kd⟩ := X
  obtain ⟨hx, hb, hml, hown, hts, hlk, hK, hA, hBG, hr⟩ := hX
  intro H locs ls hP hD hS hL
  have k := hk H locs ls hP hD hS hL
  simp only [List.map_cons, jtoV, jI_b] at k ⊢
  exact lv_i2b hx hb hd rfl k
theorem jw_iconst {n : Int} (hX : jOK X) (hd : decode (jcc X) pc = .ok (.iconst n, 1)) (hk : jWj X Q (pc + 1) loc (jmi n :: st) σ) : jWj X Q pc loc (st) σ := by
  obtain ⟨p, l, e, R, s, m, args, below, meth, c, cc, nL, own, D, cy, A, ad, sh, kd⟩ := X
  obtain ⟨hx, hb, hml, hown, hts, hlk, hK, hA, hBG, hr⟩ := hX
  intro H locs ls hP hD hS hL
  have k := hk H locs ls hP hD hS hL
  simp only [List.map_cons, jtoV] at k ⊢
  exact lv_iconst hx hb hd rfl k
theorem jw_bipush {n : Int} (hn : -128 ≤ n ∧ n ≤ 127) (hX : jOK X) (hd : decode (jcc X) pc = .ok (.bipush n, 2)) (hk : jWj X Q (pc + 2) loc (jmi n :: st) σ) : jWj X Q pc loc (st) σ := by
  obtain ⟨p, l, e, R, s, m, args, below, meth, c, cc, nL, own, D, cy, A, ad, sh, kd⟩ := X
  obtain ⟨hx, hb, hml, hown, hts, hlk, hK, hA, hBG, hr⟩ := hX
  intro H locs ls hP hD hS hL
  have k := hk H locs ls hP hD hS hL
  simp only [List.map_cons, jtoV] at k ⊢
  exact lv_bipush hx hb hd (by apply Int32.toInt_inj.mp; rw [Int8.toInt_toInt32, Int8.toInt_ofInt, jw_toInt, Int.bmod_def]; unfold jw; have : ((Int8.size : Nat) : Int) = 256 := rfl; split <;> simp_all <;> omega) k
theorem jw_sipush {n : Int} (hn : -32768 ≤ n ∧ n ≤ 32767) (hX : jOK X) (hd : decode (jcc X) pc = .ok (.sipush n, 3)) (hk : jWj X Q (pc + 3) loc (jmi n :: st) σ) : jWj X Q pc loc (st) σ := by
  obtain ⟨p, l, e, R, s, m, args, below, meth, c, cc, nL, own, D, cy, A, ad, sh, kd⟩ := X
  obtain ⟨hx, hb, hml, hown, hts, hlk, hK, hA, hBG, hr⟩ := hX
  intro H locs ls hP hD hS hL
  have k := hk H locs ls hP hD hS hL
  simp only [List.map_cons, jtoV] at k ⊢
  exact lv_sipush hx hb hd (by apply Int32.toInt_inj.mp; rw [Int16.toInt_toInt32, Int16.toInt_ofInt, jw_toInt, Int.bmod_def]; unfold jw; have : ((Int16.size : Nat) : Int) = 65536 := rfl; split <;> simp_all <;> omega) k
theorem jw_lconst {n : Fin 2} (hX : jOK X) (hd : decode (jcc X) pc = .ok (.lconst n, 1)) (hk : jWj X Q (pc + 1) loc (jml (n.val : Int) :: st) σ) : jWj X Q pc loc (st) σ := by
  obtain ⟨p, l, e, R, s, m, args, below, meth, c, cc, nL, own, D, cy, A, ad, sh, kd⟩ := X
  obtain ⟨hx, hb, hml, hown, hts, hlk, hK, hA, hBG, hr⟩ := hX
  intro H locs ls hP hD hS hL
  have k := hk H locs ls hP hD hS hL
  simp only [List.map_cons, jtoV] at k ⊢
  exact lv_lconst hx hb hd rfl k
theorem jw_null (hX : jOK X) (hd : decode (jcc X) pc = .ok (.aconst_null, 1)) (hk : jWj X Q (pc + 1) loc (jmn :: st) σ) : jWj X Q pc loc (st) σ := by
  obtain ⟨p, l, e, R, s, m, args, below, meth, c, cc, nL, own, D, cy, A, ad, sh, kd⟩ := X
  obtain ⟨hx, hb, hml, hown, hts, hlk, hK, hA, hBG, hr⟩ := hX
  intro H locs ls hP hD hS hL
  have k := hk H locs ls hP hD hS hL
  simp only [List.map_cons, jtoV] at k ⊢
  exact lv_null hx hb hd k
theorem jw_dupi {x : Int} (hX : jOK X) (hd : decode (jcc X) pc = .ok (.dup, 1)) (hk : jWj X Q (pc + 1) loc (jmi x :: jmi x :: r) σ) : jWj X Q pc loc (jmi x :: r) σ := by
  obtain ⟨p, l, e, R, s, m, args, below, meth, c, cc, nL, own, D, cy, A, ad, sh, kd⟩ := X
  obtain ⟨hx, hb, hml, hown, hts, hlk, hK, hA, hBG, hr⟩ := hX
  intro H locs ls hP hD hS hL
  have k := hk H locs ls hP hD hS hL
  simp only [List.map_cons, jtoV] at k ⊢
  exact lv_dup hx hb hd rfl k
theorem jw_dupr {x : Nat} (hX : jOK X) (hd : decode (jcc X) pc = .ok (.dup, 1)) (hk : jWj X Q (pc + 1) loc (jmr x :: jmr x :: r) σ) : jWj X Q pc loc (jmr x :: r) σ := by
  obtain ⟨p, l, e, R, s, m, args, below, meth, c, cc, nL, own, D, cy, A, ad, sh, kd⟩ := X
  obtain ⟨hx, hb, hml, hown, hts, hlk, hK, hA, hBG, hr⟩ := hX
  intro H locs ls hP hD hS hL
  have k := hk H locs ls hP hD hS hL
  simp only [List.map_cons, jtoV] at k ⊢
  exact lv_dup hx hb hd rfl k
theorem jw_dupn (hX : jOK X) (hd : decode (jcc X) pc = .ok (.dup, 1)) (hk : jWj X Q (pc + 1) loc (jmn :: jmn :: r) σ) : jWj X Q pc loc (jmn :: r) σ := by
  obtain ⟨p, l, e, R, s, m, args, below, meth, c, cc, nL, own, D, cy, A, ad, sh, kd⟩ := X
  obtain ⟨hx, hb, hml, hown, hts, hlk, hK, hA, hBG, hr⟩ := hX
  intro H locs ls hP hD hS hL
  have k := hk H locs ls hP hD hS hL
  simp only [List.map_cons, jtoV] at k ⊢
  exact lv_dup hx hb hd rfl k
theorem jw_dup2r {y : Int} {x : Nat} (hX : jOK X) (hd : decode (jcc X) pc = .ok (.dup2, 1)) (hk : jWj X Q (pc + 1) loc (jmi y :: jmr x :: jmi y :: jmr x :: r) σ) : jWj X Q pc loc (jmi y :: jmr x :: r) σ := by
  obtain ⟨p, l, e, R, s, m, args, below, meth, c, cc, nL, own, D, cy, A, ad, sh, kd⟩ := X
  obtain ⟨hx, hb, hml, hown, hts, hlk, hK, hA, hBG, hr⟩ := hX
  intro H locs ls hP hD hS hL
  have k := hk H locs ls hP hD hS hL
  simp only [List.map_cons, jtoV] at k ⊢
  exact lv_dup2_11 hx hb hd rfl rfl k
theorem jw_dup2n {y : Int} (hX : jOK X) (hd : decode (jcc X) pc = .ok (.dup2, 1)) (hk : jWj X Q (pc + 1) loc (jmi y :: jmn :: jmi y :: jmn :: r) σ) : jWj X Q pc loc (jmi y :: jmn :: r) σ := by
  obtain ⟨p, l, e, R, s, m, args, below, meth, c, cc, nL, own, D, cy, A, ad, sh, kd⟩ := X
  obtain ⟨hx, hb, hml, hown, hts, hlk, hK, hA, hBG, hr⟩ := hX
  intro H locs ls hP hD hS hL
  have k := hk H locs ls hP hD hS hL
  simp only [List.map_cons, jtoV] at k ⊢
  exact lv_dup2_11 hx hb hd rfl rfl k
theorem jw_popi {x : Int} (hX : jOK X) (hd : decode (jcc X) pc = .ok (.pop, 1)) (hk : jWj X Q (pc + 1) loc (r) σ) : jWj X Q pc loc (jmi x :: r) σ := by
  obtain ⟨p, l, e, R, s, m, args, below, meth, c, cc, nL, own, D, cy, A, ad, sh, kd⟩ := X
  obtain ⟨hx, hb, hml, hown, hts, hlk, hK, hA, hBG, hr⟩ := hX
  intro H locs ls hP hD hS hL
  have k := hk H locs ls hP hD hS hL
  simp only [List.map_cons, jtoV] at k ⊢
  exact lv_pop hx hb hd rfl k
theorem jw_popr {x : Nat} (hX : jOK X) (hd : decode (jcc X) pc = .ok (.pop, 1)) (hk : jWj X Q (pc + 1) loc (r) σ) : jWj X Q pc loc (jmr x :: r) σ := by
  obtain ⟨p, l, e, R, s, m, args, below, meth, c, cc, nL, own, D, cy, A, ad, sh, kd⟩ := X
  obtain ⟨hx, hb, hml, hown, hts, hlk, hK, hA, hBG, hr⟩ := hX
  intro H locs ls hP hD hS hL
  have k := hk H locs ls hP hD hS hL
  simp only [List.map_cons, jtoV] at k ⊢
  exact lv_pop hx hb hd rfl k
theorem jw_popn (hX : jOK X) (hd : decode (jcc X) pc = .ok (.pop, 1)) (hk : jWj X Q (pc + 1) loc (r) σ) : jWj X Q pc loc (jmn :: r) σ := by
  obtain ⟨p, l, e, R, s, m, args, below, meth, c, cc, nL, own, D, cy, A, ad, sh, kd⟩ := X
  obtain ⟨hx, hb, hml, hown, hts, hlk, hK, hA, hBG, hr⟩ := hX
  intro H locs ls hP hD hS hL
  have k := hk H locs ls hP hD hS hL
  simp only [List.map_cons, jtoV] at k ⊢
  exact lv_pop hx hb hd rfl k
theorem jw_ldi_n {n : Fin 4} {x : Int} (hg : jget loc n.val = some (jmi x)) (hX : jOK X) (hd : decode (jcc X) pc = .ok (.iload_n n, 1)) (hk : jWj X Q (pc + 1) loc (jmi x :: st) σ) : jWj X Q pc loc (st) σ := by
  obtain ⟨p, l, e, R, s, m, args, below, meth, c, cc, nL, own, D, cy, A, ad, sh, kd⟩ := X
  obtain ⟨hx, hb, hml, hown, hts, hlk, hK, hA, hBG, hr⟩ := hX
  intro H locs ls hP hD hS hL
  have k := hk H locs ls hP hD hS hL
  simp only [List.map_cons, jtoV] at k ⊢
  exact lv_iload_n hx hb hd rfl (hL.2.2.2 _ _ hg) k
theorem jw_ldl_n {n : Fin 4} {x : Int} (hg : jget loc n.val = some (jml x)) (hX : jOK X) (hd : decode (jcc X) pc = .ok (.lload_n n, 1)) (hk : jWj X Q (pc + 1) loc (jml x :: st) σ) : jWj X Q pc loc (st) σ := by
  obtain ⟨p, l, e, R, s, m, args, below, meth, c, cc, nL, own, D, cy, A, ad, sh, kd⟩ := X
  obtain ⟨hx, hb, hml, hown, hts, hlk, hK, hA, hBG, hr⟩ := hX
  intro H locs ls hP hD hS hL
  have k := hk H locs ls hP hD hS hL
  simp only [List.map_cons, jtoV] at k ⊢
  exact lv_lload_n hx hb hd rfl (hL.2.2.2 _ _ hg) k
theorem jw_lda_n {n : Fin 4} {x : Nat} (hg : jget loc n.val = some (jmr x)) (hX : jOK X) (hd : decode (jcc X) pc = .ok (.aload_n n, 1)) (hk : jWj X Q (pc + 1) loc (jmr x :: st) σ) : jWj X Q pc loc (st) σ := by
  obtain ⟨p, l, e, R, s, m, args, below, meth, c, cc, nL, own, D, cy, A, ad, sh, kd⟩ := X
  obtain ⟨hx, hb, hml, hown, hts, hlk, hK, hA, hBG, hr⟩ := hX
  intro H locs ls hP hD hS hL
  have k := hk H locs ls hP hD hS hL
  simp only [List.map_cons, jtoV] at k ⊢
  exact lv_aload_n hx hb hd rfl (hL.2.2.2 _ _ hg) k
theorem jw_ldaN_n {n : Fin 4}  (hg : jget loc n.val = some (jmn)) (hX : jOK X) (hd : decode (jcc X) pc = .ok (.aload_n n, 1)) (hk : jWj X Q (pc + 1) loc (jmn :: st) σ) : jWj X Q pc loc (st) σ := by
  obtain ⟨p, l, e, R, s, m, args, below, meth, c, cc, nL, own, D, cy, A, ad, sh, kd⟩ := X
  obtain ⟨hx, hb, hml, hown, hts, hlk, hK, hA, hBG, hr⟩ := hX
  intro H locs ls hP hD hS hL
  have k := hk H locs ls hP hD hS hL
  simp only [List.map_cons, jtoV] at k ⊢
  exact lv_aload_nN hx hb hd rfl (hL.2.2.2 _ _ hg) k
theorem jw_ldi {n : Nat} {x : Int} (hg : jget loc n = some (jmi x)) (hX : jOK X) (hd : decode (jcc X) pc = .ok (.iload n, 2)) (hk : jWj X Q (pc + 2) loc (jmi x :: st) σ) : jWj X Q pc loc (st) σ := by
  obtain ⟨p, l, e, R, s, m, args, below, meth, c, cc, nL, own, D, cy, A, ad, sh, kd⟩ := X
  obtain ⟨hx, hb, hml, hown, hts, hlk, hK, hA, hBG, hr⟩ := hX
  intro H locs ls hP hD hS hL
  have k := hk H locs ls hP hD hS hL
  simp only [List.map_cons, jtoV] at k ⊢
  exact lv_iload hx hb hd (hL.2.2.2 _ _ hg) k
theorem jw_ldl {n : Nat} {x : Int} (hg : jget loc n = some (jml x)) (hX : jOK X) (hd : decode (jcc X) pc = .ok (.lload n, 2)) (hk : jWj X Q (pc + 2) loc (jml x :: st) σ) : jWj X Q pc loc (st) σ := by
  obtain ⟨p, l, e, R, s, m, args, below, meth, c, cc, nL, own, D, cy, A, ad, sh, kd⟩ := X
  obtain ⟨hx, hb, hml, hown, hts, hlk, hK, hA, hBG, hr⟩ := hX
  intro H locs ls hP hD hS hL
  have k := hk H locs ls hP hD hS hL
  simp only [List.map_cons, jtoV] at k ⊢
  exact lv_lload hx hb hd (hL.2.2.2 _ _ hg) k
theorem jw_lda {n : Nat} {x : Nat} (hg : jget loc n = some (jmr x)) (hX : jOK X) (hd : decode (jcc X) pc = .ok (.aload n, 2)) (hk : jWj X Q (pc + 2) loc (jmr x :: st) σ) : jWj X Q pc loc (st) σ := by
  obtain ⟨p, l, e, R, s, m, args, below, meth, c, cc, nL, own, D, cy, A, ad, sh, kd⟩ := X
  obtain ⟨hx, hb, hml, hown, hts, hlk, hK, hA, hBG, hr⟩ := hX
  intro H locs ls hP hD hS hL
  have k := hk H locs ls hP hD hS hL
  simp only [List.map_cons, jtoV] at k ⊢
  exact lv_aload hx hb hd (hL.2.2.2 _ _ hg) k
theorem jw_ldaN {n : Nat}  (hg : jget loc n = some (jmn)) (hX : jOK X) (hd : decode (jcc X) pc = .ok (.aload n, 2)) (hk : jWj X Q (pc + 2) loc (jmn :: st) σ) : jWj X Q pc loc (st) σ := by
  obtain ⟨p, l, e, R, s, m, args, below, meth, c, cc, nL, own, D, cy, A, ad, sh, kd⟩ := X
  obtain ⟨hx, hb, hml, hown, hts, hlk, hK, hA, hBG, hr⟩ := hX
  intro H locs ls hP hD hS hL
  have k := hk H locs ls hP hD hS hL
  simp only [List.map_cons, jtoV] at k ⊢
  exact lv_aloadN hx hb hd (hL.2.2.2 _ _ hg) k
theorem jw_sti_n {n : Fin 4} {x : Int} (hX : jOK X) (hn : n.val + 1 ≤ loc.length) (hd : decode (jcc X) pc = .ok (.istore_n n, 1)) (hk : jWj X Q (pc + 1) (jset1 loc n.val (jmi x)) r σ) : jWj X Q pc loc (jmi x :: r) σ := by
  obtain ⟨p, l, e, R, s, m, args, below, meth, c, cc, nL, own, D, cy, A, ad, sh, kd⟩ := X
  obtain ⟨hx, hb, hml, hown, hts, hlk, hK, hA, hBG, hr⟩ := hX
  intro H locs ls hP hD hS hL
  have hi := hL.2.2.1
  exact lv_istore_n hx hb hd rfl hL.has (by omega) rfl (fun ls' h' => hk H locs ls' hP hD hS (hL.set1 h'))
theorem jw_stl_n {n : Fin 4} {x : Int} (hX : jOK X) (hn : n.val + 2 ≤ loc.length) (hd : decode (jcc X) pc = .ok (.lstore_n n, 1)) (hk : jWj X Q (pc + 1) (jset2 loc n.val (jml x)) r σ) : jWj X Q pc loc (jml x :: r) σ := by
  obtain ⟨p, l, e, R, s, m, args, below, meth, c, cc, nL, own, D, cy, A, ad, sh, kd⟩ := X
  obtain ⟨hx, hb, hml, hown, hts, hlk, hK, hA, hBG, hr⟩ := hX
  intro H locs ls hP hD hS hL
  have hi := hL.2.2.1
  exact lv_lstore_n hx hb hd rfl hL.has (by omega) rfl (fun ls' h' => hk H locs ls' hP hD hS (hL.set2 h'))
theorem jw_sta_n {n : Fin 4} {x : Nat} (hX : jOK X) (hn : n.val + 1 ≤ loc.length) (hd : decode (jcc X) pc = .ok (.astore_n n, 1)) (hk : jWj X Q (pc + 1) (jset1 loc n.val (jmr x)) r σ) : jWj X Q pc loc (jmr x :: r) σ := by
  obtain ⟨p, l, e, R, s, m, args, below, meth, c, cc, nL, own, D, cy, A, ad, sh, kd⟩ := X
  obtain ⟨hx, hb, hml, hown, hts, hlk, hK, hA, hBG, hr⟩ := hX
  intro H locs ls hP hD hS hL
  have hi := hL.2.2.1
  exact lv_astore_n hx hb hd rfl hL.has (by omega) rfl (fun ls' h' => hk H locs ls' hP hD hS (hL.set1 h'))
theorem jw_sti {n : Nat} {x : Int} (hX : jOK X) (hn : n + 1 ≤ loc.length) (hd : decode (jcc X) pc = .ok (.istore n, 2)) (hk : jWj X Q (pc + 2) (jset1 loc n (jmi x)) r σ) : jWj X Q pc loc (jmi x :: r) σ := by
  obtain ⟨p, l, e, R, s, m, args, below, meth, c, cc, nL, own, D, cy, A, ad, sh, kd⟩ := X
  obtain ⟨hx, hb, hml, hown, hts, hlk, hK, hA, hBG, hr⟩ := hX
  intro H locs ls hP hD hS hL
  have hi := hL.2.2.1
  exact lv_istore hx hb hd hL.has (by omega) rfl (fun ls' h' => hk H locs ls' hP hD hS (hL.set1 h'))
theorem jw_stl {n : Nat} {x : Int} (hX : jOK X) (hn : n + 2 ≤ loc.length) (hd : decode (jcc X) pc = .ok (.lstore n, 2)) (hk : jWj X Q (pc + 2) (jset2 loc n (jml x)) r σ) : jWj X Q pc loc (jml x :: r) σ := by
  obtain ⟨p, l, e, R, s, m, args, below, meth, c, cc, nL, own, D, cy, A, ad, sh, kd⟩ := X
  obtain ⟨hx, hb, hml, hown, hts, hlk, hK, hA, hBG, hr⟩ := hX
  intro H locs ls hP hD hS hL
  have hi := hL.2.2.1
  exact lv_lstore hx hb hd hL.has (by omega) rfl (fun ls' h' => hk H locs ls' hP hD hS (hL.set2 h'))
theorem jw_sta {n : Nat} {x : Nat} (hX : jOK X) (hn : n + 1 ≤ loc.length) (hd : decode (jcc X) pc = .ok (.astore n, 2)) (hk : jWj X Q (pc + 2) (jset1 loc n (jmr x)) r σ) : jWj X Q pc loc (jmr x :: r) σ := by
  obtain ⟨p, l, e, R, s, m, args, below, meth, c, cc, nL, own, D, cy, A, ad, sh, kd⟩ := X
  obtain ⟨hx, hb, hml, hown, hts, hlk, hK, hA, hBG, hr⟩ := hX
  intro H locs ls hP hD hS hL
  have hi := hL.2.2.1
  exact lv_astore hx hb hd hL.has (by omega) rfl (fun ls' h' => hk H locs ls' hP hD hS (hL.set1 h'))
theorem jw_iinc {n : Nat} {d x : Int} (hX : jOK X) (hg : jget loc n = some (jmi x)) (hn : n + 1 ≤ loc.length) (hd : decode (jcc X) pc = .ok (.iinc n d, 3)) (hk : jWj X Q (pc + 3) (jset1 loc n (jmi (x + d))) st σ) : jWj X Q pc loc st σ := by
  obtain ⟨p, l, e, R, s, m, args, below, meth, c, cc, nL, own, D, cy, A, ad, sh, kd⟩ := X
  obtain ⟨hx, hb, hml, hown, hts, hlk, hK, hA, hBG, hr⟩ := hX
  intro H locs ls hP hD hS hL
  have hi := hL.2.2.1
  obtain ⟨q, hq⟩ := List.getElem?_of_mem (jlv_of (ad := ad) (n := 0) hg)
  rw [Nat.zero_add] at hq
  exact lv_iinc hx hb hd hL.has hq (jI_add x d).symm (by omega) rfl (fun ls' h' => hk H locs ls' hP hD hS (hL.set1 (v := jmi (x + d)) h'))
theorem jw_if_eq {x : Int} {off : Int} {t : Nat} (hX : jOK X) (ht : (pc : Int) + off = (t : Int)) (hd : decode (jcc X) pc = .ok (.ifCond .eq off, 3)) (kt : (jw x = 0) → jWj X Q t loc r σ) (kf : ¬ (jw x = 0) → jWj X Q (pc + 3) loc r σ) : jWj X Q pc loc (jmi x :: r) σ := by
  obtain ⟨p, l, e, R, s, m, args, below, meth, c, cc, nL, own, D, cy, A, ad, sh, kd⟩ := X
  obtain ⟨hx, hb, hml, hown, hts, hlk, hK, hA, hBG, hr⟩ := hX
  intro H locs ls hP hD hS hL
  exact lv_if_eq hx hb hd ht (fun q => kt ((jI_eq0 x).mp q) H locs ls hP hD hS hL) (fun q => kf (fun z => q ((jI_eq0 x).mpr z)) H locs ls hP hD hS hL)
theorem jw_if_ne {x : Int} {off : Int} {t : Nat} (hX : jOK X) (ht : (pc : Int) + off = (t : Int)) (hd : decode (jcc X) pc = .ok (.ifCond .ne off, 3)) (kt : (¬ jw x = 0) → jWj X Q t loc r σ) (kf : ¬ (¬ jw x = 0) → jWj X Q (pc + 3) loc r σ) : jWj X Q pc loc (jmi x :: r) σ := by
  obtain ⟨p, l, e, R, s, m, args, below, meth, c, cc, nL, own, D, cy, A, ad, sh, kd⟩ := X
  obtain ⟨hx, hb, hml, hown, hts, hlk, hK, hA, hBG, hr⟩ := hX
  intro H locs ls hP hD hS hL
  exact lv_if_ne hx hb hd ht (fun q => kt ((not_congr (jI_eq0 x)).mp q) H locs ls hP hD hS hL) (fun q => kf (fun z => z ((jI_eq0 x).mp q)) H locs ls hP hD hS hL)
theorem jw_if_lt {x : Int} {off : Int} {t : Nat} (hX : jOK X) (ht : (pc : Int) + off = (t : Int)) (hd : decode (jcc X) pc = .ok (.ifCond .lt off, 3)) (kt : (jw x < 0) → jWj X Q t loc r σ) (kf : ¬ (jw x < 0) → jWj X Q (pc + 3) loc r σ) : jWj X Q pc loc (jmi x :: r) σ := by
  obtain ⟨p, l, e, R, s, m, args, below, meth, c, cc, nL, own, D, cy, A, ad, sh, kd⟩ := X
  obtain ⟨hx, hb, hml, hown, hts, hlk, hK, hA, hBG, hr⟩ := hX
  intro H locs ls hP hD hS hL
  exact lv_if_lt hx hb hd ht (fun q => kt ((jI_lt0 x).mp q) H locs ls hP hD hS hL) (fun q => kf (fun z => q ((jI_lt0 x).mpr z)) H locs ls hP hD hS hL)
theorem jw_if_ge {x : Int} {off : Int} {t : Nat} (hX : jOK X) (ht : (pc : Int) + off = (t : Int)) (hd : decode (jcc X) pc = .ok (.ifCond .ge off, 3)) (kt : (¬ jw x < 0) → jWj X Q t loc r σ) (kf : ¬ (¬ jw x < 0) → jWj X Q (pc + 3) loc r σ) : jWj X Q pc loc (jmi x :: r) σ := by
  obtain ⟨p, l, e, R, s, m, args, below, meth, c, cc, nL, own, D, cy, A, ad, sh, kd⟩ := X
  obtain ⟨hx, hb, hml, hown, hts, hlk, hK, hA, hBG, hr⟩ := hX
  intro H locs ls hP hD hS hL
  exact lv_if_ge hx hb hd ht (fun q => kt (((by rw [← Int32.not_lt, jI_lt0] : (0 : Int32) ≤ jI x ↔ ¬ jw x < 0)).mp q) H locs ls hP hD hS hL) (fun q => kf (fun z => q (((by rw [← Int32.not_lt, jI_lt0] : (0 : Int32) ≤ jI x ↔ ¬ jw x < 0)).mpr z)) H locs ls hP hD hS hL)
theorem jw_if_gt {x : Int} {off : Int} {t : Nat} (hX : jOK X) (ht : (pc : Int) + off = (t : Int)) (hd : decode (jcc X) pc = .ok (.ifCond .gt off, 3)) (kt : (0 < jw x) → jWj X Q t loc r σ) (kf : ¬ (0 < jw x) → jWj X Q (pc + 3) loc r σ) : jWj X Q pc loc (jmi x :: r) σ := by
  obtain ⟨p, l, e, R, s, m, args, below, meth, c, cc, nL, own, D, cy, A, ad, sh, kd⟩ := X
  obtain ⟨hx, hb, hml, hown, hts, hlk, hK, hA, hBG, hr⟩ := hX
  intro H locs ls hP hD hS hL
  exact lv_if_gt hx hb hd ht (fun q => kt ((jI_gt0 x).mp q) H locs ls hP hD hS hL) (fun q => kf (fun z => q ((jI_gt0 x).mpr z)) H locs ls hP hD hS hL)
theorem jw_if_le {x : Int} {off : Int} {t : Nat} (hX : jOK X) (ht : (pc : Int) + off = (t : Int)) (hd : decode (jcc X) pc = .ok (.ifCond .le off, 3)) (kt : (¬ 0 < jw x) → jWj X Q t loc r σ) (kf : ¬ (¬ 0 < jw x) → jWj X Q (pc + 3) loc r σ) : jWj X Q pc loc (jmi x :: r) σ := by
  obtain ⟨p, l, e, R, s, m, args, below, meth, c, cc, nL, own, D, cy, A, ad, sh, kd⟩ := X
  obtain ⟨hx, hb, hml, hown, hts, hlk, hK, hA, hBG, hr⟩ := hX
  intro H locs ls hP hD hS hL
  exact lv_if_le hx hb hd ht (fun q => kt (((by rw [← Int32.not_lt, jI_gt0] : jI x ≤ (0 : Int32) ↔ ¬ 0 < jw x)).mp q) H locs ls hP hD hS hL) (fun q => kf (fun z => q (((by rw [← Int32.not_lt, jI_gt0] : jI x ≤ (0 : Int32) ↔ ¬ 0 < jw x)).mpr z)) H locs ls hP hD hS hL)
theorem jw_icmp_eq {x y : Int} {off : Int} {t : Nat} (hX : jOK X) (ht : (pc : Int) + off = (t : Int)) (hd : decode (jcc X) pc = .ok (.if_icmp .eq off, 3)) (kt : (jw x = jw y) → jWj X Q t loc r σ) (kf : ¬ (jw x = jw y) → jWj X Q (pc + 3) loc r σ) : jWj X Q pc loc (jmi y :: jmi x :: r) σ := by
  obtain ⟨p, l, e, R, s, m, args, below, meth, c, cc, nL, own, D, cy, A, ad, sh, kd⟩ := X
  obtain ⟨hx, hb, hml, hown, hts, hlk, hK, hA, hBG, hr⟩ := hX
  intro H locs ls hP hD hS hL
  exact lv_icmp_eq hx hb hd ht (fun q => kt ((jI_eq x y).mp q) H locs ls hP hD hS hL) (fun q => kf (fun z => q ((jI_eq x y).mpr z)) H locs ls hP hD hS hL)
theorem jw_icmp_ne {x y : Int} {off : Int} {t : Nat} (hX : jOK X) (ht : (pc : Int) + off = (t : Int)) (hd : decode (jcc X) pc = .ok (.if_icmp .ne off, 3)) (kt : (¬ jw x = jw y) → jWj X Q t loc r σ) (kf : ¬ (¬ jw x = jw y) → jWj X Q (pc + 3) loc r σ) : jWj X Q pc loc (jmi y :: jmi x :: r) σ := by
  obtain ⟨p, l, e, R, s, m, args, below, meth, c, cc, nL, own, D, cy, A, ad, sh, kd⟩ := X
  obtain ⟨hx, hb, hml, hown, hts, hlk, hK, hA, hBG, hr⟩ := hX
  intro H locs ls hP hD hS hL
  exact lv_icmp_ne hx hb hd ht (fun q => kt ((not_congr (jI_eq x y)).mp q) H locs ls hP hD hS hL) (fun q => kf (fun z => z ((jI_eq x y).mp q)) H locs ls hP hD hS hL)
theorem jw_icmp_lt {x y : Int} {off : Int} {t : Nat} (hX : jOK X) (ht : (pc : Int) + off = (t : Int)) (hd : decode (jcc X) pc = .ok (.if_icmp .lt off, 3)) (kt : (jw x < jw y) → jWj X Q t loc r σ) (kf : ¬ (jw x < jw y) → jWj X Q (pc + 3) loc r σ) : jWj X Q pc loc (jmi y :: jmi x :: r) σ := by
  obtain ⟨p, l, e, R, s, m, args, below, meth, c, cc, nL, own, D, cy, A, ad, sh, kd⟩ := X
  obtain ⟨hx, hb, hml, hown, hts, hlk, hK, hA, hBG, hr⟩ := hX
  intro H locs ls hP hD hS hL
  exact lv_icmp_lt hx hb hd ht (fun q => kt ((jI_lt x y).mp q) H locs ls hP hD hS hL) (fun q => kf (fun z => q ((jI_lt x y).mpr z)) H locs ls hP hD hS hL)
theorem jw_icmp_ge {x y : Int} {off : Int} {t : Nat} (hX : jOK X) (ht : (pc : Int) + off = (t : Int)) (hd : decode (jcc X) pc = .ok (.if_icmp .ge off, 3)) (kt : (¬ jw x < jw y) → jWj X Q t loc r σ) (kf : ¬ (¬ jw x < jw y) → jWj X Q (pc + 3) loc r σ) : jWj X Q pc loc (jmi y :: jmi x :: r) σ := by
  obtain ⟨p, l, e, R, s, m, args, below, meth, c, cc, nL, own, D, cy, A, ad, sh, kd⟩ := X
  obtain ⟨hx, hb, hml, hown, hts, hlk, hK, hA, hBG, hr⟩ := hX
  intro H locs ls hP hD hS hL
  exact lv_icmp_ge hx hb hd ht (fun q => kt (((by rw [← Int32.not_lt, jI_lt] : jI y ≤ jI x ↔ ¬ jw x < jw y)).mp q) H locs ls hP hD hS hL) (fun q => kf (fun z => q (((by rw [← Int32.not_lt, jI_lt] : jI y ≤ jI x ↔ ¬ jw x < jw y)).mpr z)) H locs ls hP hD hS hL)
theorem jw_icmp_gt {x y : Int} {off : Int} {t : Nat} (hX : jOK X) (ht : (pc : Int) + off = (t : Int)) (hd : decode (jcc X) pc = .ok (.if_icmp .gt off, 3)) (kt : (jw y < jw x) → jWj X Q t loc r σ) (kf : ¬ (jw y < jw x) → jWj X Q (pc + 3) loc r σ) : jWj X Q pc loc (jmi y :: jmi x :: r) σ := by
  obtain ⟨p, l, e, R, s, m, args, below, meth, c, cc, nL, own, D, cy, A, ad, sh, kd⟩ := X
  obtain ⟨hx, hb, hml, hown, hts, hlk, hK, hA, hBG, hr⟩ := hX
  intro H locs ls hP hD hS hL
  exact lv_icmp_gt hx hb hd ht (fun q => kt ((jI_lt y x).mp q) H locs ls hP hD hS hL) (fun q => kf (fun z => q ((jI_lt y x).mpr z)) H locs ls hP hD hS hL)
theorem jw_icmp_le {x y : Int} {off : Int} {t : Nat} (hX : jOK X) (ht : (pc : Int) + off = (t : Int)) (hd : decode (jcc X) pc = .ok (.if_icmp .le off, 3)) (kt : (¬ jw y < jw x) → jWj X Q t loc r σ) (kf : ¬ (¬ jw y < jw x) → jWj X Q (pc + 3) loc r σ) : jWj X Q pc loc (jmi y :: jmi x :: r) σ := by
  obtain ⟨p, l, e, R, s, m, args, below, meth, c, cc, nL, own, D, cy, A, ad, sh, kd⟩ := X
  obtain ⟨hx, hb, hml, hown, hts, hlk, hK, hA, hBG, hr⟩ := hX
  intro H locs ls hP hD hS hL
  exact lv_icmp_le hx hb hd ht (fun q => kt (((by rw [← Int32.not_lt, jI_lt] : jI x ≤ jI y ↔ ¬ jw y < jw x)).mp q) H locs ls hP hD hS hL) (fun q => kf (fun z => q (((by rw [← Int32.not_lt, jI_lt] : jI x ≤ jI y ↔ ¬ jw y < jw x)).mpr z)) H locs ls hP hD hS hL)
theorem jw_goto {x : Nat} {off : Int} {t : Nat} (hX : jOK X) (ht : (pc : Int) + off = (t : Int)) (hd : decode (jcc X) pc = .ok (.goto off, 3)) (hk : jWj X Q t loc r σ) : jWj X Q pc loc (r) σ := by
  obtain ⟨p, l, e, R, s, m, args, below, meth, c, cc, nL, own, D, cy, A, ad, sh, kd⟩ := X
  obtain ⟨hx, hb, hml, hown, hts, hlk, hK, hA, hBG, hr⟩ := hX
  intro H locs ls hP hD hS hL
  exact lv_goto hx hb hd ht (hk H locs ls hP hD hS hL)
theorem jw_ifnull {x : Nat} {off : Int} {t : Nat} (hX : jOK X) (hd : decode (jcc X) pc = .ok (.ifnull off, 3)) (hk : jWj X Q (pc + 3) loc r σ) : jWj X Q pc loc (jmr x :: r) σ := by
  obtain ⟨p, l, e, R, s, m, args, below, meth, c, cc, nL, own, D, cy, A, ad, sh, kd⟩ := X
  obtain ⟨hx, hb, hml, hown, hts, hlk, hK, hA, hBG, hr⟩ := hX
  intro H locs ls hP hD hS hL
  exact lv_ifnull hx hb hd (hk H locs ls hP hD hS hL)
theorem jw_ifnullN {x : Nat} {off : Int} {t : Nat} (hX : jOK X) (ht : (pc : Int) + off = (t : Int)) (hd : decode (jcc X) pc = .ok (.ifnull off, 3)) (hk : jWj X Q t loc r σ) : jWj X Q pc loc (jmn :: r) σ := by
  obtain ⟨p, l, e, R, s, m, args, below, meth, c, cc, nL, own, D, cy, A, ad, sh, kd⟩ := X
  obtain ⟨hx, hb, hml, hown, hts, hlk, hK, hA, hBG, hr⟩ := hX
  intro H locs ls hP hD hS hL
  exact lv_ifnullN hx hb hd ht (hk H locs ls hP hD hS hL)
theorem jw_ifnonnull {x : Nat} {off : Int} {t : Nat} (hX : jOK X) (ht : (pc : Int) + off = (t : Int)) (hd : decode (jcc X) pc = .ok (.ifnonnull off, 3)) (hk : jWj X Q t loc r σ) : jWj X Q pc loc (jmr x :: r) σ := by
  obtain ⟨p, l, e, R, s, m, args, below, meth, c, cc, nL, own, D, cy, A, ad, sh, kd⟩ := X
  obtain ⟨hx, hb, hml, hown, hts, hlk, hK, hA, hBG, hr⟩ := hX
  intro H locs ls hP hD hS hL
  exact lv_ifnonnull hx hb hd ht (hk H locs ls hP hD hS hL)
theorem jw_ifnonnullN {x : Nat} {off : Int} {t : Nat} (hX : jOK X) (hd : decode (jcc X) pc = .ok (.ifnonnull off, 3)) (hk : jWj X Q (pc + 3) loc r σ) : jWj X Q pc loc (jmn :: r) σ := by
  obtain ⟨p, l, e, R, s, m, args, below, meth, c, cc, nL, own, D, cy, A, ad, sh, kd⟩ := X
  obtain ⟨hx, hb, hml, hown, hts, hlk, hK, hA, hBG, hr⟩ := hX
  intro H locs ls hP hD hS hL
  exact lv_ifnonnullN hx hb hd (hk H locs ls hP hD hS hL)
theorem jw_iaload {x : Int} {id n : Nat} (hX : jOK X) (hs : (jsh X)[id]? = some (.inr (.inl (0, n)))) (hn : n < 2 ^ 31) (hi : 0 ≤ x ∧ x < (n : Int)) (hd : decode (jcc X) pc = .ok (.iaload, 1)) (hk : jWj X Q (pc + 1) loc (jmi (σ id x) :: r) σ) : jWj X Q pc loc (jmi x :: jmr id :: r) σ := by
  obtain ⟨p, l, e, R, s, m, args, below, meth, c, cc, nL, own, D, cy, A, ad, sh, kd⟩ := X
  obtain ⟨hx, hb, hml, hown, hts, hlk, hK, hA, hBG, hr⟩ := hX
  intro H locs ls hP hD hS hL
  have k := hk H locs ls hP hD hS hL
  obtain ⟨h1, h2⟩ := j_in hn hi
  refine va_iald hx hb hK hP id 0 (jW_get hs) rfl h1 hd ?_
  rw [h2, Int.toNat_of_nonneg hi.1]
  exact k
theorem jw_baload {x : Int} {id n : Nat} (hX : jOK X) (hs : (jsh X)[id]? = some (.inr (.inl (1, n)))) (hn : n < 2 ^ 31) (hi : 0 ≤ x ∧ x < (n : Int)) (hd : decode (jcc X) pc = .ok (.baload, 1)) (hk : jWj X Q (pc + 1) loc (jmi (σ id x) :: r) σ) : jWj X Q pc loc (jmi x :: jmr id :: r) σ := by
  obtain ⟨p, l, e, R, s, m, args, below, meth, c, cc, nL, own, D, cy, A, ad, sh, kd⟩ := X
  obtain ⟨hx, hb, hml, hown, hts, hlk, hK, hA, hBG, hr⟩ := hX
  intro H locs ls hP hD hS hL
  have k := hk H locs ls hP hD hS hL
  obtain ⟨h1, h2⟩ := j_in hn hi
  refine va_bald hx hb hK hP id 1 (jW_get hs) rfl h1 hd ?_
  rw [h2, Int.toNat_of_nonneg hi.1]
  exact k
theorem jw_zaload {x : Int} {id n : Nat} (hX : jOK X) (hs : (jsh X)[id]? = some (.inr (.inl (2, n)))) (hn : n < 2 ^ 31) (hi : 0 ≤ x ∧ x < (n : Int)) (hd : decode (jcc X) pc = .ok (.baload, 1)) (hk : jWj X Q (pc + 1) loc (jmi (σ id x) :: r) σ) : jWj X Q pc loc (jmi x :: jmr id :: r) σ := by
  obtain ⟨p, l, e, R, s, m, args, below, meth, c, cc, nL, own, D, cy, A, ad, sh, kd⟩ := X
  obtain ⟨hx, hb, hml, hown, hts, hlk, hK, hA, hBG, hr⟩ := hX
  intro H locs ls hP hD hS hL
  have k := hk H locs ls hP hD hS hL
  obtain ⟨h1, h2⟩ := j_in hn hi
  refine va_zald hx hb hK hP id 2 (jW_get hs) rfl h1 hd ?_
  rw [h2, Int.toNat_of_nonneg hi.1]
  exact k
theorem jw_laload {x : Int} {id n : Nat} (hX : jOK X) (hs : (jsh X)[id]? = some (.inr (.inl (3, n)))) (hn : n < 2 ^ 31) (hi : 0 ≤ x ∧ x < (n : Int)) (hd : decode (jcc X) pc = .ok (.laload, 1)) (hk : jWj X Q (pc + 1) loc (jml (σ id x) :: r) σ) : jWj X Q pc loc (jmi x :: jmr id :: r) σ := by
  obtain ⟨p, l, e, R, s, m, args, below, meth, c, cc, nL, own, D, cy, A, ad, sh, kd⟩ := X
  obtain ⟨hx, hb, hml, hown, hts, hlk, hK, hA, hBG, hr⟩ := hX
  intro H locs ls hP hD hS hL
  have k := hk H locs ls hP hD hS hL
  obtain ⟨h1, h2⟩ := j_in hn hi
  refine va_lald hx hb hK hP id 3 (jW_get hs) rfl h1 hd ?_
  rw [h2, Int.toNat_of_nonneg hi.1]
  exact k
theorem jw_iastore {x v : Int} {id n : Nat} (hX : jOK X) (hs : (jsh X)[id]? = some (.inr (.inl (0, n)))) (hn : n < 2 ^ 31) (hi : 0 ≤ x ∧ x < (n : Int)) (hd : decode (jcc X) pc = .ok (.iastore, 1)) (hk : jWj X Q (pc + 1) loc r (jup σ id x (v))) : jWj X Q pc loc (jmi v :: jmi x :: jmr id :: r) σ := by
  obtain ⟨p, l, e, R, s, m, args, below, meth, c, cc, nL, own, D, cy, A, ad, sh, kd⟩ := X
  obtain ⟨hx, hb, hml, hown, hts, hlk, hK, hA, hBG, hr⟩ := hX
  intro H locs ls hP hD hS hL
  obtain ⟨h1, h2⟩ := j_in hn hi
  refine va_iast hx hb hK hP hD hS id 0 (jW_get hs) rfl h1 hd (fun H1 locs1 hP1 hD1 hS1 => ?_)
  have he : upd (fun j : Nat => jI (σ id (j : Int))) (jI x).toNatClampNeg (jI v) = fun j : Nat => jI (jup σ id x (v) id (j : Int)) := by
    funext j
    have hx0 := Int.toNat_of_nonneg hi.1
    simp only [upd, h2, jup, true_and]
    by_cases hj : j = x.toNat
    · have hz : (j : Int) = x := by omega
      simp [hj, hx0]
    · have hz : ¬ (j : Int) = x := by omega
      simp [hj, hz]
  have e := jW_set (ad := ad) (cy := cy) (sh := sh) (σ := σ) (k := x) (v := v) (e := .inl (cy 0, n, .inl (upd (fun j : Nat => jI (σ id (j : Int))) (jI x).toNatClampNeg (jI v)))) hs (by rw [he]; rfl)
  exact hk H1 locs1 ls (e ▸ hP1) (e ▸ hD1) hS1 hL
theorem jw_bastore {x v : Int} {id n : Nat} (hX : jOK X) (hs : (jsh X)[id]? = some (.inr (.inl (1, n)))) (hn : n < 2 ^ 31) (hi : 0 ≤ x ∧ x < (n : Int)) (hd : decode (jcc X) pc = .ok (.bastore, 1)) (hk : jWj X Q (pc + 1) loc r (jup σ id x (jw8 v))) : jWj X Q pc loc (jmi v :: jmi x :: jmr id :: r) σ := by
  obtain ⟨p, l, e, R, s, m, args, below, meth, c, cc, nL, own, D, cy, A, ad, sh, kd⟩ := X
  obtain ⟨hx, hb, hml, hown, hts, hlk, hK, hA, hBG, hr⟩ := hX
  intro H locs ls hP hD hS hL
  obtain ⟨h1, h2⟩ := j_in hn hi
  refine va_bast hx hb hK hP hD hS id 1 (jW_get hs) rfl h1 hd (fun H1 locs1 hP1 hD1 hS1 => ?_)
  have he : upd (fun j : Nat => jI (σ id (j : Int))) (jI x).toNatClampNeg (vp_nar .byte (jI v)) = fun j : Nat => jI (jup σ id x (jw8 v) id (j : Int)) := by
    funext j
    have hx0 := Int.toNat_of_nonneg hi.1
    simp only [upd, h2, jup, vp_nar_byte, jI_b, true_and]
    by_cases hj : j = x.toNat
    · have hz : (j : Int) = x := by omega
      simp [hj, hx0, jI_b]
    · have hz : ¬ (j : Int) = x := by omega
      simp [hj, hz]
  have e := jW_set (ad := ad) (cy := cy) (sh := sh) (σ := σ) (k := x) (v := jw8 v) (e := .inl (cy 1, n, .inl (upd (fun j : Nat => jI (σ id (j : Int))) (jI x).toNatClampNeg (vp_nar .byte (jI v))))) hs (by rw [he]; rfl)
  exact hk H1 locs1 ls (e ▸ hP1) (e ▸ hD1) hS1 hL
theorem jw_zastore {x v : Int} {id n : Nat} (hX : jOK X) (hs : (jsh X)[id]? = some (.inr (.inl (2, n)))) (hn : n < 2 ^ 31) (hi : 0 ≤ x ∧ x < (n : Int)) (hd : decode (jcc X) pc = .ok (.bastore, 1)) (hk : jWj X Q (pc + 1) loc r (jup σ id x (v % 2))) : jWj X Q pc loc (jmi v :: jmi x :: jmr id :: r) σ := by
  obtain ⟨p, l, e, R, s, m, args, below, meth, c, cc, nL, own, D, cy, A, ad, sh, kd⟩ := X
  obtain ⟨hx, hb, hml, hown, hts, hlk, hK, hA, hBG, hr⟩ := hX
  intro H locs ls hP hD hS hL
  obtain ⟨h1, h2⟩ := j_in hn hi
  refine va_zast hx hb hK hP hD hS id 2 (jW_get hs) rfl h1 hd (fun H1 locs1 hP1 hD1 hS1 => ?_)
  have he : upd (fun j : Nat => jI (σ id (j : Int))) (jI x).toNatClampNeg (vp_nar .boolean (jI v)) = fun j : Nat => jI (jup σ id x (v % 2) id (j : Int)) := by
    funext j
    have hx0 := Int.toNat_of_nonneg hi.1
    simp only [upd, h2, jup, jnar_z, true_and]
    by_cases hj : j = x.toNat
    · have hz : (j : Int) = x := by omega
      simp [hj, hx0]
    · have hz : ¬ (j : Int) = x := by omega
      simp [hj, hz]
  have e := jW_set (ad := ad) (cy := cy) (sh := sh) (σ := σ) (k := x) (v := v % 2) (e := .inl (cy 2, n, .inl (upd (fun j : Nat => jI (σ id (j : Int))) (jI x).toNatClampNeg (vp_nar .boolean (jI v))))) hs (by rw [he]; rfl)
  exact hk H1 locs1 ls (e ▸ hP1) (e ▸ hD1) hS1 hL
theorem jw_lastore {x v : Int} {id n : Nat} (hX : jOK X) (hs : (jsh X)[id]? = some (.inr (.inl (3, n)))) (hn : n < 2 ^ 31) (hi : 0 ≤ x ∧ x < (n : Int)) (hd : decode (jcc X) pc = .ok (.lastore, 1)) (hk : jWj X Q (pc + 1) loc r (jup σ id x (v))) : jWj X Q pc loc (jml v :: jmi x :: jmr id :: r) σ := by
  obtain ⟨p, l, e, R, s, m, args, below, meth, c, cc, nL, own, D, cy, A, ad, sh, kd⟩ := X
  obtain ⟨hx, hb, hml, hown, hts, hlk, hK, hA, hBG, hr⟩ := hX
  intro H locs ls hP hD hS hL
  obtain ⟨h1, h2⟩ := j_in hn hi
  refine va_last hx hb hK hP hD hS id 3 (jW_get hs) rfl h1 hd (fun H1 locs1 hP1 hD1 hS1 => ?_)
  have he : vp_updL (fun j : Nat => jL (σ id (j : Int))) (jI x).toNatClampNeg (jL v) = fun j : Nat => jL (jup σ id x (v) id (j : Int)) := by
    funext j
    have hx0 := Int.toNat_of_nonneg hi.1
    simp only [vp_updL, h2, jup, true_and]
    by_cases hj : j = x.toNat
    · have hz : (j : Int) = x := by omega
      simp [hj, hx0]
    · have hz : ¬ (j : Int) = x := by omega
      simp [hj, hz]
  have e := jW_set (ad := ad) (cy := cy) (sh := sh) (σ := σ) (k := x) (v := v) (e := .inl (cy 3, n, .inr (.inl (vp_updL (fun j : Nat => jL (σ id (j : Int))) (jI x).toNatClampNeg (jL v))))) hs (by rw [he]; rfl)
  exact hk H1 locs1 ls (e ▸ hP1) (e ▸ hD1) hS1 hL
end JS
end
section
/-! Fields, calls, returns; a whole run of the small machine. -/
/-- field f of class ci, as the class 'own' links it by a number of its pool -/
def jFl (own : String) (idx ci f : Nat) : Prop := ∃ (C : String) (T : u_T) (N : Nat) (ty : Nat → FieldType), vwCl[ci]? = some (C, T, N) ∧ f < N ∧ (∀ w ∈ u_ws C T N, w ∈ jTB) ∧ (∀ k, k < N → parseFieldDescriptor (T k).2.2.1 = some (ty k)) ∧ (∀ a, a < N → ∀ b, b < N → a ≠ b → (T a).2.1 ≠ (T b).2.1) ∧ (∀ k, k < N → (T k).1 = C) ∧
  (Cond.fieldLink own idx C (T f).2.1 (T f).2.2.1 ∈ jTB ∨ ∃ host, Cond.fieldLinkNest own idx C (T f).2.1 (T f).2.2.1 host ∈ jNS)
/-- what may be written to field f of class ci: its kind (0 an int, 1 a long, 2 a boolean) -/
def jpt (kd : Nat) : FieldType := match kd with
  | 0 => .int
  | 1 => .long
  | _ => .boolean
def jPf (ci f kd : Nat) : Prop := ∃ (C : String) (T : u_T) (N : Nat), vwCl[ci]? = some (C, T, N) ∧ (T f).2.2.2 = false ∧ parseFieldDescriptor (T f).2.2.1 = some (jpt kd)
section JR
variable {X : jxX} {Q : State → Prop} {pc : Nat} {loc : jxL} {r st : List jxV} {σ : jxS}
theorem jfs_at {ad : Nat → Nat} {f : Int → Int} {fks : List jxF} {k : Nat} {fk : jxF} (h : fks[k]? = some fk) : (fks.mapIdx (fun k fk => jfv ad f k fk))[k]? = some (jfv ad f k fk) := by
  simp [List.getElem?_mapIdx, h]
theorem jw_get {id idx ci f : Nat} {fks : List jxF} {fk : jxF} {v : jxV} (hX : jOK X) (hs : (jsh X)[id]? = some (.inl (ci, fks))) (hf : fks[f]? = some fk) (hv : ∀ ad, jfv ad (σ id) f fk = jtoV ad v) (hl : jFl (jown X) idx ci f) (hd : decode (jcc X) pc = .ok (.getfield idx, 3)) (hk : jWj X Q (pc + 3) loc (v :: r) σ) : jWj X Q pc loc (jmr id :: r) σ := by
  obtain ⟨p, l, e, R, s, m, args, below, meth, c, cc, nL, own, D, cy, A, ad, sh, kd⟩ := X
  obtain ⟨hx, hb, hml, hown, hts, hlk, hK, hA, hBG, hr⟩ := hX
  intro H locs ls hP hD hS hL
  have k := hk H locs ls hP hD hS hL
  obtain ⟨C, T, N, ty, h1, h2, h3, h4, h5, h6, h7⟩ := hl
  have e := jfs_at (ad := ad) (f := σ id) hf
  rw [hv] at e
  rcases h7 with h7 | ⟨host, h7⟩
  · exact va_get hx hb hts h3 hown hK hP id (jW_get hs) h1 f h2 (hts _ h7) (by rw [h6 f h2]; exact fun _ h => h) e hd k
  · exact va_getN hx hb hts h3 hown hK hP id (jW_get hs) h1 f h2 (va_Nw.use rfl (hBG.1 _ h7)) (by rw [h6 f h2]; exact fun _ h => h) e hd k
theorem jfs_set {ad : Nat → Nat} {σ : jxS} {id : Nat} {v : Int} {w : Value} {fks : List jxF} {f : Nat} {fk : jxF} (h : fks[f]? = some fk) (hw : jfv ad (jup σ id f v id) f fk = w) : (fks.mapIdx (fun k fk => jfv ad (σ id) k fk)).set f w = fks.mapIdx (fun k fk => jfv ad (jup σ id f v id) k fk) := by
  refine List.ext_getElem? fun a => ?_
  by_cases ha : a = f
  · subst ha
    have hl : a < (fks.mapIdx (fun k fk => jfv ad (σ id) k fk)).length := by
      rw [List.length_mapIdx]
      exact (List.getElem?_eq_some_iff.mp h).1
    rw [List.getElem?_set_self hl, List.getElem?_mapIdx, h, ← hw]
    rfl
  · rw [List.getElem?_set_ne (Ne.symm ha), List.getElem?_mapIdx, List.getElem?_mapIdx]
    have e : ∀ fk, jfv ad (jup σ id f v id) a fk = jfv ad (σ id) a fk := by
      intro fk
      have h9 : jup σ id f v id (a : Int) = σ id (a : Int) := by
        have : ¬ (a : Int) = (f : Int) := by omega
        simp [jup, this]
      unfold jfv
      rw [h9]
    simp [e]
theorem jw_put {id idx ci f : Nat} {fks : List jxF} {fk : jxF} {v : Int} {w : jxV} {kd' : Nat} (hX : jOK X) (hs : (jsh X)[id]? = some (.inl (ci, fks))) (hf : fks[f]? = some fk) (hv : ∀ ad, jfv ad (jup σ id f v id) f fk = jtoV ad w) (hl : jFl (jown X) idx ci f) (hp : jPf ci f kd') (hn : ∀ ad, narrow (jpt kd') (jtoV ad w) = jtoV ad w ∧ fits (jpt kd') (jtoV ad w) = true) (hd : decode (jcc X) pc = .ok (.putfield idx, 3)) (hk : jWj X Q (pc + 3) loc r (jup σ id f v)) : jWj X Q pc loc (w :: jmr id :: r) σ := by
  obtain ⟨p, l, e, R, s, m, args, below, meth, c, cc, nL, own, D, cy, A, ad, sh, kd⟩ := X
  obtain ⟨hx, hb, hml, hown, hts, hlk, hK, hA, hBG, hr⟩ := hX
  intro H locs ls hP hD hS hL
  obtain ⟨C, T, N, ty, h1, h2, h3, h4, h5, h6, h7⟩ := hl
  obtain ⟨C', T', N', g1, g2, g3⟩ := hp
  cases h1.symm.trans g1
  have hlen : f < (fks.mapIdx (fun k fk => jfv ad (σ id) k fk)).length := by
    rw [List.length_mapIdx]
    exact (List.getElem?_eq_some_iff.mp hf).1
  have e0 := jfs_set (ad := ad) (σ := σ) (id := id) (v := v) hf (hv ad)
  have e := jW_set (ad := ad) (cy := cy) (sh := sh) (σ := σ) (k := (f : Int)) (v := v) (e := .inr (ci, (fks.mapIdx (fun k fk => jfv ad (σ id) k fk)).set f (jtoV ad w))) hs (by rw [e0]; rfl)
  rcases h7 with h7 | ⟨host, h7⟩
  · exact va_put hx hb hts h3 ty h4 h5 hown hK hP hD hS id (jW_get hs) h1 f h2 (hts _ h7) (by rw [h6 f h2]; exact fun _ h => h) g2 g3 (hn ad).1 (hn ad).2 hlen hd (fun H1 locs1 hP1 hD1 hS1 => hk H1 locs1 ls (e ▸ hP1) (e ▸ hD1) hS1 hL)
  · exact va_putN hx hb hts h3 ty h4 h5 hown hK hP hD hS id (jW_get hs) h1 f h2 (va_Nw.use rfl (hBG.1 _ h7)) (by rw [h6 f h2]; exact fun _ h => h) g2 g3 (hn ad).1 (hn ad).2 hlen hd (fun H1 locs1 hP1 hD1 hS1 => hk H1 locs1 ls (e ▸ hP1) (e ▸ hD1) hS1 hL)
theorem jw_alen {id n : Nat} (hX : jOK X) (hs : (jsh X)[id]? = some (.inr (.inl (0, n)))) (hd : decode (jcc X) pc = .ok (.arraylength, 1)) (hk : jWj X Q (pc + 1) loc (jmi (n : Int) :: r) σ) : jWj X Q pc loc (jmr id :: r) σ := by
  obtain ⟨p, l, e, R, s, m, args, below, meth, c, cc, nL, own, D, cy, A, ad, sh, kd⟩ := X
  obtain ⟨hx, hb, hml, hown, hts, hlk, hK, hA, hBG, hr⟩ := hX
  intro H locs ls hP hD hS hL
  exact va_alen hx hb hK hP id 0 (jW_get hs) rfl (by show Int32.ofNat n = Int32.ofInt (n : Int); simp [Int32.ofInt, Int32.ofNat]) hd (hk H locs ls hP hD hS hL)
theorem jw_lalen {id n : Nat} (hX : jOK X) (hs : (jsh X)[id]? = some (.inr (.inl (3, n)))) (hd : decode (jcc X) pc = .ok (.arraylength, 1)) (hk : jWj X Q (pc + 1) loc (jmi (n : Int) :: r) σ) : jWj X Q pc loc (jmr id :: r) σ := by
  obtain ⟨p, l, e, R, s, m, args, below, meth, c, cc, nL, own, D, cy, A, ad, sh, kd⟩ := X
  obtain ⟨hx, hb, hml, hown, hts, hlk, hK, hA, hBG, hr⟩ := hX
  intro H locs ls hP hD hS hL
  exact va_alen hx hb hK hP id 3 (jW_get hs) rfl (by show Int32.ofNat n = Int32.ofInt (n : Int); simp [Int32.ofInt, Int32.ofNat]) hd (hk H locs ls hP hD hS hL)
/-- tables that nobody writes -/
def jTt (id : Nat) (tb : List Int) : Prop := (id = 1000 ∧ tb = jtab0) ∨ (id = 1001 ∧ tb = jtab1)
theorem jTt_T {id : Nat} {tb : List Int} (h : jTt id tb) {ad : Nat → Nat} {A : Nat → Prop} {s : State} (hB : jBG ad A s) : va_T .int (ad id) tb.length (fun j => .int (jI (tb.getD j 0))) A s s.heap ∧ tb.length < 2 ^ 31 := by
  rcases h with ⟨rfl, rfl⟩ | ⟨rfl, rfl⟩
  · exact ⟨hB.2.2.1, by decide⟩
  · exact ⟨hB.2.2.2.2.1, by decide⟩
theorem jw_tald {x : Int} {id : Nat} {tb : List Int} (hX : jOK X) (hs : jTt id tb) (hi : 0 ≤ x ∧ x < (tb.length : Int)) (hd : decode (jcc X) pc = .ok (.iaload, 1)) (hk : jWj X Q (pc + 1) loc (jmi (tb.getD x.toNat 0) :: r) σ) : jWj X Q pc loc (jmi x :: jmr id :: r) σ := by
  obtain ⟨p, l, e, R, s, m, args, below, meth, c, cc, nL, own, D, cy, A, ad, sh, kd⟩ := X
  obtain ⟨hx, hb, hml, hown, hts, hlk, hK, hA, hBG, hr⟩ := hX
  intro H locs ls hP hD hS hL
  obtain ⟨hT, hn⟩ := jTt_T hs hBG
  obtain ⟨h1, h2⟩ := j_in hn hi
  exact va_ti hx hb hT hS h1 (by rw [h2]; rfl) hd (hk H locs ls hP hD hS hL)
theorem jw_talen {id : Nat} {tb : List Int} (hX : jOK X) (hs : jTt id tb) (hd : decode (jcc X) pc = .ok (.arraylength, 1)) (hk : jWj X Q (pc + 1) loc (jmi (tb.length : Int) :: r) σ) : jWj X Q pc loc (jmr id :: r) σ := by
  obtain ⟨p, l, e, R, s, m, args, below, meth, c, cc, nL, own, D, cy, A, ad, sh, kd⟩ := X
  obtain ⟨hx, hb, hml, hown, hts, hlk, hK, hA, hBG, hr⟩ := hX
  intro H locs ls hP hD hS hL
  obtain ⟨hT, hn⟩ := jTt_T hs hBG
  exact va_tlen hx hb hT hS (by show Int32.ofNat _ = Int32.ofInt (_ : Int); simp [Int32.ofInt, Int32.ofNat]) hd (hk H locs ls hP hD hS hL)
/-- an instruction of n bytes that puts v on the stack -/
def jLd (X : jxX) (i : Instr) (n : Nat) (v : jxV) : Prop := ∀ (Q : State → Prop) (pc : Nat) (loc : jxL) (st : List jxV) (σ : jxS), decode (jcc X) pc = .ok (i, n) → jWj X Q (pc + n) loc (v :: st) σ → jWj X Q pc loc st σ
theorem jLd_int {idx : Nat} {x : Int} (hX : jOK X) (h : Cond.constant (jown X) idx (jI x) ∈ jTB) : jLd X (.ldc idx) 2 (jmi x) := by
  intro Q pc loc st σ hd hk
  obtain ⟨p, l, e, R, s, m, args, below, meth, c, cc, nL, own, D, cy, A, ad, sh, kd⟩ := X
  obtain ⟨hx, hb, hml, hown, hts, hlk, hK, hA, hBG, hr⟩ := hX
  intro H locs ls hP hD hS hL
  exact lv_ldc hx hb hown (hts _ h) hd (hk H locs ls hP hD hS hL)
theorem jLd_long {idx : Nat} {x : Int} (hX : jOK X) (h : Cond.constantLong (jown X) idx (jL x) ∈ jTB) : jLd X (.ldc2_w idx) 3 (jml x) := by
  intro Q pc loc st σ hd hk
  obtain ⟨p, l, e, R, s, m, args, below, meth, c, cc, nL, own, D, cy, A, ad, sh, kd⟩ := X
  obtain ⟨hx, hb, hml, hown, hts, hlk, hK, hA, hBG, hr⟩ := hX
  intro H locs ls hP hD hS hL
  exact lv_ldc2 hx hb hown (hts _ h) hd (hk H locs ls hP hD hS hL)
theorem jLd_text (i : Nat) (hi : i < 4) (hX : jOK X) (ho : jown X = jsown) : jLd X (.ldc (jsidx i)) 2 (jmr (1002 + i)) := by
  intro Q pc loc st σ hd hk
  obtain ⟨p, l, e, R, s, m, args, below, meth, c, cc, nL, own, D, cy, A, ad, sh, kd⟩ := X
  obtain ⟨hx, hb, hml, hown, hts, hlk, hK, hA, hBG, hr⟩ := hX
  have ho : own = jsown := ho
  subst ho
  intro H locs ls hP hD hS hL
  exact va_ldcS hx hb hown (hBG.2.2.2.2.2.2.1 i hi) hd (hk H locs ls hP hD hS hL)
theorem jLd_st0 {idx : Nat} (hX : jOK X) (h : Cond.fieldLink (jown X) idx "LastLoses$Values" "BESIDE_MOVES" "[I" ∈ jTB) : jLd X (.getstatic idx) 3 (jmr 1000) := by
  intro Q pc loc st σ hd hk
  obtain ⟨p, l, e, R, s, m, args, below, meth, c, cc, nL, own, D, cy, A, ad, sh, kd⟩ := X
  obtain ⟨hx, hb, hml, hown, hts, hlk, hK, hA, hBG, hr⟩ := hX
  intro H locs ls hP hD hS hL
  exact va_gets hx hb hBG.2.1 hS hown (hts _ h) (fun _ q => q) hd (hk H locs ls hP hD hS hL)
theorem jLd_st1 {idx : Nat} (hX : jOK X) (h : Cond.fieldLink (jown X) idx "LastLoses$Values" "BESIDE_OF_GENUS" "[I" ∈ jTB) : jLd X (.getstatic idx) 3 (jmr 1001) := by
  intro Q pc loc st σ hd hk
  obtain ⟨p, l, e, R, s, m, args, below, meth, c, cc, nL, own, D, cy, A, ad, sh, kd⟩ := X
  obtain ⟨hx, hb, hml, hown, hts, hlk, hK, hA, hBG, hr⟩ := hX
  intro H locs ls hP hD hS hL
  exact va_gets hx hb hBG.2.2.2.1 hS hown (hts _ h) (fun _ q => q) hd (hk H locs ls hP hD hS hL)
theorem jw_aald {x : Int} {id n : Nat} (hX : jOK X) (hs : (jsh X)[id]? = some (.inr (.inl (4, n)))) (hn : n < 2 ^ 31) (hi : 0 ≤ x ∧ x < (n : Int)) (hd : decode (jcc X) pc = .ok (.aaload, 1)) (hk : jWj X Q (pc + 1) loc ((if σ id x = 0 then jmn else jmr (σ id x).toNat) :: r) σ) : jWj X Q pc loc (jmi x :: jmr id :: r) σ := by
  obtain ⟨p, l, e, R, s, m, args, below, meth, c, cc, nL, own, D, cy, A, ad, sh, kd⟩ := X
  obtain ⟨hx, hb, hml, hown, hts, hlk, hK, hA, hBG, hr⟩ := hX
  intro H locs ls hP hD hS hL
  have k := hk H locs ls hP hD hS hL
  obtain ⟨h1, h2⟩ := j_in hn hi
  refine va_aldq hx hb hK hP id 4 (jW_get hs) rfl h1 hd ?_
  rw [h2, Int.toNat_of_nonneg hi.1]
  simp only [List.map_cons] at k
  unfold jrf
  split
  · rename_i h0
    rw [if_pos h0] at k
    exact k
  · rename_i h0
    rw [if_neg h0] at k
    exact k
theorem jw_sw {d lo hi : Int} {offs : Array Int} {len : Nat} {x : Int} (hX : jOK X) (hd : decode (jcc X) pc = .ok (.tableswitch d lo hi offs, len)) (hh : hi = lo + (offs.toList.length : Int) - 1)
    (hout : ∀ t : Nat, (pc : Int) + d = (t : Int) → (jw x < lo ∨ hi < jw x) → jWj X Q t loc r σ) (hin : ∀ (j : Nat) (off : Int) (t : Nat), offs.toList[j]? = some off → jw x = lo + j → (pc : Int) + off = (t : Int) → jWj X Q t loc r σ)
    (h1 : (jw x < lo ∨ hi < jw x) → 0 ≤ (pc : Int) + d) (h2 : ∀ (j : Nat) (off : Int), offs.toList[j]? = some off → jw x = lo + j → 0 ≤ (pc : Int) + off) : jWj X Q pc loc (jmi x :: r) σ := by
  obtain ⟨p, l, e, R, s, m, args, below, meth, c, cc, nL, own, D, cy, A, ad, sh, kd⟩ := X
  obtain ⟨hx, hb, hml, hown, hts, hlk, hK, hA, hBG, hr⟩ := hX
  intro H locs ls hP hD hS hL
  by_cases hc : jw x < lo ∨ hi < jw x
  · have h0 := h1 hc
    have e : (pc : Int) + d = (((pc : Int) + d).toNat : Int) := (Int.toNat_of_nonneg h0).symm
    exact lv_tableOut hx hb hd (by rw [jw_toInt]; exact hc) e (hout _ e hc H locs ls hP hD hS hL)
  · have g1 : ¬ jw x < lo := fun q => hc (Or.inl q)
    have g2 : ¬ hi < jw x := fun q => hc (Or.inr q)
    obtain ⟨j, hj⟩ : ∃ j : Nat, jw x = lo + j := ⟨(jw x - lo).toNat, by omega⟩
    have hl : j < offs.toList.length := by omega
    have ho : offs.toList[j]? = some offs.toList[j] := List.getElem?_eq_getElem hl
    have h0 := h2 j _ ho hj
    have e : (pc : Int) + offs.toList[j] = (((pc : Int) + offs.toList[j]).toNat : Int) := (Int.toNat_of_nonneg h0).symm
    refine lv_tableIn (off := offs.toList[j]) hx hb hd (by rw [jw_toInt]; exact g1) (by rw [jw_toInt]; exact g2) ?_ e (hin j _ _ ho hj e H locs ls hP hD hS hL)
    rw [jw_toInt]
    have e2 : (jw x - lo).toNat = j := by omega
    rw [e2, ← Array.getElem?_toList]
    exact ho
theorem jw_iret {x : Int} (hX : jOK X) (hk : jkd X = 1) (hd : decode (jcc X) pc = .ok (.ireturn, 1)) : jWj X (jQ X (some (jmi x)) σ) pc loc [jmi x] σ := by
  obtain ⟨p, l, e, R, s, m, args, below, meth, c, cc, nL, own, D, cy, A, ad, sh, kd⟩ := X
  obtain ⟨hx, hb, hml, hown, hts, hlk, hK, hA, hBG, hr⟩ := hX
  have hk : kd = 1 := hk
  subst hk
  intro H locs ls hP hD hS hL
  exact W.iret hx hb hr (fun t ht hW => ⟨rfl, by rw [ht]; exact hP, hS.F ht⟩) hS.2.2 hd hlk
theorem jw_zret {x : Int} (hX : jOK X) (hk : jkd X = 4) (h01 : x = 0 ∨ x = 1) (hd : decode (jcc X) pc = .ok (.ireturn, 1)) : jWj X (jQ X (some (jmi x)) σ) pc loc [jmi x] σ := by
  obtain ⟨p, l, e, R, s, m, args, below, meth, c, cc, nL, own, D, cy, A, ad, sh, kd⟩ := X
  obtain ⟨hx, hb, hml, hown, hts, hlk, hK, hA, hBG, hr⟩ := hX
  have hk : kd = 4 := hk
  subst hk
  intro H locs ls hP hD hS hL
  refine W.zret (ty := .boolean) hx hb hr ?_ (fun t ht hW => ⟨rfl, by rw [ht]; exact hP, hS.F ht⟩) hS.2.2 hd hlk
  rcases h01 with rfl | rfl <;> rfl
theorem jw_lret {x : Int} (hX : jOK X) (hk : jkd X = 2) (hd : decode (jcc X) pc = .ok (.lreturn, 1)) : jWj X (jQ X (some (jml x)) σ) pc loc [jml x] σ := by
  obtain ⟨p, l, e, R, s, m, args, below, meth, c, cc, nL, own, D, cy, A, ad, sh, kd⟩ := X
  obtain ⟨hx, hb, hml, hown, hts, hlk, hK, hA, hBG, hr⟩ := hX
  have hk : kd = 2 := hk
  subst hk
  intro H locs ls hP hD hS hL
  exact W.lret hx hb hr (fun t ht hW => ⟨rfl, by rw [ht]; exact hP, hS.F ht⟩) hS.2.2 hd hlk
theorem jw_aret {id : Nat} (hX : jOK X) (hk : jkd X = 3) (hd : decode (jcc X) pc = .ok (.areturn, 1)) : jWj X (jQ X (some (jmr id)) σ) pc loc [jmr id] σ := by
  obtain ⟨p, l, e, R, s, m, args, below, meth, c, cc, nL, own, D, cy, A, ad, sh, kd⟩ := X
  obtain ⟨hx, hb, hml, hown, hts, hlk, hK, hA, hBG, hr⟩ := hX
  have hk : kd = 3 := hk
  subst hk
  intro H locs ls hP hD hS hL
  exact W.aret hx hb hr (Or.inl ⟨_, rfl⟩) (Or.inr ⟨_, rfl⟩) (fun t ht hW => ⟨rfl, by rw [ht]; exact hP, hS.F ht⟩) hS.2.2 hd hlk
theorem jw_nret (hX : jOK X) (hk : jkd X = 3) (hd : decode (jcc X) pc = .ok (.areturn, 1)) : jWj X (jQ X (some jmn) σ) pc loc [jmn] σ := by
  obtain ⟨p, l, e, R, s, m, args, below, meth, c, cc, nL, own, D, cy, A, ad, sh, kd⟩ := X
  obtain ⟨hx, hb, hml, hown, hts, hlk, hK, hA, hBG, hr⟩ := hX
  have hk : kd = 3 := hk
  subst hk
  intro H locs ls hP hD hS hL
  exact W.aret hx hb hr (Or.inl ⟨_, rfl⟩) (Or.inl rfl) (fun t ht hW => ⟨rfl, by rw [ht]; exact hP, hS.F ht⟩) hS.2.2 hd hlk
theorem jw_vret (hX : jOK X) (hk : jkd X = 0) (hd : decode (jcc X) pc = .ok (.return_, 1)) : jWj X (jQ X none σ) pc loc [] σ := by
  obtain ⟨p, l, e, R, s, m, args, below, meth, c, cc, nL, own, D, cy, A, ad, sh, kd⟩ := X
  obtain ⟨hx, hb, hml, hown, hts, hlk, hK, hA, hBG, hr⟩ := hX
  have hk : kd = 0 := hk
  subst hk
  intro H locs ls hP hD hS hL
  exact W.vret hx hb hr (fun t ht hW => ⟨rfl, by rw [ht]; exact hP, hS.F ht⟩) hS.2.2 hd hlk
/-- a call: from its arguments on the stack to its answer there -/
def jCall (X : jxX) (i : Instr) (as : List jxV) (v : Option jxV) (σ σ1 : jxS) : Prop := ∀ (Q : State → Prop) (pc : Nat) (loc : jxL) (rest : List jxV), decode (jcc X) pc = .ok (i, 3) → jcat rest ≤ 8 → jWj X Q (pc + 3) loc (v.toList ++ rest) σ1 → jWj X Q pc loc (as.reverse ++ rest) σ
/-- what a method's tables mean in the machine -/
def jEnv (X : jxX) (E : jxE) (tb : List (Nat × Instr)) : Prop :=
  (∀ pc i, jlk tb pc = some i → ∃ n, decode (jcc X) pc = .ok (i, n) ∧ (jlen i = 0 ∨ n = jlen i)) ∧
  (∀ idx ci f, E.1 idx = some (ci, f) → jFl (jown X) idx ci f) ∧
  (∀ idx n as σ k x σ', E.2.1 idx = some (n, false) → as.length ≤ n → E.2.2.1 idx as σ k = some (x, σ') → ∃ v σ1, k v σ1 = some (x, σ') ∧ jCall X (.invokevirtual idx) as v σ σ1) ∧
  (∀ idx n as σ k x σ', E.2.1 idx = some (n, true) → as.length ≤ n → E.2.2.1 idx as σ k = some (x, σ') → ∃ v σ1, k v σ1 = some (x, σ') ∧ jCall X (.invokestatic idx) as v σ σ1) ∧
  (∀ idx v, E.2.2.2.1 idx = some v → match v with
    | .inr (.inl _) => jLd X (.ldc2_w idx) 3 v
    | _ => jLd X (.ldc idx) 2 v) ∧
  (∀ idx id, E.2.2.2.2.1 idx = some id → jLd X (.getstatic idx) 3 (jmr id)) ∧
  E.2.2.2.2.2.1 = jkd X ∧
  (∀ id c, E.2.2.2.2.2.2 id = some c → match c with
    | .inr (.inr tb) => jTt id tb
    | .inr (.inl (_, n)) => (jsh X)[id]? = some c ∧ n < 2 ^ 31
    | .inl (ci, fks) => (jsh X)[id]? = some c ∧ ∀ (f kd : Nat), kd ≤ 2 → fks[f]? = some (.inl kd) → jPf ci f kd)
theorem jtgt_some {pc : Nat} {off : Int} {k : Nat → Option jxR} {z : jxR} (h : jtgt pc off k = some z) : ∃ t : Nat, (pc : Int) + off = (t : Int) ∧ k t = some z := by
  unfold jtgt at h
  split at h
  · rename_i n hn
    exact ⟨n, hn, h⟩
  · cases h
theorem jsel_some {qs : List Nat} {v : Int} {k : Nat → Option jxR} {z : jxR} (h : jsel qs v k = some z) : ∃ q : Nat, v = (q : Int) ∧ k q = some z := by
  induction qs with
  | nil => simp [jsel] at h
  | cons q t ih =>
    simp only [jsel] at h
    split at h
    · rename_i hq
      exact ⟨q, hq, h⟩
    · exact ih h
theorem jsw_some {x : Int} {os : List Int} : ∀ {lo : Int} {kd : Option jxR} {kk : Int → Option jxR} {z : jxR}, jsw x lo os kd kk = some z → ((∀ j : Nat, j < os.length → x ≠ lo + j) ∧ kd = some z) ∨ ∃ (j : Nat) (o : Int), os[j]? = some o ∧ x = lo + j ∧ kk o = some z := by
  induction os with
  | nil => intro lo kd kk z h; exact Or.inl ⟨fun j hj => absurd hj (Nat.not_lt_zero j), h⟩
  | cons a t ih =>
    intro lo kd kk z h
    simp only [jsw] at h
    split at h
    · rename_i hq
      exact Or.inr ⟨0, a, rfl, by omega, h⟩
    · rename_i hq
      rcases ih h with ⟨h1, h2⟩ | ⟨j, o, h1, h2, h3⟩
      · refine Or.inl ⟨fun j hj => ?_, h2⟩
        cases j with
        | zero => simpa using hq
        | succ j =>
          have := h1 j (by simpa using hj)
          omega
      · exact Or.inr ⟨j + 1, o, by simpa using h1, by omega, h3⟩
theorem jcond {b : Bool} {x : Option jxR} {z : jxR} (h : (bif b then x else none) = some z) : b = true ∧ x = some z := by
  cases b
  · cases h
  · exact ⟨rfl, h⟩
theorem jite {c : Prop} [Decidable c] {x : Option jxR} {z : jxR} (h : (if c then x else none) = some z) : c ∧ x = some z := by
  split at h
  · rename_i hc
    exact ⟨hc, h⟩
  · cases h
theorem jite2 {c : Prop} [Decidable c] {x : Option jxR} {z : jxR} (h : (if c then none else x) = some z) : ¬ c ∧ x = some z := by
  split at h
  · cases h
  · rename_i hc
    exact ⟨hc, h⟩
theorem jble {a b : Nat} (h : Nat.ble a b = true) : a ≤ b := Nat.le_of_ble_eq_true h
theorem jbeq {a b : Nat} (h : Nat.beq a b = true) : a = b := Nat.eq_of_beq_eq_true h
theorem jdrop (st : List jxV) (a : Nat) : (st.take a).reverse.reverse ++ st.drop a = st := by rw [List.reverse_reverse, List.take_append_drop]
end JR
end
section
/-! A run of the small machine is a run of the machine. -/
section JX
variable {X : jxX} {E : jxE} {tb : List (Nat × Instr)} {Q : State → Prop} {pc : Nat} {loc : jxL} {r : List jxV} {σ : jxS}
theorem jfv_int {ad : Nat → Nat} {f : Int → Int} {k q : Nat} (h : q = 1 → False) : jfv ad f k (.inl q) = jtoV ad (jmi (f k)) := by
  match q, h with
  | 0, _ => rfl
  | 1, h => exact absurd rfl h
  | n + 2, _ => rfl
/-- a branch's place is one -/
def jjmp (pc : Nat) (i : Instr) : Bool := match i with
  | .ifCond _ off => decide (0 ≤ (pc : Int) + off)
  | .if_icmp _ off => decide (0 ≤ (pc : Int) + off)
  | _ => true
theorem jjmp_at {b : Prop} [Decidable b] (h : decide b = true) : b := of_decide_eq_true h
theorem jn_if_eq {x off : Int} (hX : jOK X) (hc : ¬ (jw x = 0)) (hd : decode (jcc X) pc = .ok (.ifCond .eq off, 3)) (h0 : 0 ≤ (pc : Int) + off) (hk : jWj X Q (pc + 3) loc r σ) : jWj X Q pc loc (jmi x :: r) σ := jw_if_eq hX (Int.toNat_of_nonneg h0).symm hd (fun q => absurd q hc) (fun _ => hk)
theorem jn_if_ne {x off : Int} (hX : jOK X) (hc : ¬ (¬ jw x = 0)) (hd : decode (jcc X) pc = .ok (.ifCond .ne off, 3)) (h0 : 0 ≤ (pc : Int) + off) (hk : jWj X Q (pc + 3) loc r σ) : jWj X Q pc loc (jmi x :: r) σ := jw_if_ne hX (Int.toNat_of_nonneg h0).symm hd (fun q => absurd q hc) (fun _ => hk)
theorem jn_if_lt {x off : Int} (hX : jOK X) (hc : ¬ (jw x < 0)) (hd : decode (jcc X) pc = .ok (.ifCond .lt off, 3)) (h0 : 0 ≤ (pc : Int) + off) (hk : jWj X Q (pc + 3) loc r σ) : jWj X Q pc loc (jmi x :: r) σ := jw_if_lt hX (Int.toNat_of_nonneg h0).symm hd (fun q => absurd q hc) (fun _ => hk)
theorem jn_if_ge {x off : Int} (hX : jOK X) (hc : ¬ (¬ jw x < 0)) (hd : decode (jcc X) pc = .ok (.ifCond .ge off, 3)) (h0 : 0 ≤ (pc : Int) + off) (hk : jWj X Q (pc + 3) loc r σ) : jWj X Q pc loc (jmi x :: r) σ := jw_if_ge hX (Int.toNat_of_nonneg h0).symm hd (fun q => absurd q hc) (fun _ => hk)
theorem jn_if_gt {x off : Int} (hX : jOK X) (hc : ¬ (0 < jw x)) (hd : decode (jcc X) pc = .ok (.ifCond .gt off, 3)) (h0 : 0 ≤ (pc : Int) + off) (hk : jWj X Q (pc + 3) loc r σ) : jWj X Q pc loc (jmi x :: r) σ := jw_if_gt hX (Int.toNat_of_nonneg h0).symm hd (fun q => absurd q hc) (fun _ => hk)
theorem jn_if_le {x off : Int} (hX : jOK X) (hc : ¬ (¬ 0 < jw x)) (hd : decode (jcc X) pc = .ok (.ifCond .le off, 3)) (h0 : 0 ≤ (pc : Int) + off) (hk : jWj X Q (pc + 3) loc r σ) : jWj X Q pc loc (jmi x :: r) σ := jw_if_le hX (Int.toNat_of_nonneg h0).symm hd (fun q => absurd q hc) (fun _ => hk)
theorem jn_icmp_eq {x y off : Int} (hX : jOK X) (hc : ¬ (jw x = jw y)) (hd : decode (jcc X) pc = .ok (.if_icmp .eq off, 3)) (h0 : 0 ≤ (pc : Int) + off) (hk : jWj X Q (pc + 3) loc r σ) : jWj X Q pc loc (jmi y :: jmi x :: r) σ := jw_icmp_eq hX (Int.toNat_of_nonneg h0).symm hd (fun q => absurd q hc) (fun _ => hk)
theorem jn_icmp_ne {x y off : Int} (hX : jOK X) (hc : ¬ (¬ jw x = jw y)) (hd : decode (jcc X) pc = .ok (.if_icmp .ne off, 3)) (h0 : 0 ≤ (pc : Int) + off) (hk : jWj X Q (pc + 3) loc r σ) : jWj X Q pc loc (jmi y :: jmi x :: r) σ := jw_icmp_ne hX (Int.toNat_of_nonneg h0).symm hd (fun q => absurd q hc) (fun _ => hk)
theorem jn_icmp_lt {x y off : Int} (hX : jOK X) (hc : ¬ (jw x < jw y)) (hd : decode (jcc X) pc = .ok (.if_icmp .lt off, 3)) (h0 : 0 ≤ (pc : Int) + off) (hk : jWj X Q (pc + 3) loc r σ) : jWj X Q pc loc (jmi y :: jmi x :: r) σ := jw_icmp_lt hX (Int.toNat_of_nonneg h0).symm hd (fun q => absurd q hc) (fun _ => hk)
theorem jn_icmp_ge {x y off : Int} (hX : jOK X) (hc : ¬ (¬ jw x < jw y)) (hd : decode (jcc X) pc = .ok (.if_icmp .ge off, 3)) (h0 : 0 ≤ (pc : Int) + off) (hk : jWj X Q (pc + 3) loc r σ) : jWj X Q pc loc (jmi y :: jmi x :: r) σ := jw_icmp_ge hX (Int.toNat_of_nonneg h0).symm hd (fun q => absurd q hc) (fun _ => hk)
theorem jn_icmp_gt {x y off : Int} (hX : jOK X) (hc : ¬ (jw y < jw x)) (hd : decode (jcc X) pc = .ok (.if_icmp .gt off, 3)) (h0 : 0 ≤ (pc : Int) + off) (hk : jWj X Q (pc + 3) loc r σ) : jWj X Q pc loc (jmi y :: jmi x :: r) σ := jw_icmp_gt hX (Int.toNat_of_nonneg h0).symm hd (fun q => absurd q hc) (fun _ => hk)
theorem jn_icmp_le {x y off : Int} (hX : jOK X) (hc : ¬ (¬ jw y < jw x)) (hd : decode (jcc X) pc = .ok (.if_icmp .le off, 3)) (h0 : 0 ≤ (pc : Int) + off) (hk : jWj X Q (pc + 3) loc r σ) : jWj X Q pc loc (jmi y :: jmi x :: r) σ := jw_icmp_le hX (Int.toNat_of_nonneg h0).symm hd (fun q => absurd q hc) (fun _ => hk)
set_option maxHeartbeats 4000000 in
/-- one instruction -/
theorem jx1_ok (hX : jOK X) (hE : jEnv X E tb) {i : Instr} {pc n : Nat} {loc : jxL} {st : List jxV} {σ : jxS} {k : jxK} {x : Int} {σ' : jxS} (hd : decode (jcc X) pc = .ok (i, n)) (hn : jlen i = 0 ∨ n = jlen i) (hj : jjmp pc i = true)
    (hk : ∀ pc' loc' st' σ1, k pc' loc' st' σ1 = some (x, σ') → jWj X (jQ X (jrv (jkd X) x) σ') pc' loc' st' σ1) (h : jx1 E i pc loc st σ k = some (x, σ')) : jWj X (jQ X (jrv (jkd X) x) σ') pc loc st σ := by
  obtain ⟨hE1, hE2, hE3, hE4, hE5, hE6, hE7, hE8⟩ := hE
  cases i with
  | iconst a =>
    simp only [jx1, jlen] at h hn; obtain rfl : n = 1 := by omega
    exact jw_iconst hX hd (hk _ _ _ _ h)
  | bipush a =>
    simp only [jx1, jlen] at h hn; obtain rfl : n = 2 := by omega
    obtain ⟨h1, h⟩ := jite h
    exact jw_bipush h1 hX hd (hk _ _ _ _ h)
  | sipush a =>
    simp only [jx1, jlen] at h hn; obtain rfl : n = 3 := by omega
    obtain ⟨h1, h⟩ := jite h
    exact jw_sipush h1 hX hd (hk _ _ _ _ h)
  | lconst a =>
    simp only [jx1, jlen] at h hn; obtain rfl : n = 1 := by omega
    exact jw_lconst hX hd (hk _ _ _ _ h)
  | aconst_null =>
    simp only [jx1, jlen] at h hn; obtain rfl : n = 1 := by omega
    exact jw_null hX hd (hk _ _ _ _ h)
  | ldc a =>
    simp only [jx1, jlen] at h hn; obtain rfl : n = 2 := by omega
    split at h
    · rename_i z hv
      exact (hE5 a _ hv) _ _ _ _ _ hd (hk _ _ _ _ h)
    · rename_i z hv
      exact (hE5 a _ hv) _ _ _ _ _ hd (hk _ _ _ _ h)
    · cases h
  | ldc2_w a =>
    simp only [jx1, jlen] at h hn; obtain rfl : n = 3 := by omega
    split at h
    · rename_i z hv
      exact (hE5 a _ hv) _ _ _ _ _ hd (hk _ _ _ _ h)
    · cases h
  | iload_n a =>
    simp only [jx1, jlen] at h hn; obtain rfl : n = 1 := by omega
    split at h
    · rename_i z hv
      exact jw_ldi_n hv hX hd (hk _ _ _ _ h)
    · cases h
  | iload a =>
    simp only [jx1, jlen] at h hn; obtain rfl : n = 2 := by omega
    split at h
    · rename_i z hv
      exact jw_ldi hv hX hd (hk _ _ _ _ h)
    · cases h
  | lload_n a =>
    simp only [jx1, jlen] at h hn; obtain rfl : n = 1 := by omega
    split at h
    · rename_i z hv
      exact jw_ldl_n hv hX hd (hk _ _ _ _ h)
    · cases h
  | lload a =>
    simp only [jx1, jlen] at h hn; obtain rfl : n = 2 := by omega
    split at h
    · rename_i z hv
      exact jw_ldl hv hX hd (hk _ _ _ _ h)
    · cases h
  | aload_n a =>
    simp only [jx1, jlen] at h hn; obtain rfl : n = 1 := by omega
    split at h
    · rename_i z hv
      exact jw_lda_n hv hX hd (hk _ _ _ _ h)
    · rename_i z hv
      exact jw_ldaN_n hv hX hd (hk _ _ _ _ h)
    · cases h
  | aload a =>
    simp only [jx1, jlen] at h hn; obtain rfl : n = 2 := by omega
    split at h
    · rename_i z hv
      exact jw_lda hv hX hd (hk _ _ _ _ h)
    · rename_i z hv
      exact jw_ldaN hv hX hd (hk _ _ _ _ h)
    · cases h
  | istore_n a =>
    simp only [jx1, jlen] at h hn; obtain rfl : n = 1 := by omega
    split at h
    · obtain ⟨h1, h⟩ := jcond h
      exact jw_sti_n hX (jble h1) hd (hk _ _ _ _ h)
    · cases h
  | istore a =>
    simp only [jx1, jlen] at h hn; obtain rfl : n = 2 := by omega
    split at h
    · obtain ⟨h1, h⟩ := jcond h
      exact jw_sti hX (jble h1) hd (hk _ _ _ _ h)
    · cases h
  | lstore_n a =>
    simp only [jx1, jlen] at h hn; obtain rfl : n = 1 := by omega
    split at h
    · obtain ⟨h1, h⟩ := jcond h
      exact jw_stl_n hX (jble h1) hd (hk _ _ _ _ h)
    · cases h
  | lstore a =>
    simp only [jx1, jlen] at h hn; obtain rfl : n = 2 := by omega
    split at h
    · obtain ⟨h1, h⟩ := jcond h
      exact jw_stl hX (jble h1) hd (hk _ _ _ _ h)
    · cases h
  | astore_n a =>
    simp only [jx1, jlen] at h hn; obtain rfl : n = 1 := by omega
    split at h
    · obtain ⟨h1, h⟩ := jcond h
      exact jw_sta_n hX (jble h1) hd (hk _ _ _ _ h)
    · cases h
  | astore a =>
    simp only [jx1, jlen] at h hn; obtain rfl : n = 2 := by omega
    split at h
    · obtain ⟨h1, h⟩ := jcond h
      exact jw_sta hX (jble h1) hd (hk _ _ _ _ h)
    · cases h
  | iinc a d =>
    simp only [jx1, jlen] at h hn; obtain rfl : n = 3 := by omega
    split at h
    · rename_i z hv
      obtain ⟨h1, h⟩ := jcond h
      exact jw_iinc hX hv (jble h1) hd (hk _ _ _ _ h)
    · cases h
  | iadd =>
    simp only [jx1, jlen] at h hn; obtain rfl : n = 1 := by omega
    split at h
    · exact jw_iadd hX hd (hk _ _ _ _ h)
    · cases h
  | isub =>
    simp only [jx1, jlen] at h hn; obtain rfl : n = 1 := by omega
    split at h
    · exact jw_isub hX hd (hk _ _ _ _ h)
    · cases h
  | imul =>
    simp only [jx1, jlen] at h hn; obtain rfl : n = 1 := by omega
    split at h
    · exact jw_imul hX hd (hk _ _ _ _ h)
    · cases h
  | iand =>
    simp only [jx1, jlen] at h hn; obtain rfl : n = 1 := by omega
    split at h
    · exact jw_iand hX hd (hk _ _ _ _ h)
    · cases h
  | ior =>
    simp only [jx1, jlen] at h hn; obtain rfl : n = 1 := by omega
    split at h
    · exact jw_ior hX hd (hk _ _ _ _ h)
    · cases h
  | ixor =>
    simp only [jx1, jlen] at h hn; obtain rfl : n = 1 := by omega
    split at h
    · exact jw_ixor hX hd (hk _ _ _ _ h)
    · cases h
  | ishl =>
    simp only [jx1, jlen] at h hn; obtain rfl : n = 1 := by omega
    split at h
    · exact jw_ishl hX hd (hk _ _ _ _ h)
    · cases h
  | ishr =>
    simp only [jx1, jlen] at h hn; obtain rfl : n = 1 := by omega
    split at h
    · exact jw_ishr hX hd (hk _ _ _ _ h)
    · cases h
  | iushr =>
    simp only [jx1, jlen] at h hn; obtain rfl : n = 1 := by omega
    split at h
    · exact jw_iushr hX hd (hk _ _ _ _ h)
    · cases h
  | ladd =>
    simp only [jx1, jlen] at h hn; obtain rfl : n = 1 := by omega
    split at h
    · exact jw_ladd hX hd (hk _ _ _ _ h)
    · cases h
  | lmul =>
    simp only [jx1, jlen] at h hn; obtain rfl : n = 1 := by omega
    split at h
    · exact jw_lmul hX hd (hk _ _ _ _ h)
    · cases h
  | land =>
    simp only [jx1, jlen] at h hn; obtain rfl : n = 1 := by omega
    split at h
    · exact jw_land hX hd (hk _ _ _ _ h)
    · cases h
  | lor =>
    simp only [jx1, jlen] at h hn; obtain rfl : n = 1 := by omega
    split at h
    · exact jw_lor hX hd (hk _ _ _ _ h)
    · cases h
  | lxor =>
    simp only [jx1, jlen] at h hn; obtain rfl : n = 1 := by omega
    split at h
    · exact jw_lxor hX hd (hk _ _ _ _ h)
    · cases h
  | lshl =>
    simp only [jx1, jlen] at h hn; obtain rfl : n = 1 := by omega
    split at h
    · exact jw_lshl hX hd (hk _ _ _ _ h)
    · cases h
  | lshr =>
    simp only [jx1, jlen] at h hn; obtain rfl : n = 1 := by omega
    split at h
    · exact jw_lshr hX hd (hk _ _ _ _ h)
    · cases h
  | lcmp =>
    simp only [jx1, jlen] at h hn; obtain rfl : n = 1 := by omega
    split at h
    · exact jw_lcmp hX hd (hk _ _ _ _ h)
    · cases h
  | i2l =>
    simp only [jx1, jlen] at h hn; obtain rfl : n = 1 := by omega
    split at h
    · exact jw_i2l hX hd (hk _ _ _ _ h)
    · cases h
  | l2i =>
    simp only [jx1, jlen] at h hn; obtain rfl : n = 1 := by omega
    split at h
    · exact jw_l2i hX hd (hk _ _ _ _ h)
    · cases h
  | i2b =>
    simp only [jx1, jlen] at h hn; obtain rfl : n = 1 := by omega
    split at h
    · exact jw_i2b hX hd (hk _ _ _ _ h)
    · cases h
  | idiv =>
    simp only [jx1, jlen] at h hn; obtain rfl : n = 1 := by omega
    split at h
    · obtain ⟨h1, h⟩ := jite2 h
      exact jw_idiv h1 hX hd (hk _ _ _ _ h)
    · cases h
  | irem =>
    simp only [jx1, jlen] at h hn; obtain rfl : n = 1 := by omega
    split at h
    · obtain ⟨h1, h⟩ := jite2 h
      exact jw_irem h1 hX hd (hk _ _ _ _ h)
    · cases h
  | ldiv =>
    simp only [jx1, jlen] at h hn; obtain rfl : n = 1 := by omega
    split at h
    · obtain ⟨h1, h⟩ := jite2 h
      exact jw_ldiv h1 hX hd (hk _ _ _ _ h)
    · cases h
  | lrem =>
    simp only [jx1, jlen] at h hn; obtain rfl : n = 1 := by omega
    split at h
    · obtain ⟨h1, h⟩ := jite2 h
      exact jw_lrem h1 hX hd (hk _ _ _ _ h)
    · cases h
  | dup =>
    simp only [jx1, jlen] at h hn; obtain rfl : n = 1 := by omega
    split at h
    · exact jw_dupi hX hd (hk _ _ _ _ h)
    · rename_i z _
      match z, h with
      | .inl z, h => exact jw_dupr hX hd (hk _ _ _ _ h)
      | .inr _, h => exact jw_dupn hX hd (hk _ _ _ _ h)
    · cases h
  | dup2 =>
    simp only [jx1, jlen] at h hn; obtain rfl : n = 1 := by omega
    split at h
    · rename_i y z _
      match z, h with
      | .inl z, h => exact jw_dup2r hX hd (hk _ _ _ _ h)
      | .inr _, h => exact jw_dup2n hX hd (hk _ _ _ _ h)
    · cases h
  | pop =>
    simp only [jx1, jlen] at h hn; obtain rfl : n = 1 := by omega
    split at h
    · exact jw_popi hX hd (hk _ _ _ _ h)
    · rename_i z _
      match z, h with
      | .inl z, h => exact jw_popr hX hd (hk _ _ _ _ h)
      | .inr _, h => exact jw_popn hX hd (hk _ _ _ _ h)
    · cases h
  | goto off =>
    simp only [jx1, jlen] at h hn; obtain rfl : n = 3 := by omega
    obtain ⟨t, ht, h⟩ := jtgt_some h
    exact jw_goto (x := 0) hX ht hd (hk _ _ _ _ h)
  | ifCond c off =>
    simp only [jx1, jlen] at h hn; obtain rfl : n = 3 := by omega
    split at h
    · cases c with
      | eq =>
        simp only at h
        split at h
        · rename_i hc
          obtain ⟨t, ht, h⟩ := jtgt_some h
          exact jw_if_eq hX ht hd (fun _ => hk _ _ _ _ h) (fun q => absurd hc q)
        · rename_i hc
          have h0 := jjmp_at hj
          exact jn_if_eq hX hc hd h0 (hk _ _ _ _ h)
      | ne =>
        simp only at h
        split at h
        · rename_i hc
          have h0 := jjmp_at hj
          exact jn_if_ne hX (fun q => q hc) hd h0 (hk _ _ _ _ h)
        · rename_i hc
          obtain ⟨t, ht, h⟩ := jtgt_some h
          exact jw_if_ne hX ht hd (fun _ => hk _ _ _ _ h) (fun q => absurd hc q)
      | lt =>
        simp only at h
        split at h
        · rename_i hc
          obtain ⟨t, ht, h⟩ := jtgt_some h
          exact jw_if_lt hX ht hd (fun _ => hk _ _ _ _ h) (fun q => absurd hc q)
        · rename_i hc
          have h0 := jjmp_at hj
          exact jn_if_lt hX hc hd h0 (hk _ _ _ _ h)
      | ge =>
        simp only at h
        split at h
        · rename_i hc
          have h0 := jjmp_at hj
          exact jn_if_ge hX (fun q => q hc) hd h0 (hk _ _ _ _ h)
        · rename_i hc
          obtain ⟨t, ht, h⟩ := jtgt_some h
          exact jw_if_ge hX ht hd (fun _ => hk _ _ _ _ h) (fun q => absurd hc q)
      | gt =>
        simp only at h
        split at h
        · rename_i hc
          obtain ⟨t, ht, h⟩ := jtgt_some h
          exact jw_if_gt hX ht hd (fun _ => hk _ _ _ _ h) (fun q => absurd hc q)
        · rename_i hc
          have h0 := jjmp_at hj
          exact jn_if_gt hX hc hd h0 (hk _ _ _ _ h)
      | le =>
        simp only at h
        split at h
        · rename_i hc
          have h0 := jjmp_at hj
          exact jn_if_le hX (fun q => q hc) hd h0 (hk _ _ _ _ h)
        · rename_i hc
          obtain ⟨t, ht, h⟩ := jtgt_some h
          exact jw_if_le hX ht hd (fun _ => hk _ _ _ _ h) (fun q => absurd hc q)
    · cases h
  | if_icmp c off =>
    simp only [jx1, jlen] at h hn; obtain rfl : n = 3 := by omega
    split at h
    · cases c with
      | eq =>
        simp only at h
        split at h
        · rename_i hc
          obtain ⟨t, ht, h⟩ := jtgt_some h
          exact jw_icmp_eq hX ht hd (fun _ => hk _ _ _ _ h) (fun q => absurd hc q)
        · rename_i hc
          have h0 := jjmp_at hj
          exact jn_icmp_eq hX hc hd h0 (hk _ _ _ _ h)
      | ne =>
        simp only at h
        split at h
        · rename_i hc
          have h0 := jjmp_at hj
          exact jn_icmp_ne hX (fun q => q hc) hd h0 (hk _ _ _ _ h)
        · rename_i hc
          obtain ⟨t, ht, h⟩ := jtgt_some h
          exact jw_icmp_ne hX ht hd (fun _ => hk _ _ _ _ h) (fun q => absurd hc q)
      | lt =>
        simp only at h
        split at h
        · rename_i hc
          obtain ⟨t, ht, h⟩ := jtgt_some h
          exact jw_icmp_lt hX ht hd (fun _ => hk _ _ _ _ h) (fun q => absurd hc q)
        · rename_i hc
          have h0 := jjmp_at hj
          exact jn_icmp_lt hX hc hd h0 (hk _ _ _ _ h)
      | ge =>
        simp only at h
        split at h
        · rename_i hc
          have h0 := jjmp_at hj
          exact jn_icmp_ge hX (fun q => q hc) hd h0 (hk _ _ _ _ h)
        · rename_i hc
          obtain ⟨t, ht, h⟩ := jtgt_some h
          exact jw_icmp_ge hX ht hd (fun _ => hk _ _ _ _ h) (fun q => absurd hc q)
      | gt =>
        simp only at h
        split at h
        · rename_i hc
          obtain ⟨t, ht, h⟩ := jtgt_some h
          exact jw_icmp_gt hX ht hd (fun _ => hk _ _ _ _ h) (fun q => absurd hc q)
        · rename_i hc
          have h0 := jjmp_at hj
          exact jn_icmp_gt hX hc hd h0 (hk _ _ _ _ h)
      | le =>
        simp only at h
        split at h
        · rename_i hc
          have h0 := jjmp_at hj
          exact jn_icmp_le hX (fun q => q hc) hd h0 (hk _ _ _ _ h)
        · rename_i hc
          obtain ⟨t, ht, h⟩ := jtgt_some h
          exact jw_icmp_le hX ht hd (fun _ => hk _ _ _ _ h) (fun q => absurd hc q)
    · cases h
  | ifnull off =>
    simp only [jx1, jlen] at h hn; obtain rfl : n = 3 := by omega
    split at h
    · exact jw_ifnull (t := 0) hX hd (hk _ _ _ _ h)
    · obtain ⟨t, ht, h⟩ := jtgt_some h
      exact jw_ifnullN (x := 0) hX ht hd (hk _ _ _ _ h)
    · cases h
  | ifnonnull off =>
    simp only [jx1, jlen] at h hn; obtain rfl : n = 3 := by omega
    split at h
    · obtain ⟨t, ht, h⟩ := jtgt_some h
      exact jw_ifnonnull hX ht hd (hk _ _ _ _ h)
    · exact jw_ifnonnullN (x := 0) (t := 0) hX hd (hk _ _ _ _ h)
    · cases h
  | iaload =>
    simp only [jx1, jlen] at h hn; obtain rfl : n = 1 := by omega
    split at h
    · split at h
      · rename_i m hv
        obtain ⟨h1, h⟩ := jite h
        exact jw_iaload hX (hE8 _ _ hv).1 (hE8 _ _ hv).2 h1 hd (hk _ _ _ _ h)
      · rename_i m hv
        obtain ⟨h1, h⟩ := jite h
        exact jw_tald hX (hE8 _ _ hv) h1 hd (hk _ _ _ _ h)
      · cases h
    · cases h
  | baload =>
    simp only [jx1, jlen] at h hn; obtain rfl : n = 1 := by omega
    split at h
    · split at h
      · rename_i m hv
        obtain ⟨h1, h⟩ := jite h
        exact jw_baload hX (hE8 _ _ hv).1 (hE8 _ _ hv).2 h1 hd (hk _ _ _ _ h)
      · rename_i m hv
        obtain ⟨h1, h⟩ := jite h
        exact jw_zaload hX (hE8 _ _ hv).1 (hE8 _ _ hv).2 h1 hd (hk _ _ _ _ h)
      · cases h
    · cases h
  | laload =>
    simp only [jx1, jlen] at h hn; obtain rfl : n = 1 := by omega
    split at h
    · split at h
      · rename_i m hv
        obtain ⟨h1, h⟩ := jite h
        exact jw_laload hX (hE8 _ _ hv).1 (hE8 _ _ hv).2 h1 hd (hk _ _ _ _ h)
      · cases h
    · cases h
  | iastore =>
    simp only [jx1, jlen] at h hn; obtain rfl : n = 1 := by omega
    split at h
    · split at h
      · rename_i m hv
        obtain ⟨h1, h⟩ := jite h
        exact jw_iastore hX (hE8 _ _ hv).1 (hE8 _ _ hv).2 h1 hd (hk _ _ _ _ h)
      · cases h
    · cases h
  | bastore =>
    simp only [jx1, jlen] at h hn; obtain rfl : n = 1 := by omega
    split at h
    · split at h
      · rename_i m hv
        obtain ⟨h1, h⟩ := jite h
        exact jw_bastore hX (hE8 _ _ hv).1 (hE8 _ _ hv).2 h1 hd (hk _ _ _ _ h)
      · rename_i m hv
        obtain ⟨h1, h⟩ := jite h
        exact jw_zastore hX (hE8 _ _ hv).1 (hE8 _ _ hv).2 h1 hd (hk _ _ _ _ h)
      · cases h
    · cases h
  | lastore =>
    simp only [jx1, jlen] at h hn; obtain rfl : n = 1 := by omega
    split at h
    · split at h
      · rename_i m hv
        obtain ⟨h1, h⟩ := jite h
        exact jw_lastore hX (hE8 _ _ hv).1 (hE8 _ _ hv).2 h1 hd (hk _ _ _ _ h)
      · cases h
    · cases h
  | aaload =>
    simp only [jx1, jlen] at h hn; obtain rfl : n = 1 := by omega
    split at h
    · split at h
      · rename_i m hv
        obtain ⟨h1, h⟩ := jite h
        refine jw_aald hX (hE8 _ _ hv).1 (hE8 _ _ hv).2 h1 hd ?_
        split at h
        · rename_i h0
          rw [if_pos h0]
          exact hk _ _ _ _ h
        · rename_i h0
          rw [if_neg h0]
          obtain ⟨q, hq, h⟩ := jsel_some h
          rw [hq, Int.toNat_natCast]
          exact hk _ _ _ _ h
      · cases h
    · cases h
  | arraylength =>
    simp only [jx1, jlen] at h hn; obtain rfl : n = 1 := by omega
    split at h
    · split at h
      · rename_i m hv
        exact jw_alen hX (hE8 _ _ hv).1 hd (hk _ _ _ _ h)
      · rename_i m hv
        exact jw_lalen hX (hE8 _ _ hv).1 hd (hk _ _ _ _ h)
      · rename_i m hv
        exact jw_talen hX (hE8 _ _ hv) hd (hk _ _ _ _ h)
      · cases h
    · cases h
  | getfield a =>
    simp only [jx1, jlen] at h hn; obtain rfl : n = 3 := by omega
    split at h
    · split at h
      · rename_i ci f cj fks hv hw
        obtain ⟨h1, h5⟩ := jcond h
        obtain rfl := jbeq h1
        have hs := (hE8 _ _ hw).1
        split at h5
        · rename_i hf
          exact jw_get hX hs hf (fun _ => rfl) (hE2 _ _ _ hv) hd (hk _ _ _ _ h5)
        · rename_i q hf hq
          exact jw_get hX hs hq (fun _ => jfv_int hf) (hE2 _ _ _ hv) hd (hk _ _ _ _ h5)
        · rename_i q hf
          exact jw_get hX hs hf (fun _ => rfl) (hE2 _ _ _ hv) hd (hk _ _ _ _ h5)
        · rename_i hf
          exact jw_get hX hs hf (fun _ => rfl) (hE2 _ _ _ hv) hd (hk _ _ _ _ h5)
        · cases h5
      · cases h
    · cases h
  | putfield a =>
    simp only [jx1, jlen] at h hn; obtain rfl : n = 3 := by omega
    split at h
    · split at h
      · rename_i ci f cj fks hv hw
        obtain ⟨h1, h5⟩ := jcond h
        obtain rfl := jbeq h1
        have hs := (hE8 _ _ hw)
        split at h5
        · rename_i hf
          exact jw_put (w := jmi _) (kd' := 0) hX hs.1 hf (fun _ => by simp [jfv, jup, jtoV]) (hE2 _ _ _ hv) (hs.2 _ _ (by omega) hf) (fun _ => ⟨rfl, rfl⟩) hd (hk _ _ _ _ h5)
        · rename_i hf
          obtain ⟨h2, h5⟩ := jite h5
          exact jw_put (w := jmi _) (kd' := 2) hX hs.1 hf (fun _ => by simp [jfv, jup, jtoV]) (hE2 _ _ _ hv) (hs.2 _ _ (by omega) hf) (fun _ => by rcases h2 with rfl | rfl <;> exact ⟨rfl, rfl⟩) hd (hk _ _ _ _ h5)
        · cases h5
      · cases h
    · split at h
      · rename_i ci f cj fks hv hw
        obtain ⟨h1, h5⟩ := jcond h
        obtain rfl := jbeq h1
        have hs := (hE8 _ _ hw)
        split at h5
        · rename_i hf
          exact jw_put (w := jml _) (kd' := 1) hX hs.1 hf (fun _ => by simp [jfv, jup, jtoV]) (hE2 _ _ _ hv) (hs.2 _ _ (by omega) hf) (fun _ => ⟨rfl, rfl⟩) hd (hk _ _ _ _ h5)
        · cases h5
      · cases h
    · cases h
  | getstatic a =>
    simp only [jx1, jlen] at h hn; obtain rfl : n = 3 := by omega
    split at h
    · rename_i id hv
      exact hE6 _ _ hv _ _ _ _ _ hd (hk _ _ _ _ h)
    · cases h
  | invokevirtual a =>
    simp only [jx1, jlen] at h hn; obtain rfl : n = 3 := by omega
    split at h
    · rename_i q hv
      obtain ⟨h1, h⟩ := jcond h
      obtain ⟨v, σ1, h2, h3⟩ := hE3 _ _ _ _ _ _ _ hv (by simp; omega) h
      have h4 := h3 _ pc loc (st.drop q) hd (jble h1) (hk _ _ _ _ h2)
      rw [jdrop] at h4
      exact h4
    · cases h
  | invokestatic a =>
    simp only [jx1, jlen] at h hn; obtain rfl : n = 3 := by omega
    split at h
    · rename_i q hv
      obtain ⟨h1, h⟩ := jcond h
      obtain ⟨v, σ1, h2, h3⟩ := hE4 _ _ _ _ _ _ _ hv (by simp; omega) h
      have h4 := h3 _ pc loc (st.drop q) hd (jble h1) (hk _ _ _ _ h2)
      rw [jdrop] at h4
      exact h4
    · cases h
  | ireturn =>
    simp only [jx1, jlen] at h hn; obtain rfl : n = 1 := by omega
    split at h
    · split at h
      · rename_i hv
        cases h
        rw [← hE7, hv]
        exact jw_iret hX (hE7 ▸ hv) hd
      · rename_i hv
        obtain ⟨h1, h⟩ := jite h
        cases h
        rw [← hE7, hv]
        exact jw_zret hX (hE7 ▸ hv) h1 hd
      · cases h
    · cases h
  | lreturn =>
    simp only [jx1, jlen] at h hn; obtain rfl : n = 1 := by omega
    split at h
    · split at h
      · rename_i hv
        cases h
        rw [← hE7, hv]
        exact jw_lret hX (hE7 ▸ hv) hd
      · cases h
    · cases h
  | areturn =>
    simp only [jx1, jlen] at h hn; obtain rfl : n = 1 := by omega
    split at h
    · rename_i idq
      split at h
      · rename_i hv
        cases h
        rw [← hE7, hv]
        have e := jw_aret (id := idq + 1) (σ := σ) (loc := loc) hX (hE7 ▸ hv) hd
        have hne : ¬ ((idq + 1 : Nat) : Int) = 0 := by omega
        simp only [jrv, if_neg hne, Int.toNat_natCast]
        exact e
      · cases h
    · split at h
      · rename_i hv
        cases h
        rw [← hE7, hv]
        have e := jw_nret (σ := σ) (loc := loc) hX (hE7 ▸ hv) hd
        simpa [jrv] using e
      · cases h
    · cases h
  | return_ =>
    simp only [jx1, jlen] at h hn; obtain rfl : n = 1 := by omega
    split at h
    · split at h
      · rename_i hv
        cases h
        rw [← hE7, hv]
        exact jw_vret hX (hE7 ▸ hv) hd
      · cases h
    · cases h
  | tableswitch d lo hi offs =>
    simp only [jx1] at h
    split at h
    · rename_i z r
      obtain ⟨h1, h⟩ := jite h
      have h3 := jsw_some h
      refine jw_sw hX hd h1 ?_ ?_ ?_ ?_
      · intro t ht hc
        rcases h3 with ⟨-, h⟩ | ⟨j, o, g1, g2, g3⟩
        · obtain ⟨t', ht', h⟩ := jtgt_some h
          obtain rfl : t = t' := by omega
          exact hk _ _ _ _ h
        · have := (List.getElem?_eq_some_iff.mp g1).1
          omega
      · intro j off t hj hjx ht
        have hl := (List.getElem?_eq_some_iff.mp hj).1
        rcases h3 with ⟨g, -⟩ | ⟨j', o, g1, g2, g3⟩
        · exact absurd hjx (g j hl)
        · obtain rfl : j = j' := by omega
          cases hj.symm.trans g1
          obtain ⟨t', ht', h⟩ := jtgt_some g3
          obtain rfl : t = t' := by omega
          exact hk _ _ _ _ h
      · intro hc
        rcases h3 with ⟨-, h⟩ | ⟨j, o, g1, g2, g3⟩
        · obtain ⟨t', ht', h⟩ := jtgt_some h
          omega
        · have := (List.getElem?_eq_some_iff.mp g1).1
          omega
      · intro j off hj hjx
        have hl := (List.getElem?_eq_some_iff.mp hj).1
        rcases h3 with ⟨g, -⟩ | ⟨j', o, g1, g2, g3⟩
        · exact absurd hjx (g j hl)
        · obtain rfl : j = j' := by omega
          cases hj.symm.trans g1
          obtain ⟨t', ht', h⟩ := jtgt_some g3
          omega
    · cases h
  | _ => simp only [jx1] at h; cases h
end JX
end
section
/-! Runs up to the next cut; contracts of methods; calls. -/
section JC
variable {X : jxX} {E : jxE} {tb : List (Nat × Instr)}
/-- a table of instructions: each decoded so, each branch to a place -/
def jtok (cc : ByteArray) (tb : List (Nat × Instr)) : Bool := tb.all (fun q => (match decode cc q.1 with
  | .ok (i, n) => decide (i = q.2) && (Nat.beq (jlen i) 0 || Nat.beq n (jlen i))
  | .error _ => false) && jjmp q.1 q.2)
theorem jlk_in {tb : List (Nat × Instr)} {pc : Nat} {i : Instr} (h : jlk tb pc = some i) : (pc, i) ∈ tb := by
  induction tb with
  | nil => simp [jlk] at h
  | cons q t ih =>
    simp only [jlk] at h
    cases hb : Nat.beq q.1 pc with
    | true =>
      rw [hb] at h
      simp only [cond_true, Option.some.injEq] at h
      have := jbeq hb
      obtain ⟨a, b⟩ := q
      simp only at h this
      subst h; subst this
      exact List.mem_cons_self
    | false =>
      rw [hb] at h
      exact List.mem_cons_of_mem _ (ih (by simpa using h))
theorem jtok_at {cc : ByteArray} {tb : List (Nat × Instr)} (h : jtok cc tb = true) {pc : Nat} {i : Instr} (hi : jlk tb pc = some i) : (∃ n, decode cc pc = .ok (i, n) ∧ (jlen i = 0 ∨ n = jlen i)) ∧ jjmp pc i = true := by
  have h1 := List.all_eq_true.mp h _ (jlk_in hi)
  simp only [Bool.and_eq_true] at h1
  obtain ⟨h1, h2⟩ := h1
  refine ⟨?_, h2⟩
  cases hd : decode cc pc with
  | error e => rw [hd] at h1; cases h1
  | ok q =>
    obtain ⟨j, n⟩ := q
    rw [hd] at h1
    simp only [Bool.and_eq_true, Bool.or_eq_true, decide_eq_true_eq] at h1
    obtain ⟨rfl, h3⟩ := h1
    exact ⟨n, rfl, h3.imp jbeq jbeq⟩
/-- a cut: its place, what the locals and the stack hold there (0 a number, 1 a long, a cell, null; none: nothing that is used), and what goes on from there -/
abbrev jxT : Type := Nat ⊕ Option Nat
abbrev jxU : Type := Nat × List (Option jxT) × List jxT × (List Int → jxS → Option jxR)
def jext (tl : List (Option jxT)) (l : jxL) : Option (List Int) := match tl, l with
  | [], _ => some []
  | none :: t, _ :: l => jext t l
  | some (.inl 0) :: t, some (.inl x) :: l => (match jext t l with
    | some xs => some (x :: xs)
    | none => none)
  | some (.inl 1) :: t, some (.inr (.inl x)) :: l => (match jext t l with
    | some xs => some (x :: xs)
    | none => none)
  | some (.inr (some j)) :: t, some (.inr (.inr (.inl k))) :: l => bif Nat.beq j k then jext t l else none
  | some (.inr none) :: t, some (.inr (.inr (.inr _))) :: l => jext t l
  | _, _ => none
def jexs (ts : List jxT) (st : List jxV) : Option (List Int) := match ts, st with
  | [], [] => some []
  | .inl 0 :: t, .inl x :: l => (match jexs t l with
    | some xs => some (x :: xs)
    | none => none)
  | .inl 1 :: t, .inr (.inl x) :: l => (match jexs t l with
    | some xs => some (x :: xs)
    | none => none)
  | .inr (some j) :: t, .inr (.inr (.inl k)) :: l => bif Nat.beq j k then jexs t l else none
  | .inr none :: t, .inr (.inr (.inr _)) :: l => jexs t l
  | _, _ => none
def jins (tl : List (Option jxT)) (xs : List Int) : jxL := match tl, xs with
  | [], _ => []
  | none :: t, xs => none :: jins t xs
  | some (.inl 0) :: t, x :: xs => some (jmi x) :: jins t xs
  | some (.inl _) :: t, x :: xs => some (jml x) :: jins t xs
  | some (.inl _) :: t, [] => none :: jins t []
  | some (.inr (some j)) :: t, xs => some (jmr j) :: jins t xs
  | some (.inr none) :: t, xs => some jmn :: jins t xs
def jinz (ts : List jxT) (xs : List Int) : List jxV := match ts, xs with
  | [], _ => []
  | .inl 0 :: t, x :: xs => jmi x :: jinz t xs
  | .inl _ :: t, x :: xs => jml x :: jinz t xs
  | .inl _ :: t, [] => jmi 0 :: jinz t []
  | .inr (some j) :: t, xs => jmr j :: jinz t xs
  | .inr none :: t, xs => jmn :: jinz t xs
def jcnt (tl : List (Option jxT)) : Nat := match tl with
  | [] => 0
  | some (.inl _) :: t => jcnt t + 1
  | _ :: t => jcnt t
def jcns (ts : List jxT) : Nat := match ts with
  | [] => 0
  | .inl _ :: t => jcns t + 1
  | _ :: t => jcns t
def jkk (cs : List jxU) : jxK := fun pc loc st σ => match cs with
  | [] => none
  | (p, tl, ts, f) :: t => bif Nat.beq p pc then (match jext tl loc with
    | some xs => (match jexs ts st with
      | some ys => f (xs ++ ys) σ
      | none => none)
    | none => none) else jkk t pc loc st σ
theorem jext_ok {tl : List (Option jxT)} : ∀ {l : jxL} {xs : List Int}, jext tl l = some xs → xs.length = jcnt tl ∧ (jins tl xs).length ≤ l.length ∧ ∀ i v, jget (jins tl xs) i = some v → jget l i = some v := by
  induction tl with
  | nil =>
    intro l xs h
    simp only [jext, Option.some.injEq] at h
    subst h
    exact ⟨rfl, Nat.zero_le _, fun i v h => by simp [jins, jget] at h⟩
  | cons a t ih =>
    intro l xs h
    match a, l, h with
    | none, [], h => simp [jext] at h
    | none, b :: l, h =>
      obtain ⟨h1, h2, h3⟩ := ih (by simpa [jext] using h)
      refine ⟨h1, by simp only [jins, List.length_cons]; omega, fun i v hv => ?_⟩
      cases i with
      | zero => simp [jins, jget] at hv
      | succ i => exact h3 i v (by simpa [jins, jget] using hv)
    | some (.inl 0), some (.inl x) :: l, h =>
      simp only [jext] at h
      split at h
      · rename_i ys hy
        cases h
        obtain ⟨h1, h2, h3⟩ := ih hy
        refine ⟨by simp [jcnt, h1], by simp only [jins, List.length_cons]; omega, fun i v hv => ?_⟩
        cases i with
        | zero => simpa [jins, jget] using hv
        | succ i => exact h3 i v (by simpa [jins, jget] using hv)
      · cases h
    | some (.inl 1), some (.inr (.inl x)) :: l, h =>
      simp only [jext] at h
      split at h
      · rename_i ys hy
        cases h
        obtain ⟨h1, h2, h3⟩ := ih hy
        refine ⟨by simp [jcnt, h1], by simp only [jins, List.length_cons]; omega, fun i v hv => ?_⟩
        cases i with
        | zero => simpa [jins, jget] using hv
        | succ i => exact h3 i v (by simpa [jins, jget] using hv)
      · cases h
    | some (.inr (some j)), some (.inr (.inr (.inl k))) :: l, h =>
      simp only [jext] at h
      cases hb : Nat.beq j k with
      | false => rw [hb] at h; cases h
      | true =>
        rw [hb] at h
        have e := jbeq hb
        subst e
        obtain ⟨h1, h2, h3⟩ := ih (by simpa using h)
        refine ⟨h1, by simp only [jins, List.length_cons]; omega, fun i v hv => ?_⟩
        cases i with
        | zero => simpa [jins, jget] using hv
        | succ i => exact h3 i v (by simpa [jins, jget] using hv)
    | some (.inr none), some (.inr (.inr (.inr u))) :: l, h =>
      obtain ⟨h1, h2, h3⟩ := ih (by simpa [jext] using h)
      refine ⟨h1, by simp only [jins, List.length_cons]; omega, fun i v hv => ?_⟩
      cases i with
      | zero => simpa [jins, jget] using hv
      | succ i => exact h3 i v (by simpa [jins, jget] using hv)
theorem jexs_ok {ts : List jxT} : ∀ {l : List jxV} {xs : List Int}, jexs ts l = some xs → xs.length = jcns ts ∧ jinz ts xs = l := by
  induction ts with
  | nil =>
    intro l xs h
    match l, h with
    | [], h => simp only [jexs, Option.some.injEq] at h; subst h; exact ⟨rfl, rfl⟩
  | cons a t ih =>
    intro l xs h
    match a, l, h with
    | .inl 0, .inl x :: l, h =>
      simp only [jexs] at h
      split at h
      · rename_i ys hy
        cases h
        obtain ⟨h1, h2⟩ := ih hy
        exact ⟨by simp [jcns, h1], by simp [jinz, h2]⟩
      · cases h
    | .inl 1, .inr (.inl x) :: l, h =>
      simp only [jexs] at h
      split at h
      · rename_i ys hy
        cases h
        obtain ⟨h1, h2⟩ := ih hy
        exact ⟨by simp [jcns, h1], by simp [jinz, h2]⟩
      · cases h
    | .inr (some j), .inr (.inr (.inl k)) :: l, h =>
      simp only [jexs] at h
      cases hb : Nat.beq j k with
      | false => rw [hb] at h; cases h
      | true =>
        rw [hb] at h
        have e := jbeq hb
        subst e
        obtain ⟨h1, h2⟩ := ih (by simpa using h)
        exact ⟨h1, by simp [jinz, h2]⟩
    | .inr none, .inr (.inr (.inr u)) :: l, h =>
      obtain ⟨h1, h2⟩ := ih (by simpa [jexs] using h)
      exact ⟨h1, by simp [jinz, h2]⟩
/-- fewer locals are known: nothing is lost -/
theorem jWj_less {Q : State → Prop} {pc : Nat} {loc loc' : jxL} {st : List jxV} {σ : jxS} (h1 : loc'.length ≤ loc.length) (h2 : ∀ i v, jget loc' i = some v → jget loc i = some v) (h : jWj X Q pc loc' st σ) : jWj X Q pc loc st σ := by
  obtain ⟨p, l, e, R, s, m, args, below, meth, c, cc, nL, own, D, cy, A, ad, sh, kd⟩ := X
  intro H locs ls hP hD hS hL
  exact h H locs ls hP hD hS ⟨hL.1, hL.2.1, Nat.le_trans h1 hL.2.2.1, fun i v hv => hL.2.2.2 i v (h2 i v hv)⟩
def jCut (X : jxX) (q : jxU) : Prop := ∀ xs : List Int, xs.length = jcnt q.2.1 → ∀ ys : List Int, ys.length = jcns q.2.2.1 → ∀ σ, jRf X (q.2.2.2 (xs ++ ys) σ) q.1 (jins q.2.1 xs) (jinz q.2.2.1 ys) σ
theorem jkk_ok {cs : List jxU} (hc : ∀ q ∈ cs, jCut X q) {pc : Nat} {loc : jxL} {st : List jxV} {σ : jxS} : jRf X (jkk cs pc loc st σ) pc loc st σ := by
  induction cs with
  | nil => exact jRf_none
  | cons q t ih =>
    obtain ⟨p, tl, ts, f⟩ := q
    intro x σ' h
    simp only [jkk] at h
    cases hb : Nat.beq p pc with
    | false =>
      rw [hb] at h
      exact ih (fun q hq => hc q (List.mem_cons_of_mem _ hq)) x σ' (by simpa using h)
    | true =>
      rw [hb] at h
      have e := jbeq hb
      subst e
      simp only [cond_true] at h
      split at h
      · rename_i xs hx
        split at h
        · rename_i ys hy
          obtain ⟨h1, h2, h3⟩ := jext_ok hx
          obtain ⟨g1, g2⟩ := jexs_ok hy
          have k := hc _ List.mem_cons_self xs h1 ys g1 σ x σ' h
          rw [g2] at k
          exact jWj_less h2 h3 k
        · cases h
      · cases h
/-- a method's tables, and what its code is -/
def jGd (X : jxX) (E : jxE) (tb : List (Nat × Instr)) : Prop := jOK X ∧ jEnv X E tb ∧ ∀ pc i, jlk tb pc = some i → jjmp pc i = true
theorem jex_ok (hG : jGd X E tb) {cs : List jxU} (hc : ∀ q ∈ cs, jCut X q) : ∀ (n pc : Nat) (loc : jxL) (st : List jxV) (σ : jxS), jRf X (jex E tb (cs.map (·.1)) (jkk cs) n pc loc st σ) pc loc st σ := by
  intro n
  induction n with
  | zero => intro pc loc st σ; exact jRf_none
  | succ n ih =>
    intro pc loc st σ x σ' h
    simp only [jex] at h
    split at h
    · cases h
    · rename_i i hi
      obtain ⟨m, hd, hm⟩ := hG.2.1.1 pc i hi
      refine jx1_ok hG.1 hG.2.1 hd hm (hG.2.2 pc i hi) (fun pc' loc' st' σ1 hk => ?_) h
      cases hb : jin (cs.map (·.1)) pc' with
      | true =>
        rw [hb] at hk
        exact jkk_ok hc x σ' hk
      | false =>
        rw [hb] at hk
        exact ih pc' loc' st' σ1 x σ' hk
/-- a method's start: its arguments, its cells -/
def jPc (D : va_G) (cy : Nat → ClassId) (A : Nat → Prop) (ad : Nat → Nat) (sh : List jxC) (σ : jxS) (as : List jxV) : Array Value → State → Prop := fun v U => v = (as.map (jtoV ad)).toArray ∧ va_P D vwCl (jW ad cy sh σ) U.heap ∧ va_D A (jW ad cy sh σ) ∧ va_K D vwCl (jtys cy) U ∧ (∀ q, U.heap.size ≤ q → A q) ∧ jBG ad A U
/-- a contract: from these arguments and this state to that answer and that state -/
def jMC (y : MethodName) (bytes : ByteArray) (maxL : Nat) (ret : Option FieldType) (fr lo : Nat) (sh : List jxC) (σ : jxS) (as : List jxV) (v : Option jxV) (σ1 : jxS) : Prop := ∀ (l : Launch) (D : va_G) (cy : Nat → ClassId) (A : Nat → Prop) (ad : Nat → Nat), Met l y (.code y bytes maxL ret :: jTB) { frames := fr, cells := 0, slots := 0, locals := lo } (jPc D cy A ad sh σ as) (jQc D cy A ad sh v σ1) 0 0 A
theorem jPc_blind {D : va_G} {cy : Nat → ClassId} {A : Nat → Prop} {ad : Nat → Nat} {sh : List jxC} {σ : jxS} {as : List jxV} : FrameBlind (jPc D cy A ad sh σ as) := by
  intro a U g mk h
  obtain ⟨h1, h2, h3, h4, h5, h6⟩ := h
  exact ⟨h1, h2, h3, va_K.moved (u := U) (U := U.calling g mk a) (Vm.Alike.refl U.vm) h4, h5, h6.same rfl rfl⟩
def jpad (n : Nat) (as : List jxV) : jxL := match as, n with
  | [], n => List.replicate n none
  | .inr (.inl x) :: t, n + 2 => some (jml x) :: none :: jpad n t
  | a :: t, n + 1 => some a :: jpad n t
  | _ :: _, 0 => []
end JC
end
section
/-! A contract out of a run; a call out of a contract. -/
section JD
theorem jpad_len (as : List jxV) : ∀ n, (jpad n as).length ≤ n := by
  induction as with
  | nil => intro n; simp [jpad]
  | cons a t ih =>
    intro n
    match a, n with
    | .inl x, 0 => simp [jpad]
    | .inl x, n + 1 => simp only [jpad, List.length_cons]; have := ih n; omega
    | .inr (.inl x), 0 => simp [jpad]
    | .inr (.inl x), 1 => simp only [jpad, List.length_cons]; have := ih 0; omega
    | .inr (.inl x), n + 2 => simp only [jpad, List.length_cons]; have := ih n; omega
    | .inr (.inr x), 0 => simp [jpad]
    | .inr (.inr x), n + 1 => simp only [jpad, List.length_cons]; have := ih n; omega
theorem jpad_get {ad : Nat → Nat} (as : List jxV) : ∀ (n b i : Nat) (v : jxV), jcat as ≤ n → jget (jpad n as) i = some v → (b + i, jtoV ad v) ∈ lv_args b (as.map (jtoV ad)) := by
  induction as with
  | nil =>
    intro n b i v _ h
    exfalso
    have hz : ∀ (n i : Nat), jget (List.replicate n none) i = none := by
      intro n
      induction n with
      | zero => intro i; simp [jget]
      | succ n ih => intro i; cases i <;> simp [List.replicate_succ, jget, ih]
    simp [jpad, hz] at h
  | cons a t ih =>
    intro n b i v hc h
    match a, n with
    | .inl x, 0 => simp [jcat] at hc
    | .inl x, n + 1 =>
      simp only [jpad] at h
      simp only [jcat] at hc
      cases i with
      | zero => simp only [jget, Option.some.injEq] at h; subst h; simp [lv_args]
      | succ i =>
        have := ih n (b + 1) i v (by omega) (by simpa [jget] using h)
        have e : b + 1 + i = b + (i + 1) := by omega
        rw [e] at this
        exact List.mem_cons_of_mem _ this
    | .inr (.inl x), 0 => simp [jcat] at hc
    | .inr (.inl x), 1 => simp [jcat] at hc
    | .inr (.inl x), n + 2 =>
      simp only [jpad] at h
      simp only [jcat] at hc
      match i with
      | 0 => simp only [jget, Option.some.injEq] at h; subst h; simp [lv_args]
      | 1 => simp [jget] at h
      | i + 2 =>
        have := ih n (b + 2) i v (by omega) (by simpa [jget] using h)
        have e : b + 2 + i = b + (i + 2) := by omega
        rw [e] at this
        exact List.mem_cons_of_mem _ this
    | .inr (.inr x), 0 => match x, hc with
      | .inl x, hc => simp [jcat] at hc
      | .inr x, hc => simp [jcat] at hc
    | .inr (.inr x), n + 1 =>
      have hc' : jcat t ≤ n := by
        match x, hc with
        | .inl x, hc => simp only [jcat] at hc; omega
        | .inr x, hc => simp only [jcat] at hc; omega
      have h1 : (if (jtoV ad (.inr (.inr x))).category = 2 then b + 2 else b + 1) = b + 1 := by
        match x with
        | .inl x => rfl
        | .inr x => rfl
      simp only [jpad] at h
      cases i with
      | zero => simp only [jget, Option.some.injEq] at h; subst h; simp [lv_args]
      | succ i =>
        have := ih n (b + 1) i v hc' (by simpa [jget] using h)
        have e : b + 1 + i = b + (i + 1) := by omega
        rw [e] at this
        simp only [List.map_cons, lv_args, h1]
        exact List.mem_cons_of_mem _ this
theorem jcat_sl {ad : Nat → Nat} (as : List jxV) : (lg_sl (as.map (jtoV ad))).length = jcat as := by
  induction as with
  | nil => rfl
  | cons a t ih =>
    have e : ∀ v, lg_sl (v :: t.map (jtoV ad)) = (if v.category = 2 then [Slot.val v, .second] else [.val v]) ++ lg_sl (t.map (jtoV ad)) := fun v => rfl
    rw [List.map_cons, e, List.length_append, ih]
    match a with
    | .inl x => simp [jtoV, Value.category, jcat]; omega
    | .inr (.inl x) => simp [jtoV, Value.category, jcat]; omega
    | .inr (.inr (.inl x)) => simp [jtoV, Value.category, jcat]; omega
    | .inr (.inr (.inr x)) => simp [jtoV, Value.category, jcat]; omega
theorem jcat_sum {ad : Nat → Nat} (as : List jxV) : ((as.map (jtoV ad)).map fun v => v.category).sum = jcat as := by
  induction as with
  | nil => rfl
  | cons a t ih =>
    rw [List.map_cons, List.map_cons, List.sum_cons, ih]
    match a with
    | .inl x => simp [jtoV, Value.category, jcat]; omega
    | .inr (.inl x) => simp [jtoV, Value.category, jcat]; omega
    | .inr (.inr (.inl x)) => simp [jtoV, Value.category, jcat]; omega
    | .inr (.inr (.inr x)) => simp [jtoV, Value.category, jcat]; omega
def jroom (X : jxX) : Room := match X with
  | (_, _, _, R, _) => R
/-- where a method is at its start -/
def jAt (X : jxX) (y : MethodName) (bytes : ByteArray) (fr lo kd : Nat) (sh : List jxC) : Prop := jOK X ∧ jcc X = bytes ∧ jown X = y.cls ∧ jroom X = { frames := fr, cells := 0, slots := 0, locals := lo } ∧ jsh X = sh ∧ jkd X = kd
theorem jMC_of {y : MethodName} {bytes : ByteArray} {maxL fr lo kd : Nat} {sh : List jxC} {σ σ' : jxS} {as : List jxV} {f : Option jxR} {x : Int} (hy : plainName y.cls = true) (hc : Nat.ble (jcat as) maxL = true) (h : f = some (x, σ'))
    (hb : ∀ X, jAt X y bytes fr lo kd sh → jRf X f 0 (jpad maxL as) [] σ) : jMC y bytes maxL (jrt kd) fr lo sh σ as (jrv kd x) σ' := by
  intro l D cy A ad
  refine Met.ofW (cc := bytes) (maxL := maxL) (ret := jrt kd) hy rfl ?_
  intro p e s m args below meth c s₁ B hml hv
  obtain ⟨rfl, hP, hD, hK, hA, hBG⟩ := hv
  have hts := atoms_spec (ws := .code y bytes maxL (jrt kd) :: jTB) B.pre
  have hown : s.vm.findClass y.cls = some m.cls := findClass_of_methodNamed B.named
  have k := hb (p, l, e, { frames := fr, cells := 0, slots := 0, locals := lo }, s, m, (as.map (jtoV ad)).toArray, below, meth, c, bytes, maxL, y.cls, D, cy, A, ad, sh, kd) ⟨⟨B.exec, B.bytes, hml, hown, fun w hw => hts w (List.mem_cons_of_mem _ hw), B.notSynchronized, hK, hA, hBG, B.returns⟩, rfl, rfl, rfl, rfl, rfl⟩ x σ' h
  rw [lg_entry_eq]
  have hl := lv_entry (as.map (jtoV ad)) (n := maxL) (by rw [jcat_sl]; exact jble hc)
  exact k s.heap [] _ hP hD va_S.rf ⟨hl.1, hl.2.1, jpad_len as maxL, fun i v hv => hl.2.2 (i, jtoV ad v) (by simpa using jpad_get (ad := ad) as maxL 0 i v (jble hc) hv)⟩
section CA
variable {p : Program} {l : Launch} {e : Env} {R : Room} {s : State} {m : MethodId} {args : Array Value} {below : List Frame} {meth : Method} {c : Code} {H : Heap} {locs : List Loc} {Q : State → Prop} {pc : Nat} {ls : Array Slot} {rest st0 : List Value} {a : Array Value} {D : va_G} {cy : Nat → ClassId} {A : Nat → Prop} {ad : Nat → Nat} {sh : List jxC} {v : Option jxV} {σ1 : jxS}
theorem jcall_on (hr : va_Run p l e R s m args below meth c H locs 0 0 0 0 (F0 m pc ls st0) rest (jQc D cy A ad sh v σ1 a) A) (hS : va_S A s.heap H locs)
    (hk : ∀ (H1 : Heap) (locs1 : List Loc), va_P D vwCl (jW ad cy sh σ1) H1 → va_S A s.heap H1 locs1 → W p l e R s m args below meth c H1 locs1 0 0 Q (F0 m (pc + 3) ls ((v.map (jtoV ad)).toList ++ rest))) : W p l e R s m args below meth c H locs 0 0 Q (F0 m pc ls st0) := by
  intro T hT X
  obtain ⟨w, st₀, t, T', L, h0, X', hL, e1, e2, ⟨hv, hP, hz, hq⟩, st⟩ := hr T hT X
  cases hv
  rw [h0] at hz hq
  obtain ⟨t2, a1, b1⟩ := hk T'.heap (locs ++ L) (by rw [e1]; exact hP)
    ⟨Nat.le_trans hS.1 (by rw [e1]; exact hz), fun q h1 h2 => by rw [e1, hq q (Nat.lt_of_lt_of_le h1 hS.1) h2]; exact hS.2.1 q h1 h2, fun q hq => by
      rcases List.mem_append.mp hq with h | h
      · exact hS.2.2 q h
      · exact hL q h⟩ T' rfl X'
  exact ⟨t2, st t2 a1, b1⟩
theorem jpre {as : List jxV} {σ : jxS} (hP : va_P D vwCl (jW ad cy sh σ) H) (hD : va_D A (jW ad cy sh σ)) (hS : va_S A s.heap H locs) (hK : va_K D vwCl (jtys cy) s) (hA : ∀ q, s.heap.size ≤ q → A q) (hB : jBG ad A s) (U : State) (hU : U.heap = H) (hW : s.WarmedH U.vm) : jPc D cy A ad sh σ as (as.map (jtoV ad)).toArray U :=
  ⟨rfl, by rw [hU]; exact hP, hD, va_K.moved hW.alike hK, fun q hq => hA q (Nat.le_trans hS.1 (by rw [← hU]; exact hq)), hB.go hW (by rw [hU]; exact hS.2.1)⟩
end CA
variable {X : jxX} {y : MethodName} {bytes : ByteArray} {maxL fr lo kd n idx : Nat} {σ σ1 : jxS} {v : Option jxV}
/-- what the tables say of a call -/
def jLkV (own : String) (idx : Nat) (y : MethodName) (bytes : ByteArray) (maxL kd n : Nat) : Prop := Cond.methodLink own idx y ∈ jTB ∧ Cond.instanceMethod y ∈ jTB ∧ Cond.selects y.cls y y ∈ jTB ∧ Cond.initialized y.cls ∈ jTB ∧ Cond.code y bytes maxL (jrt kd) ∈ jTB ∧ (y.cls ≠ "java/lang/invoke/MethodHandle" ∧ y.cls ≠ "java/lang/invoke/VarHandle" ∧ (parseMethodDescriptor y.desc).map (fun d => d.parameters.length) = some n)
def jLkS (own : String) (idx : Nat) (y : MethodName) (bytes : ByteArray) (maxL kd n : Nat) : Prop := (Cond.methodLink own idx y ∈ jTB ∨ ∃ host, Cond.methodLinkNest own idx y host ∈ jNS) ∧ Cond.static y ∈ jTB ∧ Cond.initialized y.cls ∈ jTB ∧ Cond.code y bytes maxL (jrt kd) ∈ jTB ∧ (y.cls ≠ "java/lang/invoke/MethodHandle" ∧ y.cls ≠ "java/lang/invoke/VarHandle" ∧ (parseMethodDescriptor y.desc).map (fun d => d.parameters.length) = some n)
theorem jGoodV {own : String} (h : jLkV own idx y bytes maxL kd n) : GoodIn jTB (wsV own idx y.cls y (.code y bytes maxL (jrt kd) :: jTB)) := by
  obtain ⟨h1, h2, h3, h4, h5, -⟩ := h
  have g : ∀ {w}, w ∈ jTB → w ∈ jTB ∧ ((w.onTables && w.keeps) = true ∨ ∃ ty, w = .arrayClass ty) := fun h => ⟨h, good_of_word (jTB_good h)⟩
  intro w hw
  unfold wsV at hw
  rcases List.mem_append.mp hw with hw | hw
  · simp only [List.mem_cons, List.not_mem_nil, or_false] at hw
    rcases hw with rfl | rfl | rfl | rfl
    · exact g h1
    · exact g h2
    · exact g h3
    · exact g h4
  · exact jTB_in (fun _ h => h) h5 w hw
theorem jCallV {id ci : Nat} {fks : List jxF} {T : u_T} {N : Nat} {as : List jxV} (hX : jOK X) (hl : jLkV (jown X) idx y bytes maxL kd n) (hr : fr + 1 ≤ (jroom X).frames ∧ 8 + (maxL + 11) + lo ≤ (jroom X).locals) (hs : (jsh X)[id]? = some (.inl (ci, fks))) (hc : vwCl[ci]? = some (y.cls, T, N)) (hn : as.length = n)
    (hM : jMC y bytes maxL (jrt kd) fr lo (jsh X) σ (jmr id :: as) v σ1) : jCall X (.invokevirtual idx) (jmr id :: as) v σ σ1 := by
  intro Q pc loc rest hd hcat hk
  obtain ⟨p, l, e, R, s, m, args, below, meth, c, cc, nL, own, D, cy, A, ad, sh, kd'⟩ := X
  obtain ⟨hx, hb, hml, hown, hts, hlk, hK, hA, hBG, hrt⟩ := hX
  intro H locs ls hP hD hS hL
  have hg := jGoodV hl
  obtain ⟨h1, h2, h3, h4, h5, h6⟩ := hl
  have hrun : va_Run p l e R s m args below meth c H locs 0 0 0 0 (F0 m pc ls (((jmr id :: as).reverse ++ rest).map (jtoV ad))) (rest.map (jtoV ad)) (jQc D cy A ad sh v σ1 ((jmr id :: as).map (jtoV ad)).toArray) A := va_runV (g := F0 m pc ls (((jmr id :: as).reverse ++ rest).map (jtoV ad))) (rest := rest.map (jtoV ad)) (locs := locs) (cells := 0) (slots := 0) (nL := nL) (As := as.map (jtoV ad)) (b := ad id) ⟨hx, hb, hml, hown, hts⟩ (hM l D cy A ad) (cwV n hts hg rfl rfl rfl ⟨rfl, h6⟩ hr) ⟨jPc_blind, va_recv hK hP hc (jW_get hs), fun U hU hW => jpre (as := jmr id :: as) hP hD hS hK hA hBG U hU hW⟩ rfl (by simpa using hn) hL.1
    (by simp [List.map_append, List.map_reverse, jtoV]) (lv_room (by rw [jcat_sum]; exact hcat)) hd ⟨Nat.zero_le _, Nat.zero_le _⟩
  refine jcall_on hrun hS (fun H1 locs1 hP1 hS1 => ?_)
  have k := hk H1 locs1 ls hP1 (jW_D hD) hS1 hL
  cases v with
  | none => exact k
  | some w => exact k
theorem jCallS {as : List jxV} (hX : jOK X) (hl : jLkS (jown X) idx y bytes maxL kd n) (hr : fr + 1 ≤ (jroom X).frames ∧ 8 + (maxL + 11) + lo ≤ (jroom X).locals) (hn : as.length = n)
    (hM : jMC y bytes maxL (jrt kd) fr lo (jsh X) σ as v σ1) : jCall X (.invokestatic idx) as v σ σ1 := by
  intro Q pc loc rest hd hcat hk
  obtain ⟨p, l, e, R, s, m, args, below, meth, c, cc, nL, own, D, cy, A, ad, sh, kd'⟩ := X
  obtain ⟨hx, hb, hml, hown, hts, hlk, hK, hA, hBG, hrt⟩ := hX
  intro H locs ls hP hD hS hL
  obtain ⟨h1, h2, h3, h4, h5⟩ := hl
  have fin : va_Run p l e R s m args below meth c H locs 0 0 0 0 (F0 m pc ls ((as.reverse ++ rest).map (jtoV ad))) (rest.map (jtoV ad)) (jQc D cy A ad sh v σ1 (as.map (jtoV ad)).toArray) A := by
    rcases h1 with h1 | ⟨host, h1⟩
    · exact va_runS (g := F0 m pc ls ((as.reverse ++ rest).map (jtoV ad))) (rest := rest.map (jtoV ad)) (locs := locs) (cells := 0) (slots := 0) (nL := nL) (As := as.map (jtoV ad)) ⟨hx, hb, hml, hown, hts⟩ (hM l D cy A ad) ⟨callB_of n hts (jTB_in (fun _ h => h) h4) rfl rfl rfl (hts _ h3) (hts _ h1) h5 hr, hts _ h2⟩ ⟨jPc_blind, fun U hU hW => jpre hP hD hS hK hA hBG U hU hW⟩ rfl (by simpa using hn) hL.1
        (by simp [List.map_append, List.map_reverse]) (lv_room (by rw [jcat_sum]; exact hcat)) hd ⟨Nat.zero_le _, Nat.zero_le _⟩
    · exact va_runSN (g := F0 m pc ls ((as.reverse ++ rest).map (jtoV ad))) (rest := rest.map (jtoV ad)) (locs := locs) (cells := 0) (slots := 0) (nL := nL) (As := as.map (jtoV ad)) ⟨hx, hb, hml, hown, hts⟩ (hM l D cy A ad) ⟨va_cnB n hts (jTB_in (fun _ h => h) h4) rfl rfl rfl (hBG.1 _ h1) (hts _ h3) h5 hr, hts _ h2, trivial⟩ ⟨jPc_blind, fun U hU hW => jpre hP hD hS hK hA hBG U hU hW⟩ rfl (by simpa using hn) hL.1
        (by simp [List.map_append, List.map_reverse]) (lv_room (by rw [jcat_sum]; exact hcat)) hd ⟨Nat.zero_le _, Nat.zero_le _⟩
  refine jcall_on fin hS (fun H1 locs1 hP1 hS1 => ?_)
  have k := hk H1 locs1 ls hP1 (jW_D hD) hS1 hL
  cases v with
  | none => exact k
  | some w => exact k
end JD
end
