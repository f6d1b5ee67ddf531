section
/-- a private method of a class that the tables say can be made, by its rows of tables_1 -/
def lw_okq (q : MethodName × Nat) : Prop := (q.1.cls ≠ "java/lang/invoke/MethodHandle" ∧ q.1.cls ≠ "java/lang/invoke/VarHandle") ∧ Cond.instantiable q.1.cls q.2 ∈ tables_1 ∧ Cond.privateMethod q.1 ∈ tables_1 ∧ Cond.instanceMethod q.1 ∈ tables_1
theorem lw_p0 : lw_okq (⟨"LastLoses$Reader", "readLine", "()V"⟩, 10) := ⟨⟨by decide +kernel, by decide +kernel⟩, List.mem_of_getElem? (i := 44) (by decide +kernel), List.mem_of_getElem? (i := 133) (by decide +kernel), List.mem_of_getElem? (i := 134) (by decide +kernel)⟩
theorem lw_p1 : lw_okq (⟨"LastLoses$Reader", "skipBlanks", "()V"⟩, 10) := ⟨⟨by decide +kernel, by decide +kernel⟩, List.mem_of_getElem? (i := 44) (by decide +kernel), List.mem_of_getElem? (i := 137) (by decide +kernel), List.mem_of_getElem? (i := 138) (by decide +kernel)⟩
theorem lw_p2 : lw_okq (⟨"LastLoses$Reader", "readKind", "()I"⟩, 10) := ⟨⟨by decide +kernel, by decide +kernel⟩, List.mem_of_getElem? (i := 44) (by decide +kernel), List.mem_of_getElem? (i := 146) (by decide +kernel), List.mem_of_getElem? (i := 147) (by decide +kernel)⟩
theorem lw_p3 : lw_okq (⟨"LastLoses$Reader", "passWord", "(Ljava/lang/String;)Z"⟩, 10) := ⟨⟨by decide +kernel, by decide +kernel⟩, List.mem_of_getElem? (i := 44) (by decide +kernel), List.mem_of_getElem? (i := 151) (by decide +kernel), List.mem_of_getElem? (i := 152) (by decide +kernel)⟩
theorem lw_p4 : lw_okq (⟨"LastLoses$Reader", "fail", "(II)V"⟩, 10) := ⟨⟨by decide +kernel, by decide +kernel⟩, List.mem_of_getElem? (i := 44) (by decide +kernel), List.mem_of_getElem? (i := 208) (by decide +kernel), List.mem_of_getElem? (i := 209) (by decide +kernel)⟩
theorem lw_p5 : lw_okq (⟨"LastLoses$Reader", "readCode", "()V"⟩, 10) := ⟨⟨by decide +kernel, by decide +kernel⟩, List.mem_of_getElem? (i := 44) (by decide +kernel), List.mem_of_getElem? (i := 212) (by decide +kernel), List.mem_of_getElem? (i := 213) (by decide +kernel)⟩
theorem lw_p6 : lw_okq (⟨"LastLoses$Reader", "readDigit", "(I)V"⟩, 10) := ⟨⟨by decide +kernel, by decide +kernel⟩, List.mem_of_getElem? (i := 44) (by decide +kernel), List.mem_of_getElem? (i := 219) (by decide +kernel), List.mem_of_getElem? (i := 220) (by decide +kernel)⟩
theorem lw_p7 : lw_okq (⟨"LastLoses$Reader", "readAlso", "()V"⟩, 10) := ⟨⟨by decide +kernel, by decide +kernel⟩, List.mem_of_getElem? (i := 44) (by decide +kernel), List.mem_of_getElem? (i := 223) (by decide +kernel), List.mem_of_getElem? (i := 224) (by decide +kernel)⟩
theorem lw_p8 : lw_okq (⟨"LastLoses$Reader", "readNumber", "(II)I"⟩, 10) := ⟨⟨by decide +kernel, by decide +kernel⟩, List.mem_of_getElem? (i := 44) (by decide +kernel), List.mem_of_getElem? (i := 227) (by decide +kernel), List.mem_of_getElem? (i := 228) (by decide +kernel)⟩
theorem lw_p9 : lw_okq (⟨"LastLoses$Reader", "store", "(III)V"⟩, 10) := ⟨⟨by decide +kernel, by decide +kernel⟩, List.mem_of_getElem? (i := 44) (by decide +kernel), List.mem_of_getElem? (i := 232) (by decide +kernel), List.mem_of_getElem? (i := 233) (by decide +kernel)⟩
theorem lw_p10 : lw_okq (⟨"LastLoses$Reader", "readNever", "()V"⟩, 10) := ⟨⟨by decide +kernel, by decide +kernel⟩, List.mem_of_getElem? (i := 44) (by decide +kernel), List.mem_of_getElem? (i := 236) (by decide +kernel), List.mem_of_getElem? (i := 237) (by decide +kernel)⟩
theorem lw_p11 : lw_okq (⟨"LastLoses$Reader", "passSemicolon", "()Z"⟩, 10) := ⟨⟨by decide +kernel, by decide +kernel⟩, List.mem_of_getElem? (i := 44) (by decide +kernel), List.mem_of_getElem? (i := 240) (by decide +kernel), List.mem_of_getElem? (i := 241) (by decide +kernel)⟩
theorem lw_p12 : lw_okq (⟨"LastLoses$Positions", "countWays", "()V"⟩, 6) := ⟨⟨by decide +kernel, by decide +kernel⟩, List.mem_of_getElem? (i := 310) (by decide +kernel), List.mem_of_getElem? (i := 316) (by decide +kernel), List.mem_of_getElem? (i := 317) (by decide +kernel)⟩
theorem lw_p13 : lw_okq (⟨"LastLoses$Positions", "waysOf", "(II)I"⟩, 6) := ⟨⟨by decide +kernel, by decide +kernel⟩, List.mem_of_getElem? (i := 310) (by decide +kernel), List.mem_of_getElem? (i := 320) (by decide +kernel), List.mem_of_getElem? (i := 321) (by decide +kernel)⟩
theorem lw_p14 : lw_okq (⟨"LastLoses$Positions", "linkParts", "(III)I"⟩, 6) := ⟨⟨by decide +kernel, by decide +kernel⟩, List.mem_of_getElem? (i := 310) (by decide +kernel), List.mem_of_getElem? (i := 324) (by decide +kernel), List.mem_of_getElem? (i := 325) (by decide +kernel)⟩
theorem lw_p15 : lw_okq (⟨"LastLoses$Positions", "link", "(IIII)I"⟩, 6) := ⟨⟨by decide +kernel, by decide +kernel⟩, List.mem_of_getElem? (i := 310) (by decide +kernel), List.mem_of_getElem? (i := 328) (by decide +kernel), List.mem_of_getElem? (i := 329) (by decide +kernel)⟩
def lw_privs_1 : List (MethodName × Nat) := [(⟨"LastLoses$Reader", "readLine", "()V"⟩, 10), (⟨"LastLoses$Reader", "skipBlanks", "()V"⟩, 10), (⟨"LastLoses$Reader", "readKind", "()I"⟩, 10), (⟨"LastLoses$Reader", "passWord", "(Ljava/lang/String;)Z"⟩, 10), (⟨"LastLoses$Reader", "fail", "(II)V"⟩, 10), (⟨"LastLoses$Reader", "readCode", "()V"⟩, 10), (⟨"LastLoses$Reader", "readDigit", "(I)V"⟩, 10), (⟨"LastLoses$Reader", "readAlso", "()V"⟩, 10), (⟨"LastLoses$Reader", "readNumber", "(II)I"⟩, 10), (⟨"LastLoses$Reader", "store", "(III)V"⟩, 10), (⟨"LastLoses$Reader", "readNever", "()V"⟩, 10), (⟨"LastLoses$Reader", "passSemicolon", "()Z"⟩, 10), (⟨"LastLoses$Positions", "countWays", "()V"⟩, 6), (⟨"LastLoses$Positions", "waysOf", "(II)I"⟩, 6), (⟨"LastLoses$Positions", "linkParts", "(III)I"⟩, 6), (⟨"LastLoses$Positions", "link", "(IIII)I"⟩, 6)]
theorem lw_r1 : ∀ q ∈ lw_privs_1, lw_okq q := List.forall_mem_cons.mpr ⟨lw_p0, List.forall_mem_cons.mpr ⟨lw_p1, List.forall_mem_cons.mpr ⟨lw_p2, List.forall_mem_cons.mpr ⟨lw_p3, List.forall_mem_cons.mpr ⟨lw_p4, List.forall_mem_cons.mpr ⟨lw_p5, List.forall_mem_cons.mpr ⟨lw_p6, List.forall_mem_cons.mpr ⟨lw_p7, List.forall_mem_cons.mpr ⟨lw_p8, List.forall_mem_cons.mpr ⟨lw_p9, List.forall_mem_cons.mpr ⟨lw_p10, List.forall_mem_cons.mpr ⟨lw_p11, List.forall_mem_cons.mpr ⟨lw_p12, List.forall_mem_cons.mpr ⟨lw_p13, List.forall_mem_cons.mpr ⟨lw_p14, List.forall_mem_cons.mpr ⟨lw_p15, fun _ h => absurd h List.not_mem_nil⟩⟩⟩⟩⟩⟩⟩⟩⟩⟩⟩⟩⟩⟩⟩⟩
theorem lw_p16 : lw_okq (⟨"LastLoses$Positions", "linkOthers", "(IIII)I"⟩, 6) := ⟨⟨by decide +kernel, by decide +kernel⟩, List.mem_of_getElem? (i := 310) (by decide +kernel), List.mem_of_getElem? (i := 332) (by decide +kernel), List.mem_of_getElem? (i := 333) (by decide +kernel)⟩
theorem lw_p17 : lw_okq (⟨"LastLoses$Rules", "learnLine", "(IIII)V"⟩, 10) := ⟨⟨by decide +kernel, by decide +kernel⟩, List.mem_of_getElem? (i := 250) (by decide +kernel), List.mem_of_getElem? (i := 579) (by decide +kernel), List.mem_of_getElem? (i := 580) (by decide +kernel)⟩
theorem lw_p18 : lw_okq (⟨"LastLoses$Rules", "listMoves", "()V"⟩, 10) := ⟨⟨by decide +kernel, by decide +kernel⟩, List.mem_of_getElem? (i := 250) (by decide +kernel), List.mem_of_getElem? (i := 595) (by decide +kernel), List.mem_of_getElem? (i := 596) (by decide +kernel)⟩
theorem lw_p19 : lw_okq (⟨"LastLoses$Rules", "allows", "(III)Z"⟩, 10) := ⟨⟨by decide +kernel, by decide +kernel⟩, List.mem_of_getElem? (i := 250) (by decide +kernel), List.mem_of_getElem? (i := 599) (by decide +kernel), List.mem_of_getElem? (i := 600) (by decide +kernel)⟩
theorem lw_p20 : lw_okq (⟨"LastLoses$Rules", "judgeHeap", "(I)V"⟩, 10) := ⟨⟨by decide +kernel, by decide +kernel⟩, List.mem_of_getElem? (i := 250) (by decide +kernel), List.mem_of_getElem? (i := 603) (by decide +kernel), List.mem_of_getElem? (i := 604) (by decide +kernel)⟩
theorem lw_p21 : lw_okq (⟨"LastLoses$Cycle", "findNimbers", "(LLastLoses$Rules;)V"⟩, 5) := ⟨⟨by decide +kernel, by decide +kernel⟩, List.mem_of_getElem? (i := 288) (by decide +kernel), List.mem_of_getElem? (i := 668) (by decide +kernel), List.mem_of_getElem? (i := 669) (by decide +kernel)⟩
theorem lw_p22 : lw_okq (⟨"LastLoses$Cycle", "seeMoves", "(III)V"⟩, 5) := ⟨⟨by decide +kernel, by decide +kernel⟩, List.mem_of_getElem? (i := 288) (by decide +kernel), List.mem_of_getElem? (i := 681) (by decide +kernel), List.mem_of_getElem? (i := 682) (by decide +kernel)⟩
theorem lw_p23 : lw_okq (⟨"LastLoses$Cycle", "findCycle", "(I)V"⟩, 5) := ⟨⟨by decide +kernel, by decide +kernel⟩, List.mem_of_getElem? (i := 288) (by decide +kernel), List.mem_of_getElem? (i := 685) (by decide +kernel), List.mem_of_getElem? (i := 686) (by decide +kernel)⟩
theorem lw_p24 : lw_okq (⟨"LastLoses$Cycle", "repeats", "(III)Z"⟩, 5) := ⟨⟨by decide +kernel, by decide +kernel⟩, List.mem_of_getElem? (i := 288) (by decide +kernel), List.mem_of_getElem? (i := 689) (by decide +kernel), List.mem_of_getElem? (i := 690) (by decide +kernel)⟩
theorem lw_p25 : lw_okq (⟨"LastLoses$Values", "settleTo", "(I)V"⟩, 9) := ⟨⟨by decide +kernel, by decide +kernel⟩, List.mem_of_getElem? (i := 402) (by decide +kernel), List.mem_of_getElem? (i := 721) (by decide +kernel), List.mem_of_getElem? (i := 722) (by decide +kernel)⟩
theorem lw_p26 : lw_okq (⟨"LastLoses$Values", "judgeOptions", "()I"⟩, 9) := ⟨⟨by decide +kernel, by decide +kernel⟩, List.mem_of_getElem? (i := 402) (by decide +kernel), List.mem_of_getElem? (i := 745) (by decide +kernel), List.mem_of_getElem? (i := 746) (by decide +kernel)⟩
theorem lw_p27 : lw_okq (⟨"LastLoses", "tallyOrNoSuch", "(II)I"⟩, 4) := ⟨⟨by decide +kernel, by decide +kernel⟩, List.mem_of_getElem? (i := 22) (by decide +kernel), List.mem_of_getElem? (i := 755) (by decide +kernel), List.mem_of_getElem? (i := 756) (by decide +kernel)⟩
theorem lw_p28 : lw_okq (⟨"LastLoses$Values", "settleGeneraTo", "(I)V"⟩, 9) := ⟨⟨by decide +kernel, by decide +kernel⟩, List.mem_of_getElem? (i := 402) (by decide +kernel), List.mem_of_getElem? (i := 791) (by decide +kernel), List.mem_of_getElem? (i := 792) (by decide +kernel)⟩
theorem lw_p29 : lw_okq (⟨"LastLoses$Values", "judgeGenera", "()I"⟩, 9) := ⟨⟨by decide +kernel, by decide +kernel⟩, List.mem_of_getElem? (i := 402) (by decide +kernel), List.mem_of_getElem? (i := 795) (by decide +kernel), List.mem_of_getElem? (i := 796) (by decide +kernel)⟩
theorem lw_p30 : lw_okq (⟨"LastLoses$Values", "countWinning", "(I)I"⟩, 9) := ⟨⟨by decide +kernel, by decide +kernel⟩, List.mem_of_getElem? (i := 402) (by decide +kernel), List.mem_of_getElem? (i := 883) (by decide +kernel), List.mem_of_getElem? (i := 884) (by decide +kernel)⟩
theorem lw_p31 : lw_okq (⟨"LastLoses$Values", "lengthOf", "(IZ)I"⟩, 9) := ⟨⟨by decide +kernel, by decide +kernel⟩, List.mem_of_getElem? (i := 402) (by decide +kernel), List.mem_of_getElem? (i := 892) (by decide +kernel), List.mem_of_getElem? (i := 893) (by decide +kernel)⟩
def lw_privs_2 : List (MethodName × Nat) := [(⟨"LastLoses$Positions", "linkOthers", "(IIII)I"⟩, 6), (⟨"LastLoses$Rules", "learnLine", "(IIII)V"⟩, 10), (⟨"LastLoses$Rules", "listMoves", "()V"⟩, 10), (⟨"LastLoses$Rules", "allows", "(III)Z"⟩, 10), (⟨"LastLoses$Rules", "judgeHeap", "(I)V"⟩, 10), (⟨"LastLoses$Cycle", "findNimbers", "(LLastLoses$Rules;)V"⟩, 5), (⟨"LastLoses$Cycle", "seeMoves", "(III)V"⟩, 5), (⟨"LastLoses$Cycle", "findCycle", "(I)V"⟩, 5), (⟨"LastLoses$Cycle", "repeats", "(III)Z"⟩, 5), (⟨"LastLoses$Values", "settleTo", "(I)V"⟩, 9), (⟨"LastLoses$Values", "judgeOptions", "()I"⟩, 9), (⟨"LastLoses", "tallyOrNoSuch", "(II)I"⟩, 4), (⟨"LastLoses$Values", "settleGeneraTo", "(I)V"⟩, 9), (⟨"LastLoses$Values", "judgeGenera", "()I"⟩, 9), (⟨"LastLoses$Values", "countWinning", "(I)I"⟩, 9), (⟨"LastLoses$Values", "lengthOf", "(IZ)I"⟩, 9)]
theorem lw_r2 : ∀ q ∈ lw_privs_2, lw_okq q := List.forall_mem_cons.mpr ⟨lw_p16, List.forall_mem_cons.mpr ⟨lw_p17, List.forall_mem_cons.mpr ⟨lw_p18, List.forall_mem_cons.mpr ⟨lw_p19, List.forall_mem_cons.mpr ⟨lw_p20, List.forall_mem_cons.mpr ⟨lw_p21, List.forall_mem_cons.mpr ⟨lw_p22, List.forall_mem_cons.mpr ⟨lw_p23, List.forall_mem_cons.mpr ⟨lw_p24, List.forall_mem_cons.mpr ⟨lw_p25, List.forall_mem_cons.mpr ⟨lw_p26, List.forall_mem_cons.mpr ⟨lw_p27, List.forall_mem_cons.mpr ⟨lw_p28, List.forall_mem_cons.mpr ⟨lw_p29, List.forall_mem_cons.mpr ⟨lw_p30, List.forall_mem_cons.mpr ⟨lw_p31, fun _ h => absurd h List.not_mem_nil⟩⟩⟩⟩⟩⟩⟩⟩⟩⟩⟩⟩⟩⟩⟩⟩
theorem lw_p32 : lw_okq (⟨"LastLoses$Board", "slowest", "()I"⟩, 10) := ⟨⟨by decide +kernel, by decide +kernel⟩, List.mem_of_getElem? (i := 244) (by decide +kernel), List.mem_of_getElem? (i := 918) (by decide +kernel), List.mem_of_getElem? (i := 919) (by decide +kernel)⟩
theorem lw_p33 : lw_okq (⟨"LastLoses$Board", "soonest", "()I"⟩, 10) := ⟨⟨by decide +kernel, by decide +kernel⟩, List.mem_of_getElem? (i := 244) (by decide +kernel), List.mem_of_getElem? (i := 923) (by decide +kernel), List.mem_of_getElem? (i := 924) (by decide +kernel)⟩
theorem lw_p34 : lw_okq (⟨"LastLoses$Board", "movesOf", "(I)I"⟩, 10) := ⟨⟨by decide +kernel, by decide +kernel⟩, List.mem_of_getElem? (i := 244) (by decide +kernel), List.mem_of_getElem? (i := 1002) (by decide +kernel), List.mem_of_getElem? (i := 1003) (by decide +kernel)⟩
theorem lw_p35 : lw_okq (⟨"LastLoses$Board", "afterMove", "(II)I"⟩, 10) := ⟨⟨by decide +kernel, by decide +kernel⟩, List.mem_of_getElem? (i := 244) (by decide +kernel), List.mem_of_getElem? (i := 1014) (by decide +kernel), List.mem_of_getElem? (i := 1015) (by decide +kernel)⟩
theorem lw_p36 : lw_okq (⟨"LastLoses", "quotientOf", "(I)LLastLoses$Quotient;"⟩, 4) := ⟨⟨by decide +kernel, by decide +kernel⟩, List.mem_of_getElem? (i := 22) (by decide +kernel), List.mem_of_getElem? (i := 1025) (by decide +kernel), List.mem_of_getElem? (i := 1026) (by decide +kernel)⟩
theorem lw_p37 : lw_okq (⟨"LastLoses$Quotient", "elementFor", "(IJ)I"⟩, 10) := ⟨⟨by decide +kernel, by decide +kernel⟩, List.mem_of_getElem? (i := 487) (by decide +kernel), List.mem_of_getElem? (i := 1044) (by decide +kernel), List.mem_of_getElem? (i := 1045) (by decide +kernel)⟩
theorem lw_p38 : lw_okq (⟨"LastLoses$Quotient", "kernel", "()I"⟩, 10) := ⟨⟨by decide +kernel, by decide +kernel⟩, List.mem_of_getElem? (i := 487) (by decide +kernel), List.mem_of_getElem? (i := 1102) (by decide +kernel), List.mem_of_getElem? (i := 1103) (by decide +kernel)⟩
theorem lw_p39 : lw_okq (⟨"LastLoses$Quotient", "reachOf", "(I)I"⟩, 10) := ⟨⟨by decide +kernel, by decide +kernel⟩, List.mem_of_getElem? (i := 487) (by decide +kernel), List.mem_of_getElem? (i := 1106) (by decide +kernel), List.mem_of_getElem? (i := 1107) (by decide +kernel)⟩
theorem lw_p40 : lw_okq (⟨"LastLoses$Quotient", "units", "()I"⟩, 10) := ⟨⟨by decide +kernel, by decide +kernel⟩, List.mem_of_getElem? (i := 487) (by decide +kernel), List.mem_of_getElem? (i := 1111) (by decide +kernel), List.mem_of_getElem? (i := 1112) (by decide +kernel)⟩
theorem lw_p41 : lw_okq (⟨"LastLoses$Quotient", "idle", "()I"⟩, 10) := ⟨⟨by decide +kernel, by decide +kernel⟩, List.mem_of_getElem? (i := 487) (by decide +kernel), List.mem_of_getElem? (i := 1115) (by decide +kernel), List.mem_of_getElem? (i := 1116) (by decide +kernel)⟩
theorem lw_p42 : lw_okq (⟨"LastLoses$Pairs", "listMoves", "(LLastLoses$Quotient;)V"⟩, 6) := ⟨⟨by decide +kernel, by decide +kernel⟩, List.mem_of_getElem? (i := 463) (by decide +kernel), List.mem_of_getElem? (i := 1132) (by decide +kernel), List.mem_of_getElem? (i := 1133) (by decide +kernel)⟩
theorem lw_p43 : lw_okq (⟨"LastLoses$Pairs", "movesOf", "(LLastLoses$Quotient;II)I"⟩, 6) := ⟨⟨by decide +kernel, by decide +kernel⟩, List.mem_of_getElem? (i := 463) (by decide +kernel), List.mem_of_getElem? (i := 1141) (by decide +kernel), List.mem_of_getElem? (i := 1142) (by decide +kernel)⟩
theorem lw_p44 : lw_okq (⟨"LastLoses$Pairs", "insert", "(I)V"⟩, 6) := ⟨⟨by decide +kernel, by decide +kernel⟩, List.mem_of_getElem? (i := 463) (by decide +kernel), List.mem_of_getElem? (i := 1148) (by decide +kernel), List.mem_of_getElem? (i := 1149) (by decide +kernel)⟩
theorem lw_p45 : lw_okq (⟨"LastLoses$Pairs", "append", "(II)V"⟩, 6) := ⟨⟨by decide +kernel, by decide +kernel⟩, List.mem_of_getElem? (i := 463) (by decide +kernel), List.mem_of_getElem? (i := 1153) (by decide +kernel), List.mem_of_getElem? (i := 1154) (by decide +kernel)⟩
theorem lw_p46 : lw_okq (⟨"LastLoses$Pairs", "follow", "(LLastLoses$Quotient;II)I"⟩, 6) := ⟨⟨by decide +kernel, by decide +kernel⟩, List.mem_of_getElem? (i := 463) (by decide +kernel), List.mem_of_getElem? (i := 1157) (by decide +kernel), List.mem_of_getElem? (i := 1158) (by decide +kernel)⟩
theorem lw_p47 : lw_okq (⟨"LastLoses$Pairs", "allFit", "(I)Z"⟩, 6) := ⟨⟨by decide +kernel, by decide +kernel⟩, List.mem_of_getElem? (i := 463) (by decide +kernel), List.mem_of_getElem? (i := 1163) (by decide +kernel), List.mem_of_getElem? (i := 1164) (by decide +kernel)⟩
def lw_privs_3 : List (MethodName × Nat) := [(⟨"LastLoses$Board", "slowest", "()I"⟩, 10), (⟨"LastLoses$Board", "soonest", "()I"⟩, 10), (⟨"LastLoses$Board", "movesOf", "(I)I"⟩, 10), (⟨"LastLoses$Board", "afterMove", "(II)I"⟩, 10), (⟨"LastLoses", "quotientOf", "(I)LLastLoses$Quotient;"⟩, 4), (⟨"LastLoses$Quotient", "elementFor", "(IJ)I"⟩, 10), (⟨"LastLoses$Quotient", "kernel", "()I"⟩, 10), (⟨"LastLoses$Quotient", "reachOf", "(I)I"⟩, 10), (⟨"LastLoses$Quotient", "units", "()I"⟩, 10), (⟨"LastLoses$Quotient", "idle", "()I"⟩, 10), (⟨"LastLoses$Pairs", "listMoves", "(LLastLoses$Quotient;)V"⟩, 6), (⟨"LastLoses$Pairs", "movesOf", "(LLastLoses$Quotient;II)I"⟩, 6), (⟨"LastLoses$Pairs", "insert", "(I)V"⟩, 6), (⟨"LastLoses$Pairs", "append", "(II)V"⟩, 6), (⟨"LastLoses$Pairs", "follow", "(LLastLoses$Quotient;II)I"⟩, 6), (⟨"LastLoses$Pairs", "allFit", "(I)Z"⟩, 6)]
theorem lw_r3 : ∀ q ∈ lw_privs_3, lw_okq q := List.forall_mem_cons.mpr ⟨lw_p32, List.forall_mem_cons.mpr ⟨lw_p33, List.forall_mem_cons.mpr ⟨lw_p34, List.forall_mem_cons.mpr ⟨lw_p35, List.forall_mem_cons.mpr ⟨lw_p36, List.forall_mem_cons.mpr ⟨lw_p37, List.forall_mem_cons.mpr ⟨lw_p38, List.forall_mem_cons.mpr ⟨lw_p39, List.forall_mem_cons.mpr ⟨lw_p40, List.forall_mem_cons.mpr ⟨lw_p41, List.forall_mem_cons.mpr ⟨lw_p42, List.forall_mem_cons.mpr ⟨lw_p43, List.forall_mem_cons.mpr ⟨lw_p44, List.forall_mem_cons.mpr ⟨lw_p45, List.forall_mem_cons.mpr ⟨lw_p46, List.forall_mem_cons.mpr ⟨lw_p47, fun _ h => absurd h List.not_mem_nil⟩⟩⟩⟩⟩⟩⟩⟩⟩⟩⟩⟩⟩⟩⟩⟩
theorem lw_p48 : lw_okq (⟨"LastLosesModel", "countsWays", "()V"⟩, 57) := ⟨⟨by decide +kernel, by decide +kernel⟩, List.mem_of_getElem? (i := 1221) (by decide +kernel), List.mem_of_getElem? (i := 1227) (by decide +kernel), List.mem_of_getElem? (i := 1228) (by decide +kernel)⟩
theorem lw_p49 : lw_okq (⟨"LastLosesModel", "readsAll", "()Z"⟩, 57) := ⟨⟨by decide +kernel, by decide +kernel⟩, List.mem_of_getElem? (i := 1221) (by decide +kernel), List.mem_of_getElem? (i := 1419) (by decide +kernel), List.mem_of_getElem? (i := 1420) (by decide +kernel)⟩
theorem lw_p50 : lw_okq (⟨"LastLosesModel", "readsLine", "(I)Z"⟩, 57) := ⟨⟨by decide +kernel, by decide +kernel⟩, List.mem_of_getElem? (i := 1221) (by decide +kernel), List.mem_of_getElem? (i := 1423) (by decide +kernel), List.mem_of_getElem? (i := 1424) (by decide +kernel)⟩
theorem lw_p51 : lw_okq (⟨"LastLosesModel", "wordHere", "()I"⟩, 57) := ⟨⟨by decide +kernel, by decide +kernel⟩, List.mem_of_getElem? (i := 1221) (by decide +kernel), List.mem_of_getElem? (i := 1427) (by decide +kernel), List.mem_of_getElem? (i := 1428) (by decide +kernel)⟩
theorem lw_p52 : lw_okq (⟨"LastLosesModel", "next", "()I"⟩, 57) := ⟨⟨by decide +kernel, by decide +kernel⟩, List.mem_of_getElem? (i := 1221) (by decide +kernel), List.mem_of_getElem? (i := 1431) (by decide +kernel), List.mem_of_getElem? (i := 1432) (by decide +kernel)⟩
theorem lw_p53 : lw_okq (⟨"LastLosesModel", "byteAt", "(I)I"⟩, 57) := ⟨⟨by decide +kernel, by decide +kernel⟩, List.mem_of_getElem? (i := 1221) (by decide +kernel), List.mem_of_getElem? (i := 1435) (by decide +kernel), List.mem_of_getElem? (i := 1436) (by decide +kernel)⟩
theorem lw_p54 : lw_okq (⟨"LastLosesModel", "fails", "(II)Z"⟩, 57) := ⟨⟨by decide +kernel, by decide +kernel⟩, List.mem_of_getElem? (i := 1221) (by decide +kernel), List.mem_of_getElem? (i := 1442) (by decide +kernel), List.mem_of_getElem? (i := 1443) (by decide +kernel)⟩
theorem lw_p55 : lw_okq (⟨"LastLosesModel", "passWord", "()V"⟩, 57) := ⟨⟨by decide +kernel, by decide +kernel⟩, List.mem_of_getElem? (i := 1221) (by decide +kernel), List.mem_of_getElem? (i := 1446) (by decide +kernel), List.mem_of_getElem? (i := 1447) (by decide +kernel)⟩
theorem lw_p56 : lw_okq (⟨"LastLosesModel", "readsOctal", "()Z"⟩, 57) := ⟨⟨by decide +kernel, by decide +kernel⟩, List.mem_of_getElem? (i := 1221) (by decide +kernel), List.mem_of_getElem? (i := 1450) (by decide +kernel), List.mem_of_getElem? (i := 1451) (by decide +kernel)⟩
theorem lw_p57 : lw_okq (⟨"LastLosesModel", "takesSign", "(I)Z"⟩, 57) := ⟨⟨by decide +kernel, by decide +kernel⟩, List.mem_of_getElem? (i := 1221) (by decide +kernel), List.mem_of_getElem? (i := 1454) (by decide +kernel), List.mem_of_getElem? (i := 1455) (by decide +kernel)⟩
theorem lw_p58 : lw_okq (⟨"LastLosesModel", "readsAlso", "()Z"⟩, 57) := ⟨⟨by decide +kernel, by decide +kernel⟩, List.mem_of_getElem? (i := 1221) (by decide +kernel), List.mem_of_getElem? (i := 1461) (by decide +kernel), List.mem_of_getElem? (i := 1462) (by decide +kernel)⟩
theorem lw_p59 : lw_okq (⟨"LastLosesModel", "reads", "(II)Z"⟩, 57) := ⟨⟨by decide +kernel, by decide +kernel⟩, List.mem_of_getElem? (i := 1221) (by decide +kernel), List.mem_of_getElem? (i := 1465) (by decide +kernel), List.mem_of_getElem? (i := 1466) (by decide +kernel)⟩
theorem lw_p60 : lw_okq (⟨"LastLosesModel", "readsNever", "()Z"⟩, 57) := ⟨⟨by decide +kernel, by decide +kernel⟩, List.mem_of_getElem? (i := 1221) (by decide +kernel), List.mem_of_getElem? (i := 1469) (by decide +kernel), List.mem_of_getElem? (i := 1470) (by decide +kernel)⟩
theorem lw_p61 : lw_okq (⟨"LastLosesModel", "laysMoves", "()V"⟩, 57) := ⟨⟨by decide +kernel, by decide +kernel⟩, List.mem_of_getElem? (i := 1221) (by decide +kernel), List.mem_of_getElem? (i := 1473) (by decide +kernel), List.mem_of_getElem? (i := 1474) (by decide +kernel)⟩
theorem lw_p62 : lw_okq (⟨"LastLosesModel", "isByCode", "(III)Z"⟩, 57) := ⟨⟨by decide +kernel, by decide +kernel⟩, List.mem_of_getElem? (i := 1221) (by decide +kernel), List.mem_of_getElem? (i := 1477) (by decide +kernel), List.mem_of_getElem? (i := 1478) (by decide +kernel)⟩
theorem lw_p63 : lw_okq (⟨"LastLosesModel", "laysNimbers", "()V"⟩, 57) := ⟨⟨by decide +kernel, by decide +kernel⟩, List.mem_of_getElem? (i := 1221) (by decide +kernel), List.mem_of_getElem? (i := 1481) (by decide +kernel), List.mem_of_getElem? (i := 1482) (by decide +kernel)⟩
def lw_privs_4 : List (MethodName × Nat) := [(⟨"LastLosesModel", "countsWays", "()V"⟩, 57), (⟨"LastLosesModel", "readsAll", "()Z"⟩, 57), (⟨"LastLosesModel", "readsLine", "(I)Z"⟩, 57), (⟨"LastLosesModel", "wordHere", "()I"⟩, 57), (⟨"LastLosesModel", "next", "()I"⟩, 57), (⟨"LastLosesModel", "byteAt", "(I)I"⟩, 57), (⟨"LastLosesModel", "fails", "(II)Z"⟩, 57), (⟨"LastLosesModel", "passWord", "()V"⟩, 57), (⟨"LastLosesModel", "readsOctal", "()Z"⟩, 57), (⟨"LastLosesModel", "takesSign", "(I)Z"⟩, 57), (⟨"LastLosesModel", "readsAlso", "()Z"⟩, 57), (⟨"LastLosesModel", "reads", "(II)Z"⟩, 57), (⟨"LastLosesModel", "readsNever", "()Z"⟩, 57), (⟨"LastLosesModel", "laysMoves", "()V"⟩, 57), (⟨"LastLosesModel", "isByCode", "(III)Z"⟩, 57), (⟨"LastLosesModel", "laysNimbers", "()V"⟩, 57)]
theorem lw_r4 : ∀ q ∈ lw_privs_4, lw_okq q := List.forall_mem_cons.mpr ⟨lw_p48, List.forall_mem_cons.mpr ⟨lw_p49, List.forall_mem_cons.mpr ⟨lw_p50, List.forall_mem_cons.mpr ⟨lw_p51, List.forall_mem_cons.mpr ⟨lw_p52, List.forall_mem_cons.mpr ⟨lw_p53, List.forall_mem_cons.mpr ⟨lw_p54, List.forall_mem_cons.mpr ⟨lw_p55, List.forall_mem_cons.mpr ⟨lw_p56, List.forall_mem_cons.mpr ⟨lw_p57, List.forall_mem_cons.mpr ⟨lw_p58, List.forall_mem_cons.mpr ⟨lw_p59, List.forall_mem_cons.mpr ⟨lw_p60, List.forall_mem_cons.mpr ⟨lw_p61, List.forall_mem_cons.mpr ⟨lw_p62, List.forall_mem_cons.mpr ⟨lw_p63, fun _ h => absurd h List.not_mem_nil⟩⟩⟩⟩⟩⟩⟩⟩⟩⟩⟩⟩⟩⟩⟩⟩
theorem lw_p64 : lw_okq (⟨"LastLosesModel", "takesNone", "(I)V"⟩, 57) := ⟨⟨by decide +kernel, by decide +kernel⟩, List.mem_of_getElem? (i := 1221) (by decide +kernel), List.mem_of_getElem? (i := 1485) (by decide +kernel), List.mem_of_getElem? (i := 1486) (by decide +kernel)⟩
theorem lw_p65 : lw_okq (⟨"LastLosesModel", "leastFree", "()I"⟩, 57) := ⟨⟨by decide +kernel, by decide +kernel⟩, List.mem_of_getElem? (i := 1221) (by decide +kernel), List.mem_of_getElem? (i := 1489) (by decide +kernel), List.mem_of_getElem? (i := 1490) (by decide +kernel)⟩
theorem lw_p66 : lw_okq (⟨"LastLosesModel", "laysPositions", "()V"⟩, 57) := ⟨⟨by decide +kernel, by decide +kernel⟩, List.mem_of_getElem? (i := 1221) (by decide +kernel), List.mem_of_getElem? (i := 1496) (by decide +kernel), List.mem_of_getElem? (i := 1497) (by decide +kernel)⟩
theorem lw_p67 : lw_okq (⟨"LastLosesModel", "laysHeaps", "(I[I)V"⟩, 57) := ⟨⟨by decide +kernel, by decide +kernel⟩, List.mem_of_getElem? (i := 1221) (by decide +kernel), List.mem_of_getElem? (i := 1500) (by decide +kernel), List.mem_of_getElem? (i := 1501) (by decide +kernel)⟩
theorem lw_p68 : lw_okq (⟨"LastLosesModel", "gathersBehind", "()V"⟩, 57) := ⟨⟨by decide +kernel, by decide +kernel⟩, List.mem_of_getElem? (i := 1221) (by decide +kernel), List.mem_of_getElem? (i := 1504) (by decide +kernel), List.mem_of_getElem? (i := 1505) (by decide +kernel)⟩
theorem lw_p69 : lw_okq (⟨"LastLosesModel", "behind", "([III)I"⟩, 57) := ⟨⟨by decide +kernel, by decide +kernel⟩, List.mem_of_getElem? (i := 1221) (by decide +kernel), List.mem_of_getElem? (i := 1508) (by decide +kernel), List.mem_of_getElem? (i := 1509) (by decide +kernel)⟩
theorem lw_p70 : lw_okq (⟨"LastLosesModel", "numberOf", "([I)I"⟩, 57) := ⟨⟨by decide +kernel, by decide +kernel⟩, List.mem_of_getElem? (i := 1221) (by decide +kernel), List.mem_of_getElem? (i := 1518) (by decide +kernel), List.mem_of_getElem? (i := 1519) (by decide +kernel)⟩
theorem lw_p71 : lw_okq (⟨"LastLosesModel", "laysOne", "(I)V"⟩, 57) := ⟨⟨by decide +kernel, by decide +kernel⟩, List.mem_of_getElem? (i := 1221) (by decide +kernel), List.mem_of_getElem? (i := 1525) (by decide +kernel), List.mem_of_getElem? (i := 1526) (by decide +kernel)⟩
theorem lw_p72 : lw_okq (⟨"LastLosesModel", "laysBack", "(II)V"⟩, 57) := ⟨⟨by decide +kernel, by decide +kernel⟩, List.mem_of_getElem? (i := 1221) (by decide +kernel), List.mem_of_getElem? (i := 1529) (by decide +kernel), List.mem_of_getElem? (i := 1530) (by decide +kernel)⟩
theorem lw_p73 : lw_okq (⟨"LastLosesModel", "isHeap", "(I)Z"⟩, 57) := ⟨⟨by decide +kernel, by decide +kernel⟩, List.mem_of_getElem? (i := 1221) (by decide +kernel), List.mem_of_getElem? (i := 1537) (by decide +kernel), List.mem_of_getElem? (i := 1538) (by decide +kernel)⟩
theorem lw_p74 : lw_okq (⟨"LastLosesModel", "isPeriod", "(II)Z"⟩, 57) := ⟨⟨by decide +kernel, by decide +kernel⟩, List.mem_of_getElem? (i := 1221) (by decide +kernel), List.mem_of_getElem? (i := 1554) (by decide +kernel), List.mem_of_getElem? (i := 1555) (by decide +kernel)⟩
theorem lw_p75 : lw_okq (⟨"LastLosesModel", "firstOdd", "(Z)I"⟩, 57) := ⟨⟨by decide +kernel, by decide +kernel⟩, List.mem_of_getElem? (i := 1221) (by decide +kernel), List.mem_of_getElem? (i := 1562) (by decide +kernel), List.mem_of_getElem? (i := 1563) (by decide +kernel)⟩
theorem lw_p76 : lw_okq (⟨"LastLosesModel", "nimberOfHeaps", "([I)I"⟩, 57) := ⟨⟨by decide +kernel, by decide +kernel⟩, List.mem_of_getElem? (i := 1221) (by decide +kernel), List.mem_of_getElem? (i := 1566) (by decide +kernel), List.mem_of_getElem? (i := 1567) (by decide +kernel)⟩
theorem lw_p77 : lw_okq (⟨"LastLosesModel", "isTame", "(II)Z"⟩, 57) := ⟨⟨by decide +kernel, by decide +kernel⟩, List.mem_of_getElem? (i := 1221) (by decide +kernel), List.mem_of_getElem? (i := 1570) (by decide +kernel), List.mem_of_getElem? (i := 1571) (by decide +kernel)⟩
theorem lw_p78 : lw_okq (⟨"LastLosesModel", "genusOf", "(II)I"⟩, 57) := ⟨⟨by decide +kernel, by decide +kernel⟩, List.mem_of_getElem? (i := 1221) (by decide +kernel), List.mem_of_getElem? (i := 1574) (by decide +kernel), List.mem_of_getElem? (i := 1575) (by decide +kernel)⟩
theorem lw_p79 : lw_okq (⟨"LastLosesModel", "isLikeNim", "(I[I)Z"⟩, 57) := ⟨⟨by decide +kernel, by decide +kernel⟩, List.mem_of_getElem? (i := 1221) (by decide +kernel), List.mem_of_getElem? (i := 1578) (by decide +kernel), List.mem_of_getElem? (i := 1579) (by decide +kernel)⟩
def lw_privs_5 : List (MethodName × Nat) := [(⟨"LastLosesModel", "takesNone", "(I)V"⟩, 57), (⟨"LastLosesModel", "leastFree", "()I"⟩, 57), (⟨"LastLosesModel", "laysPositions", "()V"⟩, 57), (⟨"LastLosesModel", "laysHeaps", "(I[I)V"⟩, 57), (⟨"LastLosesModel", "gathersBehind", "()V"⟩, 57), (⟨"LastLosesModel", "behind", "([III)I"⟩, 57), (⟨"LastLosesModel", "numberOf", "([I)I"⟩, 57), (⟨"LastLosesModel", "laysOne", "(I)V"⟩, 57), (⟨"LastLosesModel", "laysBack", "(II)V"⟩, 57), (⟨"LastLosesModel", "isHeap", "(I)Z"⟩, 57), (⟨"LastLosesModel", "isPeriod", "(II)Z"⟩, 57), (⟨"LastLosesModel", "firstOdd", "(Z)I"⟩, 57), (⟨"LastLosesModel", "nimberOfHeaps", "([I)I"⟩, 57), (⟨"LastLosesModel", "isTame", "(II)Z"⟩, 57), (⟨"LastLosesModel", "genusOf", "(II)I"⟩, 57), (⟨"LastLosesModel", "isLikeNim", "(I[I)Z"⟩, 57)]
theorem lw_r5 : ∀ q ∈ lw_privs_5, lw_okq q := List.forall_mem_cons.mpr ⟨lw_p64, List.forall_mem_cons.mpr ⟨lw_p65, List.forall_mem_cons.mpr ⟨lw_p66, List.forall_mem_cons.mpr ⟨lw_p67, List.forall_mem_cons.mpr ⟨lw_p68, List.forall_mem_cons.mpr ⟨lw_p69, List.forall_mem_cons.mpr ⟨lw_p70, List.forall_mem_cons.mpr ⟨lw_p71, List.forall_mem_cons.mpr ⟨lw_p72, List.forall_mem_cons.mpr ⟨lw_p73, List.forall_mem_cons.mpr ⟨lw_p74, List.forall_mem_cons.mpr ⟨lw_p75, List.forall_mem_cons.mpr ⟨lw_p76, List.forall_mem_cons.mpr ⟨lw_p77, List.forall_mem_cons.mpr ⟨lw_p78, List.forall_mem_cons.mpr ⟨lw_p79, fun _ h => absurd h List.not_mem_nil⟩⟩⟩⟩⟩⟩⟩⟩⟩⟩⟩⟩⟩⟩⟩⟩
theorem lw_p80 : lw_okq (⟨"LastLosesModel", "told", "(II)I"⟩, 57) := ⟨⟨by decide +kernel, by decide +kernel⟩, List.mem_of_getElem? (i := 1221) (by decide +kernel), List.mem_of_getElem? (i := 1582) (by decide +kernel), List.mem_of_getElem? (i := 1583) (by decide +kernel)⟩
theorem lw_p81 : lw_okq (⟨"LastLosesModel", "partOf", "(II)I"⟩, 57) := ⟨⟨by decide +kernel, by decide +kernel⟩, List.mem_of_getElem? (i := 1221) (by decide +kernel), List.mem_of_getElem? (i := 1586) (by decide +kernel), List.mem_of_getElem? (i := 1587) (by decide +kernel)⟩
theorem lw_p82 : lw_okq (⟨"LastLosesModel", "keepsAct", "()V"⟩, 57) := ⟨⟨by decide +kernel, by decide +kernel⟩, List.mem_of_getElem? (i := 1221) (by decide +kernel), List.mem_of_getElem? (i := 1598) (by decide +kernel), List.mem_of_getElem? (i := 1599) (by decide +kernel)⟩
theorem lw_p83 : lw_okq (⟨"LastLosesModel", "isMove", "(III)Z"⟩, 57) := ⟨⟨by decide +kernel, by decide +kernel⟩, List.mem_of_getElem? (i := 1221) (by decide +kernel), List.mem_of_getElem? (i := 1606) (by decide +kernel), List.mem_of_getElem? (i := 1607) (by decide +kernel)⟩
theorem lw_p84 : lw_okq (⟨"LastLosesModel", "handNumber", "()I"⟩, 57) := ⟨⟨by decide +kernel, by decide +kernel⟩, List.mem_of_getElem? (i := 1221) (by decide +kernel), List.mem_of_getElem? (i := 1610) (by decide +kernel), List.mem_of_getElem? (i := 1611) (by decide +kernel)⟩
theorem lw_p85 : lw_okq (⟨"LastLosesModel", "firstReply", "([I)I"⟩, 57) := ⟨⟨by decide +kernel, by decide +kernel⟩, List.mem_of_getElem? (i := 1221) (by decide +kernel), List.mem_of_getElem? (i := 1618) (by decide +kernel), List.mem_of_getElem? (i := 1619) (by decide +kernel)⟩
theorem lw_p86 : lw_okq (⟨"LastLosesModel", "goodMoves", "()I"⟩, 57) := ⟨⟨by decide +kernel, by decide +kernel⟩, List.mem_of_getElem? (i := 1221) (by decide +kernel), List.mem_of_getElem? (i := 1639) (by decide +kernel), List.mem_of_getElem? (i := 1640) (by decide +kernel)⟩
theorem lw_p87 : lw_okq (⟨"LastLosesModel", "playedOn", "()I"⟩, 57) := ⟨⟨by decide +kernel, by decide +kernel⟩, List.mem_of_getElem? (i := 1221) (by decide +kernel), List.mem_of_getElem? (i := 1652) (by decide +kernel), List.mem_of_getElem? (i := 1653) (by decide +kernel)⟩
theorem lw_p88 : lw_okq (⟨"LastLosesModel", "apartBy", "([I[I)I"⟩, 57) := ⟨⟨by decide +kernel, by decide +kernel⟩, List.mem_of_getElem? (i := 1221) (by decide +kernel), List.mem_of_getElem? (i := 1669) (by decide +kernel), List.mem_of_getElem? (i := 1670) (by decide +kernel)⟩
theorem lw_p89 : lw_okq (⟨"LastLosesModel", "losesBeside", "([I)Z"⟩, 57) := ⟨⟨by decide +kernel, by decide +kernel⟩, List.mem_of_getElem? (i := 1221) (by decide +kernel), List.mem_of_getElem? (i := 1673) (by decide +kernel), List.mem_of_getElem? (i := 1674) (by decide +kernel)⟩
theorem lw_p90 : lw_okq (⟨"LastLosesModel", "movesOfWalk", "()I"⟩, 57) := ⟨⟨by decide +kernel, by decide +kernel⟩, List.mem_of_getElem? (i := 1221) (by decide +kernel), List.mem_of_getElem? (i := 1694) (by decide +kernel), List.mem_of_getElem? (i := 1695) (by decide +kernel)⟩
theorem lw_p91 : lw_okq (⟨"LastLosesModel", "draw", "(I)I"⟩, 57) := ⟨⟨by decide +kernel, by decide +kernel⟩, List.mem_of_getElem? (i := 1221) (by decide +kernel), List.mem_of_getElem? (i := 1698) (by decide +kernel), List.mem_of_getElem? (i := 1699) (by decide +kernel)⟩
theorem lw_p92 : lw_okq (⟨"LastLosesModel", "goesBy", "(I)V"⟩, 57) := ⟨⟨by decide +kernel, by decide +kernel⟩, List.mem_of_getElem? (i := 1221) (by decide +kernel), List.mem_of_getElem? (i := 1706) (by decide +kernel), List.mem_of_getElem? (i := 1707) (by decide +kernel)⟩
theorem lw_p93 : lw_okq (⟨"LastLosesModel", "isQuotient", "(I)Z"⟩, 57) := ⟨⟨by decide +kernel, by decide +kernel⟩, List.mem_of_getElem? (i := 1221) (by decide +kernel), List.mem_of_getElem? (i := 1714) (by decide +kernel), List.mem_of_getElem? (i := 1715) (by decide +kernel)⟩
theorem lw_p94 : lw_okq (⟨"LastLosesModel", "laysQuotient", "(I)V"⟩, 57) := ⟨⟨by decide +kernel, by decide +kernel⟩, List.mem_of_getElem? (i := 1221) (by decide +kernel), List.mem_of_getElem? (i := 1719) (by decide +kernel), List.mem_of_getElem? (i := 1720) (by decide +kernel)⟩
theorem lw_p95 : lw_okq (⟨"LastLosesModel", "findsElements", "(I)Z"⟩, 57) := ⟨⟨by decide +kernel, by decide +kernel⟩, List.mem_of_getElem? (i := 1221) (by decide +kernel), List.mem_of_getElem? (i := 1723) (by decide +kernel), List.mem_of_getElem? (i := 1724) (by decide +kernel)⟩
def lw_privs_6 : List (MethodName × Nat) := [(⟨"LastLosesModel", "told", "(II)I"⟩, 57), (⟨"LastLosesModel", "partOf", "(II)I"⟩, 57), (⟨"LastLosesModel", "keepsAct", "()V"⟩, 57), (⟨"LastLosesModel", "isMove", "(III)Z"⟩, 57), (⟨"LastLosesModel", "handNumber", "()I"⟩, 57), (⟨"LastLosesModel", "firstReply", "([I)I"⟩, 57), (⟨"LastLosesModel", "goodMoves", "()I"⟩, 57), (⟨"LastLosesModel", "playedOn", "()I"⟩, 57), (⟨"LastLosesModel", "apartBy", "([I[I)I"⟩, 57), (⟨"LastLosesModel", "losesBeside", "([I)Z"⟩, 57), (⟨"LastLosesModel", "movesOfWalk", "()I"⟩, 57), (⟨"LastLosesModel", "draw", "(I)I"⟩, 57), (⟨"LastLosesModel", "goesBy", "(I)V"⟩, 57), (⟨"LastLosesModel", "isQuotient", "(I)Z"⟩, 57), (⟨"LastLosesModel", "laysQuotient", "(I)V"⟩, 57), (⟨"LastLosesModel", "findsElements", "(I)Z"⟩, 57)]
theorem lw_r6 : ∀ q ∈ lw_privs_6, lw_okq q := List.forall_mem_cons.mpr ⟨lw_p80, List.forall_mem_cons.mpr ⟨lw_p81, List.forall_mem_cons.mpr ⟨lw_p82, List.forall_mem_cons.mpr ⟨lw_p83, List.forall_mem_cons.mpr ⟨lw_p84, List.forall_mem_cons.mpr ⟨lw_p85, List.forall_mem_cons.mpr ⟨lw_p86, List.forall_mem_cons.mpr ⟨lw_p87, List.forall_mem_cons.mpr ⟨lw_p88, List.forall_mem_cons.mpr ⟨lw_p89, List.forall_mem_cons.mpr ⟨lw_p90, List.forall_mem_cons.mpr ⟨lw_p91, List.forall_mem_cons.mpr ⟨lw_p92, List.forall_mem_cons.mpr ⟨lw_p93, List.forall_mem_cons.mpr ⟨lw_p94, List.forall_mem_cons.mpr ⟨lw_p95, fun _ h => absurd h List.not_mem_nil⟩⟩⟩⟩⟩⟩⟩⟩⟩⟩⟩⟩⟩⟩⟩⟩
theorem lw_p96 : lw_okq (⟨"LastLosesModel", "markOf", "(I)J"⟩, 57) := ⟨⟨by decide +kernel, by decide +kernel⟩, List.mem_of_getElem? (i := 1221) (by decide +kernel), List.mem_of_getElem? (i := 1727) (by decide +kernel), List.mem_of_getElem? (i := 1728) (by decide +kernel)⟩
theorem lw_p97 : lw_okq (⟨"LastLosesModel", "addsElement", "(IJ)V"⟩, 57) := ⟨⟨by decide +kernel, by decide +kernel⟩, List.mem_of_getElem? (i := 1221) (by decide +kernel), List.mem_of_getElem? (i := 1731) (by decide +kernel), List.mem_of_getElem? (i := 1732) (by decide +kernel)⟩
theorem lw_p98 : lw_okq (⟨"LastLosesModel", "takesWord", "(II)V"⟩, 57) := ⟨⟨by decide +kernel, by decide +kernel⟩, List.mem_of_getElem? (i := 1221) (by decide +kernel), List.mem_of_getElem? (i := 1738) (by decide +kernel), List.mem_of_getElem? (i := 1739) (by decide +kernel)⟩
theorem lw_p99 : lw_okq (⟨"LastLosesModel", "elementBy", "(IJ)I"⟩, 57) := ⟨⟨by decide +kernel, by decide +kernel⟩, List.mem_of_getElem? (i := 1221) (by decide +kernel), List.mem_of_getElem? (i := 1742) (by decide +kernel), List.mem_of_getElem? (i := 1743) (by decide +kernel)⟩
theorem lw_p100 : lw_okq (⟨"LastLosesModel", "findsPairs", "(I)I"⟩, 57) := ⟨⟨by decide +kernel, by decide +kernel⟩, List.mem_of_getElem? (i := 1221) (by decide +kernel), List.mem_of_getElem? (i := 1746) (by decide +kernel), List.mem_of_getElem? (i := 1747) (by decide +kernel)⟩
theorem lw_p101 : lw_okq (⟨"LastLosesModel", "nextBy", "(III)I"⟩, 57) := ⟨⟨by decide +kernel, by decide +kernel⟩, List.mem_of_getElem? (i := 1221) (by decide +kernel), List.mem_of_getElem? (i := 1750) (by decide +kernel), List.mem_of_getElem? (i := 1751) (by decide +kernel)⟩
theorem lw_p102 : lw_okq (⟨"LastLosesModel", "setBy", "(IIII)I"⟩, 57) := ⟨⟨by decide +kernel, by decide +kernel⟩, List.mem_of_getElem? (i := 1221) (by decide +kernel), List.mem_of_getElem? (i := 1754) (by decide +kernel), List.mem_of_getElem? (i := 1755) (by decide +kernel)⟩
theorem lw_p103 : lw_okq (⟨"LastLosesModel", "pairAt", "(III)I"⟩, 57) := ⟨⟨by decide +kernel, by decide +kernel⟩, List.mem_of_getElem? (i := 1221) (by decide +kernel), List.mem_of_getElem? (i := 1758) (by decide +kernel), List.mem_of_getElem? (i := 1759) (by decide +kernel)⟩
theorem lw_p104 : lw_okq (⟨"LastLosesModel", "isSteady", "(I)Z"⟩, 57) := ⟨⟨by decide +kernel, by decide +kernel⟩, List.mem_of_getElem? (i := 1221) (by decide +kernel), List.mem_of_getElem? (i := 1762) (by decide +kernel), List.mem_of_getElem? (i := 1763) (by decide +kernel)⟩
theorem lw_p105 : lw_okq (⟨"LastLosesModel", "arePairsRight", "(I)Z"⟩, 57) := ⟨⟨by decide +kernel, by decide +kernel⟩, List.mem_of_getElem? (i := 1221) (by decide +kernel), List.mem_of_getElem? (i := 1766) (by decide +kernel), List.mem_of_getElem? (i := 1767) (by decide +kernel)⟩
theorem lw_p106 : lw_okq (⟨"LastLosesModel", "isKnown", "(I)Z"⟩, 57) := ⟨⟨by decide +kernel, by decide +kernel⟩, List.mem_of_getElem? (i := 1221) (by decide +kernel), List.mem_of_getElem? (i := 1774) (by decide +kernel), List.mem_of_getElem? (i := 1775) (by decide +kernel)⟩
theorem lw_p107 : lw_okq (⟨"LastLosesModel", "isElement", "(II)Z"⟩, 57) := ⟨⟨by decide +kernel, by decide +kernel⟩, List.mem_of_getElem? (i := 1221) (by decide +kernel), List.mem_of_getElem? (i := 1778) (by decide +kernel), List.mem_of_getElem? (i := 1779) (by decide +kernel)⟩
theorem lw_p108 : lw_okq (⟨"LastLosesModel", "timesOf", "(III)I"⟩, 57) := ⟨⟨by decide +kernel, by decide +kernel⟩, List.mem_of_getElem? (i := 1221) (by decide +kernel), List.mem_of_getElem? (i := 1790) (by decide +kernel), List.mem_of_getElem? (i := 1791) (by decide +kernel)⟩
theorem lw_p109 : lw_okq (⟨"LastLosesModel", "comesOf", "(II)I"⟩, 57) := ⟨⟨by decide +kernel, by decide +kernel⟩, List.mem_of_getElem? (i := 1221) (by decide +kernel), List.mem_of_getElem? (i := 1799) (by decide +kernel), List.mem_of_getElem? (i := 1800) (by decide +kernel)⟩
theorem lw_p110 : lw_okq (⟨"LastLosesModel", "areAlike", "(II)Z"⟩, 57) := ⟨⟨by decide +kernel, by decide +kernel⟩, List.mem_of_getElem? (i := 1221) (by decide +kernel), List.mem_of_getElem? (i := 1815) (by decide +kernel), List.mem_of_getElem? (i := 1816) (by decide +kernel)⟩
def lw_privs_7 : List (MethodName × Nat) := [(⟨"LastLosesModel", "markOf", "(I)J"⟩, 57), (⟨"LastLosesModel", "addsElement", "(IJ)V"⟩, 57), (⟨"LastLosesModel", "takesWord", "(II)V"⟩, 57), (⟨"LastLosesModel", "elementBy", "(IJ)I"⟩, 57), (⟨"LastLosesModel", "findsPairs", "(I)I"⟩, 57), (⟨"LastLosesModel", "nextBy", "(III)I"⟩, 57), (⟨"LastLosesModel", "setBy", "(IIII)I"⟩, 57), (⟨"LastLosesModel", "pairAt", "(III)I"⟩, 57), (⟨"LastLosesModel", "isSteady", "(I)Z"⟩, 57), (⟨"LastLosesModel", "arePairsRight", "(I)Z"⟩, 57), (⟨"LastLosesModel", "isKnown", "(I)Z"⟩, 57), (⟨"LastLosesModel", "isElement", "(II)Z"⟩, 57), (⟨"LastLosesModel", "timesOf", "(III)I"⟩, 57), (⟨"LastLosesModel", "comesOf", "(II)I"⟩, 57), (⟨"LastLosesModel", "areAlike", "(II)Z"⟩, 57)]
theorem lw_r7 : ∀ q ∈ lw_privs_7, lw_okq q := List.forall_mem_cons.mpr ⟨lw_p96, List.forall_mem_cons.mpr ⟨lw_p97, List.forall_mem_cons.mpr ⟨lw_p98, List.forall_mem_cons.mpr ⟨lw_p99, List.forall_mem_cons.mpr ⟨lw_p100, List.forall_mem_cons.mpr ⟨lw_p101, List.forall_mem_cons.mpr ⟨lw_p102, List.forall_mem_cons.mpr ⟨lw_p103, List.forall_mem_cons.mpr ⟨lw_p104, List.forall_mem_cons.mpr ⟨lw_p105, List.forall_mem_cons.mpr ⟨lw_p106, List.forall_mem_cons.mpr ⟨lw_p107, List.forall_mem_cons.mpr ⟨lw_p108, List.forall_mem_cons.mpr ⟨lw_p109, List.forall_mem_cons.mpr ⟨lw_p110, fun _ h => absurd h List.not_mem_nil⟩⟩⟩⟩⟩⟩⟩⟩⟩⟩⟩⟩⟩⟩⟩
def lw_privs : List (MethodName × Nat) := lw_privs_1 ++ (lw_privs_2 ++ (lw_privs_3 ++ (lw_privs_4 ++ (lw_privs_5 ++ (lw_privs_6 ++ (lw_privs_7))))))
def lw_tbl : List Cond := k2_sels lw_privs ++ tables_1
theorem lw_privs_ok : ∀ q ∈ lw_privs, lw_okq q := by
  show ∀ q ∈ lw_privs_1 ++ (lw_privs_2 ++ (lw_privs_3 ++ (lw_privs_4 ++ (lw_privs_5 ++ (lw_privs_6 ++ (lw_privs_7)))))), lw_okq q
  exact List.forall_mem_append.mpr ⟨lw_r1, List.forall_mem_append.mpr ⟨lw_r2, List.forall_mem_append.mpr ⟨lw_r3, List.forall_mem_append.mpr ⟨lw_r4, List.forall_mem_append.mpr ⟨lw_r5, List.forall_mem_append.mpr ⟨lw_r6, lw_r7⟩⟩⟩⟩⟩⟩
end
section
def RX0 : String := "LastLoses$Board"
def TX0 : u_T := fun k => match k with
  | 0 => ("LastLoses$Board", "rules", "LLastLoses$Rules;", true)
  | 1 => ("LastLoses$Board", "cycle", "LLastLoses$Cycle;", true)
  | 2 => ("LastLoses$Board", "positions", "LLastLoses$Positions;", true)
  | 3 => ("LastLoses$Board", "hand", "LLastLoses$Hand;", true)
  | 4 => ("LastLoses$Board", "values", "LLastLoses$Values;", true)
  | 5 => ("LastLoses$Board", "options", "LLastLoses$Options;", true)
  | 6 => ("LastLoses$Board", "pairSearch", "LLastLoses$Pairs;", true)
  | 7 => ("LastLoses$Board", "quotients", "[LLastLoses$Quotient;", true)
  | 8 => ("LastLoses$Board", "oddOne", "I", false)
  | _ => ("LastLoses$Board", "wildOne", "I", false)
def tyX0 : Nat → FieldType := fun k => match k with
  | 0 => .object "LastLoses$Rules"
  | 1 => .object "LastLoses$Cycle"
  | 2 => .object "LastLoses$Positions"
  | 3 => .object "LastLoses$Hand"
  | 4 => .object "LastLoses$Values"
  | 5 => .object "LastLoses$Options"
  | 6 => .object "LastLoses$Pairs"
  | 7 => .array (.object "LastLoses$Quotient")
  | 8 => .int
  | _ => .int
abbrev wsX00 : List Cond := u_ws RX0 TX0 10
theorem nmX0 : ∀ a, a < 10 → ∀ b, b < 10 → a ≠ b → (TX0 a).2.1 ≠ (TX0 b).2.1 := by decide +kernel
theorem tyX0_ok : ∀ k, k < 10 → parseFieldDescriptor (TX0 k).2.2.1 = some (tyX0 k) := by decide +kernel
abbrev cX0_init : ByteArray := prog_2_method_1_code
def yX0_init : MethodName := ⟨RX0, "<init>", "()V"⟩
abbrev cX0_begin : ByteArray := prog_2_method_2_code
def yX0_begin : MethodName := ⟨RX0, "begin", "(LLastLoses$Reader;)V"⟩
abbrev cX0_firstOdd : ByteArray := prog_2_method_3_code
def yX0_firstOdd : MethodName := ⟨RX0, "firstOdd", "()I"⟩
abbrev cX0_firstWild : ByteArray := prog_2_method_4_code
def yX0_firstWild : MethodName := ⟨RX0, "firstWild", "()I"⟩
abbrev cX0_makeReply : ByteArray := prog_2_method_5_code
def yX0_makeReply : MethodName := ⟨RX0, "makeReply", "()I"⟩
abbrev cX0_answerAt : ByteArray := prog_2_method_6_code
def yX0_answerAt : MethodName := ⟨RX0, "answerAt", "(I)I"⟩
abbrev cX0_lineMove : ByteArray := prog_2_method_7_code
def yX0_lineMove : MethodName := ⟨RX0, "lineMove", "(I)I"⟩
abbrev cX0_soonest : ByteArray := prog_2_method_8_code
def yX0_soonest : MethodName := ⟨RX0, "soonest", "()I"⟩
abbrev cX0_slowest : ByteArray := prog_2_method_9_code
def yX0_slowest : MethodName := ⟨RX0, "slowest", "()I"⟩
abbrev cX0_drawGames : ByteArray := prog_2_method_10_code
def yX0_drawGames : MethodName := ⟨RX0, "drawGames", "(III)I"⟩
abbrev cX0_movesOf : ByteArray := prog_2_method_11_code
def yX0_movesOf : MethodName := ⟨RX0, "movesOf", "(I)I"⟩
abbrev cX0_afterMove : ByteArray := prog_2_method_12_code
def yX0_afterMove : MethodName := ⟨RX0, "afterMove", "(II)I"⟩
abbrev cX0_pairsOf : ByteArray := prog_2_method_13_code
def yX0_pairsOf : MethodName := ⟨RX0, "pairsOf", "(LLastLoses$Quotient;)I"⟩
abbrev cX0_proofOf : ByteArray := prog_2_method_14_code
def yX0_proofOf : MethodName := ⟨RX0, "proofOf", "(LLastLoses$Quotient;)I"⟩
def RX1 : String := "LastLoses$Cycle"
def TX1 : u_T := fun k => match k with
  | 0 => ("LastLoses$Cycle", "nimbers", "[I", true)
  | 1 => ("LastLoses$Cycle", "seenFor", "[I", true)
  | 2 => ("LastLoses$Cycle", "looked", "Z", false)
  | 3 => ("LastLoses$Cycle", "length", "I", false)
  | _ => ("LastLoses$Cycle", "start", "I", false)
def tyX1 : Nat → FieldType := fun k => match k with
  | 0 => .array .int
  | 1 => .array .int
  | 2 => .boolean
  | 3 => .int
  | _ => .int
abbrev wsX10 : List Cond := u_ws RX1 TX1 5
theorem nmX1 : ∀ a, a < 5 → ∀ b, b < 5 → a ≠ b → (TX1 a).2.1 ≠ (TX1 b).2.1 := by decide +kernel
theorem tyX1_ok : ∀ k, k < 5 → parseFieldDescriptor (TX1 k).2.2.1 = some (tyX1 k) := by decide +kernel
abbrev cX1_init : ByteArray := prog_3_method_1_code
def yX1_init : MethodName := ⟨RX1, "<init>", "()V"⟩
abbrev cX1_forget : ByteArray := prog_3_method_2_code
def yX1_forget : MethodName := ⟨RX1, "forget", "()V"⟩
abbrev cX1_answer : ByteArray := prog_3_method_3_code
def yX1_answer : MethodName := ⟨RX1, "answer", "(LLastLoses$Rules;I)I"⟩
abbrev cX1_findNimbers : ByteArray := prog_3_method_4_code
def yX1_findNimbers : MethodName := ⟨RX1, "findNimbers", "(LLastLoses$Rules;)V"⟩
abbrev cX1_seeMoves : ByteArray := prog_3_method_5_code
def yX1_seeMoves : MethodName := ⟨RX1, "seeMoves", "(III)V"⟩
abbrev cX1_findCycle : ByteArray := prog_3_method_6_code
def yX1_findCycle : MethodName := ⟨RX1, "findCycle", "(I)V"⟩
abbrev cX1_repeats : ByteArray := prog_3_method_7_code
def yX1_repeats : MethodName := ⟨RX1, "repeats", "(III)Z"⟩
def RX2 : String := "LastLoses$Hand"
def TX2 : u_T := fun k => match k with
  | 0 => ("LastLoses$Hand", "before", "[I", true)
  | 1 => ("LastLoses$Hand", "kept", "[I", true)
  | 2 => ("LastLoses$Hand", "now", "I", false)
  | 3 => ("LastLoses$Hand", "top", "I", false)
  | _ => ("LastLoses$Hand", "acts", "I", false)
def tyX2 : Nat → FieldType := fun k => match k with
  | 0 => .array .int
  | 1 => .array .int
  | 2 => .int
  | 3 => .int
  | _ => .int
abbrev wsX20 : List Cond := u_ws RX2 TX2 5
theorem nmX2 : ∀ a, a < 5 → ∀ b, b < 5 → a ≠ b → (TX2 a).2.1 ≠ (TX2 b).2.1 := by decide +kernel
theorem tyX2_ok : ∀ k, k < 5 → parseFieldDescriptor (TX2 k).2.2.1 = some (tyX2 k) := by decide +kernel
abbrev cX2_init : ByteArray := prog_4_method_1_code
def yX2_init : MethodName := ⟨RX2, "<init>", "()V"⟩
abbrev cX2_empty : ByteArray := prog_4_method_2_code
def yX2_empty : MethodName := ⟨RX2, "empty", "()V"⟩
abbrev cX2_position : ByteArray := prog_4_method_3_code
def yX2_position : MethodName := ⟨RX2, "position", "()I"⟩
abbrev cX2_become : ByteArray := prog_4_method_4_code
def yX2_become : MethodName := ⟨RX2, "become", "(I)V"⟩
abbrev cX2_takeBack : ByteArray := prog_4_method_5_code
def yX2_takeBack : MethodName := ⟨RX2, "takeBack", "()I"⟩
abbrev cX2_undoable : ByteArray := prog_4_method_6_code
def yX2_undoable : MethodName := ⟨RX2, "undoable", "()I"⟩
abbrev cX2_keepUnder : ByteArray := prog_4_method_7_code
def yX2_keepUnder : MethodName := ⟨RX2, "keepUnder", "(I)V"⟩
abbrev cX2_keptUnder : ByteArray := prog_4_method_8_code
def yX2_keptUnder : MethodName := ⟨RX2, "keptUnder", "(I)I"⟩
abbrev cX2_keptBits : ByteArray := prog_4_method_9_code
def yX2_keptBits : MethodName := ⟨RX2, "keptBits", "()I"⟩
def RX3 : String := "LastLoses$Options"
def TX3 : u_T := fun k => match k with
  | 0 => ("LastLoses$Options", "positions", "LLastLoses$Positions;", true)
  | 1 => ("LastLoses$Options", "rules", "LLastLoses$Rules;", true)
  | 2 => ("LastLoses$Options", "targets", "[I", true)
  | 3 => ("LastLoses$Options", "codes", "[I", true)
  | _ => ("LastLoses$Options", "length", "I", false)
def tyX3 : Nat → FieldType := fun k => match k with
  | 0 => .object "LastLoses$Positions"
  | 1 => .object "LastLoses$Rules"
  | 2 => .array .int
  | 3 => .array .int
  | _ => .int
abbrev wsX30 : List Cond := u_ws RX3 TX3 5
theorem nmX3 : ∀ a, a < 5 → ∀ b, b < 5 → a ≠ b → (TX3 a).2.1 ≠ (TX3 b).2.1 := by decide +kernel
theorem tyX3_ok : ∀ k, k < 5 → parseFieldDescriptor (TX3 k).2.2.1 = some (tyX3 k) := by decide +kernel
abbrev cX3_init : ByteArray := prog_5_method_1_code
def yX3_init : MethodName := ⟨RX3, "<init>", "(LLastLoses$Positions;LLastLoses$Rules;)V"⟩
abbrev cX3_list : ByteArray := prog_5_method_2_code
def yX3_list : MethodName := ⟨RX3, "list", "(I)V"⟩
abbrev cX3_size : ByteArray := prog_5_method_3_code
def yX3_size : MethodName := ⟨RX3, "size", "()I"⟩
abbrev cX3_target : ByteArray := prog_5_method_4_code
def yX3_target : MethodName := ⟨RX3, "target", "(I)I"⟩
abbrev cX3_code : ByteArray := prog_5_method_5_code
def yX3_code : MethodName := ⟨RX3, "code", "(I)I"⟩
def RX4 : String := "LastLoses$Pairs"
def TX4 : u_T := fun k => match k with
  | 0 => ("LastLoses$Pairs", "rules", "LLastLoses$Rules;", true)
  | 1 => ("LastLoses$Pairs", "found", "[I", true)
  | 2 => ("LastLoses$Pairs", "slots", "[I", true)
  | 3 => ("LastLoses$Pairs", "movesTo", "[I", true)
  | 4 => ("LastLoses$Pairs", "size", "I", false)
  | _ => ("LastLoses$Pairs", "tooMany", "Z", false)
def tyX4 : Nat → FieldType := fun k => match k with
  | 0 => .object "LastLoses$Rules"
  | 1 => .array .int
  | 2 => .array .int
  | 3 => .array .int
  | 4 => .int
  | _ => .boolean
abbrev wsX40 : List Cond := u_ws RX4 TX4 6
theorem nmX4 : ∀ a, a < 6 → ∀ b, b < 6 → a ≠ b → (TX4 a).2.1 ≠ (TX4 b).2.1 := by decide +kernel
theorem tyX4_ok : ∀ k, k < 6 → parseFieldDescriptor (TX4 k).2.2.1 = some (tyX4 k) := by decide +kernel
abbrev cX4_init : ByteArray := prog_6_method_1_code
def yX4_init : MethodName := ⟨RX4, "<init>", "(LLastLoses$Rules;)V"⟩
abbrev cX4_search : ByteArray := prog_6_method_2_code
def yX4_search : MethodName := ⟨RX4, "search", "(LLastLoses$Quotient;)V"⟩
abbrev cX4_listMoves : ByteArray := prog_6_method_3_code
def yX4_listMoves : MethodName := ⟨RX4, "listMoves", "(LLastLoses$Quotient;)V"⟩
abbrev cX4_movesOf : ByteArray := prog_6_method_4_code
def yX4_movesOf : MethodName := ⟨RX4, "movesOf", "(LLastLoses$Quotient;II)I"⟩
abbrev cX4_follow : ByteArray := prog_6_method_5_code
def yX4_follow : MethodName := ⟨RX4, "follow", "(LLastLoses$Quotient;II)I"⟩
abbrev cX4_insert : ByteArray := prog_6_method_6_code
def yX4_insert : MethodName := ⟨RX4, "insert", "(I)V"⟩
abbrev cX4_append : ByteArray := prog_6_method_7_code
def yX4_append : MethodName := ⟨RX4, "append", "(II)V"⟩
abbrev cX4_allFit : ByteArray := prog_6_method_8_code
def yX4_allFit : MethodName := ⟨RX4, "allFit", "(I)Z"⟩
def RX5 : String := "LastLoses$Positions"
def TX5 : u_T := fun k => match k with
  | 0 => ("LastLoses$Positions", "ways", "[I", true)
  | 1 => ("LastLoses$Positions", "firstOf", "[I", true)
  | 2 => ("LastLoses$Positions", "joinStart", "[I", true)
  | 3 => ("LastLoses$Positions", "joined", "[I", true)
  | 4 => ("LastLoses$Positions", "partStart", "[I", true)
  | _ => ("LastLoses$Positions", "parts", "[I", true)
def tyX5 : Nat → FieldType := fun k => match k with
  | 0 => .array .int
  | 1 => .array .int
  | 2 => .array .int
  | 3 => .array .int
  | 4 => .array .int
  | _ => .array .int
abbrev wsX50 : List Cond := u_ws RX5 TX5 6
theorem nmX5 : ∀ a, a < 6 → ∀ b, b < 6 → a ≠ b → (TX5 a).2.1 ≠ (TX5 b).2.1 := by decide +kernel
theorem tyX5_ok : ∀ k, k < 6 → parseFieldDescriptor (TX5 k).2.2.1 = some (tyX5 k) := by decide +kernel
abbrev cX5_init : ByteArray := prog_7_method_1_code
def yX5_init : MethodName := ⟨RX5, "<init>", "()V"⟩
abbrev cX5_countWays : ByteArray := prog_7_method_2_code
def yX5_countWays : MethodName := ⟨RX5, "countWays", "()V"⟩
abbrev cX5_waysOf : ByteArray := prog_7_method_3_code
def yX5_waysOf : MethodName := ⟨RX5, "waysOf", "(II)I"⟩
abbrev cX5_linkParts : ByteArray := prog_7_method_4_code
def yX5_linkParts : MethodName := ⟨RX5, "linkParts", "(III)I"⟩
abbrev cX5_linkOthers : ByteArray := prog_7_method_5_code
def yX5_linkOthers : MethodName := ⟨RX5, "linkOthers", "(IIII)I"⟩
abbrev cX5_link : ByteArray := prog_7_method_6_code
def yX5_link : MethodName := ⟨RX5, "link", "(IIII)I"⟩
abbrev cX5_isPosition : ByteArray := prog_7_method_7_code
def yX5_isPosition : MethodName := ⟨RX5, "isPosition", "(I)Z"⟩
abbrev cX5_join : ByteArray := prog_7_method_8_code
def yX5_join : MethodName := ⟨RX5, "join", "(II)I"⟩
abbrev cX5_joinMove : ByteArray := prog_7_method_9_code
def yX5_joinMove : MethodName := ⟨RX5, "joinMove", "(II)I"⟩
abbrev cX5_joinAll : ByteArray := prog_7_method_10_code
def yX5_joinAll : MethodName := ⟨RX5, "joinAll", "(II)I"⟩
abbrev cX5_firstPart : ByteArray := prog_7_method_11_code
def yX5_firstPart : MethodName := ⟨RX5, "firstPart", "(I)I"⟩
abbrev cX5_endPart : ByteArray := prog_7_method_12_code
def yX5_endPart : MethodName := ⟨RX5, "endPart", "(I)I"⟩
abbrev cX5_heapOf : ByteArray := prog_7_method_13_code
def yX5_heapOf : MethodName := ⟨RX5, "heapOf", "(I)I"⟩
abbrev cX5_restOf : ByteArray := prog_7_method_14_code
def yX5_restOf : MethodName := ⟨RX5, "restOf", "(I)I"⟩
abbrev cX5_without : ByteArray := prog_7_method_15_code
def yX5_without : MethodName := ⟨RX5, "without", "(II)I"⟩
abbrev cX5_countOf : ByteArray := prog_7_method_16_code
def yX5_countOf : MethodName := ⟨RX5, "countOf", "(II)I"⟩
abbrev cX5_beansOf : ByteArray := prog_7_method_17_code
def yX5_beansOf : MethodName := ⟨RX5, "beansOf", "(I)I"⟩
abbrev cX5_tally : ByteArray := prog_7_method_18_code
def yX5_tally : MethodName := ⟨RX5, "tally", "(II)I"⟩
abbrev cX5_firstWith : ByteArray := prog_7_method_19_code
def yX5_firstWith : MethodName := ⟨RX5, "firstWith", "(I)I"⟩
abbrev cX5_biggestHeap : ByteArray := prog_7_method_20_code
def yX5_biggestHeap : MethodName := ⟨RX5, "biggestHeap", "(I)I"⟩
def RX6 : String := "LastLoses$Quotient"
def TX6 : u_T := fun k => match k with
  | 0 => ("LastLoses$Quotient", "biggest", "I", true)
  | 1 => ("LastLoses$Quotient", "positions", "LLastLoses$Positions;", true)
  | 2 => ("LastLoses$Quotient", "values", "LLastLoses$Values;", true)
  | 3 => ("LastLoses$Quotient", "words", "[I", true)
  | 4 => ("LastLoses$Quotient", "marks", "[J", true)
  | 5 => ("LastLoses$Quotient", "nexts", "[I", true)
  | 6 => ("LastLoses$Quotient", "cameAs", "[I", true)
  | 7 => ("LastLoses$Quotient", "length", "I", false)
  | 8 => ("LastLoses$Quotient", "pairCount", "I", false)
  | _ => ("LastLoses$Quotient", "pairsFit", "Z", false)
def tyX6 : Nat → FieldType := fun k => match k with
  | 0 => .int
  | 1 => .object "LastLoses$Positions"
  | 2 => .object "LastLoses$Values"
  | 3 => .array .int
  | 4 => .array .long
  | 5 => .array .int
  | 6 => .array .int
  | 7 => .int
  | 8 => .int
  | _ => .boolean
abbrev wsX60 : List Cond := u_ws RX6 TX6 10
theorem nmX6 : ∀ a, a < 10 → ∀ b, b < 10 → a ≠ b → (TX6 a).2.1 ≠ (TX6 b).2.1 := by decide +kernel
theorem tyX6_ok : ∀ k, k < 10 → parseFieldDescriptor (TX6 k).2.2.1 = some (tyX6 k) := by decide +kernel
abbrev cX6_init : ByteArray := prog_8_method_1_code
def yX6_init : MethodName := ⟨RX6, "<init>", "(ILLastLoses$Positions;LLastLoses$Values;)V"⟩
abbrev cX6_forget : ByteArray := prog_8_method_2_code
def yX6_forget : MethodName := ⟨RX6, "forget", "()V"⟩
abbrev cX6_build : ByteArray := prog_8_method_3_code
def yX6_build : MethodName := ⟨RX6, "build", "()V"⟩
abbrev cX6_elementFor : ByteArray := prog_8_method_4_code
def yX6_elementFor : MethodName := ⟨RX6, "elementFor", "(IJ)I"⟩
abbrev cX6_size : ByteArray := prog_8_method_5_code
def yX6_size : MethodName := ⟨RX6, "size", "()I"⟩
abbrev cX6_heaps : ByteArray := prog_8_method_6_code
def yX6_heaps : MethodName := ⟨RX6, "heaps", "()I"⟩
abbrev cX6_isKnown : ByteArray := prog_8_method_7_code
def yX6_isKnown : MethodName := ⟨RX6, "isKnown", "()Z"⟩
abbrev cX6_has : ByteArray := prog_8_method_8_code
def yX6_has : MethodName := ⟨RX6, "has", "(I)Z"⟩
abbrev cX6_wordOf : ByteArray := prog_8_method_9_code
def yX6_wordOf : MethodName := ⟨RX6, "wordOf", "(I)I"⟩
abbrev cX6_nextOf : ByteArray := prog_8_method_10_code
def yX6_nextOf : MethodName := ⟨RX6, "nextOf", "(II)I"⟩
abbrev cX6_product : ByteArray := prog_8_method_11_code
def yX6_product : MethodName := ⟨RX6, "product", "(II)I"⟩
abbrev cX6_setOf : ByteArray := prog_8_method_12_code
def yX6_setOf : MethodName := ⟨RX6, "setOf", "(I)I"⟩
abbrev cX6_lostSet : ByteArray := prog_8_method_13_code
def yX6_lostSet : MethodName := ⟨RX6, "lostSet", "()I"⟩
abbrev cX6_reachOf : ByteArray := prog_8_method_14_code
def yX6_reachOf : MethodName := ⟨RX6, "reachOf", "(I)I"⟩
abbrev cX6_kernel : ByteArray := prog_8_method_15_code
def yX6_kernel : MethodName := ⟨RX6, "kernel", "()I"⟩
abbrev cX6_units : ByteArray := prog_8_method_16_code
def yX6_units : MethodName := ⟨RX6, "units", "()I"⟩
abbrev cX6_idle : ByteArray := prog_8_method_17_code
def yX6_idle : MethodName := ⟨RX6, "idle", "()I"⟩
abbrev cX6_isSteady : ByteArray := prog_8_method_18_code
def yX6_isSteady : MethodName := ⟨RX6, "isSteady", "()Z"⟩
abbrev cX6_powerOf : ByteArray := prog_8_method_19_code
def yX6_powerOf : MethodName := ⟨RX6, "powerOf", "(II)I"⟩
abbrev cX6_placeOf : ByteArray := prog_8_method_20_code
def yX6_placeOf : MethodName := ⟨RX6, "placeOf", "(LLastLoses$Tape;)I"⟩
abbrev cX6_isAlike : ByteArray := prog_8_method_21_code
def yX6_isAlike : MethodName := ⟨RX6, "isAlike", "(LLastLoses$Quotient;)Z"⟩
def RX7 : String := "LastLoses$Reader"
def TX7 : u_T := fun k => match k with
  | 0 => ("LastLoses$Reader", "tape", "LLastLoses$Tape;", true)
  | 1 => ("LastLoses$Reader", "digits", "[I", true)
  | 2 => ("LastLoses$Reader", "kinds", "[I", true)
  | 3 => ("LastLoses$Reader", "heaps", "[I", true)
  | 4 => ("LastLoses$Reader", "seconds", "[I", true)
  | 5 => ("LastLoses$Reader", "thirds", "[I", true)
  | 6 => ("LastLoses$Reader", "digitCount", "I", false)
  | 7 => ("LastLoses$Reader", "lineCount", "I", false)
  | 8 => ("LastLoses$Reader", "at", "I", false)
  | _ => ("LastLoses$Reader", "fault", "I", false)
def tyX7 : Nat → FieldType := fun k => match k with
  | 0 => .object "LastLoses$Tape"
  | 1 => .array .int
  | 2 => .array .int
  | 3 => .array .int
  | 4 => .array .int
  | 5 => .array .int
  | 6 => .int
  | 7 => .int
  | 8 => .int
  | _ => .int
abbrev wsX70 : List Cond := u_ws RX7 TX7 10
theorem nmX7 : ∀ a, a < 10 → ∀ b, b < 10 → a ≠ b → (TX7 a).2.1 ≠ (TX7 b).2.1 := by decide +kernel
theorem tyX7_ok : ∀ k, k < 10 → parseFieldDescriptor (TX7 k).2.2.1 = some (tyX7 k) := by decide +kernel
abbrev cX7_init : ByteArray := prog_9_method_1_code
def yX7_init : MethodName := ⟨RX7, "<init>", "(LLastLoses$Tape;)V"⟩
abbrev cX7_readText : ByteArray := prog_9_method_2_code
def yX7_readText : MethodName := ⟨RX7, "readText", "()I"⟩
abbrev cX7_readLine : ByteArray := prog_9_method_3_code
def yX7_readLine : MethodName := ⟨RX7, "readLine", "()V"⟩
abbrev cX7_readKind : ByteArray := prog_9_method_4_code
def yX7_readKind : MethodName := ⟨RX7, "readKind", "()I"⟩
abbrev cX7_readCode : ByteArray := prog_9_method_5_code
def yX7_readCode : MethodName := ⟨RX7, "readCode", "()V"⟩
abbrev cX7_readDigit : ByteArray := prog_9_method_6_code
def yX7_readDigit : MethodName := ⟨RX7, "readDigit", "(I)V"⟩
abbrev cX7_readAlso : ByteArray := prog_9_method_7_code
def yX7_readAlso : MethodName := ⟨RX7, "readAlso", "()V"⟩
abbrev cX7_readNever : ByteArray := prog_9_method_8_code
def yX7_readNever : MethodName := ⟨RX7, "readNever", "()V"⟩
abbrev cX7_store : ByteArray := prog_9_method_9_code
def yX7_store : MethodName := ⟨RX7, "store", "(III)V"⟩
abbrev cX7_readNumber : ByteArray := prog_9_method_10_code
def yX7_readNumber : MethodName := ⟨RX7, "readNumber", "(II)I"⟩
abbrev cX7_passWord : ByteArray := prog_9_method_11_code
def yX7_passWord : MethodName := ⟨RX7, "passWord", "(Ljava/lang/String;)Z"⟩
abbrev cX7_passSemicolon : ByteArray := prog_9_method_12_code
def yX7_passSemicolon : MethodName := ⟨RX7, "passSemicolon", "()Z"⟩
abbrev cX7_skipBlanks : ByteArray := prog_9_method_13_code
def yX7_skipBlanks : MethodName := ⟨RX7, "skipBlanks", "()V"⟩
abbrev cX7_fail : ByteArray := prog_9_method_14_code
def yX7_fail : MethodName := ⟨RX7, "fail", "(II)V"⟩
abbrev cX7_isDigit : ByteArray := prog_9_method_15_code
def yX7_isDigit : MethodName := ⟨RX7, "isDigit", "(I)Z"⟩
abbrev cX7_isLetter : ByteArray := prog_9_method_16_code
def yX7_isLetter : MethodName := ⟨RX7, "isLetter", "(I)Z"⟩
def RX8 : String := "LastLoses$Rules"
def TX8 : u_T := fun k => match k with
  | 0 => ("LastLoses$Rules", "digits", "[I", true)
  | 1 => ("LastLoses$Rules", "banned", "[I", true)
  | 2 => ("LastLoses$Rules", "granted", "[I", true)
  | 3 => ("LastLoses$Rules", "moveStart", "[I", true)
  | 4 => ("LastLoses$Rules", "packedMoves", "[I", true)
  | 5 => ("LastLoses$Rules", "nimbers", "[I", true)
  | 6 => ("LastLoses$Rules", "leasts", "[I", true)
  | 7 => ("LastLoses$Rules", "mosts", "[I", true)
  | 8 => ("LastLoses$Rules", "digitTotal", "I", false)
  | _ => ("LastLoses$Rules", "extras", "I", false)
def tyX8 : Nat → FieldType := fun k => match k with
  | 0 => .array .int
  | 1 => .array .int
  | 2 => .array .int
  | 3 => .array .int
  | 4 => .array .int
  | 5 => .array .int
  | 6 => .array .int
  | 7 => .array .int
  | 8 => .int
  | _ => .int
abbrev wsX80 : List Cond := u_ws RX8 TX8 10
theorem nmX8 : ∀ a, a < 10 → ∀ b, b < 10 → a ≠ b → (TX8 a).2.1 ≠ (TX8 b).2.1 := by decide +kernel
theorem tyX8_ok : ∀ k, k < 10 → parseFieldDescriptor (TX8 k).2.2.1 = some (tyX8 k) := by decide +kernel
abbrev cX8_init : ByteArray := prog_10_method_1_code
def yX8_init : MethodName := ⟨RX8, "<init>", "()V"⟩
abbrev cX8_learn : ByteArray := prog_10_method_2_code
def yX8_learn : MethodName := ⟨RX8, "learn", "(LLastLoses$Reader;)V"⟩
abbrev cX8_learnLine : ByteArray := prog_10_method_3_code
def yX8_learnLine : MethodName := ⟨RX8, "learnLine", "(IIII)V"⟩
abbrev cX8_listMoves : ByteArray := prog_10_method_4_code
def yX8_listMoves : MethodName := ⟨RX8, "listMoves", "()V"⟩
abbrev cX8_allows : ByteArray := prog_10_method_5_code
def yX8_allows : MethodName := ⟨RX8, "allows", "(III)Z"⟩
abbrev cX8_judgeHeap : ByteArray := prog_10_method_6_code
def yX8_judgeHeap : MethodName := ⟨RX8, "judgeHeap", "(I)V"⟩
abbrev cX8_digitCount : ByteArray := prog_10_method_7_code
def yX8_digitCount : MethodName := ⟨RX8, "digitCount", "()I"⟩
abbrev cX8_extraLines : ByteArray := prog_10_method_8_code
def yX8_extraLines : MethodName := ⟨RX8, "extraLines", "()I"⟩
abbrev cX8_digitFor : ByteArray := prog_10_method_9_code
def yX8_digitFor : MethodName := ⟨RX8, "digitFor", "(I)I"⟩
abbrev cX8_firstMove : ByteArray := prog_10_method_10_code
def yX8_firstMove : MethodName := ⟨RX8, "firstMove", "(I)I"⟩
abbrev cX8_packedAt : ByteArray := prog_10_method_11_code
def yX8_packedAt : MethodName := ⟨RX8, "packedAt", "(I)I"⟩
abbrev cX8_moveCount : ByteArray := prog_10_method_12_code
def yX8_moveCount : MethodName := ⟨RX8, "moveCount", "(I)I"⟩
abbrev cX8_moveAt : ByteArray := prog_10_method_13_code
def yX8_moveAt : MethodName := ⟨RX8, "moveAt", "(II)I"⟩
abbrev cX8_isMove : ByteArray := prog_10_method_14_code
def yX8_isMove : MethodName := ⟨RX8, "isMove", "(III)Z"⟩
abbrev cX8_nimberOf : ByteArray := prog_10_method_15_code
def yX8_nimberOf : MethodName := ⟨RX8, "nimberOf", "(I)I"⟩
abbrev cX8_leastOf : ByteArray := prog_10_method_16_code
def yX8_leastOf : MethodName := ⟨RX8, "leastOf", "(I)I"⟩
abbrev cX8_mostOf : ByteArray := prog_10_method_17_code
def yX8_mostOf : MethodName := ⟨RX8, "mostOf", "(I)I"⟩
def RX9 : String := "LastLoses$Tape"
def TX9 : u_T := fun k => match k with
  | 0 => ("LastLoses$Tape", "bytes", "[I", true)
  | _ => ("LastLoses$Tape", "length", "I", false)
def tyX9 : Nat → FieldType := fun k => match k with
  | 0 => .array .int
  | _ => .int
abbrev wsX90 : List Cond := u_ws RX9 TX9 2
theorem nmX9 : ∀ a, a < 2 → ∀ b, b < 2 → a ≠ b → (TX9 a).2.1 ≠ (TX9 b).2.1 := by decide +kernel
theorem tyX9_ok : ∀ k, k < 2 → parseFieldDescriptor (TX9 k).2.2.1 = some (tyX9 k) := by decide +kernel
abbrev cX9_init : ByteArray := prog_11_method_1_code
def yX9_init : MethodName := ⟨RX9, "<init>", "()V"⟩
abbrev cX9_hasRoom : ByteArray := prog_11_method_2_code
def yX9_hasRoom : MethodName := ⟨RX9, "hasRoom", "()Z"⟩
abbrev cX9_append : ByteArray := prog_11_method_3_code
def yX9_append : MethodName := ⟨RX9, "append", "(I)V"⟩
abbrev cX9_cutTo : ByteArray := prog_11_method_4_code
def yX9_cutTo : MethodName := ⟨RX9, "cutTo", "(I)Z"⟩
abbrev cX9_size : ByteArray := prog_11_method_5_code
def yX9_size : MethodName := ⟨RX9, "size", "()I"⟩
abbrev cX9_at : ByteArray := prog_11_method_6_code
def yX9_at : MethodName := ⟨RX9, "at", "(I)I"⟩
def RX10 : String := "LastLoses$Values"
def TX10 : u_T := fun k => match k with
  | 0 => ("LastLoses$Values", "positions", "LLastLoses$Positions;", true)
  | 1 => ("LastLoses$Values", "rules", "LLastLoses$Rules;", true)
  | 2 => ("LastLoses$Values", "options", "LLastLoses$Options;", true)
  | 3 => ("LastLoses$Values", "outcomes", "[I", true)
  | 4 => ("LastLoses$Values", "genera", "[I", true)
  | 5 => ("LastLoses$Values", "seen", "[I", true)
  | 6 => ("LastLoses$Values", "marks", "[J", true)
  | 7 => ("LastLoses$Values", "outcomesKnown", "I", false)
  | _ => ("LastLoses$Values", "generaKnown", "I", false)
def tyX10 : Nat → FieldType := fun k => match k with
  | 0 => .object "LastLoses$Positions"
  | 1 => .object "LastLoses$Rules"
  | 2 => .object "LastLoses$Options"
  | 3 => .array .int
  | 4 => .array .int
  | 5 => .array .int
  | 6 => .array .long
  | 7 => .int
  | _ => .int
abbrev wsX100 : List Cond := u_ws RX10 TX10 9
theorem nmX10 : ∀ a, a < 9 → ∀ b, b < 9 → a ≠ b → (TX10 a).2.1 ≠ (TX10 b).2.1 := by decide +kernel
theorem tyX10_ok : ∀ k, k < 9 → parseFieldDescriptor (TX10 k).2.2.1 = some (tyX10 k) := by decide +kernel
abbrev cX10_init : ByteArray := prog_12_method_1_code
def yX10_init : MethodName := ⟨RX10, "<init>", "(LLastLoses$Positions;LLastLoses$Rules;)V"⟩
abbrev cX10_forget : ByteArray := prog_12_method_2_code
def yX10_forget : MethodName := ⟨RX10, "forget", "()V"⟩
abbrev cX10_settleTo : ByteArray := prog_12_method_3_code
def yX10_settleTo : MethodName := ⟨RX10, "settleTo", "(I)V"⟩
abbrev cX10_judgeOptions : ByteArray := prog_12_method_4_code
def yX10_judgeOptions : MethodName := ⟨RX10, "judgeOptions", "()I"⟩
abbrev cX10_loses : ByteArray := prog_12_method_5_code
def yX10_loses : MethodName := ⟨RX10, "loses", "(I)Z"⟩
abbrev cX10_remoteOf : ByteArray := prog_12_method_6_code
def yX10_remoteOf : MethodName := ⟨RX10, "remoteOf", "(I)I"⟩
abbrev cX10_countLosers : ByteArray := prog_12_method_7_code
def yX10_countLosers : MethodName := ⟨RX10, "countLosers", "(I)I"⟩
abbrev cX10_firstLoser : ByteArray := prog_12_method_8_code
def yX10_firstLoser : MethodName := ⟨RX10, "firstLoser", "(I)I"⟩
abbrev cX10_settleGeneraTo : ByteArray := prog_12_method_9_code
def yX10_settleGeneraTo : MethodName := ⟨RX10, "settleGeneraTo", "(I)V"⟩
abbrev cX10_judgeGenera : ByteArray := prog_12_method_10_code
def yX10_judgeGenera : MethodName := ⟨RX10, "judgeGenera", "()I"⟩
abbrev cX10_genusOf : ByteArray := prog_12_method_11_code
def yX10_genusOf : MethodName := ⟨RX10, "genusOf", "(II)I"⟩
abbrev cX10_isTame : ByteArray := prog_12_method_12_code
def yX10_isTame : MethodName := ⟨RX10, "isTame", "(I)Z"⟩
abbrev cX10_nimberOf : ByteArray := prog_12_method_13_code
def yX10_nimberOf : MethodName := ⟨RX10, "nimberOf", "(I)I"⟩
abbrev cX10_isLikeNim : ByteArray := prog_12_method_14_code
def yX10_isLikeNim : MethodName := ⟨RX10, "isLikeNim", "(I)Z"⟩
abbrev cX10_lengthOf : ByteArray := prog_12_method_15_code
def yX10_lengthOf : MethodName := ⟨RX10, "lengthOf", "(IZ)I"⟩
abbrev cX10_countWinning : ByteArray := prog_12_method_16_code
def yX10_countWinning : MethodName := ⟨RX10, "countWinning", "(I)I"⟩
abbrev cX10_stateOf : ByteArray := prog_12_method_17_code
def yX10_stateOf : MethodName := ⟨RX10, "stateOf", "(II)I"⟩
abbrev cX10_hasMark : ByteArray := prog_12_method_18_code
def yX10_hasMark : MethodName := ⟨RX10, "hasMark", "(I)Z"⟩
abbrev cX10_markOf : ByteArray := prog_12_method_19_code
def yX10_markOf : MethodName := ⟨RX10, "markOf", "(I)J"⟩
abbrev cX10_testsOf : ByteArray := prog_12_method_20_code
def yX10_testsOf : MethodName := ⟨RX10, "testsOf", "(I)J"⟩
abbrev cX10_firstBetween : ByteArray := prog_12_method_21_code
def yX10_firstBetween : MethodName := ⟨RX10, "firstBetween", "(II)I"⟩
abbrev cX10_firstAlike : ByteArray := prog_12_method_22_code
def yX10_firstAlike : MethodName := ⟨RX10, "firstAlike", "(I)I"⟩
def RX11 : String := "LastLoses"
def TX11 : u_T := fun k => match k with
  | 0 => ("LastLoses", "tape", "LLastLoses$Tape;", true)
  | 1 => ("LastLoses", "reader", "LLastLoses$Reader;", true)
  | 2 => ("LastLoses", "board", "LLastLoses$Board;", false)
  | _ => ("LastLoses", "x", "I", false)
def tyX11 : Nat → FieldType := fun k => match k with
  | 0 => .object "LastLoses$Tape"
  | 1 => .object "LastLoses$Reader"
  | 2 => .object "LastLoses$Board"
  | _ => .int
abbrev wsX110 : List Cond := u_ws RX11 TX11 4
theorem nmX11 : ∀ a, a < 4 → ∀ b, b < 4 → a ≠ b → (TX11 a).2.1 ≠ (TX11 b).2.1 := by decide +kernel
theorem tyX11_ok : ∀ k, k < 4 → parseFieldDescriptor (TX11 k).2.2.1 = some (tyX11 k) := by decide +kernel
abbrev cX11_init : ByteArray := prog_1_method_1_code
def yX11_init : MethodName := ⟨RX11, "<init>", "()V"⟩
abbrev cX11_feed : ByteArray := prog_1_method_2_code
def yX11_feed : MethodName := ⟨RX11, "feed", "(IIIII)I"⟩
abbrev cX11_end : ByteArray := prog_1_method_3_code
def yX11_end : MethodName := ⟨RX11, "end", "(I)I"⟩
abbrev cX11_game : ByteArray := prog_1_method_4_code
def yX11_game : MethodName := ⟨RX11, "game", "()I"⟩
abbrev cX11_moves : ByteArray := prog_1_method_5_code
def yX11_moves : MethodName := ⟨RX11, "moves", "(I)I"⟩
abbrev cX11_option : ByteArray := prog_1_method_6_code
def yX11_option : MethodName := ⟨RX11, "option", "(III)I"⟩
abbrev cX11_nimber : ByteArray := prog_1_method_7_code
def yX11_nimber : MethodName := ⟨RX11, "nimber", "(I)I"⟩
abbrev cX11_period : ByteArray := prog_1_method_8_code
def yX11_period : MethodName := ⟨RX11, "period", "(I)I"⟩
abbrev cX11_odd : ByteArray := prog_1_method_9_code
def yX11_odd : MethodName := ⟨RX11, "odd", "(I)I"⟩
abbrev cX11_wild : ByteArray := prog_1_method_10_code
def yX11_wild : MethodName := ⟨RX11, "wild", "(I)I"⟩
abbrev cX11_put : ByteArray := prog_1_method_11_code
def yX11_put : MethodName := ⟨RX11, "put", "(I)I"⟩
abbrev cX11_move : ByteArray := prog_1_method_12_code
def yX11_move : MethodName := ⟨RX11, "move", "(III)I"⟩
abbrev cX11_reply : ByteArray := prog_1_method_13_code
def yX11_reply : MethodName := ⟨RX11, "reply", "()I"⟩
abbrev cX11_clear : ByteArray := prog_1_method_14_code
def yX11_clear : MethodName := ⟨RX11, "clear", "()I"⟩
abbrev cX11_undo : ByteArray := prog_1_method_15_code
def yX11_undo : MethodName := ⟨RX11, "undo", "()I"⟩
abbrev cX11_hand : ByteArray := prog_1_method_16_code
def yX11_hand : MethodName := ⟨RX11, "hand", "(I)I"⟩
abbrev cX11_state : ByteArray := prog_1_method_17_code
def yX11_state : MethodName := ⟨RX11, "state", "(I)I"⟩
abbrev cX11_genus : ByteArray := prog_1_method_18_code
def yX11_genus : MethodName := ⟨RX11, "genus", "(I)I"⟩
abbrev cX11_line : ByteArray := prog_1_method_19_code
def yX11_line : MethodName := ⟨RX11, "line", "(I)I"⟩
abbrev cX11_losers : ByteArray := prog_1_method_20_code
def yX11_losers : MethodName := ⟨RX11, "losers", "(II)I"⟩
abbrev cX11_keep : ByteArray := prog_1_method_21_code
def yX11_keep : MethodName := ⟨RX11, "keep", "(I)I"⟩
abbrev cX11_apart : ByteArray := prog_1_method_22_code
def yX11_apart : MethodName := ⟨RX11, "apart", "(II)I"⟩
abbrev cX11_simplest : ByteArray := prog_1_method_23_code
def yX11_simplest : MethodName := ⟨RX11, "simplest", "(I)I"⟩
abbrev cX11_answers : ByteArray := prog_1_method_24_code
def yX11_answers : MethodName := ⟨RX11, "answers", "(I)I"⟩
abbrev cX11_draws : ByteArray := prog_1_method_25_code
def yX11_draws : MethodName := ⟨RX11, "draws", "(I)I"⟩
abbrev cX11_games : ByteArray := prog_1_method_26_code
def yX11_games : MethodName := ⟨RX11, "games", "(II)I"⟩
abbrev cX11_elements : ByteArray := prog_1_method_27_code
def yX11_elements : MethodName := ⟨RX11, "elements", "(I)I"⟩
abbrev cX11_word : ByteArray := prog_1_method_28_code
def yX11_word : MethodName := ⟨RX11, "word", "(III)I"⟩
abbrev cX11_next : ByteArray := prog_1_method_29_code
def yX11_next : MethodName := ⟨RX11, "next", "(III)I"⟩
abbrev cX11_times : ByteArray := prog_1_method_30_code
def yX11_times : MethodName := ⟨RX11, "times", "(III)I"⟩
abbrev cX11_sets : ByteArray := prog_1_method_31_code
def yX11_sets : MethodName := ⟨RX11, "sets", "(II)I"⟩
abbrev cX11_pairs : ByteArray := prog_1_method_32_code
def yX11_pairs : MethodName := ⟨RX11, "pairs", "(I)I"⟩
abbrev cX11_proved : ByteArray := prog_1_method_33_code
def yX11_proved : MethodName := ⟨RX11, "proved", "(I)I"⟩
abbrev cX11_stays : ByteArray := prog_1_method_34_code
def yX11_stays : MethodName := ⟨RX11, "stays", "(I)I"⟩
abbrev cX11_power : ByteArray := prog_1_method_35_code
def yX11_power : MethodName := ⟨RX11, "power", "(III)I"⟩
abbrev cX11_place : ByteArray := prog_1_method_36_code
def yX11_place : MethodName := ⟨RX11, "place", "(I)I"⟩
abbrev cX11_count : ByteArray := prog_1_method_37_code
def yX11_count : MethodName := ⟨RX11, "count", "(I)I"⟩
abbrev cX11_isHeap : ByteArray := prog_1_method_38_code
def yX11_isHeap : MethodName := ⟨RX11, "isHeap", "(I)Z"⟩
abbrev cX11_isHeapOrAll : ByteArray := prog_1_method_39_code
def yX11_isHeapOrAll : MethodName := ⟨RX11, "isHeapOrAll", "(I)Z"⟩
abbrev cX11_tallyOrNoSuch : ByteArray := prog_1_method_40_code
def yX11_tallyOrNoSuch : MethodName := ⟨RX11, "tallyOrNoSuch", "(II)I"⟩
abbrev cX11_quotientOf : ByteArray := prog_1_method_41_code
def yX11_quotientOf : MethodName := ⟨RX11, "quotientOf", "(I)LLastLoses$Quotient;"⟩
abbrev cX11_leastMissing : ByteArray := prog_1_method_42_code
def yX11_leastMissing : MethodName := ⟨RX11, "leastMissing", "(I)I"⟩
def RX12 : String := "LastLosesModel"
def TX12 : u_T := fun k => match k with
  | 0 => ("LastLosesModel", "tape", "[B", true)
  | 1 => ("LastLosesModel", "taped", "I", false)
  | 2 => ("LastLosesModel", "at", "I", false)
  | 3 => ("LastLosesModel", "wrong", "I", false)
  | 4 => ("LastLosesModel", "number", "I", false)
  | 5 => ("LastLosesModel", "words", "[B", true)
  | 6 => ("LastLosesModel", "readDigits", "I", false)
  | 7 => ("LastLosesModel", "readLines", "I", false)
  | 8 => ("LastLosesModel", "readCode", "[I", true)
  | 9 => ("LastLosesModel", "readAlso", "[Z", true)
  | 10 => ("LastLosesModel", "readNever", "[Z", true)
  | 11 => ("LastLosesModel", "digits", "I", false)
  | 12 => ("LastLosesModel", "lines", "I", false)
  | 13 => ("LastLosesModel", "isGame", "Z", false)
  | 14 => ("LastLosesModel", "code", "[I", true)
  | 15 => ("LastLosesModel", "also", "[Z", true)
  | 16 => ("LastLosesModel", "never", "[Z", true)
  | 17 => ("LastLosesModel", "linesRead", "I", false)
  | 18 => ("LastLosesModel", "moveOf", "[I", true)
  | 19 => ("LastLosesModel", "moveMany", "[I", true)
  | 20 => ("LastLosesModel", "nimberOf", "[I", true)
  | 21 => ("LastLosesModel", "isTaken", "[Z", true)
  | 22 => ("LastLosesModel", "ways", "[I", true)
  | 23 => ("LastLosesModel", "begins", "[I", true)
  | 24 => ("LastLosesModel", "all", "I", false)
  | 25 => ("LastLosesModel", "loses", "[Z", true)
  | 26 => ("LastLosesModel", "remote", "[I", true)
  | 27 => ("LastLosesModel", "fewest", "[I", true)
  | 28 => ("LastLosesModel", "most", "[I", true)
  | 29 => ("LastLosesModel", "back", "[I", true)
  | 30 => ("LastLosesModel", "here", "[I", true)
  | 31 => ("LastLosesModel", "to", "[I", true)
  | 32 => ("LastLosesModel", "toMany", "I", false)
  | 33 => ("LastLosesModel", "twoMany", "[I", true)
  | 34 => ("LastLosesModel", "twoTo", "[I", true)
  | 35 => ("LastLosesModel", "hand", "[I", true)
  | 36 => ("LastLosesModel", "was", "[I", true)
  | 37 => ("LastLosesModel", "undone", "I", false)
  | 38 => ("LastLosesModel", "walk", "[I", true)
  | 39 => ("LastLosesModel", "kept", "[I", true)
  | 40 => ("LastLosesModel", "keptSet", "I", false)
  | 41 => ("LastLosesModel", "other", "[I", true)
  | 42 => ("LastLosesModel", "test", "[I", true)
  | 43 => ("LastLosesModel", "x", "I", false)
  | 44 => ("LastLosesModel", "drawX", "J", false)
  | 45 => ("LastLosesModel", "isLaid", "[Z", true)
  | 46 => ("LastLosesModel", "elementMany", "[I", true)
  | 47 => ("LastLosesModel", "wordOf", "[I", true)
  | 48 => ("LastLosesModel", "nextOf", "[I", true)
  | 49 => ("LastLosesModel", "lostOf", "[I", true)
  | 50 => ("LastLosesModel", "pairMany", "[I", true)
  | 51 => ("LastLosesModel", "provedAs", "[I", true)
  | 52 => ("LastLosesModel", "marks", "[J", true)
  | 53 => ("LastLosesModel", "tryWord", "[I", true)
  | 54 => ("LastLosesModel", "pairElement", "[I", true)
  | 55 => ("LastLosesModel", "pairSet", "[I", true)
  | _ => ("LastLosesModel", "cameAs", "[I", true)
def tyX12 : Nat → FieldType := fun k => match k with
  | 0 => .array .byte
  | 1 => .int
  | 2 => .int
  | 3 => .int
  | 4 => .int
  | 5 => .array .byte
  | 6 => .int
  | 7 => .int
  | 8 => .array .int
  | 9 => .array .boolean
  | 10 => .array .boolean
  | 11 => .int
  | 12 => .int
  | 13 => .boolean
  | 14 => .array .int
  | 15 => .array .boolean
  | 16 => .array .boolean
  | 17 => .int
  | 18 => .array .int
  | 19 => .array .int
  | 20 => .array .int
  | 21 => .array .boolean
  | 22 => .array .int
  | 23 => .array .int
  | 24 => .int
  | 25 => .array .boolean
  | 26 => .array .int
  | 27 => .array .int
  | 28 => .array .int
  | 29 => .array .int
  | 30 => .array .int
  | 31 => .array .int
  | 32 => .int
  | 33 => .array .int
  | 34 => .array .int
  | 35 => .array .int
  | 36 => .array .int
  | 37 => .int
  | 38 => .array .int
  | 39 => .array .int
  | 40 => .int
  | 41 => .array .int
  | 42 => .array .int
  | 43 => .int
  | 44 => .long
  | 45 => .array .boolean
  | 46 => .array .int
  | 47 => .array .int
  | 48 => .array .int
  | 49 => .array .int
  | 50 => .array .int
  | 51 => .array .int
  | 52 => .array .long
  | 53 => .array .int
  | 54 => .array .int
  | 55 => .array .int
  | _ => .array .int
abbrev wsX120 : List Cond := u_ws RX12 TX12 57
theorem nmX12 : ∀ a, a < 57 → ∀ b, b < 57 → a ≠ b → (TX12 a).2.1 ≠ (TX12 b).2.1 := by decide +kernel
theorem tyX12_ok : ∀ k, k < 57 → parseFieldDescriptor (TX12 k).2.2.1 = some (tyX12 k) := by decide +kernel
abbrev cX12_init : ByteArray := prog_14_method_1_code
def yX12_init : MethodName := ⟨RX12, "<init>", "()V"⟩
abbrev cX12_isIn : ByteArray := prog_14_method_2_code
def yX12_isIn : MethodName := ⟨RX12, "isIn", "(JJJ)Z"⟩
abbrev cX12_has : ByteArray := prog_14_method_3_code
def yX12_has : MethodName := ⟨RX12, "has", "(II)Z"⟩
abbrev cX12_feed : ByteArray := prog_14_method_4_code
def yX12_feed : MethodName := ⟨RX12, "feed", "(IIIII)I"⟩
abbrev cX12_end : ByteArray := prog_14_method_5_code
def yX12_end : MethodName := ⟨RX12, "end", "(I)I"⟩
abbrev cX12_fails : ByteArray := prog_14_method_6_code
def yX12_fails : MethodName := ⟨RX12, "fails", "(II)Z"⟩
abbrev cX12_byteAt : ByteArray := prog_14_method_7_code
def yX12_byteAt : MethodName := ⟨RX12, "byteAt", "(I)I"⟩
abbrev cX12_next : ByteArray := prog_14_method_8_code
def yX12_next : MethodName := ⟨RX12, "next", "()I"⟩
abbrev cX12_isDigit : ByteArray := prog_14_method_9_code
def yX12_isDigit : MethodName := ⟨RX12, "isDigit", "(I)Z"⟩
abbrev cX12_isLetter : ByteArray := prog_14_method_10_code
def yX12_isLetter : MethodName := ⟨RX12, "isLetter", "(I)Z"⟩
abbrev cX12_takesSign : ByteArray := prog_14_method_11_code
def yX12_takesSign : MethodName := ⟨RX12, "takesSign", "(I)Z"⟩
abbrev cX12_wordHere : ByteArray := prog_14_method_12_code
def yX12_wordHere : MethodName := ⟨RX12, "wordHere", "()I"⟩
abbrev cX12_passWord : ByteArray := prog_14_method_13_code
def yX12_passWord : MethodName := ⟨RX12, "passWord", "()V"⟩
abbrev cX12_reads : ByteArray := prog_14_method_14_code
def yX12_reads : MethodName := ⟨RX12, "reads", "(II)Z"⟩
abbrev cX12_readsOctal : ByteArray := prog_14_method_15_code
def yX12_readsOctal : MethodName := ⟨RX12, "readsOctal", "()Z"⟩
abbrev cX12_readsAlso : ByteArray := prog_14_method_16_code
def yX12_readsAlso : MethodName := ⟨RX12, "readsAlso", "()Z"⟩
abbrev cX12_readsNever : ByteArray := prog_14_method_17_code
def yX12_readsNever : MethodName := ⟨RX12, "readsNever", "()Z"⟩
abbrev cX12_readsLine : ByteArray := prog_14_method_18_code
def yX12_readsLine : MethodName := ⟨RX12, "readsLine", "(I)Z"⟩
abbrev cX12_readsAll : ByteArray := prog_14_method_19_code
def yX12_readsAll : MethodName := ⟨RX12, "readsAll", "()Z"⟩
abbrev cX12_game : ByteArray := prog_14_method_20_code
def yX12_game : MethodName := ⟨RX12, "game", "()I"⟩
abbrev cX12_isByCode : ByteArray := prog_14_method_21_code
def yX12_isByCode : MethodName := ⟨RX12, "isByCode", "(III)Z"⟩
abbrev cX12_laysMoves : ByteArray := prog_14_method_22_code
def yX12_laysMoves : MethodName := ⟨RX12, "laysMoves", "()V"⟩
abbrev cX12_leastFree : ByteArray := prog_14_method_23_code
def yX12_leastFree : MethodName := ⟨RX12, "leastFree", "()I"⟩
abbrev cX12_takesNone : ByteArray := prog_14_method_24_code
def yX12_takesNone : MethodName := ⟨RX12, "takesNone", "(I)V"⟩
abbrev cX12_laysNimbers : ByteArray := prog_14_method_25_code
def yX12_laysNimbers : MethodName := ⟨RX12, "laysNimbers", "()V"⟩
abbrev cX12_countsWays : ByteArray := prog_14_method_26_code
def yX12_countsWays : MethodName := ⟨RX12, "countsWays", "()V"⟩
abbrev cX12_beansOf : ByteArray := prog_14_method_27_code
def yX12_beansOf : MethodName := ⟨RX12, "beansOf", "([I)I"⟩
abbrev cX12_numberOf : ByteArray := prog_14_method_28_code
def yX12_numberOf : MethodName := ⟨RX12, "numberOf", "([I)I"⟩
abbrev cX12_laysHeaps : ByteArray := prog_14_method_29_code
def yX12_laysHeaps : MethodName := ⟨RX12, "laysHeaps", "(I[I)V"⟩
abbrev cX12_puts : ByteArray := prog_14_method_30_code
def yX12_puts : MethodName := ⟨RX12, "puts", "([III)V"⟩
abbrev cX12_changes : ByteArray := prog_14_method_31_code
def yX12_changes : MethodName := ⟨RX12, "changes", "([IIII)V"⟩
abbrev cX12_behind : ByteArray := prog_14_method_32_code
def yX12_behind : MethodName := ⟨RX12, "behind", "([III)I"⟩
abbrev cX12_gathersBehind : ByteArray := prog_14_method_33_code
def yX12_gathersBehind : MethodName := ⟨RX12, "gathersBehind", "()V"⟩
abbrev cX12_laysPositions : ByteArray := prog_14_method_34_code
def yX12_laysPositions : MethodName := ⟨RX12, "laysPositions", "()V"⟩
abbrev cX12_laysOne : ByteArray := prog_14_method_35_code
def yX12_laysOne : MethodName := ⟨RX12, "laysOne", "(I)V"⟩
abbrev cX12_laysBack : ByteArray := prog_14_method_36_code
def yX12_laysBack : MethodName := ⟨RX12, "laysBack", "(II)V"⟩
abbrev cX12_nimberOfHeaps : ByteArray := prog_14_method_37_code
def yX12_nimberOfHeaps : MethodName := ⟨RX12, "nimberOfHeaps", "([I)I"⟩
abbrev cX12_genusOf : ByteArray := prog_14_method_38_code
def yX12_genusOf : MethodName := ⟨RX12, "genusOf", "(II)I"⟩
abbrev cX12_isTame : ByteArray := prog_14_method_39_code
def yX12_isTame : MethodName := ⟨RX12, "isTame", "(II)Z"⟩
abbrev cX12_isLikeNim : ByteArray := prog_14_method_40_code
def yX12_isLikeNim : MethodName := ⟨RX12, "isLikeNim", "(I[I)Z"⟩
abbrev cX12_firstOdd : ByteArray := prog_14_method_41_code
def yX12_firstOdd : MethodName := ⟨RX12, "firstOdd", "(Z)I"⟩
abbrev cX12_partOf : ByteArray := prog_14_method_42_code
def yX12_partOf : MethodName := ⟨RX12, "partOf", "(II)I"⟩
abbrev cX12_isHeap : ByteArray := prog_14_method_43_code
def yX12_isHeap : MethodName := ⟨RX12, "isHeap", "(I)Z"⟩
abbrev cX12_moves : ByteArray := prog_14_method_44_code
def yX12_moves : MethodName := ⟨RX12, "moves", "(I)I"⟩
abbrev cX12_option : ByteArray := prog_14_method_45_code
def yX12_option : MethodName := ⟨RX12, "option", "(III)I"⟩
abbrev cX12_nimber : ByteArray := prog_14_method_46_code
def yX12_nimber : MethodName := ⟨RX12, "nimber", "(I)I"⟩
abbrev cX12_isPeriod : ByteArray := prog_14_method_47_code
def yX12_isPeriod : MethodName := ⟨RX12, "isPeriod", "(II)Z"⟩
abbrev cX12_period : ByteArray := prog_14_method_48_code
def yX12_period : MethodName := ⟨RX12, "period", "(I)I"⟩
abbrev cX12_told : ByteArray := prog_14_method_49_code
def yX12_told : MethodName := ⟨RX12, "told", "(II)I"⟩
abbrev cX12_odd : ByteArray := prog_14_method_50_code
def yX12_odd : MethodName := ⟨RX12, "odd", "(I)I"⟩
abbrev cX12_wild : ByteArray := prog_14_method_51_code
def yX12_wild : MethodName := ⟨RX12, "wild", "(I)I"⟩
abbrev cX12_keepsAct : ByteArray := prog_14_method_52_code
def yX12_keepsAct : MethodName := ⟨RX12, "keepsAct", "()V"⟩
abbrev cX12_handNumber : ByteArray := prog_14_method_53_code
def yX12_handNumber : MethodName := ⟨RX12, "handNumber", "()I"⟩
abbrev cX12_put : ByteArray := prog_14_method_54_code
def yX12_put : MethodName := ⟨RX12, "put", "(I)I"⟩
abbrev cX12_isMove : ByteArray := prog_14_method_55_code
def yX12_isMove : MethodName := ⟨RX12, "isMove", "(III)Z"⟩
abbrev cX12_move : ByteArray := prog_14_method_56_code
def yX12_move : MethodName := ⟨RX12, "move", "(III)I"⟩
abbrev cX12_firstReply : ByteArray := prog_14_method_57_code
def yX12_firstReply : MethodName := ⟨RX12, "firstReply", "([I)I"⟩
abbrev cX12_reply : ByteArray := prog_14_method_58_code
def yX12_reply : MethodName := ⟨RX12, "reply", "()I"⟩
abbrev cX12_clear : ByteArray := prog_14_method_59_code
def yX12_clear : MethodName := ⟨RX12, "clear", "()I"⟩
abbrev cX12_undo : ByteArray := prog_14_method_60_code
def yX12_undo : MethodName := ⟨RX12, "undo", "()I"⟩
abbrev cX12_hand : ByteArray := prog_14_method_61_code
def yX12_hand : MethodName := ⟨RX12, "hand", "(I)I"⟩
abbrev cX12_goodMoves : ByteArray := prog_14_method_62_code
def yX12_goodMoves : MethodName := ⟨RX12, "goodMoves", "()I"⟩
abbrev cX12_state : ByteArray := prog_14_method_63_code
def yX12_state : MethodName := ⟨RX12, "state", "(I)I"⟩
abbrev cX12_genus : ByteArray := prog_14_method_64_code
def yX12_genus : MethodName := ⟨RX12, "genus", "(I)I"⟩
abbrev cX12_playedOn : ByteArray := prog_14_method_65_code
def yX12_playedOn : MethodName := ⟨RX12, "playedOn", "()I"⟩
abbrev cX12_line : ByteArray := prog_14_method_66_code
def yX12_line : MethodName := ⟨RX12, "line", "(I)I"⟩
abbrev cX12_losers : ByteArray := prog_14_method_67_code
def yX12_losers : MethodName := ⟨RX12, "losers", "(II)I"⟩
abbrev cX12_keep : ByteArray := prog_14_method_68_code
def yX12_keep : MethodName := ⟨RX12, "keep", "(I)I"⟩
abbrev cX12_losesBeside : ByteArray := prog_14_method_69_code
def yX12_losesBeside : MethodName := ⟨RX12, "losesBeside", "([I)Z"⟩
abbrev cX12_apartBy : ByteArray := prog_14_method_70_code
def yX12_apartBy : MethodName := ⟨RX12, "apartBy", "([I[I)I"⟩
abbrev cX12_apart : ByteArray := prog_14_method_71_code
def yX12_apart : MethodName := ⟨RX12, "apart", "(II)I"⟩
abbrev cX12_simplest : ByteArray := prog_14_method_72_code
def yX12_simplest : MethodName := ⟨RX12, "simplest", "(I)I"⟩
abbrev cX12_answers : ByteArray := prog_14_method_73_code
def yX12_answers : MethodName := ⟨RX12, "answers", "(I)I"⟩
abbrev cX12_draws : ByteArray := prog_14_method_74_code
def yX12_draws : MethodName := ⟨RX12, "draws", "(I)I"⟩
abbrev cX12_draw : ByteArray := prog_14_method_75_code
def yX12_draw : MethodName := ⟨RX12, "draw", "(I)I"⟩
abbrev cX12_movesOfWalk : ByteArray := prog_14_method_76_code
def yX12_movesOfWalk : MethodName := ⟨RX12, "movesOfWalk", "()I"⟩
abbrev cX12_goesBy : ByteArray := prog_14_method_77_code
def yX12_goesBy : MethodName := ⟨RX12, "goesBy", "(I)V"⟩
abbrev cX12_games : ByteArray := prog_14_method_78_code
def yX12_games : MethodName := ⟨RX12, "games", "(II)I"⟩
abbrev cX12_placeOf : ByteArray := prog_14_method_79_code
def yX12_placeOf : MethodName := ⟨RX12, "placeOf", "(III)I"⟩
abbrev cX12_markOf : ByteArray := prog_14_method_80_code
def yX12_markOf : MethodName := ⟨RX12, "markOf", "(I)J"⟩
abbrev cX12_takesWord : ByteArray := prog_14_method_81_code
def yX12_takesWord : MethodName := ⟨RX12, "takesWord", "(II)V"⟩
abbrev cX12_addsElement : ByteArray := prog_14_method_82_code
def yX12_addsElement : MethodName := ⟨RX12, "addsElement", "(IJ)V"⟩
abbrev cX12_elementBy : ByteArray := prog_14_method_83_code
def yX12_elementBy : MethodName := ⟨RX12, "elementBy", "(IJ)I"⟩
abbrev cX12_findsElements : ByteArray := prog_14_method_84_code
def yX12_findsElements : MethodName := ⟨RX12, "findsElements", "(I)Z"⟩
abbrev cX12_nextBy : ByteArray := prog_14_method_85_code
def yX12_nextBy : MethodName := ⟨RX12, "nextBy", "(III)I"⟩
abbrev cX12_timesOf : ByteArray := prog_14_method_86_code
def yX12_timesOf : MethodName := ⟨RX12, "timesOf", "(III)I"⟩
abbrev cX12_isSteady : ByteArray := prog_14_method_87_code
def yX12_isSteady : MethodName := ⟨RX12, "isSteady", "(I)Z"⟩
abbrev cX12_setBy : ByteArray := prog_14_method_88_code
def yX12_setBy : MethodName := ⟨RX12, "setBy", "(IIII)I"⟩
abbrev cX12_pairAt : ByteArray := prog_14_method_89_code
def yX12_pairAt : MethodName := ⟨RX12, "pairAt", "(III)I"⟩
abbrev cX12_findsPairs : ByteArray := prog_14_method_90_code
def yX12_findsPairs : MethodName := ⟨RX12, "findsPairs", "(I)I"⟩
abbrev cX12_arePairsRight : ByteArray := prog_14_method_91_code
def yX12_arePairsRight : MethodName := ⟨RX12, "arePairsRight", "(I)Z"⟩
abbrev cX12_laysQuotient : ByteArray := prog_14_method_92_code
def yX12_laysQuotient : MethodName := ⟨RX12, "laysQuotient", "(I)V"⟩
abbrev cX12_isQuotient : ByteArray := prog_14_method_93_code
def yX12_isQuotient : MethodName := ⟨RX12, "isQuotient", "(I)Z"⟩
abbrev cX12_isKnown : ByteArray := prog_14_method_94_code
def yX12_isKnown : MethodName := ⟨RX12, "isKnown", "(I)Z"⟩
abbrev cX12_isElement : ByteArray := prog_14_method_95_code
def yX12_isElement : MethodName := ⟨RX12, "isElement", "(II)Z"⟩
abbrev cX12_elements : ByteArray := prog_14_method_96_code
def yX12_elements : MethodName := ⟨RX12, "elements", "(I)I"⟩
abbrev cX12_word : ByteArray := prog_14_method_97_code
def yX12_word : MethodName := ⟨RX12, "word", "(III)I"⟩
abbrev cX12_next_ : ByteArray := prog_14_method_98_code
def yX12_next_ : MethodName := ⟨RX12, "next", "(III)I"⟩
abbrev cX12_times : ByteArray := prog_14_method_99_code
def yX12_times : MethodName := ⟨RX12, "times", "(III)I"⟩
abbrev cX12_comesOf : ByteArray := prog_14_method_100_code
def yX12_comesOf : MethodName := ⟨RX12, "comesOf", "(II)I"⟩
abbrev cX12_sets : ByteArray := prog_14_method_101_code
def yX12_sets : MethodName := ⟨RX12, "sets", "(II)I"⟩
abbrev cX12_pairs : ByteArray := prog_14_method_102_code
def yX12_pairs : MethodName := ⟨RX12, "pairs", "(I)I"⟩
abbrev cX12_proved : ByteArray := prog_14_method_103_code
def yX12_proved : MethodName := ⟨RX12, "proved", "(I)I"⟩
abbrev cX12_areAlike : ByteArray := prog_14_method_104_code
def yX12_areAlike : MethodName := ⟨RX12, "areAlike", "(II)Z"⟩
abbrev cX12_stays : ByteArray := prog_14_method_105_code
def yX12_stays : MethodName := ⟨RX12, "stays", "(I)I"⟩
abbrev cX12_power : ByteArray := prog_14_method_106_code
def yX12_power : MethodName := ⟨RX12, "power", "(III)I"⟩
abbrev cX12_place : ByteArray := prog_14_method_107_code
def yX12_place : MethodName := ⟨RX12, "place", "(I)I"⟩
abbrev cX12_count : ByteArray := prog_14_method_108_code
def yX12_count : MethodName := ⟨RX12, "count", "(I)I"⟩
def RJx145de : String := "java/io/Serializable"
def RJx9f9b0 : String := "java/lang/CharSequence"
def RJxb160c : String := "java/lang/Comparable"
def RJ9 : String := "java/lang/Math"
abbrev cJ9_max_7cf53 : ByteArray := prog_15_method_65_code
def yJ9_max_7cf53 : MethodName := ⟨RJ9, "max", "(II)I"⟩
abbrev cJ9_min_7cf53 : ByteArray := prog_15_method_69_code
def yJ9_min_7cf53 : MethodName := ⟨RJ9, "min", "(II)I"⟩
def RJ0 : String := "java/lang/String"
abbrev cJ0_length_8abf5 : ByteArray := prog_16_method_54_code
def yJ0_length_8abf5 : MethodName := ⟨RJ0, "length", "()I"⟩
abbrev cJ0_charAt_5068e : ByteArray := prog_16_method_56_code
def yJ0_charAt_5068e : MethodName := ⟨RJ0, "charAt", "(I)C"⟩
abbrev cJ0_coder_7d493 : ByteArray := prog_16_method_152_code
def yJ0_coder_7d493 : MethodName := ⟨RJ0, "coder", "()B"⟩
abbrev cJ0_isLatin1_aae02 : ByteArray := prog_16_method_154_code
def yJ0_isLatin1_aae02 : MethodName := ⟨RJ0, "isLatin1", "()Z"⟩
abbrev cJ0_checkIndex_df160 : ByteArray := prog_16_method_155_code
def yJ0_checkIndex_df160 : MethodName := ⟨RJ0, "checkIndex", "(II)V"⟩
def RJ1 : String := "java/lang/StringLatin1"
abbrev cJ1_charAt_3b067 : ByteArray := prog_17_method_2_code
def yJ1_charAt_3b067 : MethodName := ⟨RJ1, "charAt", "([BI)C"⟩
def RJ2 : String := "java/lang/StringUTF16"
abbrev cJ2_getChar_3b067 : ByteArray := prog_18_method_5_code
def yJ2_getChar_3b067 : MethodName := ⟨RJ2, "getChar", "([BI)C"⟩
abbrev cJ2_length_9d52b : ByteArray := prog_18_method_6_code
def yJ2_length_9d52b : MethodName := ⟨RJ2, "length", "([B)I"⟩
abbrev cJ2_charAt_3b067 : ByteArray := prog_18_method_83_code
def yJ2_charAt_3b067 : MethodName := ⟨RJ2, "charAt", "([BI)C"⟩
abbrev cJ2_checkIndex_2214a : ByteArray := prog_18_method_91_code
def yJ2_checkIndex_2214a : MethodName := ⟨RJ2, "checkIndex", "(I[B)V"⟩
def RJ10 : String := "java/lang/System"
def RJxfd54e : String := "java/lang/constant/Constable"
def RJx3cf43 : String := "java/lang/constant/ConstantDesc"
def RJ7 : String := "java/util/Arrays"
abbrev cJ7_fill_d0a16 : ByteArray := prog_20_method_101_code
def yJ7_fill_d0a16 : MethodName := ⟨RJ7, "fill", "([JJ)V"⟩
abbrev cJ7_fill_53178 : ByteArray := prog_20_method_103_code
def yJ7_fill_53178 : MethodName := ⟨RJ7, "fill", "([II)V"⟩
def RJ3 : String := "jdk/internal/util/Preconditions"
abbrev cJ3_checkIndex_8e157 : ByteArray := prog_21_method_11_code
def yJ3_checkIndex_8e157 : MethodName := ⟨RJ3, "checkIndex", "(IILjava/util/function/BiFunction;)I"⟩
def RL : String := "LastLosesLaw"
abbrev cL_law : ByteArray := code
abbrev vwCl : List vw_C := [(RX0, TX0, 10), (RX1, TX1, 5), (RX2, TX2, 5), (RX3, TX3, 5), (RX4, TX4, 6), (RX5, TX5, 6), (RX6, TX6, 10), (RX7, TX7, 10), (RX8, TX8, 10), (RX9, TX9, 2), (RX10, TX10, 9), (RX11, TX11, 4), (RX12, TX12, 57)]
end
section
/-! The small machine: values, states, shapes of cells, and one run of instructions as a function. -/
/-- the numbers of a state: by the cell, then by the place in it -/
abbrev jxS : Type := Nat → Int → Int
/-- a value: a number, a long, a cell, nothing -/
abbrev jxV : Type := Int ⊕ Int ⊕ Nat ⊕ Unit
abbrev jmi (x : Int) : jxV := Sum.inl x
abbrev jml (x : Int) : jxV := Sum.inr (Sum.inl x)
abbrev jmr (k : Nat) : jxV := Sum.inr (Sum.inr (Sum.inl k))
abbrev jmn : jxV := Sum.inr (Sum.inr (Sum.inr ()))
def jI (x : Int) : Int32 := Int32.ofInt x
def jL (x : Int) : Int64 := Int64.ofInt x
def jtoV (ad : Nat → Nat) (v : jxV) : Value := match v with
  | .inl x => .int (jI x)
  | .inr (.inl x) => .long (jL x)
  | .inr (.inr (.inl k)) => .ref (ad k)
  | .inr (.inr (.inr _)) => .null
/-- a field: 0 an int, 1 a long, 2 a boolean; or a cell that never changes, or null -/
abbrev jxF : Type := Nat ⊕ Option Nat
/-- a cell: an object (its class, its fields), a row (0 int, 1 byte, 2 boolean, 3 long, 4 references; how long), a table that nobody writes -/
abbrev jxC : Type := (Nat × List jxF) ⊕ (Nat × Nat) ⊕ List Int
def jfv (ad : Nat → Nat) (f : Int → Int) (k : Nat) (fk : jxF) : Value := match fk with
  | .inl 1 => .long (jL (f k))
  | .inl _ => .int (jI (f k))
  | .inr none => .null
  | .inr (some j) => .ref (ad j)
def jrf (ad : Nat → Nat) (v : Int) : Option Nat := if v = 0 then none else some (ad v.toNat)
def jent (ad : Nat → Nat) (cy : Nat → ClassId) (c : jxC) (f : Int → Int) : va_E := match c with
  | .inl (ci, fks) => .inr (ci, fks.mapIdx (fun k fk => jfv ad f k fk))
  | .inr (.inl (3, n)) => .inl (cy 3, n, .inr (.inl (fun j => jL (f j))))
  | .inr (.inl (4, n)) => .inl (cy 4, n, .inr (.inr (.inr (.inr (fun j => jrf ad (f j))))))
  | .inr (.inl (t, n)) => .inl (cy t, n, .inl (fun j => jI (f j)))
  | .inr (.inr _) => .inr (0, [])
def jW (ad : Nat → Nat) (cy : Nat → ClassId) (sh : List jxC) (σ : jxS) : va_W := sh.mapIdx (fun i c => (ad i, jent ad cy c (σ i)))
def jup (σ : jxS) (i : Nat) (k v : Int) : jxS := fun a j => if a = i ∧ j = k then v else σ a j
theorem jW_get {ad : Nat → Nat} {cy : Nat → ClassId} {sh : List jxC} {σ : jxS} {i : Nat} {c : jxC} (h : sh[i]? = some c) : (jW ad cy sh σ)[i]? = some (ad i, jent ad cy c (σ i)) := by
  simp [jW, List.getElem?_mapIdx, h]
theorem jup_ne {σ : jxS} {i a : Nat} {k v : Int} (h : a ≠ i) : jup σ i k v a = σ a := by
  funext j
  simp [jup, h]
theorem jW_set {ad : Nat → Nat} {cy : Nat → ClassId} {sh : List jxC} {σ : jxS} {i : Nat} {c : jxC} {k v : Int} {e : va_E} (h : sh[i]? = some c) (he : e = jent ad cy c (jup σ i k v i)) : (jW ad cy sh σ).set i (ad i, e) = jW ad cy sh (jup σ i k v) := by
  subst he
  refine List.ext_getElem? fun a => ?_
  by_cases ha : a = i
  · subst ha
    have hl : a < (jW ad cy sh σ).length := by
      rw [jW, List.length_mapIdx]
      exact (List.getElem?_eq_some_iff.mp h).1
    rw [List.getElem?_set_self hl, jW_get h]
  · rw [List.getElem?_set_ne (Ne.symm ha)]
    simp [jW, List.getElem?_mapIdx, jup_ne ha]
theorem jW_D {ad : Nat → Nat} {cy : Nat → ClassId} {sh : List jxC} {σ σ' : jxS} {A : Nat → Prop} (h : va_D A (jW ad cy sh σ)) : va_D A (jW ad cy sh σ') := by
  have key : ∀ (k : Nat) (q : Nat × va_E), (jW ad cy sh σ')[k]? = some q → ∃ q0, (jW ad cy sh σ)[k]? = some q0 ∧ q0.1 = q.1 := by
    intro k q hk
    simp only [jW, List.getElem?_mapIdx, Option.map_eq_some_iff] at hk ⊢
    obtain ⟨c, hc, rfl⟩ := hk
    exact ⟨_, ⟨c, hc, rfl⟩, rfl⟩
  refine ⟨fun i j x y hi hj hxy => ?_, fun k q hk => ?_⟩
  · obtain ⟨x0, h1, h2⟩ := key i x hi
    obtain ⟨y0, h3, h4⟩ := key j y hj
    exact h.1 i j x0 y0 h1 h3 (h2.trans (hxy.trans h4.symm))
  · obtain ⟨q0, h1, h2⟩ := key k q hk
    rw [← h2]
    exact h.2 k q0 h1
/-- a number as an int of 32 bits shows it -/
def jw (x : Int) : Int := (x + 2147483648) % 4294967296 - 2147483648
def jw64 (x : Int) : Int := (x + 9223372036854775808) % 18446744073709551616 - 9223372036854775808
def jw8 (x : Int) : Int := (x + 128) % 256 - 128
theorem jw_toInt (x : Int) : (jI x).toInt = jw x := by
  simp only [jI, Int32.toInt_ofInt, Int.bmod_def, jw]
  have : (Int32.size : Int) = 4294967296 := rfl
  split <;> simp_all <;> omega
theorem jw64_toInt (x : Int) : (jL x).toInt = jw64 x := by
  simp only [jL, Int64.toInt_ofInt, Int.bmod_def, jw64]
  have : (Int64.size : Int) = 18446744073709551616 := rfl
  split <;> simp_all <;> omega
theorem jw_id {x : Int} (h1 : -2147483648 ≤ x) (h2 : x ≤ 2147483647) : jw x = x := by unfold jw; omega
theorem jI_w (x : Int) : jI (jw x) = jI x := by
  apply Int32.toInt_inj.mp
  rw [jw_toInt, jw_toInt]
  unfold jw
  omega
theorem jL_w (x : Int) : jL (jw64 x) = jL x := by
  apply Int64.toInt_inj.mp
  rw [jw64_toInt, jw64_toInt]
  unfold jw64
  omega
theorem jI_toInt (x : Int32) : jI x.toInt = x := by simp [jI]
theorem jL_toInt (x : Int64) : jL x.toInt = x := by simp [jL]
/-- the bits -/
def jand (x y : Int) : Int := (jI x &&& jI y).toInt
def jor (x y : Int) : Int := (jI x ||| jI y).toInt
def jxor (x y : Int) : Int := (jI x ^^^ jI y).toInt
def jshl (x y : Int) : Int := (jI x <<< (jI y &&& 31)).toInt
def jshr (x y : Int) : Int := (jI x >>> (jI y &&& 31)).toInt
def jushr (x y : Int) : Int := ((jI x).toUInt32 >>> ((jI y).toUInt32 &&& Int32.toUInt32 31)).toInt32.toInt
def jland (x y : Int) : Int := (jL x &&& jL y).toInt
def jlor (x y : Int) : Int := (jL x ||| jL y).toInt
def jlxor (x y : Int) : Int := (jL x ^^^ jL y).toInt
def jlshl (x y : Int) : Int := (jL x <<< ((jI y).toInt64 &&& 63)).toInt
def jlshr (x y : Int) : Int := (jL x >>> ((jI y).toInt64 &&& 63)).toInt
def jdiv (x y : Int) : Int := Int.tdiv (jw x) (jw y)
def jrem (x y : Int) : Int := Int.tmod (jw x) (jw y)
def jldiv (x y : Int) : Int := Int.tdiv (jw64 x) (jw64 y)
def jlrem (x y : Int) : Int := Int.tmod (jw64 x) (jw64 y)
def jlcmp (x y : Int) : Int := if jw64 y < jw64 x then 1 else if jw64 x = jw64 y then 0 else -1
/-- a run's end: the answer as a number (0 for none; a cell by its number, 0 null), and the state -/
abbrev jxR : Type := Int × jxS
abbrev jxL : Type := List (Option jxV)
abbrev jxK : Type := Nat → jxL → List jxV → jxS → Option jxR
/-- what a method's instructions mean: fields by pool number (class, field); calls: how many arguments, what they do; constants; statics; the answer's kind (0 none, 1 int, 2 long, 3 cell, 4 boolean); shapes -/
abbrev jxE : Type := (Nat → Option (Nat × Nat)) × (Nat → Option (Nat × Bool)) × (Nat → List jxV → jxS → (Option jxV → jxS → Option jxR) → Option jxR) × (Nat → Option jxV) × (Nat → Option Nat) × Nat × (Nat → Option jxC)
def jset1 (l : jxL) (i : Nat) (v : jxV) : jxL := match l, i with
  | [], _ => []
  | _ :: t, 0 => some v :: t
  | a :: t, 1 => (match a with
      | some (.inr (.inl _)) => none
      | x => x) :: jset1 t 0 v
  | a :: t, n + 2 => a :: jset1 t (n + 1) v
def jset2 (l : jxL) (i : Nat) (v : jxV) : jxL := match l, i with
  | [], _ => []
  | _ :: t, 0 => some v :: (match t with
      | [] => []
      | _ :: t' => none :: t')
  | a :: t, 1 => (match a with
      | some (.inr (.inl _)) => none
      | x => x) :: jset2 t 0 v
  | a :: t, n + 2 => a :: jset2 t (n + 1) v
def jget (l : jxL) (i : Nat) : Option jxV := match l, i with
  | [], _ => none
  | a :: _, 0 => a
  | _ :: t, n + 1 => jget t n
def jcat (st : List jxV) : Nat := match st with
  | [] => 0
  | .inr (.inl _) :: t => jcat t + 2
  | _ :: t => jcat t + 1
def jtgt (pc : Nat) (off : Int) (k : Nat → Option jxR) : Option jxR := match (pc : Int) + off with
  | .ofNat n => k n
  | .negSucc _ => none
def jsw (x lo : Int) (os : List Int) (kd : Option jxR) (kk : Int → Option jxR) : Option jxR := match os with
  | [] => kd
  | o :: t => if x = lo then kk o else jsw x (lo + 1) t kd kk
def jstore (t : Nat) (v : Int) : Int := match t with
  | 1 => jw8 v
  | 2 => v % 2
  | _ => v
/-- the cells of the quotients -/
def jQS : List Nat := [90, 95, 100, 105, 110, 115]
def jsel (qs : List Nat) (v : Int) (k : Nat → Option jxR) : Option jxR := match qs with
  | [] => none
  | q :: t => if v = (q : Int) then k q else jsel t v k
/-- one instruction, and what goes on behind it -/
def jx1 (E : jxE) (i : Instr) (pc : Nat) (loc : jxL) (st : List jxV) (σ : jxS) (k : jxK) : Option jxR := match i with
  | .iconst n => k (pc + 1) loc (jmi n :: st) σ
  | .bipush n => if -128 ≤ n ∧ n ≤ 127 then k (pc + 2) loc (jmi n :: st) σ else none
  | .sipush n => if -32768 ≤ n ∧ n ≤ 32767 then k (pc + 3) loc (jmi n :: st) σ else none
  | .lconst n => k (pc + 1) loc (jml (n.val : Int) :: st) σ
  | .aconst_null => k (pc + 1) loc (jmn :: st) σ
  | .ldc n => (match E.2.2.2.1 n with
    | some (.inl x) => k (pc + 2) loc (jmi x :: st) σ
    | some (.inr (.inr z)) => k (pc + 2) loc (.inr (.inr z) :: st) σ
    | _ => none)
  | .ldc2_w n => (match E.2.2.2.1 n with
    | some (.inr (.inl x)) => k (pc + 3) loc (jml x :: st) σ
    | _ => none)
  | .iload_n n => (match jget loc n.val with
    | some (.inl x) => k (pc + 1) loc (jmi x :: st) σ
    | _ => none)
  | .iload n => (match jget loc n with
    | some (.inl x) => k (pc + 2) loc (jmi x :: st) σ
    | _ => none)
  | .lload_n n => (match jget loc n.val with
    | some (.inr (.inl x)) => k (pc + 1) loc (jml x :: st) σ
    | _ => none)
  | .lload n => (match jget loc n with
    | some (.inr (.inl x)) => k (pc + 2) loc (jml x :: st) σ
    | _ => none)
  | .aload_n n => (match jget loc n.val with
    | some (.inr (.inr (.inl x))) => k (pc + 1) loc (jmr x :: st) σ
    | some (.inr (.inr (.inr _))) => k (pc + 1) loc (jmn :: st) σ
    | _ => none)
  | .aload n => (match jget loc n with
    | some (.inr (.inr (.inl x))) => k (pc + 2) loc (jmr x :: st) σ
    | some (.inr (.inr (.inr _))) => k (pc + 2) loc (jmn :: st) σ
    | _ => none)
  | .istore_n n => (match st with
    | .inl x :: r => bif Nat.ble (n.val + 1) loc.length then k (pc + 1) (jset1 loc n.val (jmi x)) r σ else none
    | _ => none)
  | .istore n => (match st with
    | .inl x :: r => bif Nat.ble (n + 1) loc.length then k (pc + 2) (jset1 loc n (jmi x)) r σ else none
    | _ => none)
  | .lstore_n n => (match st with
    | .inr (.inl x) :: r => bif Nat.ble (n.val + 2) loc.length then k (pc + 1) (jset2 loc n.val (jml x)) r σ else none
    | _ => none)
  | .lstore n => (match st with
    | .inr (.inl x) :: r => bif Nat.ble (n + 2) loc.length then k (pc + 2) (jset2 loc n (jml x)) r σ else none
    | _ => none)
  | .astore_n n => (match st with
    | .inr (.inr (.inl x)) :: r => bif Nat.ble (n.val + 1) loc.length then k (pc + 1) (jset1 loc n.val (jmr x)) r σ else none
    | _ => none)
  | .astore n => (match st with
    | .inr (.inr (.inl x)) :: r => bif Nat.ble (n + 1) loc.length then k (pc + 2) (jset1 loc n (jmr x)) r σ else none
    | _ => none)
  | .iinc n d => (match jget loc n with
    | some (.inl x) => bif Nat.ble (n + 1) loc.length then k (pc + 3) (jset1 loc n (jmi (x + d))) st σ else none
    | _ => none)
  | .iadd => (match st with
    | .inl y :: .inl x :: r => k (pc + 1) loc (jmi (x + y) :: r) σ
    | _ => none)
  | .isub => (match st with
    | .inl y :: .inl x :: r => k (pc + 1) loc (jmi (x - y) :: r) σ
    | _ => none)
  | .imul => (match st with
    | .inl y :: .inl x :: r => k (pc + 1) loc (jmi (x * y) :: r) σ
    | _ => none)
  | .idiv => (match st with
    | .inl y :: .inl x :: r => if jw y = 0 then none else k (pc + 1) loc (jmi (jdiv x y) :: r) σ
    | _ => none)
  | .irem => (match st with
    | .inl y :: .inl x :: r => if jw y = 0 then none else k (pc + 1) loc (jmi (jrem x y) :: r) σ
    | _ => none)
  | .iand => (match st with
    | .inl y :: .inl x :: r => k (pc + 1) loc (jmi (jand x y) :: r) σ
    | _ => none)
  | .ior => (match st with
    | .inl y :: .inl x :: r => k (pc + 1) loc (jmi (jor x y) :: r) σ
    | _ => none)
  | .ixor => (match st with
    | .inl y :: .inl x :: r => k (pc + 1) loc (jmi (jxor x y) :: r) σ
    | _ => none)
  | .ishl => (match st with
    | .inl y :: .inl x :: r => k (pc + 1) loc (jmi (jshl x y) :: r) σ
    | _ => none)
  | .ishr => (match st with
    | .inl y :: .inl x :: r => k (pc + 1) loc (jmi (jshr x y) :: r) σ
    | _ => none)
  | .iushr => (match st with
    | .inl y :: .inl x :: r => k (pc + 1) loc (jmi (jushr x y) :: r) σ
    | _ => none)
  | .ladd => (match st with
    | .inr (.inl y) :: .inr (.inl x) :: r => k (pc + 1) loc (jml (x + y) :: r) σ
    | _ => none)
  | .lmul => (match st with
    | .inr (.inl y) :: .inr (.inl x) :: r => k (pc + 1) loc (jml (x * y) :: r) σ
    | _ => none)
  | .ldiv => (match st with
    | .inr (.inl y) :: .inr (.inl x) :: r => if jw64 y = 0 then none else k (pc + 1) loc (jml (jldiv x y) :: r) σ
    | _ => none)
  | .lrem => (match st with
    | .inr (.inl y) :: .inr (.inl x) :: r => if jw64 y = 0 then none else k (pc + 1) loc (jml (jlrem x y) :: r) σ
    | _ => none)
  | .land => (match st with
    | .inr (.inl y) :: .inr (.inl x) :: r => k (pc + 1) loc (jml (jland x y) :: r) σ
    | _ => none)
  | .lor => (match st with
    | .inr (.inl y) :: .inr (.inl x) :: r => k (pc + 1) loc (jml (jlor x y) :: r) σ
    | _ => none)
  | .lxor => (match st with
    | .inr (.inl y) :: .inr (.inl x) :: r => k (pc + 1) loc (jml (jlxor x y) :: r) σ
    | _ => none)
  | .lshl => (match st with
    | .inl y :: .inr (.inl x) :: r => k (pc + 1) loc (jml (jlshl x y) :: r) σ
    | _ => none)
  | .lshr => (match st with
    | .inl y :: .inr (.inl x) :: r => k (pc + 1) loc (jml (jlshr x y) :: r) σ
    | _ => none)
  | .lcmp => (match st with
    | .inr (.inl y) :: .inr (.inl x) :: r => k (pc + 1) loc (jmi (jlcmp x y) :: r) σ
    | _ => none)
  | .i2l => (match st with
    | .inl x :: r => k (pc + 1) loc (jml (jw x) :: r) σ
    | _ => none)
  | .l2i => (match st with
    | .inr (.inl x) :: r => k (pc + 1) loc (jmi x :: r) σ
    | _ => none)
  | .i2b => (match st with
    | .inl x :: r => k (pc + 1) loc (jmi (jw8 x) :: r) σ
    | _ => none)
  | .dup => (match st with
    | .inl x :: r => k (pc + 1) loc (jmi x :: jmi x :: r) σ
    | .inr (.inr x) :: r => k (pc + 1) loc (.inr (.inr x) :: .inr (.inr x) :: r) σ
    | _ => none)
  | .dup2 => (match st with
    | .inl y :: .inr (.inr x) :: r => k (pc + 1) loc (jmi y :: .inr (.inr x) :: jmi y :: .inr (.inr x) :: r) σ
    | _ => none)
  | .pop => (match st with
    | .inl _ :: r => k (pc + 1) loc r σ
    | .inr (.inr _) :: r => k (pc + 1) loc r σ
    | _ => none)
  | .goto off => jtgt pc off (fun t => k t loc st σ)
  | .ifCond c off => (match st with
    | .inl x :: r => (match c with
      | .eq => if jw x = 0 then jtgt pc off (fun t => k t loc r σ) else k (pc + 3) loc r σ
      | .ne => if jw x = 0 then k (pc + 3) loc r σ else jtgt pc off (fun t => k t loc r σ)
      | .lt => if jw x < 0 then jtgt pc off (fun t => k t loc r σ) else k (pc + 3) loc r σ
      | .ge => if jw x < 0 then k (pc + 3) loc r σ else jtgt pc off (fun t => k t loc r σ)
      | .gt => if 0 < jw x then jtgt pc off (fun t => k t loc r σ) else k (pc + 3) loc r σ
      | .le => if 0 < jw x then k (pc + 3) loc r σ else jtgt pc off (fun t => k t loc r σ))
    | _ => none)
  | .if_icmp c off => (match st with
    | .inl y :: .inl x :: r => (match c with
      | .eq => if jw x = jw y then jtgt pc off (fun t => k t loc r σ) else k (pc + 3) loc r σ
      | .ne => if jw x = jw y then k (pc + 3) loc r σ else jtgt pc off (fun t => k t loc r σ)
      | .lt => if jw x < jw y then jtgt pc off (fun t => k t loc r σ) else k (pc + 3) loc r σ
      | .ge => if jw x < jw y then k (pc + 3) loc r σ else jtgt pc off (fun t => k t loc r σ)
      | .gt => if jw y < jw x then jtgt pc off (fun t => k t loc r σ) else k (pc + 3) loc r σ
      | .le => if jw y < jw x then k (pc + 3) loc r σ else jtgt pc off (fun t => k t loc r σ))
    | _ => none)
  | .ifnull off => (match st with
    | .inr (.inr (.inl _)) :: r => k (pc + 3) loc r σ
    | .inr (.inr (.inr _)) :: r => jtgt pc off (fun t => k t loc r σ)
    | _ => none)
  | .ifnonnull off => (match st with
    | .inr (.inr (.inl _)) :: r => jtgt pc off (fun t => k t loc r σ)
    | .inr (.inr (.inr _)) :: r => k (pc + 3) loc r σ
    | _ => none)
  | .iaload => (match st with
    | .inl x :: .inr (.inr (.inl id)) :: r => (match E.2.2.2.2.2.2 id with
      | some (.inr (.inl (0, n))) => if 0 ≤ x ∧ x < (n : Int) then k (pc + 1) loc (jmi (σ id x) :: r) σ else none
      | some (.inr (.inr tb)) => if 0 ≤ x ∧ x < (tb.length : Int) then k (pc + 1) loc (jmi (tb.getD x.toNat 0) :: r) σ else none
      | _ => none)
    | _ => none)
  | .baload => (match st with
    | .inl x :: .inr (.inr (.inl id)) :: r => (match E.2.2.2.2.2.2 id with
      | some (.inr (.inl (1, n))) => if 0 ≤ x ∧ x < (n : Int) then k (pc + 1) loc (jmi (σ id x) :: r) σ else none
      | some (.inr (.inl (2, n))) => if 0 ≤ x ∧ x < (n : Int) then k (pc + 1) loc (jmi (σ id x) :: r) σ else none
      | _ => none)
    | _ => none)
  | .aaload => (match st with
    | .inl x :: .inr (.inr (.inl id)) :: r => (match E.2.2.2.2.2.2 id with
      | some (.inr (.inl (4, n))) => if 0 ≤ x ∧ x < (n : Int) then (if σ id x = 0 then k (pc + 1) loc (jmn :: r) σ else jsel jQS (σ id x) (fun q => k (pc + 1) loc (jmr q :: r) σ)) else none
      | _ => none)
    | _ => none)
  | .laload => (match st with
    | .inl x :: .inr (.inr (.inl id)) :: r => (match E.2.2.2.2.2.2 id with
      | some (.inr (.inl (3, n))) => if 0 ≤ x ∧ x < (n : Int) then k (pc + 1) loc (jml (σ id x) :: r) σ else none
      | _ => none)
    | _ => none)
  | .iastore => (match st with
    | .inl v :: .inl x :: .inr (.inr (.inl id)) :: r => (match E.2.2.2.2.2.2 id with
      | some (.inr (.inl (0, n))) => if 0 ≤ x ∧ x < (n : Int) then k (pc + 1) loc r (jup σ id x v) else none
      | _ => none)
    | _ => none)
  | .bastore => (match st with
    | .inl v :: .inl x :: .inr (.inr (.inl id)) :: r => (match E.2.2.2.2.2.2 id with
      | some (.inr (.inl (1, n))) => if 0 ≤ x ∧ x < (n : Int) then k (pc + 1) loc r (jup σ id x (jw8 v)) else none
      | some (.inr (.inl (2, n))) => if 0 ≤ x ∧ x < (n : Int) then k (pc + 1) loc r (jup σ id x (v % 2)) else none
      | _ => none)
    | _ => none)
  | .lastore => (match st with
    | .inr (.inl v) :: .inl x :: .inr (.inr (.inl id)) :: r => (match E.2.2.2.2.2.2 id with
      | some (.inr (.inl (3, n))) => if 0 ≤ x ∧ x < (n : Int) then k (pc + 1) loc r (jup σ id x v) else none
      | _ => none)
    | _ => none)
  | .arraylength => (match st with
    | .inr (.inr (.inl id)) :: r => (match E.2.2.2.2.2.2 id with
      | some (.inr (.inl (0, n))) => k (pc + 1) loc (jmi (n : Int) :: r) σ
      | some (.inr (.inl (3, n))) => k (pc + 1) loc (jmi (n : Int) :: r) σ
      | some (.inr (.inr tb)) => k (pc + 1) loc (jmi (tb.length : Int) :: r) σ
      | _ => none)
    | _ => none)
  | .getfield n => (match st with
    | .inr (.inr (.inl id)) :: r => (match E.1 n, E.2.2.2.2.2.2 id with
      | some (ci, f), some (.inl (cj, fks)) => bif Nat.beq ci cj then (match fks[f]? with
        | some (.inl 1) => k (pc + 3) loc (jml (σ id f) :: r) σ
        | some (.inl _) => k (pc + 3) loc (jmi (σ id f) :: r) σ
        | some (.inr (some j)) => k (pc + 3) loc (jmr j :: r) σ
        | some (.inr none) => k (pc + 3) loc (jmn :: r) σ
        | none => none) else none
      | _, _ => none)
    | _ => none)
  | .putfield n => (match st with
    | .inl v :: .inr (.inr (.inl id)) :: r => (match E.1 n, E.2.2.2.2.2.2 id with
      | some (ci, f), some (.inl (cj, fks)) => bif Nat.beq ci cj then (match fks[f]? with
        | some (.inl 0) => k (pc + 3) loc r (jup σ id f v)
        | some (.inl 2) => if v = 0 ∨ v = 1 then k (pc + 3) loc r (jup σ id f v) else none
        | _ => none) else none
      | _, _ => none)
    | .inr (.inl v) :: .inr (.inr (.inl id)) :: r => (match E.1 n, E.2.2.2.2.2.2 id with
      | some (ci, f), some (.inl (cj, fks)) => bif Nat.beq ci cj then (match fks[f]? with
        | some (.inl 1) => k (pc + 3) loc r (jup σ id f v)
        | _ => none) else none
      | _, _ => none)
    | _ => none)
  | .getstatic n => (match E.2.2.2.2.1 n with
    | some id => k (pc + 3) loc (jmr id :: st) σ
    | none => none)
  | .invokevirtual n => (match E.2.1 n with
    | some (a, false) => bif Nat.ble (jcat (st.drop a)) 8 then E.2.2.1 n (st.take a).reverse σ (fun r σ' => k (pc + 3) loc (r.toList ++ st.drop a) σ') else none
    | _ => none)
  | .invokestatic n => (match E.2.1 n with
    | some (a, true) => bif Nat.ble (jcat (st.drop a)) 8 then E.2.2.1 n (st.take a).reverse σ (fun r σ' => k (pc + 3) loc (r.toList ++ st.drop a) σ') else none
    | _ => none)
  | .ireturn => (match st with
    | [.inl x] => (match E.2.2.2.2.2.1 with
      | 1 => some (x, σ)
      | 4 => if x = 0 ∨ x = 1 then some (x, σ) else none
      | _ => none)
    | _ => none)
  | .lreturn => (match st with
    | [.inr (.inl x)] => (match E.2.2.2.2.2.1 with
      | 2 => some (x, σ)
      | _ => none)
    | _ => none)
  | .areturn => (match st with
    | [.inr (.inr (.inl (id + 1)))] => (match E.2.2.2.2.2.1 with
      | 3 => some (((id + 1 : Nat) : Int), σ)
      | _ => none)
    | [.inr (.inr (.inr _))] => (match E.2.2.2.2.2.1 with
      | 3 => some (0, σ)
      | _ => none)
    | _ => none)
  | .return_ => (match st with
    | [] => (match E.2.2.2.2.2.1 with
      | 0 => some (0, σ)
      | _ => none)
    | _ => none)
  | .tableswitch d lo hi offs => (match st with
    | .inl x :: r => if hi = lo + (offs.toList.length : Int) - 1 then jsw (jw x) lo offs.toList (jtgt pc d (fun t => k t loc r σ)) (fun o => jtgt pc o (fun t => k t loc r σ)) else none
    | _ => none)
  | _ => none
/-- how long an instruction is (a switch: as it is decoded) -/
def jlen (i : Instr) : Nat := match i with
  | .bipush _ | .ldc _ | .iload _ | .lload _ | .aload _ | .istore _ | .lstore _ | .astore _ => 2
  | .sipush _ | .ldc2_w _ | .iinc _ _ | .goto _ | .ifCond _ _ | .if_icmp _ _ | .ifnull _ | .ifnonnull _ | .getfield _ | .putfield _ | .getstatic _ | .invokevirtual _ | .invokestatic _ => 3
  | .tableswitch _ _ _ _ => 0
  | _ => 1
def jlk (tb : List (Nat × Instr)) (pc : Nat) : Option Instr := match tb with
  | [] => none
  | q :: t => bif Nat.beq q.1 pc then some q.2 else jlk t pc
def jin (l : List Nat) (n : Nat) : Bool := match l with
  | [] => false
  | a :: t => bif Nat.beq a n then true else jin t n
/-- a run of at most so many instructions, up to the next of the places 'cuts' -/
def jex (E : jxE) (tb : List (Nat × Instr)) (cuts : List Nat) (k : jxK) (n : Nat) (pc : Nat) (loc : jxL) (st : List jxV) (σ : jxS) : Option jxR := match n with
  | 0 => none
  | n + 1 => (match jlk tb pc with
    | none => none
    | some i => jx1 E i pc loc st σ (fun pc' loc' st' σ' => bif jin cuts pc' then k pc' loc' st' σ' else jex E tb cuts k n pc' loc' st' σ'))
/-- the table of a method's instructions is its code's -/
def jtab (cc : ByteArray) (tb : List (Nat × Instr)) : Bool := tb.all (fun q => match decode cc q.1 with
  | .ok (i, n) => decide (i = q.2) && (Nat.beq (jlen i) 0 || Nat.beq n (jlen i))
  | .error _ => false)
end
section
/-! The small machine is the machine: what a run of it answers, the machine does. -/
def jTB : List Cond := lw_tbl.filter goodWord
def jnst (w : Cond) : Bool := match w with
  | .fieldLinkNest .. => true
  | .methodLinkNest .. => true
  | _ => false
def jNS : List Cond := lw_tbl.filter jnst
theorem jTB_at {w : Cond} (i : Nat) (h : lw_tbl[i]? = some w) (hg : goodWord w = true) : w ∈ jTB := List.mem_filter.mpr ⟨List.mem_of_getElem? h, hg⟩
theorem jNS_at {w : Cond} (i : Nat) (h : lw_tbl[i]? = some w) (hg : jnst w = true) : w ∈ jNS := List.mem_filter.mpr ⟨List.mem_of_getElem? h, hg⟩
theorem jTB_good {w : Cond} (h : w ∈ jTB) : goodWord w = true := (List.mem_filter.mp h).2
theorem jTB_in {y : MethodName} {bytes : ByteArray} {maxL : Nat} {ret : Option FieldType} {big : List Cond} (hb : ∀ w ∈ jTB, w ∈ big) (h : Cond.code y bytes maxL ret ∈ jTB) : GoodIn big (Cond.code y bytes maxL ret :: jTB) := by
  intro w hw
  rcases List.mem_cons.mp hw with rfl | hw
  · exact ⟨hb _ h, good_of_word (jTB_good h)⟩
  · exact ⟨hb _ hw, good_of_word (jTB_good hw)⟩
def jtys (cy : Nat → ClassId) : List (ClassId × FieldType) := [(cy 0, .int), (cy 1, .byte), (cy 2, .boolean), (cy 3, .long), (cy 4, .object "LastLoses$Quotient")]
def jtab0 : List Int := [0, 1, 2, 3, 14, 24]
def jtab1 : List Int := [0, 3, 5]
def jslen : List Nat := [5, 4, 5, 2]
def jsbyt : List (List Int32) := [[111, 99, 116, 97, 108], [97, 108, 115, 111], [110, 101, 118, 101, 114], [116, 111]]
def jsown : String := "LastLoses$Reader"
def jsidx (i : Nat) : Nat := match i with
  | 0 => 71
  | 1 => 77
  | 2 => 79
  | _ => 101
def jstx (i : Nat) : String := match i with
  | 0 => "octal"
  | 1 => "also"
  | 2 => "never"
  | _ => "to"
/-- what stands outside the cells that change: tables, texts, links among nest mates -/
def jBG (ad : Nat → Nat) (A : Nat → Prop) (U : State) : Prop :=
  (∀ w ∈ jNS, va_Nw w U) ∧
  va_Z "LastLoses$Values" "BESIDE_MOVES" "[I" (.ref (ad 1000)) A U U.heap ∧ va_T .int (ad 1000) 6 (fun j => .int (jI (jtab0.getD j 0))) A U U.heap ∧
  va_Z "LastLoses$Values" "BESIDE_OF_GENUS" "[I" (.ref (ad 1001)) A U U.heap ∧ va_T .int (ad 1001) 3 (fun j => .int (jI (jtab1.getD j 0))) A U U.heap ∧
  vk_S 4 jslen jsbyt (fun i => ad (1002 + i)) (fun i => ad (1006 + i)) A U U.heap ∧ (∀ i, i < 4 → vk_R jsown (jsidx i) (jstx i) (ad (1002 + i)) U) ∧
  va_Z "java/lang/String" "COMPACT_STRINGS" "Z" (.int 1) A U U.heap ∧ (va_Z "jdk/internal/util/Preconditions" "SIOOBE_FORMATTER" "Ljava/util/function/BiFunction;" .null A U U.heap ∨ va_Z "jdk/internal/util/Preconditions" "SIOOBE_FORMATTER" "Ljava/util/function/BiFunction;" (.ref (ad 1010)) A U U.heap)
theorem jNS_warm {w : Cond} (h : w ∈ jNS) {s U : State} (hW : s.WarmedH U.vm) (hz : va_Nw w s) : va_Nw w U := by
  have h2 := (List.mem_filter.mp h).2
  cases w <;> first | exact va_Nw.warmF hW hz | exact va_Nw.warmM hW hz | (exact absurd h2 (by simp [jnst]))
theorem jNS_tab {w : Cond} (h : w ∈ jNS) : w.onTables = true := by
  have h2 := (List.mem_filter.mp h).2
  cases w <;> first | rfl | (exact absurd h2 (by simp [jnst]))
/-- behind a stretch of a run: a later heap, warmer tables -/
theorem jBG.go {ad : Nat → Nat} {A : Nat → Prop} {s U : State} (h : jBG ad A s) (hW : s.WarmedH U.vm) (hq : ∀ a : Nat, a < s.heap.size → ¬ A a → U.heap[a]? = s.heap[a]?) : jBG ad A U := by
  obtain ⟨h1, h2, h3, h4, h5, h6, h7, h8, h9⟩ := h
  have hv := hW.alike
  exact ⟨fun w hw => jNS_warm hw hW (h1 w hw), (h2.kept hq).moved hv, (h3.kept hq).moved hv, (h4.kept hq).moved hv, (h5.kept hq).moved hv, (h6.kept hq).moved hv, fun i hi => vk_R.warm hW (h7 i hi), (h8.kept hq).moved hv, h9.imp (fun h => (h.kept hq).moved hv) (fun h => (h.kept hq).moved hv)⟩
theorem jBG.same {ad : Nat → Nat} {A : Nat → Prop} {s U : State} (h : jBG ad A s) (hv : U.vm = s.vm) (hh : U.heap = s.heap) : jBG ad A U := by
  obtain ⟨h1, h2, h3, h4, h5, h6, h7, h8, h9⟩ := h
  have ha : s.vm.Alike U.vm := by rw [hv]; exact Vm.Alike.refl _
  rw [← hh] at h2 h3 h4 h5 h6 h8 h9
  exact ⟨fun w hw => va_Nw.same (jNS_tab hw) hv.symm (h1 w hw), h2.moved ha, h3.moved ha, h4.moved ha, h5.moved ha, h6.moved ha, fun i hi => vk_R.same hv (h7 i hi), h8.moved ha, h9.imp (fun h => h.moved ha) (fun h => h.moved ha)⟩
/-- a method under way: the machine, its code, where its cells lie -/
abbrev jxX : Type := Program × Launch × Env × Room × State × MethodId × Array Value × List Frame × Method × Code × ByteArray × Nat × String × va_G × (Nat → ClassId) × (Nat → Prop) × (Nat → Nat) × List jxC × Nat × Nat × Nat
def jrt (kd : Nat) : Option FieldType := match kd with
  | 0 => none
  | 1 => some .int
  | 2 => some .long
  | 3 => some (.object "LastLoses$Quotient")
  | 4 => some .boolean
  | 5 => some .char
  | _ => some .byte
def jOK (X : jxX) : Prop := match X with
  | (p, l, e, R, s, m, args, below, meth, c, cc, nL, own, D, cy, A, ad, sh, kd, ca, sl) => p.tables.exec = Jvm.exec ∧ c.code = cc ∧ c.maxLocals = nL ∧ s.vm.findClass own = some m.cls ∧ (∀ w ∈ jTB, w.before args s = true) ∧ meth.locks = false ∧ va_K D vwCl (jtys cy) s ∧ (∀ q, s.heap.size ≤ q → A q) ∧ jBG ad A s ∧ meth.sig.returnType = jrt kd ∧ ca ≤ R.cells ∧ sl ≤ R.slots
def jLH (ls : Array Slot) (nL : Nat) (ad : Nat → Nat) (loc : jxL) : Prop := ls.size = nL ∧ lv_wf ls ∧ loc.length ≤ nL ∧ ∀ i v, jget loc i = some v → ls[i]? = some (.val (jtoV ad v))
def jWj (X : jxX) (Q : State → Prop) (pc : Nat) (loc : jxL) (st : List jxV) (σ : jxS) : Prop := match X with
  | (p, l, e, R, s, m, args, below, meth, c, _, nL, _, D, cy, A, ad, sh, _, ca, sl) => ∀ (H : Heap) (locs : List Loc) (ls : Array Slot), va_P D vwCl (jW ad cy sh σ) H → va_D A (jW ad cy sh σ) → va_S A s.heap H locs → jLH ls nL ad loc → W p l e R s m args below meth c H locs ca sl Q (F0 m pc ls (st.map (jtoV ad)))
def jQc (D : va_G) (cy : Nat → ClassId) (A : Nat → Prop) (ad : Nat → Nat) (sh : List jxC) (r : Option jxV) (σ' : jxS) : Array Value → State → Outcome → State → Prop := fun _ st oc t => oc = .returned (r.map (jtoV ad)) ∧ va_P D vwCl (jW ad cy sh σ') t.heap ∧ va_F A st t
def jQ (X : jxX) (r : Option jxV) (σ' : jxS) : State → Prop := match X with
  | (_, _, _, _, s, _, args, below, _, _, _, _, _, D, cy, A, ad, sh, _, ca, sl) => MQ below (jQc D cy A ad sh r σ') args s ca sl A
def jrv (kd : Nat) (x : Int) : Option jxV := match kd with
  | 0 => none
  | 2 => some (jml x)
  | 3 => some (if x = 0 then jmn else jmr x.toNat)
  | _ => some (jmi x)
def jkd (X : jxX) : Nat := match X with
  | (_, _, _, _, _, _, _, _, _, _, _, _, _, _, _, _, _, _, kd, _) => kd
def jcc (X : jxX) : ByteArray := match X with
  | (_, _, _, _, _, _, _, _, _, _, cc, _) => cc
def jsh (X : jxX) : List jxC := match X with
  | (_, _, _, _, _, _, _, _, _, _, _, _, _, _, _, _, _, sh, _) => sh
def jown (X : jxX) : String := match X with
  | (_, _, _, _, _, _, _, _, _, _, _, _, own, _) => own
/-- a run's function is what the machine does from here on -/
def jRf (X : jxX) (f : Option jxR) (pc : Nat) (loc : jxL) (st : List jxV) (σ : jxS) : Prop := ∀ x σ', f = some (x, σ') → jWj X (jQ X (jrv (jkd X) x) σ') pc loc st σ
theorem jRf_none {X : jxX} {pc : Nat} {loc : jxL} {st : List jxV} {σ : jxS} : jRf X none pc loc st σ := fun _ _ h => by cases h
/-- numbers -/
theorem jI_add (x y : Int) : jI (x + y) = jI x + jI y := Int32.ofInt_add x y
theorem jI_sub (x y : Int) : jI (x - y) = jI x - jI y := Int32.ofInt_sub x y
theorem jI_mul (x y : Int) : jI (x * y) = jI x * jI y := Int32.ofInt_mul x y
theorem jL_add (x y : Int) : jL (x + y) = jL x + jL y := Int64.ofInt_add x y
theorem jL_mul (x y : Int) : jL (x * y) = jL x * jL y := Int64.ofInt_mul x y
theorem jI_and (x y : Int) : jI (jand x y) = jI x &&& jI y := jI_toInt _
theorem jI_or (x y : Int) : jI (jor x y) = jI x ||| jI y := jI_toInt _
theorem jI_xor (x y : Int) : jI (jxor x y) = jI x ^^^ jI y := jI_toInt _
theorem jI_shl (x y : Int) : jI (jshl x y) = jI x <<< (jI y &&& 31) := jI_toInt _
theorem jI_shr (x y : Int) : jI (jshr x y) = jI x >>> (jI y &&& 31) := jI_toInt _
theorem jI_ushr (x y : Int) : jI (jushr x y) = ((jI x).toUInt32 >>> ((jI y).toUInt32 &&& Int32.toUInt32 31)).toInt32 := jI_toInt _
theorem jL_and (x y : Int) : jL (jland x y) = jL x &&& jL y := jL_toInt _
theorem jL_or (x y : Int) : jL (jlor x y) = jL x ||| jL y := jL_toInt _
theorem jL_xor (x y : Int) : jL (jlxor x y) = jL x ^^^ jL y := jL_toInt _
theorem jL_shl (x y : Int) : jL (jlshl x y) = jL x <<< ((jI y).toInt64 &&& 63) := jL_toInt _
theorem jL_shr (x y : Int) : jL (jlshr x y) = jL x >>> ((jI y).toInt64 &&& 63) := jL_toInt _
theorem jI_lt (x y : Int) : jI x < jI y ↔ jw x < jw y := by rw [Int32.lt_iff_toInt_lt, jw_toInt, jw_toInt]
theorem jI_le (x y : Int) : jI x ≤ jI y ↔ jw x ≤ jw y := by rw [Int32.le_iff_toInt_le, jw_toInt, jw_toInt]
theorem jI_eq (x y : Int) : jI x = jI y ↔ jw x = jw y := by rw [← Int32.toInt_inj, jw_toInt, jw_toInt]
theorem jI_0 : (0 : Int32) = jI 0 := rfl
theorem jw_0 : jw 0 = 0 := rfl
theorem jI_eq0 (x : Int) : jI x = 0 ↔ jw x = 0 := by rw [jI_0, jI_eq, jw_0]
theorem jI_lt0 (x : Int) : jI x < 0 ↔ jw x < 0 := by rw [jI_0, jI_lt, jw_0]
theorem jI_gt0 (x : Int) : 0 < jI x ↔ 0 < jw x := by rw [jI_0, jI_lt, jw_0]
theorem jL_lt (x y : Int) : jL x < jL y ↔ jw64 x < jw64 y := by rw [Int64.lt_iff_toInt_lt, jw64_toInt, jw64_toInt]
theorem jL_eq (x y : Int) : jL x = jL y ↔ jw64 x = jw64 y := by rw [← Int64.toInt_inj, jw64_toInt, jw64_toInt]
theorem jL_eq0 (x : Int) : jL x = 0 ↔ jw64 x = 0 := by rw [show (0 : Int64) = jL 0 from rfl, jL_eq, show jw64 0 = 0 from rfl]
theorem jI_div (x y : Int) : jI (jdiv x y) = jI x / jI y := by
  apply Int32.toInt_inj.mp
  rw [jw_toInt, Int32.toInt_div, jw_toInt, jw_toInt, jdiv, ← jw_toInt, jI, Int32.toInt_ofInt]
theorem jI_rem (x y : Int) : jI (jrem x y) = jI x - jI x / jI y * jI y := by
  rw [jrem, Int.tmod_def, jI_sub, jI_w, jI_mul, jI_w, ← jI_div, jdiv, Int32.mul_comm]
theorem jL_div (x y : Int) : jL (jldiv x y) = jL x / jL y := by
  apply Int64.toInt_inj.mp
  rw [jw64_toInt, Int64.toInt_div, jw64_toInt, jw64_toInt, jldiv, ← jw64_toInt, jL, Int64.toInt_ofInt]
theorem jL_rem (x y : Int) : jL (jlrem x y) = jL x - jL x / jL y * jL y := by
  have hs : ∀ a b : Int, jL (a - b) = jL a - jL b := fun a b => Int64.ofInt_sub a b
  rw [jlrem, Int.tmod_def, hs, jL_w, jL_mul, jL_w, ← jL_div, jldiv, Int64.mul_comm]
theorem jI_lcmp (x y : Int) : jI (jlcmp x y) = lg_cmp (jL x) (jL y) := by
  unfold jlcmp lg_cmp
  simp only [gt_iff_lt, jL_lt, jL_eq]
  split
  · rfl
  · split <;> rfl
theorem jL_i (x : Int) : jL (jw x) = (jI x).toInt64 := by
  apply Int64.toInt_inj.mp
  rw [Int32.toInt_toInt64, jw_toInt, jw64_toInt]
  unfold jw64 jw
  omega
theorem jI_l (x : Int) : jI x = (jL x).toInt32 := by
  apply Int32.toInt_inj.mp
  rw [Int64.toInt_toInt32, jw_toInt, jw64_toInt, Int.bmod_def]
  unfold jw jw64
  have : ((2 ^ 32 : Nat) : Int) = 4294967296 := rfl
  split <;> simp_all <;> omega
theorem jI_b (x : Int) : jI (jw8 x) = (jI x).toInt8.toInt32 := by
  apply Int32.toInt_inj.mp
  rw [Int8.toInt_toInt32, Int32.toInt_toInt8, jw_toInt, jw_toInt, Int.bmod_def]
  unfold jw jw8
  have : ((2 ^ 8 : Nat) : Int) = 256 := rfl
  split <;> simp_all <;> omega
theorem j_in {x : Int} {n : Nat} (hn : n < 2 ^ 31) (h : 0 ≤ x ∧ x < (n : Int)) : vp_in (jI x) n ∧ (jI x).toNatClampNeg = x.toNat := by
  have h1 : (jI x).toInt = x := by rw [jw_toInt, jw]; omega
  have h2 : (jI x).toNatClampNeg = x.toNat := by show (jI x).toInt.toNat = _; rw [h1]
  refine ⟨?_, h2⟩
  rw [vp_in_iff, h1]
  exact h
end
section
/-! One instruction of the small machine is one of the machine. -/
theorem jget_len {l : jxL} : ∀ {i : Nat} {v : jxV}, jget l i = some v → i < l.length := by
  induction l with
  | nil => intro i v h; simp [jget] at h
  | cons a t ih =>
    intro i v h
    cases i with
    | zero => exact Nat.zero_lt_succ _
    | succ n => exact Nat.succ_lt_succ (ih (by simpa [jget] using h))
def jlv (ad : Nat → Nat) (n : Nat) (l : jxL) : List (Nat × Value) := match l with
  | [] => []
  | none :: t => jlv ad (n + 1) t
  | some v :: t => (n, jtoV ad v) :: jlv ad (n + 1) t
theorem jlv_of {ad : Nat → Nat} {l : jxL} : ∀ {n j : Nat} {v : jxV}, jget l j = some v → (n + j, jtoV ad v) ∈ jlv ad n l := by
  induction l with
  | nil => intro n j v h; simp [jget] at h
  | cons a t ih =>
    intro n j v h
    cases j with
    | zero =>
      simp only [jget] at h
      subst h
      simp [jlv]
    | succ j =>
      have h1 := ih (n := n + 1) (j := j) (v := v) (by simpa [jget] using h)
      have e : n + 1 + j = n + (j + 1) := by omega
      rw [e] at h1
      cases a with
      | none => simpa [jlv] using h1
      | some w => simp [jlv, h1]
theorem jlv_to {ad : Nat → Nat} {l : jxL} : ∀ {n : Nat} {q : Nat × Value}, q ∈ jlv ad n l → ∃ j v, q = (n + j, jtoV ad v) ∧ jget l j = some v := by
  induction l with
  | nil => intro n q h; simp [jlv] at h
  | cons a t ih =>
    intro n q h
    cases a with
    | none =>
      obtain ⟨j, v, h1, h2⟩ := ih (by simpa [jlv] using h)
      exact ⟨j + 1, v, by rw [h1]; congr 1; omega, by simpa [jget] using h2⟩
    | some w =>
      simp only [jlv, List.mem_cons] at h
      rcases h with h | h
      · exact ⟨0, w, h, rfl⟩
      · obtain ⟨j, v, h1, h2⟩ := ih h
        exact ⟨j + 1, v, by rw [h1]; congr 1; omega, by simpa [jget] using h2⟩
theorem jLH.has {ls : Array Slot} {nL : Nat} {ad : Nat → Nat} {loc : jxL} (h : jLH ls nL ad loc) : lv_has ls nL (jlv ad 0 loc) := by
  refine ⟨h.1, h.2.1, fun q hq => ?_⟩
  obtain ⟨j, v, rfl, h2⟩ := jlv_to hq
  simpa using h.2.2.2 j v h2
theorem jset1_len (l : jxL) : ∀ (i : Nat) (v : jxV), (jset1 l i v).length = l.length := by
  induction l with
  | nil => intro i v; simp [jset1]
  | cons a t ih =>
    intro i v
    match i with
    | 0 => simp [jset1]
    | 1 => simp [jset1, ih]
    | n + 2 => simp [jset1, ih]
def jlng (v : jxV) : Prop := match v with
  | .inr (.inl _) => True
  | _ => False
theorem jset1_get (l : jxL) : ∀ {i j : Nat} {v u : jxV}, jget (jset1 l i v) j = some u → (j = i ∧ u = v) ∨ (j ≠ i ∧ jget l j = some u ∧ ¬ (j + 1 = i ∧ jlng u)) := by
  induction l with
  | nil => intro i j v u h; simp [jset1, jget] at h
  | cons a t ih =>
    intro i j v u h
    match i, j with
    | 0, 0 => simp only [jset1, jget, Option.some.injEq] at h; exact Or.inl ⟨rfl, h.symm⟩
    | 0, j + 1 => simp only [jset1, jget] at h; exact Or.inr ⟨by omega, by simpa [jget] using h, by omega⟩
    | 1, 0 =>
      simp only [jset1, jget] at h
      refine Or.inr ⟨by omega, ?_, ?_⟩
      · split at h <;> first | (cases h; done) | simpa [jget] using h
      · rintro ⟨-, hl⟩
        split at h
        · cases h
        · rename_i hn
          subst h
          match u, hl with
          | .inr (.inl z), _ => exact hn z rfl
    | 1, j + 1 =>
      simp only [jset1, jget] at h
      rcases ih h with ⟨rfl, rfl⟩ | ⟨h1, h2, h3⟩
      · exact Or.inl ⟨rfl, rfl⟩
      · exact Or.inr ⟨by omega, by simpa [jget] using h2, by omega⟩
    | n + 2, 0 =>
      simp only [jset1, jget] at h
      exact Or.inr ⟨by omega, by simpa [jget] using h, by omega⟩
    | n + 2, j + 1 =>
      simp only [jset1, jget] at h
      rcases ih h with ⟨h1, rfl⟩ | ⟨h1, h2, h3⟩
      · exact Or.inl ⟨by omega, rfl⟩
      · exact Or.inr ⟨by omega, by simpa [jget] using h2, fun q => h3 ⟨by omega, q.2⟩⟩
theorem jset2_len (l : jxL) : ∀ (i : Nat) (v : jxV), (jset2 l i v).length = l.length := by
  induction l with
  | nil => intro i v; simp [jset2]
  | cons a t ih =>
    intro i v
    match i with
    | 0 => cases t <;> simp [jset2]
    | 1 => simp [jset2, ih]
    | n + 2 => simp [jset2, ih]
theorem jset2_get (l : jxL) : ∀ {i j : Nat} {v u : jxV}, jget (jset2 l i v) j = some u → (j = i ∧ u = v) ∨ (j ≠ i ∧ j ≠ i + 1 ∧ jget l j = some u ∧ ¬ (j + 1 = i ∧ jlng u)) := by
  induction l with
  | nil => intro i j v u h; simp [jset2, jget] at h
  | cons a t ih =>
    intro i j v u h
    match i, j with
    | 0, 0 => simp only [jset2, jget, Option.some.injEq] at h; exact Or.inl ⟨rfl, h.symm⟩
    | 0, 1 => cases t <;> simp [jset2, jget] at h
    | 0, j + 2 =>
      cases t with
      | nil => simp [jset2, jget] at h
      | cons b t => simp only [jset2, jget] at h; exact Or.inr ⟨by omega, by omega, by simpa [jget] using h, by omega⟩
    | 1, 0 =>
      simp only [jset2, jget] at h
      refine Or.inr ⟨by omega, by omega, ?_, ?_⟩
      · split at h <;> first | (cases h; done) | simpa [jget] using h
      · rintro ⟨-, hl⟩
        split at h
        · cases h
        · rename_i hn
          subst h
          match u, hl with
          | .inr (.inl z), _ => exact hn z rfl
    | 1, j + 1 =>
      simp only [jset2, jget] at h
      rcases ih h with ⟨rfl, rfl⟩ | ⟨h1, h2, h3, h4⟩
      · exact Or.inl ⟨rfl, rfl⟩
      · exact Or.inr ⟨by omega, by omega, by simpa [jget] using h3, by omega⟩
    | n + 2, 0 =>
      simp only [jset2, jget] at h
      exact Or.inr ⟨by omega, by omega, by simpa [jget] using h, by omega⟩
    | n + 2, j + 1 =>
      simp only [jset2, jget] at h
      rcases ih h with ⟨h1, rfl⟩ | ⟨h1, h2, h3, h4⟩
      · exact Or.inl ⟨by omega, rfl⟩
      · exact Or.inr ⟨by omega, by omega, by simpa [jget] using h3, fun q => h4 ⟨by omega, q.2⟩⟩
theorem jcat2 {ad : Nat → Nat} {u : jxV} (h : (jtoV ad u).category = 2) : jlng u := by
  match u with
  | .inl x => simp [jtoV, Value.category] at h
  | .inr (.inl x) => trivial
  | .inr (.inr (.inl x)) => simp [jtoV, Value.category] at h
  | .inr (.inr (.inr x)) => simp [jtoV, Value.category] at h
theorem jLH.set1 {ls ls' : Array Slot} {nL i : Nat} {ad : Nat → Nat} {loc : jxL} {v : jxV} (h : jLH ls nL ad loc) (h' : lv_has ls' nL ((i, jtoV ad v) :: (jlv ad 0 loc).filter (fun q => !(q.1 == i) && !(q.1 + 1 == i && q.2.category == 2)))) : jLH ls' nL ad (jset1 loc i v) := by
  refine ⟨h'.1, h'.2.1, by rw [jset1_len]; exact h.2.2.1, fun j u hu => ?_⟩
  rcases jset1_get loc hu with ⟨rfl, rfl⟩ | ⟨h1, h2, h3⟩
  · exact h'.2.2 (j, jtoV ad u) List.mem_cons_self
  · refine h'.2.2 (j, jtoV ad u) (List.mem_cons_of_mem _ (List.mem_filter.mpr ⟨by simpa using jlv_of (n := 0) h2, ?_⟩))
    by_cases hj : j + 1 = i
    · have hc : ¬ (jtoV ad u).category = 2 := fun q => h3 ⟨hj, jcat2 q⟩
      simp [h1, hc]
    · simp [h1, hj]
theorem jLH.set2 {ls ls' : Array Slot} {nL i : Nat} {ad : Nat → Nat} {loc : jxL} {v : jxV} (h : jLH ls nL ad loc) (h' : lv_has ls' nL ((i, jtoV ad v) :: (jlv ad 0 loc).filter (fun q => !(q.1 == i) && (!(q.1 == i + 1) && !(q.1 + 1 == i && q.2.category == 2))))) : jLH ls' nL ad (jset2 loc i v) := by
  refine ⟨h'.1, h'.2.1, by rw [jset2_len]; exact h.2.2.1, fun j u hu => ?_⟩
  rcases jset2_get loc hu with ⟨rfl, rfl⟩ | ⟨h1, h2, h3, h4⟩
  · exact h'.2.2 (j, jtoV ad u) List.mem_cons_self
  · refine h'.2.2 (j, jtoV ad u) (List.mem_cons_of_mem _ (List.mem_filter.mpr ⟨by simpa using jlv_of (n := 0) h3, ?_⟩))
    by_cases hj : j + 1 = i
    · have hc : ¬ (jtoV ad u).category = 2 := fun q => h4 ⟨hj, jcat2 q⟩
      simp [h1, h2, hc]
    · simp [h1, h2, hj]
theorem jnar_z (v : Int) : vp_nar .boolean (jI v) = jI (v % 2) := by
  have e : vp_nar .boolean (jI v) = jI v &&& 1 := by simp [vp_nar, narrow]
  rw [e]
  have h1 := pk_and (jI v) (m := 1) 1 rfl
  rw [h1]
  apply Int32.toInt_inj.mp
  rw [jw_toInt]
  have h2 : (jI v).toBitVec.toNat = (v % 4294967296).toNat := by
    show (BitVec.ofInt 32 v).toNat = _
    rw [BitVec.toNat_ofInt]
    rfl
  have h3 : (jI v).toBitVec.toNat % 2 ^ 1 < 2 ^ 31 := by omega
  rw [nI_toInt h3, h2]
  unfold jw
  omega
section JS
variable {X : jxX} {Q : State → Prop} {pc : Nat} {loc : jxL} {r st : List jxV} {σ : jxS}
theorem jw_iadd {x y : Int} (hX : jOK X) (hd : decode (jcc X) pc = .ok (.iadd, 1)) (hk : jWj X Q (pc + 1) loc (jmi (x + y) :: r) σ) : jWj X Q pc loc (jmi y :: jmi x :: r) σ := by
  obtain ⟨p, l, e, R, s, m, args, below, meth, c, cc, nL, own, D, cy, A, ad, sh, kd, ca, sl⟩ := X
  obtain ⟨hx, hb, hml, hown, hts, hlk, hK, hA, hBG, hr, hca, hsl⟩ := hX
  intro H locs ls hP hD hS hL
  have k := hk H locs ls hP hD hS hL
  simp only [List.map_cons, jtoV, jI_add] at k ⊢
  exact lv_iadd hx hb hd k
theorem jw_isub {x y : Int} (hX : jOK X) (hd : decode (jcc X) pc = .ok (.isub, 1)) (hk : jWj X Q (pc + 1) loc (jmi (x - y) :: r) σ) : jWj X Q pc loc (jmi y :: jmi x :: r) σ := by
  obtain ⟨p, l, e, R, s, m, args, below, meth, c, cc, nL, own, D, cy, A, ad, sh, kd, ca, sl⟩ := X
  obtain ⟨hx, hb, hml, hown, hts, hlk, hK, hA, hBG, hr, hca, hsl⟩ := hX
  intro H locs ls hP hD hS hL
  have k := hk H locs ls hP hD hS hL
  simp only [List.map_cons, jtoV, jI_sub] at k ⊢
  exact lv_isub hx hb hd k
theorem jw_imul {x y : Int} (hX : jOK X) (hd : decode (jcc X) pc = .ok (.imul, 1)) (hk : jWj X Q (pc + 1) loc (jmi (x * y) :: r) σ) : jWj X Q pc loc (jmi y :: jmi x :: r) σ := by
  obtain ⟨p, l, e, R, s, m, args, below, meth, c, cc, nL, own, D, cy, A, ad, sh, kd, ca, sl⟩ := X
  obtain ⟨hx, hb, hml, hown, hts, hlk, hK, hA, hBG, hr, hca, hsl⟩ := hX
  intro H locs ls hP hD hS hL
  have k := hk H locs ls hP hD hS hL
  simp only [List.map_cons, jtoV, jI_mul] at k ⊢
  exact lv_imul hx hb hd k
theorem jw_iand {x y : Int} (hX : jOK X) (hd : decode (jcc X) pc = .ok (.iand, 1)) (hk : jWj X Q (pc + 1) loc (jmi (jand x y) :: r) σ) : jWj X Q pc loc (jmi y :: jmi x :: r) σ := by
  obtain ⟨p, l, e, R, s, m, args, below, meth, c, cc, nL, own, D, cy, A, ad, sh, kd, ca, sl⟩ := X
  obtain ⟨hx, hb, hml, hown, hts, hlk, hK, hA, hBG, hr, hca, hsl⟩ := hX
  intro H locs ls hP hD hS hL
  have k := hk H locs ls hP hD hS hL
  simp only [List.map_cons, jtoV, jI_and] at k ⊢
  exact lv_iand hx hb hd k
theorem jw_ior {x y : Int} (hX : jOK X) (hd : decode (jcc X) pc = .ok (.ior, 1)) (hk : jWj X Q (pc + 1) loc (jmi (jor x y) :: r) σ) : jWj X Q pc loc (jmi y :: jmi x :: r) σ := by
  obtain ⟨p, l, e, R, s, m, args, below, meth, c, cc, nL, own, D, cy, A, ad, sh, kd, ca, sl⟩ := X
  obtain ⟨hx, hb, hml, hown, hts, hlk, hK, hA, hBG, hr, hca, hsl⟩ := hX
  intro H locs ls hP hD hS hL
  have k := hk H locs ls hP hD hS hL
  simp only [List.map_cons, jtoV, jI_or] at k ⊢
  exact lv_ior hx hb hd k
theorem jw_ixor {x y : Int} (hX : jOK X) (hd : decode (jcc X) pc = .ok (.ixor, 1)) (hk : jWj X Q (pc + 1) loc (jmi (jxor x y) :: r) σ) : jWj X Q pc loc (jmi y :: jmi x :: r) σ := by
  obtain ⟨p, l, e, R, s, m, args, below, meth, c, cc, nL, own, D, cy, A, ad, sh, kd, ca, sl⟩ := X
  obtain ⟨hx, hb, hml, hown, hts, hlk, hK, hA, hBG, hr, hca, hsl⟩ := hX
  intro H locs ls hP hD hS hL
  have k := hk H locs ls hP hD hS hL
  simp only [List.map_cons, jtoV, jI_xor] at k ⊢
  exact lv_ixor hx hb hd k
theorem jw_ishl {x y : Int} (hX : jOK X) (hd : decode (jcc X) pc = .ok (.ishl, 1)) (hk : jWj X Q (pc + 1) loc (jmi (jshl x y) :: r) σ) : jWj X Q pc loc (jmi y :: jmi x :: r) σ := by
  obtain ⟨p, l, e, R, s, m, args, below, meth, c, cc, nL, own, D, cy, A, ad, sh, kd, ca, sl⟩ := X
  obtain ⟨hx, hb, hml, hown, hts, hlk, hK, hA, hBG, hr, hca, hsl⟩ := hX
  intro H locs ls hP hD hS hL
  have k := hk H locs ls hP hD hS hL
  simp only [List.map_cons, jtoV, jI_shl] at k ⊢
  exact lv_ishl hx hb hd k
theorem jw_ishr {x y : Int} (hX : jOK X) (hd : decode (jcc X) pc = .ok (.ishr, 1)) (hk : jWj X Q (pc + 1) loc (jmi (jshr x y) :: r) σ) : jWj X Q pc loc (jmi y :: jmi x :: r) σ := by
  obtain ⟨p, l, e, R, s, m, args, below, meth, c, cc, nL, own, D, cy, A, ad, sh, kd, ca, sl⟩ := X
  obtain ⟨hx, hb, hml, hown, hts, hlk, hK, hA, hBG, hr, hca, hsl⟩ := hX
  intro H locs ls hP hD hS hL
  have k := hk H locs ls hP hD hS hL
  simp only [List.map_cons, jtoV, jI_shr] at k ⊢
  exact lv_ishr hx hb hd k
theorem jw_iushr {x y : Int} (hX : jOK X) (hd : decode (jcc X) pc = .ok (.iushr, 1)) (hk : jWj X Q (pc + 1) loc (jmi (jushr x y) :: r) σ) : jWj X Q pc loc (jmi y :: jmi x :: r) σ := by
  obtain ⟨p, l, e, R, s, m, args, below, meth, c, cc, nL, own, D, cy, A, ad, sh, kd, ca, sl⟩ := X
  obtain ⟨hx, hb, hml, hown, hts, hlk, hK, hA, hBG, hr, hca, hsl⟩ := hX
  intro H locs ls hP hD hS hL
  have k := hk H locs ls hP hD hS hL
  simp only [List.map_cons, jtoV, jI_ushr] at k ⊢
  exact lv_iushr hx hb hd rfl k
theorem jw_ladd {x y : Int} (hX : jOK X) (hd : decode (jcc X) pc = .ok (.ladd, 1)) (hk : jWj X Q (pc + 1) loc (jml (x + y) :: r) σ) : jWj X Q pc loc (jml y :: jml x :: r) σ := by
  obtain ⟨p, l, e, R, s, m, args, below, meth, c, cc, nL, own, D, cy, A, ad, sh, kd, ca, sl⟩ := X
  obtain ⟨hx, hb, hml, hown, hts, hlk, hK, hA, hBG, hr, hca, hsl⟩ := hX
  intro H locs ls hP hD hS hL
  have k := hk H locs ls hP hD hS hL
  simp only [List.map_cons, jtoV, jL_add] at k ⊢
  exact lv_ladd hx hb hd k
theorem jw_lmul {x y : Int} (hX : jOK X) (hd : decode (jcc X) pc = .ok (.lmul, 1)) (hk : jWj X Q (pc + 1) loc (jml (x * y) :: r) σ) : jWj X Q pc loc (jml y :: jml x :: r) σ := by
  obtain ⟨p, l, e, R, s, m, args, below, meth, c, cc, nL, own, D, cy, A, ad, sh, kd, ca, sl⟩ := X
  obtain ⟨hx, hb, hml, hown, hts, hlk, hK, hA, hBG, hr, hca, hsl⟩ := hX
  intro H locs ls hP hD hS hL
  have k := hk H locs ls hP hD hS hL
  simp only [List.map_cons, jtoV, jL_mul] at k ⊢
  exact lv_lmul hx hb hd k
theorem jw_land {x y : Int} (hX : jOK X) (hd : decode (jcc X) pc = .ok (.land, 1)) (hk : jWj X Q (pc + 1) loc (jml (jland x y) :: r) σ) : jWj X Q pc loc (jml y :: jml x :: r) σ := by
  obtain ⟨p, l, e, R, s, m, args, below, meth, c, cc, nL, own, D, cy, A, ad, sh, kd, ca, sl⟩ := X
  obtain ⟨hx, hb, hml, hown, hts, hlk, hK, hA, hBG, hr, hca, hsl⟩ := hX
  intro H locs ls hP hD hS hL
  have k := hk H locs ls hP hD hS hL
  simp only [List.map_cons, jtoV, jL_and] at k ⊢
  exact lv_land hx hb hd k
theorem jw_lor {x y : Int} (hX : jOK X) (hd : decode (jcc X) pc = .ok (.lor, 1)) (hk : jWj X Q (pc + 1) loc (jml (jlor x y) :: r) σ) : jWj X Q pc loc (jml y :: jml x :: r) σ := by
  obtain ⟨p, l, e, R, s, m, args, below, meth, c, cc, nL, own, D, cy, A, ad, sh, kd, ca, sl⟩ := X
  obtain ⟨hx, hb, hml, hown, hts, hlk, hK, hA, hBG, hr, hca, hsl⟩ := hX
  intro H locs ls hP hD hS hL
  have k := hk H locs ls hP hD hS hL
  simp only [List.map_cons, jtoV, jL_or] at k ⊢
  exact lv_lor hx hb hd k
theorem jw_lxor {x y : Int} (hX : jOK X) (hd : decode (jcc X) pc = .ok (.lxor, 1)) (hk : jWj X Q (pc + 1) loc (jml (jlxor x y) :: r) σ) : jWj X Q pc loc (jml y :: jml x :: r) σ := by
  obtain ⟨p, l, e, R, s, m, args, below, meth, c, cc, nL, own, D, cy, A, ad, sh, kd, ca, sl⟩ := X
  obtain ⟨hx, hb, hml, hown, hts, hlk, hK, hA, hBG, hr, hca, hsl⟩ := hX
  intro H locs ls hP hD hS hL
  have k := hk H locs ls hP hD hS hL
  simp only [List.map_cons, jtoV, jL_xor] at k ⊢
  exact lv_lxor hx hb hd k
theorem jw_idiv {x y : Int} (h0 : ¬ jw y = 0) (hX : jOK X) (hd : decode (jcc X) pc = .ok (.idiv, 1)) (hk : jWj X Q (pc + 1) loc (jmi (jdiv x y) :: r) σ) : jWj X Q pc loc (jmi y :: jmi x :: r) σ := by
  obtain ⟨p, l, e, R, s, m, args, below, meth, c, cc, nL, own, D, cy, A, ad, sh, kd, ca, sl⟩ := X
  obtain ⟨hx, hb, hml, hown, hts, hlk, hK, hA, hBG, hr, hca, hsl⟩ := hX
  intro H locs ls hP hD hS hL
  have k := hk H locs ls hP hD hS hL
  simp only [List.map_cons, jtoV, jI_div] at k ⊢
  exact lv_idiv hx hb hd (fun h => h0 ((jI_eq0 y).mp h)) k
theorem jw_irem {x y : Int} (h0 : ¬ jw y = 0) (hX : jOK X) (hd : decode (jcc X) pc = .ok (.irem, 1)) (hk : jWj X Q (pc + 1) loc (jmi (jrem x y) :: r) σ) : jWj X Q pc loc (jmi y :: jmi x :: r) σ := by
  obtain ⟨p, l, e, R, s, m, args, below, meth, c, cc, nL, own, D, cy, A, ad, sh, kd, ca, sl⟩ := X
  obtain ⟨hx, hb, hml, hown, hts, hlk, hK, hA, hBG, hr, hca, hsl⟩ := hX
  intro H locs ls hP hD hS hL
  have k := hk H locs ls hP hD hS hL
  simp only [List.map_cons, jtoV, jI_rem] at k ⊢
  exact lv_irem hx hb hd (fun h => h0 ((jI_eq0 y).mp h)) k
theorem jw_ldiv {x y : Int} (h0 : ¬ jw64 y = 0) (hX : jOK X) (hd : decode (jcc X) pc = .ok (.ldiv, 1)) (hk : jWj X Q (pc + 1) loc (jml (jldiv x y) :: r) σ) : jWj X Q pc loc (jml y :: jml x :: r) σ := by
  obtain ⟨p, l, e, R, s, m, args, below, meth, c, cc, nL, own, D, cy, A, ad, sh, kd, ca, sl⟩ := X
  obtain ⟨hx, hb, hml, hown, hts, hlk, hK, hA, hBG, hr, hca, hsl⟩ := hX
  intro H locs ls hP hD hS hL
  have k := hk H locs ls hP hD hS hL
  simp only [List.map_cons, jtoV, jL_div] at k ⊢
  exact lv_ldiv hx hb hd (fun h => h0 ((jL_eq0 y).mp h)) k
theorem jw_lrem {x y : Int} (h0 : ¬ jw64 y = 0) (hX : jOK X) (hd : decode (jcc X) pc = .ok (.lrem, 1)) (hk : jWj X Q (pc + 1) loc (jml (jlrem x y) :: r) σ) : jWj X Q pc loc (jml y :: jml x :: r) σ := by
  obtain ⟨p, l, e, R, s, m, args, below, meth, c, cc, nL, own, D, cy, A, ad, sh, kd, ca, sl⟩ := X
  obtain ⟨hx, hb, hml, hown, hts, hlk, hK, hA, hBG, hr, hca, hsl⟩ := hX
  intro H locs ls hP hD hS hL
  have k := hk H locs ls hP hD hS hL
  simp only [List.map_cons, jtoV, jL_rem] at k ⊢
  exact lv_lrem hx hb hd (fun h => h0 ((jL_eq0 y).mp h)) k
theorem jw_lshl {x y : Int} (hX : jOK X) (hd : decode (jcc X) pc = .ok (.lshl, 1)) (hk : jWj X Q (pc + 1) loc (jml (jlshl x y) :: r) σ) : jWj X Q pc loc (jmi y :: jml x :: r) σ := by
  obtain ⟨p, l, e, R, s, m, args, below, meth, c, cc, nL, own, D, cy, A, ad, sh, kd, ca, sl⟩ := X
  obtain ⟨hx, hb, hml, hown, hts, hlk, hK, hA, hBG, hr, hca, hsl⟩ := hX
  intro H locs ls hP hD hS hL
  have k := hk H locs ls hP hD hS hL
  simp only [List.map_cons, jtoV, jL_shl] at k ⊢
  exact lv_lshl hx hb hd rfl k
theorem jw_lshr {x y : Int} (hX : jOK X) (hd : decode (jcc X) pc = .ok (.lshr, 1)) (hk : jWj X Q (pc + 1) loc (jml (jlshr x y) :: r) σ) : jWj X Q pc loc (jmi y :: jml x :: r) σ := by
  obtain ⟨p, l, e, R, s, m, args, below, meth, c, cc, nL, own, D, cy, A, ad, sh, kd, ca, sl⟩ := X
  obtain ⟨hx, hb, hml, hown, hts, hlk, hK, hA, hBG, hr, hca, hsl⟩ := hX
  intro H locs ls hP hD hS hL
  have k := hk H locs ls hP hD hS hL
  simp only [List.map_cons, jtoV, jL_shr] at k ⊢
  exact lv_lshr hx hb hd rfl k
theorem jw_lcmp {x y : Int} (hX : jOK X) (hd : decode (jcc X) pc = .ok (.lcmp, 1)) (hk : jWj X Q (pc + 1) loc (jmi (jlcmp x y) :: r) σ) : jWj X Q pc loc (jml y :: jml x :: r) σ := by
  obtain ⟨p, l, e, R, s, m, args, below, meth, c, cc, nL, own, D, cy, A, ad, sh, kd, ca, sl⟩ := X
  obtain ⟨hx, hb, hml, hown, hts, hlk, hK, hA, hBG, hr, hca, hsl⟩ := hX
  intro H locs ls hP hD hS hL
  have k := hk H locs ls hP hD hS hL
  simp only [List.map_cons, jtoV, jI_lcmp] at k ⊢
  exact W.lcmp hx hb hd k
theorem jw_i2l {x : Int} (hX : jOK X) (hd : decode (jcc X) pc = .ok (.i2l, 1)) (hk : jWj X Q (pc + 1) loc (jml (jw x) :: r) σ) : jWj X Q pc loc (jmi x :: r) σ := by
  obtain ⟨p, l, e, R, s, m, args, below, meth, c, cc, nL, own, D, cy, A, ad, sh, kd, ca, sl⟩ := X
  obtain ⟨hx, hb, hml, hown, hts, hlk, hK, hA, hBG, hr, hca, hsl⟩ := hX
  intro H locs ls hP hD hS hL
  have k := hk H locs ls hP hD hS hL
  simp only [List.map_cons, jtoV, jL_i] at k ⊢
  exact lv_i2l hx hb hd rfl k
theorem jw_l2i {x : Int} (hX : jOK X) (hd : decode (jcc X) pc = .ok (.l2i, 1)) (hk : jWj X Q (pc + 1) loc (jmi x :: r) σ) : jWj X Q pc loc (jml x :: r) σ := by
  obtain ⟨p, l, e, R, s, m, args, below, meth, c, cc, nL, own, D, cy, A, ad, sh, kd, ca, sl⟩ := X
  obtain ⟨hx, hb, hml, hown, hts, hlk, hK, hA, hBG, hr, hca, hsl⟩ := hX
  intro H locs ls hP hD hS hL
  have k := hk H locs ls hP hD hS hL
  simp only [List.map_cons, jtoV] at k ⊢
  exact lv_l2i hx hb hd (jI_l x).symm k
theorem jw_i2b {x : Int} (hX : jOK X) (hd : decode (jcc X) pc = .ok (.i2b, 1)) (hk : jWj X Q (pc + 1) loc (jmi (jw8 x) :: r) σ) : jWj X Q pc loc (jmi x :: r) σ := by
  obtain ⟨p, l, e, R, s, m, args, below, meth, c, cc, nL, own, D, cy, A, ad, sh, kd, ca, sl⟩ := X
  obtain ⟨hx, hb, hml, hown, hts, hlk, hK, hA, hBG, hr, hca, hsl⟩ := hX
  intro H locs ls hP hD hS hL
  have k := hk H locs ls hP hD hS hL
  simp only [List.map_cons, jtoV, jI_b] at k ⊢
  exact lv_i2b hx hb hd rfl k
theorem jw_iconst {n : Int} (hX : jOK X) (hd : decode (jcc X) pc = .ok (.iconst n, 1)) (hk : jWj X Q (pc + 1) loc (jmi n :: st) σ) : jWj X Q pc loc (st) σ := by
  obtain ⟨p, l, e, R, s, m, args, below, meth, c, cc, nL, own, D, cy, A, ad, sh, kd, ca, sl⟩ := X
  obtain ⟨hx, hb, hml, hown, hts, hlk, hK, hA, hBG, hr, hca, hsl⟩ := hX
  intro H locs ls hP hD hS hL
  have k := hk H locs ls hP hD hS hL
  simp only [List.map_cons, jtoV] at k ⊢
  exact lv_iconst hx hb hd rfl k
theorem jw_bipush {n : Int} (hn : -128 ≤ n ∧ n ≤ 127) (hX : jOK X) (hd : decode (jcc X) pc = .ok (.bipush n, 2)) (hk : jWj X Q (pc + 2) loc (jmi n :: st) σ) : jWj X Q pc loc (st) σ := by
  obtain ⟨p, l, e, R, s, m, args, below, meth, c, cc, nL, own, D, cy, A, ad, sh, kd, ca, sl⟩ := X
  obtain ⟨hx, hb, hml, hown, hts, hlk, hK, hA, hBG, hr, hca, hsl⟩ := hX
  intro H locs ls hP hD hS hL
  have k := hk H locs ls hP hD hS hL
  simp only [List.map_cons, jtoV] at k ⊢
  exact lv_bipush hx hb hd (by apply Int32.toInt_inj.mp; rw [Int8.toInt_toInt32, Int8.toInt_ofInt, jw_toInt, Int.bmod_def]; unfold jw; have : ((Int8.size : Nat) : Int) = 256 := rfl; split <;> simp_all <;> omega) k
theorem jw_sipush {n : Int} (hn : -32768 ≤ n ∧ n ≤ 32767) (hX : jOK X) (hd : decode (jcc X) pc = .ok (.sipush n, 3)) (hk : jWj X Q (pc + 3) loc (jmi n :: st) σ) : jWj X Q pc loc (st) σ := by
  obtain ⟨p, l, e, R, s, m, args, below, meth, c, cc, nL, own, D, cy, A, ad, sh, kd, ca, sl⟩ := X
  obtain ⟨hx, hb, hml, hown, hts, hlk, hK, hA, hBG, hr, hca, hsl⟩ := hX
  intro H locs ls hP hD hS hL
  have k := hk H locs ls hP hD hS hL
  simp only [List.map_cons, jtoV] at k ⊢
  exact lv_sipush hx hb hd (by apply Int32.toInt_inj.mp; rw [Int16.toInt_toInt32, Int16.toInt_ofInt, jw_toInt, Int.bmod_def]; unfold jw; have : ((Int16.size : Nat) : Int) = 65536 := rfl; split <;> simp_all <;> omega) k
theorem jw_lconst {n : Fin 2} (hX : jOK X) (hd : decode (jcc X) pc = .ok (.lconst n, 1)) (hk : jWj X Q (pc + 1) loc (jml (n.val : Int) :: st) σ) : jWj X Q pc loc (st) σ := by
  obtain ⟨p, l, e, R, s, m, args, below, meth, c, cc, nL, own, D, cy, A, ad, sh, kd, ca, sl⟩ := X
  obtain ⟨hx, hb, hml, hown, hts, hlk, hK, hA, hBG, hr, hca, hsl⟩ := hX
  intro H locs ls hP hD hS hL
  have k := hk H locs ls hP hD hS hL
  simp only [List.map_cons, jtoV] at k ⊢
  exact lv_lconst hx hb hd rfl k
theorem jw_null (hX : jOK X) (hd : decode (jcc X) pc = .ok (.aconst_null, 1)) (hk : jWj X Q (pc + 1) loc (jmn :: st) σ) : jWj X Q pc loc (st) σ := by
  obtain ⟨p, l, e, R, s, m, args, below, meth, c, cc, nL, own, D, cy, A, ad, sh, kd, ca, sl⟩ := X
  obtain ⟨hx, hb, hml, hown, hts, hlk, hK, hA, hBG, hr, hca, hsl⟩ := hX
  intro H locs ls hP hD hS hL
  have k := hk H locs ls hP hD hS hL
  simp only [List.map_cons, jtoV] at k ⊢
  exact lv_null hx hb hd k
theorem jw_dupi {x : Int} (hX : jOK X) (hd : decode (jcc X) pc = .ok (.dup, 1)) (hk : jWj X Q (pc + 1) loc (jmi x :: jmi x :: r) σ) : jWj X Q pc loc (jmi x :: r) σ := by
  obtain ⟨p, l, e, R, s, m, args, below, meth, c, cc, nL, own, D, cy, A, ad, sh, kd, ca, sl⟩ := X
  obtain ⟨hx, hb, hml, hown, hts, hlk, hK, hA, hBG, hr, hca, hsl⟩ := hX
  intro H locs ls hP hD hS hL
  have k := hk H locs ls hP hD hS hL
  simp only [List.map_cons, jtoV] at k ⊢
  exact lv_dup hx hb hd rfl k
theorem jw_dupr {x : Nat} (hX : jOK X) (hd : decode (jcc X) pc = .ok (.dup, 1)) (hk : jWj X Q (pc + 1) loc (jmr x :: jmr x :: r) σ) : jWj X Q pc loc (jmr x :: r) σ := by
  obtain ⟨p, l, e, R, s, m, args, below, meth, c, cc, nL, own, D, cy, A, ad, sh, kd, ca, sl⟩ := X
  obtain ⟨hx, hb, hml, hown, hts, hlk, hK, hA, hBG, hr, hca, hsl⟩ := hX
  intro H locs ls hP hD hS hL
  have k := hk H locs ls hP hD hS hL
  simp only [List.map_cons, jtoV] at k ⊢
  exact lv_dup hx hb hd rfl k
theorem jw_dupn (hX : jOK X) (hd : decode (jcc X) pc = .ok (.dup, 1)) (hk : jWj X Q (pc + 1) loc (jmn :: jmn :: r) σ) : jWj X Q pc loc (jmn :: r) σ := by
  obtain ⟨p, l, e, R, s, m, args, below, meth, c, cc, nL, own, D, cy, A, ad, sh, kd, ca, sl⟩ := X
  obtain ⟨hx, hb, hml, hown, hts, hlk, hK, hA, hBG, hr, hca, hsl⟩ := hX
  intro H locs ls hP hD hS hL
  have k := hk H locs ls hP hD hS hL
  simp only [List.map_cons, jtoV] at k ⊢
  exact lv_dup hx hb hd rfl k
theorem jw_dup2r {y : Int} {x : Nat} (hX : jOK X) (hd : decode (jcc X) pc = .ok (.dup2, 1)) (hk : jWj X Q (pc + 1) loc (jmi y :: jmr x :: jmi y :: jmr x :: r) σ) : jWj X Q pc loc (jmi y :: jmr x :: r) σ := by
  obtain ⟨p, l, e, R, s, m, args, below, meth, c, cc, nL, own, D, cy, A, ad, sh, kd, ca, sl⟩ := X
  obtain ⟨hx, hb, hml, hown, hts, hlk, hK, hA, hBG, hr, hca, hsl⟩ := hX
  intro H locs ls hP hD hS hL
  have k := hk H locs ls hP hD hS hL
  simp only [List.map_cons, jtoV] at k ⊢
  exact lv_dup2_11 hx hb hd rfl rfl k
theorem jw_dup2n {y : Int} (hX : jOK X) (hd : decode (jcc X) pc = .ok (.dup2, 1)) (hk : jWj X Q (pc + 1) loc (jmi y :: jmn :: jmi y :: jmn :: r) σ) : jWj X Q pc loc (jmi y :: jmn :: r) σ := by
  obtain ⟨p, l, e, R, s, m, args, below, meth, c, cc, nL, own, D, cy, A, ad, sh, kd, ca, sl⟩ := X
  obtain ⟨hx, hb, hml, hown, hts, hlk, hK, hA, hBG, hr, hca, hsl⟩ := hX
  intro H locs ls hP hD hS hL
  have k := hk H locs ls hP hD hS hL
  simp only [List.map_cons, jtoV] at k ⊢
  exact lv_dup2_11 hx hb hd rfl rfl k
theorem jw_popi {x : Int} (hX : jOK X) (hd : decode (jcc X) pc = .ok (.pop, 1)) (hk : jWj X Q (pc + 1) loc (r) σ) : jWj X Q pc loc (jmi x :: r) σ := by
  obtain ⟨p, l, e, R, s, m, args, below, meth, c, cc, nL, own, D, cy, A, ad, sh, kd, ca, sl⟩ := X
  obtain ⟨hx, hb, hml, hown, hts, hlk, hK, hA, hBG, hr, hca, hsl⟩ := hX
  intro H locs ls hP hD hS hL
  have k := hk H locs ls hP hD hS hL
  simp only [List.map_cons, jtoV] at k ⊢
  exact lv_pop hx hb hd rfl k
theorem jw_popr {x : Nat} (hX : jOK X) (hd : decode (jcc X) pc = .ok (.pop, 1)) (hk : jWj X Q (pc + 1) loc (r) σ) : jWj X Q pc loc (jmr x :: r) σ := by
  obtain ⟨p, l, e, R, s, m, args, below, meth, c, cc, nL, own, D, cy, A, ad, sh, kd, ca, sl⟩ := X
  obtain ⟨hx, hb, hml, hown, hts, hlk, hK, hA, hBG, hr, hca, hsl⟩ := hX
  intro H locs ls hP hD hS hL
  have k := hk H locs ls hP hD hS hL
  simp only [List.map_cons, jtoV] at k ⊢
  exact lv_pop hx hb hd rfl k
theorem jw_popn (hX : jOK X) (hd : decode (jcc X) pc = .ok (.pop, 1)) (hk : jWj X Q (pc + 1) loc (r) σ) : jWj X Q pc loc (jmn :: r) σ := by
  obtain ⟨p, l, e, R, s, m, args, below, meth, c, cc, nL, own, D, cy, A, ad, sh, kd, ca, sl⟩ := X
  obtain ⟨hx, hb, hml, hown, hts, hlk, hK, hA, hBG, hr, hca, hsl⟩ := hX
  intro H locs ls hP hD hS hL
  have k := hk H locs ls hP hD hS hL
  simp only [List.map_cons, jtoV] at k ⊢
  exact lv_pop hx hb hd rfl k
theorem jw_ldi_n {n : Fin 4} {x : Int} (hg : jget loc n.val = some (jmi x)) (hX : jOK X) (hd : decode (jcc X) pc = .ok (.iload_n n, 1)) (hk : jWj X Q (pc + 1) loc (jmi x :: st) σ) : jWj X Q pc loc (st) σ := by
  obtain ⟨p, l, e, R, s, m, args, below, meth, c, cc, nL, own, D, cy, A, ad, sh, kd, ca, sl⟩ := X
  obtain ⟨hx, hb, hml, hown, hts, hlk, hK, hA, hBG, hr, hca, hsl⟩ := hX
  intro H locs ls hP hD hS hL
  have k := hk H locs ls hP hD hS hL
  simp only [List.map_cons, jtoV] at k ⊢
  exact lv_iload_n hx hb hd rfl (hL.2.2.2 _ _ hg) k
theorem jw_ldl_n {n : Fin 4} {x : Int} (hg : jget loc n.val = some (jml x)) (hX : jOK X) (hd : decode (jcc X) pc = .ok (.lload_n n, 1)) (hk : jWj X Q (pc + 1) loc (jml x :: st) σ) : jWj X Q pc loc (st) σ := by
  obtain ⟨p, l, e, R, s, m, args, below, meth, c, cc, nL, own, D, cy, A, ad, sh, kd, ca, sl⟩ := X
  obtain ⟨hx, hb, hml, hown, hts, hlk, hK, hA, hBG, hr, hca, hsl⟩ := hX
  intro H locs ls hP hD hS hL
  have k := hk H locs ls hP hD hS hL
  simp only [List.map_cons, jtoV] at k ⊢
  exact lv_lload_n hx hb hd rfl (hL.2.2.2 _ _ hg) k
theorem jw_lda_n {n : Fin 4} {x : Nat} (hg : jget loc n.val = some (jmr x)) (hX : jOK X) (hd : decode (jcc X) pc = .ok (.aload_n n, 1)) (hk : jWj X Q (pc + 1) loc (jmr x :: st) σ) : jWj X Q pc loc (st) σ := by
  obtain ⟨p, l, e, R, s, m, args, below, meth, c, cc, nL, own, D, cy, A, ad, sh, kd, ca, sl⟩ := X
  obtain ⟨hx, hb, hml, hown, hts, hlk, hK, hA, hBG, hr, hca, hsl⟩ := hX
  intro H locs ls hP hD hS hL
  have k := hk H locs ls hP hD hS hL
  simp only [List.map_cons, jtoV] at k ⊢
  exact lv_aload_n hx hb hd rfl (hL.2.2.2 _ _ hg) k
theorem jw_ldaN_n {n : Fin 4}  (hg : jget loc n.val = some (jmn)) (hX : jOK X) (hd : decode (jcc X) pc = .ok (.aload_n n, 1)) (hk : jWj X Q (pc + 1) loc (jmn :: st) σ) : jWj X Q pc loc (st) σ := by
  obtain ⟨p, l, e, R, s, m, args, below, meth, c, cc, nL, own, D, cy, A, ad, sh, kd, ca, sl⟩ := X
  obtain ⟨hx, hb, hml, hown, hts, hlk, hK, hA, hBG, hr, hca, hsl⟩ := hX
  intro H locs ls hP hD hS hL
  have k := hk H locs ls hP hD hS hL
  simp only [List.map_cons, jtoV] at k ⊢
  exact lv_aload_nN hx hb hd rfl (hL.2.2.2 _ _ hg) k
theorem jw_ldi {n : Nat} {x : Int} (hg : jget loc n = some (jmi x)) (hX : jOK X) (hd : decode (jcc X) pc = .ok (.iload n, 2)) (hk : jWj X Q (pc + 2) loc (jmi x :: st) σ) : jWj X Q pc loc (st) σ := by
  obtain ⟨p, l, e, R, s, m, args, below, meth, c, cc, nL, own, D, cy, A, ad, sh, kd, ca, sl⟩ := X
  obtain ⟨hx, hb, hml, hown, hts, hlk, hK, hA, hBG, hr, hca, hsl⟩ := hX
  intro H locs ls hP hD hS hL
  have k := hk H locs ls hP hD hS hL
  simp only [List.map_cons, jtoV] at k ⊢
  exact lv_iload hx hb hd (hL.2.2.2 _ _ hg) k
theorem jw_ldl {n : Nat} {x : Int} (hg : jget loc n = some (jml x)) (hX : jOK X) (hd : decode (jcc X) pc = .ok (.lload n, 2)) (hk : jWj X Q (pc + 2) loc (jml x :: st) σ) : jWj X Q pc loc (st) σ := by
  obtain ⟨p, l, e, R, s, m, args, below, meth, c, cc, nL, own, D, cy, A, ad, sh, kd, ca, sl⟩ := X
  obtain ⟨hx, hb, hml, hown, hts, hlk, hK, hA, hBG, hr, hca, hsl⟩ := hX
  intro H locs ls hP hD hS hL
  have k := hk H locs ls hP hD hS hL
  simp only [List.map_cons, jtoV] at k ⊢
  exact lv_lload hx hb hd (hL.2.2.2 _ _ hg) k
theorem jw_lda {n : Nat} {x : Nat} (hg : jget loc n = some (jmr x)) (hX : jOK X) (hd : decode (jcc X) pc = .ok (.aload n, 2)) (hk : jWj X Q (pc + 2) loc (jmr x :: st) σ) : jWj X Q pc loc (st) σ := by
  obtain ⟨p, l, e, R, s, m, args, below, meth, c, cc, nL, own, D, cy, A, ad, sh, kd, ca, sl⟩ := X
  obtain ⟨hx, hb, hml, hown, hts, hlk, hK, hA, hBG, hr, hca, hsl⟩ := hX
  intro H locs ls hP hD hS hL
  have k := hk H locs ls hP hD hS hL
  simp only [List.map_cons, jtoV] at k ⊢
  exact lv_aload hx hb hd (hL.2.2.2 _ _ hg) k
theorem jw_ldaN {n : Nat}  (hg : jget loc n = some (jmn)) (hX : jOK X) (hd : decode (jcc X) pc = .ok (.aload n, 2)) (hk : jWj X Q (pc + 2) loc (jmn :: st) σ) : jWj X Q pc loc (st) σ := by
  obtain ⟨p, l, e, R, s, m, args, below, meth, c, cc, nL, own, D, cy, A, ad, sh, kd, ca, sl⟩ := X
  obtain ⟨hx, hb, hml, hown, hts, hlk, hK, hA, hBG, hr, hca, hsl⟩ := hX
  intro H locs ls hP hD hS hL
  have k := hk H locs ls hP hD hS hL
  simp only [List.map_cons, jtoV] at k ⊢
  exact lv_aloadN hx hb hd (hL.2.2.2 _ _ hg) k
theorem jw_sti_n {n : Fin 4} {x : Int} (hX : jOK X) (hn : n.val + 1 ≤ loc.length) (hd : decode (jcc X) pc = .ok (.istore_n n, 1)) (hk : jWj X Q (pc + 1) (jset1 loc n.val (jmi x)) r σ) : jWj X Q pc loc (jmi x :: r) σ := by
  obtain ⟨p, l, e, R, s, m, args, below, meth, c, cc, nL, own, D, cy, A, ad, sh, kd, ca, sl⟩ := X
  obtain ⟨hx, hb, hml, hown, hts, hlk, hK, hA, hBG, hr, hca, hsl⟩ := hX
  intro H locs ls hP hD hS hL
  have hi := hL.2.2.1
  exact lv_istore_n hx hb hd rfl hL.has (by omega) rfl (fun ls' h' => hk H locs ls' hP hD hS (hL.set1 h'))
theorem jw_stl_n {n : Fin 4} {x : Int} (hX : jOK X) (hn : n.val + 2 ≤ loc.length) (hd : decode (jcc X) pc = .ok (.lstore_n n, 1)) (hk : jWj X Q (pc + 1) (jset2 loc n.val (jml x)) r σ) : jWj X Q pc loc (jml x :: r) σ := by
  obtain ⟨p, l, e, R, s, m, args, below, meth, c, cc, nL, own, D, cy, A, ad, sh, kd, ca, sl⟩ := X
  obtain ⟨hx, hb, hml, hown, hts, hlk, hK, hA, hBG, hr, hca, hsl⟩ := hX
  intro H locs ls hP hD hS hL
  have hi := hL.2.2.1
  exact lv_lstore_n hx hb hd rfl hL.has (by omega) rfl (fun ls' h' => hk H locs ls' hP hD hS (hL.set2 h'))
theorem jw_sta_n {n : Fin 4} {x : Nat} (hX : jOK X) (hn : n.val + 1 ≤ loc.length) (hd : decode (jcc X) pc = .ok (.astore_n n, 1)) (hk : jWj X Q (pc + 1) (jset1 loc n.val (jmr x)) r σ) : jWj X Q pc loc (jmr x :: r) σ := by
  obtain ⟨p, l, e, R, s, m, args, below, meth, c, cc, nL, own, D, cy, A, ad, sh, kd, ca, sl⟩ := X
  obtain ⟨hx, hb, hml, hown, hts, hlk, hK, hA, hBG, hr, hca, hsl⟩ := hX
  intro H locs ls hP hD hS hL
  have hi := hL.2.2.1
  exact lv_astore_n hx hb hd rfl hL.has (by omega) rfl (fun ls' h' => hk H locs ls' hP hD hS (hL.set1 h'))
theorem jw_sti {n : Nat} {x : Int} (hX : jOK X) (hn : n + 1 ≤ loc.length) (hd : decode (jcc X) pc = .ok (.istore n, 2)) (hk : jWj X Q (pc + 2) (jset1 loc n (jmi x)) r σ) : jWj X Q pc loc (jmi x :: r) σ := by
  obtain ⟨p, l, e, R, s, m, args, below, meth, c, cc, nL, own, D, cy, A, ad, sh, kd, ca, sl⟩ := X
  obtain ⟨hx, hb, hml, hown, hts, hlk, hK, hA, hBG, hr, hca, hsl⟩ := hX
  intro H locs ls hP hD hS hL
  have hi := hL.2.2.1
  exact lv_istore hx hb hd hL.has (by omega) rfl (fun ls' h' => hk H locs ls' hP hD hS (hL.set1 h'))
theorem jw_stl {n : Nat} {x : Int} (hX : jOK X) (hn : n + 2 ≤ loc.length) (hd : decode (jcc X) pc = .ok (.lstore n, 2)) (hk : jWj X Q (pc + 2) (jset2 loc n (jml x)) r σ) : jWj X Q pc loc (jml x :: r) σ := by
  obtain ⟨p, l, e, R, s, m, args, below, meth, c, cc, nL, own, D, cy, A, ad, sh, kd, ca, sl⟩ := X
  obtain ⟨hx, hb, hml, hown, hts, hlk, hK, hA, hBG, hr, hca, hsl⟩ := hX
  intro H locs ls hP hD hS hL
  have hi := hL.2.2.1
  exact lv_lstore hx hb hd hL.has (by omega) rfl (fun ls' h' => hk H locs ls' hP hD hS (hL.set2 h'))
theorem jw_sta {n : Nat} {x : Nat} (hX : jOK X) (hn : n + 1 ≤ loc.length) (hd : decode (jcc X) pc = .ok (.astore n, 2)) (hk : jWj X Q (pc + 2) (jset1 loc n (jmr x)) r σ) : jWj X Q pc loc (jmr x :: r) σ := by
  obtain ⟨p, l, e, R, s, m, args, below, meth, c, cc, nL, own, D, cy, A, ad, sh, kd, ca, sl⟩ := X
  obtain ⟨hx, hb, hml, hown, hts, hlk, hK, hA, hBG, hr, hca, hsl⟩ := hX
  intro H locs ls hP hD hS hL
  have hi := hL.2.2.1
  exact lv_astore hx hb hd hL.has (by omega) rfl (fun ls' h' => hk H locs ls' hP hD hS (hL.set1 h'))
theorem jw_iinc {n : Nat} {d x : Int} (hX : jOK X) (hg : jget loc n = some (jmi x)) (hn : n + 1 ≤ loc.length) (hd : decode (jcc X) pc = .ok (.iinc n d, 3)) (hk : jWj X Q (pc + 3) (jset1 loc n (jmi (x + d))) st σ) : jWj X Q pc loc st σ := by
  obtain ⟨p, l, e, R, s, m, args, below, meth, c, cc, nL, own, D, cy, A, ad, sh, kd, ca, sl⟩ := X
  obtain ⟨hx, hb, hml, hown, hts, hlk, hK, hA, hBG, hr, hca, hsl⟩ := hX
  intro H locs ls hP hD hS hL
  have hi := hL.2.2.1
  obtain ⟨q, hq⟩ := List.getElem?_of_mem (jlv_of (ad := ad) (n := 0) hg)
  rw [Nat.zero_add] at hq
  exact lv_iinc hx hb hd hL.has hq (jI_add x d).symm (by omega) rfl (fun ls' h' => hk H locs ls' hP hD hS (hL.set1 (v := jmi (x + d)) h'))
theorem jw_if_eq {x : Int} {off : Int} {t : Nat} (hX : jOK X) (ht : (pc : Int) + off = (t : Int)) (hd : decode (jcc X) pc = .ok (.ifCond .eq off, 3)) (kt : (jw x = 0) → jWj X Q t loc r σ) (kf : ¬ (jw x = 0) → jWj X Q (pc + 3) loc r σ) : jWj X Q pc loc (jmi x :: r) σ := by
  obtain ⟨p, l, e, R, s, m, args, below, meth, c, cc, nL, own, D, cy, A, ad, sh, kd, ca, sl⟩ := X
  obtain ⟨hx, hb, hml, hown, hts, hlk, hK, hA, hBG, hr, hca, hsl⟩ := hX
  intro H locs ls hP hD hS hL
  exact lv_if_eq hx hb hd ht (fun q => kt ((jI_eq0 x).mp q) H locs ls hP hD hS hL) (fun q => kf (fun z => q ((jI_eq0 x).mpr z)) H locs ls hP hD hS hL)
theorem jw_if_ne {x : Int} {off : Int} {t : Nat} (hX : jOK X) (ht : (pc : Int) + off = (t : Int)) (hd : decode (jcc X) pc = .ok (.ifCond .ne off, 3)) (kt : (¬ jw x = 0) → jWj X Q t loc r σ) (kf : ¬ (¬ jw x = 0) → jWj X Q (pc + 3) loc r σ) : jWj X Q pc loc (jmi x :: r) σ := by
  obtain ⟨p, l, e, R, s, m, args, below, meth, c, cc, nL, own, D, cy, A, ad, sh, kd, ca, sl⟩ := X
  obtain ⟨hx, hb, hml, hown, hts, hlk, hK, hA, hBG, hr, hca, hsl⟩ := hX
  intro H locs ls hP hD hS hL
  exact lv_if_ne hx hb hd ht (fun q => kt ((not_congr (jI_eq0 x)).mp q) H locs ls hP hD hS hL) (fun q => kf (fun z => z ((jI_eq0 x).mp q)) H locs ls hP hD hS hL)
theorem jw_if_lt {x : Int} {off : Int} {t : Nat} (hX : jOK X) (ht : (pc : Int) + off = (t : Int)) (hd : decode (jcc X) pc = .ok (.ifCond .lt off, 3)) (kt : (jw x < 0) → jWj X Q t loc r σ) (kf : ¬ (jw x < 0) → jWj X Q (pc + 3) loc r σ) : jWj X Q pc loc (jmi x :: r) σ := by
  obtain ⟨p, l, e, R, s, m, args, below, meth, c, cc, nL, own, D, cy, A, ad, sh, kd, ca, sl⟩ := X
  obtain ⟨hx, hb, hml, hown, hts, hlk, hK, hA, hBG, hr, hca, hsl⟩ := hX
  intro H locs ls hP hD hS hL
  exact lv_if_lt hx hb hd ht (fun q => kt ((jI_lt0 x).mp q) H locs ls hP hD hS hL) (fun q => kf (fun z => q ((jI_lt0 x).mpr z)) H locs ls hP hD hS hL)
theorem jw_if_ge {x : Int} {off : Int} {t : Nat} (hX : jOK X) (ht : (pc : Int) + off = (t : Int)) (hd : decode (jcc X) pc = .ok (.ifCond .ge off, 3)) (kt : (¬ jw x < 0) → jWj X Q t loc r σ) (kf : ¬ (¬ jw x < 0) → jWj X Q (pc + 3) loc r σ) : jWj X Q pc loc (jmi x :: r) σ := by
  obtain ⟨p, l, e, R, s, m, args, below, meth, c, cc, nL, own, D, cy, A, ad, sh, kd, ca, sl⟩ := X
  obtain ⟨hx, hb, hml, hown, hts, hlk, hK, hA, hBG, hr, hca, hsl⟩ := hX
  intro H locs ls hP hD hS hL
  exact lv_if_ge hx hb hd ht (fun q => kt (((by rw [← Int32.not_lt, jI_lt0] : (0 : Int32) ≤ jI x ↔ ¬ jw x < 0)).mp q) H locs ls hP hD hS hL) (fun q => kf (fun z => q (((by rw [← Int32.not_lt, jI_lt0] : (0 : Int32) ≤ jI x ↔ ¬ jw x < 0)).mpr z)) H locs ls hP hD hS hL)
theorem jw_if_gt {x : Int} {off : Int} {t : Nat} (hX : jOK X) (ht : (pc : Int) + off = (t : Int)) (hd : decode (jcc X) pc = .ok (.ifCond .gt off, 3)) (kt : (0 < jw x) → jWj X Q t loc r σ) (kf : ¬ (0 < jw x) → jWj X Q (pc + 3) loc r σ) : jWj X Q pc loc (jmi x :: r) σ := by
  obtain ⟨p, l, e, R, s, m, args, below, meth, c, cc, nL, own, D, cy, A, ad, sh, kd, ca, sl⟩ := X
  obtain ⟨hx, hb, hml, hown, hts, hlk, hK, hA, hBG, hr, hca, hsl⟩ := hX
  intro H locs ls hP hD hS hL
  exact lv_if_gt hx hb hd ht (fun q => kt ((jI_gt0 x).mp q) H locs ls hP hD hS hL) (fun q => kf (fun z => q ((jI_gt0 x).mpr z)) H locs ls hP hD hS hL)
theorem jw_if_le {x : Int} {off : Int} {t : Nat} (hX : jOK X) (ht : (pc : Int) + off = (t : Int)) (hd : decode (jcc X) pc = .ok (.ifCond .le off, 3)) (kt : (¬ 0 < jw x) → jWj X Q t loc r σ) (kf : ¬ (¬ 0 < jw x) → jWj X Q (pc + 3) loc r σ) : jWj X Q pc loc (jmi x :: r) σ := by
  obtain ⟨p, l, e, R, s, m, args, below, meth, c, cc, nL, own, D, cy, A, ad, sh, kd, ca, sl⟩ := X
  obtain ⟨hx, hb, hml, hown, hts, hlk, hK, hA, hBG, hr, hca, hsl⟩ := hX
  intro H locs ls hP hD hS hL
  exact lv_if_le hx hb hd ht (fun q => kt (((by rw [← Int32.not_lt, jI_gt0] : jI x ≤ (0 : Int32) ↔ ¬ 0 < jw x)).mp q) H locs ls hP hD hS hL) (fun q => kf (fun z => q (((by rw [← Int32.not_lt, jI_gt0] : jI x ≤ (0 : Int32) ↔ ¬ 0 < jw x)).mpr z)) H locs ls hP hD hS hL)
theorem jw_icmp_eq {x y : Int} {off : Int} {t : Nat} (hX : jOK X) (ht : (pc : Int) + off = (t : Int)) (hd : decode (jcc X) pc = .ok (.if_icmp .eq off, 3)) (kt : (jw x = jw y) → jWj X Q t loc r σ) (kf : ¬ (jw x = jw y) → jWj X Q (pc + 3) loc r σ) : jWj X Q pc loc (jmi y :: jmi x :: r) σ := by
  obtain ⟨p, l, e, R, s, m, args, below, meth, c, cc, nL, own, D, cy, A, ad, sh, kd, ca, sl⟩ := X
  obtain ⟨hx, hb, hml, hown, hts, hlk, hK, hA, hBG, hr, hca, hsl⟩ := hX
  intro H locs ls hP hD hS hL
  exact lv_icmp_eq hx hb hd ht (fun q => kt ((jI_eq x y).mp q) H locs ls hP hD hS hL) (fun q => kf (fun z => q ((jI_eq x y).mpr z)) H locs ls hP hD hS hL)
theorem jw_icmp_ne {x y : Int} {off : Int} {t : Nat} (hX : jOK X) (ht : (pc : Int) + off = (t : Int)) (hd : decode (jcc X) pc = .ok (.if_icmp .ne off, 3)) (kt : (¬ jw x = jw y) → jWj X Q t loc r σ) (kf : ¬ (¬ jw x = jw y) → jWj X Q (pc + 3) loc r σ) : jWj X Q pc loc (jmi y :: jmi x :: r) σ := by
  obtain ⟨p, l, e, R, s, m, args, below, meth, c, cc, nL, own, D, cy, A, ad, sh, kd, ca, sl⟩ := X
  obtain ⟨hx, hb, hml, hown, hts, hlk, hK, hA, hBG, hr, hca, hsl⟩ := hX
  intro H locs ls hP hD hS hL
  exact lv_icmp_ne hx hb hd ht (fun q => kt ((not_congr (jI_eq x y)).mp q) H locs ls hP hD hS hL) (fun q => kf (fun z => z ((jI_eq x y).mp q)) H locs ls hP hD hS hL)
theorem jw_icmp_lt {x y : Int} {off : Int} {t : Nat} (hX : jOK X) (ht : (pc : Int) + off = (t : Int)) (hd : decode (jcc X) pc = .ok (.if_icmp .lt off, 3)) (kt : (jw x < jw y) → jWj X Q t loc r σ) (kf : ¬ (jw x < jw y) → jWj X Q (pc + 3) loc r σ) : jWj X Q pc loc (jmi y :: jmi x :: r) σ := by
  obtain ⟨p, l, e, R, s, m, args, below, meth, c, cc, nL, own, D, cy, A, ad, sh, kd, ca, sl⟩ := X
  obtain ⟨hx, hb, hml, hown, hts, hlk, hK, hA, hBG, hr, hca, hsl⟩ := hX
  intro H locs ls hP hD hS hL
  exact lv_icmp_lt hx hb hd ht (fun q => kt ((jI_lt x y).mp q) H locs ls hP hD hS hL) (fun q => kf (fun z => q ((jI_lt x y).mpr z)) H locs ls hP hD hS hL)
theorem jw_icmp_ge {x y : Int} {off : Int} {t : Nat} (hX : jOK X) (ht : (pc : Int) + off = (t : Int)) (hd : decode (jcc X) pc = .ok (.if_icmp .ge off, 3)) (kt : (¬ jw x < jw y) → jWj X Q t loc r σ) (kf : ¬ (¬ jw x < jw y) → jWj X Q (pc + 3) loc r σ) : jWj X Q pc loc (jmi y :: jmi x :: r) σ := by
  obtain ⟨p, l, e, R, s, m, args, below, meth, c, cc, nL, own, D, cy, A, ad, sh, kd, ca, sl⟩ := X
  obtain ⟨hx, hb, hml, hown, hts, hlk, hK, hA, hBG, hr, hca, hsl⟩ := hX
  intro H locs ls hP hD hS hL
  exact lv_icmp_ge hx hb hd ht (fun q => kt (((by rw [← Int32.not_lt, jI_lt] : jI y ≤ jI x ↔ ¬ jw x < jw y)).mp q) H locs ls hP hD hS hL) (fun q => kf (fun z => q (((by rw [← Int32.not_lt, jI_lt] : jI y ≤ jI x ↔ ¬ jw x < jw y)).mpr z)) H locs ls hP hD hS hL)
theorem jw_icmp_gt {x y : Int} {off : Int} {t : Nat} (hX : jOK X) (ht : (pc : Int) + off = (t : Int)) (hd : decode (jcc X) pc = .ok (.if_icmp .gt off, 3)) (kt : (jw y < jw x) → jWj X Q t loc r σ) (kf : ¬ (jw y < jw x) → jWj X Q (pc + 3) loc r σ) : jWj X Q pc loc (jmi y :: jmi x :: r) σ := by
  obtain ⟨p, l, e, R, s, m, args, below, meth, c, cc, nL, own, D, cy, A, ad, sh, kd, ca, sl⟩ := X
  obtain ⟨hx, hb, hml, hown, hts, hlk, hK, hA, hBG, hr, hca, hsl⟩ := hX
  intro H locs ls hP hD hS hL
  exact lv_icmp_gt hx hb hd ht (fun q => kt ((jI_lt y x).mp q) H locs ls hP hD hS hL) (fun q => kf (fun z => q ((jI_lt y x).mpr z)) H locs ls hP hD hS hL)
theorem jw_icmp_le {x y : Int} {off : Int} {t : Nat} (hX : jOK X) (ht : (pc : Int) + off = (t : Int)) (hd : decode (jcc X) pc = .ok (.if_icmp .le off, 3)) (kt : (¬ jw y < jw x) → jWj X Q t loc r σ) (kf : ¬ (¬ jw y < jw x) → jWj X Q (pc + 3) loc r σ) : jWj X Q pc loc (jmi y :: jmi x :: r) σ := by
  obtain ⟨p, l, e, R, s, m, args, below, meth, c, cc, nL, own, D, cy, A, ad, sh, kd, ca, sl⟩ := X
  obtain ⟨hx, hb, hml, hown, hts, hlk, hK, hA, hBG, hr, hca, hsl⟩ := hX
  intro H locs ls hP hD hS hL
  exact lv_icmp_le hx hb hd ht (fun q => kt (((by rw [← Int32.not_lt, jI_lt] : jI x ≤ jI y ↔ ¬ jw y < jw x)).mp q) H locs ls hP hD hS hL) (fun q => kf (fun z => q (((by rw [← Int32.not_lt, jI_lt] : jI x ≤ jI y ↔ ¬ jw y < jw x)).mpr z)) H locs ls hP hD hS hL)
theorem jw_goto {x : Nat} {off : Int} {t : Nat} (hX : jOK X) (ht : (pc : Int) + off = (t : Int)) (hd : decode (jcc X) pc = .ok (.goto off, 3)) (hk : jWj X Q t loc r σ) : jWj X Q pc loc (r) σ := by
  obtain ⟨p, l, e, R, s, m, args, below, meth, c, cc, nL, own, D, cy, A, ad, sh, kd, ca, sl⟩ := X
  obtain ⟨hx, hb, hml, hown, hts, hlk, hK, hA, hBG, hr, hca, hsl⟩ := hX
  intro H locs ls hP hD hS hL
  exact lv_goto hx hb hd ht (hk H locs ls hP hD hS hL)
theorem jw_ifnull {x : Nat} {off : Int} {t : Nat} (hX : jOK X) (hd : decode (jcc X) pc = .ok (.ifnull off, 3)) (hk : jWj X Q (pc + 3) loc r σ) : jWj X Q pc loc (jmr x :: r) σ := by
  obtain ⟨p, l, e, R, s, m, args, below, meth, c, cc, nL, own, D, cy, A, ad, sh, kd, ca, sl⟩ := X
  obtain ⟨hx, hb, hml, hown, hts, hlk, hK, hA, hBG, hr, hca, hsl⟩ := hX
  intro H locs ls hP hD hS hL
  exact lv_ifnull hx hb hd (hk H locs ls hP hD hS hL)
theorem jw_ifnullN {x : Nat} {off : Int} {t : Nat} (hX : jOK X) (ht : (pc : Int) + off = (t : Int)) (hd : decode (jcc X) pc = .ok (.ifnull off, 3)) (hk : jWj X Q t loc r σ) : jWj X Q pc loc (jmn :: r) σ := by
  obtain ⟨p, l, e, R, s, m, args, below, meth, c, cc, nL, own, D, cy, A, ad, sh, kd, ca, sl⟩ := X
  obtain ⟨hx, hb, hml, hown, hts, hlk, hK, hA, hBG, hr, hca, hsl⟩ := hX
  intro H locs ls hP hD hS hL
  exact lv_ifnullN hx hb hd ht (hk H locs ls hP hD hS hL)
theorem jw_ifnonnull {x : Nat} {off : Int} {t : Nat} (hX : jOK X) (ht : (pc : Int) + off = (t : Int)) (hd : decode (jcc X) pc = .ok (.ifnonnull off, 3)) (hk : jWj X Q t loc r σ) : jWj X Q pc loc (jmr x :: r) σ := by
  obtain ⟨p, l, e, R, s, m, args, below, meth, c, cc, nL, own, D, cy, A, ad, sh, kd, ca, sl⟩ := X
  obtain ⟨hx, hb, hml, hown, hts, hlk, hK, hA, hBG, hr, hca, hsl⟩ := hX
  intro H locs ls hP hD hS hL
  exact lv_ifnonnull hx hb hd ht (hk H locs ls hP hD hS hL)
theorem jw_ifnonnullN {x : Nat} {off : Int} {t : Nat} (hX : jOK X) (hd : decode (jcc X) pc = .ok (.ifnonnull off, 3)) (hk : jWj X Q (pc + 3) loc r σ) : jWj X Q pc loc (jmn :: r) σ := by
  obtain ⟨p, l, e, R, s, m, args, below, meth, c, cc, nL, own, D, cy, A, ad, sh, kd, ca, sl⟩ := X
  obtain ⟨hx, hb, hml, hown, hts, hlk, hK, hA, hBG, hr, hca, hsl⟩ := hX
  intro H locs ls hP hD hS hL
  exact lv_ifnonnullN hx hb hd (hk H locs ls hP hD hS hL)
theorem jw_iaload {x : Int} {id n : Nat} (hX : jOK X) (hs : (jsh X)[id]? = some (.inr (.inl (0, n)))) (hn : n < 2 ^ 31) (hi : 0 ≤ x ∧ x < (n : Int)) (hd : decode (jcc X) pc = .ok (.iaload, 1)) (hk : jWj X Q (pc + 1) loc (jmi (σ id x) :: r) σ) : jWj X Q pc loc (jmi x :: jmr id :: r) σ := by
  obtain ⟨p, l, e, R, s, m, args, below, meth, c, cc, nL, own, D, cy, A, ad, sh, kd, ca, sl⟩ := X
  obtain ⟨hx, hb, hml, hown, hts, hlk, hK, hA, hBG, hr, hca, hsl⟩ := hX
  intro H locs ls hP hD hS hL
  have k := hk H locs ls hP hD hS hL
  obtain ⟨h1, h2⟩ := j_in hn hi
  refine va_iald hx hb hK hP id 0 (jW_get hs) rfl h1 hd ?_
  rw [h2, Int.toNat_of_nonneg hi.1]
  exact k
theorem jw_baload {x : Int} {id n : Nat} (hX : jOK X) (hs : (jsh X)[id]? = some (.inr (.inl (1, n)))) (hn : n < 2 ^ 31) (hi : 0 ≤ x ∧ x < (n : Int)) (hd : decode (jcc X) pc = .ok (.baload, 1)) (hk : jWj X Q (pc + 1) loc (jmi (σ id x) :: r) σ) : jWj X Q pc loc (jmi x :: jmr id :: r) σ := by
  obtain ⟨p, l, e, R, s, m, args, below, meth, c, cc, nL, own, D, cy, A, ad, sh, kd, ca, sl⟩ := X
  obtain ⟨hx, hb, hml, hown, hts, hlk, hK, hA, hBG, hr, hca, hsl⟩ := hX
  intro H locs ls hP hD hS hL
  have k := hk H locs ls hP hD hS hL
  obtain ⟨h1, h2⟩ := j_in hn hi
  refine va_bald hx hb hK hP id 1 (jW_get hs) rfl h1 hd ?_
  rw [h2, Int.toNat_of_nonneg hi.1]
  exact k
theorem jw_zaload {x : Int} {id n : Nat} (hX : jOK X) (hs : (jsh X)[id]? = some (.inr (.inl (2, n)))) (hn : n < 2 ^ 31) (hi : 0 ≤ x ∧ x < (n : Int)) (hd : decode (jcc X) pc = .ok (.baload, 1)) (hk : jWj X Q (pc + 1) loc (jmi (σ id x) :: r) σ) : jWj X Q pc loc (jmi x :: jmr id :: r) σ := by
  obtain ⟨p, l, e, R, s, m, args, below, meth, c, cc, nL, own, D, cy, A, ad, sh, kd, ca, sl⟩ := X
  obtain ⟨hx, hb, hml, hown, hts, hlk, hK, hA, hBG, hr, hca, hsl⟩ := hX
  intro H locs ls hP hD hS hL
  have k := hk H locs ls hP hD hS hL
  obtain ⟨h1, h2⟩ := j_in hn hi
  refine va_zald hx hb hK hP id 2 (jW_get hs) rfl h1 hd ?_
  rw [h2, Int.toNat_of_nonneg hi.1]
  exact k
theorem jw_laload {x : Int} {id n : Nat} (hX : jOK X) (hs : (jsh X)[id]? = some (.inr (.inl (3, n)))) (hn : n < 2 ^ 31) (hi : 0 ≤ x ∧ x < (n : Int)) (hd : decode (jcc X) pc = .ok (.laload, 1)) (hk : jWj X Q (pc + 1) loc (jml (σ id x) :: r) σ) : jWj X Q pc loc (jmi x :: jmr id :: r) σ := by
  obtain ⟨p, l, e, R, s, m, args, below, meth, c, cc, nL, own, D, cy, A, ad, sh, kd, ca, sl⟩ := X
  obtain ⟨hx, hb, hml, hown, hts, hlk, hK, hA, hBG, hr, hca, hsl⟩ := hX
  intro H locs ls hP hD hS hL
  have k := hk H locs ls hP hD hS hL
  obtain ⟨h1, h2⟩ := j_in hn hi
  refine va_lald hx hb hK hP id 3 (jW_get hs) rfl h1 hd ?_
  rw [h2, Int.toNat_of_nonneg hi.1]
  exact k
theorem jw_iastore {x v : Int} {id n : Nat} (hX : jOK X) (hs : (jsh X)[id]? = some (.inr (.inl (0, n)))) (hn : n < 2 ^ 31) (hi : 0 ≤ x ∧ x < (n : Int)) (hd : decode (jcc X) pc = .ok (.iastore, 1)) (hk : jWj X Q (pc + 1) loc r (jup σ id x (v))) : jWj X Q pc loc (jmi v :: jmi x :: jmr id :: r) σ := by
  obtain ⟨p, l, e, R, s, m, args, below, meth, c, cc, nL, own, D, cy, A, ad, sh, kd, ca, sl⟩ := X
  obtain ⟨hx, hb, hml, hown, hts, hlk, hK, hA, hBG, hr, hca, hsl⟩ := hX
  intro H locs ls hP hD hS hL
  obtain ⟨h1, h2⟩ := j_in hn hi
  refine va_iast hx hb hK hP hD hS id 0 (jW_get hs) rfl h1 hd (fun H1 locs1 hP1 hD1 hS1 => ?_)
  have he : upd (fun j : Nat => jI (σ id (j : Int))) (jI x).toNatClampNeg (jI v) = fun j : Nat => jI (jup σ id x (v) id (j : Int)) := by
    funext j
    have hx0 := Int.toNat_of_nonneg hi.1
    simp only [upd, h2, jup, true_and]
    by_cases hj : j = x.toNat
    · have hz : (j : Int) = x := by omega
      simp [hj, hx0]
    · have hz : ¬ (j : Int) = x := by omega
      simp [hj, hz]
  have e := jW_set (ad := ad) (cy := cy) (sh := sh) (σ := σ) (k := x) (v := v) (e := .inl (cy 0, n, .inl (upd (fun j : Nat => jI (σ id (j : Int))) (jI x).toNatClampNeg (jI v)))) hs (by rw [he]; rfl)
  exact hk H1 locs1 ls (e ▸ hP1) (e ▸ hD1) hS1 hL
theorem jw_bastore {x v : Int} {id n : Nat} (hX : jOK X) (hs : (jsh X)[id]? = some (.inr (.inl (1, n)))) (hn : n < 2 ^ 31) (hi : 0 ≤ x ∧ x < (n : Int)) (hd : decode (jcc X) pc = .ok (.bastore, 1)) (hk : jWj X Q (pc + 1) loc r (jup σ id x (jw8 v))) : jWj X Q pc loc (jmi v :: jmi x :: jmr id :: r) σ := by
  obtain ⟨p, l, e, R, s, m, args, below, meth, c, cc, nL, own, D, cy, A, ad, sh, kd, ca, sl⟩ := X
  obtain ⟨hx, hb, hml, hown, hts, hlk, hK, hA, hBG, hr, hca, hsl⟩ := hX
  intro H locs ls hP hD hS hL
  obtain ⟨h1, h2⟩ := j_in hn hi
  refine va_bast hx hb hK hP hD hS id 1 (jW_get hs) rfl h1 hd (fun H1 locs1 hP1 hD1 hS1 => ?_)
  have he : upd (fun j : Nat => jI (σ id (j : Int))) (jI x).toNatClampNeg (vp_nar .byte (jI v)) = fun j : Nat => jI (jup σ id x (jw8 v) id (j : Int)) := by
    funext j
    have hx0 := Int.toNat_of_nonneg hi.1
    simp only [upd, h2, jup, vp_nar_byte, jI_b, true_and]
    by_cases hj : j = x.toNat
    · have hz : (j : Int) = x := by omega
      simp [hj, hx0, jI_b]
    · have hz : ¬ (j : Int) = x := by omega
      simp [hj, hz]
  have e := jW_set (ad := ad) (cy := cy) (sh := sh) (σ := σ) (k := x) (v := jw8 v) (e := .inl (cy 1, n, .inl (upd (fun j : Nat => jI (σ id (j : Int))) (jI x).toNatClampNeg (vp_nar .byte (jI v))))) hs (by rw [he]; rfl)
  exact hk H1 locs1 ls (e ▸ hP1) (e ▸ hD1) hS1 hL
theorem jw_zastore {x v : Int} {id n : Nat} (hX : jOK X) (hs : (jsh X)[id]? = some (.inr (.inl (2, n)))) (hn : n < 2 ^ 31) (hi : 0 ≤ x ∧ x < (n : Int)) (hd : decode (jcc X) pc = .ok (.bastore, 1)) (hk : jWj X Q (pc + 1) loc r (jup σ id x (v % 2))) : jWj X Q pc loc (jmi v :: jmi x :: jmr id :: r) σ := by
  obtain ⟨p, l, e, R, s, m, args, below, meth, c, cc, nL, own, D, cy, A, ad, sh, kd, ca, sl⟩ := X
  obtain ⟨hx, hb, hml, hown, hts, hlk, hK, hA, hBG, hr, hca, hsl⟩ := hX
  intro H locs ls hP hD hS hL
  obtain ⟨h1, h2⟩ := j_in hn hi
  refine va_zast hx hb hK hP hD hS id 2 (jW_get hs) rfl h1 hd (fun H1 locs1 hP1 hD1 hS1 => ?_)
  have he : upd (fun j : Nat => jI (σ id (j : Int))) (jI x).toNatClampNeg (vp_nar .boolean (jI v)) = fun j : Nat => jI (jup σ id x (v % 2) id (j : Int)) := by
    funext j
    have hx0 := Int.toNat_of_nonneg hi.1
    simp only [upd, h2, jup, jnar_z, true_and]
    by_cases hj : j = x.toNat
    · have hz : (j : Int) = x := by omega
      simp [hj, hx0]
    · have hz : ¬ (j : Int) = x := by omega
      simp [hj, hz]
  have e := jW_set (ad := ad) (cy := cy) (sh := sh) (σ := σ) (k := x) (v := v % 2) (e := .inl (cy 2, n, .inl (upd (fun j : Nat => jI (σ id (j : Int))) (jI x).toNatClampNeg (vp_nar .boolean (jI v))))) hs (by rw [he]; rfl)
  exact hk H1 locs1 ls (e ▸ hP1) (e ▸ hD1) hS1 hL
theorem jw_lastore {x v : Int} {id n : Nat} (hX : jOK X) (hs : (jsh X)[id]? = some (.inr (.inl (3, n)))) (hn : n < 2 ^ 31) (hi : 0 ≤ x ∧ x < (n : Int)) (hd : decode (jcc X) pc = .ok (.lastore, 1)) (hk : jWj X Q (pc + 1) loc r (jup σ id x (v))) : jWj X Q pc loc (jml v :: jmi x :: jmr id :: r) σ := by
  obtain ⟨p, l, e, R, s, m, args, below, meth, c, cc, nL, own, D, cy, A, ad, sh, kd, ca, sl⟩ := X
  obtain ⟨hx, hb, hml, hown, hts, hlk, hK, hA, hBG, hr, hca, hsl⟩ := hX
  intro H locs ls hP hD hS hL
  obtain ⟨h1, h2⟩ := j_in hn hi
  refine va_last hx hb hK hP hD hS id 3 (jW_get hs) rfl h1 hd (fun H1 locs1 hP1 hD1 hS1 => ?_)
  have he : vp_updL (fun j : Nat => jL (σ id (j : Int))) (jI x).toNatClampNeg (jL v) = fun j : Nat => jL (jup σ id x (v) id (j : Int)) := by
    funext j
    have hx0 := Int.toNat_of_nonneg hi.1
    simp only [vp_updL, h2, jup, true_and]
    by_cases hj : j = x.toNat
    · have hz : (j : Int) = x := by omega
      simp [hj, hx0]
    · have hz : ¬ (j : Int) = x := by omega
      simp [hj, hz]
  have e := jW_set (ad := ad) (cy := cy) (sh := sh) (σ := σ) (k := x) (v := v) (e := .inl (cy 3, n, .inr (.inl (vp_updL (fun j : Nat => jL (σ id (j : Int))) (jI x).toNatClampNeg (jL v))))) hs (by rw [he]; rfl)
  exact hk H1 locs1 ls (e ▸ hP1) (e ▸ hD1) hS1 hL
end JS
end
section
/-! Fields, calls, returns; a whole run of the small machine. -/
/-- field f of class ci, as the class 'own' links it by a number of its pool -/
def jFl (own : String) (idx ci f : Nat) : Prop := ∃ (C : String) (T : u_T) (N : Nat) (ty : Nat → FieldType), vwCl[ci]? = some (C, T, N) ∧ f < N ∧ (∀ w ∈ u_ws C T N, w ∈ jTB) ∧ (∀ k, k < N → parseFieldDescriptor (T k).2.2.1 = some (ty k)) ∧ (∀ a, a < N → ∀ b, b < N → a ≠ b → (T a).2.1 ≠ (T b).2.1) ∧ (∀ k, k < N → (T k).1 = C) ∧
  (Cond.fieldLink own idx C (T f).2.1 (T f).2.2.1 ∈ jTB ∨ ∃ host, Cond.fieldLinkNest own idx C (T f).2.1 (T f).2.2.1 host ∈ jNS)
/-- what may be written to field f of class ci: its kind (0 an int, 1 a long, 2 a boolean) -/
def jpt (kd : Nat) : FieldType := match kd with
  | 0 => .int
  | 1 => .long
  | _ => .boolean
def jPf (ci f kd : Nat) : Prop := ∃ (C : String) (T : u_T) (N : Nat), vwCl[ci]? = some (C, T, N) ∧ (T f).2.2.2 = false ∧ parseFieldDescriptor (T f).2.2.1 = some (jpt kd)
section JR
variable {X : jxX} {Q : State → Prop} {pc : Nat} {loc : jxL} {r st : List jxV} {σ : jxS}
theorem jfs_at {ad : Nat → Nat} {f : Int → Int} {fks : List jxF} {k : Nat} {fk : jxF} (h : fks[k]? = some fk) : (fks.mapIdx (fun k fk => jfv ad f k fk))[k]? = some (jfv ad f k fk) := by
  simp [List.getElem?_mapIdx, h]
theorem jw_get {id idx ci f : Nat} {fks : List jxF} {fk : jxF} {v : jxV} (hX : jOK X) (hs : (jsh X)[id]? = some (.inl (ci, fks))) (hf : fks[f]? = some fk) (hv : ∀ ad, jfv ad (σ id) f fk = jtoV ad v) (hl : jFl (jown X) idx ci f) (hd : decode (jcc X) pc = .ok (.getfield idx, 3)) (hk : jWj X Q (pc + 3) loc (v :: r) σ) : jWj X Q pc loc (jmr id :: r) σ := by
  obtain ⟨p, l, e, R, s, m, args, below, meth, c, cc, nL, own, D, cy, A, ad, sh, kd, ca, sl⟩ := X
  obtain ⟨hx, hb, hml, hown, hts, hlk, hK, hA, hBG, hr, hca, hsl⟩ := hX
  intro H locs ls hP hD hS hL
  have k := hk H locs ls hP hD hS hL
  obtain ⟨C, T, N, ty, h1, h2, h3, h4, h5, h6, h7⟩ := hl
  have e := jfs_at (ad := ad) (f := σ id) hf
  rw [hv] at e
  rcases h7 with h7 | ⟨host, h7⟩
  · exact va_get hx hb hts h3 hown hK hP id (jW_get hs) h1 f h2 (hts _ h7) (by rw [h6 f h2]; exact fun _ h => h) e hd k
  · exact va_getN hx hb hts h3 hown hK hP id (jW_get hs) h1 f h2 (va_Nw.use rfl (hBG.1 _ h7)) (by rw [h6 f h2]; exact fun _ h => h) e hd k
theorem jfs_set {ad : Nat → Nat} {σ : jxS} {id : Nat} {v : Int} {w : Value} {fks : List jxF} {f : Nat} {fk : jxF} (h : fks[f]? = some fk) (hw : jfv ad (jup σ id f v id) f fk = w) : (fks.mapIdx (fun k fk => jfv ad (σ id) k fk)).set f w = fks.mapIdx (fun k fk => jfv ad (jup σ id f v id) k fk) := by
  refine List.ext_getElem? fun a => ?_
  by_cases ha : a = f
  · subst ha
    have hl : a < (fks.mapIdx (fun k fk => jfv ad (σ id) k fk)).length := by
      rw [List.length_mapIdx]
      exact (List.getElem?_eq_some_iff.mp h).1
    rw [List.getElem?_set_self hl, List.getElem?_mapIdx, h, ← hw]
    rfl
  · rw [List.getElem?_set_ne (Ne.symm ha), List.getElem?_mapIdx, List.getElem?_mapIdx]
    have e : ∀ fk, jfv ad (jup σ id f v id) a fk = jfv ad (σ id) a fk := by
      intro fk
      have h9 : jup σ id f v id (a : Int) = σ id (a : Int) := by
        have : ¬ (a : Int) = (f : Int) := by omega
        simp [jup, this]
      unfold jfv
      rw [h9]
    simp [e]
theorem jw_put {id idx ci f : Nat} {fks : List jxF} {fk : jxF} {v : Int} {w : jxV} {kd' : Nat} (hX : jOK X) (hs : (jsh X)[id]? = some (.inl (ci, fks))) (hf : fks[f]? = some fk) (hv : ∀ ad, jfv ad (jup σ id f v id) f fk = jtoV ad w) (hl : jFl (jown X) idx ci f) (hp : jPf ci f kd') (hn : ∀ ad, narrow (jpt kd') (jtoV ad w) = jtoV ad w ∧ fits (jpt kd') (jtoV ad w) = true) (hd : decode (jcc X) pc = .ok (.putfield idx, 3)) (hk : jWj X Q (pc + 3) loc r (jup σ id f v)) : jWj X Q pc loc (w :: jmr id :: r) σ := by
  obtain ⟨p, l, e, R, s, m, args, below, meth, c, cc, nL, own, D, cy, A, ad, sh, kd, ca, sl⟩ := X
  obtain ⟨hx, hb, hml, hown, hts, hlk, hK, hA, hBG, hr, hca, hsl⟩ := hX
  intro H locs ls hP hD hS hL
  obtain ⟨C, T, N, ty, h1, h2, h3, h4, h5, h6, h7⟩ := hl
  obtain ⟨C', T', N', g1, g2, g3⟩ := hp
  cases h1.symm.trans g1
  have hlen : f < (fks.mapIdx (fun k fk => jfv ad (σ id) k fk)).length := by
    rw [List.length_mapIdx]
    exact (List.getElem?_eq_some_iff.mp hf).1
  have e0 := jfs_set (ad := ad) (σ := σ) (id := id) (v := v) hf (hv ad)
  have e := jW_set (ad := ad) (cy := cy) (sh := sh) (σ := σ) (k := (f : Int)) (v := v) (e := .inr (ci, (fks.mapIdx (fun k fk => jfv ad (σ id) k fk)).set f (jtoV ad w))) hs (by rw [e0]; rfl)
  rcases h7 with h7 | ⟨host, h7⟩
  · exact va_put hx hb hts h3 ty h4 h5 hown hK hP hD hS id (jW_get hs) h1 f h2 (hts _ h7) (by rw [h6 f h2]; exact fun _ h => h) g2 g3 (hn ad).1 (hn ad).2 hlen hd (fun H1 locs1 hP1 hD1 hS1 => hk H1 locs1 ls (e ▸ hP1) (e ▸ hD1) hS1 hL)
  · exact va_putN hx hb hts h3 ty h4 h5 hown hK hP hD hS id (jW_get hs) h1 f h2 (va_Nw.use rfl (hBG.1 _ h7)) (by rw [h6 f h2]; exact fun _ h => h) g2 g3 (hn ad).1 (hn ad).2 hlen hd (fun H1 locs1 hP1 hD1 hS1 => hk H1 locs1 ls (e ▸ hP1) (e ▸ hD1) hS1 hL)
theorem jw_alen {id n : Nat} (hX : jOK X) (hs : (jsh X)[id]? = some (.inr (.inl (0, n)))) (hd : decode (jcc X) pc = .ok (.arraylength, 1)) (hk : jWj X Q (pc + 1) loc (jmi (n : Int) :: r) σ) : jWj X Q pc loc (jmr id :: r) σ := by
  obtain ⟨p, l, e, R, s, m, args, below, meth, c, cc, nL, own, D, cy, A, ad, sh, kd, ca, sl⟩ := X
  obtain ⟨hx, hb, hml, hown, hts, hlk, hK, hA, hBG, hr, hca, hsl⟩ := hX
  intro H locs ls hP hD hS hL
  exact va_alen hx hb hK hP id 0 (jW_get hs) rfl (by show Int32.ofNat n = Int32.ofInt (n : Int); simp [Int32.ofInt, Int32.ofNat]) hd (hk H locs ls hP hD hS hL)
theorem jw_lalen {id n : Nat} (hX : jOK X) (hs : (jsh X)[id]? = some (.inr (.inl (3, n)))) (hd : decode (jcc X) pc = .ok (.arraylength, 1)) (hk : jWj X Q (pc + 1) loc (jmi (n : Int) :: r) σ) : jWj X Q pc loc (jmr id :: r) σ := by
  obtain ⟨p, l, e, R, s, m, args, below, meth, c, cc, nL, own, D, cy, A, ad, sh, kd, ca, sl⟩ := X
  obtain ⟨hx, hb, hml, hown, hts, hlk, hK, hA, hBG, hr, hca, hsl⟩ := hX
  intro H locs ls hP hD hS hL
  exact va_alen hx hb hK hP id 3 (jW_get hs) rfl (by show Int32.ofNat n = Int32.ofInt (n : Int); simp [Int32.ofInt, Int32.ofNat]) hd (hk H locs ls hP hD hS hL)
/-- tables that nobody writes -/
def jTt (id : Nat) (tb : List Int) : Prop := (id = 1000 ∧ tb = jtab0) ∨ (id = 1001 ∧ tb = jtab1)
theorem jTt_T {id : Nat} {tb : List Int} (h : jTt id tb) {ad : Nat → Nat} {A : Nat → Prop} {s : State} (hB : jBG ad A s) : va_T .int (ad id) tb.length (fun j => .int (jI (tb.getD j 0))) A s s.heap ∧ tb.length < 2 ^ 31 := by
  rcases h with ⟨rfl, rfl⟩ | ⟨rfl, rfl⟩
  · exact ⟨hB.2.2.1, by decide⟩
  · exact ⟨hB.2.2.2.2.1, by decide⟩
theorem jw_tald {x : Int} {id : Nat} {tb : List Int} (hX : jOK X) (hs : jTt id tb) (hi : 0 ≤ x ∧ x < (tb.length : Int)) (hd : decode (jcc X) pc = .ok (.iaload, 1)) (hk : jWj X Q (pc + 1) loc (jmi (tb.getD x.toNat 0) :: r) σ) : jWj X Q pc loc (jmi x :: jmr id :: r) σ := by
  obtain ⟨p, l, e, R, s, m, args, below, meth, c, cc, nL, own, D, cy, A, ad, sh, kd, ca, sl⟩ := X
  obtain ⟨hx, hb, hml, hown, hts, hlk, hK, hA, hBG, hr, hca, hsl⟩ := hX
  intro H locs ls hP hD hS hL
  obtain ⟨hT, hn⟩ := jTt_T hs hBG
  obtain ⟨h1, h2⟩ := j_in hn hi
  exact va_ti hx hb hT hS h1 (by rw [h2]; rfl) hd (hk H locs ls hP hD hS hL)
theorem jw_talen {id : Nat} {tb : List Int} (hX : jOK X) (hs : jTt id tb) (hd : decode (jcc X) pc = .ok (.arraylength, 1)) (hk : jWj X Q (pc + 1) loc (jmi (tb.length : Int) :: r) σ) : jWj X Q pc loc (jmr id :: r) σ := by
  obtain ⟨p, l, e, R, s, m, args, below, meth, c, cc, nL, own, D, cy, A, ad, sh, kd, ca, sl⟩ := X
  obtain ⟨hx, hb, hml, hown, hts, hlk, hK, hA, hBG, hr, hca, hsl⟩ := hX
  intro H locs ls hP hD hS hL
  obtain ⟨hT, hn⟩ := jTt_T hs hBG
  exact va_tlen hx hb hT hS (by show Int32.ofNat _ = Int32.ofInt (_ : Int); simp [Int32.ofInt, Int32.ofNat]) hd (hk H locs ls hP hD hS hL)
/-- an instruction of n bytes that puts v on the stack -/
def jLd (X : jxX) (i : Instr) (n : Nat) (v : jxV) : Prop := ∀ (Q : State → Prop) (pc : Nat) (loc : jxL) (st : List jxV) (σ : jxS), decode (jcc X) pc = .ok (i, n) → jWj X Q (pc + n) loc (v :: st) σ → jWj X Q pc loc st σ
theorem jLd_int {idx : Nat} {x : Int} (hX : jOK X) (h : Cond.constant (jown X) idx (jI x) ∈ jTB) : jLd X (.ldc idx) 2 (jmi x) := by
  intro Q pc loc st σ hd hk
  obtain ⟨p, l, e, R, s, m, args, below, meth, c, cc, nL, own, D, cy, A, ad, sh, kd, ca, sl⟩ := X
  obtain ⟨hx, hb, hml, hown, hts, hlk, hK, hA, hBG, hr, hca, hsl⟩ := hX
  intro H locs ls hP hD hS hL
  exact lv_ldc hx hb hown (hts _ h) hd (hk H locs ls hP hD hS hL)
theorem jLd_long {idx : Nat} {x : Int} (hX : jOK X) (h : Cond.constantLong (jown X) idx (jL x) ∈ jTB) : jLd X (.ldc2_w idx) 3 (jml x) := by
  intro Q pc loc st σ hd hk
  obtain ⟨p, l, e, R, s, m, args, below, meth, c, cc, nL, own, D, cy, A, ad, sh, kd, ca, sl⟩ := X
  obtain ⟨hx, hb, hml, hown, hts, hlk, hK, hA, hBG, hr, hca, hsl⟩ := hX
  intro H locs ls hP hD hS hL
  exact lv_ldc2 hx hb hown (hts _ h) hd (hk H locs ls hP hD hS hL)
theorem jLd_text (i : Nat) (hi : i < 4) (hX : jOK X) (ho : jown X = jsown) : jLd X (.ldc (jsidx i)) 2 (jmr (1002 + i)) := by
  intro Q pc loc st σ hd hk
  obtain ⟨p, l, e, R, s, m, args, below, meth, c, cc, nL, own, D, cy, A, ad, sh, kd, ca, sl⟩ := X
  obtain ⟨hx, hb, hml, hown, hts, hlk, hK, hA, hBG, hr, hca, hsl⟩ := hX
  have ho : own = jsown := ho
  subst ho
  intro H locs ls hP hD hS hL
  exact va_ldcS hx hb hown (hBG.2.2.2.2.2.2.1 i hi) hd (hk H locs ls hP hD hS hL)
theorem jLd_st0 {idx : Nat} (hX : jOK X) (h : Cond.fieldLink (jown X) idx "LastLoses$Values" "BESIDE_MOVES" "[I" ∈ jTB) : jLd X (.getstatic idx) 3 (jmr 1000) := by
  intro Q pc loc st σ hd hk
  obtain ⟨p, l, e, R, s, m, args, below, meth, c, cc, nL, own, D, cy, A, ad, sh, kd, ca, sl⟩ := X
  obtain ⟨hx, hb, hml, hown, hts, hlk, hK, hA, hBG, hr, hca, hsl⟩ := hX
  intro H locs ls hP hD hS hL
  exact va_gets hx hb hBG.2.1 hS hown (hts _ h) (fun _ q => q) hd (hk H locs ls hP hD hS hL)
theorem jLd_st1 {idx : Nat} (hX : jOK X) (h : Cond.fieldLink (jown X) idx "LastLoses$Values" "BESIDE_OF_GENUS" "[I" ∈ jTB) : jLd X (.getstatic idx) 3 (jmr 1001) := by
  intro Q pc loc st σ hd hk
  obtain ⟨p, l, e, R, s, m, args, below, meth, c, cc, nL, own, D, cy, A, ad, sh, kd, ca, sl⟩ := X
  obtain ⟨hx, hb, hml, hown, hts, hlk, hK, hA, hBG, hr, hca, hsl⟩ := hX
  intro H locs ls hP hD hS hL
  exact va_gets hx hb hBG.2.2.2.1 hS hown (hts _ h) (fun _ q => q) hd (hk H locs ls hP hD hS hL)
theorem jw_aald {x : Int} {id n : Nat} (hX : jOK X) (hs : (jsh X)[id]? = some (.inr (.inl (4, n)))) (hn : n < 2 ^ 31) (hi : 0 ≤ x ∧ x < (n : Int)) (hd : decode (jcc X) pc = .ok (.aaload, 1)) (hk : jWj X Q (pc + 1) loc ((if σ id x = 0 then jmn else jmr (σ id x).toNat) :: r) σ) : jWj X Q pc loc (jmi x :: jmr id :: r) σ := by
  obtain ⟨p, l, e, R, s, m, args, below, meth, c, cc, nL, own, D, cy, A, ad, sh, kd, ca, sl⟩ := X
  obtain ⟨hx, hb, hml, hown, hts, hlk, hK, hA, hBG, hr, hca, hsl⟩ := hX
  intro H locs ls hP hD hS hL
  have k := hk H locs ls hP hD hS hL
  obtain ⟨h1, h2⟩ := j_in hn hi
  refine va_aldq hx hb hK hP id 4 (jW_get hs) rfl h1 hd ?_
  rw [h2, Int.toNat_of_nonneg hi.1]
  simp only [List.map_cons] at k
  unfold jrf
  split
  · rename_i h0
    rw [if_pos h0] at k
    exact k
  · rename_i h0
    rw [if_neg h0] at k
    exact k
theorem jw_sw {d lo hi : Int} {offs : Array Int} {len : Nat} {x : Int} (hX : jOK X) (hd : decode (jcc X) pc = .ok (.tableswitch d lo hi offs, len)) (hh : hi = lo + (offs.toList.length : Int) - 1)
    (hout : ∀ t : Nat, (pc : Int) + d = (t : Int) → (jw x < lo ∨ hi < jw x) → jWj X Q t loc r σ) (hin : ∀ (j : Nat) (off : Int) (t : Nat), offs.toList[j]? = some off → jw x = lo + j → (pc : Int) + off = (t : Int) → jWj X Q t loc r σ)
    (h1 : (jw x < lo ∨ hi < jw x) → 0 ≤ (pc : Int) + d) (h2 : ∀ (j : Nat) (off : Int), offs.toList[j]? = some off → jw x = lo + j → 0 ≤ (pc : Int) + off) : jWj X Q pc loc (jmi x :: r) σ := by
  obtain ⟨p, l, e, R, s, m, args, below, meth, c, cc, nL, own, D, cy, A, ad, sh, kd, ca, sl⟩ := X
  obtain ⟨hx, hb, hml, hown, hts, hlk, hK, hA, hBG, hr, hca, hsl⟩ := hX
  intro H locs ls hP hD hS hL
  by_cases hc : jw x < lo ∨ hi < jw x
  · have h0 := h1 hc
    have e : (pc : Int) + d = (((pc : Int) + d).toNat : Int) := (Int.toNat_of_nonneg h0).symm
    exact lv_tableOut hx hb hd (by rw [jw_toInt]; exact hc) e (hout _ e hc H locs ls hP hD hS hL)
  · have g1 : ¬ jw x < lo := fun q => hc (Or.inl q)
    have g2 : ¬ hi < jw x := fun q => hc (Or.inr q)
    obtain ⟨j, hj⟩ : ∃ j : Nat, jw x = lo + j := ⟨(jw x - lo).toNat, by omega⟩
    have hl : j < offs.toList.length := by omega
    have ho : offs.toList[j]? = some offs.toList[j] := List.getElem?_eq_getElem hl
    have h0 := h2 j _ ho hj
    have e : (pc : Int) + offs.toList[j] = (((pc : Int) + offs.toList[j]).toNat : Int) := (Int.toNat_of_nonneg h0).symm
    refine lv_tableIn (off := offs.toList[j]) hx hb hd (by rw [jw_toInt]; exact g1) (by rw [jw_toInt]; exact g2) ?_ e (hin j _ _ ho hj e H locs ls hP hD hS hL)
    rw [jw_toInt]
    have e2 : (jw x - lo).toNat = j := by omega
    rw [e2, ← Array.getElem?_toList]
    exact ho
theorem jw_iret {x : Int} (hX : jOK X) (hk : jkd X = 1) (hd : decode (jcc X) pc = .ok (.ireturn, 1)) : jWj X (jQ X (some (jmi x)) σ) pc loc [jmi x] σ := by
  obtain ⟨p, l, e, R, s, m, args, below, meth, c, cc, nL, own, D, cy, A, ad, sh, kd, ca, sl⟩ := X
  obtain ⟨hx, hb, hml, hown, hts, hlk, hK, hA, hBG, hr, hca, hsl⟩ := hX
  have hk : kd = 1 := hk
  subst hk
  intro H locs ls hP hD hS hL
  exact W.iret hx hb hr (fun t ht hW => ⟨rfl, by rw [ht]; exact hP, hS.F ht⟩) hS.2.2 hd hlk
theorem jw_zret {x : Int} (hX : jOK X) (hk : jkd X = 4) (h01 : x = 0 ∨ x = 1) (hd : decode (jcc X) pc = .ok (.ireturn, 1)) : jWj X (jQ X (some (jmi x)) σ) pc loc [jmi x] σ := by
  obtain ⟨p, l, e, R, s, m, args, below, meth, c, cc, nL, own, D, cy, A, ad, sh, kd, ca, sl⟩ := X
  obtain ⟨hx, hb, hml, hown, hts, hlk, hK, hA, hBG, hr, hca, hsl⟩ := hX
  have hk : kd = 4 := hk
  subst hk
  intro H locs ls hP hD hS hL
  refine W.zret (ty := .boolean) hx hb hr ?_ (fun t ht hW => ⟨rfl, by rw [ht]; exact hP, hS.F ht⟩) hS.2.2 hd hlk
  rcases h01 with rfl | rfl <;> rfl
theorem jw_lret {x : Int} (hX : jOK X) (hk : jkd X = 2) (hd : decode (jcc X) pc = .ok (.lreturn, 1)) : jWj X (jQ X (some (jml x)) σ) pc loc [jml x] σ := by
  obtain ⟨p, l, e, R, s, m, args, below, meth, c, cc, nL, own, D, cy, A, ad, sh, kd, ca, sl⟩ := X
  obtain ⟨hx, hb, hml, hown, hts, hlk, hK, hA, hBG, hr, hca, hsl⟩ := hX
  have hk : kd = 2 := hk
  subst hk
  intro H locs ls hP hD hS hL
  exact W.lret hx hb hr (fun t ht hW => ⟨rfl, by rw [ht]; exact hP, hS.F ht⟩) hS.2.2 hd hlk
theorem jw_aret {id : Nat} (hX : jOK X) (hk : jkd X = 3) (hd : decode (jcc X) pc = .ok (.areturn, 1)) : jWj X (jQ X (some (jmr id)) σ) pc loc [jmr id] σ := by
  obtain ⟨p, l, e, R, s, m, args, below, meth, c, cc, nL, own, D, cy, A, ad, sh, kd, ca, sl⟩ := X
  obtain ⟨hx, hb, hml, hown, hts, hlk, hK, hA, hBG, hr, hca, hsl⟩ := hX
  have hk : kd = 3 := hk
  subst hk
  intro H locs ls hP hD hS hL
  exact W.aret hx hb hr (Or.inl ⟨_, rfl⟩) (Or.inr ⟨_, rfl⟩) (fun t ht hW => ⟨rfl, by rw [ht]; exact hP, hS.F ht⟩) hS.2.2 hd hlk
theorem jw_nret (hX : jOK X) (hk : jkd X = 3) (hd : decode (jcc X) pc = .ok (.areturn, 1)) : jWj X (jQ X (some jmn) σ) pc loc [jmn] σ := by
  obtain ⟨p, l, e, R, s, m, args, below, meth, c, cc, nL, own, D, cy, A, ad, sh, kd, ca, sl⟩ := X
  obtain ⟨hx, hb, hml, hown, hts, hlk, hK, hA, hBG, hr, hca, hsl⟩ := hX
  have hk : kd = 3 := hk
  subst hk
  intro H locs ls hP hD hS hL
  exact W.aret hx hb hr (Or.inl ⟨_, rfl⟩) (Or.inl rfl) (fun t ht hW => ⟨rfl, by rw [ht]; exact hP, hS.F ht⟩) hS.2.2 hd hlk
theorem jw_vret (hX : jOK X) (hk : jkd X = 0) (hd : decode (jcc X) pc = .ok (.return_, 1)) : jWj X (jQ X none σ) pc loc [] σ := by
  obtain ⟨p, l, e, R, s, m, args, below, meth, c, cc, nL, own, D, cy, A, ad, sh, kd, ca, sl⟩ := X
  obtain ⟨hx, hb, hml, hown, hts, hlk, hK, hA, hBG, hr, hca, hsl⟩ := hX
  have hk : kd = 0 := hk
  subst hk
  intro H locs ls hP hD hS hL
  exact W.vret hx hb hr (fun t ht hW => ⟨rfl, by rw [ht]; exact hP, hS.F ht⟩) hS.2.2 hd hlk
/-- a call: from its arguments on the stack to its answer there -/
def jCall (X : jxX) (i : Instr) (as : List jxV) (v : Option jxV) (σ σ1 : jxS) : Prop := ∀ (Q : State → Prop) (pc : Nat) (loc : jxL) (rest : List jxV), decode (jcc X) pc = .ok (i, 3) → jcat rest ≤ 8 → jWj X Q (pc + 3) loc (v.toList ++ rest) σ1 → jWj X Q pc loc (as.reverse ++ rest) σ
/-- what a method's tables mean in the machine -/
def jEnv (X : jxX) (E : jxE) (tb : List (Nat × Instr)) : Prop :=
  (∀ pc i, jlk tb pc = some i → ∃ n, decode (jcc X) pc = .ok (i, n) ∧ (jlen i = 0 ∨ n = jlen i)) ∧
  (∀ idx ci f, E.1 idx = some (ci, f) → jFl (jown X) idx ci f) ∧
  (∀ idx n as σ k x σ', E.2.1 idx = some (n, false) → as.length ≤ n → E.2.2.1 idx as σ k = some (x, σ') → ∃ v σ1, k v σ1 = some (x, σ') ∧ jCall X (.invokevirtual idx) as v σ σ1) ∧
  (∀ idx n as σ k x σ', E.2.1 idx = some (n, true) → as.length ≤ n → E.2.2.1 idx as σ k = some (x, σ') → ∃ v σ1, k v σ1 = some (x, σ') ∧ jCall X (.invokestatic idx) as v σ σ1) ∧
  (∀ idx v, E.2.2.2.1 idx = some v → match v with
    | .inr (.inl _) => jLd X (.ldc2_w idx) 3 v
    | _ => jLd X (.ldc idx) 2 v) ∧
  (∀ idx id, E.2.2.2.2.1 idx = some id → jLd X (.getstatic idx) 3 (jmr id)) ∧
  E.2.2.2.2.2.1 = jkd X ∧
  (∀ id c, E.2.2.2.2.2.2 id = some c → match c with
    | .inr (.inr tb) => jTt id tb
    | .inr (.inl (_, n)) => (jsh X)[id]? = some c ∧ n < 2 ^ 31
    | .inl (ci, fks) => (jsh X)[id]? = some c ∧ ∀ (f kd : Nat), kd ≤ 2 → fks[f]? = some (.inl kd) → jPf ci f kd)
theorem jtgt_some {pc : Nat} {off : Int} {k : Nat → Option jxR} {z : jxR} (h : jtgt pc off k = some z) : ∃ t : Nat, (pc : Int) + off = (t : Int) ∧ k t = some z := by
  unfold jtgt at h
  split at h
  · rename_i n hn
    exact ⟨n, hn, h⟩
  · cases h
theorem jsel_some {qs : List Nat} {v : Int} {k : Nat → Option jxR} {z : jxR} (h : jsel qs v k = some z) : ∃ q : Nat, v = (q : Int) ∧ k q = some z := by
  induction qs with
  | nil => simp [jsel] at h
  | cons q t ih =>
    simp only [jsel] at h
    split at h
    · rename_i hq
      exact ⟨q, hq, h⟩
    · exact ih h
theorem jsw_some {x : Int} {os : List Int} : ∀ {lo : Int} {kd : Option jxR} {kk : Int → Option jxR} {z : jxR}, jsw x lo os kd kk = some z → ((∀ j : Nat, j < os.length → x ≠ lo + j) ∧ kd = some z) ∨ ∃ (j : Nat) (o : Int), os[j]? = some o ∧ x = lo + j ∧ kk o = some z := by
  induction os with
  | nil => intro lo kd kk z h; exact Or.inl ⟨fun j hj => absurd hj (Nat.not_lt_zero j), h⟩
  | cons a t ih =>
    intro lo kd kk z h
    simp only [jsw] at h
    split at h
    · rename_i hq
      exact Or.inr ⟨0, a, rfl, by omega, h⟩
    · rename_i hq
      rcases ih h with ⟨h1, h2⟩ | ⟨j, o, h1, h2, h3⟩
      · refine Or.inl ⟨fun j hj => ?_, h2⟩
        cases j with
        | zero => simpa using hq
        | succ j =>
          have := h1 j (by simpa using hj)
          omega
      · exact Or.inr ⟨j + 1, o, by simpa using h1, by omega, h3⟩
theorem jcond {b : Bool} {x : Option jxR} {z : jxR} (h : (bif b then x else none) = some z) : b = true ∧ x = some z := by
  cases b
  · cases h
  · exact ⟨rfl, h⟩
theorem jite {c : Prop} [Decidable c] {x : Option jxR} {z : jxR} (h : (if c then x else none) = some z) : c ∧ x = some z := by
  split at h
  · rename_i hc
    exact ⟨hc, h⟩
  · cases h
theorem jite2 {c : Prop} [Decidable c] {x : Option jxR} {z : jxR} (h : (if c then none else x) = some z) : ¬ c ∧ x = some z := by
  split at h
  · cases h
  · rename_i hc
    exact ⟨hc, h⟩
theorem jble {a b : Nat} (h : Nat.ble a b = true) : a ≤ b := Nat.le_of_ble_eq_true h
theorem jbeq {a b : Nat} (h : Nat.beq a b = true) : a = b := Nat.eq_of_beq_eq_true h
theorem jdrop (st : List jxV) (a : Nat) : (st.take a).reverse.reverse ++ st.drop a = st := by rw [List.reverse_reverse, List.take_append_drop]
end JR
end
section
/-! A run of the small machine is a run of the machine. -/
section JX
variable {X : jxX} {E : jxE} {tb : List (Nat × Instr)} {Q : State → Prop} {pc : Nat} {loc : jxL} {r : List jxV} {σ : jxS}
theorem jfv_int {ad : Nat → Nat} {f : Int → Int} {k q : Nat} (h : q = 1 → False) : jfv ad f k (.inl q) = jtoV ad (jmi (f k)) := by
  match q, h with
  | 0, _ => rfl
  | 1, h => exact absurd rfl h
  | n + 2, _ => rfl
/-- a branch's place is one -/
def jjmp (pc : Nat) (i : Instr) : Bool := match i with
  | .ifCond _ off => decide (0 ≤ (pc : Int) + off)
  | .if_icmp _ off => decide (0 ≤ (pc : Int) + off)
  | _ => true
theorem jjmp_at {b : Prop} [Decidable b] (h : decide b = true) : b := of_decide_eq_true h
theorem jn_if_eq {x off : Int} (hX : jOK X) (hc : ¬ (jw x = 0)) (hd : decode (jcc X) pc = .ok (.ifCond .eq off, 3)) (h0 : 0 ≤ (pc : Int) + off) (hk : jWj X Q (pc + 3) loc r σ) : jWj X Q pc loc (jmi x :: r) σ := jw_if_eq hX (Int.toNat_of_nonneg h0).symm hd (fun q => absurd q hc) (fun _ => hk)
theorem jn_if_ne {x off : Int} (hX : jOK X) (hc : ¬ (¬ jw x = 0)) (hd : decode (jcc X) pc = .ok (.ifCond .ne off, 3)) (h0 : 0 ≤ (pc : Int) + off) (hk : jWj X Q (pc + 3) loc r σ) : jWj X Q pc loc (jmi x :: r) σ := jw_if_ne hX (Int.toNat_of_nonneg h0).symm hd (fun q => absurd q hc) (fun _ => hk)
theorem jn_if_lt {x off : Int} (hX : jOK X) (hc : ¬ (jw x < 0)) (hd : decode (jcc X) pc = .ok (.ifCond .lt off, 3)) (h0 : 0 ≤ (pc : Int) + off) (hk : jWj X Q (pc + 3) loc r σ) : jWj X Q pc loc (jmi x :: r) σ := jw_if_lt hX (Int.toNat_of_nonneg h0).symm hd (fun q => absurd q hc) (fun _ => hk)
theorem jn_if_ge {x off : Int} (hX : jOK X) (hc : ¬ (¬ jw x < 0)) (hd : decode (jcc X) pc = .ok (.ifCond .ge off, 3)) (h0 : 0 ≤ (pc : Int) + off) (hk : jWj X Q (pc + 3) loc r σ) : jWj X Q pc loc (jmi x :: r) σ := jw_if_ge hX (Int.toNat_of_nonneg h0).symm hd (fun q => absurd q hc) (fun _ => hk)
theorem jn_if_gt {x off : Int} (hX : jOK X) (hc : ¬ (0 < jw x)) (hd : decode (jcc X) pc = .ok (.ifCond .gt off, 3)) (h0 : 0 ≤ (pc : Int) + off) (hk : jWj X Q (pc + 3) loc r σ) : jWj X Q pc loc (jmi x :: r) σ := jw_if_gt hX (Int.toNat_of_nonneg h0).symm hd (fun q => absurd q hc) (fun _ => hk)
theorem jn_if_le {x off : Int} (hX : jOK X) (hc : ¬ (¬ 0 < jw x)) (hd : decode (jcc X) pc = .ok (.ifCond .le off, 3)) (h0 : 0 ≤ (pc : Int) + off) (hk : jWj X Q (pc + 3) loc r σ) : jWj X Q pc loc (jmi x :: r) σ := jw_if_le hX (Int.toNat_of_nonneg h0).symm hd (fun q => absurd q hc) (fun _ => hk)
theorem jn_icmp_eq {x y off : Int} (hX : jOK X) (hc : ¬ (jw x = jw y)) (hd : decode (jcc X) pc = .ok (.if_icmp .eq off, 3)) (h0 : 0 ≤ (pc : Int) + off) (hk : jWj X Q (pc + 3) loc r σ) : jWj X Q pc loc (jmi y :: jmi x :: r) σ := jw_icmp_eq hX (Int.toNat_of_nonneg h0).symm hd (fun q => absurd q hc) (fun _ => hk)
theorem jn_icmp_ne {x y off : Int} (hX : jOK X) (hc : ¬ (¬ jw x = jw y)) (hd : decode (jcc X) pc = .ok (.if_icmp .ne off, 3)) (h0 : 0 ≤ (pc : Int) + off) (hk : jWj X Q (pc + 3) loc r σ) : jWj X Q pc loc (jmi y :: jmi x :: r) σ := jw_icmp_ne hX (Int.toNat_of_nonneg h0).symm hd (fun q => absurd q hc) (fun _ => hk)
theorem jn_icmp_lt {x y off : Int} (hX : jOK X) (hc : ¬ (jw x < jw y)) (hd : decode (jcc X) pc = .ok (.if_icmp .lt off, 3)) (h0 : 0 ≤ (pc : Int) + off) (hk : jWj X Q (pc + 3) loc r σ) : jWj X Q pc loc (jmi y :: jmi x :: r) σ := jw_icmp_lt hX (Int.toNat_of_nonneg h0).symm hd (fun q => absurd q hc) (fun _ => hk)
theorem jn_icmp_ge {x y off : Int} (hX : jOK X) (hc : ¬ (¬ jw x < jw y)) (hd : decode (jcc X) pc = .ok (.if_icmp .ge off, 3)) (h0 : 0 ≤ (pc : Int) + off) (hk : jWj X Q (pc + 3) loc r σ) : jWj X Q pc loc (jmi y :: jmi x :: r) σ := jw_icmp_ge hX (Int.toNat_of_nonneg h0).symm hd (fun q => absurd q hc) (fun _ => hk)
theorem jn_icmp_gt {x y off : Int} (hX : jOK X) (hc : ¬ (jw y < jw x)) (hd : decode (jcc X) pc = .ok (.if_icmp .gt off, 3)) (h0 : 0 ≤ (pc : Int) + off) (hk : jWj X Q (pc + 3) loc r σ) : jWj X Q pc loc (jmi y :: jmi x :: r) σ := jw_icmp_gt hX (Int.toNat_of_nonneg h0).symm hd (fun q => absurd q hc) (fun _ => hk)
theorem jn_icmp_le {x y off : Int} (hX : jOK X) (hc : ¬ (¬ jw y < jw x)) (hd : decode (jcc X) pc = .ok (.if_icmp .le off, 3)) (h0 : 0 ≤ (pc : Int) + off) (hk : jWj X Q (pc + 3) loc r σ) : jWj X Q pc loc (jmi y :: jmi x :: r) σ := jw_icmp_le hX (Int.toNat_of_nonneg h0).symm hd (fun q => absurd q hc) (fun _ => hk)
set_option maxHeartbeats 4000000 in
/-- one instruction -/
theorem jx1_ok (hX : jOK X) (hE : jEnv X E tb) {i : Instr} {pc n : Nat} {loc : jxL} {st : List jxV} {σ : jxS} {k : jxK} {x : Int} {σ' : jxS} (hd : decode (jcc X) pc = .ok (i, n)) (hn : jlen i = 0 ∨ n = jlen i) (hj : jjmp pc i = true)
    (hk : ∀ pc' loc' st' σ1, k pc' loc' st' σ1 = some (x, σ') → jWj X (jQ X (jrv (jkd X) x) σ') pc' loc' st' σ1) (h : jx1 E i pc loc st σ k = some (x, σ')) : jWj X (jQ X (jrv (jkd X) x) σ') pc loc st σ := by
  obtain ⟨hE1, hE2, hE3, hE4, hE5, hE6, hE7, hE8⟩ := hE
  cases i with
  | iconst a =>
    simp only [jx1, jlen] at h hn; obtain rfl : n = 1 := by omega
    exact jw_iconst hX hd (hk _ _ _ _ h)
  | bipush a =>
    simp only [jx1, jlen] at h hn; obtain rfl : n = 2 := by omega
    obtain ⟨h1, h⟩ := jite h
    exact jw_bipush h1 hX hd (hk _ _ _ _ h)
  | sipush a =>
    simp only [jx1, jlen] at h hn; obtain rfl : n = 3 := by omega
    obtain ⟨h1, h⟩ := jite h
    exact jw_sipush h1 hX hd (hk _ _ _ _ h)
  | lconst a =>
    simp only [jx1, jlen] at h hn; obtain rfl : n = 1 := by omega
    exact jw_lconst hX hd (hk _ _ _ _ h)
  | aconst_null =>
    simp only [jx1, jlen] at h hn; obtain rfl : n = 1 := by omega
    exact jw_null hX hd (hk _ _ _ _ h)
  | ldc a =>
    simp only [jx1, jlen] at h hn; obtain rfl : n = 2 := by omega
    split at h
    · rename_i z hv
      exact (hE5 a _ hv) _ _ _ _ _ hd (hk _ _ _ _ h)
    · rename_i z hv
      exact (hE5 a _ hv) _ _ _ _ _ hd (hk _ _ _ _ h)
    · cases h
  | ldc2_w a =>
    simp only [jx1, jlen] at h hn; obtain rfl : n = 3 := by omega
    split at h
    · rename_i z hv
      exact (hE5 a _ hv) _ _ _ _ _ hd (hk _ _ _ _ h)
    · cases h
  | iload_n a =>
    simp only [jx1, jlen] at h hn; obtain rfl : n = 1 := by omega
    split at h
    · rename_i z hv
      exact jw_ldi_n hv hX hd (hk _ _ _ _ h)
    · cases h
  | iload a =>
    simp only [jx1, jlen] at h hn; obtain rfl : n = 2 := by omega
    split at h
    · rename_i z hv
      exact jw_ldi hv hX hd (hk _ _ _ _ h)
    · cases h
  | lload_n a =>
    simp only [jx1, jlen] at h hn; obtain rfl : n = 1 := by omega
    split at h
    · rename_i z hv
      exact jw_ldl_n hv hX hd (hk _ _ _ _ h)
    · cases h
  | lload a =>
    simp only [jx1, jlen] at h hn; obtain rfl : n = 2 := by omega
    split at h
    · rename_i z hv
      exact jw_ldl hv hX hd (hk _ _ _ _ h)
    · cases h
  | aload_n a =>
    simp only [jx1, jlen] at h hn; obtain rfl : n = 1 := by omega
    split at h
    · rename_i z hv
      exact jw_lda_n hv hX hd (hk _ _ _ _ h)
    · rename_i z hv
      exact jw_ldaN_n hv hX hd (hk _ _ _ _ h)
    · cases h
  | aload a =>
    simp only [jx1, jlen] at h hn; obtain rfl : n = 2 := by omega
    split at h
    · rename_i z hv
      exact jw_lda hv hX hd (hk _ _ _ _ h)
    · rename_i z hv
      exact jw_ldaN hv hX hd (hk _ _ _ _ h)
    · cases h
  | istore_n a =>
    simp only [jx1, jlen] at h hn; obtain rfl : n = 1 := by omega
    split at h
    · obtain ⟨h1, h⟩ := jcond h
      exact jw_sti_n hX (jble h1) hd (hk _ _ _ _ h)
    · cases h
  | istore a =>
    simp only [jx1, jlen] at h hn; obtain rfl : n = 2 := by omega
    split at h
    · obtain ⟨h1, h⟩ := jcond h
      exact jw_sti hX (jble h1) hd (hk _ _ _ _ h)
    · cases h
  | lstore_n a =>
    simp only [jx1, jlen] at h hn; obtain rfl : n = 1 := by omega
    split at h
    · obtain ⟨h1, h⟩ := jcond h
      exact jw_stl_n hX (jble h1) hd (hk _ _ _ _ h)
    · cases h
  | lstore a =>
    simp only [jx1, jlen] at h hn; obtain rfl : n = 2 := by omega
    split at h
    · obtain ⟨h1, h⟩ := jcond h
      exact jw_stl hX (jble h1) hd (hk _ _ _ _ h)
    · cases h
  | astore_n a =>
    simp only [jx1, jlen] at h hn; obtain rfl : n = 1 := by omega
    split at h
    · obtain ⟨h1, h⟩ := jcond h
      exact jw_sta_n hX (jble h1) hd (hk _ _ _ _ h)
    · cases h
  | astore a =>
    simp only [jx1, jlen] at h hn; obtain rfl : n = 2 := by omega
    split at h
    · obtain ⟨h1, h⟩ := jcond h
      exact jw_sta hX (jble h1) hd (hk _ _ _ _ h)
    · cases h
  | iinc a d =>
    simp only [jx1, jlen] at h hn; obtain rfl : n = 3 := by omega
    split at h
    · rename_i z hv
      obtain ⟨h1, h⟩ := jcond h
      exact jw_iinc hX hv (jble h1) hd (hk _ _ _ _ h)
    · cases h
  | iadd =>
    simp only [jx1, jlen] at h hn; obtain rfl : n = 1 := by omega
    split at h
    · exact jw_iadd hX hd (hk _ _ _ _ h)
    · cases h
  | isub =>
    simp only [jx1, jlen] at h hn; obtain rfl : n = 1 := by omega
    split at h
    · exact jw_isub hX hd (hk _ _ _ _ h)
    · cases h
  | imul =>
    simp only [jx1, jlen] at h hn; obtain rfl : n = 1 := by omega
    split at h
    · exact jw_imul hX hd (hk _ _ _ _ h)
    · cases h
  | iand =>
    simp only [jx1, jlen] at h hn; obtain rfl : n = 1 := by omega
    split at h
    · exact jw_iand hX hd (hk _ _ _ _ h)
    · cases h
  | ior =>
    simp only [jx1, jlen] at h hn; obtain rfl : n = 1 := by omega
    split at h
    · exact jw_ior hX hd (hk _ _ _ _ h)
    · cases h
  | ixor =>
    simp only [jx1, jlen] at h hn; obtain rfl : n = 1 := by omega
    split at h
    · exact jw_ixor hX hd (hk _ _ _ _ h)
    · cases h
  | ishl =>
    simp only [jx1, jlen] at h hn; obtain rfl : n = 1 := by omega
    split at h
    · exact jw_ishl hX hd (hk _ _ _ _ h)
    · cases h
  | ishr =>
    simp only [jx1, jlen] at h hn; obtain rfl : n = 1 := by omega
    split at h
    · exact jw_ishr hX hd (hk _ _ _ _ h)
    · cases h
  | iushr =>
    simp only [jx1, jlen] at h hn; obtain rfl : n = 1 := by omega
    split at h
    · exact jw_iushr hX hd (hk _ _ _ _ h)
    · cases h
  | ladd =>
    simp only [jx1, jlen] at h hn; obtain rfl : n = 1 := by omega
    split at h
    · exact jw_ladd hX hd (hk _ _ _ _ h)
    · cases h
  | lmul =>
    simp only [jx1, jlen] at h hn; obtain rfl : n = 1 := by omega
    split at h
    · exact jw_lmul hX hd (hk _ _ _ _ h)
    · cases h
  | land =>
    simp only [jx1, jlen] at h hn; obtain rfl : n = 1 := by omega
    split at h
    · exact jw_land hX hd (hk _ _ _ _ h)
    · cases h
  | lor =>
    simp only [jx1, jlen] at h hn; obtain rfl : n = 1 := by omega
    split at h
    · exact jw_lor hX hd (hk _ _ _ _ h)
    · cases h
  | lxor =>
    simp only [jx1, jlen] at h hn; obtain rfl : n = 1 := by omega
    split at h
    · exact jw_lxor hX hd (hk _ _ _ _ h)
    · cases h
  | lshl =>
    simp only [jx1, jlen] at h hn; obtain rfl : n = 1 := by omega
    split at h
    · exact jw_lshl hX hd (hk _ _ _ _ h)
    · cases h
  | lshr =>
    simp only [jx1, jlen] at h hn; obtain rfl : n = 1 := by omega
    split at h
    · exact jw_lshr hX hd (hk _ _ _ _ h)
    · cases h
  | lcmp =>
    simp only [jx1, jlen] at h hn; obtain rfl : n = 1 := by omega
    split at h
    · exact jw_lcmp hX hd (hk _ _ _ _ h)
    · cases h
  | i2l =>
    simp only [jx1, jlen] at h hn; obtain rfl : n = 1 := by omega
    split at h
    · exact jw_i2l hX hd (hk _ _ _ _ h)
    · cases h
  | l2i =>
    simp only [jx1, jlen] at h hn; obtain rfl : n = 1 := by omega
    split at h
    · exact jw_l2i hX hd (hk _ _ _ _ h)
    · cases h
  | i2b =>
    simp only [jx1, jlen] at h hn; obtain rfl : n = 1 := by omega
    split at h
    · exact jw_i2b hX hd (hk _ _ _ _ h)
    · cases h
  | idiv =>
    simp only [jx1, jlen] at h hn; obtain rfl : n = 1 := by omega
    split at h
    · obtain ⟨h1, h⟩ := jite2 h
      exact jw_idiv h1 hX hd (hk _ _ _ _ h)
    · cases h
  | irem =>
    simp only [jx1, jlen] at h hn; obtain rfl : n = 1 := by omega
    split at h
    · obtain ⟨h1, h⟩ := jite2 h
      exact jw_irem h1 hX hd (hk _ _ _ _ h)
    · cases h
  | ldiv =>
    simp only [jx1, jlen] at h hn; obtain rfl : n = 1 := by omega
    split at h
    · obtain ⟨h1, h⟩ := jite2 h
      exact jw_ldiv h1 hX hd (hk _ _ _ _ h)
    · cases h
  | lrem =>
    simp only [jx1, jlen] at h hn; obtain rfl : n = 1 := by omega
    split at h
    · obtain ⟨h1, h⟩ := jite2 h
      exact jw_lrem h1 hX hd (hk _ _ _ _ h)
    · cases h
  | dup =>
    simp only [jx1, jlen] at h hn; obtain rfl : n = 1 := by omega
    split at h
    · exact jw_dupi hX hd (hk _ _ _ _ h)
    · rename_i z _
      match z, h with
      | .inl z, h => exact jw_dupr hX hd (hk _ _ _ _ h)
      | .inr _, h => exact jw_dupn hX hd (hk _ _ _ _ h)
    · cases h
  | dup2 =>
    simp only [jx1, jlen] at h hn; obtain rfl : n = 1 := by omega
    split at h
    · rename_i y z _
      match z, h with
      | .inl z, h => exact jw_dup2r hX hd (hk _ _ _ _ h)
      | .inr _, h => exact jw_dup2n hX hd (hk _ _ _ _ h)
    · cases h
  | pop =>
    simp only [jx1, jlen] at h hn; obtain rfl : n = 1 := by omega
    split at h
    · exact jw_popi hX hd (hk _ _ _ _ h)
    · rename_i z _
      match z, h with
      | .inl z, h => exact jw_popr hX hd (hk _ _ _ _ h)
      | .inr _, h => exact jw_popn hX hd (hk _ _ _ _ h)
    · cases h
  | goto off =>
    simp only [jx1, jlen] at h hn; obtain rfl : n = 3 := by omega
    obtain ⟨t, ht, h⟩ := jtgt_some h
    exact jw_goto (x := 0) hX ht hd (hk _ _ _ _ h)
  | ifCond c off =>
    simp only [jx1, jlen] at h hn; obtain rfl : n = 3 := by omega
    split at h
    · cases c with
      | eq =>
        simp only at h
        split at h
        · rename_i hc
          obtain ⟨t, ht, h⟩ := jtgt_some h
          exact jw_if_eq hX ht hd (fun _ => hk _ _ _ _ h) (fun q => absurd hc q)
        · rename_i hc
          have h0 := jjmp_at hj
          exact jn_if_eq hX hc hd h0 (hk _ _ _ _ h)
      | ne =>
        simp only at h
        split at h
        · rename_i hc
          have h0 := jjmp_at hj
          exact jn_if_ne hX (fun q => q hc) hd h0 (hk _ _ _ _ h)
        · rename_i hc
          obtain ⟨t, ht, h⟩ := jtgt_some h
          exact jw_if_ne hX ht hd (fun _ => hk _ _ _ _ h) (fun q => absurd hc q)
      | lt =>
        simp only at h
        split at h
        · rename_i hc
          obtain ⟨t, ht, h⟩ := jtgt_some h
          exact jw_if_lt hX ht hd (fun _ => hk _ _ _ _ h) (fun q => absurd hc q)
        · rename_i hc
          have h0 := jjmp_at hj
          exact jn_if_lt hX hc hd h0 (hk _ _ _ _ h)
      | ge =>
        simp only at h
        split at h
        · rename_i hc
          have h0 := jjmp_at hj
          exact jn_if_ge hX (fun q => q hc) hd h0 (hk _ _ _ _ h)
        · rename_i hc
          obtain ⟨t, ht, h⟩ := jtgt_some h
          exact jw_if_ge hX ht hd (fun _ => hk _ _ _ _ h) (fun q => absurd hc q)
      | gt =>
        simp only at h
        split at h
        · rename_i hc
          obtain ⟨t, ht, h⟩ := jtgt_some h
          exact jw_if_gt hX ht hd (fun _ => hk _ _ _ _ h) (fun q => absurd hc q)
        · rename_i hc
          have h0 := jjmp_at hj
          exact jn_if_gt hX hc hd h0 (hk _ _ _ _ h)
      | le =>
        simp only at h
        split at h
        · rename_i hc
          have h0 := jjmp_at hj
          exact jn_if_le hX (fun q => q hc) hd h0 (hk _ _ _ _ h)
        · rename_i hc
          obtain ⟨t, ht, h⟩ := jtgt_some h
          exact jw_if_le hX ht hd (fun _ => hk _ _ _ _ h) (fun q => absurd hc q)
    · cases h
  | if_icmp c off =>
    simp only [jx1, jlen] at h hn; obtain rfl : n = 3 := by omega
    split at h
    · cases c with
      | eq =>
        simp only at h
        split at h
        · rename_i hc
          obtain ⟨t, ht, h⟩ := jtgt_some h
          exact jw_icmp_eq hX ht hd (fun _ => hk _ _ _ _ h) (fun q => absurd hc q)
        · rename_i hc
          have h0 := jjmp_at hj
          exact jn_icmp_eq hX hc hd h0 (hk _ _ _ _ h)
      | ne =>
        simp only at h
        split at h
        · rename_i hc
          have h0 := jjmp_at hj
          exact jn_icmp_ne hX (fun q => q hc) hd h0 (hk _ _ _ _ h)
        · rename_i hc
          obtain ⟨t, ht, h⟩ := jtgt_some h
          exact jw_icmp_ne hX ht hd (fun _ => hk _ _ _ _ h) (fun q => absurd hc q)
      | lt =>
        simp only at h
        split at h
        · rename_i hc
          obtain ⟨t, ht, h⟩ := jtgt_some h
          exact jw_icmp_lt hX ht hd (fun _ => hk _ _ _ _ h) (fun q => absurd hc q)
        · rename_i hc
          have h0 := jjmp_at hj
          exact jn_icmp_lt hX hc hd h0 (hk _ _ _ _ h)
      | ge =>
        simp only at h
        split at h
        · rename_i hc
          have h0 := jjmp_at hj
          exact jn_icmp_ge hX (fun q => q hc) hd h0 (hk _ _ _ _ h)
        · rename_i hc
          obtain ⟨t, ht, h⟩ := jtgt_some h
          exact jw_icmp_ge hX ht hd (fun _ => hk _ _ _ _ h) (fun q => absurd hc q)
      | gt =>
        simp only at h
        split at h
        · rename_i hc
          obtain ⟨t, ht, h⟩ := jtgt_some h
          exact jw_icmp_gt hX ht hd (fun _ => hk _ _ _ _ h) (fun q => absurd hc q)
        · rename_i hc
          have h0 := jjmp_at hj
          exact jn_icmp_gt hX hc hd h0 (hk _ _ _ _ h)
      | le =>
        simp only at h
        split at h
        · rename_i hc
          have h0 := jjmp_at hj
          exact jn_icmp_le hX (fun q => q hc) hd h0 (hk _ _ _ _ h)
        · rename_i hc
          obtain ⟨t, ht, h⟩ := jtgt_some h
          exact jw_icmp_le hX ht hd (fun _ => hk _ _ _ _ h) (fun q => absurd hc q)
    · cases h
  | ifnull off =>
    simp only [jx1, jlen] at h hn; obtain rfl : n = 3 := by omega
    split at h
    · exact jw_ifnull (t := 0) hX hd (hk _ _ _ _ h)
    · obtain ⟨t, ht, h⟩ := jtgt_some h
      exact jw_ifnullN (x := 0) hX ht hd (hk _ _ _ _ h)
    · cases h
  | ifnonnull off =>
    simp only [jx1, jlen] at h hn; obtain rfl : n = 3 := by omega
    split at h
    · obtain ⟨t, ht, h⟩ := jtgt_some h
      exact jw_ifnonnull hX ht hd (hk _ _ _ _ h)
    · exact jw_ifnonnullN (x := 0) (t := 0) hX hd (hk _ _ _ _ h)
    · cases h
  | iaload =>
    simp only [jx1, jlen] at h hn; obtain rfl : n = 1 := by omega
    split at h
    · split at h
      · rename_i m hv
        obtain ⟨h1, h⟩ := jite h
        exact jw_iaload hX (hE8 _ _ hv).1 (hE8 _ _ hv).2 h1 hd (hk _ _ _ _ h)
      · rename_i m hv
        obtain ⟨h1, h⟩ := jite h
        exact jw_tald hX (hE8 _ _ hv) h1 hd (hk _ _ _ _ h)
      · cases h
    · cases h
  | baload =>
    simp only [jx1, jlen] at h hn; obtain rfl : n = 1 := by omega
    split at h
    · split at h
      · rename_i m hv
        obtain ⟨h1, h⟩ := jite h
        exact jw_baload hX (hE8 _ _ hv).1 (hE8 _ _ hv).2 h1 hd (hk _ _ _ _ h)
      · rename_i m hv
        obtain ⟨h1, h⟩ := jite h
        exact jw_zaload hX (hE8 _ _ hv).1 (hE8 _ _ hv).2 h1 hd (hk _ _ _ _ h)
      · cases h
    · cases h
  | laload =>
    simp only [jx1, jlen] at h hn; obtain rfl : n = 1 := by omega
    split at h
    · split at h
      · rename_i m hv
        obtain ⟨h1, h⟩ := jite h
        exact jw_laload hX (hE8 _ _ hv).1 (hE8 _ _ hv).2 h1 hd (hk _ _ _ _ h)
      · cases h
    · cases h
  | iastore =>
    simp only [jx1, jlen] at h hn; obtain rfl : n = 1 := by omega
    split at h
    · split at h
      · rename_i m hv
        obtain ⟨h1, h⟩ := jite h
        exact jw_iastore hX (hE8 _ _ hv).1 (hE8 _ _ hv).2 h1 hd (hk _ _ _ _ h)
      · cases h
    · cases h
  | bastore =>
    simp only [jx1, jlen] at h hn; obtain rfl : n = 1 := by omega
    split at h
    · split at h
      · rename_i m hv
        obtain ⟨h1, h⟩ := jite h
        exact jw_bastore hX (hE8 _ _ hv).1 (hE8 _ _ hv).2 h1 hd (hk _ _ _ _ h)
      · rename_i m hv
        obtain ⟨h1, h⟩ := jite h
        exact jw_zastore hX (hE8 _ _ hv).1 (hE8 _ _ hv).2 h1 hd (hk _ _ _ _ h)
      · cases h
    · cases h
  | lastore =>
    simp only [jx1, jlen] at h hn; obtain rfl : n = 1 := by omega
    split at h
    · split at h
      · rename_i m hv
        obtain ⟨h1, h⟩ := jite h
        exact jw_lastore hX (hE8 _ _ hv).1 (hE8 _ _ hv).2 h1 hd (hk _ _ _ _ h)
      · cases h
    · cases h
  | aaload =>
    simp only [jx1, jlen] at h hn; obtain rfl : n = 1 := by omega
    split at h
    · split at h
      · rename_i m hv
        obtain ⟨h1, h⟩ := jite h
        refine jw_aald hX (hE8 _ _ hv).1 (hE8 _ _ hv).2 h1 hd ?_
        split at h
        · rename_i h0
          rw [if_pos h0]
          exact hk _ _ _ _ h
        · rename_i h0
          rw [if_neg h0]
          obtain ⟨q, hq, h⟩ := jsel_some h
          rw [hq, Int.toNat_natCast]
          exact hk _ _ _ _ h
      · cases h
    · cases h
  | arraylength =>
    simp only [jx1, jlen] at h hn; obtain rfl : n = 1 := by omega
    split at h
    · split at h
      · rename_i m hv
        exact jw_alen hX (hE8 _ _ hv).1 hd (hk _ _ _ _ h)
      · rename_i m hv
        exact jw_lalen hX (hE8 _ _ hv).1 hd (hk _ _ _ _ h)
      · rename_i m hv
        exact jw_talen hX (hE8 _ _ hv) hd (hk _ _ _ _ h)
      · cases h
    · cases h
  | getfield a =>
    simp only [jx1, jlen] at h hn; obtain rfl : n = 3 := by omega
    split at h
    · split at h
      · rename_i ci f cj fks hv hw
        obtain ⟨h1, h5⟩ := jcond h
        obtain rfl := jbeq h1
        have hs := (hE8 _ _ hw).1
        split at h5
        · rename_i hf
          exact jw_get hX hs hf (fun _ => rfl) (hE2 _ _ _ hv) hd (hk _ _ _ _ h5)
        · rename_i q hf hq
          exact jw_get hX hs hq (fun _ => jfv_int hf) (hE2 _ _ _ hv) hd (hk _ _ _ _ h5)
        · rename_i q hf
          exact jw_get hX hs hf (fun _ => rfl) (hE2 _ _ _ hv) hd (hk _ _ _ _ h5)
        · rename_i hf
          exact jw_get hX hs hf (fun _ => rfl) (hE2 _ _ _ hv) hd (hk _ _ _ _ h5)
        · cases h5
      · cases h
    · cases h
  | putfield a =>
    simp only [jx1, jlen] at h hn; obtain rfl : n = 3 := by omega
    split at h
    · split at h
      · rename_i ci f cj fks hv hw
        obtain ⟨h1, h5⟩ := jcond h
        obtain rfl := jbeq h1
        have hs := (hE8 _ _ hw)
        split at h5
        · rename_i hf
          exact jw_put (w := jmi _) (kd' := 0) hX hs.1 hf (fun _ => by simp [jfv, jup, jtoV]) (hE2 _ _ _ hv) (hs.2 _ _ (by omega) hf) (fun _ => ⟨rfl, rfl⟩) hd (hk _ _ _ _ h5)
        · rename_i hf
          obtain ⟨h2, h5⟩ := jite h5
          exact jw_put (w := jmi _) (kd' := 2) hX hs.1 hf (fun _ => by simp [jfv, jup, jtoV]) (hE2 _ _ _ hv) (hs.2 _ _ (by omega) hf) (fun _ => by rcases h2 with rfl | rfl <;> exact ⟨rfl, rfl⟩) hd (hk _ _ _ _ h5)
        · cases h5
      · cases h
    · split at h
      · rename_i ci f cj fks hv hw
        obtain ⟨h1, h5⟩ := jcond h
        obtain rfl := jbeq h1
        have hs := (hE8 _ _ hw)
        split at h5
        · rename_i hf
          exact jw_put (w := jml _) (kd' := 1) hX hs.1 hf (fun _ => by simp [jfv, jup, jtoV]) (hE2 _ _ _ hv) (hs.2 _ _ (by omega) hf) (fun _ => ⟨rfl, rfl⟩) hd (hk _ _ _ _ h5)
        · cases h5
      · cases h
    · cases h
  | getstatic a =>
    simp only [jx1, jlen] at h hn; obtain rfl : n = 3 := by omega
    split at h
    · rename_i id hv
      exact hE6 _ _ hv _ _ _ _ _ hd (hk _ _ _ _ h)
    · cases h
  | invokevirtual a =>
    simp only [jx1, jlen] at h hn; obtain rfl : n = 3 := by omega
    split at h
    · rename_i q hv
      obtain ⟨h1, h⟩ := jcond h
      obtain ⟨v, σ1, h2, h3⟩ := hE3 _ _ _ _ _ _ _ hv (by simp; omega) h
      have h4 := h3 _ pc loc (st.drop q) hd (jble h1) (hk _ _ _ _ h2)
      rw [jdrop] at h4
      exact h4
    · cases h
  | invokestatic a =>
    simp only [jx1, jlen] at h hn; obtain rfl : n = 3 := by omega
    split at h
    · rename_i q hv
      obtain ⟨h1, h⟩ := jcond h
      obtain ⟨v, σ1, h2, h3⟩ := hE4 _ _ _ _ _ _ _ hv (by simp; omega) h
      have h4 := h3 _ pc loc (st.drop q) hd (jble h1) (hk _ _ _ _ h2)
      rw [jdrop] at h4
      exact h4
    · cases h
  | ireturn =>
    simp only [jx1, jlen] at h hn; obtain rfl : n = 1 := by omega
    split at h
    · split at h
      · rename_i hv
        cases h
        rw [← hE7, hv]
        exact jw_iret hX (hE7 ▸ hv) hd
      · rename_i hv
        obtain ⟨h1, h⟩ := jite h
        cases h
        rw [← hE7, hv]
        exact jw_zret hX (hE7 ▸ hv) h1 hd
      · cases h
    · cases h
  | lreturn =>
    simp only [jx1, jlen] at h hn; obtain rfl : n = 1 := by omega
    split at h
    · split at h
      · rename_i hv
        cases h
        rw [← hE7, hv]
        exact jw_lret hX (hE7 ▸ hv) hd
      · cases h
    · cases h
  | areturn =>
    simp only [jx1, jlen] at h hn; obtain rfl : n = 1 := by omega
    split at h
    · rename_i idq
      split at h
      · rename_i hv
        cases h
        rw [← hE7, hv]
        have e := jw_aret (id := idq + 1) (σ := σ) (loc := loc) hX (hE7 ▸ hv) hd
        have hne : ¬ ((idq + 1 : Nat) : Int) = 0 := by omega
        simp only [jrv, if_neg hne, Int.toNat_natCast]
        exact e
      · cases h
    · split at h
      · rename_i hv
        cases h
        rw [← hE7, hv]
        have e := jw_nret (σ := σ) (loc := loc) hX (hE7 ▸ hv) hd
        simpa [jrv] using e
      · cases h
    · cases h
  | return_ =>
    simp only [jx1, jlen] at h hn; obtain rfl : n = 1 := by omega
    split at h
    · split at h
      · rename_i hv
        cases h
        rw [← hE7, hv]
        exact jw_vret hX (hE7 ▸ hv) hd
      · cases h
    · cases h
  | tableswitch d lo hi offs =>
    simp only [jx1] at h
    split at h
    · rename_i z r
      obtain ⟨h1, h⟩ := jite h
      have h3 := jsw_some h
      refine jw_sw hX hd h1 ?_ ?_ ?_ ?_
      · intro t ht hc
        rcases h3 with ⟨-, h⟩ | ⟨j, o, g1, g2, g3⟩
        · obtain ⟨t', ht', h⟩ := jtgt_some h
          obtain rfl : t = t' := by omega
          exact hk _ _ _ _ h
        · have := (List.getElem?_eq_some_iff.mp g1).1
          omega
      · intro j off t hj hjx ht
        have hl := (List.getElem?_eq_some_iff.mp hj).1
        rcases h3 with ⟨g, -⟩ | ⟨j', o, g1, g2, g3⟩
        · exact absurd hjx (g j hl)
        · obtain rfl : j = j' := by omega
          cases hj.symm.trans g1
          obtain ⟨t', ht', h⟩ := jtgt_some g3
          obtain rfl : t = t' := by omega
          exact hk _ _ _ _ h
      · intro hc
        rcases h3 with ⟨-, h⟩ | ⟨j, o, g1, g2, g3⟩
        · obtain ⟨t', ht', h⟩ := jtgt_some h
          omega
        · have := (List.getElem?_eq_some_iff.mp g1).1
          omega
      · intro j off hj hjx
        have hl := (List.getElem?_eq_some_iff.mp hj).1
        rcases h3 with ⟨g, -⟩ | ⟨j', o, g1, g2, g3⟩
        · exact absurd hjx (g j hl)
        · obtain rfl : j = j' := by omega
          cases hj.symm.trans g1
          obtain ⟨t', ht', h⟩ := jtgt_some g3
          omega
    · cases h
  | _ => simp only [jx1] at h; cases h
end JX
end
section
/-! Runs up to the next cut; contracts of methods; calls. -/
section JC
variable {X : jxX} {E : jxE} {tb : List (Nat × Instr)}
/-- a table of instructions: each decoded so, each branch to a place -/
def jtok (cc : ByteArray) (tb : List (Nat × Instr)) : Bool := tb.all (fun q => (match decode cc q.1 with
  | .ok (i, n) => decide (i = q.2) && (Nat.beq (jlen i) 0 || Nat.beq n (jlen i))
  | .error _ => false) && jjmp q.1 q.2)
theorem jlk_in {tb : List (Nat × Instr)} {pc : Nat} {i : Instr} (h : jlk tb pc = some i) : (pc, i) ∈ tb := by
  induction tb with
  | nil => simp [jlk] at h
  | cons q t ih =>
    simp only [jlk] at h
    cases hb : Nat.beq q.1 pc with
    | true =>
      rw [hb] at h
      simp only [cond_true, Option.some.injEq] at h
      have := jbeq hb
      obtain ⟨a, b⟩ := q
      simp only at h this
      subst h; subst this
      exact List.mem_cons_self
    | false =>
      rw [hb] at h
      exact List.mem_cons_of_mem _ (ih (by simpa using h))
theorem jtok_at {cc : ByteArray} {tb : List (Nat × Instr)} (h : jtok cc tb = true) {pc : Nat} {i : Instr} (hi : jlk tb pc = some i) : (∃ n, decode cc pc = .ok (i, n) ∧ (jlen i = 0 ∨ n = jlen i)) ∧ jjmp pc i = true := by
  have h1 := List.all_eq_true.mp h _ (jlk_in hi)
  simp only [Bool.and_eq_true] at h1
  obtain ⟨h1, h2⟩ := h1
  refine ⟨?_, h2⟩
  cases hd : decode cc pc with
  | error e => rw [hd] at h1; cases h1
  | ok q =>
    obtain ⟨j, n⟩ := q
    rw [hd] at h1
    simp only [Bool.and_eq_true, Bool.or_eq_true, decide_eq_true_eq] at h1
    obtain ⟨rfl, h3⟩ := h1
    exact ⟨n, rfl, h3.imp jbeq jbeq⟩
/-- a cut: its place, what the locals and the stack hold there (0 a number, 1 a long, a cell, null; none: nothing that is used), and what goes on from there -/
abbrev jxT : Type := Nat ⊕ Option Nat
abbrev jxU : Type := Nat × List (Option jxT) × List jxT × (List Int → jxS → Option jxR)
def jext (tl : List (Option jxT)) (l : jxL) : Option (List Int) := match tl, l with
  | [], _ => some []
  | none :: t, _ :: l => jext t l
  | some (.inl 0) :: t, some (.inl x) :: l => (match jext t l with
    | some xs => some (x :: xs)
    | none => none)
  | some (.inl 1) :: t, some (.inr (.inl x)) :: l => (match jext t l with
    | some xs => some (x :: xs)
    | none => none)
  | some (.inr (some j)) :: t, some (.inr (.inr (.inl k))) :: l => bif Nat.beq j k then jext t l else none
  | some (.inr none) :: t, some (.inr (.inr (.inr _))) :: l => jext t l
  | _, _ => none
def jexs (ts : List jxT) (st : List jxV) : Option (List Int) := match ts, st with
  | [], [] => some []
  | .inl 0 :: t, .inl x :: l => (match jexs t l with
    | some xs => some (x :: xs)
    | none => none)
  | .inl 1 :: t, .inr (.inl x) :: l => (match jexs t l with
    | some xs => some (x :: xs)
    | none => none)
  | .inr (some j) :: t, .inr (.inr (.inl k)) :: l => bif Nat.beq j k then jexs t l else none
  | .inr none :: t, .inr (.inr (.inr _)) :: l => jexs t l
  | _, _ => none
def jins (tl : List (Option jxT)) (xs : List Int) : jxL := match tl, xs with
  | [], _ => []
  | none :: t, xs => none :: jins t xs
  | some (.inl 0) :: t, x :: xs => some (jmi x) :: jins t xs
  | some (.inl _) :: t, x :: xs => some (jml x) :: jins t xs
  | some (.inl _) :: t, [] => none :: jins t []
  | some (.inr (some j)) :: t, xs => some (jmr j) :: jins t xs
  | some (.inr none) :: t, xs => some jmn :: jins t xs
def jinz (ts : List jxT) (xs : List Int) : List jxV := match ts, xs with
  | [], _ => []
  | .inl 0 :: t, x :: xs => jmi x :: jinz t xs
  | .inl _ :: t, x :: xs => jml x :: jinz t xs
  | .inl _ :: t, [] => jmi 0 :: jinz t []
  | .inr (some j) :: t, xs => jmr j :: jinz t xs
  | .inr none :: t, xs => jmn :: jinz t xs
def jcnt (tl : List (Option jxT)) : Nat := match tl with
  | [] => 0
  | some (.inl _) :: t => jcnt t + 1
  | _ :: t => jcnt t
def jcns (ts : List jxT) : Nat := match ts with
  | [] => 0
  | .inl _ :: t => jcns t + 1
  | _ :: t => jcns t
def jkk (cs : List jxU) : jxK := fun pc loc st σ => match cs with
  | [] => none
  | (p, tl, ts, f) :: t => bif Nat.beq p pc then (match jext tl loc with
    | some xs => (match jexs ts st with
      | some ys => f (xs ++ ys) σ
      | none => jkk t pc loc st σ)
    | none => jkk t pc loc st σ) else jkk t pc loc st σ
theorem jext_ok {tl : List (Option jxT)} : ∀ {l : jxL} {xs : List Int}, jext tl l = some xs → xs.length = jcnt tl ∧ (jins tl xs).length ≤ l.length ∧ ∀ i v, jget (jins tl xs) i = some v → jget l i = some v := by
  induction tl with
  | nil =>
    intro l xs h
    simp only [jext, Option.some.injEq] at h
    subst h
    exact ⟨rfl, Nat.zero_le _, fun i v h => by simp [jins, jget] at h⟩
  | cons a t ih =>
    intro l xs h
    match a, l, h with
    | none, [], h => simp [jext] at h
    | none, b :: l, h =>
      obtain ⟨h1, h2, h3⟩ := ih (by simpa [jext] using h)
      refine ⟨h1, by simp only [jins, List.length_cons]; omega, fun i v hv => ?_⟩
      cases i with
      | zero => simp [jins, jget] at hv
      | succ i => exact h3 i v (by simpa [jins, jget] using hv)
    | some (.inl 0), some (.inl x) :: l, h =>
      simp only [jext] at h
      split at h
      · rename_i ys hy
        cases h
        obtain ⟨h1, h2, h3⟩ := ih hy
        refine ⟨by simp [jcnt, h1], by simp only [jins, List.length_cons]; omega, fun i v hv => ?_⟩
        cases i with
        | zero => simpa [jins, jget] using hv
        | succ i => exact h3 i v (by simpa [jins, jget] using hv)
      · cases h
    | some (.inl 1), some (.inr (.inl x)) :: l, h =>
      simp only [jext] at h
      split at h
      · rename_i ys hy
        cases h
        obtain ⟨h1, h2, h3⟩ := ih hy
        refine ⟨by simp [jcnt, h1], by simp only [jins, List.length_cons]; omega, fun i v hv => ?_⟩
        cases i with
        | zero => simpa [jins, jget] using hv
        | succ i => exact h3 i v (by simpa [jins, jget] using hv)
      · cases h
    | some (.inr (some j)), some (.inr (.inr (.inl k))) :: l, h =>
      simp only [jext] at h
      cases hb : Nat.beq j k with
      | false => rw [hb] at h; cases h
      | true =>
        rw [hb] at h
        have e := jbeq hb
        subst e
        obtain ⟨h1, h2, h3⟩ := ih (by simpa using h)
        refine ⟨h1, by simp only [jins, List.length_cons]; omega, fun i v hv => ?_⟩
        cases i with
        | zero => simpa [jins, jget] using hv
        | succ i => exact h3 i v (by simpa [jins, jget] using hv)
    | some (.inr none), some (.inr (.inr (.inr u))) :: l, h =>
      obtain ⟨h1, h2, h3⟩ := ih (by simpa [jext] using h)
      refine ⟨h1, by simp only [jins, List.length_cons]; omega, fun i v hv => ?_⟩
      cases i with
      | zero => simpa [jins, jget] using hv
      | succ i => exact h3 i v (by simpa [jins, jget] using hv)
theorem jexs_ok {ts : List jxT} : ∀ {l : List jxV} {xs : List Int}, jexs ts l = some xs → xs.length = jcns ts ∧ jinz ts xs = l := by
  induction ts with
  | nil =>
    intro l xs h
    match l, h with
    | [], h => simp only [jexs, Option.some.injEq] at h; subst h; exact ⟨rfl, rfl⟩
  | cons a t ih =>
    intro l xs h
    match a, l, h with
    | .inl 0, .inl x :: l, h =>
      simp only [jexs] at h
      split at h
      · rename_i ys hy
        cases h
        obtain ⟨h1, h2⟩ := ih hy
        exact ⟨by simp [jcns, h1], by simp [jinz, h2]⟩
      · cases h
    | .inl 1, .inr (.inl x) :: l, h =>
      simp only [jexs] at h
      split at h
      · rename_i ys hy
        cases h
        obtain ⟨h1, h2⟩ := ih hy
        exact ⟨by simp [jcns, h1], by simp [jinz, h2]⟩
      · cases h
    | .inr (some j), .inr (.inr (.inl k)) :: l, h =>
      simp only [jexs] at h
      cases hb : Nat.beq j k with
      | false => rw [hb] at h; cases h
      | true =>
        rw [hb] at h
        have e := jbeq hb
        subst e
        obtain ⟨h1, h2⟩ := ih (by simpa using h)
        exact ⟨h1, by simp [jinz, h2]⟩
    | .inr none, .inr (.inr (.inr u)) :: l, h =>
      obtain ⟨h1, h2⟩ := ih (by simpa [jexs] using h)
      exact ⟨h1, by simp [jinz, h2]⟩
/-- fewer locals are known: nothing is lost -/
theorem jWj_less {Q : State → Prop} {pc : Nat} {loc loc' : jxL} {st : List jxV} {σ : jxS} (h1 : loc'.length ≤ loc.length) (h2 : ∀ i v, jget loc' i = some v → jget loc i = some v) (h : jWj X Q pc loc' st σ) : jWj X Q pc loc st σ := by
  obtain ⟨p, l, e, R, s, m, args, below, meth, c, cc, nL, own, D, cy, A, ad, sh, kd, ca, sl⟩ := X
  intro H locs ls hP hD hS hL
  exact h H locs ls hP hD hS ⟨hL.1, hL.2.1, Nat.le_trans h1 hL.2.2.1, fun i v hv => hL.2.2.2 i v (h2 i v hv)⟩
def jCut (X : jxX) (q : jxU) : Prop := ∀ xs : List Int, xs.length = jcnt q.2.1 → ∀ ys : List Int, ys.length = jcns q.2.2.1 → ∀ σ, jRf X (q.2.2.2 (xs ++ ys) σ) q.1 (jins q.2.1 xs) (jinz q.2.2.1 ys) σ
theorem jkk_ok {cs : List jxU} (hc : ∀ q ∈ cs, jCut X q) {pc : Nat} {loc : jxL} {st : List jxV} {σ : jxS} : jRf X (jkk cs pc loc st σ) pc loc st σ := by
  induction cs with
  | nil => exact jRf_none
  | cons q t ih =>
    obtain ⟨p, tl, ts, f⟩ := q
    intro x σ' h
    simp only [jkk] at h
    cases hb : Nat.beq p pc with
    | false =>
      rw [hb] at h
      exact ih (fun q hq => hc q (List.mem_cons_of_mem _ hq)) x σ' (by simpa using h)
    | true =>
      rw [hb] at h
      have e := jbeq hb
      subst e
      simp only [cond_true] at h
      split at h
      · rename_i xs hx
        split at h
        · rename_i ys hy
          obtain ⟨h1, h2, h3⟩ := jext_ok hx
          obtain ⟨g1, g2⟩ := jexs_ok hy
          have k := hc _ List.mem_cons_self xs h1 ys g1 σ x σ' h
          rw [g2] at k
          exact jWj_less h2 h3 k
        · exact ih (fun q hq => hc q (List.mem_cons_of_mem _ hq)) x σ' h
      · exact ih (fun q hq => hc q (List.mem_cons_of_mem _ hq)) x σ' h
/-- a method's tables, and what its code is -/
def jGd (X : jxX) (E : jxE) (tb : List (Nat × Instr)) : Prop := jOK X ∧ jEnv X E tb ∧ ∀ pc i, jlk tb pc = some i → jjmp pc i = true
theorem jex_ok (hG : jGd X E tb) {cs : List jxU} (hc : ∀ q ∈ cs, jCut X q) : ∀ (n pc : Nat) (loc : jxL) (st : List jxV) (σ : jxS), jRf X (jex E tb (cs.map (·.1)) (jkk cs) n pc loc st σ) pc loc st σ := by
  intro n
  induction n with
  | zero => intro pc loc st σ; exact jRf_none
  | succ n ih =>
    intro pc loc st σ x σ' h
    simp only [jex] at h
    split at h
    · cases h
    · rename_i i hi
      obtain ⟨m, hd, hm⟩ := hG.2.1.1 pc i hi
      refine jx1_ok hG.1 hG.2.1 hd hm (hG.2.2 pc i hi) (fun pc' loc' st' σ1 hk => ?_) h
      cases hb : jin (cs.map (·.1)) pc' with
      | true =>
        rw [hb] at hk
        exact jkk_ok hc x σ' hk
      | false =>
        rw [hb] at hk
        exact ih pc' loc' st' σ1 x σ' hk
/-- a method's start: its arguments, its cells -/
def jPc (D : va_G) (cy : Nat → ClassId) (A : Nat → Prop) (ad : Nat → Nat) (sh : List jxC) (σ : jxS) (as : List jxV) : Array Value → State → Prop := fun v U => v = (as.map (jtoV ad)).toArray ∧ va_P D vwCl (jW ad cy sh σ) U.heap ∧ va_D A (jW ad cy sh σ) ∧ va_K D vwCl (jtys cy) U ∧ (∀ q, U.heap.size ≤ q → A q) ∧ jBG ad A U
/-- a contract: from these arguments and this state to that answer and that state -/
def jMC (y : MethodName) (bytes : ByteArray) (maxL : Nat) (ret : Option FieldType) (fr lo : Nat) (sh : List jxC) (σ : jxS) (as : List jxV) (v : Option jxV) (σ1 : jxS) : Prop := ∀ (l : Launch) (D : va_G) (cy : Nat → ClassId) (A : Nat → Prop) (ad : Nat → Nat), Met l y (.code y bytes maxL ret :: jTB) { frames := fr, cells := 0, slots := 0, locals := lo } (jPc D cy A ad sh σ as) (jQc D cy A ad sh v σ1) 0 0 A
theorem jPc_blind {D : va_G} {cy : Nat → ClassId} {A : Nat → Prop} {ad : Nat → Nat} {sh : List jxC} {σ : jxS} {as : List jxV} : FrameBlind (jPc D cy A ad sh σ as) := by
  intro a U g mk h
  obtain ⟨h1, h2, h3, h4, h5, h6⟩ := h
  exact ⟨h1, h2, h3, va_K.moved (u := U) (U := U.calling g mk a) (Vm.Alike.refl U.vm) h4, h5, h6.same rfl rfl⟩
def jpad (n : Nat) (as : List jxV) : jxL := match as, n with
  | [], n => List.replicate n none
  | .inr (.inl x) :: t, n + 2 => some (jml x) :: none :: jpad n t
  | a :: t, n + 1 => some a :: jpad n t
  | _ :: _, 0 => []
end JC
end
section
/-! A contract out of a run; a call out of a contract. -/
section JD
theorem jpad_len (as : List jxV) : ∀ n, (jpad n as).length ≤ n := by
  induction as with
  | nil => intro n; simp [jpad]
  | cons a t ih =>
    intro n
    match a, n with
    | .inl x, 0 => simp [jpad]
    | .inl x, n + 1 => simp only [jpad, List.length_cons]; have := ih n; omega
    | .inr (.inl x), 0 => simp [jpad]
    | .inr (.inl x), 1 => simp only [jpad, List.length_cons]; have := ih 0; omega
    | .inr (.inl x), n + 2 => simp only [jpad, List.length_cons]; have := ih n; omega
    | .inr (.inr x), 0 => simp [jpad]
    | .inr (.inr x), n + 1 => simp only [jpad, List.length_cons]; have := ih n; omega
theorem jpad_get {ad : Nat → Nat} (as : List jxV) : ∀ (n b i : Nat) (v : jxV), jcat as ≤ n → jget (jpad n as) i = some v → (b + i, jtoV ad v) ∈ lv_args b (as.map (jtoV ad)) := by
  induction as with
  | nil =>
    intro n b i v _ h
    exfalso
    have hz : ∀ (n i : Nat), jget (List.replicate n none) i = none := by
      intro n
      induction n with
      | zero => intro i; simp [jget]
      | succ n ih => intro i; cases i <;> simp [List.replicate_succ, jget, ih]
    simp [jpad, hz] at h
  | cons a t ih =>
    intro n b i v hc h
    match a, n with
    | .inl x, 0 => simp [jcat] at hc
    | .inl x, n + 1 =>
      simp only [jpad] at h
      simp only [jcat] at hc
      cases i with
      | zero => simp only [jget, Option.some.injEq] at h; subst h; simp [lv_args]
      | succ i =>
        have := ih n (b + 1) i v (by omega) (by simpa [jget] using h)
        have e : b + 1 + i = b + (i + 1) := by omega
        rw [e] at this
        exact List.mem_cons_of_mem _ this
    | .inr (.inl x), 0 => simp [jcat] at hc
    | .inr (.inl x), 1 => simp [jcat] at hc
    | .inr (.inl x), n + 2 =>
      simp only [jpad] at h
      simp only [jcat] at hc
      match i with
      | 0 => simp only [jget, Option.some.injEq] at h; subst h; simp [lv_args]
      | 1 => simp [jget] at h
      | i + 2 =>
        have := ih n (b + 2) i v (by omega) (by simpa [jget] using h)
        have e : b + 2 + i = b + (i + 2) := by omega
        rw [e] at this
        exact List.mem_cons_of_mem _ this
    | .inr (.inr x), 0 => match x, hc with
      | .inl x, hc => simp [jcat] at hc
      | .inr x, hc => simp [jcat] at hc
    | .inr (.inr x), n + 1 =>
      have hc' : jcat t ≤ n := by
        match x, hc with
        | .inl x, hc => simp only [jcat] at hc; omega
        | .inr x, hc => simp only [jcat] at hc; omega
      have h1 : (if (jtoV ad (.inr (.inr x))).category = 2 then b + 2 else b + 1) = b + 1 := by
        match x with
        | .inl x => rfl
        | .inr x => rfl
      simp only [jpad] at h
      cases i with
      | zero => simp only [jget, Option.some.injEq] at h; subst h; simp [lv_args]
      | succ i =>
        have := ih n (b + 1) i v hc' (by simpa [jget] using h)
        have e : b + 1 + i = b + (i + 1) := by omega
        rw [e] at this
        simp only [List.map_cons, lv_args, h1]
        exact List.mem_cons_of_mem _ this
theorem jcat_sl {ad : Nat → Nat} (as : List jxV) : (lg_sl (as.map (jtoV ad))).length = jcat as := by
  induction as with
  | nil => rfl
  | cons a t ih =>
    have e : ∀ v, lg_sl (v :: t.map (jtoV ad)) = (if v.category = 2 then [Slot.val v, .second] else [.val v]) ++ lg_sl (t.map (jtoV ad)) := fun v => rfl
    rw [List.map_cons, e, List.length_append, ih]
    match a with
    | .inl x => simp [jtoV, Value.category, jcat]; omega
    | .inr (.inl x) => simp [jtoV, Value.category, jcat]; omega
    | .inr (.inr (.inl x)) => simp [jtoV, Value.category, jcat]; omega
    | .inr (.inr (.inr x)) => simp [jtoV, Value.category, jcat]; omega
theorem jcat_sum {ad : Nat → Nat} (as : List jxV) : ((as.map (jtoV ad)).map fun v => v.category).sum = jcat as := by
  induction as with
  | nil => rfl
  | cons a t ih =>
    rw [List.map_cons, List.map_cons, List.sum_cons, ih]
    match a with
    | .inl x => simp [jtoV, Value.category, jcat]; omega
    | .inr (.inl x) => simp [jtoV, Value.category, jcat]; omega
    | .inr (.inr (.inl x)) => simp [jtoV, Value.category, jcat]; omega
    | .inr (.inr (.inr x)) => simp [jtoV, Value.category, jcat]; omega
def jroom (X : jxX) : Room := match X with
  | (_, _, _, R, _) => R
/-- where a method is at its start -/
def jAt (X : jxX) (y : MethodName) (bytes : ByteArray) (fr lo kd : Nat) (sh : List jxC) : Prop := jOK X ∧ jcc X = bytes ∧ jown X = y.cls ∧ ((jroom X).frames = fr ∧ (jroom X).locals = lo) ∧ jsh X = sh ∧ jkd X = kd
theorem jMC_of {y : MethodName} {bytes : ByteArray} {maxL fr lo kd : Nat} {sh : List jxC} {σ σ' : jxS} {as : List jxV} {f : Option jxR} {x : Int} (hy : plainName y.cls = true) (hc : Nat.ble (jcat as) maxL = true) (h : f = some (x, σ'))
    (hb : ∀ X, jAt X y bytes fr lo kd sh → jRf X f 0 (jpad maxL as) [] σ) : jMC y bytes maxL (jrt kd) fr lo sh σ as (jrv kd x) σ' := by
  intro l D cy A ad
  refine Met.ofW (cc := bytes) (maxL := maxL) (ret := jrt kd) hy rfl ?_
  intro p e s m args below meth c s₁ B hml hv
  obtain ⟨rfl, hP, hD, hK, hA, hBG⟩ := hv
  have hts := atoms_spec (ws := .code y bytes maxL (jrt kd) :: jTB) B.pre
  have hown : s.vm.findClass y.cls = some m.cls := findClass_of_methodNamed B.named
  have k := hb (p, l, e, { frames := fr, cells := 0, slots := 0, locals := lo }, s, m, (as.map (jtoV ad)).toArray, below, meth, c, bytes, maxL, y.cls, D, cy, A, ad, sh, kd, 0, 0) ⟨⟨B.exec, B.bytes, hml, hown, fun w hw => hts w (List.mem_cons_of_mem _ hw), B.notSynchronized, hK, hA, hBG, B.returns, Nat.le_refl _, Nat.le_refl _⟩, rfl, rfl, ⟨rfl, rfl⟩, rfl, rfl⟩ x σ' h
  rw [lg_entry_eq]
  have hl := lv_entry (as.map (jtoV ad)) (n := maxL) (by rw [jcat_sl]; exact jble hc)
  exact k s.heap [] _ hP hD va_S.rf ⟨hl.1, hl.2.1, jpad_len as maxL, fun i v hv => hl.2.2 (i, jtoV ad v) (by simpa using jpad_get (ad := ad) as maxL 0 i v (jble hc) hv)⟩
section CA
variable {p : Program} {l : Launch} {e : Env} {R : Room} {s : State} {m : MethodId} {args : Array Value} {below : List Frame} {meth : Method} {c : Code} {H : Heap} {locs : List Loc} {Q : State → Prop} {pc : Nat} {ls : Array Slot} {rest st0 : List Value} {a : Array Value} {D : va_G} {cy : Nat → ClassId} {A : Nat → Prop} {ad : Nat → Nat} {sh : List jxC} {v : Option jxV} {σ1 : jxS} {ca sl : Nat}
theorem jcall_on (hr : va_Run p l e R s m args below meth c H locs ca sl 0 0 (F0 m pc ls st0) rest (jQc D cy A ad sh v σ1 a) A) (hS : va_S A s.heap H locs)
    (hk : ∀ (H1 : Heap) (locs1 : List Loc), va_P D vwCl (jW ad cy sh σ1) H1 → va_S A s.heap H1 locs1 → W p l e R s m args below meth c H1 locs1 ca sl Q (F0 m (pc + 3) ls ((v.map (jtoV ad)).toList ++ rest))) : W p l e R s m args below meth c H locs ca sl Q (F0 m pc ls st0) := by
  intro T hT X
  obtain ⟨w, st₀, t, T', L, h0, X', hL, e1, e2, ⟨hv, hP, hz, hq⟩, st⟩ := hr T hT X
  cases hv
  rw [h0] at hz hq
  obtain ⟨t2, a1, b1⟩ := hk T'.heap (locs ++ L) (by rw [e1]; exact hP)
    ⟨Nat.le_trans hS.1 (by rw [e1]; exact hz), fun q h1 h2 => by rw [e1, hq q (Nat.lt_of_lt_of_le h1 hS.1) h2]; exact hS.2.1 q h1 h2, fun q hq => by
      rcases List.mem_append.mp hq with h | h
      · exact hS.2.2 q h
      · exact hL q h⟩ T' rfl X'
  exact ⟨t2, st t2 a1, b1⟩
theorem jpre {as : List jxV} {σ : jxS} (hP : va_P D vwCl (jW ad cy sh σ) H) (hD : va_D A (jW ad cy sh σ)) (hS : va_S A s.heap H locs) (hK : va_K D vwCl (jtys cy) s) (hA : ∀ q, s.heap.size ≤ q → A q) (hB : jBG ad A s) (U : State) (hU : U.heap = H) (hW : s.WarmedH U.vm) : jPc D cy A ad sh σ as (as.map (jtoV ad)).toArray U :=
  ⟨rfl, by rw [hU]; exact hP, hD, va_K.moved hW.alike hK, fun q hq => hA q (Nat.le_trans hS.1 (by rw [← hU]; exact hq)), hB.go hW (by rw [hU]; exact hS.2.1)⟩
end CA
variable {X : jxX} {y : MethodName} {bytes : ByteArray} {maxL fr lo kd n idx : Nat} {σ σ1 : jxS} {v : Option jxV}
/-- what the tables say of a call -/
def jLkV (own : String) (idx : Nat) (y : MethodName) (bytes : ByteArray) (maxL kd n : Nat) : Prop := Cond.methodLink own idx y ∈ jTB ∧ Cond.instanceMethod y ∈ jTB ∧ Cond.selects y.cls y y ∈ jTB ∧ Cond.initialized y.cls ∈ jTB ∧ Cond.code y bytes maxL (jrt kd) ∈ jTB ∧ (y.cls ≠ "java/lang/invoke/MethodHandle" ∧ y.cls ≠ "java/lang/invoke/VarHandle" ∧ (parseMethodDescriptor y.desc).map (fun d => d.parameters.length) = some n)
def jLkS (own : String) (idx : Nat) (y : MethodName) (bytes : ByteArray) (maxL kd n : Nat) : Prop := (Cond.methodLink own idx y ∈ jTB ∨ ∃ host, Cond.methodLinkNest own idx y host ∈ jNS) ∧ Cond.static y ∈ jTB ∧ Cond.initialized y.cls ∈ jTB ∧ Cond.code y bytes maxL (jrt kd) ∈ jTB ∧ (y.cls ≠ "java/lang/invoke/MethodHandle" ∧ y.cls ≠ "java/lang/invoke/VarHandle" ∧ (parseMethodDescriptor y.desc).map (fun d => d.parameters.length) = some n)
theorem jGoodV {own : String} (h : jLkV own idx y bytes maxL kd n) : GoodIn jTB (wsV own idx y.cls y (.code y bytes maxL (jrt kd) :: jTB)) := by
  obtain ⟨h1, h2, h3, h4, h5, -⟩ := h
  have g : ∀ {w}, w ∈ jTB → w ∈ jTB ∧ ((w.onTables && w.keeps) = true ∨ ∃ ty, w = .arrayClass ty) := fun h => ⟨h, good_of_word (jTB_good h)⟩
  intro w hw
  unfold wsV at hw
  rcases List.mem_append.mp hw with hw | hw
  · simp only [List.mem_cons, List.not_mem_nil, or_false] at hw
    rcases hw with rfl | rfl | rfl | rfl
    · exact g h1
    · exact g h2
    · exact g h3
    · exact g h4
  · exact jTB_in (fun _ h => h) h5 w hw
theorem jCallV {id ci : Nat} {fks : List jxF} {T : u_T} {N : Nat} {as : List jxV} (hX : jOK X) (hl : jLkV (jown X) idx y bytes maxL kd n) (hr : fr + 1 ≤ (jroom X).frames ∧ 8 + (maxL + 11) + lo ≤ (jroom X).locals) (hs : (jsh X)[id]? = some (.inl (ci, fks))) (hc : vwCl[ci]? = some (y.cls, T, N)) (hn : as.length = n)
    (hM : jMC y bytes maxL (jrt kd) fr lo (jsh X) σ (jmr id :: as) v σ1) : jCall X (.invokevirtual idx) (jmr id :: as) v σ σ1 := by
  intro Q pc loc rest hd hcat hk
  obtain ⟨p, l, e, R, s, m, args, below, meth, c, cc, nL, own, D, cy, A, ad, sh, kd', ca, sl⟩ := X
  obtain ⟨hx, hb, hml, hown, hts, hlk, hK, hA, hBG, hrt, hca, hsl⟩ := hX
  intro H locs ls hP hD hS hL
  have hg := jGoodV hl
  obtain ⟨h1, h2, h3, h4, h5, h6⟩ := hl
  have hrun : va_Run p l e R s m args below meth c H locs ca sl 0 0 (F0 m pc ls (((jmr id :: as).reverse ++ rest).map (jtoV ad))) (rest.map (jtoV ad)) (jQc D cy A ad sh v σ1 ((jmr id :: as).map (jtoV ad)).toArray) A := va_runV (g := F0 m pc ls (((jmr id :: as).reverse ++ rest).map (jtoV ad))) (rest := rest.map (jtoV ad)) (locs := locs) (cells := ca) (slots := sl) (nL := nL) (As := as.map (jtoV ad)) (b := ad id) ⟨hx, hb, hml, hown, hts⟩ (hM l D cy A ad) (cwV n hts hg rfl rfl rfl ⟨rfl, h6⟩ hr) ⟨jPc_blind, va_recv hK hP hc (jW_get hs), fun U hU hW => jpre (as := jmr id :: as) hP hD hS hK hA hBG U hU hW⟩ rfl (by simpa using hn) hL.1
    (by simp [List.map_append, List.map_reverse, jtoV]) (lv_room (by rw [jcat_sum]; exact hcat)) hd ⟨hca, hsl⟩
  refine jcall_on hrun hS (fun H1 locs1 hP1 hS1 => ?_)
  have k := hk H1 locs1 ls hP1 (jW_D hD) hS1 hL
  cases v with
  | none => exact k
  | some w => exact k
theorem jCallS {as : List jxV} (hX : jOK X) (hl : jLkS (jown X) idx y bytes maxL kd n) (hr : fr + 1 ≤ (jroom X).frames ∧ 8 + (maxL + 11) + lo ≤ (jroom X).locals) (hn : as.length = n)
    (hM : jMC y bytes maxL (jrt kd) fr lo (jsh X) σ as v σ1) : jCall X (.invokestatic idx) as v σ σ1 := by
  intro Q pc loc rest hd hcat hk
  obtain ⟨p, l, e, R, s, m, args, below, meth, c, cc, nL, own, D, cy, A, ad, sh, kd', ca, sl⟩ := X
  obtain ⟨hx, hb, hml, hown, hts, hlk, hK, hA, hBG, hrt, hca, hsl⟩ := hX
  intro H locs ls hP hD hS hL
  obtain ⟨h1, h2, h3, h4, h5⟩ := hl
  have fin : va_Run p l e R s m args below meth c H locs ca sl 0 0 (F0 m pc ls ((as.reverse ++ rest).map (jtoV ad))) (rest.map (jtoV ad)) (jQc D cy A ad sh v σ1 (as.map (jtoV ad)).toArray) A := by
    rcases h1 with h1 | ⟨host, h1⟩
    · exact va_runS (g := F0 m pc ls ((as.reverse ++ rest).map (jtoV ad))) (rest := rest.map (jtoV ad)) (locs := locs) (cells := ca) (slots := sl) (nL := nL) (As := as.map (jtoV ad)) ⟨hx, hb, hml, hown, hts⟩ (hM l D cy A ad) ⟨callB_of n hts (jTB_in (fun _ h => h) h4) rfl rfl rfl (hts _ h3) (hts _ h1) h5 hr, hts _ h2⟩ ⟨jPc_blind, fun U hU hW => jpre hP hD hS hK hA hBG U hU hW⟩ rfl (by simpa using hn) hL.1
        (by simp [List.map_append, List.map_reverse]) (lv_room (by rw [jcat_sum]; exact hcat)) hd ⟨hca, hsl⟩
    · exact va_runSN (g := F0 m pc ls ((as.reverse ++ rest).map (jtoV ad))) (rest := rest.map (jtoV ad)) (locs := locs) (cells := ca) (slots := sl) (nL := nL) (As := as.map (jtoV ad)) ⟨hx, hb, hml, hown, hts⟩ (hM l D cy A ad) ⟨va_cnB n hts (jTB_in (fun _ h => h) h4) rfl rfl rfl (hBG.1 _ h1) (hts _ h3) h5 hr, hts _ h2, trivial⟩ ⟨jPc_blind, fun U hU hW => jpre hP hD hS hK hA hBG U hU hW⟩ rfl (by simpa using hn) hL.1
        (by simp [List.map_append, List.map_reverse]) (lv_room (by rw [jcat_sum]; exact hcat)) hd ⟨hca, hsl⟩
  refine jcall_on fin hS (fun H1 locs1 hP1 hS1 => ?_)
  have k := hk H1 locs1 ls hP1 (jW_D hD) hS1 hL
  cases v with
  | none => exact k
  | some w => exact k
end JD
end
section
/-! What a method's tables are made of; calls as sites. -/
def jmax (x y : Int) : Int := if jw x < jw y then y else x
def jmin (x y : Int) : Int := if jw y < jw x then y else x
/-- the first n of a row, laid over another one's first n -/
def jcopy (σ : jxS) (a b : Nat) (n : Int) : jxS := fun c j => if c = b ∧ 0 ≤ j ∧ j < n then σ a j else σ c j
def jstl (w : Nat) : Int := ((jslen.getD (w - 1002) 0 : Nat) : Int)
def jsta (w : Nat) (x : Int) : Int := ((jsbyt.getD (w - 1002) []).getD x.toNat 0).toInt
def jlf (l : List (Nat × Nat × Nat)) (idx : Nat) : Option (Nat × Nat) := match l with
  | [] => none
  | q :: t => bif Nat.beq q.1 idx then some q.2 else jlf t idx
def jlc (l : List (Nat × jxV)) (idx : Nat) : Option jxV := match l with
  | [] => none
  | q :: t => bif Nat.beq q.1 idx then some q.2 else jlc t idx
def jls (l : List (Nat × Nat)) (idx : Nat) : Option Nat := match l with
  | [] => none
  | q :: t => bif Nat.beq q.1 idx then some q.2 else jls t idx
def jkf (l : List (Nat × jxC)) (id : Nat) : Option jxC := match l with
  | [] => none
  | q :: t => bif Nat.beq q.1 id then some q.2 else jkf t id
abbrev jxA : Type := List jxV → jxS → (Option jxV → jxS → Option jxR) → Option jxR
abbrev jxP : Type := Nat × (Nat × Bool) × jxA
def jnf (l : List jxP) (idx : Nat) : Option (Nat × Bool) := match l with
  | [] => none
  | q :: t => bif Nat.beq q.1 idx then some q.2.1 else jnf t idx
def jcf (l : List jxP) (idx : Nat) (as : List jxV) (σ : jxS) (k : Option jxV → jxS → Option jxR) : Option jxR := match l with
  | [] => none
  | q :: t => bif Nat.beq q.1 idx then q.2.2 as σ k else jcf t idx as σ k
def jmk (fl : List (Nat × Nat × Nat)) (lc : List (Nat × jxV)) (ls : List (Nat × Nat)) (si : List jxP) (kd : Nat) (ce : List (Nat × jxC)) : jxE := (jlf fl, jnf si, jcf si, jlc lc, jls ls, kd, jkf ce)
/-- these cells stand in the world so -/
def jHas (sh : List jxC) (ce : List (Nat × jxC)) : Prop := ∀ q ∈ ce, match q.2 with
  | .inr (.inr tb) => jTt q.1 tb
  | .inr (.inl (_, n)) => sh[q.1]? = some q.2 ∧ n < 2 ^ 31
  | .inl (ci, fks) => sh[q.1]? = some q.2 ∧ ∀ (f kd : Nat), kd ≤ 2 → fks[f]? = some (.inl kd) → jPf ci f kd
def jSite (own : String) (fr lo : Nat) (sh : List jxC) (q : jxP) : Prop := ∀ X : jxX, jOK X → jown X = own → ((jroom X).frames = fr ∧ (jroom X).locals = lo) → jsh X = sh → ∀ as σ k x σ', q.2.2 as σ k = some (x, σ') → ∃ v σ1, k v σ1 = some (x, σ') ∧ jCall X (bif q.2.1.2 then .invokestatic q.1 else .invokevirtual q.1) as v σ σ1
def jLc (own : String) (q : Nat × jxV) : Prop := match q.2 with
  | .inl x => Cond.constant own q.1 (jI x) ∈ jTB
  | .inr (.inl x) => Cond.constantLong own q.1 (jL x) ∈ jTB
  | .inr (.inr (.inl id)) => own = jsown ∧ ∃ i, i < 4 ∧ q.1 = jsidx i ∧ id = 1002 + i
  | .inr (.inr (.inr _)) => False
def jLs (own : String) (q : Nat × Nat) : Prop := (q.2 = 1000 ∧ Cond.fieldLink own q.1 "LastLoses$Values" "BESIDE_MOVES" "[I" ∈ jTB) ∨ (q.2 = 1001 ∧ Cond.fieldLink own q.1 "LastLoses$Values" "BESIDE_OF_GENUS" "[I" ∈ jTB)
theorem jlf_in {l : List (Nat × Nat × Nat)} {idx : Nat} {q : Nat × Nat} (h : jlf l idx = some q) : (idx, q) ∈ l := by
  induction l with
  | nil => simp [jlf] at h
  | cons a t ih =>
    simp only [jlf] at h
    cases hb : Nat.beq a.1 idx with
    | true => rw [hb] at h; simp only [cond_true, Option.some.injEq] at h; have e := jbeq hb; subst e; subst h; exact List.mem_cons_self
    | false => rw [hb] at h; exact List.mem_cons_of_mem _ (ih (by simpa using h))
theorem jlc_in {l : List (Nat × jxV)} {idx : Nat} {q : jxV} (h : jlc l idx = some q) : (idx, q) ∈ l := by
  induction l with
  | nil => simp [jlc] at h
  | cons a t ih =>
    simp only [jlc] at h
    cases hb : Nat.beq a.1 idx with
    | true => rw [hb] at h; simp only [cond_true, Option.some.injEq] at h; have e := jbeq hb; subst e; subst h; exact List.mem_cons_self
    | false => rw [hb] at h; exact List.mem_cons_of_mem _ (ih (by simpa using h))
theorem jls_in {l : List (Nat × Nat)} {idx : Nat} {q : Nat} (h : jls l idx = some q) : (idx, q) ∈ l := by
  induction l with
  | nil => simp [jls] at h
  | cons a t ih =>
    simp only [jls] at h
    cases hb : Nat.beq a.1 idx with
    | true => rw [hb] at h; simp only [cond_true, Option.some.injEq] at h; have e := jbeq hb; subst e; subst h; exact List.mem_cons_self
    | false => rw [hb] at h; exact List.mem_cons_of_mem _ (ih (by simpa using h))
theorem jkf_in {l : List (Nat × jxC)} {idx : Nat} {q : jxC} (h : jkf l idx = some q) : (idx, q) ∈ l := by
  induction l with
  | nil => simp [jkf] at h
  | cons a t ih =>
    simp only [jkf] at h
    cases hb : Nat.beq a.1 idx with
    | true => rw [hb] at h; simp only [cond_true, Option.some.injEq] at h; have e := jbeq hb; subst e; subst h; exact List.mem_cons_self
    | false => rw [hb] at h; exact List.mem_cons_of_mem _ (ih (by simpa using h))
theorem jcf_in {l : List jxP} {idx : Nat} {nb : Nat × Bool} {as : List jxV} {σ : jxS} {k : Option jxV → jxS → Option jxR} {z : jxR} (h1 : jnf l idx = some nb) (h2 : jcf l idx as σ k = some z) : ∃ q ∈ l, q.1 = idx ∧ q.2.1 = nb ∧ q.2.2 as σ k = some z := by
  induction l with
  | nil => simp [jnf] at h1
  | cons a t ih =>
    simp only [jnf, jcf] at h1 h2
    cases hb : Nat.beq a.1 idx with
    | true => rw [hb] at h1 h2; simp only [cond_true, Option.some.injEq] at h1 h2; exact ⟨a, List.mem_cons_self, jbeq hb, h1, h2⟩
    | false =>
      rw [hb] at h1 h2
      obtain ⟨q, hq, h3⟩ := ih (by simpa using h1) (by simpa using h2)
      exact ⟨q, List.mem_cons_of_mem _ hq, h3⟩
theorem jGd_of {X : jxX} {y : MethodName} {bytes : ByteArray} {fr lo kd : Nat} {sh : List jxC} {tb : List (Nat × Instr)} {fl : List (Nat × Nat × Nat)} {lc : List (Nat × jxV)} {ls : List (Nat × Nat)} {si : List jxP} {ce : List (Nat × jxC)} (hA : jAt X y bytes fr lo kd sh) (ht : jtok bytes tb = true)
    (hfl : ∀ q ∈ fl, jFl y.cls q.1 q.2.1 q.2.2) (hlc : ∀ q ∈ lc, jLc y.cls q) (hls : ∀ q ∈ ls, jLs y.cls q) (hsi : ∀ q ∈ si, jSite y.cls fr lo sh q) (hce : jHas sh ce) : jGd X (jmk fl lc ls si kd ce) tb := by
  obtain ⟨hX, h1, h2, h3, h4, h5⟩ := hA
  refine ⟨hX, ⟨fun pc i hi => by rw [h1]; exact (jtok_at ht hi).1, fun idx ci f h => by rw [h2]; exact hfl _ (jlf_in h), ?_, ?_, ?_, ?_, h5.symm, ?_⟩, fun pc i hi => (jtok_at ht hi).2⟩
  · intro idx n as σ k x σ' hn _ h
    obtain ⟨⟨i, nb, ca⟩, hq, q1, q2, q3⟩ := jcf_in hn h
    simp only at q1 q2
    subst q1; subst q2
    exact hsi _ hq X hX h2 h3 h4 as σ k x σ' q3
  · intro idx n as σ k x σ' hn _ h
    obtain ⟨⟨i, nb, ca⟩, hq, q1, q2, q3⟩ := jcf_in hn h
    simp only at q1 q2
    subst q1; subst q2
    exact hsi _ hq X hX h2 h3 h4 as σ k x σ' q3
  · intro idx v h
    have h6 := hlc _ (jlc_in h)
    match v, h6 with
    | .inl x, h6 => exact jLd_int hX (by rw [h2]; exact h6)
    | .inr (.inl x), h6 => exact jLd_long hX (by rw [h2]; exact h6)
    | .inr (.inr (.inl id)), h6 =>
      obtain ⟨g1, i, g2, g3, g4⟩ := h6
      simp only at g3 g4
      subst g3; subst g4
      exact jLd_text i g2 hX (by rw [h2]; exact g1)
  · intro idx id h
    rcases hls _ (jls_in h) with ⟨g1, g2⟩ | ⟨g1, g2⟩
    · simp only at g1
      subst g1
      exact jLd_st0 hX (by rw [h2]; exact g2)
    · simp only at g1
      subst g1
      exact jLd_st1 hX (by rw [h2]; exact g2)
  · intro id c h
    have h6 := hce _ (jkf_in h)
    rw [h4]
    match c, h6 with
    | .inr (.inr tb), h6 => exact h6
    | .inr (.inl (t, n)), h6 => exact h6
    | .inl (ci, fks), h6 => exact h6
/-- a method's contract, as its callers use it -/
def jAdV (ca : jxA) (y : MethodName) (bytes : ByteArray) (maxL kd fr lo n : Nat) (sh : List jxC) : Prop := ∀ as σ k x σ', ca as σ k = some (x, σ') → ∃ v σ1, k v σ1 = some (x, σ') ∧ (∃ (id : Nat) (as' : List jxV) (ci : Nat) (fks : List jxF) (T : u_T) (N : Nat), as = jmr id :: as' ∧ as'.length = n ∧ sh[id]? = some (.inl (ci, fks)) ∧ vwCl[ci]? = some (y.cls, T, N)) ∧ jMC y bytes maxL (jrt kd) fr lo sh σ as v σ1
def jAdS (ca : jxA) (y : MethodName) (bytes : ByteArray) (maxL kd fr lo n : Nat) (sh : List jxC) : Prop := ∀ as σ k x σ', ca as σ k = some (x, σ') → ∃ v σ1, k v σ1 = some (x, σ') ∧ as.length = n ∧ jMC y bytes maxL (jrt kd) fr lo sh σ as v σ1
theorem jsV {own : String} {fr lo idx a : Nat} {sh : List jxC} {ca : jxA} {y : MethodName} {bytes : ByteArray} {maxL kd fr' lo' n : Nat} (hl : jLkV own idx y bytes maxL kd n) (hr : Nat.ble (fr' + 1) fr = true ∧ Nat.ble (8 + (maxL + 11) + lo') lo = true) (h : jAdV ca y bytes maxL kd fr' lo' n sh) : jSite own fr lo sh (idx, (a, false), ca) := by
  intro X hX ho hR hs as σ k x σ' hk
  obtain ⟨v, σ1, h1, ⟨id, as', ci, fks, T, N, rfl, h3, h4, h5⟩, h6⟩ := h as σ k x σ' hk
  refine ⟨v, σ1, h1, ?_⟩
  subst ho; subst hs
  exact jCallV hX hl ⟨by rw [hR.1]; exact jble hr.1, by rw [hR.2]; exact jble hr.2⟩ h4 h5 h3 h6
theorem jsS {own : String} {fr lo idx a : Nat} {sh : List jxC} {ca : jxA} {y : MethodName} {bytes : ByteArray} {maxL kd fr' lo' n : Nat} (hl : jLkS own idx y bytes maxL kd n) (hr : Nat.ble (fr' + 1) fr = true ∧ Nat.ble (8 + (maxL + 11) + lo') lo = true) (h : jAdS ca y bytes maxL kd fr' lo' n sh) : jSite own fr lo sh (idx, (a, true), ca) := by
  intro X hX ho hR hs as σ k x σ' hk
  obtain ⟨v, σ1, h1, h3, h6⟩ := h as σ k x σ' hk
  refine ⟨v, σ1, h1, ?_⟩
  subst ho; subst hs
  exact jCallS hX hl ⟨by rw [hR.1]; exact jble hr.1, by rw [hR.2]; exact jble hr.2⟩ h3 h6
theorem jnil {α : Type} {P : α → Prop} : ∀ q ∈ ([] : List α), P q := fun _ h => absurd h List.not_mem_nil
theorem jcon {α : Type} {P : α → Prop} {a : α} {t : List α} (h : P a) (ht : ∀ q ∈ t, P q) : ∀ q ∈ a :: t, P q := List.forall_mem_cons.mpr ⟨h, ht⟩
theorem jRf_by {X : jxX} {f g : Option jxR} {pc : Nat} {loc : jxL} {st : List jxV} {σ : jxS} (h : jRf X g pc loc st σ) (e : f = g) : jRf X f pc loc st σ := e ▸ h
theorem jl0 {P : List Int → Prop} (h : P []) : ∀ xs : List Int, xs.length = 0 → P xs := fun xs hx => by
  match xs, hx with
  | [], _ => exact h
theorem jl1 {P : List Int → Prop} (h : ∀ x0, P [x0]) : ∀ xs : List Int, xs.length = 1 → P xs := fun xs hx => by
  match xs, hx with
  | [x0], _ => exact h x0
theorem jl2 {P : List Int → Prop} (h : ∀ x0 x1, P [x0, x1]) : ∀ xs : List Int, xs.length = 2 → P xs := fun xs hx => by
  match xs, hx with
  | [x0, x1], _ => exact h x0 x1
theorem jl3 {P : List Int → Prop} (h : ∀ x0 x1 x2, P [x0, x1, x2]) : ∀ xs : List Int, xs.length = 3 → P xs := fun xs hx => by
  match xs, hx with
  | [x0, x1, x2], _ => exact h x0 x1 x2
theorem jl4 {P : List Int → Prop} (h : ∀ x0 x1 x2 x3, P [x0, x1, x2, x3]) : ∀ xs : List Int, xs.length = 4 → P xs := fun xs hx => by
  match xs, hx with
  | [x0, x1, x2, x3], _ => exact h x0 x1 x2 x3
theorem jl5 {P : List Int → Prop} (h : ∀ x0 x1 x2 x3 x4, P [x0, x1, x2, x3, x4]) : ∀ xs : List Int, xs.length = 5 → P xs := fun xs hx => by
  match xs, hx with
  | [x0, x1, x2, x3, x4], _ => exact h x0 x1 x2 x3 x4
theorem jl6 {P : List Int → Prop} (h : ∀ x0 x1 x2 x3 x4 x5, P [x0, x1, x2, x3, x4, x5]) : ∀ xs : List Int, xs.length = 6 → P xs := fun xs hx => by
  match xs, hx with
  | [x0, x1, x2, x3, x4, x5], _ => exact h x0 x1 x2 x3 x4 x5
theorem jl7 {P : List Int → Prop} (h : ∀ x0 x1 x2 x3 x4 x5 x6, P [x0, x1, x2, x3, x4, x5, x6]) : ∀ xs : List Int, xs.length = 7 → P xs := fun xs hx => by
  match xs, hx with
  | [x0, x1, x2, x3, x4, x5, x6], _ => exact h x0 x1 x2 x3 x4 x5 x6
theorem jl8 {P : List Int → Prop} (h : ∀ x0 x1 x2 x3 x4 x5 x6 x7, P [x0, x1, x2, x3, x4, x5, x6, x7]) : ∀ xs : List Int, xs.length = 8 → P xs := fun xs hx => by
  match xs, hx with
  | [x0, x1, x2, x3, x4, x5, x6, x7], _ => exact h x0 x1 x2 x3 x4 x5 x6 x7
theorem jl9 {P : List Int → Prop} (h : ∀ x0 x1 x2 x3 x4 x5 x6 x7 x8, P [x0, x1, x2, x3, x4, x5, x6, x7, x8]) : ∀ xs : List Int, xs.length = 9 → P xs := fun xs hx => by
  match xs, hx with
  | [x0, x1, x2, x3, x4, x5, x6, x7, x8], _ => exact h x0 x1 x2 x3 x4 x5 x6 x7 x8
theorem jl10 {P : List Int → Prop} (h : ∀ x0 x1 x2 x3 x4 x5 x6 x7 x8 x9, P [x0, x1, x2, x3, x4, x5, x6, x7, x8, x9]) : ∀ xs : List Int, xs.length = 10 → P xs := fun xs hx => by
  match xs, hx with
  | [x0, x1, x2, x3, x4, x5, x6, x7, x8, x9], _ => exact h x0 x1 x2 x3 x4 x5 x6 x7 x8 x9
theorem jl11 {P : List Int → Prop} (h : ∀ x0 x1 x2 x3 x4 x5 x6 x7 x8 x9 x10, P [x0, x1, x2, x3, x4, x5, x6, x7, x8, x9, x10]) : ∀ xs : List Int, xs.length = 11 → P xs := fun xs hx => by
  match xs, hx with
  | [x0, x1, x2, x3, x4, x5, x6, x7, x8, x9, x10], _ => exact h x0 x1 x2 x3 x4 x5 x6 x7 x8 x9 x10
theorem jl12 {P : List Int → Prop} (h : ∀ x0 x1 x2 x3 x4 x5 x6 x7 x8 x9 x10 x11, P [x0, x1, x2, x3, x4, x5, x6, x7, x8, x9, x10, x11]) : ∀ xs : List Int, xs.length = 12 → P xs := fun xs hx => by
  match xs, hx with
  | [x0, x1, x2, x3, x4, x5, x6, x7, x8, x9, x10, x11], _ => exact h x0 x1 x2 x3 x4 x5 x6 x7 x8 x9 x10 x11
theorem jl13 {P : List Int → Prop} (h : ∀ x0 x1 x2 x3 x4 x5 x6 x7 x8 x9 x10 x11 x12, P [x0, x1, x2, x3, x4, x5, x6, x7, x8, x9, x10, x11, x12]) : ∀ xs : List Int, xs.length = 13 → P xs := fun xs hx => by
  match xs, hx with
  | [x0, x1, x2, x3, x4, x5, x6, x7, x8, x9, x10, x11, x12], _ => exact h x0 x1 x2 x3 x4 x5 x6 x7 x8 x9 x10 x11 x12
theorem jl14 {P : List Int → Prop} (h : ∀ x0 x1 x2 x3 x4 x5 x6 x7 x8 x9 x10 x11 x12 x13, P [x0, x1, x2, x3, x4, x5, x6, x7, x8, x9, x10, x11, x12, x13]) : ∀ xs : List Int, xs.length = 14 → P xs := fun xs hx => by
  match xs, hx with
  | [x0, x1, x2, x3, x4, x5, x6, x7, x8, x9, x10, x11, x12, x13], _ => exact h x0 x1 x2 x3 x4 x5 x6 x7 x8 x9 x10 x11 x12 x13
theorem jl15 {P : List Int → Prop} (h : ∀ x0 x1 x2 x3 x4 x5 x6 x7 x8 x9 x10 x11 x12 x13 x14, P [x0, x1, x2, x3, x4, x5, x6, x7, x8, x9, x10, x11, x12, x13, x14]) : ∀ xs : List Int, xs.length = 15 → P xs := fun xs hx => by
  match xs, hx with
  | [x0, x1, x2, x3, x4, x5, x6, x7, x8, x9, x10, x11, x12, x13, x14], _ => exact h x0 x1 x2 x3 x4 x5 x6 x7 x8 x9 x10 x11 x12 x13 x14
theorem jl16 {P : List Int → Prop} (h : ∀ x0 x1 x2 x3 x4 x5 x6 x7 x8 x9 x10 x11 x12 x13 x14 x15, P [x0, x1, x2, x3, x4, x5, x6, x7, x8, x9, x10, x11, x12, x13, x14, x15]) : ∀ xs : List Int, xs.length = 16 → P xs := fun xs hx => by
  match xs, hx with
  | [x0, x1, x2, x3, x4, x5, x6, x7, x8, x9, x10, x11, x12, x13, x14, x15], _ => exact h x0 x1 x2 x3 x4 x5 x6 x7 x8 x9 x10 x11 x12 x13 x14 x15
theorem jin_of {l : List Nat} {n : Nat} (h : jin l n = true) : n ∈ l := by
  induction l with
  | nil => simp [jin] at h
  | cons a t ih =>
    simp only [jin] at h
    cases hb : Nat.beq a n with
    | true => have := jbeq hb; subst this; exact List.mem_cons_self
    | false => rw [hb] at h; exact List.mem_cons_of_mem _ (ih (by simpa using h))
end
section
/-! Cells, fields, links. -/
def jc_E : List (Nat × jxC) := []
def jc_T : List (Nat × jxC) := [(1, .inl (9, [.inr (some 2), .inl 0])), (2, .inr (.inl (0, 200))), (3, .inl (7, [.inr (some 1), .inr (some 4), .inr (some 5), .inr (some 6), .inr (some 7), .inr (some 8), .inl 0, .inl 0, .inl 0, .inl 0])), (4, .inr (.inl (0, 8))), (5, .inr (.inl (0, 16))), (6, .inr (.inl (0, 16))), (7, .inr (.inl (0, 16))), (8, .inr (.inl (0, 16)))]
def jc_P : List (Nat × jxC) := [(64, .inl (5, [.inr (some 65), .inr (some 66), .inr (some 67), .inr (some 68), .inr (some 69), .inr (some 70)])), (65, .inr (.inl (0, 322))), (66, .inr (.inl (0, 24))), (67, .inr (.inl (0, 14))), (68, .inr (.inl (0, 14202))), (69, .inr (.inl (0, 4225))), (70, .inr (.inl (0, 14202)))]
def jc_B1 : List (Nat × jxC) := [(51, .inl (0, [.inr (some 52), .inr (some 61), .inr (some 64), .inr (some 71), .inr (some 75), .inr (some 83), .inr (some 86), .inr (some 74), .inl 0, .inl 0])), (52, .inl (8, [.inr (some 53), .inr (some 54), .inr (some 55), .inr (some 56), .inr (some 57), .inr (some 58), .inr (some 59), .inr (some 60), .inl 0, .inl 0])), (53, .inr (.inl (0, 8))), (54, .inr (.inl (0, 13))), (55, .inr (.inl (0, 169))), (56, .inr (.inl (0, 14))), (57, .inr (.inl (0, 203))), (58, .inr (.inl (0, 13))), (59, .inr (.inl (0, 13))), (60, .inr (.inl (0, 13))), (61, .inl (1, [.inr (some 62), .inr (some 63), .inl 2, .inl 0, .inl 0])), (62, .inr (.inl (0, 161))), (63, .inr (.inl (0, 256)))]
def jc_B2 : List (Nat × jxC) := [(71, .inl (2, [.inr (some 72), .inr (some 73), .inl 0, .inl 0, .inl 0])), (72, .inr (.inl (0, 30))), (73, .inr (.inl (0, 3))), (74, .inr (.inl (4, 6))), (75, .inl (10, [.inr (some 64), .inr (some 52), .inr (some 80), .inr (some 76), .inr (some 77), .inr (some 78), .inr (some 79), .inl 0, .inl 0])), (76, .inr (.inl (0, 4224))), (77, .inr (.inl (0, 4224))), (78, .inr (.inl (0, 6))), (79, .inr (.inl (3, 677))), (80, .inl (3, [.inr (some 64), .inr (some 52), .inr (some 81), .inr (some 82), .inl 0])), (81, .inr (.inl (0, 203))), (82, .inr (.inl (0, 203))), (83, .inl (3, [.inr (some 64), .inr (some 52), .inr (some 84), .inr (some 85), .inl 0])), (84, .inr (.inl (0, 203))), (85, .inr (.inl (0, 203))), (86, .inl (4, [.inr (some 52), .inr (some 87), .inr (some 88), .inr (some 89), .inl 0, .inl 2])), (87, .inr (.inl (0, 2000))), (88, .inr (.inl (0, 4096))), (89, .inr (.inl (0, 96))), (90, .inl (6, [.inl 5, .inr (some 64), .inr (some 75), .inr (some 91), .inr (some 92), .inr (some 93), .inr (some 94), .inl 0, .inl 0, .inl 2])), (91, .inr (.inl (0, 16))), (92, .inr (.inl (3, 16))), (93, .inr (.inl (0, 96))), (94, .inr (.inl (0, 16))), (95, .inl (6, [.inl 5, .inr (some 64), .inr (some 75), .inr (some 96), .inr (some 97), .inr (some 98), .inr (some 99), .inl 0, .inl 0, .inl 2])), (96, .inr (.inl (0, 16))), (97, .inr (.inl (3, 16))), (98, .inr (.inl (0, 96))), (99, .inr (.inl (0, 16))), (100, .inl (6, [.inl 5, .inr (some 64), .inr (some 75), .inr (some 101), .inr (some 102), .inr (some 103), .inr (some 104), .inl 0, .inl 0, .inl 2])), (101, .inr (.inl (0, 16))), (102, .inr (.inl (3, 16))), (103, .inr (.inl (0, 96))), (104, .inr (.inl (0, 16))), (105, .inl (6, [.inl 5, .inr (some 64), .inr (some 75), .inr (some 106), .inr (some 107), .inr (some 108), .inr (some 109), .inl 0, .inl 0, .inl 2])), (106, .inr (.inl (0, 16))), (107, .inr (.inl (3, 16))), (108, .inr (.inl (0, 96))), (109, .inr (.inl (0, 16))), (110, .inl (6, [.inl 5, .inr (some 64), .inr (some 75), .inr (some 111), .inr (some 112), .inr (some 113), .inr (some 114), .inl 0, .inl 0, .inl 2])), (111, .inr (.inl (0, 16))), (112, .inr (.inl (3, 16))), (113, .inr (.inl (0, 96))), (114, .inr (.inl (0, 16))), (115, .inl (6, [.inl 5, .inr (some 64), .inr (some 75), .inr (some 116), .inr (some 117), .inr (some 118), .inr (some 119), .inl 0, .inl 0, .inl 2])), (116, .inr (.inl (0, 16))), (117, .inr (.inl (3, 16))), (118, .inr (.inl (0, 96))), (119, .inr (.inl (0, 16))), (1000, .inr (.inr jtab0)), (1001, .inr (.inr jtab1))]
def jc_C : List (Nat × jxC) := jc_P ++ (jc_T ++ (jc_B1 ++ jc_B2))
def jc_L0 : List (Nat × jxC) := (0, .inl (11, [.inr (some 1), .inr (some 3), .inr none, .inl 0])) :: jc_T
def jc_L1 : List (Nat × jxC) := (0, .inl (11, [.inr (some 1), .inr (some 3), .inr (some 51), .inl 0])) :: jc_C
def jc_M : List (Nat × jxC) := [(9, .inl (12, [.inr (some 10), .inl 0, .inl 0, .inl 0, .inl 0, .inr (some 11), .inl 0, .inl 0, .inr (some 12), .inr (some 13), .inr (some 14), .inl 0, .inl 0, .inl 2, .inr (some 15), .inr (some 16), .inr (some 17), .inl 0, .inr (some 18), .inr (some 19), .inr (some 20), .inr (some 21), .inr (some 22), .inr (some 23), .inl 0, .inr (some 24), .inr (some 25), .inr (some 26), .inr (some 27), .inr (some 28), .inr (some 29), .inr (some 30), .inl 0, .inr (some 31), .inr (some 32), .inr (some 33), .inr (some 34), .inl 0, .inr (some 35), .inr (some 36), .inl 0, .inr (some 37), .inr (some 38), .inl 0, .inl 1, .inr (some 39), .inr (some 40), .inr (some 41), .inr (some 42), .inr (some 43), .inr (some 44), .inr (some 45), .inr (some 46), .inr (some 47), .inr (some 48), .inr (some 49), .inr (some 50)])), (10, .inr (.inl (1, 200))), (11, .inr (.inl (1, 24))), (12, .inr (.inl (0, 8))), (13, .inr (.inl (2, 2197))), (14, .inr (.inl (2, 117))), (15, .inr (.inl (0, 8))), (16, .inr (.inl (2, 2197))), (17, .inr (.inl (2, 117))), (18, .inr (.inl (0, 832))), (19, .inr (.inl (0, 13))), (20, .inr (.inl (0, 161))), (21, .inr (.inl (2, 1024))), (22, .inr (.inl (0, 322))), (23, .inr (.inl (0, 24))), (24, .inr (.inl (2, 4600))), (25, .inr (.inl (0, 4600))), (26, .inr (.inl (0, 4600))), (27, .inr (.inl (0, 4600))), (28, .inr (.inl (0, 27600))), (29, .inr (.inl (0, 13))), (30, .inr (.inl (0, 512))), (31, .inr (.inl (0, 6))), (32, .inr (.inl (0, 18))), (33, .inr (.inl (0, 13))), (34, .inr (.inl (0, 390))), (35, .inr (.inl (0, 13))), (36, .inr (.inl (0, 39))), (37, .inr (.inl (0, 13))), (38, .inr (.inl (0, 13))), (39, .inr (.inl (2, 7))), (40, .inr (.inl (0, 7))), (41, .inr (.inl (0, 784))), (42, .inr (.inl (0, 784))), (43, .inr (.inl (0, 7))), (44, .inr (.inl (0, 7))), (45, .inr (.inl (0, 7))), (46, .inr (.inl (3, 16))), (47, .inr (.inl (0, 13))), (48, .inr (.inl (0, 2000))), (49, .inr (.inl (0, 2000))), (50, .inr (.inl (0, 16)))]
theorem jh_E {sh : List jxC} : jHas sh jc_E := fun _ h => absurd h List.not_mem_nil
theorem jh_L0T {sh : List jxC} (h : jHas sh jc_L0) : jHas sh jc_T := fun q hq => h q (List.mem_cons_of_mem _ hq)
theorem jh_L1C {sh : List jxC} (h : jHas sh jc_L1) : jHas sh jc_C := fun q hq => h q (List.mem_cons_of_mem _ hq)
theorem jh_CP {sh : List jxC} (h : jHas sh jc_C) : jHas sh jc_P := fun q hq => h q (List.mem_append_left _ hq)
theorem jh_CT {sh : List jxC} (h : jHas sh jc_C) : jHas sh jc_T := fun q hq => h q (List.mem_append_right _ (List.mem_append_left _ hq))
theorem jh_L1T {sh : List jxC} (h : jHas sh jc_L1) : jHas sh jc_T := jh_CT (jh_L1C h)
theorem jh_L1P {sh : List jxC} (h : jHas sh jc_L1) : jHas sh jc_P := jh_CP (jh_L1C h)
/-- a row's length, by its cell -/
def jalen (id : Nat) : Int := match jkf jc_C id with
  | some (.inr (.inl (_, n))) => (n : Int)
  | _ => 0
theorem jrc_Options {sh : List jxC} (hs : jHas sh jc_C) {q : Nat} (hq : q ∈ [80, 83]) : ∃ fks, sh[q]? = some (.inl (3, fks)) := by
  simp only [List.mem_cons, List.not_mem_nil, or_false] at hq
  rcases hq with rfl | rfl
  · exact ⟨_, (hs _ (jkf_in (l := jc_C) (idx := 80) rfl)).1⟩
  · exact ⟨_, (hs _ (jkf_in (l := jc_C) (idx := 83) rfl)).1⟩
theorem jrc_Quotient {sh : List jxC} (hs : jHas sh jc_C) {q : Nat} (hq : q ∈ [90, 95, 100, 105, 110, 115]) : ∃ fks, sh[q]? = some (.inl (6, fks)) := by
  simp only [List.mem_cons, List.not_mem_nil, or_false] at hq
  rcases hq with rfl | rfl | rfl | rfl | rfl | rfl
  · exact ⟨_, (hs _ (jkf_in (l := jc_C) (idx := 90) rfl)).1⟩
  · exact ⟨_, (hs _ (jkf_in (l := jc_C) (idx := 95) rfl)).1⟩
  · exact ⟨_, (hs _ (jkf_in (l := jc_C) (idx := 100) rfl)).1⟩
  · exact ⟨_, (hs _ (jkf_in (l := jc_C) (idx := 105) rfl)).1⟩
  · exact ⟨_, (hs _ (jkf_in (l := jc_C) (idx := 110) rfl)).1⟩
  · exact ⟨_, (hs _ (jkf_in (l := jc_C) (idx := 115) rfl)).1⟩
set_option maxRecDepth 100000 in
theorem jin_X0 : ∀ w ∈ u_ws RX0 TX0 10, w ∈ jTB := by
  intro w hw
  obtain ⟨k, hk, rfl⟩ := List.mem_map.mp hw
  have hk := List.mem_range.mp hk
  match k, hk with
  | 0, _ => exact (jTB_at 654 rfl rfl)
  | 1, _ => exact (jTB_at 656 rfl rfl)
  | 2, _ => exact (jTB_at 658 rfl rfl)
  | 3, _ => exact (jTB_at 660 rfl rfl)
  | 4, _ => exact (jTB_at 662 rfl rfl)
  | 5, _ => exact (jTB_at 664 rfl rfl)
  | 6, _ => exact (jTB_at 666 rfl rfl)
  | 7, _ => exact (jTB_at 668 rfl rfl)
  | 8, _ => exact (jTB_at 670 rfl rfl)
  | 9, _ => exact (jTB_at 672 rfl rfl)
  | k + 10, h => exact absurd h (by omega)
theorem jow_X0 : ∀ k, k < 10 → (TX0 k).1 = RX0 := by decide +kernel
set_option maxRecDepth 100000 in
theorem jin_X1 : ∀ w ∈ u_ws RX1 TX1 5, w ∈ jTB := by
  intro w hw
  obtain ⟨k, hk, rfl⟩ := List.mem_map.mp hw
  have hk := List.mem_range.mp hk
  match k, hk with
  | 0, _ => exact (jTB_at 409 rfl rfl)
  | 1, _ => exact (jTB_at 411 rfl rfl)
  | 2, _ => exact (jTB_at 413 rfl rfl)
  | 3, _ => exact (jTB_at 415 rfl rfl)
  | 4, _ => exact (jTB_at 417 rfl rfl)
  | k + 5, h => exact absurd h (by omega)
theorem jow_X1 : ∀ k, k < 5 → (TX1 k).1 = RX1 := by decide +kernel
set_option maxRecDepth 100000 in
theorem jin_X2 : ∀ w ∈ u_ws RX2 TX2 5, w ∈ jTB := by
  intro w hw
  obtain ⟨k, hk, rfl⟩ := List.mem_map.mp hw
  have hk := List.mem_range.mp hk
  match k, hk with
  | 0, _ => exact (jTB_at 499 rfl rfl)
  | 1, _ => exact (jTB_at 501 rfl rfl)
  | 2, _ => exact (jTB_at 503 rfl rfl)
  | 3, _ => exact (jTB_at 505 rfl rfl)
  | 4, _ => exact (jTB_at 507 rfl rfl)
  | k + 5, h => exact absurd h (by omega)
theorem jow_X2 : ∀ k, k < 5 → (TX2 k).1 = RX2 := by decide +kernel
set_option maxRecDepth 100000 in
theorem jin_X3 : ∀ w ∈ u_ws RX3 TX3 5, w ∈ jTB := by
  intro w hw
  obtain ⟨k, hk, rfl⟩ := List.mem_map.mp hw
  have hk := List.mem_range.mp hk
  match k, hk with
  | 0, _ => exact (jTB_at 531 rfl rfl)
  | 1, _ => exact (jTB_at 533 rfl rfl)
  | 2, _ => exact (jTB_at 535 rfl rfl)
  | 3, _ => exact (jTB_at 537 rfl rfl)
  | 4, _ => exact (jTB_at 539 rfl rfl)
  | k + 5, h => exact absurd h (by omega)
theorem jow_X3 : ∀ k, k < 5 → (TX3 k).1 = RX3 := by decide +kernel
set_option maxRecDepth 100000 in
theorem jin_X4 : ∀ w ∈ u_ws RX4 TX4 6, w ∈ jTB := by
  intro w hw
  obtain ⟨k, hk, rfl⟩ := List.mem_map.mp hw
  have hk := List.mem_range.mp hk
  match k, hk with
  | 0, _ => exact (jTB_at 585 rfl rfl)
  | 1, _ => exact (jTB_at 587 rfl rfl)
  | 2, _ => exact (jTB_at 589 rfl rfl)
  | 3, _ => exact (jTB_at 591 rfl rfl)
  | 4, _ => exact (jTB_at 593 rfl rfl)
  | 5, _ => exact (jTB_at 595 rfl rfl)
  | k + 6, h => exact absurd h (by omega)
theorem jow_X4 : ∀ k, k < 6 → (TX4 k).1 = RX4 := by decide +kernel
set_option maxRecDepth 100000 in
theorem jin_X5 : ∀ w ∈ u_ws RX5 TX5 6, w ∈ jTB := by
  intro w hw
  obtain ⟨k, hk, rfl⟩ := List.mem_map.mp hw
  have hk := List.mem_range.mp hk
  match k, hk with
  | 0, _ => exact (jTB_at 475 rfl rfl)
  | 1, _ => exact (jTB_at 477 rfl rfl)
  | 2, _ => exact (jTB_at 479 rfl rfl)
  | 3, _ => exact (jTB_at 481 rfl rfl)
  | 4, _ => exact (jTB_at 483 rfl rfl)
  | 5, _ => exact (jTB_at 485 rfl rfl)
  | k + 6, h => exact absurd h (by omega)
theorem jow_X5 : ∀ k, k < 6 → (TX5 k).1 = RX5 := by decide +kernel
set_option maxRecDepth 100000 in
theorem jin_X6 : ∀ w ∈ u_ws RX6 TX6 10, w ∈ jTB := by
  intro w hw
  obtain ⟨k, hk, rfl⟩ := List.mem_map.mp hw
  have hk := List.mem_range.mp hk
  match k, hk with
  | 0, _ => exact (jTB_at 617 rfl rfl)
  | 1, _ => exact (jTB_at 619 rfl rfl)
  | 2, _ => exact (jTB_at 621 rfl rfl)
  | 3, _ => exact (jTB_at 623 rfl rfl)
  | 4, _ => exact (jTB_at 625 rfl rfl)
  | 5, _ => exact (jTB_at 627 rfl rfl)
  | 6, _ => exact (jTB_at 629 rfl rfl)
  | 7, _ => exact (jTB_at 631 rfl rfl)
  | 8, _ => exact (jTB_at 633 rfl rfl)
  | 9, _ => exact (jTB_at 635 rfl rfl)
  | k + 10, h => exact absurd h (by omega)
theorem jow_X6 : ∀ k, k < 10 → (TX6 k).1 = RX6 := by decide +kernel
set_option maxRecDepth 100000 in
theorem jin_X7 : ∀ w ∈ u_ws RX7 TX7 10, w ∈ jTB := by
  intro w hw
  obtain ⟨k, hk, rfl⟩ := List.mem_map.mp hw
  have hk := List.mem_range.mp hk
  match k, hk with
  | 0, _ => exact (jTB_at 177 rfl rfl)
  | 1, _ => exact (jTB_at 179 rfl rfl)
  | 2, _ => exact (jTB_at 181 rfl rfl)
  | 3, _ => exact (jTB_at 183 rfl rfl)
  | 4, _ => exact (jTB_at 185 rfl rfl)
  | 5, _ => exact (jTB_at 187 rfl rfl)
  | 6, _ => exact (jTB_at 189 rfl rfl)
  | 7, _ => exact (jTB_at 191 rfl rfl)
  | 8, _ => exact (jTB_at 193 rfl rfl)
  | 9, _ => exact (jTB_at 195 rfl rfl)
  | k + 10, h => exact absurd h (by omega)
theorem jow_X7 : ∀ k, k < 10 → (TX7 k).1 = RX7 := by decide +kernel
set_option maxRecDepth 100000 in
theorem jin_X8 : ∀ w ∈ u_ws RX8 TX8 10, w ∈ jTB := by
  intro w hw
  obtain ⟨k, hk, rfl⟩ := List.mem_map.mp hw
  have hk := List.mem_range.mp hk
  match k, hk with
  | 0, _ => exact (jTB_at 376 rfl rfl)
  | 1, _ => exact (jTB_at 378 rfl rfl)
  | 2, _ => exact (jTB_at 380 rfl rfl)
  | 3, _ => exact (jTB_at 382 rfl rfl)
  | 4, _ => exact (jTB_at 384 rfl rfl)
  | 5, _ => exact (jTB_at 386 rfl rfl)
  | 6, _ => exact (jTB_at 388 rfl rfl)
  | 7, _ => exact (jTB_at 390 rfl rfl)
  | 8, _ => exact (jTB_at 392 rfl rfl)
  | 9, _ => exact (jTB_at 394 rfl rfl)
  | k + 10, h => exact absurd h (by omega)
theorem jow_X8 : ∀ k, k < 10 → (TX8 k).1 = RX8 := by decide +kernel
set_option maxRecDepth 100000 in
theorem jin_X9 : ∀ w ∈ u_ws RX9 TX9 2, w ∈ jTB := by
  intro w hw
  obtain ⟨k, hk, rfl⟩ := List.mem_map.mp hw
  have hk := List.mem_range.mp hk
  match k, hk with
  | 0, _ => exact (jTB_at 148 rfl rfl)
  | 1, _ => exact (jTB_at 150 rfl rfl)
  | k + 2, h => exact absurd h (by omega)
theorem jow_X9 : ∀ k, k < 2 → (TX9 k).1 = RX9 := by decide +kernel
set_option maxRecDepth 100000 in
theorem jin_X10 : ∀ w ∈ u_ws RX10 TX10 9, w ∈ jTB := by
  intro w hw
  obtain ⟨k, hk, rfl⟩ := List.mem_map.mp hw
  have hk := List.mem_range.mp hk
  match k, hk with
  | 0, _ => exact (jTB_at 552 rfl rfl)
  | 1, _ => exact (jTB_at 554 rfl rfl)
  | 2, _ => exact (jTB_at 556 rfl rfl)
  | 3, _ => exact (jTB_at 558 rfl rfl)
  | 4, _ => exact (jTB_at 560 rfl rfl)
  | 5, _ => exact (jTB_at 562 rfl rfl)
  | 6, _ => exact (jTB_at 564 rfl rfl)
  | 7, _ => exact (jTB_at 566 rfl rfl)
  | 8, _ => exact (jTB_at 568 rfl rfl)
  | k + 9, h => exact absurd h (by omega)
theorem jow_X10 : ∀ k, k < 9 → (TX10 k).1 = RX10 := by decide +kernel
set_option maxRecDepth 100000 in
theorem jin_X11 : ∀ w ∈ u_ws RX11 TX11 4, w ∈ jTB := by
  intro w hw
  obtain ⟨k, hk, rfl⟩ := List.mem_map.mp hw
  have hk := List.mem_range.mp hk
  match k, hk with
  | 0, _ => exact (jTB_at 202 rfl rfl)
  | 1, _ => exact (jTB_at 204 rfl rfl)
  | 2, _ => exact (jTB_at 206 rfl rfl)
  | 3, _ => exact (jTB_at 208 rfl rfl)
  | k + 4, h => exact absurd h (by omega)
theorem jow_X11 : ∀ k, k < 4 → (TX11 k).1 = RX11 := by decide +kernel
set_option maxRecDepth 100000 in
theorem jin_X12 : ∀ w ∈ u_ws RX12 TX12 57, w ∈ jTB := by
  intro w hw
  obtain ⟨k, hk, rfl⟩ := List.mem_map.mp hw
  have hk := List.mem_range.mp hk
  match k, hk with
  | 0, _ => exact (jTB_at 1398 rfl rfl)
  | 1, _ => exact (jTB_at 1400 rfl rfl)
  | 2, _ => exact (jTB_at 1402 rfl rfl)
  | 3, _ => exact (jTB_at 1404 rfl rfl)
  | 4, _ => exact (jTB_at 1406 rfl rfl)
  | 5, _ => exact (jTB_at 1408 rfl rfl)
  | 6, _ => exact (jTB_at 1410 rfl rfl)
  | 7, _ => exact (jTB_at 1412 rfl rfl)
  | 8, _ => exact (jTB_at 1414 rfl rfl)
  | 9, _ => exact (jTB_at 1416 rfl rfl)
  | 10, _ => exact (jTB_at 1418 rfl rfl)
  | 11, _ => exact (jTB_at 1420 rfl rfl)
  | 12, _ => exact (jTB_at 1422 rfl rfl)
  | 13, _ => exact (jTB_at 1424 rfl rfl)
  | 14, _ => exact (jTB_at 1426 rfl rfl)
  | 15, _ => exact (jTB_at 1428 rfl rfl)
  | 16, _ => exact (jTB_at 1430 rfl rfl)
  | 17, _ => exact (jTB_at 1432 rfl rfl)
  | 18, _ => exact (jTB_at 1434 rfl rfl)
  | 19, _ => exact (jTB_at 1436 rfl rfl)
  | 20, _ => exact (jTB_at 1438 rfl rfl)
  | 21, _ => exact (jTB_at 1440 rfl rfl)
  | 22, _ => exact (jTB_at 1442 rfl rfl)
  | 23, _ => exact (jTB_at 1444 rfl rfl)
  | 24, _ => exact (jTB_at 1446 rfl rfl)
  | 25, _ => exact (jTB_at 1448 rfl rfl)
  | 26, _ => exact (jTB_at 1450 rfl rfl)
  | 27, _ => exact (jTB_at 1452 rfl rfl)
  | 28, _ => exact (jTB_at 1454 rfl rfl)
  | 29, _ => exact (jTB_at 1456 rfl rfl)
  | 30, _ => exact (jTB_at 1458 rfl rfl)
  | 31, _ => exact (jTB_at 1460 rfl rfl)
  | 32, _ => exact (jTB_at 1462 rfl rfl)
  | 33, _ => exact (jTB_at 1464 rfl rfl)
  | 34, _ => exact (jTB_at 1466 rfl rfl)
  | 35, _ => exact (jTB_at 1468 rfl rfl)
  | 36, _ => exact (jTB_at 1470 rfl rfl)
  | 37, _ => exact (jTB_at 1472 rfl rfl)
  | 38, _ => exact (jTB_at 1474 rfl rfl)
  | 39, _ => exact (jTB_at 1476 rfl rfl)
  | 40, _ => exact (jTB_at 1478 rfl rfl)
  | 41, _ => exact (jTB_at 1480 rfl rfl)
  | 42, _ => exact (jTB_at 1482 rfl rfl)
  | 43, _ => exact (jTB_at 1484 rfl rfl)
  | 44, _ => exact (jTB_at 1486 rfl rfl)
  | 45, _ => exact (jTB_at 1488 rfl rfl)
  | 46, _ => exact (jTB_at 1490 rfl rfl)
  | 47, _ => exact (jTB_at 1492 rfl rfl)
  | 48, _ => exact (jTB_at 1494 rfl rfl)
  | 49, _ => exact (jTB_at 1496 rfl rfl)
  | 50, _ => exact (jTB_at 1498 rfl rfl)
  | 51, _ => exact (jTB_at 1500 rfl rfl)
  | 52, _ => exact (jTB_at 1502 rfl rfl)
  | 53, _ => exact (jTB_at 1504 rfl rfl)
  | 54, _ => exact (jTB_at 1506 rfl rfl)
  | 55, _ => exact (jTB_at 1508 rfl rfl)
  | 56, _ => exact (jTB_at 1510 rfl rfl)
  | k + 57, h => exact absurd h (by omega)
theorem jow_X12 : ∀ k, k < 57 → (TX12 k).1 = RX12 := by decide +kernel
end
section
/-! Calls into the JDK: Math, arraycopy, texts. -/
def jca_max : jxA := fun as σ k => match as with
  | [.inl x, .inl y] => k (some (jmi (jmax x y))) σ
  | _ => none
theorem jI_max (x y : Int) : jI (jmax x y) = if jI x < jI y then jI y else jI x := by
  unfold jmax
  simp only [jI_lt x y]
  split <;> rfl
set_option maxRecDepth 100000 in
theorem js_max {own : String} {fr lo idx : Nat} {sh : List jxC} (hl : Cond.methodLink own idx Lib.Math.max.name ∈ jTB) (hf : 1 ≤ fr) (ho : 21 ≤ lo) : jSite own fr lo sh (idx, (2, true), jca_max) := by
  intro X hX ho' hR hs as σ k x σ' h
  simp only [jca_max] at h
  split at h
  · rename_i a b
    refine ⟨_, _, h, ?_⟩
    intro Q pc loc rest hd hcat hk
    obtain ⟨p, l, e, R, s, m, args, below, meth, c, cc, nL, own, D, cy, A, ad, sh, kd, ca, sl⟩ := X
    obtain ⟨hx, hb, hml, hown, hts, hlk, hK, hA, hBG, hr, hca, hsl⟩ := hX
    have ho' : own = _ := ho'
    have hR : R.frames = fr ∧ R.locals = lo := hR
    subst ho'
    intro H locs ls hP hD hS hL
    have kk := hk H locs ls hP hD hS hL
    simp only [Option.toList_some, List.cons_append, List.nil_append, List.map_cons, jtoV, jI_max] at kk
    have hc2 : ((rest.map (jtoV ad)).map fun v => v.category).sum + 13 ≤ lo := by rw [jcat_sum]; omega
    exact va_mmax hx hb (by rw [hml, hL.1]) hown (hts _ hl) (hts _ (jTB_at 700 rfl rfl)) (hts _ (jTB_at 131 rfl rfl)) (hts _ (jTB_at 701 rfl rfl)) (by rw [hR.1]; exact hf) (by rw [hR.2]; exact hc2) hca hsl hd kk
  · cases h
def jca_min : jxA := fun as σ k => match as with
  | [.inl x, .inl y] => k (some (jmi (jmin x y))) σ
  | _ => none
theorem jI_min (x y : Int) : jI (jmin x y) = if jI y < jI x then jI y else jI x := by
  unfold jmin
  simp only [jI_lt y x]
  split <;> rfl
set_option maxRecDepth 100000 in
theorem js_min {own : String} {fr lo idx : Nat} {sh : List jxC} (hl : Cond.methodLink own idx Lib.Math.min.name ∈ jTB) (hf : 1 ≤ fr) (ho : 21 ≤ lo) : jSite own fr lo sh (idx, (2, true), jca_min) := by
  intro X hX ho' hR hs as σ k x σ' h
  simp only [jca_min] at h
  split at h
  · rename_i a b
    refine ⟨_, _, h, ?_⟩
    intro Q pc loc rest hd hcat hk
    obtain ⟨p, l, e, R, s, m, args, below, meth, c, cc, nL, own, D, cy, A, ad, sh, kd, ca, sl⟩ := X
    obtain ⟨hx, hb, hml, hown, hts, hlk, hK, hA, hBG, hr, hca, hsl⟩ := hX
    have ho' : own = _ := ho'
    have hR : R.frames = fr ∧ R.locals = lo := hR
    subst ho'
    intro H locs ls hP hD hS hL
    have kk := hk H locs ls hP hD hS hL
    simp only [Option.toList_some, List.cons_append, List.nil_append, List.map_cons, jtoV, jI_min] at kk
    have hc2 : ((rest.map (jtoV ad)).map fun v => v.category).sum + 13 ≤ lo := by rw [jcat_sum]; omega
    exact va_mmin hx hb (by rw [hml, hL.1]) hown (hts _ hl) (hts _ (jTB_at 697 rfl rfl)) (hts _ (jTB_at 131 rfl rfl)) (hts _ (jTB_at 698 rfl rfl)) (by rw [hR.1]; exact hf) (by rw [hR.2]; exact hc2) hca hsl hd kk
  · cases h
theorem jW_row {ad : Nat → Nat} {cy : Nat → ClassId} {sh : List jxC} {σ σ' : jxS} {i : Nat} {c : jxC} {e : va_E} (h : sh[i]? = some c) (hne : ∀ a, a ≠ i → σ' a = σ a) (he : e = jent ad cy c (σ' i)) : (jW ad cy sh σ).set i (ad i, e) = jW ad cy sh σ' := by
  subst he
  refine List.ext_getElem? fun a => ?_
  by_cases ha : a = i
  · subst ha
    have hl : a < (jW ad cy sh σ).length := by
      rw [jW, List.length_mapIdx]
      exact (List.getElem?_eq_some_iff.mp h).1
    rw [List.getElem?_set_self hl, jW_get h]
  · rw [List.getElem?_set_ne (Ne.symm ha)]
    simp [jW, List.getElem?_mapIdx, hne a ha]
def jca_copy : jxA := fun as σ k => match as with
  | [.inr (.inr (.inl a)), .inl x, .inr (.inr (.inl b)), .inl y, .inl n] => bif Nat.beq a 4 then (bif Nat.beq b 53 then (if x = 0 ∧ y = 0 ∧ n = 8 then k none (jcopy σ 4 53 8) else none) else none) else none
  | _ => none
set_option maxRecDepth 100000 in
theorem js_copy {fr lo : Nat} {sh : List jxC} (hs : jHas sh jc_C) (hf : 1 ≤ fr) (ho : 40 ≤ lo) : jSite RX8 fr lo sh (52, (5, true), jca_copy) := by
  intro X hX ho' hR hs' as σ k x σ' h
  simp only [jca_copy] at h
  split at h
  · rename_i a x y b n
    obtain ⟨g1, h1⟩ := jcond h
    obtain ⟨g2, h2⟩ := jcond h1
    obtain ⟨⟨g3, g4, g5⟩, h3⟩ := jite h2
    obtain rfl := jbeq g1
    obtain rfl := jbeq g2
    subst g3; subst g4; subst g5
    refine ⟨_, _, h3, ?_⟩
    intro Q pc loc rest hd hcat hk
    obtain ⟨p, l, e, R, s, m, args, below, meth, c, cc, nL, own, D, cy, A, ad, sh, kd, ca, sl⟩ := X
    obtain ⟨hx, hb, hml, hown, hts, hlk, hK, hA, hBG, hr, hca, hsl⟩ := hX
    have ho' : own = _ := ho'
    have hR : R.frames = fr ∧ R.locals = lo := hR
    have hs' : sh = _ := hs'
    subst ho'; subst hs'
    have hR1 : R.frames = fr := hR.1
    have hR2 : R.locals = lo := hR.2
    intro H locs ls hP hD hS hL
    have e4 : sh[4]? = some (.inr (.inl (0, 8))) := (hs _ (jkf_in (l := jc_C) (idx := 4) rfl)).1
    have e5 : sh[53]? = some (.inr (.inl (0, 8))) := (hs _ (jkf_in (l := jc_C) (idx := 53) rfl)).1
    have hc3 : nativeFrameWords "java/lang/System" "arraycopy" 5 + 11 ≤ 32 := by decide
    have hc2 : ((rest.map (jtoV ad)).map fun v => v.category).sum + (nativeFrameWords "java/lang/System" "arraycopy" 5 + 11) ≤ lo := by rw [jcat_sum]; omega
    refine va_copyi (sp := jI 0) (dp := jI 0) (n := jI 8) hx hb (by rw [hml, hL.1]) hown (hts _ (jTB_at 683 rfl rfl)) (hts _ (jTB_at 685 rfl rfl)) (hts _ (jTB_at 684 rfl rfl)) (hts _ (jTB_at 129 rfl rfl)) hK hP hD hS 4 53 0 0 (jW_get e4) (jW_get e5) rfl rfl rfl (by decide) (by decide) (by decide) (by decide) (by decide) (fun _ _ => rfl) (by rw [hR1]; exact hf) (by rw [hR2]; exact hc2) hd (fun H1 locs1 hP1 hD1 hS1 => ?_)
    have he : va_cpy (fun j : Nat => jI (σ 4 (j : Int))) (fun j : Nat => jI (σ 53 (j : Int))) (jI 0).toNatClampNeg (jI 0).toNatClampNeg (jI 8).toNatClampNeg = fun j : Nat => jI (jcopy σ 4 53 8 53 (j : Int)) := by
      funext j
      have z0 : (jI 0).toNatClampNeg = 0 := by decide
      have z8 : (jI 8).toNatClampNeg = 8 := by decide
      simp only [va_cpy, z0, z8, jcopy]
      by_cases hj : j < 8
      · have h1 : (j : Int) < 8 := by omega
        simp [hj, h1]
      · have h1 : ¬ (j : Int) < 8 := by omega
        simp [hj, h1]
    have e := jW_row (ad := ad) (cy := cy) (sh := sh) (σ := σ) (σ' := jcopy σ 4 53 8) (e := .inl (cy 0, 8, .inl (va_cpy (fun j : Nat => jI (σ 4 (j : Int))) (fun j : Nat => jI (σ 53 (j : Int))) (jI 0).toNatClampNeg (jI 0).toNatClampNeg (jI 8).toNatClampNeg))) e5 (fun a ha => by funext j; simp [jcopy, ha]) (by rw [he]; rfl)
    exact hk H1 locs1 ls (e ▸ hP1) (e ▸ hD1) hS1 hL
  · cases h
section JT
variable {X : jxX} {Q : State → Prop} {pc : Nat} {loc : jxL} {r : List jxV} {σ : jxS}
theorem jt_val {i idx : Nat} (hi : i < 4) (hX : jOK X) (h : Cond.fieldLink (jown X) idx "java/lang/String" "value" "[B" ∈ jTB) (hd : decode (jcc X) pc = .ok (.getfield idx, 3)) (hk : jWj X Q (pc + 3) loc (jmr (1006 + i) :: r) σ) : jWj X Q pc loc (jmr (1002 + i) :: r) σ := by
  obtain ⟨p, l, e, R, s, m, args, below, meth, c, cc, nL, own, D, cy, A, ad, sh, kd, ca, sl⟩ := X
  obtain ⟨hx, hb, hml, hown, hts, hlk, hK, hA, hBG, hr, hca, hsl⟩ := hX
  intro H locs ls hP hD hS hL
  exact vk_getf hx hb (hBG.2.2.2.2.2.1.1 i hi).2.2.1 hS hown (hts _ h) (fun _ q => q) hd (hk H locs ls hP hD hS hL)
theorem jt_cod {i idx : Nat} (hi : i < 4) (hX : jOK X) (h : Cond.fieldLink (jown X) idx "java/lang/String" "coder" "B" ∈ jTB) (hd : decode (jcc X) pc = .ok (.getfield idx, 3)) (hk : jWj X Q (pc + 3) loc (jmi 0 :: r) σ) : jWj X Q pc loc (jmr (1002 + i) :: r) σ := by
  obtain ⟨p, l, e, R, s, m, args, below, meth, c, cc, nL, own, D, cy, A, ad, sh, kd, ca, sl⟩ := X
  obtain ⟨hx, hb, hml, hown, hts, hlk, hK, hA, hBG, hr, hca, hsl⟩ := hX
  intro H locs ls hP hD hS hL
  exact vk_getf hx hb (hBG.2.2.2.2.2.1.1 i hi).2.1 hS hown (hts _ h) (fun _ q => q) hd (hk H locs ls hP hD hS hL)
theorem jt_len {i : Nat} (hi : i < 4) (hX : jOK X) (hd : decode (jcc X) pc = .ok (.arraylength, 1)) (hk : jWj X Q (pc + 1) loc (jmi (jslen.getD i 0 : Nat) :: r) σ) : jWj X Q pc loc (jmr (1006 + i) :: r) σ := by
  obtain ⟨p, l, e, R, s, m, args, below, meth, c, cc, nL, own, D, cy, A, ad, sh, kd, ca, sl⟩ := X
  obtain ⟨hx, hb, hml, hown, hts, hlk, hK, hA, hBG, hr, hca, hsl⟩ := hX
  intro H locs ls hP hD hS hL
  exact va_tlen hx hb (hBG.2.2.2.2.2.1.1 i hi).2.2.2 hS (by show Int32.ofNat _ = Int32.ofInt (_ : Int); simp [Int32.ofInt, Int32.ofNat]) hd (hk H locs ls hP hD hS hL)
theorem jt_at {i : Nat} {x : Int} (hi : i < 4) (hx0 : 0 ≤ x ∧ x < (jslen.getD i 0 : Nat)) (hX : jOK X) (hd : decode (jcc X) pc = .ok (.baload, 1)) (hk : jWj X Q (pc + 1) loc (jmi ((jsbyt.getD i []).getD x.toNat 0).toInt :: r) σ) : jWj X Q pc loc (jmi x :: jmr (1006 + i) :: r) σ := by
  obtain ⟨p, l, e, R, s, m, args, below, meth, c, cc, nL, own, D, cy, A, ad, sh, kd, ca, sl⟩ := X
  obtain ⟨hx, hb, hml, hown, hts, hlk, hK, hA, hBG, hr, hca, hsl⟩ := hX
  intro H locs ls hP hD hS hL
  obtain ⟨h1, h2⟩ := j_in (n := jslen.getD i 0) (by have : ∀ i, i < 4 → jslen.getD i 0 < 2 ^ 31 := by decide
                                                    exact this i hi) hx0
  refine va_tb hx hb (hBG.2.2.2.2.2.1.1 i hi).2.2.2 hS h1 (by rw [h2]) hd ?_
  have k := hk H locs ls hP hD hS hL
  simp only [List.map_cons, jtoV, jI_toInt] at k
  exact k
theorem jt_cmp {idx : Nat} (hX : jOK X) (h : Cond.fieldLink (jown X) idx "java/lang/String" "COMPACT_STRINGS" "Z" ∈ jTB) (hd : decode (jcc X) pc = .ok (.getstatic idx, 3)) (hk : jWj X Q (pc + 3) loc (jmi 1 :: r) σ) : jWj X Q pc loc r σ := by
  obtain ⟨p, l, e, R, s, m, args, below, meth, c, cc, nL, own, D, cy, A, ad, sh, kd, ca, sl⟩ := X
  obtain ⟨hx, hb, hml, hown, hts, hlk, hK, hA, hBG, hr, hca, hsl⟩ := hX
  intro H locs ls hP hD hS hL
  exact va_gets hx hb hBG.2.2.2.2.2.2.2.1 hS hown (hts _ h) (fun _ q => q) hd (hk H locs ls hP hD hS hL)
theorem jt_fmt {idx : Nat} (hX : jOK X) (h : Cond.fieldLink (jown X) idx "jdk/internal/util/Preconditions" "SIOOBE_FORMATTER" "Ljava/util/function/BiFunction;" ∈ jTB) (hd : decode (jcc X) pc = .ok (.getstatic idx, 3)) (hk : ∀ v, v = jmn ∨ v = jmr 1010 → jWj X Q (pc + 3) loc (v :: r) σ) : jWj X Q pc loc r σ := by
  obtain ⟨p, l, e, R, s, m, args, below, meth, c, cc, nL, own, D, cy, A, ad, sh, kd, ca, sl⟩ := X
  obtain ⟨hx, hb, hml, hown, hts, hlk, hK, hA, hBG, hr, hca, hsl⟩ := hX
  intro H locs ls hP hD hS hL
  rcases hBG.2.2.2.2.2.2.2.2 with h9 | h9
  · exact va_gets hx hb h9 hS hown (hts _ h) (fun _ q => q) hd (hk _ (Or.inl rfl) H locs ls hP hD hS hL)
  · exact va_gets hx hb h9 hS hown (hts _ h) (fun _ q => q) hd (hk _ (Or.inr rfl) H locs ls hP hD hS hL)
theorem jt_i2c {x : Int} (hx0 : 0 ≤ x ∧ x < 65536) (hX : jOK X) (hd : decode (jcc X) pc = .ok (.i2c, 1)) (hk : jWj X Q (pc + 1) loc (jmi x :: r) σ) : jWj X Q pc loc (jmi x :: r) σ := by
  obtain ⟨p, l, e, R, s, m, args, below, meth, c, cc, nL, own, D, cy, A, ad, sh, kd, ca, sl⟩ := X
  obtain ⟨hx, hb, hml, hown, hts, hlk, hK, hA, hBG, hr, hca, hsl⟩ := hX
  intro H locs ls hP hD hS hL
  refine lv_i2c hx hb hd ?_ (hk H locs ls hP hD hS hL)
  rw [pk_char]
  have h2 : (jI x).toBitVec.toNat = (x % 4294967296).toNat := by
    show (BitVec.ofInt 32 x).toNat = _
    rw [BitVec.toNat_ofInt]
    rfl
  rw [h2]
  apply Int32.toInt_inj.mp
  rw [nI_toInt (by omega), jw_toInt, jw]
  omega
theorem jt_bret (hX : jOK X) (hk : jkd X = 6) (hd : decode (jcc X) pc = .ok (.ireturn, 1)) : jWj X (jQ X (some (jmi 0)) σ) pc loc [jmi 0] σ := by
  obtain ⟨p, l, e, R, s, m, args, below, meth, c, cc, nL, own, D, cy, A, ad, sh, kd, ca, sl⟩ := X
  obtain ⟨hx, hb, hml, hown, hts, hlk, hK, hA, hBG, hr, hca, hsl⟩ := hX
  have hk : kd = 6 := hk
  subst hk
  intro H locs ls hP hD hS hL
  exact W.zret (ty := .byte) hx hb hr rfl (fun t ht hW => ⟨rfl, by rw [ht]; exact hP, hS.F ht⟩) hS.2.2 hd hlk
theorem jt_cret {x : Int} (hx0 : 0 ≤ x ∧ x < 65536) (hX : jOK X) (hk : jkd X = 5) (hd : decode (jcc X) pc = .ok (.ireturn, 1)) : jWj X (jQ X (some (jmi x)) σ) pc loc [jmi x] σ := by
  obtain ⟨p, l, e, R, s, m, args, below, meth, c, cc, nL, own, D, cy, A, ad, sh, kd, ca, sl⟩ := X
  obtain ⟨hx, hb, hml, hown, hts, hlk, hK, hA, hBG, hr, hca, hsl⟩ := hX
  have hk : kd = 5 := hk
  subst hk
  intro H locs ls hP hD hS hL
  refine W.zret (ty := .char) hx hb hr ?_ (fun t ht hW => ⟨rfl, by rw [ht]; exact hP, hS.F ht⟩) hS.2.2 hd hlk
  have e : jI x = nI x.toNat := by
    apply Int32.toInt_inj.mp
    rw [nI_toInt (by omega), jw_toInt, jw]
    omega
  rw [e]
  exact (pk_charN (by omega)).1
end JT
end
section
/-! Texts: length and charAt of the constants. -/
theorem jdd {X : jxX} {bytes : ByteArray} {pc n : Nat} {i : Instr} (h : jcc X = bytes) (e : decode bytes pc = .ok (i, n)) : decode (jcc X) pc = .ok (i, n) := by rw [h]; exact e
theorem jCallT {X : jxX} {y : MethodName} {bytes : ByteArray} {maxL fr lo kd n idx i : Nat} {σ σ1 : jxS} {v : Option jxV} {as : List jxV} (hi : i < 4) (hX : jOK X) (hl : jLkV (jown X) idx y bytes maxL kd n) (hr : fr + 1 ≤ (jroom X).frames ∧ 8 + (maxL + 11) + lo ≤ (jroom X).locals) (hc : y.cls = "java/lang/String") (hn : as.length = n)
    (hM : jMC y bytes maxL (jrt kd) fr lo (jsh X) σ (jmr (1002 + i) :: as) v σ1) : jCall X (.invokevirtual idx) (jmr (1002 + i) :: as) v σ σ1 := by
  intro Q pc loc rest hd hcat hk
  obtain ⟨p, l, e, R, s, m, args, below, meth, c, cc, nL, own, D, cy, A, ad, sh, kd', ca, sl⟩ := X
  obtain ⟨hx, hb, hml, hown, hts, hlk, hK, hA, hBG, hrt, hca, hsl⟩ := hX
  intro H locs ls hP hD hS hL
  have hg := jGoodV hl
  obtain ⟨h1, h2, h3, h4, h5, h6⟩ := hl
  have hrc : ∃ cell : Cell, H[ad (1002 + i)]? = some cell ∧ cell.vm.isStatics = false ∧ s.vm.findClass y.cls = some cell.cls := by rw [hc]; exact vk_recv (adK := fun i => ad (1002 + i)) (i := i) hBG.2.2.2.2.2.1 hi hS
  have hrun : va_Run p l e R s m args below meth c H locs ca sl 0 0 (F0 m pc ls (((jmr (1002 + i) :: as).reverse ++ rest).map (jtoV ad))) (rest.map (jtoV ad)) (jQc D cy A ad sh v σ1 ((jmr (1002 + i) :: as).map (jtoV ad)).toArray) A := va_runV (g := F0 m pc ls (((jmr (1002 + i) :: as).reverse ++ rest).map (jtoV ad))) (rest := rest.map (jtoV ad)) (locs := locs) (cells := ca) (slots := sl) (nL := nL) (As := as.map (jtoV ad)) (b := ad (1002 + i)) ⟨hx, hb, hml, hown, hts⟩ (hM l D cy A ad) (cwV n hts hg rfl rfl rfl ⟨rfl, h6⟩ hr) ⟨jPc_blind, hrc, fun U hU hW => jpre (as := jmr (1002 + i) :: as) hP hD hS hK hA hBG U hU hW⟩ rfl (by simpa using hn) hL.1
    (by simp [List.map_append, List.map_reverse, jtoV]) (lv_room (by rw [jcat_sum]; exact hcat)) hd ⟨hca, hsl⟩
  refine jcall_on hrun hS (fun H1 locs1 hP1 hS1 => ?_)
  have k := hk H1 locs1 ls hP1 (jW_D hD) hS1 hL
  cases v with
  | none => exact k
  | some w => exact k
set_option maxRecDepth 100000 in
theorem jt_coder {i : Nat} (hi : i < 4) (sh : List jxC) (σ0 : jxS) : jMC yJ0_coder_7d493 cJ0_coder_7d493 1 (jrt 6) 0 0 sh σ0 [jmr (1002 + i)] (jrv 6 0) σ0 := by
  refine jMC_of (kd := 6) (f := some (0, σ0)) (by decide) rfl rfl ?_
  intro X hX x σ' h
  cases h
  rw [hX.2.2.2.2.2]
  refine jt_cmp hX.1 (by rw [hX.2.2.1]; exact (jTB_at 273 rfl rfl)) (jdd hX.2.1 (by decide +kernel : decode cJ0_coder_7d493 0 = .ok (.getstatic 38, 3))) ?_
  refine jn_if_eq hX.1 (by decide) (jdd hX.2.1 (by decide +kernel : decode cJ0_coder_7d493 3 = .ok (.ifCond .eq 10, 3))) (by decide) ?_
  refine jw_lda_n (n := 0) (x := 1002 + i) rfl hX.1 (jdd hX.2.1 (by decide +kernel : decode cJ0_coder_7d493 6 = .ok (.aload_n 0, 1))) ?_
  refine jt_cod hi hX.1 (by rw [hX.2.2.1]; exact (jTB_at 1942 rfl rfl)) (jdd hX.2.1 (by decide +kernel : decode cJ0_coder_7d493 7 = .ok (.getfield 15, 3))) ?_
  refine jw_goto (t := 14) (x := 0) hX.1 rfl (jdd hX.2.1 (by decide +kernel : decode cJ0_coder_7d493 10 = .ok (.goto 4, 3))) ?_
  exact jt_bret hX.1 hX.2.2.2.2.2 (jdd hX.2.1 (by decide +kernel : decode cJ0_coder_7d493 14 = .ok (.ireturn, 1)))
set_option maxRecDepth 100000 in
theorem jt_isLatin1 {i : Nat} (hi : i < 4) (sh : List jxC) (σ0 : jxS) : jMC yJ0_isLatin1_aae02 cJ0_isLatin1_aae02 1 (jrt 4) 0 0 sh σ0 [jmr (1002 + i)] (jrv 4 1) σ0 := by
  refine jMC_of (kd := 4) (f := some (1, σ0)) (by decide) rfl rfl ?_
  intro X hX x σ' h
  cases h
  rw [hX.2.2.2.2.2]
  refine jt_cmp hX.1 (by rw [hX.2.2.1]; exact (jTB_at 273 rfl rfl)) (jdd hX.2.1 (by decide +kernel : decode cJ0_isLatin1_aae02 0 = .ok (.getstatic 38, 3))) ?_
  refine jn_if_eq hX.1 (by decide) (jdd hX.2.1 (by decide +kernel : decode cJ0_isLatin1_aae02 3 = .ok (.ifCond .eq 14, 3))) (by decide) ?_
  refine jw_lda_n (n := 0) (x := 1002 + i) rfl hX.1 (jdd hX.2.1 (by decide +kernel : decode cJ0_isLatin1_aae02 6 = .ok (.aload_n 0, 1))) ?_
  refine jt_cod hi hX.1 (by rw [hX.2.2.1]; exact (jTB_at 1942 rfl rfl)) (jdd hX.2.1 (by decide +kernel : decode cJ0_isLatin1_aae02 7 = .ok (.getfield 15, 3))) ?_
  refine jn_if_ne hX.1 (by decide) (jdd hX.2.1 (by decide +kernel : decode cJ0_isLatin1_aae02 10 = .ok (.ifCond .ne 7, 3))) (by decide) ?_
  refine jw_iconst hX.1 (jdd hX.2.1 (by decide +kernel : decode cJ0_isLatin1_aae02 13 = .ok (.iconst 1, 1))) ?_
  refine jw_goto (t := 18) (x := 0) hX.1 rfl (jdd hX.2.1 (by decide +kernel : decode cJ0_isLatin1_aae02 14 = .ok (.goto 4, 3))) ?_
  exact jw_zret hX.1 hX.2.2.2.2.2 (Or.inr rfl) (jdd hX.2.1 (by decide +kernel : decode cJ0_isLatin1_aae02 18 = .ok (.ireturn, 1)))
set_option maxRecDepth 100000 in
theorem jt_length {i : Nat} (hi : i < 4) (sh : List jxC) (σ0 : jxS) : jMC yJ0_length_8abf5 cJ0_length_8abf5 1 (jrt 1) 1 20 sh σ0 [jmr (1002 + i)] (jrv 1 (jshr (jslen.getD i 0 : Nat) 0)) σ0 := by
  refine jMC_of (kd := 1) (f := some ((jshr (jslen.getD i 0 : Nat) 0), σ0)) (by decide) rfl rfl ?_
  intro X hX x σ' h
  cases h
  rw [hX.2.2.2.2.2]
  refine jw_lda_n (n := 0) (x := 1002 + i) rfl hX.1 (jdd hX.2.1 (by decide +kernel : decode cJ0_length_8abf5 0 = .ok (.aload_n 0, 1))) ?_
  refine jt_val hi hX.1 (by rw [hX.2.2.1]; exact (jTB_at 1941 rfl rfl)) (jdd hX.2.1 (by decide +kernel : decode cJ0_length_8abf5 1 = .ok (.getfield 9, 3))) ?_
  refine jt_len hi hX.1 (jdd hX.2.1 (by decide +kernel : decode cJ0_length_8abf5 4 = .ok (.arraylength, 1))) ?_
  refine jw_lda_n (n := 0) (x := 1002 + i) rfl hX.1 (jdd hX.2.1 (by decide +kernel : decode cJ0_length_8abf5 5 = .ok (.aload_n 0, 1))) ?_
  refine jCallT (n := 0) (as := []) hi hX.1 (fr := 0) (lo := 0) (by rw [hX.2.2.1]; exact ⟨(jTB_at 269 rfl rfl), (jTB_at 270 rfl rfl), (jTB_at 271 rfl rfl), (jTB_at 116 rfl rfl), jTB_at 272 rfl rfl, ⟨by decide, by decide, by decide +kernel⟩⟩) ⟨by rw [hX.2.2.2.1.1]; decide, by rw [hX.2.2.2.1.2]; decide⟩ rfl rfl (jt_coder hi (jsh X) σ0) _ 6 _ [jmi _] (jdd hX.2.1 (by decide +kernel : decode cJ0_length_8abf5 6 = .ok (.invokevirtual 335, 3))) (Nat.le_of_ble_eq_true rfl) ?_
  refine jw_ishr hX.1 (jdd hX.2.1 (by decide +kernel : decode cJ0_length_8abf5 9 = .ok (.ishr, 1))) ?_
  exact jw_iret hX.1 hX.2.2.2.2.2 (jdd hX.2.1 (by decide +kernel : decode cJ0_length_8abf5 10 = .ok (.ireturn, 1)))
set_option maxRecDepth 100000 in
theorem jt_pre {v : jxV} (hv : v = jmn ∨ v = jmr 1010) {z n : Int} (hz : 0 ≤ z ∧ z < n ∧ n < 1000) (sh : List jxC) (σ0 : jxS) : jMC yJ3_checkIndex_8e157 cJ3_checkIndex_8e157 3 (jrt 1) 0 0 sh σ0 [jmi z, jmi n, v] (jrv 1 z) σ0 := by
  refine jMC_of (kd := 1) (f := some (z, σ0)) (by decide) (by rcases hv with rfl | rfl <;> rfl) rfl ?_
  intro X hX x σ' h
  cases h
  rw [hX.2.2.2.2.2]
  have e1 : jw z = z := jw_id (by omega) (by omega)
  have e2 : jw n = n := jw_id (by omega) (by omega)
  have hp : jpad 3 [jmi z, jmi n, v] = [some (jmi z), some (jmi n), some v] := by rcases hv with rfl | rfl <;> rfl
  rw [hp]
  refine jw_ldi_n (n := 0) (x := z) rfl hX.1 (jdd hX.2.1 (by decide +kernel : decode cJ3_checkIndex_8e157 0 = .ok (.iload_n 0, 1))) ?_
  refine jn_if_lt hX.1 (by omega) (jdd hX.2.1 (by decide +kernel : decode cJ3_checkIndex_8e157 1 = .ok (.ifCond .lt 8, 3))) (by decide) ?_
  refine jw_ldi_n (n := 0) (x := z) rfl hX.1 (jdd hX.2.1 (by decide +kernel : decode cJ3_checkIndex_8e157 4 = .ok (.iload_n 0, 1))) ?_
  refine jw_ldi_n (n := 1) (x := n) rfl hX.1 (jdd hX.2.1 (by decide +kernel : decode cJ3_checkIndex_8e157 5 = .ok (.iload_n 1, 1))) ?_
  refine jw_icmp_lt (t := 16) hX.1 rfl (jdd hX.2.1 (by decide +kernel : decode cJ3_checkIndex_8e157 6 = .ok (.if_icmp .lt 10, 3))) (fun _ => ?_) (fun q => absurd (by omega) q)
  refine jw_ldi_n (n := 0) (x := z) rfl hX.1 (jdd hX.2.1 (by decide +kernel : decode cJ3_checkIndex_8e157 16 = .ok (.iload_n 0, 1))) ?_
  exact jw_iret hX.1 hX.2.2.2.2.2 (jdd hX.2.1 (by decide +kernel : decode cJ3_checkIndex_8e157 17 = .ok (.ireturn, 1)))
set_option maxRecDepth 100000 in
theorem jt_chk {z n : Int} (hz : 0 ≤ z ∧ z < n ∧ n < 1000) (sh : List jxC) (σ0 : jxS) : jMC yJ0_checkIndex_df160 cJ0_checkIndex_df160 2 (jrt 0) 1 22 sh σ0 [jmi z, jmi n] (jrv 0 0) σ0 := by
  refine jMC_of (kd := 0) (f := some (0, σ0)) (by decide) rfl rfl ?_
  intro X hX x σ' h
  cases h
  rw [hX.2.2.2.2.2]
  refine jw_ldi_n (n := 0) (x := z) rfl hX.1 (jdd hX.2.1 (by decide +kernel : decode cJ0_checkIndex_df160 0 = .ok (.iload_n 0, 1))) ?_
  refine jw_ldi_n (n := 1) (x := n) rfl hX.1 (jdd hX.2.1 (by decide +kernel : decode cJ0_checkIndex_df160 1 = .ok (.iload_n 1, 1))) ?_
  refine jt_fmt hX.1 (by rw [hX.2.2.1]; exact (jTB_at 289 rfl rfl)) (jdd hX.2.1 (by decide +kernel : decode cJ0_checkIndex_df160 2 = .ok (.getstatic 1053, 3))) (fun v hv => ?_)
  refine jCallS (n := 3) (as := [jmi z, jmi n, v]) hX.1 (fr := 0) (lo := 0) (by rw [hX.2.2.1]; exact ⟨Or.inl (jTB_at 291 rfl rfl), (jTB_at 292 rfl rfl), (jTB_at 118 rfl rfl), jTB_at 293 rfl rfl, ⟨by decide, by decide, by decide +kernel⟩⟩) ⟨by rw [hX.2.2.2.1.1]; decide, by rw [hX.2.2.2.1.2]; decide⟩ rfl (jt_pre hv hz (jsh X) σ0) _ 5 _ [] (jdd hX.2.1 (by decide +kernel : decode cJ0_checkIndex_df160 5 = .ok (.invokestatic 1059, 3))) (by decide) ?_
  refine jw_popi hX.1 (jdd hX.2.1 (by decide +kernel : decode cJ0_checkIndex_df160 8 = .ok (.pop, 1))) ?_
  exact jw_vret hX.1 hX.2.2.2.2.2 (jdd hX.2.1 (by decide +kernel : decode cJ0_checkIndex_df160 9 = .ok (.return_, 1)))
theorem jt_byte {i : Nat} (hi : i < 4) {z : Int} (hz : 0 ≤ z ∧ z < (jslen.getD i 0 : Nat)) : (0 ≤ jand ((jsbyt.getD i []).getD z.toNat 0).toInt 255 ∧ jand ((jsbyt.getD i []).getD z.toNat 0).toInt 255 < 65536) ∧ ((jslen.getD i 0 : Nat) : Int) < 1000 := by
  have h : ∀ i, i < 4 → ∀ k, k < 5 → (0 ≤ jand ((jsbyt.getD i []).getD k 0).toInt 255 ∧ jand ((jsbyt.getD i []).getD k 0).toInt 255 < 65536) := by decide
  have h2 : ∀ i, i < 4 → jslen.getD i 0 ≤ 5 := by decide
  have h3 := h2 i hi
  refine ⟨h i hi z.toNat (by omega), by omega⟩
set_option maxRecDepth 100000 in
theorem jt_lat {i : Nat} (hi : i < 4) {z : Int} (hz : 0 ≤ z ∧ z < (jslen.getD i 0 : Nat)) (sh : List jxC) (σ0 : jxS) : jMC yJ1_charAt_3b067 cJ1_charAt_3b067 2 (jrt 5) 2 43 sh σ0 [jmr (1006 + i), jmi z] (jrv 5 (jand ((jsbyt.getD i []).getD z.toNat 0).toInt 255)) σ0 := by
  refine jMC_of (kd := 5) (f := some ((jand ((jsbyt.getD i []).getD z.toNat 0).toInt 255), σ0)) (by decide) rfl rfl ?_
  intro X hX x σ' h
  cases h
  rw [hX.2.2.2.2.2]
  obtain ⟨g1, g2⟩ := jt_byte hi hz
  refine jw_ldi_n (n := 1) (x := z) rfl hX.1 (jdd hX.2.1 (by decide +kernel : decode cJ1_charAt_3b067 0 = .ok (.iload_n 1, 1))) ?_
  refine jw_lda_n (n := 0) (x := 1006 + i) rfl hX.1 (jdd hX.2.1 (by decide +kernel : decode cJ1_charAt_3b067 1 = .ok (.aload_n 0, 1))) ?_
  refine jt_len hi hX.1 (jdd hX.2.1 (by decide +kernel : decode cJ1_charAt_3b067 2 = .ok (.arraylength, 1))) ?_
  refine jCallS (n := 2) (as := [jmi z, jmi _]) hX.1 (fr := 1) (lo := 22) (by rw [hX.2.2.1]; exact ⟨Or.inl (jTB_at 286 rfl rfl), (jTB_at 287 rfl rfl), (jTB_at 116 rfl rfl), jTB_at 288 rfl rfl, ⟨by decide, by decide, by decide +kernel⟩⟩) ⟨by rw [hX.2.2.2.1.1]; decide, by rw [hX.2.2.2.1.2]; decide⟩ rfl (jt_chk ⟨hz.1, hz.2, g2⟩ (jsh X) σ0) _ 3 _ [] (jdd hX.2.1 (by decide +kernel : decode cJ1_charAt_3b067 3 = .ok (.invokestatic 9, 3))) (by decide) ?_
  refine jw_lda_n (n := 0) (x := 1006 + i) rfl hX.1 (jdd hX.2.1 (by decide +kernel : decode cJ1_charAt_3b067 6 = .ok (.aload_n 0, 1))) ?_
  refine jw_ldi_n (n := 1) (x := z) rfl hX.1 (jdd hX.2.1 (by decide +kernel : decode cJ1_charAt_3b067 7 = .ok (.iload_n 1, 1))) ?_
  refine jt_at hi hz hX.1 (jdd hX.2.1 (by decide +kernel : decode cJ1_charAt_3b067 8 = .ok (.baload, 1))) ?_
  refine jw_sipush (by decide) hX.1 (jdd hX.2.1 (by decide +kernel : decode cJ1_charAt_3b067 9 = .ok (.sipush 255, 3))) ?_
  refine jw_iand hX.1 (jdd hX.2.1 (by decide +kernel : decode cJ1_charAt_3b067 12 = .ok (.iand, 1))) ?_
  refine jt_i2c g1 hX.1 (jdd hX.2.1 (by decide +kernel : decode cJ1_charAt_3b067 13 = .ok (.i2c, 1))) ?_
  exact jt_cret g1 hX.1 hX.2.2.2.2.2 (jdd hX.2.1 (by decide +kernel : decode cJ1_charAt_3b067 14 = .ok (.ireturn, 1)))
set_option maxRecDepth 100000 in
theorem jt_charAt {i : Nat} (hi : i < 4) {z : Int} (hz : 0 ≤ z ∧ z < (jslen.getD i 0 : Nat)) (sh : List jxC) (σ0 : jxS) : jMC yJ0_charAt_5068e cJ0_charAt_5068e 2 (jrt 5) 3 64 sh σ0 [jmr (1002 + i), jmi z] (jrv 5 (jand ((jsbyt.getD i []).getD z.toNat 0).toInt 255)) σ0 := by
  refine jMC_of (kd := 5) (f := some ((jand ((jsbyt.getD i []).getD z.toNat 0).toInt 255), σ0)) (by decide) rfl rfl ?_
  intro X hX x σ' h
  cases h
  rw [hX.2.2.2.2.2]
  obtain ⟨g1, g2⟩ := jt_byte hi hz
  refine jw_lda_n (n := 0) (x := 1002 + i) rfl hX.1 (jdd hX.2.1 (by decide +kernel : decode cJ0_charAt_5068e 0 = .ok (.aload_n 0, 1))) ?_
  refine jCallT (n := 0) (as := []) hi hX.1 (fr := 0) (lo := 0) (by rw [hX.2.2.1]; exact ⟨(jTB_at 279 rfl rfl), (jTB_at 280 rfl rfl), (jTB_at 281 rfl rfl), (jTB_at 116 rfl rfl), jTB_at 282 rfl rfl, ⟨by decide, by decide, by decide +kernel⟩⟩) ⟨by rw [hX.2.2.2.1.1]; decide, by rw [hX.2.2.2.1.2]; decide⟩ rfl rfl (jt_isLatin1 hi (jsh X) σ0) _ 1 _ [] (jdd hX.2.1 (by decide +kernel : decode cJ0_charAt_5068e 1 = .ok (.invokevirtual 492, 3))) (by decide) ?_
  refine jn_if_eq hX.1 (by decide) (jdd hX.2.1 (by decide +kernel : decode cJ0_charAt_5068e 4 = .ok (.ifCond .eq 12, 3))) (by decide) ?_
  refine jw_lda_n (n := 0) (x := 1002 + i) rfl hX.1 (jdd hX.2.1 (by decide +kernel : decode cJ0_charAt_5068e 7 = .ok (.aload_n 0, 1))) ?_
  refine jt_val hi hX.1 (by rw [hX.2.2.1]; exact (jTB_at 1941 rfl rfl)) (jdd hX.2.1 (by decide +kernel : decode cJ0_charAt_5068e 8 = .ok (.getfield 9, 3))) ?_
  refine jw_ldi_n (n := 1) (x := z) rfl hX.1 (jdd hX.2.1 (by decide +kernel : decode cJ0_charAt_5068e 11 = .ok (.iload_n 1, 1))) ?_
  refine jCallS (n := 2) (as := [jmr (1006 + i), jmi z]) hX.1 (fr := 2) (lo := 43) (by rw [hX.2.2.1]; exact ⟨Or.inl (jTB_at 283 rfl rfl), (jTB_at 284 rfl rfl), (jTB_at 117 rfl rfl), jTB_at 285 rfl rfl, ⟨by decide, by decide, by decide +kernel⟩⟩) ⟨by rw [hX.2.2.2.1.1]; decide, by rw [hX.2.2.2.1.2]; decide⟩ rfl (jt_lat hi hz (jsh X) σ0) _ 12 _ [] (jdd hX.2.1 (by decide +kernel : decode cJ0_charAt_5068e 12 = .ok (.invokestatic 495, 3))) (by decide) ?_
  exact jt_cret g1 hX.1 hX.2.2.2.2.2 (jdd hX.2.1 (by decide +kernel : decode cJ0_charAt_5068e 15 = .ok (.ireturn, 1)))
def jca_stlength : jxA := fun as σ k => match as with
  | [.inr (.inr (.inl w))] => bif (Nat.ble 1002 w && Nat.ble w 1005) then k (some (jmi (jstl w))) σ else none
  | _ => none
def jca_stcharAt : jxA := fun as σ k => match as with
  | [.inr (.inr (.inl w)), .inl x] => bif (Nat.ble 1002 w && Nat.ble w 1005) then (if 0 ≤ x ∧ x < jstl w then k (some (jmi (jsta w x))) σ else none) else none
  | _ => none
theorem jstw {w : Nat} (h : (Nat.ble 1002 w && Nat.ble w 1005) = true) : ∃ i, i < 4 ∧ w = 1002 + i := by
  simp only [Bool.and_eq_true] at h
  have h1 := jble h.1
  have h2 := jble h.2
  exact ⟨w - 1002, by omega, by omega⟩
set_option maxRecDepth 100000 in
theorem js_stlength {fr lo : Nat} {sh : List jxC} (hf : 2 ≤ fr) (ho : 60 ≤ lo) : jSite RX7 fr lo sh (107, (1, false), jca_stlength) := by
  intro X hX ho' hR hs as σ k x σ' h
  simp only [jca_stlength] at h
  split at h
  · rename_i w
    obtain ⟨g1, h1⟩ := jcond h
    obtain ⟨i, hi, rfl⟩ := jstw g1
    refine ⟨_, _, h1, ?_⟩
    have e : jstl (1002 + i) = jshr (jslen.getD i 0 : Nat) 0 := by
      have : ∀ i, i < 4 → jstl (1002 + i) = jshr (jslen.getD i 0 : Nat) 0 := by decide
      exact this i hi
    rw [e]
    exact jCallT (n := 0) (as := []) hi hX (fr := 1) (lo := 20) (by rw [ho']; exact ⟨(jTB_at 265 rfl rfl), (jTB_at 266 rfl rfl), (jTB_at 267 rfl rfl), (jTB_at 116 rfl rfl), jTB_at 268 rfl rfl, ⟨by decide, by decide, by decide +kernel⟩⟩) ⟨by rw [hR.1]; exact hf, by rw [hR.2]; omega⟩ rfl rfl (jt_length hi (jsh X) σ)
  · cases h
set_option maxRecDepth 100000 in
theorem js_stcharAt {fr lo : Nat} {sh : List jxC} (hf : 4 ≤ fr) (ho : 100 ≤ lo) : jSite RX7 fr lo sh (112, (2, false), jca_stcharAt) := by
  intro X hX ho' hR hs as σ k x σ' h
  simp only [jca_stcharAt] at h
  split at h
  · rename_i w z
    obtain ⟨g1, h1⟩ := jcond h
    obtain ⟨i, hi, rfl⟩ := jstw g1
    obtain ⟨h2, h3⟩ := jite h1
    refine ⟨_, _, h3, ?_⟩
    have e0 : jstl (1002 + i) = ((jslen.getD i 0 : Nat) : Int) := by
      unfold jstl
      rw [Nat.add_sub_cancel_left]
    have hz : 0 ≤ z ∧ z < ((jslen.getD i 0 : Nat) : Int) := by rw [← e0]; exact h2
    have e : jsta (1002 + i) z = jand ((jsbyt.getD i []).getD z.toNat 0).toInt 255 := by
      have h4 : ∀ i, i < 4 → ∀ k, k < 5 → ((jsbyt.getD i []).getD k 0).toInt = jand ((jsbyt.getD i []).getD k 0).toInt 255 := by decide
      have h5 : ∀ i, i < 4 → jslen.getD i 0 ≤ 5 := by decide
      have h6 := h5 i hi
      unfold jsta
      rw [Nat.add_sub_cancel_left]
      exact h4 i hi z.toNat (by omega)
    rw [e]
    exact jCallT (n := 1) (as := [jmi z]) hi hX (fr := 3) (lo := 64) (by rw [ho']; exact ⟨(jTB_at 275 rfl rfl), (jTB_at 276 rfl rfl), (jTB_at 277 rfl rfl), (jTB_at 116 rfl rfl), jTB_at 278 rfl rfl, ⟨by decide, by decide, by decide +kernel⟩⟩) ⟨by rw [hR.1]; exact hf, by rw [hR.2]; omega⟩ rfl rfl (jt_charAt hi hz (jsh X) σ)
  · cases h
end
