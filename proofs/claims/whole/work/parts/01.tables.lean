-- ===== PART A: goes FIRST, ahead of the names: the tables' words, and 'selects' of the private methods out of them =====
/-- a private method of a class that the tables say can be made, by its rows of tables_1 -/
def lw_okq (q : MethodName × Nat) : Prop := (q.1.cls ≠ "java/lang/invoke/MethodHandle" ∧ q.1.cls ≠ "java/lang/invoke/VarHandle") ∧ Cond.instantiable q.1.cls q.2 ∈ tables_1 ∧ Cond.privateMethod q.1 ∈ tables_1 ∧ Cond.instanceMethod q.1 ∈ tables_1
theorem lw_p0 : lw_okq (⟨"WebBank", "deny", "(I)Z"⟩, 18) := ⟨⟨by decide +kernel, by decide +kernel⟩, List.mem_of_getElem? (i := 21) (by decide +kernel), List.mem_of_getElem? (i := 487) (by decide +kernel), List.mem_of_getElem? (i := 488) (by decide +kernel)⟩
theorem lw_p1 : lw_okq (⟨"WebBank", "grant", "()Z"⟩, 18) := ⟨⟨by decide +kernel, by decide +kernel⟩, List.mem_of_getElem? (i := 21) (by decide +kernel), List.mem_of_getElem? (i := 496) (by decide +kernel), List.mem_of_getElem? (i := 497) (by decide +kernel)⟩
theorem lw_p2 : lw_okq (⟨"WebBank", "refuse", "(I)I"⟩, 18) := ⟨⟨by decide +kernel, by decide +kernel⟩, List.mem_of_getElem? (i := 21) (by decide +kernel), List.mem_of_getElem? (i := 527) (by decide +kernel), List.mem_of_getElem? (i := 528) (by decide +kernel)⟩
theorem lw_p3 : lw_okq (⟨"WebBank$Text", "scanToken", "(I)I"⟩, 17) := ⟨⟨by decide +kernel, by decide +kernel⟩, List.mem_of_getElem? (i := 49) (by decide +kernel), List.mem_of_getElem? (i := 572) (by decide +kernel), List.mem_of_getElem? (i := 573) (by decide +kernel)⟩
theorem lw_p4 : lw_okq (⟨"WebBank$Text", "isBlank", "(I)Z"⟩, 17) := ⟨⟨by decide +kernel, by decide +kernel⟩, List.mem_of_getElem? (i := 49) (by decide +kernel), List.mem_of_getElem? (i := 576) (by decide +kernel), List.mem_of_getElem? (i := 577) (by decide +kernel)⟩
theorem lw_p5 : lw_okq (⟨"WebBank$Text", "byteAt", "(I)I"⟩, 17) := ⟨⟨by decide +kernel, by decide +kernel⟩, List.mem_of_getElem? (i := 49) (by decide +kernel), List.mem_of_getElem? (i := 580) (by decide +kernel), List.mem_of_getElem? (i := 581) (by decide +kernel)⟩
theorem lw_p6 : lw_okq (⟨"WebBank$Text", "addToken", "(IIJ)V"⟩, 17) := ⟨⟨by decide +kernel, by decide +kernel⟩, List.mem_of_getElem? (i := 49) (by decide +kernel), List.mem_of_getElem? (i := 584) (by decide +kernel), List.mem_of_getElem? (i := 585) (by decide +kernel)⟩
theorem lw_p7 : lw_okq (⟨"WebBank$Text", "isLetter", "(I)Z"⟩, 17) := ⟨⟨by decide +kernel, by decide +kernel⟩, List.mem_of_getElem? (i := 49) (by decide +kernel), List.mem_of_getElem? (i := 588) (by decide +kernel), List.mem_of_getElem? (i := 589) (by decide +kernel)⟩
theorem lw_p8 : lw_okq (⟨"WebBank$Text", "scanWord", "(I)I"⟩, 17) := ⟨⟨by decide +kernel, by decide +kernel⟩, List.mem_of_getElem? (i := 49) (by decide +kernel), List.mem_of_getElem? (i := 592) (by decide +kernel), List.mem_of_getElem? (i := 593) (by decide +kernel)⟩
theorem lw_p9 : lw_okq (⟨"WebBank$Text", "knownWord", "(II)I"⟩, 17) := ⟨⟨by decide +kernel, by decide +kernel⟩, List.mem_of_getElem? (i := 49) (by decide +kernel), List.mem_of_getElem? (i := 597) (by decide +kernel), List.mem_of_getElem? (i := 598) (by decide +kernel)⟩
theorem lw_p10 : lw_okq (⟨"WebBank$Text", "isWritten", "(III)Z"⟩, 17) := ⟨⟨by decide +kernel, by decide +kernel⟩, List.mem_of_getElem? (i := 49) (by decide +kernel), List.mem_of_getElem? (i := 650) (by decide +kernel), List.mem_of_getElem? (i := 651) (by decide +kernel)⟩
theorem lw_p11 : lw_okq (⟨"WebBank$Text", "isDigit", "(I)Z"⟩, 17) := ⟨⟨by decide +kernel, by decide +kernel⟩, List.mem_of_getElem? (i := 49) (by decide +kernel), List.mem_of_getElem? (i := 654) (by decide +kernel), List.mem_of_getElem? (i := 655) (by decide +kernel)⟩
theorem lw_p12 : lw_okq (⟨"WebBank$Text", "scanNumber", "(I)I"⟩, 17) := ⟨⟨by decide +kernel, by decide +kernel⟩, List.mem_of_getElem? (i := 49) (by decide +kernel), List.mem_of_getElem? (i := 658) (by decide +kernel), List.mem_of_getElem? (i := 659) (by decide +kernel)⟩
theorem lw_p13 : lw_okq (⟨"WebBank$Text", "isSignAt", "(I)Z"⟩, 17) := ⟨⟨by decide +kernel, by decide +kernel⟩, List.mem_of_getElem? (i := 49) (by decide +kernel), List.mem_of_getElem? (i := 663) (by decide +kernel), List.mem_of_getElem? (i := 664) (by decide +kernel)⟩
theorem lw_p14 : lw_okq (⟨"WebBank$BankReader", "readPart", "()Z"⟩, 4) := ⟨⟨by decide +kernel, by decide +kernel⟩, List.mem_of_getElem? (i := 271) (by decide +kernel), List.mem_of_getElem? (i := 676) (by decide +kernel), List.mem_of_getElem? (i := 677) (by decide +kernel)⟩
theorem lw_p15 : lw_okq (⟨"WebBank$BankReader", "readOdds", "()Z"⟩, 4) := ⟨⟨by decide +kernel, by decide +kernel⟩, List.mem_of_getElem? (i := 271) (by decide +kernel), List.mem_of_getElem? (i := 680) (by decide +kernel), List.mem_of_getElem? (i := 681) (by decide +kernel)⟩
def lw_privs_1 : List (MethodName × Nat) := [(⟨"WebBank", "deny", "(I)Z"⟩, 18), (⟨"WebBank", "grant", "()Z"⟩, 18), (⟨"WebBank", "refuse", "(I)I"⟩, 18), (⟨"WebBank$Text", "scanToken", "(I)I"⟩, 17), (⟨"WebBank$Text", "isBlank", "(I)Z"⟩, 17), (⟨"WebBank$Text", "byteAt", "(I)I"⟩, 17), (⟨"WebBank$Text", "addToken", "(IIJ)V"⟩, 17), (⟨"WebBank$Text", "isLetter", "(I)Z"⟩, 17), (⟨"WebBank$Text", "scanWord", "(I)I"⟩, 17), (⟨"WebBank$Text", "knownWord", "(II)I"⟩, 17), (⟨"WebBank$Text", "isWritten", "(III)Z"⟩, 17), (⟨"WebBank$Text", "isDigit", "(I)Z"⟩, 17), (⟨"WebBank$Text", "scanNumber", "(I)I"⟩, 17), (⟨"WebBank$Text", "isSignAt", "(I)Z"⟩, 17), (⟨"WebBank$BankReader", "readPart", "()Z"⟩, 4), (⟨"WebBank$BankReader", "readOdds", "()Z"⟩, 4)]
theorem lw_r1 : ∀ q ∈ lw_privs_1, lw_okq q := List.forall_mem_cons.mpr ⟨lw_p0, List.forall_mem_cons.mpr ⟨lw_p1, List.forall_mem_cons.mpr ⟨lw_p2, List.forall_mem_cons.mpr ⟨lw_p3, List.forall_mem_cons.mpr ⟨lw_p4, List.forall_mem_cons.mpr ⟨lw_p5, List.forall_mem_cons.mpr ⟨lw_p6, List.forall_mem_cons.mpr ⟨lw_p7, List.forall_mem_cons.mpr ⟨lw_p8, List.forall_mem_cons.mpr ⟨lw_p9, List.forall_mem_cons.mpr ⟨lw_p10, List.forall_mem_cons.mpr ⟨lw_p11, List.forall_mem_cons.mpr ⟨lw_p12, List.forall_mem_cons.mpr ⟨lw_p13, List.forall_mem_cons.mpr ⟨lw_p14, List.forall_mem_cons.mpr ⟨lw_p15, fun _ h => absurd h List.not_mem_nil⟩⟩⟩⟩⟩⟩⟩⟩⟩⟩⟩⟩⟩⟩⟩⟩
theorem lw_p16 : lw_okq (⟨"WebBank$BankReader", "readCash", "()Z"⟩, 4) := ⟨⟨by decide +kernel, by decide +kernel⟩, List.mem_of_getElem? (i := 271) (by decide +kernel), List.mem_of_getElem? (i := 707) (by decide +kernel), List.mem_of_getElem? (i := 708) (by decide +kernel)⟩
theorem lw_p17 : lw_okq (⟨"WebBank$BankReader", "readCorner", "()Z"⟩, 4) := ⟨⟨by decide +kernel, by decide +kernel⟩, List.mem_of_getElem? (i := 271) (by decide +kernel), List.mem_of_getElem? (i := 711) (by decide +kernel), List.mem_of_getElem? (i := 712) (by decide +kernel)⟩
theorem lw_p18 : lw_okq (⟨"WebBank$BankReader", "readRank", "()Z"⟩, 4) := ⟨⟨by decide +kernel, by decide +kernel⟩, List.mem_of_getElem? (i := 271) (by decide +kernel), List.mem_of_getElem? (i := 723) (by decide +kernel), List.mem_of_getElem? (i := 724) (by decide +kernel)⟩
theorem lw_p19 : lw_okq (⟨"WebBank$BankReader", "readClerk", "()Z"⟩, 4) := ⟨⟨by decide +kernel, by decide +kernel⟩, List.mem_of_getElem? (i := 271) (by decide +kernel), List.mem_of_getElem? (i := 739) (by decide +kernel), List.mem_of_getElem? (i := 740) (by decide +kernel)⟩
theorem lw_p20 : lw_okq (⟨"WebBank$BankReader", "readTrait", "(II[II)Z"⟩, 4) := ⟨⟨by decide +kernel, by decide +kernel⟩, List.mem_of_getElem? (i := 271) (by decide +kernel), List.mem_of_getElem? (i := 763) (by decide +kernel), List.mem_of_getElem? (i := 764) (by decide +kernel)⟩
theorem lw_p21 : lw_okq (⟨"WebBank$BankReader", "readClient", "()Z"⟩, 4) := ⟨⟨by decide +kernel, by decide +kernel⟩, List.mem_of_getElem? (i := 271) (by decide +kernel), List.mem_of_getElem? (i := 767) (by decide +kernel), List.mem_of_getElem? (i := 768) (by decide +kernel)⟩
theorem lw_p22 : lw_okq (⟨"WebBank", "answer", "(I)I"⟩, 18) := ⟨⟨by decide +kernel, by decide +kernel⟩, List.mem_of_getElem? (i := 21) (by decide +kernel), List.mem_of_getElem? (i := 785) (by decide +kernel), List.mem_of_getElem? (i := 786) (by decide +kernel)⟩
theorem lw_p23 : lw_okq (⟨"WebBank$PlanReader", "readEnd", "()Z"⟩, 5) := ⟨⟨by decide +kernel, by decide +kernel⟩, List.mem_of_getElem? (i := 290) (by decide +kernel), List.mem_of_getElem? (i := 798) (by decide +kernel), List.mem_of_getElem? (i := 799) (by decide +kernel)⟩
theorem lw_p24 : lw_okq (⟨"WebBank$PlanReader", "readStep", "()Z"⟩, 5) := ⟨⟨by decide +kernel, by decide +kernel⟩, List.mem_of_getElem? (i := 290) (by decide +kernel), List.mem_of_getElem? (i := 813) (by decide +kernel), List.mem_of_getElem? (i := 814) (by decide +kernel)⟩
theorem lw_p25 : lw_okq (⟨"WebBank$PlanReader", "readRest", "(II)Z"⟩, 5) := ⟨⟨by decide +kernel, by decide +kernel⟩, List.mem_of_getElem? (i := 290) (by decide +kernel), List.mem_of_getElem? (i := 823) (by decide +kernel), List.mem_of_getElem? (i := 824) (by decide +kernel)⟩
theorem lw_p26 : lw_okq (⟨"WebBank$PlanReader", "readMuch", "(III)Z"⟩, 5) := ⟨⟨by decide +kernel, by decide +kernel⟩, List.mem_of_getElem? (i := 290) (by decide +kernel), List.mem_of_getElem? (i := 827) (by decide +kernel), List.mem_of_getElem? (i := 828) (by decide +kernel)⟩
theorem lw_p27 : lw_okq (⟨"WebBank$PlanReader", "readName", "([II)Z"⟩, 5) := ⟨⟨by decide +kernel, by decide +kernel⟩, List.mem_of_getElem? (i := 290) (by decide +kernel), List.mem_of_getElem? (i := 836) (by decide +kernel), List.mem_of_getElem? (i := 837) (by decide +kernel)⟩
theorem lw_p28 : lw_okq (⟨"WebBank$PlanReader", "readTest", "(I)Z"⟩, 5) := ⟨⟨by decide +kernel, by decide +kernel⟩, List.mem_of_getElem? (i := 290) (by decide +kernel), List.mem_of_getElem? (i := 843) (by decide +kernel), List.mem_of_getElem? (i := 844) (by decide +kernel)⟩
theorem lw_p29 : lw_okq (⟨"WebBank", "toldOf", "(I)I"⟩, 18) := ⟨⟨by decide +kernel, by decide +kernel⟩, List.mem_of_getElem? (i := 21) (by decide +kernel), List.mem_of_getElem? (i := 867) (by decide +kernel), List.mem_of_getElem? (i := 868) (by decide +kernel)⟩
theorem lw_p30 : lw_okq (⟨"WebBank$Bank", "totalOf", "([I)I"⟩, 19) := ⟨⟨by decide +kernel, by decide +kernel⟩, List.mem_of_getElem? (i := 117) (by decide +kernel), List.mem_of_getElem? (i := 875) (by decide +kernel), List.mem_of_getElem? (i := 876) (by decide +kernel)⟩
theorem lw_p31 : lw_okq (⟨"WebBank", "answerOrRefuse", "(II)I"⟩, 18) := ⟨⟨by decide +kernel, by decide +kernel⟩, List.mem_of_getElem? (i := 21) (by decide +kernel), List.mem_of_getElem? (i := 900) (by decide +kernel), List.mem_of_getElem? (i := 901) (by decide +kernel)⟩
def lw_privs_2 : List (MethodName × Nat) := [(⟨"WebBank$BankReader", "readCash", "()Z"⟩, 4), (⟨"WebBank$BankReader", "readCorner", "()Z"⟩, 4), (⟨"WebBank$BankReader", "readRank", "()Z"⟩, 4), (⟨"WebBank$BankReader", "readClerk", "()Z"⟩, 4), (⟨"WebBank$BankReader", "readTrait", "(II[II)Z"⟩, 4), (⟨"WebBank$BankReader", "readClient", "()Z"⟩, 4), (⟨"WebBank", "answer", "(I)I"⟩, 18), (⟨"WebBank$PlanReader", "readEnd", "()Z"⟩, 5), (⟨"WebBank$PlanReader", "readStep", "()Z"⟩, 5), (⟨"WebBank$PlanReader", "readRest", "(II)Z"⟩, 5), (⟨"WebBank$PlanReader", "readMuch", "(III)Z"⟩, 5), (⟨"WebBank$PlanReader", "readName", "([II)Z"⟩, 5), (⟨"WebBank$PlanReader", "readTest", "(I)Z"⟩, 5), (⟨"WebBank", "toldOf", "(I)I"⟩, 18), (⟨"WebBank$Bank", "totalOf", "([I)I"⟩, 19), (⟨"WebBank", "answerOrRefuse", "(II)I"⟩, 18)]
theorem lw_r2 : ∀ q ∈ lw_privs_2, lw_okq q := List.forall_mem_cons.mpr ⟨lw_p16, List.forall_mem_cons.mpr ⟨lw_p17, List.forall_mem_cons.mpr ⟨lw_p18, List.forall_mem_cons.mpr ⟨lw_p19, List.forall_mem_cons.mpr ⟨lw_p20, List.forall_mem_cons.mpr ⟨lw_p21, List.forall_mem_cons.mpr ⟨lw_p22, List.forall_mem_cons.mpr ⟨lw_p23, List.forall_mem_cons.mpr ⟨lw_p24, List.forall_mem_cons.mpr ⟨lw_p25, List.forall_mem_cons.mpr ⟨lw_p26, List.forall_mem_cons.mpr ⟨lw_p27, List.forall_mem_cons.mpr ⟨lw_p28, List.forall_mem_cons.mpr ⟨lw_p29, List.forall_mem_cons.mpr ⟨lw_p30, List.forall_mem_cons.mpr ⟨lw_p31, fun _ h => absurd h List.not_mem_nil⟩⟩⟩⟩⟩⟩⟩⟩⟩⟩⟩⟩⟩⟩⟩⟩
theorem lw_p32 : lw_okq (⟨"WebBank$Bank", "loseHalf", "(I)V"⟩, 19) := ⟨⟨by decide +kernel, by decide +kernel⟩, List.mem_of_getElem? (i := 117) (by decide +kernel), List.mem_of_getElem? (i := 983) (by decide +kernel), List.mem_of_getElem? (i := 984) (by decide +kernel)⟩
theorem lw_p33 : lw_okq (⟨"WebBank", "areTwo", "(II)Z"⟩, 18) := ⟨⟨by decide +kernel, by decide +kernel⟩, List.mem_of_getElem? (i := 21) (by decide +kernel), List.mem_of_getElem? (i := 991) (by decide +kernel), List.mem_of_getElem? (i := 992) (by decide +kernel)⟩
theorem lw_p34 : lw_okq (⟨"WebBank", "isYears", "(I)Z"⟩, 18) := ⟨⟨by decide +kernel, by decide +kernel⟩, List.mem_of_getElem? (i := 21) (by decide +kernel), List.mem_of_getElem? (i := 1058) (by decide +kernel), List.mem_of_getElem? (i := 1059) (by decide +kernel)⟩
theorem lw_p35 : lw_okq (⟨"WebBank$Seats", "fill", "(LWebBank$Bank;I)V"⟩, 1) := ⟨⟨by decide +kernel, by decide +kernel⟩, List.mem_of_getElem? (i := 357) (by decide +kernel), List.mem_of_getElem? (i := 1085) (by decide +kernel), List.mem_of_getElem? (i := 1086) (by decide +kernel)⟩
theorem lw_p36 : lw_okq (⟨"WebBank$Seats", "firstBest", "(LWebBank$Bank;III)I"⟩, 1) := ⟨⟨by decide +kernel, by decide +kernel⟩, List.mem_of_getElem? (i := 357) (by decide +kernel), List.mem_of_getElem? (i := 1095) (by decide +kernel), List.mem_of_getElem? (i := 1096) (by decide +kernel)⟩
theorem lw_p37 : lw_okq (⟨"WebBank$Seats", "greyWith", "(LWebBank$Bank;IIII)I"⟩, 1) := ⟨⟨by decide +kernel, by decide +kernel⟩, List.mem_of_getElem? (i := 357) (by decide +kernel), List.mem_of_getElem? (i := 1099) (by decide +kernel), List.mem_of_getElem? (i := 1100) (by decide +kernel)⟩
theorem lw_p38 : lw_okq (⟨"WebBank", "isSwapLiked", "(III)Z"⟩, 18) := ⟨⟨by decide +kernel, by decide +kernel⟩, List.mem_of_getElem? (i := 21) (by decide +kernel), List.mem_of_getElem? (i := 1120) (by decide +kernel), List.mem_of_getElem? (i := 1121) (by decide +kernel)⟩
theorem lw_p39 : lw_okq (⟨"WebBank", "soonestCorner", "(II)I"⟩, 18) := ⟨⟨by decide +kernel, by decide +kernel⟩, List.mem_of_getElem? (i := 21) (by decide +kernel), List.mem_of_getElem? (i := 1133) (by decide +kernel), List.mem_of_getElem? (i := 1134) (by decide +kernel)⟩
theorem lw_p40 : lw_okq (⟨"WebBank", "yearsTill", "(III)I"⟩, 18) := ⟨⟨by decide +kernel, by decide +kernel⟩, List.mem_of_getElem? (i := 21) (by decide +kernel), List.mem_of_getElem? (i := 1137) (by decide +kernel), List.mem_of_getElem? (i := 1138) (by decide +kernel)⟩
theorem lw_p41 : lw_okq (⟨"WebBank", "payOver", "(III)I"⟩, 18) := ⟨⟨by decide +kernel, by decide +kernel⟩, List.mem_of_getElem? (i := 21) (by decide +kernel), List.mem_of_getElem? (i := 1149) (by decide +kernel), List.mem_of_getElem? (i := 1150) (by decide +kernel)⟩
theorem lw_p42 : lw_okq (⟨"WebBank", "leastCalmed", "()I"⟩, 18) := ⟨⟨by decide +kernel, by decide +kernel⟩, List.mem_of_getElem? (i := 21) (by decide +kernel), List.mem_of_getElem? (i := 1205) (by decide +kernel), List.mem_of_getElem? (i := 1206) (by decide +kernel)⟩
theorem lw_p43 : lw_okq (⟨"WebBank", "waysOfShams", "(I)J"⟩, 18) := ⟨⟨by decide +kernel, by decide +kernel⟩, List.mem_of_getElem? (i := 21) (by decide +kernel), List.mem_of_getElem? (i := 1246) (by decide +kernel), List.mem_of_getElem? (i := 1247) (by decide +kernel)⟩
theorem lw_p44 : lw_okq (⟨"WebBank", "grantFraction", "(JJ)Z"⟩, 18) := ⟨⟨by decide +kernel, by decide +kernel⟩, List.mem_of_getElem? (i := 21) (by decide +kernel), List.mem_of_getElem? (i := 1253) (by decide +kernel), List.mem_of_getElem? (i := 1254) (by decide +kernel)⟩
theorem lw_p45 : lw_okq (⟨"WebBank$Life", "begin", "(I)V"⟩, 10) := ⟨⟨by decide +kernel, by decide +kernel⟩, List.mem_of_getElem? (i := 314) (by decide +kernel), List.mem_of_getElem? (i := 1277) (by decide +kernel), List.mem_of_getElem? (i := 1278) (by decide +kernel)⟩
theorem lw_p46 : lw_okq (⟨"WebBank$Life", "isRoundOver", "(LWebBank$Plan;I)Z"⟩, 10) := ⟨⟨by decide +kernel, by decide +kernel⟩, List.mem_of_getElem? (i := 314) (by decide +kernel), List.mem_of_getElem? (i := 1283) (by decide +kernel), List.mem_of_getElem? (i := 1284) (by decide +kernel)⟩
theorem lw_p47 : lw_okq (⟨"WebBank$Life", "behindRound", "(I)I"⟩, 10) := ⟨⟨by decide +kernel, by decide +kernel⟩, List.mem_of_getElem? (i := 314) (by decide +kernel), List.mem_of_getElem? (i := 1291) (by decide +kernel), List.mem_of_getElem? (i := 1292) (by decide +kernel)⟩
def lw_privs_3 : List (MethodName × Nat) := [(⟨"WebBank$Bank", "loseHalf", "(I)V"⟩, 19), (⟨"WebBank", "areTwo", "(II)Z"⟩, 18), (⟨"WebBank", "isYears", "(I)Z"⟩, 18), (⟨"WebBank$Seats", "fill", "(LWebBank$Bank;I)V"⟩, 1), (⟨"WebBank$Seats", "firstBest", "(LWebBank$Bank;III)I"⟩, 1), (⟨"WebBank$Seats", "greyWith", "(LWebBank$Bank;IIII)I"⟩, 1), (⟨"WebBank", "isSwapLiked", "(III)Z"⟩, 18), (⟨"WebBank", "soonestCorner", "(II)I"⟩, 18), (⟨"WebBank", "yearsTill", "(III)I"⟩, 18), (⟨"WebBank", "payOver", "(III)I"⟩, 18), (⟨"WebBank", "leastCalmed", "()I"⟩, 18), (⟨"WebBank", "waysOfShams", "(I)J"⟩, 18), (⟨"WebBank", "grantFraction", "(JJ)Z"⟩, 18), (⟨"WebBank$Life", "begin", "(I)V"⟩, 10), (⟨"WebBank$Life", "isRoundOver", "(LWebBank$Plan;I)Z"⟩, 10), (⟨"WebBank$Life", "behindRound", "(I)I"⟩, 10)]
theorem lw_r3 : ∀ q ∈ lw_privs_3, lw_okq q := List.forall_mem_cons.mpr ⟨lw_p32, List.forall_mem_cons.mpr ⟨lw_p33, List.forall_mem_cons.mpr ⟨lw_p34, List.forall_mem_cons.mpr ⟨lw_p35, List.forall_mem_cons.mpr ⟨lw_p36, List.forall_mem_cons.mpr ⟨lw_p37, List.forall_mem_cons.mpr ⟨lw_p38, List.forall_mem_cons.mpr ⟨lw_p39, List.forall_mem_cons.mpr ⟨lw_p40, List.forall_mem_cons.mpr ⟨lw_p41, List.forall_mem_cons.mpr ⟨lw_p42, List.forall_mem_cons.mpr ⟨lw_p43, List.forall_mem_cons.mpr ⟨lw_p44, List.forall_mem_cons.mpr ⟨lw_p45, List.forall_mem_cons.mpr ⟨lw_p46, List.forall_mem_cons.mpr ⟨lw_p47, fun _ h => absurd h List.not_mem_nil⟩⟩⟩⟩⟩⟩⟩⟩⟩⟩⟩⟩⟩⟩⟩⟩
theorem lw_p48 : lw_okq (⟨"WebBank$Life", "behindStep", "(LWebBank$Bank;LWebBank$Plan;I)I"⟩, 10) := ⟨⟨by decide +kernel, by decide +kernel⟩, List.mem_of_getElem? (i := 314) (by decide +kernel), List.mem_of_getElem? (i := 1295) (by decide +kernel), List.mem_of_getElem? (i := 1296) (by decide +kernel)⟩
theorem lw_p49 : lw_okq (⟨"WebBank$Life", "enterLoop", "(LWebBank$Plan;I)V"⟩, 10) := ⟨⟨by decide +kernel, by decide +kernel⟩, List.mem_of_getElem? (i := 314) (by decide +kernel), List.mem_of_getElem? (i := 1308) (by decide +kernel), List.mem_of_getElem? (i := 1309) (by decide +kernel)⟩
theorem lw_p50 : lw_okq (⟨"WebBank$Life", "dustOrWait", "(LWebBank$Bank;)Z"⟩, 10) := ⟨⟨by decide +kernel, by decide +kernel⟩, List.mem_of_getElem? (i := 314) (by decide +kernel), List.mem_of_getElem? (i := 1312) (by decide +kernel), List.mem_of_getElem? (i := 1313) (by decide +kernel)⟩
theorem lw_p51 : lw_okq (⟨"WebBank$Life", "drawBy", "(I)I"⟩, 10) := ⟨⟨by decide +kernel, by decide +kernel⟩, List.mem_of_getElem? (i := 314) (by decide +kernel), List.mem_of_getElem? (i := 1316) (by decide +kernel), List.mem_of_getElem? (i := 1317) (by decide +kernel)⟩
theorem lw_p52 : lw_okq (⟨"WebBank$Life", "act", "(LWebBank$Bank;LWebBank$Plan;I)Z"⟩, 10) := ⟨⟨by decide +kernel, by decide +kernel⟩, List.mem_of_getElem? (i := 314) (by decide +kernel), List.mem_of_getElem? (i := 1323) (by decide +kernel), List.mem_of_getElem? (i := 1324) (by decide +kernel)⟩
theorem lw_p53 : lw_okq (⟨"WebBank$Life", "payClients", "(LWebBank$Bank;)Z"⟩, 10) := ⟨⟨by decide +kernel, by decide +kernel⟩, List.mem_of_getElem? (i := 314) (by decide +kernel), List.mem_of_getElem? (i := 1331) (by decide +kernel), List.mem_of_getElem? (i := 1332) (by decide +kernel)⟩
theorem lw_p54 : lw_okq (⟨"WebBankModel", "plain", "(I)V"⟩, 40) := ⟨⟨by decide +kernel, by decide +kernel⟩, List.mem_of_getElem? (i := 1352) (by decide +kernel), List.mem_of_getElem? (i := 1358) (by decide +kernel), List.mem_of_getElem? (i := 1359) (by decide +kernel)⟩
theorem lw_p55 : lw_okq (⟨"WebBankModel", "is", "(I)Z"⟩, 40) := ⟨⟨by decide +kernel, by decide +kernel⟩, List.mem_of_getElem? (i := 1352) (by decide +kernel), List.mem_of_getElem? (i := 1503) (by decide +kernel), List.mem_of_getElem? (i := 1504) (by decide +kernel)⟩
theorem lw_p56 : lw_okq (⟨"WebBankModel", "wrongPlace", "(II)I"⟩, 40) := ⟨⟨by decide +kernel, by decide +kernel⟩, List.mem_of_getElem? (i := 1352) (by decide +kernel), List.mem_of_getElem? (i := 1511) (by decide +kernel), List.mem_of_getElem? (i := 1512) (by decide +kernel)⟩
theorem lw_p57 : lw_okq (⟨"WebBankModel", "four", "(I)V"⟩, 40) := ⟨⟨by decide +kernel, by decide +kernel⟩, List.mem_of_getElem? (i := 1352) (by decide +kernel), List.mem_of_getElem? (i := 1531) (by decide +kernel), List.mem_of_getElem? (i := 1532) (by decide +kernel)⟩
theorem lw_p58 : lw_okq (⟨"WebBankModel", "begins", "(II)Z"⟩, 40) := ⟨⟨by decide +kernel, by decide +kernel⟩, List.mem_of_getElem? (i := 1352) (by decide +kernel), List.mem_of_getElem? (i := 1543) (by decide +kernel), List.mem_of_getElem? (i := 1544) (by decide +kernel)⟩
theorem lw_p59 : lw_okq (⟨"WebBankModel", "ahead", "()V"⟩, 40) := ⟨⟨by decide +kernel, by decide +kernel⟩, List.mem_of_getElem? (i := 1352) (by decide +kernel), List.mem_of_getElem? (i := 1547) (by decide +kernel), List.mem_of_getElem? (i := 1548) (by decide +kernel)⟩
theorem lw_p60 : lw_okq (⟨"WebBankModel", "byteAt", "(I)I"⟩, 40) := ⟨⟨by decide +kernel, by decide +kernel⟩, List.mem_of_getElem? (i := 1352) (by decide +kernel), List.mem_of_getElem? (i := 1551) (by decide +kernel), List.mem_of_getElem? (i := 1552) (by decide +kernel)⟩
theorem lw_p61 : lw_okq (⟨"WebBankModel", "refuse", "(I)I"⟩, 40) := ⟨⟨by decide +kernel, by decide +kernel⟩, List.mem_of_getElem? (i := 1352) (by decide +kernel), List.mem_of_getElem? (i := 1563) (by decide +kernel), List.mem_of_getElem? (i := 1564) (by decide +kernel)⟩
theorem lw_p62 : lw_okq (⟨"WebBankModel", "bankPart", "()Z"⟩, 40) := ⟨⟨by decide +kernel, by decide +kernel⟩, List.mem_of_getElem? (i := 1352) (by decide +kernel), List.mem_of_getElem? (i := 1567) (by decide +kernel), List.mem_of_getElem? (i := 1568) (by decide +kernel)⟩
theorem lw_p63 : lw_okq (⟨"WebBankModel", "inWords", "(Ljava/lang/String;)I"⟩, 40) := ⟨⟨by decide +kernel, by decide +kernel⟩, List.mem_of_getElem? (i := 1352) (by decide +kernel), List.mem_of_getElem? (i := 1572) (by decide +kernel), List.mem_of_getElem? (i := 1573) (by decide +kernel)⟩
def lw_privs_4 : List (MethodName × Nat) := [(⟨"WebBank$Life", "behindStep", "(LWebBank$Bank;LWebBank$Plan;I)I"⟩, 10), (⟨"WebBank$Life", "enterLoop", "(LWebBank$Plan;I)V"⟩, 10), (⟨"WebBank$Life", "dustOrWait", "(LWebBank$Bank;)Z"⟩, 10), (⟨"WebBank$Life", "drawBy", "(I)I"⟩, 10), (⟨"WebBank$Life", "act", "(LWebBank$Bank;LWebBank$Plan;I)Z"⟩, 10), (⟨"WebBank$Life", "payClients", "(LWebBank$Bank;)Z"⟩, 10), (⟨"WebBankModel", "plain", "(I)V"⟩, 40), (⟨"WebBankModel", "is", "(I)Z"⟩, 40), (⟨"WebBankModel", "wrongPlace", "(II)I"⟩, 40), (⟨"WebBankModel", "four", "(I)V"⟩, 40), (⟨"WebBankModel", "begins", "(II)Z"⟩, 40), (⟨"WebBankModel", "ahead", "()V"⟩, 40), (⟨"WebBankModel", "byteAt", "(I)I"⟩, 40), (⟨"WebBankModel", "refuse", "(I)I"⟩, 40), (⟨"WebBankModel", "bankPart", "()Z"⟩, 40), (⟨"WebBankModel", "inWords", "(Ljava/lang/String;)I"⟩, 40)]
theorem lw_r4 : ∀ q ∈ lw_privs_4, lw_okq q := List.forall_mem_cons.mpr ⟨lw_p48, List.forall_mem_cons.mpr ⟨lw_p49, List.forall_mem_cons.mpr ⟨lw_p50, List.forall_mem_cons.mpr ⟨lw_p51, List.forall_mem_cons.mpr ⟨lw_p52, List.forall_mem_cons.mpr ⟨lw_p53, List.forall_mem_cons.mpr ⟨lw_p54, List.forall_mem_cons.mpr ⟨lw_p55, List.forall_mem_cons.mpr ⟨lw_p56, List.forall_mem_cons.mpr ⟨lw_p57, List.forall_mem_cons.mpr ⟨lw_p58, List.forall_mem_cons.mpr ⟨lw_p59, List.forall_mem_cons.mpr ⟨lw_p60, List.forall_mem_cons.mpr ⟨lw_p61, List.forall_mem_cons.mpr ⟨lw_p62, List.forall_mem_cons.mpr ⟨lw_p63, fun _ h => absurd h List.not_mem_nil⟩⟩⟩⟩⟩⟩⟩⟩⟩⟩⟩⟩⟩⟩⟩⟩
theorem lw_p64 : lw_okq (⟨"WebBankModel", "fails", "(I)Z"⟩, 40) := ⟨⟨by decide +kernel, by decide +kernel⟩, List.mem_of_getElem? (i := 1352) (by decide +kernel), List.mem_of_getElem? (i := 1578) (by decide +kernel), List.mem_of_getElem? (i := 1579) (by decide +kernel)⟩
theorem lw_p65 : lw_okq (⟨"WebBankModel", "number", "(III)Z"⟩, 40) := ⟨⟨by decide +kernel, by decide +kernel⟩, List.mem_of_getElem? (i := 1352) (by decide +kernel), List.mem_of_getElem? (i := 1582) (by decide +kernel), List.mem_of_getElem? (i := 1583) (by decide +kernel)⟩
theorem lw_p66 : lw_okq (⟨"WebBankModel", "aCorner", "()Z"⟩, 40) := ⟨⟨by decide +kernel, by decide +kernel⟩, List.mem_of_getElem? (i := 1352) (by decide +kernel), List.mem_of_getElem? (i := 1586) (by decide +kernel), List.mem_of_getElem? (i := 1587) (by decide +kernel)⟩
theorem lw_p67 : lw_okq (⟨"WebBankModel", "isFull", "(II)Z"⟩, 40) := ⟨⟨by decide +kernel, by decide +kernel⟩, List.mem_of_getElem? (i := 1352) (by decide +kernel), List.mem_of_getElem? (i := 1590) (by decide +kernel), List.mem_of_getElem? (i := 1591) (by decide +kernel)⟩
theorem lw_p68 : lw_okq (⟨"WebBankModel", "wantWord", "(Ljava/lang/String;I)Z"⟩, 40) := ⟨⟨by decide +kernel, by decide +kernel⟩, List.mem_of_getElem? (i := 1352) (by decide +kernel), List.mem_of_getElem? (i := 1594) (by decide +kernel), List.mem_of_getElem? (i := 1595) (by decide +kernel)⟩
theorem lw_p69 : lw_okq (⟨"WebBankModel", "aRank", "()Z"⟩, 40) := ⟨⟨by decide +kernel, by decide +kernel⟩, List.mem_of_getElem? (i := 1352) (by decide +kernel), List.mem_of_getElem? (i := 1598) (by decide +kernel), List.mem_of_getElem? (i := 1599) (by decide +kernel)⟩
theorem lw_p70 : lw_okq (⟨"WebBankModel", "aClerk", "()Z"⟩, 40) := ⟨⟨by decide +kernel, by decide +kernel⟩, List.mem_of_getElem? (i := 1352) (by decide +kernel), List.mem_of_getElem? (i := 1605) (by decide +kernel), List.mem_of_getElem? (i := 1606) (by decide +kernel)⟩
theorem lw_p71 : lw_okq (⟨"WebBankModel", "isName", "(Ljava/lang/String;)Z"⟩, 40) := ⟨⟨by decide +kernel, by decide +kernel⟩, List.mem_of_getElem? (i := 1352) (by decide +kernel), List.mem_of_getElem? (i := 1612) (by decide +kernel), List.mem_of_getElem? (i := 1613) (by decide +kernel)⟩
theorem lw_p72 : lw_okq (⟨"WebBankModel", "findHere", "(II)I"⟩, 40) := ⟨⟨by decide +kernel, by decide +kernel⟩, List.mem_of_getElem? (i := 1352) (by decide +kernel), List.mem_of_getElem? (i := 1616) (by decide +kernel), List.mem_of_getElem? (i := 1617) (by decide +kernel)⟩
theorem lw_p73 : lw_okq (⟨"WebBankModel", "nameHere", "()J"⟩, 40) := ⟨⟨by decide +kernel, by decide +kernel⟩, List.mem_of_getElem? (i := 1352) (by decide +kernel), List.mem_of_getElem? (i := 1620) (by decide +kernel), List.mem_of_getElem? (i := 1621) (by decide +kernel)⟩
theorem lw_p74 : lw_okq (⟨"WebBankModel", "sitterIn", "(II)I"⟩, 40) := ⟨⟨by decide +kernel, by decide +kernel⟩, List.mem_of_getElem? (i := 1352) (by decide +kernel), List.mem_of_getElem? (i := 1624) (by decide +kernel), List.mem_of_getElem? (i := 1625) (by decide +kernel)⟩
theorem lw_p75 : lw_okq (⟨"WebBankModel", "perhaps", "(IIIII)Z"⟩, 40) := ⟨⟨by decide +kernel, by decide +kernel⟩, List.mem_of_getElem? (i := 1352) (by decide +kernel), List.mem_of_getElem? (i := 1628) (by decide +kernel), List.mem_of_getElem? (i := 1629) (by decide +kernel)⟩
theorem lw_p76 : lw_okq (⟨"WebBankModel", "isThere", "(I)Z"⟩, 40) := ⟨⟨by decide +kernel, by decide +kernel⟩, List.mem_of_getElem? (i := 1352) (by decide +kernel), List.mem_of_getElem? (i := 1632) (by decide +kernel), List.mem_of_getElem? (i := 1633) (by decide +kernel)⟩
theorem lw_p77 : lw_okq (⟨"WebBankModel", "aClient", "()Z"⟩, 40) := ⟨⟨by decide +kernel, by decide +kernel⟩, List.mem_of_getElem? (i := 1352) (by decide +kernel), List.mem_of_getElem? (i := 1636) (by decide +kernel), List.mem_of_getElem? (i := 1637) (by decide +kernel)⟩
theorem lw_p78 : lw_okq (⟨"WebBankModel", "wantSign", "(I)Z"⟩, 40) := ⟨⟨by decide +kernel, by decide +kernel⟩, List.mem_of_getElem? (i := 1352) (by decide +kernel), List.mem_of_getElem? (i := 1643) (by decide +kernel), List.mem_of_getElem? (i := 1644) (by decide +kernel)⟩
theorem lw_p79 : lw_okq (⟨"WebBankModel", "isSign", "(I)Z"⟩, 40) := ⟨⟨by decide +kernel, by decide +kernel⟩, List.mem_of_getElem? (i := 1352) (by decide +kernel), List.mem_of_getElem? (i := 1647) (by decide +kernel), List.mem_of_getElem? (i := 1648) (by decide +kernel)⟩
def lw_privs_5 : List (MethodName × Nat) := [(⟨"WebBankModel", "fails", "(I)Z"⟩, 40), (⟨"WebBankModel", "number", "(III)Z"⟩, 40), (⟨"WebBankModel", "aCorner", "()Z"⟩, 40), (⟨"WebBankModel", "isFull", "(II)Z"⟩, 40), (⟨"WebBankModel", "wantWord", "(Ljava/lang/String;I)Z"⟩, 40), (⟨"WebBankModel", "aRank", "()Z"⟩, 40), (⟨"WebBankModel", "aClerk", "()Z"⟩, 40), (⟨"WebBankModel", "isName", "(Ljava/lang/String;)Z"⟩, 40), (⟨"WebBankModel", "findHere", "(II)I"⟩, 40), (⟨"WebBankModel", "nameHere", "()J"⟩, 40), (⟨"WebBankModel", "sitterIn", "(II)I"⟩, 40), (⟨"WebBankModel", "perhaps", "(IIIII)Z"⟩, 40), (⟨"WebBankModel", "isThere", "(I)Z"⟩, 40), (⟨"WebBankModel", "aClient", "()Z"⟩, 40), (⟨"WebBankModel", "wantSign", "(I)Z"⟩, 40), (⟨"WebBankModel", "isSign", "(I)Z"⟩, 40)]
theorem lw_r5 : ∀ q ∈ lw_privs_5, lw_okq q := List.forall_mem_cons.mpr ⟨lw_p64, List.forall_mem_cons.mpr ⟨lw_p65, List.forall_mem_cons.mpr ⟨lw_p66, List.forall_mem_cons.mpr ⟨lw_p67, List.forall_mem_cons.mpr ⟨lw_p68, List.forall_mem_cons.mpr ⟨lw_p69, List.forall_mem_cons.mpr ⟨lw_p70, List.forall_mem_cons.mpr ⟨lw_p71, List.forall_mem_cons.mpr ⟨lw_p72, List.forall_mem_cons.mpr ⟨lw_p73, List.forall_mem_cons.mpr ⟨lw_p74, List.forall_mem_cons.mpr ⟨lw_p75, List.forall_mem_cons.mpr ⟨lw_p76, List.forall_mem_cons.mpr ⟨lw_p77, List.forall_mem_cons.mpr ⟨lw_p78, List.forall_mem_cons.mpr ⟨lw_p79, fun _ h => absurd h List.not_mem_nil⟩⟩⟩⟩⟩⟩⟩⟩⟩⟩⟩⟩⟩⟩⟩⟩
theorem lw_p80 : lw_okq (⟨"WebBankModel", "taken", "(I)I"⟩, 40) := ⟨⟨by decide +kernel, by decide +kernel⟩, List.mem_of_getElem? (i := 1352) (by decide +kernel), List.mem_of_getElem? (i := 1651) (by decide +kernel), List.mem_of_getElem? (i := 1652) (by decide +kernel)⟩
theorem lw_p81 : lw_okq (⟨"WebBankModel", "gives", "(I)I"⟩, 40) := ⟨⟨by decide +kernel, by decide +kernel⟩, List.mem_of_getElem? (i := 1352) (by decide +kernel), List.mem_of_getElem? (i := 1655) (by decide +kernel), List.mem_of_getElem? (i := 1656) (by decide +kernel)⟩
theorem lw_p82 : lw_okq (⟨"WebBankModel", "decadeStep", "()Z"⟩, 40) := ⟨⟨by decide +kernel, by decide +kernel⟩, List.mem_of_getElem? (i := 1352) (by decide +kernel), List.mem_of_getElem? (i := 1663) (by decide +kernel), List.mem_of_getElem? (i := 1664) (by decide +kernel)⟩
theorem lw_p83 : lw_okq (⟨"WebBankModel", "decadeOrder", "(II)Z"⟩, 40) := ⟨⟨by decide +kernel, by decide +kernel⟩, List.mem_of_getElem? (i := 1352) (by decide +kernel), List.mem_of_getElem? (i := 1667) (by decide +kernel), List.mem_of_getElem? (i := 1668) (by decide +kernel)⟩
theorem lw_p84 : lw_okq (⟨"WebBankModel", "clerkTo", "(I)Z"⟩, 40) := ⟨⟨by decide +kernel, by decide +kernel⟩, List.mem_of_getElem? (i := 1352) (by decide +kernel), List.mem_of_getElem? (i := 1671) (by decide +kernel), List.mem_of_getElem? (i := 1672) (by decide +kernel)⟩
theorem lw_p85 : lw_okq (⟨"WebBankModel", "test", "(I)Z"⟩, 40) := ⟨⟨by decide +kernel, by decide +kernel⟩, List.mem_of_getElem? (i := 1352) (by decide +kernel), List.mem_of_getElem? (i := 1675) (by decide +kernel), List.mem_of_getElem? (i := 1676) (by decide +kernel)⟩
theorem lw_p86 : lw_okq (⟨"WebBankModel", "together", "(I)I"⟩, 40) := ⟨⟨by decide +kernel, by decide +kernel⟩, List.mem_of_getElem? (i := 1352) (by decide +kernel), List.mem_of_getElem? (i := 1683) (by decide +kernel), List.mem_of_getElem? (i := 1684) (by decide +kernel)⟩
theorem lw_p87 : lw_okq (⟨"WebBankModel", "clerkOf", "(II)I"⟩, 40) := ⟨⟨by decide +kernel, by decide +kernel⟩, List.mem_of_getElem? (i := 1352) (by decide +kernel), List.mem_of_getElem? (i := 1687) (by decide +kernel), List.mem_of_getElem? (i := 1688) (by decide +kernel)⟩
theorem lw_p88 : lw_okq (⟨"WebBankModel", "sumsOf", "(I)I"⟩, 40) := ⟨⟨by decide +kernel, by decide +kernel⟩, List.mem_of_getElem? (i := 1352) (by decide +kernel), List.mem_of_getElem? (i := 1691) (by decide +kernel), List.mem_of_getElem? (i := 1692) (by decide +kernel)⟩
theorem lw_p89 : lw_okq (⟨"WebBankModel", "isIn", "(II)Z"⟩, 40) := ⟨⟨by decide +kernel, by decide +kernel⟩, List.mem_of_getElem? (i := 1352) (by decide +kernel), List.mem_of_getElem? (i := 1695) (by decide +kernel), List.mem_of_getElem? (i := 1696) (by decide +kernel)⟩
theorem lw_p90 : lw_okq (⟨"WebBankModel", "isCorner", "(I)Z"⟩, 40) := ⟨⟨by decide +kernel, by decide +kernel⟩, List.mem_of_getElem? (i := 1352) (by decide +kernel), List.mem_of_getElem? (i := 1703) (by decide +kernel), List.mem_of_getElem? (i := 1704) (by decide +kernel)⟩
theorem lw_p91 : lw_okq (⟨"WebBankModel", "stillOf", "(I)I"⟩, 40) := ⟨⟨by decide +kernel, by decide +kernel⟩, List.mem_of_getElem? (i := 1352) (by decide +kernel), List.mem_of_getElem? (i := 1707) (by decide +kernel), List.mem_of_getElem? (i := 1708) (by decide +kernel)⟩
theorem lw_p92 : lw_okq (⟨"WebBankModel", "orNone", "(I)I"⟩, 40) := ⟨⟨by decide +kernel, by decide +kernel⟩, List.mem_of_getElem? (i := 1352) (by decide +kernel), List.mem_of_getElem? (i := 1711) (by decide +kernel), List.mem_of_getElem? (i := 1712) (by decide +kernel)⟩
theorem lw_p93 : lw_okq (⟨"WebBankModel", "isRank", "(I)Z"⟩, 40) := ⟨⟨by decide +kernel, by decide +kernel⟩, List.mem_of_getElem? (i := 1352) (by decide +kernel), List.mem_of_getElem? (i := 1719) (by decide +kernel), List.mem_of_getElem? (i := 1720) (by decide +kernel)⟩
theorem lw_p94 : lw_okq (⟨"WebBankModel", "ofRank", "(I)I"⟩, 40) := ⟨⟨by decide +kernel, by decide +kernel⟩, List.mem_of_getElem? (i := 1352) (by decide +kernel), List.mem_of_getElem? (i := 1723) (by decide +kernel), List.mem_of_getElem? (i := 1724) (by decide +kernel)⟩
theorem lw_p95 : lw_okq (⟨"WebBankModel", "looksOf", "(I)I"⟩, 40) := ⟨⟨by decide +kernel, by decide +kernel⟩, List.mem_of_getElem? (i := 1352) (by decide +kernel), List.mem_of_getElem? (i := 1727) (by decide +kernel), List.mem_of_getElem? (i := 1728) (by decide +kernel)⟩
def lw_privs_6 : List (MethodName × Nat) := [(⟨"WebBankModel", "taken", "(I)I"⟩, 40), (⟨"WebBankModel", "gives", "(I)I"⟩, 40), (⟨"WebBankModel", "decadeStep", "()Z"⟩, 40), (⟨"WebBankModel", "decadeOrder", "(II)Z"⟩, 40), (⟨"WebBankModel", "clerkTo", "(I)Z"⟩, 40), (⟨"WebBankModel", "test", "(I)Z"⟩, 40), (⟨"WebBankModel", "together", "(I)I"⟩, 40), (⟨"WebBankModel", "clerkOf", "(II)I"⟩, 40), (⟨"WebBankModel", "sumsOf", "(I)I"⟩, 40), (⟨"WebBankModel", "isIn", "(II)Z"⟩, 40), (⟨"WebBankModel", "isCorner", "(I)Z"⟩, 40), (⟨"WebBankModel", "stillOf", "(I)I"⟩, 40), (⟨"WebBankModel", "orNone", "(I)I"⟩, 40), (⟨"WebBankModel", "isRank", "(I)Z"⟩, 40), (⟨"WebBankModel", "ofRank", "(I)I"⟩, 40), (⟨"WebBankModel", "looksOf", "(I)I"⟩, 40)]
theorem lw_r6 : ∀ q ∈ lw_privs_6, lw_okq q := List.forall_mem_cons.mpr ⟨lw_p80, List.forall_mem_cons.mpr ⟨lw_p81, List.forall_mem_cons.mpr ⟨lw_p82, List.forall_mem_cons.mpr ⟨lw_p83, List.forall_mem_cons.mpr ⟨lw_p84, List.forall_mem_cons.mpr ⟨lw_p85, List.forall_mem_cons.mpr ⟨lw_p86, List.forall_mem_cons.mpr ⟨lw_p87, List.forall_mem_cons.mpr ⟨lw_p88, List.forall_mem_cons.mpr ⟨lw_p89, List.forall_mem_cons.mpr ⟨lw_p90, List.forall_mem_cons.mpr ⟨lw_p91, List.forall_mem_cons.mpr ⟨lw_p92, List.forall_mem_cons.mpr ⟨lw_p93, List.forall_mem_cons.mpr ⟨lw_p94, List.forall_mem_cons.mpr ⟨lw_p95, fun _ h => absurd h List.not_mem_nil⟩⟩⟩⟩⟩⟩⟩⟩⟩⟩⟩⟩⟩⟩⟩⟩
theorem lw_p96 : lw_okq (⟨"WebBankModel", "rankBy", "(I)I"⟩, 40) := ⟨⟨by decide +kernel, by decide +kernel⟩, List.mem_of_getElem? (i := 1352) (by decide +kernel), List.mem_of_getElem? (i := 1731) (by decide +kernel), List.mem_of_getElem? (i := 1732) (by decide +kernel)⟩
theorem lw_p97 : lw_okq (⟨"WebBankModel", "isClerk", "(I)Z"⟩, 40) := ⟨⟨by decide +kernel, by decide +kernel⟩, List.mem_of_getElem? (i := 1352) (by decide +kernel), List.mem_of_getElem? (i := 1739) (by decide +kernel), List.mem_of_getElem? (i := 1740) (by decide +kernel)⟩
theorem lw_p98 : lw_okq (⟨"WebBankModel", "yearsGo", "(I)I"⟩, 40) := ⟨⟨by decide +kernel, by decide +kernel⟩, List.mem_of_getElem? (i := 1352) (by decide +kernel), List.mem_of_getElem? (i := 1759) (by decide +kernel), List.mem_of_getElem? (i := 1760) (by decide +kernel)⟩
theorem lw_p99 : lw_okq (⟨"WebBankModel", "yearGoes", "()I"⟩, 40) := ⟨⟨by decide +kernel, by decide +kernel⟩, List.mem_of_getElem? (i := 1352) (by decide +kernel), List.mem_of_getElem? (i := 1763) (by decide +kernel), List.mem_of_getElem? (i := 1764) (by decide +kernel)⟩
theorem lw_p100 : lw_okq (⟨"WebBankModel", "payBy", "(I)I"⟩, 40) := ⟨⟨by decide +kernel, by decide +kernel⟩, List.mem_of_getElem? (i := 1352) (by decide +kernel), List.mem_of_getElem? (i := 1767) (by decide +kernel), List.mem_of_getElem? (i := 1768) (by decide +kernel)⟩
theorem lw_p101 : lw_okq (⟨"WebBankModel", "moves", "(II)Z"⟩, 40) := ⟨⟨by decide +kernel, by decide +kernel⟩, List.mem_of_getElem? (i := 1352) (by decide +kernel), List.mem_of_getElem? (i := 1775) (by decide +kernel), List.mem_of_getElem? (i := 1776) (by decide +kernel)⟩
theorem lw_p102 : lw_okq (⟨"WebBankModel", "sits", "(II)V"⟩, 40) := ⟨⟨by decide +kernel, by decide +kernel⟩, List.mem_of_getElem? (i := 1352) (by decide +kernel), List.mem_of_getElem? (i := 1779) (by decide +kernel), List.mem_of_getElem? (i := 1780) (by decide +kernel)⟩
theorem lw_p103 : lw_okq (⟨"WebBankModel", "swaps", "(II)Z"⟩, 40) := ⟨⟨by decide +kernel, by decide +kernel⟩, List.mem_of_getElem? (i := 1352) (by decide +kernel), List.mem_of_getElem? (i := 1787) (by decide +kernel), List.mem_of_getElem? (i := 1788) (by decide +kernel)⟩
theorem lw_p104 : lw_okq (⟨"WebBankModel", "fans", "(II)Z"⟩, 40) := ⟨⟨by decide +kernel, by decide +kernel⟩, List.mem_of_getElem? (i := 1352) (by decide +kernel), List.mem_of_getElem? (i := 1796) (by decide +kernel), List.mem_of_getElem? (i := 1797) (by decide +kernel)⟩
theorem lw_p105 : lw_okq (⟨"WebBankModel", "cleans", "(IZ)I"⟩, 40) := ⟨⟨by decide +kernel, by decide +kernel⟩, List.mem_of_getElem? (i := 1352) (by decide +kernel), List.mem_of_getElem? (i := 1804) (by decide +kernel), List.mem_of_getElem? (i := 1805) (by decide +kernel)⟩
theorem lw_p106 : lw_okq (⟨"WebBankModel", "coming", "(I)I"⟩, 40) := ⟨⟨by decide +kernel, by decide +kernel⟩, List.mem_of_getElem? (i := 1352) (by decide +kernel), List.mem_of_getElem? (i := 1816) (by decide +kernel), List.mem_of_getElem? (i := 1817) (by decide +kernel)⟩
theorem lw_p107 : lw_okq (⟨"WebBankModel", "pays", "(I)I"⟩, 40) := ⟨⟨by decide +kernel, by decide +kernel⟩, List.mem_of_getElem? (i := 1352) (by decide +kernel), List.mem_of_getElem? (i := 1820) (by decide +kernel), List.mem_of_getElem? (i := 1821) (by decide +kernel)⟩
theorem lw_p108 : lw_okq (⟨"WebBankModel", "leaves", "(I)V"⟩, 40) := ⟨⟨by decide +kernel, by decide +kernel⟩, List.mem_of_getElem? (i := 1352) (by decide +kernel), List.mem_of_getElem? (i := 1824) (by decide +kernel), List.mem_of_getElem? (i := 1825) (by decide +kernel)⟩
theorem lw_p109 : lw_okq (⟨"WebBankModel", "isAhead", "(II)Z"⟩, 40) := ⟨⟨by decide +kernel, by decide +kernel⟩, List.mem_of_getElem? (i := 1352) (by decide +kernel), List.mem_of_getElem? (i := 1852) (by decide +kernel), List.mem_of_getElem? (i := 1853) (by decide +kernel)⟩
theorem lw_p110 : lw_okq (⟨"WebBankModel", "greyThen", "(II)I"⟩, 40) := ⟨⟨by decide +kernel, by decide +kernel⟩, List.mem_of_getElem? (i := 1352) (by decide +kernel), List.mem_of_getElem? (i := 1857) (by decide +kernel), List.mem_of_getElem? (i := 1858) (by decide +kernel)⟩
theorem lw_p111 : lw_okq (⟨"WebBankModel", "greyBy", "(III)I"⟩, 40) := ⟨⟨by decide +kernel, by decide +kernel⟩, List.mem_of_getElem? (i := 1352) (by decide +kernel), List.mem_of_getElem? (i := 1861) (by decide +kernel), List.mem_of_getElem? (i := 1862) (by decide +kernel)⟩
def lw_privs_7 : List (MethodName × Nat) := [(⟨"WebBankModel", "rankBy", "(I)I"⟩, 40), (⟨"WebBankModel", "isClerk", "(I)Z"⟩, 40), (⟨"WebBankModel", "yearsGo", "(I)I"⟩, 40), (⟨"WebBankModel", "yearGoes", "()I"⟩, 40), (⟨"WebBankModel", "payBy", "(I)I"⟩, 40), (⟨"WebBankModel", "moves", "(II)Z"⟩, 40), (⟨"WebBankModel", "sits", "(II)V"⟩, 40), (⟨"WebBankModel", "swaps", "(II)Z"⟩, 40), (⟨"WebBankModel", "fans", "(II)Z"⟩, 40), (⟨"WebBankModel", "cleans", "(IZ)I"⟩, 40), (⟨"WebBankModel", "coming", "(I)I"⟩, 40), (⟨"WebBankModel", "pays", "(I)I"⟩, 40), (⟨"WebBankModel", "leaves", "(I)V"⟩, 40), (⟨"WebBankModel", "isAhead", "(II)Z"⟩, 40), (⟨"WebBankModel", "greyThen", "(II)I"⟩, 40), (⟨"WebBankModel", "greyBy", "(III)I"⟩, 40)]
theorem lw_r7 : ∀ q ∈ lw_privs_7, lw_okq q := List.forall_mem_cons.mpr ⟨lw_p96, List.forall_mem_cons.mpr ⟨lw_p97, List.forall_mem_cons.mpr ⟨lw_p98, List.forall_mem_cons.mpr ⟨lw_p99, List.forall_mem_cons.mpr ⟨lw_p100, List.forall_mem_cons.mpr ⟨lw_p101, List.forall_mem_cons.mpr ⟨lw_p102, List.forall_mem_cons.mpr ⟨lw_p103, List.forall_mem_cons.mpr ⟨lw_p104, List.forall_mem_cons.mpr ⟨lw_p105, List.forall_mem_cons.mpr ⟨lw_p106, List.forall_mem_cons.mpr ⟨lw_p107, List.forall_mem_cons.mpr ⟨lw_p108, List.forall_mem_cons.mpr ⟨lw_p109, List.forall_mem_cons.mpr ⟨lw_p110, List.forall_mem_cons.mpr ⟨lw_p111, fun _ h => absurd h List.not_mem_nil⟩⟩⟩⟩⟩⟩⟩⟩⟩⟩⟩⟩⟩⟩⟩⟩
theorem lw_p112 : lw_okq (⟨"WebBankModel", "looksThen", "(III)I"⟩, 40) := ⟨⟨by decide +kernel, by decide +kernel⟩, List.mem_of_getElem? (i := 1352) (by decide +kernel), List.mem_of_getElem? (i := 1869) (by decide +kernel), List.mem_of_getElem? (i := 1870) (by decide +kernel)⟩
theorem lw_p113 : lw_okq (⟨"WebBankModel", "keeps", "()V"⟩, 40) := ⟨⟨by decide +kernel, by decide +kernel⟩, List.mem_of_getElem? (i := 1352) (by decide +kernel), List.mem_of_getElem? (i := 1877) (by decide +kernel), List.mem_of_getElem? (i := 1878) (by decide +kernel)⟩
theorem lw_p114 : lw_okq (⟨"WebBankModel", "restores", "()V"⟩, 40) := ⟨⟨by decide +kernel, by decide +kernel⟩, List.mem_of_getElem? (i := 1352) (by decide +kernel), List.mem_of_getElem? (i := 1881) (by decide +kernel), List.mem_of_getElem? (i := 1882) (by decide +kernel)⟩
theorem lw_p115 : lw_okq (⟨"WebBankModel", "laysSeats", "(I)V"⟩, 40) := ⟨⟨by decide +kernel, by decide +kernel⟩, List.mem_of_getElem? (i := 1352) (by decide +kernel), List.mem_of_getElem? (i := 1893) (by decide +kernel), List.mem_of_getElem? (i := 1894) (by decide +kernel)⟩
theorem lw_p116 : lw_okq (⟨"WebBankModel", "greyAt", "(III)I"⟩, 40) := ⟨⟨by decide +kernel, by decide +kernel⟩, List.mem_of_getElem? (i := 1352) (by decide +kernel), List.mem_of_getElem? (i := 1900) (by decide +kernel), List.mem_of_getElem? (i := 1901) (by decide +kernel)⟩
theorem lw_p117 : lw_okq (⟨"WebBankModel", "isLikedBy", "(III)Z"⟩, 40) := ⟨⟨by decide +kernel, by decide +kernel⟩, List.mem_of_getElem? (i := 1352) (by decide +kernel), List.mem_of_getElem? (i := 1913) (by decide +kernel), List.mem_of_getElem? (i := 1914) (by decide +kernel)⟩
theorem lw_p118 : lw_okq (⟨"WebBankModel", "soonest", "(II)I"⟩, 40) := ⟨⟨by decide +kernel, by decide +kernel⟩, List.mem_of_getElem? (i := 1352) (by decide +kernel), List.mem_of_getElem? (i := 1925) (by decide +kernel), List.mem_of_getElem? (i := 1926) (by decide +kernel)⟩
theorem lw_p119 : lw_okq (⟨"WebBankModel", "yearsTo", "(IIII)I"⟩, 40) := ⟨⟨by decide +kernel, by decide +kernel⟩, List.mem_of_getElem? (i := 1352) (by decide +kernel), List.mem_of_getElem? (i := 1929) (by decide +kernel), List.mem_of_getElem? (i := 1930) (by decide +kernel)⟩
theorem lw_p120 : lw_okq (⟨"WebBankModel", "wrongSeen", "(II)I"⟩, 40) := ⟨⟨by decide +kernel, by decide +kernel⟩, List.mem_of_getElem? (i := 1352) (by decide +kernel), List.mem_of_getElem? (i := 1950) (by decide +kernel), List.mem_of_getElem? (i := 1951) (by decide +kernel)⟩
theorem lw_p121 : lw_okq (⟨"WebBankModel", "laysFits", "(II)I"⟩, 40) := ⟨⟨by decide +kernel, by decide +kernel⟩, List.mem_of_getElem? (i := 1352) (by decide +kernel), List.mem_of_getElem? (i := 1955) (by decide +kernel), List.mem_of_getElem? (i := 1956) (by decide +kernel)⟩
theorem lw_p122 : lw_okq (⟨"WebBankModel", "mostAlike", "(I)I"⟩, 40) := ⟨⟨by decide +kernel, by decide +kernel⟩, List.mem_of_getElem? (i := 1352) (by decide +kernel), List.mem_of_getElem? (i := 1970) (by decide +kernel), List.mem_of_getElem? (i := 1971) (by decide +kernel)⟩
theorem lw_p123 : lw_okq (⟨"WebBankModel", "calming", "()I"⟩, 40) := ⟨⟨by decide +kernel, by decide +kernel⟩, List.mem_of_getElem? (i := 1352) (by decide +kernel), List.mem_of_getElem? (i := 1986) (by decide +kernel), List.mem_of_getElem? (i := 1987) (by decide +kernel)⟩
theorem lw_p124 : lw_okq (⟨"WebBankModel", "playing", "(II)I"⟩, 40) := ⟨⟨by decide +kernel, by decide +kernel⟩, List.mem_of_getElem? (i := 1352) (by decide +kernel), List.mem_of_getElem? (i := 1999) (by decide +kernel), List.mem_of_getElem? (i := 2000) (by decide +kernel)⟩
theorem lw_p125 : lw_okq (⟨"WebBankModel", "asGrey", "(I)I"⟩, 40) := ⟨⟨by decide +kernel, by decide +kernel⟩, List.mem_of_getElem? (i := 1352) (by decide +kernel), List.mem_of_getElem? (i := 2003) (by decide +kernel), List.mem_of_getElem? (i := 2004) (by decide +kernel)⟩
theorem lw_p126 : lw_okq (⟨"WebBankModel", "beginsAt", "(I)V"⟩, 40) := ⟨⟨by decide +kernel, by decide +kernel⟩, List.mem_of_getElem? (i := 1352) (by decide +kernel), List.mem_of_getElem? (i := 2007) (by decide +kernel), List.mem_of_getElem? (i := 2008) (by decide +kernel)⟩
theorem lw_p127 : lw_okq (⟨"WebBankModel", "leavesOff", "(I)V"⟩, 40) := ⟨⟨by decide +kernel, by decide +kernel⟩, List.mem_of_getElem? (i := 1352) (by decide +kernel), List.mem_of_getElem? (i := 2011) (by decide +kernel), List.mem_of_getElem? (i := 2012) (by decide +kernel)⟩
def lw_privs_8 : List (MethodName × Nat) := [(⟨"WebBankModel", "looksThen", "(III)I"⟩, 40), (⟨"WebBankModel", "keeps", "()V"⟩, 40), (⟨"WebBankModel", "restores", "()V"⟩, 40), (⟨"WebBankModel", "laysSeats", "(I)V"⟩, 40), (⟨"WebBankModel", "greyAt", "(III)I"⟩, 40), (⟨"WebBankModel", "isLikedBy", "(III)Z"⟩, 40), (⟨"WebBankModel", "soonest", "(II)I"⟩, 40), (⟨"WebBankModel", "yearsTo", "(IIII)I"⟩, 40), (⟨"WebBankModel", "wrongSeen", "(II)I"⟩, 40), (⟨"WebBankModel", "laysFits", "(II)I"⟩, 40), (⟨"WebBankModel", "mostAlike", "(I)I"⟩, 40), (⟨"WebBankModel", "calming", "()I"⟩, 40), (⟨"WebBankModel", "playing", "(II)I"⟩, 40), (⟨"WebBankModel", "asGrey", "(I)I"⟩, 40), (⟨"WebBankModel", "beginsAt", "(I)V"⟩, 40), (⟨"WebBankModel", "leavesOff", "(I)V"⟩, 40)]
theorem lw_r8 : ∀ q ∈ lw_privs_8, lw_okq q := List.forall_mem_cons.mpr ⟨lw_p112, List.forall_mem_cons.mpr ⟨lw_p113, List.forall_mem_cons.mpr ⟨lw_p114, List.forall_mem_cons.mpr ⟨lw_p115, List.forall_mem_cons.mpr ⟨lw_p116, List.forall_mem_cons.mpr ⟨lw_p117, List.forall_mem_cons.mpr ⟨lw_p118, List.forall_mem_cons.mpr ⟨lw_p119, List.forall_mem_cons.mpr ⟨lw_p120, List.forall_mem_cons.mpr ⟨lw_p121, List.forall_mem_cons.mpr ⟨lw_p122, List.forall_mem_cons.mpr ⟨lw_p123, List.forall_mem_cons.mpr ⟨lw_p124, List.forall_mem_cons.mpr ⟨lw_p125, List.forall_mem_cons.mpr ⟨lw_p126, List.forall_mem_cons.mpr ⟨lw_p127, fun _ h => absurd h List.not_mem_nil⟩⟩⟩⟩⟩⟩⟩⟩⟩⟩⟩⟩⟩⟩⟩⟩
theorem lw_p128 : lw_okq (⟨"WebBankModel", "settles", "(II)V"⟩, 40) := ⟨⟨by decide +kernel, by decide +kernel⟩, List.mem_of_getElem? (i := 1352) (by decide +kernel), List.mem_of_getElem? (i := 2015) (by decide +kernel), List.mem_of_getElem? (i := 2016) (by decide +kernel)⟩
theorem lw_p129 : lw_okq (⟨"WebBankModel", "chooses", "(I)V"⟩, 40) := ⟨⟨by decide +kernel, by decide +kernel⟩, List.mem_of_getElem? (i := 1352) (by decide +kernel), List.mem_of_getElem? (i := 2019) (by decide +kernel), List.mem_of_getElem? (i := 2020) (by decide +kernel)⟩
theorem lw_p130 : lw_okq (⟨"WebBankModel", "tellsBy", "(JJ)Z"⟩, 40) := ⟨⟨by decide +kernel, by decide +kernel⟩, List.mem_of_getElem? (i := 1352) (by decide +kernel), List.mem_of_getElem? (i := 2032) (by decide +kernel), List.mem_of_getElem? (i := 2033) (by decide +kernel)⟩
theorem lw_p131 : lw_okq (⟨"WebBankModel", "lives", "(I)V"⟩, 40) := ⟨⟨by decide +kernel, by decide +kernel⟩, List.mem_of_getElem? (i := 1352) (by decide +kernel), List.mem_of_getElem? (i := 2048) (by decide +kernel), List.mem_of_getElem? (i := 2049) (by decide +kernel)⟩
theorem lw_p132 : lw_okq (⟨"WebBankModel", "does", "(I)Z"⟩, 40) := ⟨⟨by decide +kernel, by decide +kernel⟩, List.mem_of_getElem? (i := 1352) (by decide +kernel), List.mem_of_getElem? (i := 2052) (by decide +kernel), List.mem_of_getElem? (i := 2053) (by decide +kernel)⟩
theorem lw_p133 : lw_okq (⟨"WebBankModel", "yearsBy", "(I)Z"⟩, 40) := ⟨⟨by decide +kernel, by decide +kernel⟩, List.mem_of_getElem? (i := 1352) (by decide +kernel), List.mem_of_getElem? (i := 2056) (by decide +kernel), List.mem_of_getElem? (i := 2057) (by decide +kernel)⟩
theorem lw_p134 : lw_okq (⟨"WebBankModel", "runsBy", "()Z"⟩, 40) := ⟨⟨by decide +kernel, by decide +kernel⟩, List.mem_of_getElem? (i := 1352) (by decide +kernel), List.mem_of_getElem? (i := 2060) (by decide +kernel), List.mem_of_getElem? (i := 2061) (by decide +kernel)⟩
theorem lw_p135 : lw_okq (⟨"WebBankModel", "doesAny", "()Z"⟩, 40) := ⟨⟨by decide +kernel, by decide +kernel⟩, List.mem_of_getElem? (i := 1352) (by decide +kernel), List.mem_of_getElem? (i := 2064) (by decide +kernel), List.mem_of_getElem? (i := 2065) (by decide +kernel)⟩
theorem lw_p136 : lw_okq (⟨"WebBankModel", "draw", "(I)I"⟩, 40) := ⟨⟨by decide +kernel, by decide +kernel⟩, List.mem_of_getElem? (i := 1352) (by decide +kernel), List.mem_of_getElem? (i := 2068) (by decide +kernel), List.mem_of_getElem? (i := 2069) (by decide +kernel)⟩
theorem lw_p137 : lw_okq (⟨"WebBankModel", "holds", "(I)Z"⟩, 40) := ⟨⟨by decide +kernel, by decide +kernel⟩, List.mem_of_getElem? (i := 1352) (by decide +kernel), List.mem_of_getElem? (i := 2073) (by decide +kernel), List.mem_of_getElem? (i := 2074) (by decide +kernel)⟩
theorem lw_p138 : lw_okq (⟨"WebBankModel", "behindEnds", "(I)I"⟩, 40) := ⟨⟨by decide +kernel, by decide +kernel⟩, List.mem_of_getElem? (i := 1352) (by decide +kernel), List.mem_of_getElem? (i := 2077) (by decide +kernel), List.mem_of_getElem? (i := 2078) (by decide +kernel)⟩
theorem lw_p139 : lw_okq (⟨"WebBankModel", "copies", "(II)V"⟩, 40) := ⟨⟨by decide +kernel, by decide +kernel⟩, List.mem_of_getElem? (i := 1352) (by decide +kernel), List.mem_of_getElem? (i := 2093) (by decide +kernel), List.mem_of_getElem? (i := 2094) (by decide +kernel)⟩
def lw_privs_9 : List (MethodName × Nat) := [(⟨"WebBankModel", "settles", "(II)V"⟩, 40), (⟨"WebBankModel", "chooses", "(I)V"⟩, 40), (⟨"WebBankModel", "tellsBy", "(JJ)Z"⟩, 40), (⟨"WebBankModel", "lives", "(I)V"⟩, 40), (⟨"WebBankModel", "does", "(I)Z"⟩, 40), (⟨"WebBankModel", "yearsBy", "(I)Z"⟩, 40), (⟨"WebBankModel", "runsBy", "()Z"⟩, 40), (⟨"WebBankModel", "doesAny", "()Z"⟩, 40), (⟨"WebBankModel", "draw", "(I)I"⟩, 40), (⟨"WebBankModel", "holds", "(I)Z"⟩, 40), (⟨"WebBankModel", "behindEnds", "(I)I"⟩, 40), (⟨"WebBankModel", "copies", "(II)V"⟩, 40)]
theorem lw_r9 : ∀ q ∈ lw_privs_9, lw_okq q := List.forall_mem_cons.mpr ⟨lw_p128, List.forall_mem_cons.mpr ⟨lw_p129, List.forall_mem_cons.mpr ⟨lw_p130, List.forall_mem_cons.mpr ⟨lw_p131, List.forall_mem_cons.mpr ⟨lw_p132, List.forall_mem_cons.mpr ⟨lw_p133, List.forall_mem_cons.mpr ⟨lw_p134, List.forall_mem_cons.mpr ⟨lw_p135, List.forall_mem_cons.mpr ⟨lw_p136, List.forall_mem_cons.mpr ⟨lw_p137, List.forall_mem_cons.mpr ⟨lw_p138, List.forall_mem_cons.mpr ⟨lw_p139, fun _ h => absurd h List.not_mem_nil⟩⟩⟩⟩⟩⟩⟩⟩⟩⟩⟩⟩
def lw_privs : List (MethodName × Nat) := lw_privs_1 ++ (lw_privs_2 ++ (lw_privs_3 ++ (lw_privs_4 ++ (lw_privs_5 ++ (lw_privs_6 ++ (lw_privs_7 ++ (lw_privs_8 ++ (lw_privs_9))))))))
def lw_tbl : List Cond := k2_sels lw_privs ++ tables_1
theorem lw_privs_ok : ∀ q ∈ lw_privs, lw_okq q := by
  show ∀ q ∈ lw_privs_1 ++ (lw_privs_2 ++ (lw_privs_3 ++ (lw_privs_4 ++ (lw_privs_5 ++ (lw_privs_6 ++ (lw_privs_7 ++ (lw_privs_8 ++ (lw_privs_9)))))))), lw_okq q
  exact List.forall_mem_append.mpr ⟨lw_r1, List.forall_mem_append.mpr ⟨lw_r2, List.forall_mem_append.mpr ⟨lw_r3, List.forall_mem_append.mpr ⟨lw_r4, List.forall_mem_append.mpr ⟨lw_r5, List.forall_mem_append.mpr ⟨lw_r6, List.forall_mem_append.mpr ⟨lw_r7, List.forall_mem_append.mpr ⟨lw_r8, lw_r9⟩⟩⟩⟩⟩⟩⟩⟩
-- ===== end of PART A; then your names; then what follows =====
def RX0 : String := "WebBank$Bank"
def TX0 : u_T := fun k => match k with
  | 0 => ("WebBank$Bank", "odds", "I", false)
  | 1 => ("WebBank$Bank", "cash", "I", false)
  | 2 => ("WebBank$Bank", "year", "I", false)
  | 3 => ("WebBank$Bank", "corners", "I", false)
  | 4 => ("WebBank$Bank", "ranks", "I", false)
  | 5 => ("WebBank$Bank", "clerks", "I", false)
  | 6 => ("WebBank$Bank", "clients", "I", false)
  | 7 => ("WebBank$Bank", "still", "[I", true)
  | 8 => ("WebBank$Bank", "at", "[I", true)
  | 9 => ("WebBank$Bank", "pay", "[I", true)
  | 10 => ("WebBank$Bank", "name", "[J", true)
  | 11 => ("WebBank$Bank", "seat", "[I", true)
  | 12 => ("WebBank$Bank", "served", "[I", true)
  | 13 => ("WebBank$Bank", "grey", "[I", true)
  | 14 => ("WebBank$Bank", "sham", "[I", true)
  | 15 => ("WebBank$Bank", "paid", "[I", true)
  | 16 => ("WebBank$Bank", "unpaid", "[I", true)
  | 17 => ("WebBank$Bank", "sum", "[I", true)
  | _ => ("WebBank$Bank", "nerve", "[I", true)
def tyX0 : Nat → FieldType := fun k => match k with
  | 0 => .int
  | 1 => .int
  | 2 => .int
  | 3 => .int
  | 4 => .int
  | 5 => .int
  | 6 => .int
  | 7 => .array .int
  | 8 => .array .int
  | 9 => .array .int
  | 10 => .array .long
  | 11 => .array .int
  | 12 => .array .int
  | 13 => .array .int
  | 14 => .array .int
  | 15 => .array .int
  | 16 => .array .int
  | 17 => .array .int
  | _ => .array .int
abbrev wsX00 : List Cond := u_ws RX0 TX0 19
theorem nmX0 : ∀ a, a < 19 → ∀ b, b < 19 → a ≠ b → (TX0 a).2.1 ≠ (TX0 b).2.1 := by decide +kernel
theorem tyX0_ok : ∀ k, k < 19 → parseFieldDescriptor (TX0 k).2.2.1 = some (tyX0 k) := by decide +kernel
abbrev cX0_init : ByteArray := prog_2_method_1_code
def yX0_init : MethodName := ⟨RX0, "<init>", "()V"⟩
abbrev cX0_clear : ByteArray := prog_2_method_2_code
def yX0_clear : MethodName := ⟨RX0, "clear", "()V"⟩
abbrev cX0_copyFrom : ByteArray := prog_2_method_3_code
def yX0_copyFrom : MethodName := ⟨RX0, "copyFrom", "(LWebBank$Bank;)V"⟩
abbrev cX0_hasCorner : ByteArray := prog_2_method_4_code
def yX0_hasCorner : MethodName := ⟨RX0, "hasCorner", "(I)Z"⟩
abbrev cX0_hasRank : ByteArray := prog_2_method_5_code
def yX0_hasRank : MethodName := ⟨RX0, "hasRank", "(I)Z"⟩
abbrev cX0_hasClerk : ByteArray := prog_2_method_6_code
def yX0_hasClerk : MethodName := ⟨RX0, "hasClerk", "(I)Z"⟩
abbrev cX0_hasClient : ByteArray := prog_2_method_7_code
def yX0_hasClient : MethodName := ⟨RX0, "hasClient", "(I)Z"⟩
abbrev cX0_addCorner : ByteArray := prog_2_method_8_code
def yX0_addCorner : MethodName := ⟨RX0, "addCorner", "(I)V"⟩
abbrev cX0_leastNextAt : ByteArray := prog_2_method_9_code
def yX0_leastNextAt : MethodName := ⟨RX0, "leastNextAt", "()I"⟩
abbrev cX0_addRank : ByteArray := prog_2_method_10_code
def yX0_addRank : MethodName := ⟨RX0, "addRank", "(II)V"⟩
abbrev cX0_addClerk : ByteArray := prog_2_method_11_code
def yX0_addClerk : MethodName := ⟨RX0, "addClerk", "(JI)I"⟩
abbrev cX0_addClient : ByteArray := prog_2_method_12_code
def yX0_addClient : MethodName := ⟨RX0, "addClient", "(II)I"⟩
abbrev cX0_sitterIn : ByteArray := prog_2_method_13_code
def yX0_sitterIn : MethodName := ⟨RX0, "sitterIn", "(I)I"⟩
abbrev cX0_clerkNamed : ByteArray := prog_2_method_14_code
def yX0_clerkNamed : MethodName := ⟨RX0, "clerkNamed", "(J)I"⟩
abbrev cX0_looksOf : ByteArray := prog_2_method_15_code
def yX0_looksOf : MethodName := ⟨RX0, "looksOf", "(I)I"⟩
abbrev cX0_rankBy : ByteArray := prog_2_method_16_code
def yX0_rankBy : MethodName := ⟨RX0, "rankBy", "(I)I"⟩
abbrev cX0_payBy : ByteArray := prog_2_method_17_code
def yX0_payBy : MethodName := ⟨RX0, "payBy", "(I)I"⟩
abbrev cX0_clerksOfRank : ByteArray := prog_2_method_18_code
def yX0_clerksOfRank : MethodName := ⟨RX0, "clerksOfRank", "(I)I"⟩
abbrev cX0_greyOfAll : ByteArray := prog_2_method_19_code
def yX0_greyOfAll : MethodName := ⟨RX0, "greyOfAll", "()I"⟩
abbrev cX0_paidOfAll : ByteArray := prog_2_method_20_code
def yX0_paidOfAll : MethodName := ⟨RX0, "paidOfAll", "()I"⟩
abbrev cX0_unpaidOfAll : ByteArray := prog_2_method_21_code
def yX0_unpaidOfAll : MethodName := ⟨RX0, "unpaidOfAll", "()I"⟩
abbrev cX0_totalOf : ByteArray := prog_2_method_22_code
def yX0_totalOf : MethodName := ⟨RX0, "totalOf", "([I)I"⟩
abbrev cX0_greyStaying : ByteArray := prog_2_method_23_code
def yX0_greyStaying : MethodName := ⟨RX0, "greyStaying", "(II)I"⟩
abbrev cX0_greySeated : ByteArray := prog_2_method_24_code
def yX0_greySeated : MethodName := ⟨RX0, "greySeated", "(III)I"⟩
abbrev cX0_passYears : ByteArray := prog_2_method_25_code
def yX0_passYears : MethodName := ⟨RX0, "passYears", "(I)I"⟩
abbrev cX0_passYear : ByteArray := prog_2_method_26_code
def yX0_passYear : MethodName := ⟨RX0, "passYear", "()I"⟩
abbrev cX0_seatElsewhere : ByteArray := prog_2_method_27_code
def yX0_seatElsewhere : MethodName := ⟨RX0, "seatElsewhere", "(II)I"⟩
abbrev cX0_exchange : ByteArray := prog_2_method_28_code
def yX0_exchange : MethodName := ⟨RX0, "exchange", "(II)I"⟩
abbrev cX0_loseHalf : ByteArray := prog_2_method_29_code
def yX0_loseHalf : MethodName := ⟨RX0, "loseHalf", "(I)V"⟩
abbrev cX0_addSham : ByteArray := prog_2_method_30_code
def yX0_addSham : MethodName := ⟨RX0, "addSham", "(II)I"⟩
abbrev cX0_wipe : ByteArray := prog_2_method_31_code
def yX0_wipe : MethodName := ⟨RX0, "wipe", "(I)I"⟩
abbrev cX0_exposeSham : ByteArray := prog_2_method_32_code
def yX0_exposeSham : MethodName := ⟨RX0, "exposeSham", "(I)I"⟩
abbrev cX0_comingWithout : ByteArray := prog_2_method_33_code
def yX0_comingWithout : MethodName := ⟨RX0, "comingWithout", "(I)I"⟩
abbrev cX0_sumOf : ByteArray := prog_2_method_34_code
def yX0_sumOf : MethodName := ⟨RX0, "sumOf", "(I)I"⟩
abbrev cX0_payComing : ByteArray := prog_2_method_35_code
def yX0_payComing : MethodName := ⟨RX0, "payComing", "()I"⟩
def RX1 : String := "WebBank$BankReader"
def TX1 : u_T := fun k => match k with
  | 0 => ("WebBank$BankReader", "text", "LWebBank$Text;", true)
  | 1 => ("WebBank$BankReader", "bank", "LWebBank$Bank;", true)
  | 2 => ("WebBank$BankReader", "oddsTold", "Z", false)
  | _ => ("WebBank$BankReader", "cashTold", "Z", false)
def tyX1 : Nat → FieldType := fun k => match k with
  | 0 => .object "WebBank$Text"
  | 1 => .object "WebBank$Bank"
  | 2 => .boolean
  | _ => .boolean
abbrev wsX10 : List Cond := u_ws RX1 TX1 4
theorem nmX1 : ∀ a, a < 4 → ∀ b, b < 4 → a ≠ b → (TX1 a).2.1 ≠ (TX1 b).2.1 := by decide +kernel
theorem tyX1_ok : ∀ k, k < 4 → parseFieldDescriptor (TX1 k).2.2.1 = some (tyX1 k) := by decide +kernel
abbrev cX1_init : ByteArray := prog_3_method_1_code
def yX1_init : MethodName := ⟨RX1, "<init>", "(LWebBank$Text;LWebBank$Bank;)V"⟩
abbrev cX1_readParts : ByteArray := prog_3_method_2_code
def yX1_readParts : MethodName := ⟨RX1, "readParts", "()Z"⟩
abbrev cX1_readPart : ByteArray := prog_3_method_3_code
def yX1_readPart : MethodName := ⟨RX1, "readPart", "()Z"⟩
abbrev cX1_readOdds : ByteArray := prog_3_method_4_code
def yX1_readOdds : MethodName := ⟨RX1, "readOdds", "()Z"⟩
abbrev cX1_readCash : ByteArray := prog_3_method_5_code
def yX1_readCash : MethodName := ⟨RX1, "readCash", "()Z"⟩
abbrev cX1_readCorner : ByteArray := prog_3_method_6_code
def yX1_readCorner : MethodName := ⟨RX1, "readCorner", "()Z"⟩
abbrev cX1_readRank : ByteArray := prog_3_method_7_code
def yX1_readRank : MethodName := ⟨RX1, "readRank", "()Z"⟩
abbrev cX1_readClerk : ByteArray := prog_3_method_8_code
def yX1_readClerk : MethodName := ⟨RX1, "readClerk", "()Z"⟩
abbrev cX1_readTrait : ByteArray := prog_3_method_9_code
def yX1_readTrait : MethodName := ⟨RX1, "readTrait", "(II[II)Z"⟩
abbrev cX1_readClient : ByteArray := prog_3_method_10_code
def yX1_readClient : MethodName := ⟨RX1, "readClient", "()Z"⟩
def RX2 : String := "WebBank$Game"
def TX2 : u_T := fun k => match k with
  | 0 => ("WebBank$Game", "clerks", "I", false)
  | 1 => ("WebBank$Game", "turns", "I", false)
  | 2 => ("WebBank$Game", "untouched", "[I", true)
  | 3 => ("WebBank$Game", "given", "[I", true)
  | _ => ("WebBank$Game", "halved", "[I", true)
def tyX2 : Nat → FieldType := fun k => match k with
  | 0 => .int
  | 1 => .int
  | 2 => .array .int
  | 3 => .array .int
  | _ => .array .int
abbrev wsX20 : List Cond := u_ws RX2 TX2 5
theorem nmX2 : ∀ a, a < 5 → ∀ b, b < 5 → a ≠ b → (TX2 a).2.1 ≠ (TX2 b).2.1 := by decide +kernel
theorem tyX2_ok : ∀ k, k < 5 → parseFieldDescriptor (TX2 k).2.2.1 = some (tyX2 k) := by decide +kernel
abbrev cX2_init : ByteArray := prog_4_method_1_code
def yX2_init : MethodName := ⟨RX2, "<init>", "()V"⟩
abbrev cX2_prepare : ByteArray := prog_4_method_2_code
def yX2_prepare : MethodName := ⟨RX2, "prepare", "(LWebBank$Bank;II)V"⟩
abbrev cX2_isSittersTurn : ByteArray := prog_4_method_3_code
def yX2_isSittersTurn : MethodName := ⟨RX2, "isSittersTurn", "(I)Z"⟩
abbrev cX2_standing : ByteArray := prog_4_method_4_code
def yX2_standing : MethodName := ⟨RX2, "standing", "()I"⟩
abbrev cX2_gainBy : ByteArray := prog_4_method_5_code
def yX2_gainBy : MethodName := ⟨RX2, "gainBy", "(II)I"⟩
def RX3 : String := "WebBank$Life"
def TX3 : u_T := fun k => match k with
  | 0 => ("WebBank$Life", "steps", "I", false)
  | 1 => ("WebBank$Life", "missed", "I", false)
  | 2 => ("WebBank$Life", "years", "I", false)
  | 3 => ("WebBank$Life", "paidToClerks", "I", false)
  | 4 => ("WebBank$Life", "paidToClients", "I", false)
  | 5 => ("WebBank$Life", "isCut", "Z", false)
  | 6 => ("WebBank$Life", "seed", "I", false)
  | 7 => ("WebBank$Life", "open", "I", false)
  | 8 => ("WebBank$Life", "loops", "[I", true)
  | _ => ("WebBank$Life", "rounds", "[I", true)
def tyX3 : Nat → FieldType := fun k => match k with
  | 0 => .int
  | 1 => .int
  | 2 => .int
  | 3 => .int
  | 4 => .int
  | 5 => .boolean
  | 6 => .int
  | 7 => .int
  | 8 => .array .int
  | _ => .array .int
abbrev wsX30 : List Cond := u_ws RX3 TX3 10
theorem nmX3 : ∀ a, a < 10 → ∀ b, b < 10 → a ≠ b → (TX3 a).2.1 ≠ (TX3 b).2.1 := by decide +kernel
theorem tyX3_ok : ∀ k, k < 10 → parseFieldDescriptor (TX3 k).2.2.1 = some (tyX3 k) := by decide +kernel
abbrev cX3_init : ByteArray := prog_5_method_1_code
def yX3_init : MethodName := ⟨RX3, "<init>", "()V"⟩
abbrev cX3_goThrough : ByteArray := prog_5_method_2_code
def yX3_goThrough : MethodName := ⟨RX3, "goThrough", "(LWebBank$Bank;LWebBank$Plan;I)V"⟩
abbrev cX3_begin : ByteArray := prog_5_method_3_code
def yX3_begin : MethodName := ⟨RX3, "begin", "(I)V"⟩
abbrev cX3_isRoundOver : ByteArray := prog_5_method_4_code
def yX3_isRoundOver : MethodName := ⟨RX3, "isRoundOver", "(LWebBank$Plan;I)Z"⟩
abbrev cX3_behindRound : ByteArray := prog_5_method_5_code
def yX3_behindRound : MethodName := ⟨RX3, "behindRound", "(I)I"⟩
abbrev cX3_behindStep : ByteArray := prog_5_method_6_code
def yX3_behindStep : MethodName := ⟨RX3, "behindStep", "(LWebBank$Bank;LWebBank$Plan;I)I"⟩
abbrev cX3_enterLoop : ByteArray := prog_5_method_7_code
def yX3_enterLoop : MethodName := ⟨RX3, "enterLoop", "(LWebBank$Plan;I)V"⟩
abbrev cX3_holds : ByteArray := prog_5_method_8_code
def yX3_holds : MethodName := ⟨RX3, "holds", "(LWebBank$Bank;LWebBank$Plan;I)Z"⟩
abbrev cX3_foundBy : ByteArray := prog_5_method_9_code
def yX3_foundBy : MethodName := ⟨RX3, "foundBy", "(LWebBank$Bank;II)I"⟩
abbrev cX3_act : ByteArray := prog_5_method_10_code
def yX3_act : MethodName := ⟨RX3, "act", "(LWebBank$Bank;LWebBank$Plan;I)Z"⟩
abbrev cX3_payClients : ByteArray := prog_5_method_11_code
def yX3_payClients : MethodName := ⟨RX3, "payClients", "(LWebBank$Bank;)Z"⟩
abbrev cX3_dustOrWait : ByteArray := prog_5_method_12_code
def yX3_dustOrWait : MethodName := ⟨RX3, "dustOrWait", "(LWebBank$Bank;)Z"⟩
abbrev cX3_drawBy : ByteArray := prog_5_method_13_code
def yX3_drawBy : MethodName := ⟨RX3, "drawBy", "(I)I"⟩
def RX4 : String := "WebBank$Mark"
def TX4 : u_T := fun k => match k with
  | 0 => ("WebBank$Mark", "bank", "LWebBank$Bank;", true)
  | _ => ("WebBank$Mark", "plan", "LWebBank$Plan;", true)
def tyX4 : Nat → FieldType := fun k => match k with
  | 0 => .object "WebBank$Bank"
  | _ => .object "WebBank$Plan"
abbrev wsX40 : List Cond := u_ws RX4 TX4 2
theorem nmX4 : ∀ a, a < 2 → ∀ b, b < 2 → a ≠ b → (TX4 a).2.1 ≠ (TX4 b).2.1 := by decide +kernel
theorem tyX4_ok : ∀ k, k < 2 → parseFieldDescriptor (TX4 k).2.2.1 = some (tyX4 k) := by decide +kernel
abbrev cX4_init : ByteArray := prog_6_method_1_code
def yX4_init : MethodName := ⟨RX4, "<init>", "()V"⟩
def RX5 : String := "WebBank$Plan"
def TX5 : u_T := fun k => match k with
  | 0 => ("WebBank$Plan", "isThere", "Z", false)
  | 1 => ("WebBank$Plan", "steps", "I", false)
  | 2 => ("WebBank$Plan", "kind", "[I", true)
  | 3 => ("WebBank$Plan", "who", "[I", true)
  | 4 => ("WebBank$Plan", "other", "[I", true)
  | 5 => ("WebBank$Plan", "much", "[I", true)
  | 6 => ("WebBank$Plan", "test", "[I", true)
  | 7 => ("WebBank$Plan", "sign", "[I", true)
  | _ => ("WebBank$Plan", "close", "[I", true)
def tyX5 : Nat → FieldType := fun k => match k with
  | 0 => .boolean
  | 1 => .int
  | 2 => .array .int
  | 3 => .array .int
  | 4 => .array .int
  | 5 => .array .int
  | 6 => .array .int
  | 7 => .array .int
  | _ => .array .int
abbrev wsX50 : List Cond := u_ws RX5 TX5 9
theorem nmX5 : ∀ a, a < 9 → ∀ b, b < 9 → a ≠ b → (TX5 a).2.1 ≠ (TX5 b).2.1 := by decide +kernel
theorem tyX5_ok : ∀ k, k < 9 → parseFieldDescriptor (TX5 k).2.2.1 = some (tyX5 k) := by decide +kernel
abbrev cX5_init : ByteArray := prog_7_method_1_code
def yX5_init : MethodName := ⟨RX5, "<init>", "()V"⟩
abbrev cX5_clear : ByteArray := prog_7_method_2_code
def yX5_clear : MethodName := ⟨RX5, "clear", "()V"⟩
abbrev cX5_copyFrom : ByteArray := prog_7_method_3_code
def yX5_copyFrom : MethodName := ⟨RX5, "copyFrom", "(LWebBank$Plan;)V"⟩
abbrev cX5_hasStep : ByteArray := prog_7_method_4_code
def yX5_hasStep : MethodName := ⟨RX5, "hasStep", "(I)Z"⟩
abbrev cX5_addStep : ByteArray := prog_7_method_5_code
def yX5_addStep : MethodName := ⟨RX5, "addStep", "(I)I"⟩
abbrev cX5_closeHere : ByteArray := prog_7_method_6_code
def yX5_closeHere : MethodName := ⟨RX5, "closeHere", "(I)V"⟩
abbrev cX5_closeOf : ByteArray := prog_7_method_7_code
def yX5_closeOf : MethodName := ⟨RX5, "closeOf", "(I)I"⟩
def RX6 : String := "WebBank$PlanReader"
def TX6 : u_T := fun k => match k with
  | 0 => ("WebBank$PlanReader", "text", "LWebBank$Text;", true)
  | 1 => ("WebBank$PlanReader", "bank", "LWebBank$Bank;", true)
  | 2 => ("WebBank$PlanReader", "plan", "LWebBank$Plan;", true)
  | 3 => ("WebBank$PlanReader", "begun", "[I", true)
  | _ => ("WebBank$PlanReader", "depth", "I", false)
def tyX6 : Nat → FieldType := fun k => match k with
  | 0 => .object "WebBank$Text"
  | 1 => .object "WebBank$Bank"
  | 2 => .object "WebBank$Plan"
  | 3 => .array .int
  | _ => .int
abbrev wsX60 : List Cond := u_ws RX6 TX6 5
theorem nmX6 : ∀ a, a < 5 → ∀ b, b < 5 → a ≠ b → (TX6 a).2.1 ≠ (TX6 b).2.1 := by decide +kernel
theorem tyX6_ok : ∀ k, k < 5 → parseFieldDescriptor (TX6 k).2.2.1 = some (tyX6 k) := by decide +kernel
abbrev cX6_init : ByteArray := prog_8_method_1_code
def yX6_init : MethodName := ⟨RX6, "<init>", "(LWebBank$Text;LWebBank$Bank;LWebBank$Plan;)V"⟩
abbrev cX6_readSteps : ByteArray := prog_8_method_2_code
def yX6_readSteps : MethodName := ⟨RX6, "readSteps", "()Z"⟩
abbrev cX6_readEnd : ByteArray := prog_8_method_3_code
def yX6_readEnd : MethodName := ⟨RX6, "readEnd", "()Z"⟩
abbrev cX6_readStep : ByteArray := prog_8_method_4_code
def yX6_readStep : MethodName := ⟨RX6, "readStep", "()Z"⟩
abbrev cX6_readRest : ByteArray := prog_8_method_5_code
def yX6_readRest : MethodName := ⟨RX6, "readRest", "(II)Z"⟩
abbrev cX6_readMuch : ByteArray := prog_8_method_6_code
def yX6_readMuch : MethodName := ⟨RX6, "readMuch", "(III)Z"⟩
abbrev cX6_readName : ByteArray := prog_8_method_7_code
def yX6_readName : MethodName := ⟨RX6, "readName", "([II)Z"⟩
abbrev cX6_readTest : ByteArray := prog_8_method_8_code
def yX6_readTest : MethodName := ⟨RX6, "readTest", "(I)Z"⟩
abbrev cX6_mostTested : ByteArray := prog_8_method_9_code
def yX6_mostTested : MethodName := ⟨RX6, "mostTested", "(I)I"⟩
abbrev cX6_put : ByteArray := prog_8_method_10_code
def yX6_put : MethodName := ⟨RX6, "put", "([III)Z"⟩
def RX7 : String := "WebBank$Seats"
def TX7 : u_T := fun k => match k with
  | _ => ("WebBank$Seats", "most", "[I", true)
def tyX7 : Nat → FieldType := fun k => match k with
  | _ => .array .int
abbrev wsX70 : List Cond := u_ws RX7 TX7 1
theorem nmX7 : ∀ a, a < 1 → ∀ b, b < 1 → a ≠ b → (TX7 a).2.1 ≠ (TX7 b).2.1 := by decide +kernel
theorem tyX7_ok : ∀ k, k < 1 → parseFieldDescriptor (TX7 k).2.2.1 = some (tyX7 k) := by decide +kernel
abbrev cX7_init : ByteArray := prog_9_method_1_code
def yX7_init : MethodName := ⟨RX7, "<init>", "()V"⟩
abbrev cX7_mostGrey : ByteArray := prog_9_method_2_code
def yX7_mostGrey : MethodName := ⟨RX7, "mostGrey", "(LWebBank$Bank;I)I"⟩
abbrev cX7_bestSeat : ByteArray := prog_9_method_3_code
def yX7_bestSeat : MethodName := ⟨RX7, "bestSeat", "(LWebBank$Bank;II)I"⟩
abbrev cX7_fill : ByteArray := prog_9_method_4_code
def yX7_fill : MethodName := ⟨RX7, "fill", "(LWebBank$Bank;I)V"⟩
abbrev cX7_firstBest : ByteArray := prog_9_method_5_code
def yX7_firstBest : MethodName := ⟨RX7, "firstBest", "(LWebBank$Bank;III)I"⟩
abbrev cX7_greyWith : ByteArray := prog_9_method_6_code
def yX7_greyWith : MethodName := ⟨RX7, "greyWith", "(LWebBank$Bank;IIII)I"⟩
def RX8 : String := "WebBank$Text"
def TX8 : u_T := fun k => match k with
  | 0 => ("WebBank$Text", "filled", "I", false)
  | 1 => ("WebBank$Text", "kind", "I", false)
  | 2 => ("WebBank$Text", "word", "I", false)
  | 3 => ("WebBank$Text", "passed", "J", false)
  | 4 => ("WebBank$Text", "faultKind", "I", false)
  | 5 => ("WebBank$Text", "faultPlace", "I", false)
  | 6 => ("WebBank$Text", "length", "I", false)
  | 7 => ("WebBank$Text", "place", "I", false)
  | 8 => ("WebBank$Text", "value", "J", false)
  | 9 => ("WebBank$Text", "passedPlace", "I", false)
  | 10 => ("WebBank$Text", "tokens", "I", false)
  | 11 => ("WebBank$Text", "next", "I", false)
  | 12 => ("WebBank$Text", "isWhole", "Z", false)
  | 13 => ("WebBank$Text", "bytes", "[B", true)
  | 14 => ("WebBank$Text", "kinds", "[I", true)
  | 15 => ("WebBank$Text", "places", "[I", true)
  | _ => ("WebBank$Text", "values", "[J", true)
def tyX8 : Nat → FieldType := fun k => match k with
  | 0 => .int
  | 1 => .int
  | 2 => .int
  | 3 => .long
  | 4 => .int
  | 5 => .int
  | 6 => .int
  | 7 => .int
  | 8 => .long
  | 9 => .int
  | 10 => .int
  | 11 => .int
  | 12 => .boolean
  | 13 => .array .byte
  | 14 => .array .int
  | 15 => .array .int
  | _ => .array .long
abbrev wsX80 : List Cond := u_ws RX8 TX8 17
theorem nmX8 : ∀ a, a < 17 → ∀ b, b < 17 → a ≠ b → (TX8 a).2.1 ≠ (TX8 b).2.1 := by decide +kernel
theorem tyX8_ok : ∀ k, k < 17 → parseFieldDescriptor (TX8 k).2.2.1 = some (tyX8 k) := by decide +kernel
abbrev cX8_init : ByteArray := prog_10_method_1_code
def yX8_init : MethodName := ⟨RX8, "<init>", "()V"⟩
abbrev cX8_hasRoomFor : ByteArray := prog_10_method_2_code
def yX8_hasRoomFor : MethodName := ⟨RX8, "hasRoomFor", "(I)Z"⟩
abbrev cX8_append : ByteArray := prog_10_method_3_code
def yX8_append : MethodName := ⟨RX8, "append", "(I)V"⟩
abbrev cX8_begin : ByteArray := prog_10_method_4_code
def yX8_begin : MethodName := ⟨RX8, "begin", "(I)V"⟩
abbrev cX8_byteAt : ByteArray := prog_10_method_5_code
def yX8_byteAt : MethodName := ⟨RX8, "byteAt", "(I)I"⟩
abbrev cX8_isBlank : ByteArray := prog_10_method_6_code
def yX8_isBlank : MethodName := ⟨RX8, "isBlank", "(I)Z"⟩
abbrev cX8_isLetter : ByteArray := prog_10_method_7_code
def yX8_isLetter : MethodName := ⟨RX8, "isLetter", "(I)Z"⟩
abbrev cX8_isDigit : ByteArray := prog_10_method_8_code
def yX8_isDigit : MethodName := ⟨RX8, "isDigit", "(I)Z"⟩
abbrev cX8_isSignAt : ByteArray := prog_10_method_9_code
def yX8_isSignAt : MethodName := ⟨RX8, "isSignAt", "(I)Z"⟩
abbrev cX8_scanToken : ByteArray := prog_10_method_10_code
def yX8_scanToken : MethodName := ⟨RX8, "scanToken", "(I)I"⟩
abbrev cX8_scanWord : ByteArray := prog_10_method_11_code
def yX8_scanWord : MethodName := ⟨RX8, "scanWord", "(I)I"⟩
abbrev cX8_scanNumber : ByteArray := prog_10_method_12_code
def yX8_scanNumber : MethodName := ⟨RX8, "scanNumber", "(I)I"⟩
abbrev cX8_addToken : ByteArray := prog_10_method_13_code
def yX8_addToken : MethodName := ⟨RX8, "addToken", "(IIJ)V"⟩
abbrev cX8_knownWord : ByteArray := prog_10_method_14_code
def yX8_knownWord : MethodName := ⟨RX8, "knownWord", "(II)I"⟩
abbrev cX8_isWritten : ByteArray := prog_10_method_15_code
def yX8_isWritten : MethodName := ⟨RX8, "isWritten", "(III)Z"⟩
abbrev cX8_advance : ByteArray := prog_10_method_16_code
def yX8_advance : MethodName := ⟨RX8, "advance", "()V"⟩
abbrev cX8_fail : ByteArray := prog_10_method_17_code
def yX8_fail : MethodName := ⟨RX8, "fail", "(I)Z"⟩
abbrev cX8_failHere : ByteArray := prog_10_method_18_code
def yX8_failHere : MethodName := ⟨RX8, "failHere", "()Z"⟩
abbrev cX8_failPassed : ByteArray := prog_10_method_19_code
def yX8_failPassed : MethodName := ⟨RX8, "failPassed", "(I)Z"⟩
abbrev cX8_passWord : ByteArray := prog_10_method_20_code
def yX8_passWord : MethodName := ⟨RX8, "passWord", "(I)Z"⟩
abbrev cX8_passName : ByteArray := prog_10_method_21_code
def yX8_passName : MethodName := ⟨RX8, "passName", "()Z"⟩
abbrev cX8_passNumber : ByteArray := prog_10_method_22_code
def yX8_passNumber : MethodName := ⟨RX8, "passNumber", "(II)Z"⟩
abbrev cX8_passSemicolon : ByteArray := prog_10_method_23_code
def yX8_passSemicolon : MethodName := ⟨RX8, "passSemicolon", "()Z"⟩
abbrev cX8_passCompare : ByteArray := prog_10_method_24_code
def yX8_passCompare : MethodName := ⟨RX8, "passCompare", "()Z"⟩
abbrev cX8_passedNumber : ByteArray := prog_10_method_25_code
def yX8_passedNumber : MethodName := ⟨RX8, "passedNumber", "()I"⟩
def RX9 : String := "WebBank$Trays"
def TX9 : u_T := fun k => match k with
  | 0 => ("WebBank$Trays", "rows", "[[J", true)
  | 1 => ("WebBank$Trays", "sorts", "[I", true)
  | _ => ("WebBank$Trays", "sizes", "[I", true)
def tyX9 : Nat → FieldType := fun k => match k with
  | 0 => .array (.array .long)
  | 1 => .array .int
  | _ => .array .int
abbrev wsX90 : List Cond := u_ws RX9 TX9 3
theorem nmX9 : ∀ a, a < 3 → ∀ b, b < 3 → a ≠ b → (TX9 a).2.1 ≠ (TX9 b).2.1 := by decide +kernel
theorem tyX9_ok : ∀ k, k < 3 → parseFieldDescriptor (TX9 k).2.2.1 = some (tyX9 k) := by decide +kernel
abbrev cX9_init : ByteArray := prog_11_method_1_code
def yX9_init : MethodName := ⟨RX9, "<init>", "()V"⟩
abbrev cX9_isTray : ByteArray := prog_11_method_2_code
def yX9_isTray : MethodName := ⟨RX9, "isTray", "(I)Z"⟩
abbrev cX9_isThere : ByteArray := prog_11_method_3_code
def yX9_isThere : MethodName := ⟨RX9, "isThere", "(I)Z"⟩
abbrev cX9_areAlike : ByteArray := prog_11_method_4_code
def yX9_areAlike : MethodName := ⟨RX9, "areAlike", "(II)Z"⟩
abbrev cX9_hasFrom : ByteArray := prog_11_method_5_code
def yX9_hasFrom : MethodName := ⟨RX9, "hasFrom", "(III)Z"⟩
abbrev cX9_whyNot : ByteArray := prog_11_method_6_code
def yX9_whyNot : MethodName := ⟨RX9, "whyNot", "(II)I"⟩
abbrev cX9_lay : ByteArray := prog_11_method_7_code
def yX9_lay : MethodName := ⟨RX9, "lay", "(III)V"⟩
abbrev cX9_put : ByteArray := prog_11_method_8_code
def yX9_put : MethodName := ⟨RX9, "put", "(IIJ)V"⟩
abbrev cX9_at : ByteArray := prog_11_method_9_code
def yX9_at : MethodName := ⟨RX9, "at", "(II)J"⟩
abbrev cX9_shift : ByteArray := prog_11_method_10_code
def yX9_shift : MethodName := ⟨RX9, "shift", "(IIIII)V"⟩
abbrev cX9_cut : ByteArray := prog_11_method_11_code
def yX9_cut : MethodName := ⟨RX9, "cut", "(JI)J"⟩
abbrev cX9_whyNoTwos : ByteArray := prog_11_method_12_code
def yX9_whyNoTwos : MethodName := ⟨RX9, "whyNoTwos", "(II)I"⟩
abbrev cX9_fittingStills : ByteArray := prog_11_method_13_code
def yX9_fittingStills : MethodName := ⟨RX9, "fittingStills", "(II)I"⟩
def RX10 : String := "WebBank"
def TX10 : u_T := fun k => match k with
  | 0 => ("WebBank", "trays", "LWebBank$Trays;", true)
  | 1 => ("WebBank", "text", "LWebBank$Text;", true)
  | 2 => ("WebBank", "now", "LWebBank$Bank;", true)
  | 3 => ("WebBank", "spare", "LWebBank$Bank;", true)
  | 4 => ("WebBank", "plan", "LWebBank$Plan;", true)
  | 5 => ("WebBank", "sparePlan", "LWebBank$Plan;", true)
  | 6 => ("WebBank", "bankReader", "LWebBank$BankReader;", true)
  | 7 => ("WebBank", "planReader", "LWebBank$PlanReader;", true)
  | 8 => ("WebBank", "kept", "[LWebBank$Mark;", true)
  | 9 => ("WebBank", "latest", "LWebBank$Life;", true)
  | 10 => ("WebBank", "trial", "LWebBank$Life;", true)
  | 11 => ("WebBank", "seats", "LWebBank$Seats;", true)
  | 12 => ("WebBank", "board", "LWebBank$Game;", true)
  | 13 => ("WebBank", "marks", "I", false)
  | 14 => ("WebBank", "hasLived", "Z", false)
  | 15 => ("WebBank", "state", "I", false)
  | 16 => ("WebBank", "fractionTop", "J", false)
  | _ => ("WebBank", "fractionBottom", "J", false)
def tyX10 : Nat → FieldType := fun k => match k with
  | 0 => .object "WebBank$Trays"
  | 1 => .object "WebBank$Text"
  | 2 => .object "WebBank$Bank"
  | 3 => .object "WebBank$Bank"
  | 4 => .object "WebBank$Plan"
  | 5 => .object "WebBank$Plan"
  | 6 => .object "WebBank$BankReader"
  | 7 => .object "WebBank$PlanReader"
  | 8 => .array (.object "WebBank$Mark")
  | 9 => .object "WebBank$Life"
  | 10 => .object "WebBank$Life"
  | 11 => .object "WebBank$Seats"
  | 12 => .object "WebBank$Game"
  | 13 => .int
  | 14 => .boolean
  | 15 => .int
  | 16 => .long
  | _ => .long
abbrev wsX100 : List Cond := u_ws RX10 TX10 18
theorem nmX10 : ∀ a, a < 18 → ∀ b, b < 18 → a ≠ b → (TX10 a).2.1 ≠ (TX10 b).2.1 := by decide +kernel
theorem tyX10_ok : ∀ k, k < 18 → parseFieldDescriptor (TX10 k).2.2.1 = some (tyX10 k) := by decide +kernel
abbrev cX10_init : ByteArray := prog_1_method_1_code
def yX10_init : MethodName := ⟨RX10, "<init>", "()V"⟩
abbrev cX10_status : ByteArray := prog_1_method_2_code
def yX10_status : MethodName := ⟨RX10, "status", "()I"⟩
abbrev cX10_top : ByteArray := prog_1_method_3_code
def yX10_top : MethodName := ⟨RX10, "top", "()J"⟩
abbrev cX10_bottom : ByteArray := prog_1_method_4_code
def yX10_bottom : MethodName := ⟨RX10, "bottom", "()J"⟩
abbrev cX10_answer : ByteArray := prog_1_method_5_code
def yX10_answer : MethodName := ⟨RX10, "answer", "(I)I"⟩
abbrev cX10_refuse : ByteArray := prog_1_method_6_code
def yX10_refuse : MethodName := ⟨RX10, "refuse", "(I)I"⟩
abbrev cX10_answerOrRefuse : ByteArray := prog_1_method_7_code
def yX10_answerOrRefuse : MethodName := ⟨RX10, "answerOrRefuse", "(II)I"⟩
abbrev cX10_grant : ByteArray := prog_1_method_8_code
def yX10_grant : MethodName := ⟨RX10, "grant", "()Z"⟩
abbrev cX10_deny : ByteArray := prog_1_method_9_code
def yX10_deny : MethodName := ⟨RX10, "deny", "(I)Z"⟩
abbrev cX10_grantFraction : ByteArray := prog_1_method_10_code
def yX10_grantFraction : MethodName := ⟨RX10, "grantFraction", "(JJ)Z"⟩
abbrev cX10_commonDivisor : ByteArray := prog_1_method_11_code
def yX10_commonDivisor : MethodName := ⟨RX10, "commonDivisor", "(JJ)J"⟩
abbrev cX10_between : ByteArray := prog_1_method_12_code
def yX10_between : MethodName := ⟨RX10, "between", "(III)Z"⟩
abbrev cX10_isYears : ByteArray := prog_1_method_13_code
def yX10_isYears : MethodName := ⟨RX10, "isYears", "(I)Z"⟩
abbrev cX10_tray : ByteArray := prog_1_method_14_code
def yX10_tray : MethodName := ⟨RX10, "tray", "(III)Z"⟩
abbrev cX10_write : ByteArray := prog_1_method_15_code
def yX10_write : MethodName := ⟨RX10, "write", "(IIJ)Z"⟩
abbrev cX10_read : ByteArray := prog_1_method_16_code
def yX10_read : MethodName := ⟨RX10, "read", "(II)J"⟩
abbrev cX10_pour : ByteArray := prog_1_method_17_code
def yX10_pour : MethodName := ⟨RX10, "pour", "(IIIII)Z"⟩
abbrev cX10_feed : ByteArray := prog_1_method_18_code
def yX10_feed : MethodName := ⟨RX10, "feed", "(IIIII)I"⟩
abbrev cX10_bank : ByteArray := prog_1_method_19_code
def yX10_bank : MethodName := ⟨RX10, "bank", "(I)I"⟩
abbrev cX10_decades : ByteArray := prog_1_method_20_code
def yX10_decades : MethodName := ⟨RX10, "decades", "(I)I"⟩
abbrev cX10_fault : ByteArray := prog_1_method_21_code
def yX10_fault : MethodName := ⟨RX10, "fault", "(I)I"⟩
abbrev cX10_told : ByteArray := prog_1_method_22_code
def yX10_told : MethodName := ⟨RX10, "told", "(I)I"⟩
abbrev cX10_toldOf : ByteArray := prog_1_method_23_code
def yX10_toldOf : MethodName := ⟨RX10, "toldOf", "(I)I"⟩
abbrev cX10_corner : ByteArray := prog_1_method_24_code
def yX10_corner : MethodName := ⟨RX10, "corner", "(II)I"⟩
abbrev cX10_rank : ByteArray := prog_1_method_25_code
def yX10_rank : MethodName := ⟨RX10, "rank", "(II)I"⟩
abbrev cX10_clerk : ByteArray := prog_1_method_26_code
def yX10_clerk : MethodName := ⟨RX10, "clerk", "(II)I"⟩
abbrev cX10_rankOf : ByteArray := prog_1_method_27_code
def yX10_rankOf : MethodName := ⟨RX10, "rankOf", "(I)I"⟩
abbrev cX10_client : ByteArray := prog_1_method_28_code
def yX10_client : MethodName := ⟨RX10, "client", "(II)I"⟩
abbrev cX10_year : ByteArray := prog_1_method_29_code
def yX10_year : MethodName := ⟨RX10, "year", "(I)I"⟩
abbrev cX10_move : ByteArray := prog_1_method_30_code
def yX10_move : MethodName := ⟨RX10, "move", "(II)I"⟩
abbrev cX10_swap : ByteArray := prog_1_method_31_code
def yX10_swap : MethodName := ⟨RX10, "swap", "(II)I"⟩
abbrev cX10_areTwo : ByteArray := prog_1_method_32_code
def yX10_areTwo : MethodName := ⟨RX10, "areTwo", "(II)Z"⟩
abbrev cX10_fan : ByteArray := prog_1_method_33_code
def yX10_fan : MethodName := ⟨RX10, "fan", "(II)I"⟩
abbrev cX10_dust : ByteArray := prog_1_method_34_code
def yX10_dust : MethodName := ⟨RX10, "dust", "(I)I"⟩
abbrev cX10_look : ByteArray := prog_1_method_35_code
def yX10_look : MethodName := ⟨RX10, "look", "(I)I"⟩
abbrev cX10_run : ByteArray := prog_1_method_36_code
def yX10_run : MethodName := ⟨RX10, "run", "()I"⟩
abbrev cX10_hire : ByteArray := prog_1_method_37_code
def yX10_hire : MethodName := ⟨RX10, "hire", "(I)I"⟩
abbrev cX10_open : ByteArray := prog_1_method_38_code
def yX10_open : MethodName := ⟨RX10, "open", "(II)I"⟩
abbrev cX10_calm : ByteArray := prog_1_method_39_code
def yX10_calm : MethodName := ⟨RX10, "calm", "(II)I"⟩
abbrev cX10_rule : ByteArray := prog_1_method_40_code
def yX10_rule : MethodName := ⟨RX10, "rule", "(II)Z"⟩
abbrev cX10_greyIn : ByteArray := prog_1_method_41_code
def yX10_greyIn : MethodName := ⟨RX10, "greyIn", "(II)I"⟩
abbrev cX10_rankIn : ByteArray := prog_1_method_42_code
def yX10_rankIn : MethodName := ⟨RX10, "rankIn", "(II)I"⟩
abbrev cX10_unpaidIn : ByteArray := prog_1_method_43_code
def yX10_unpaidIn : MethodName := ⟨RX10, "unpaidIn", "()I"⟩
abbrev cX10_cashIn : ByteArray := prog_1_method_44_code
def yX10_cashIn : MethodName := ⟨RX10, "cashIn", "(I)I"⟩
abbrev cX10_seating : ByteArray := prog_1_method_45_code
def yX10_seating : MethodName := ⟨RX10, "seating", "(I)I"⟩
abbrev cX10_seatOf : ByteArray := prog_1_method_46_code
def yX10_seatOf : MethodName := ⟨RX10, "seatOf", "(II)I"⟩
abbrev cX10_liked : ByteArray := prog_1_method_47_code
def yX10_liked : MethodName := ⟨RX10, "liked", "(I)I"⟩
abbrev cX10_isLiked : ByteArray := prog_1_method_48_code
def yX10_isLiked : MethodName := ⟨RX10, "isLiked", "(III)I"⟩
abbrev cX10_isSwapLiked : ByteArray := prog_1_method_49_code
def yX10_isSwapLiked : MethodName := ⟨RX10, "isSwapLiked", "(III)Z"⟩
abbrev cX10_soon : ByteArray := prog_1_method_50_code
def yX10_soon : MethodName := ⟨RX10, "soon", "(II)I"⟩
abbrev cX10_soonAt : ByteArray := prog_1_method_51_code
def yX10_soonAt : MethodName := ⟨RX10, "soonAt", "(II)I"⟩
abbrev cX10_soonestCorner : ByteArray := prog_1_method_52_code
def yX10_soonestCorner : MethodName := ⟨RX10, "soonestCorner", "(II)I"⟩
abbrev cX10_yearsTill : ByteArray := prog_1_method_53_code
def yX10_yearsTill : MethodName := ⟨RX10, "yearsTill", "(III)I"⟩
abbrev cX10_worth : ByteArray := prog_1_method_54_code
def yX10_worth : MethodName := ⟨RX10, "worth", "(III)I"⟩
abbrev cX10_payOver : ByteArray := prog_1_method_55_code
def yX10_payOver : MethodName := ⟨RX10, "payOver", "(III)I"⟩
abbrev cX10_leastFan : ByteArray := prog_1_method_56_code
def yX10_leastFan : MethodName := ⟨RX10, "leastFan", "(II)I"⟩
abbrev cX10_fits : ByteArray := prog_1_method_57_code
def yX10_fits : MethodName := ⟨RX10, "fits", "(II)I"⟩
abbrev cX10_fitsAt : ByteArray := prog_1_method_58_code
def yX10_fitsAt : MethodName := ⟨RX10, "fitsAt", "(III)I"⟩
abbrev cX10_memberAt : ByteArray := prog_1_method_59_code
def yX10_memberAt : MethodName := ⟨RX10, "memberAt", "(II)I"⟩
abbrev cX10_ask : ByteArray := prog_1_method_60_code
def yX10_ask : MethodName := ⟨RX10, "ask", "(II)I"⟩
abbrev cX10_mostAlike : ByteArray := prog_1_method_61_code
def yX10_mostAlike : MethodName := ⟨RX10, "mostAlike", "(II)I"⟩
abbrev cX10_comes : ByteArray := prog_1_method_62_code
def yX10_comes : MethodName := ⟨RX10, "comes", "()I"⟩
abbrev cX10_comesFor : ByteArray := prog_1_method_63_code
def yX10_comesFor : MethodName := ⟨RX10, "comesFor", "()I"⟩
abbrev cX10_calms : ByteArray := prog_1_method_64_code
def yX10_calms : MethodName := ⟨RX10, "calms", "()I"⟩
abbrev cX10_calmSet : ByteArray := prog_1_method_65_code
def yX10_calmSet : MethodName := ⟨RX10, "calmSet", "()I"⟩
abbrev cX10_leastCalmed : ByteArray := prog_1_method_66_code
def yX10_leastCalmed : MethodName := ⟨RX10, "leastCalmed", "()I"⟩
abbrev cX10_game : ByteArray := prog_1_method_67_code
def yX10_game : MethodName := ⟨RX10, "game", "(II)I"⟩
abbrev cX10_who : ByteArray := prog_1_method_68_code
def yX10_who : MethodName := ⟨RX10, "who", "(II)I"⟩
abbrev cX10_gainFrom : ByteArray := prog_1_method_69_code
def yX10_gainFrom : MethodName := ⟨RX10, "gainFrom", "(LWebBank$Game;II)I"⟩
abbrev cX10_shams : ByteArray := prog_1_method_70_code
def yX10_shams : MethodName := ⟨RX10, "shams", "(I)Z"⟩
abbrev cX10_waysOfShams : ByteArray := prog_1_method_71_code
def yX10_waysOfShams : MethodName := ⟨RX10, "waysOfShams", "(I)J"⟩
abbrev cX10_power : ByteArray := prog_1_method_72_code
def yX10_power : MethodName := ⟨RX10, "power", "(II)J"⟩
abbrev cX10_share : ByteArray := prog_1_method_73_code
def yX10_share : MethodName := ⟨RX10, "share", "(I)Z"⟩
abbrev cX10_copyGrey : ByteArray := prog_1_method_74_code
def yX10_copyGrey : MethodName := ⟨RX10, "copyGrey", "(I)I"⟩
abbrev cX10_live : ByteArray := prog_1_method_75_code
def yX10_live : MethodName := ⟨RX10, "live", "(I)I"⟩
abbrev cX10_lived : ByteArray := prog_1_method_76_code
def yX10_lived : MethodName := ⟨RX10, "lived", "(I)I"⟩
abbrev cX10_mean : ByteArray := prog_1_method_77_code
def yX10_mean : MethodName := ⟨RX10, "mean", "(II)Z"⟩
abbrev cX10_mark : ByteArray := prog_1_method_78_code
def yX10_mark : MethodName := ⟨RX10, "mark", "()I"⟩
abbrev cX10_undo : ByteArray := prog_1_method_79_code
def yX10_undo : MethodName := ⟨RX10, "undo", "()I"⟩
abbrev cX10_looksBy : ByteArray := prog_1_method_80_code
def yX10_looksBy : MethodName := ⟨RX10, "looksBy", "(II)I"⟩
abbrev cX10_greyGrown : ByteArray := prog_1_method_81_code
def yX10_greyGrown : MethodName := ⟨RX10, "greyGrown", "(III)I"⟩
def RX11 : String := "WebBankModel"
def TX11 : u_T := fun k => match k with
  | 0 => ("WebBankModel", "at", "[I", true)
  | 1 => ("WebBankModel", "names", "[J", true)
  | 2 => ("WebBankModel", "status", "I", false)
  | 3 => ("WebBankModel", "top", "J", false)
  | 4 => ("WebBankModel", "bottom", "J", false)
  | 5 => ("WebBankModel", "sort", "[I", true)
  | 6 => ("WebBankModel", "trayMany", "[I", true)
  | 7 => ("WebBankModel", "trays", "[J", true)
  | 8 => ("WebBankModel", "tape", "[B", true)
  | 9 => ("WebBankModel", "text", "[B", true)
  | 10 => ("WebBankModel", "taped", "I", false)
  | 11 => ("WebBankModel", "size", "I", false)
  | 12 => ("WebBankModel", "token", "I", false)
  | 13 => ("WebBankModel", "from", "I", false)
  | 14 => ("WebBankModel", "end", "I", false)
  | 15 => ("WebBankModel", "value", "I", false)
  | 16 => ("WebBankModel", "faultKind", "I", false)
  | 17 => ("WebBankModel", "faultPlace", "I", false)
  | 18 => ("WebBankModel", "faults", "I", false)
  | 19 => ("WebBankModel", "seen", "I", false)
  | 20 => ("WebBankModel", "toldParts", "I", false)
  | 21 => ("WebBankModel", "opened", "[I", true)
  | 22 => ("WebBankModel", "depth", "I", false)
  | 23 => ("WebBankModel", "counted", "I", false)
  | 24 => ("WebBankModel", "seatBy", "[I", true)
  | 25 => ("WebBankModel", "soonCorner", "I", false)
  | 26 => ("WebBankModel", "fitsBy", "[Z", true)
  | 27 => ("WebBankModel", "doneAt", "[I", true)
  | 28 => ("WebBankModel", "oldAt", "[I", true)
  | 29 => ("WebBankModel", "gotAt", "[I", true)
  | 30 => ("WebBankModel", "bestDeed", "[I", true)
  | 31 => ("WebBankModel", "chosen", "I", false)
  | 32 => ("WebBankModel", "shamBy", "[J", true)
  | 33 => ("WebBankModel", "drawn", "I", false)
  | 34 => ("WebBankModel", "ranSteps", "I", false)
  | 35 => ("WebBankModel", "loops", "[I", true)
  | 36 => ("WebBankModel", "ran", "[I", true)
  | 37 => ("WebBankModel", "told1", "[I", true)
  | 38 => ("WebBankModel", "isTold", "Z", false)
  | _ => ("WebBankModel", "marks", "I", false)
def tyX11 : Nat → FieldType := fun k => match k with
  | 0 => .array .int
  | 1 => .array .long
  | 2 => .int
  | 3 => .long
  | 4 => .long
  | 5 => .array .int
  | 6 => .array .int
  | 7 => .array .long
  | 8 => .array .byte
  | 9 => .array .byte
  | 10 => .int
  | 11 => .int
  | 12 => .int
  | 13 => .int
  | 14 => .int
  | 15 => .int
  | 16 => .int
  | 17 => .int
  | 18 => .int
  | 19 => .int
  | 20 => .int
  | 21 => .array .int
  | 22 => .int
  | 23 => .int
  | 24 => .array .int
  | 25 => .int
  | 26 => .array .boolean
  | 27 => .array .int
  | 28 => .array .int
  | 29 => .array .int
  | 30 => .array .int
  | 31 => .int
  | 32 => .array .long
  | 33 => .int
  | 34 => .int
  | 35 => .array .int
  | 36 => .array .int
  | 37 => .array .int
  | 38 => .boolean
  | _ => .int
abbrev wsX110 : List Cond := u_ws RX11 TX11 40
theorem nmX11 : ∀ a, a < 40 → ∀ b, b < 40 → a ≠ b → (TX11 a).2.1 ≠ (TX11 b).2.1 := by decide +kernel
theorem tyX11_ok : ∀ k, k < 40 → parseFieldDescriptor (TX11 k).2.2.1 = some (tyX11 k) := by decide +kernel
abbrev cX11_init : ByteArray := prog_13_method_1_code
def yX11_init : MethodName := ⟨RX11, "<init>", "()V"⟩
abbrev cX11_plain : ByteArray := prog_13_method_2_code
def yX11_plain : MethodName := ⟨RX11, "plain", "(I)V"⟩
abbrev cX11_status : ByteArray := prog_13_method_3_code
def yX11_status : MethodName := ⟨RX11, "status", "()I"⟩
abbrev cX11_top : ByteArray := prog_13_method_4_code
def yX11_top : MethodName := ⟨RX11, "top", "()J"⟩
abbrev cX11_bottom : ByteArray := prog_13_method_5_code
def yX11_bottom : MethodName := ⟨RX11, "bottom", "()J"⟩
abbrev cX11_is : ByteArray := prog_13_method_6_code
def yX11_is : MethodName := ⟨RX11, "is", "(I)Z"⟩
abbrev cX11_refuse : ByteArray := prog_13_method_7_code
def yX11_refuse : MethodName := ⟨RX11, "refuse", "(I)I"⟩
abbrev cX11_gives : ByteArray := prog_13_method_8_code
def yX11_gives : MethodName := ⟨RX11, "gives", "(I)I"⟩
abbrev cX11_orNone : ByteArray := prog_13_method_9_code
def yX11_orNone : MethodName := ⟨RX11, "orNone", "(I)I"⟩
abbrev cX11_tellsBy : ByteArray := prog_13_method_10_code
def yX11_tellsBy : MethodName := ⟨RX11, "tellsBy", "(JJ)Z"⟩
abbrev cX11_isTray : ByteArray := prog_13_method_11_code
def yX11_isTray : MethodName := ⟨RX11, "isTray", "(I)Z"⟩
abbrev cX11_cut : ByteArray := prog_13_method_12_code
def yX11_cut : MethodName := ⟨RX11, "cut", "(JI)J"⟩
abbrev cX11_tray : ByteArray := prog_13_method_13_code
def yX11_tray : MethodName := ⟨RX11, "tray", "(III)Z"⟩
abbrev cX11_wrongPlace : ByteArray := prog_13_method_14_code
def yX11_wrongPlace : MethodName := ⟨RX11, "wrongPlace", "(II)I"⟩
abbrev cX11_write : ByteArray := prog_13_method_15_code
def yX11_write : MethodName := ⟨RX11, "write", "(IIJ)Z"⟩
abbrev cX11_read : ByteArray := prog_13_method_16_code
def yX11_read : MethodName := ⟨RX11, "read", "(II)J"⟩
abbrev cX11_pour : ByteArray := prog_13_method_17_code
def yX11_pour : MethodName := ⟨RX11, "pour", "(IIIII)Z"⟩
abbrev cX11_isFrom : ByteArray := prog_13_method_18_code
def yX11_isFrom : MethodName := ⟨RX11, "isFrom", "(JJJ)Z"⟩
abbrev cX11_feed : ByteArray := prog_13_method_19_code
def yX11_feed : MethodName := ⟨RX11, "feed", "(IIIII)I"⟩
abbrev cX11_four : ByteArray := prog_13_method_20_code
def yX11_four : MethodName := ⟨RX11, "four", "(I)V"⟩
abbrev cX11_byteAt : ByteArray := prog_13_method_21_code
def yX11_byteAt : MethodName := ⟨RX11, "byteAt", "(I)I"⟩
abbrev cX11_isSmall : ByteArray := prog_13_method_22_code
def yX11_isSmall : MethodName := ⟨RX11, "isSmall", "(I)Z"⟩
abbrev cX11_isDigit : ByteArray := prog_13_method_23_code
def yX11_isDigit : MethodName := ⟨RX11, "isDigit", "(I)Z"⟩
abbrev cX11_ahead : ByteArray := prog_13_method_24_code
def yX11_ahead : MethodName := ⟨RX11, "ahead", "()V"⟩
abbrev cX11_isSign : ByteArray := prog_13_method_25_code
def yX11_isSign : MethodName := ⟨RX11, "isSign", "(I)Z"⟩
abbrev cX11_inWords : ByteArray := prog_13_method_26_code
def yX11_inWords : MethodName := ⟨RX11, "inWords", "(Ljava/lang/String;)I"⟩
abbrev cX11_fails : ByteArray := prog_13_method_27_code
def yX11_fails : MethodName := ⟨RX11, "fails", "(I)Z"⟩
abbrev cX11_begins : ByteArray := prog_13_method_28_code
def yX11_begins : MethodName := ⟨RX11, "begins", "(II)Z"⟩
abbrev cX11_wantSign : ByteArray := prog_13_method_29_code
def yX11_wantSign : MethodName := ⟨RX11, "wantSign", "(I)Z"⟩
abbrev cX11_wantWord : ByteArray := prog_13_method_30_code
def yX11_wantWord : MethodName := ⟨RX11, "wantWord", "(Ljava/lang/String;I)Z"⟩
abbrev cX11_number : ByteArray := prog_13_method_31_code
def yX11_number : MethodName := ⟨RX11, "number", "(III)Z"⟩
abbrev cX11_isName : ByteArray := prog_13_method_32_code
def yX11_isName : MethodName := ⟨RX11, "isName", "(Ljava/lang/String;)Z"⟩
abbrev cX11_nameHere : ByteArray := prog_13_method_33_code
def yX11_nameHere : MethodName := ⟨RX11, "nameHere", "()J"⟩
abbrev cX11_findHere : ByteArray := prog_13_method_34_code
def yX11_findHere : MethodName := ⟨RX11, "findHere", "(II)I"⟩
abbrev cX11_fault : ByteArray := prog_13_method_35_code
def yX11_fault : MethodName := ⟨RX11, "fault", "(I)I"⟩
abbrev cX11_taken : ByteArray := prog_13_method_36_code
def yX11_taken : MethodName := ⟨RX11, "taken", "(I)I"⟩
abbrev cX11_rankRow : ByteArray := prog_13_method_37_code
def yX11_rankRow : MethodName := ⟨RX11, "rankRow", "(I)I"⟩
abbrev cX11_clerkRow : ByteArray := prog_13_method_38_code
def yX11_clerkRow : MethodName := ⟨RX11, "clerkRow", "(I)I"⟩
abbrev cX11_clientRow : ByteArray := prog_13_method_39_code
def yX11_clientRow : MethodName := ⟨RX11, "clientRow", "(I)I"⟩
abbrev cX11_isIn : ByteArray := prog_13_method_40_code
def yX11_isIn : MethodName := ⟨RX11, "isIn", "(II)Z"⟩
abbrev cX11_isThere : ByteArray := prog_13_method_41_code
def yX11_isThere : MethodName := ⟨RX11, "isThere", "(I)Z"⟩
abbrev cX11_perhaps : ByteArray := prog_13_method_42_code
def yX11_perhaps : MethodName := ⟨RX11, "perhaps", "(IIIII)Z"⟩
abbrev cX11_isFull : ByteArray := prog_13_method_43_code
def yX11_isFull : MethodName := ⟨RX11, "isFull", "(II)Z"⟩
abbrev cX11_sitterIn : ByteArray := prog_13_method_44_code
def yX11_sitterIn : MethodName := ⟨RX11, "sitterIn", "(II)I"⟩
abbrev cX11_aCorner : ByteArray := prog_13_method_45_code
def yX11_aCorner : MethodName := ⟨RX11, "aCorner", "()Z"⟩
abbrev cX11_aRank : ByteArray := prog_13_method_46_code
def yX11_aRank : MethodName := ⟨RX11, "aRank", "()Z"⟩
abbrev cX11_aClerk : ByteArray := prog_13_method_47_code
def yX11_aClerk : MethodName := ⟨RX11, "aClerk", "()Z"⟩
abbrev cX11_aClient : ByteArray := prog_13_method_48_code
def yX11_aClient : MethodName := ⟨RX11, "aClient", "()Z"⟩
abbrev cX11_bankPart : ByteArray := prog_13_method_49_code
def yX11_bankPart : MethodName := ⟨RX11, "bankPart", "()Z"⟩
abbrev cX11_bank : ByteArray := prog_13_method_50_code
def yX11_bank : MethodName := ⟨RX11, "bank", "(I)I"⟩
abbrev cX11_clerkTo : ByteArray := prog_13_method_51_code
def yX11_clerkTo : MethodName := ⟨RX11, "clerkTo", "(I)Z"⟩
abbrev cX11_test : ByteArray := prog_13_method_52_code
def yX11_test : MethodName := ⟨RX11, "test", "(I)Z"⟩
abbrev cX11_decadeOrder : ByteArray := prog_13_method_53_code
def yX11_decadeOrder : MethodName := ⟨RX11, "decadeOrder", "(II)Z"⟩
abbrev cX11_decadeStep : ByteArray := prog_13_method_54_code
def yX11_decadeStep : MethodName := ⟨RX11, "decadeStep", "()Z"⟩
abbrev cX11_decades : ByteArray := prog_13_method_55_code
def yX11_decades : MethodName := ⟨RX11, "decades", "(I)I"⟩
abbrev cX11_isCorner : ByteArray := prog_13_method_56_code
def yX11_isCorner : MethodName := ⟨RX11, "isCorner", "(I)Z"⟩
abbrev cX11_isRank : ByteArray := prog_13_method_57_code
def yX11_isRank : MethodName := ⟨RX11, "isRank", "(I)Z"⟩
abbrev cX11_isClerk : ByteArray := prog_13_method_58_code
def yX11_isClerk : MethodName := ⟨RX11, "isClerk", "(I)Z"⟩
abbrev cX11_bits : ByteArray := prog_13_method_59_code
def yX11_bits : MethodName := ⟨RX11, "bits", "(I)I"⟩
abbrev cX11_stillOf : ByteArray := prog_13_method_60_code
def yX11_stillOf : MethodName := ⟨RX11, "stillOf", "(I)I"⟩
abbrev cX11_clerkOf : ByteArray := prog_13_method_61_code
def yX11_clerkOf : MethodName := ⟨RX11, "clerkOf", "(II)I"⟩
abbrev cX11_looksOf : ByteArray := prog_13_method_62_code
def yX11_looksOf : MethodName := ⟨RX11, "looksOf", "(I)I"⟩
abbrev cX11_rankBy : ByteArray := prog_13_method_63_code
def yX11_rankBy : MethodName := ⟨RX11, "rankBy", "(I)I"⟩
abbrev cX11_payBy : ByteArray := prog_13_method_64_code
def yX11_payBy : MethodName := ⟨RX11, "payBy", "(I)I"⟩
abbrev cX11_together : ByteArray := prog_13_method_65_code
def yX11_together : MethodName := ⟨RX11, "together", "(I)I"⟩
abbrev cX11_sumsOf : ByteArray := prog_13_method_66_code
def yX11_sumsOf : MethodName := ⟨RX11, "sumsOf", "(I)I"⟩
abbrev cX11_told : ByteArray := prog_13_method_67_code
def yX11_told : MethodName := ⟨RX11, "told", "(I)I"⟩
abbrev cX11_corner : ByteArray := prog_13_method_68_code
def yX11_corner : MethodName := ⟨RX11, "corner", "(II)I"⟩
abbrev cX11_ofRank : ByteArray := prog_13_method_69_code
def yX11_ofRank : MethodName := ⟨RX11, "ofRank", "(I)I"⟩
abbrev cX11_rank : ByteArray := prog_13_method_70_code
def yX11_rank : MethodName := ⟨RX11, "rank", "(II)I"⟩
abbrev cX11_clerk : ByteArray := prog_13_method_71_code
def yX11_clerk : MethodName := ⟨RX11, "clerk", "(II)I"⟩
abbrev cX11_rankOf : ByteArray := prog_13_method_72_code
def yX11_rankOf : MethodName := ⟨RX11, "rankOf", "(I)I"⟩
abbrev cX11_client : ByteArray := prog_13_method_73_code
def yX11_client : MethodName := ⟨RX11, "client", "(II)I"⟩
abbrev cX11_yearGoes : ByteArray := prog_13_method_74_code
def yX11_yearGoes : MethodName := ⟨RX11, "yearGoes", "()I"⟩
abbrev cX11_yearsGo : ByteArray := prog_13_method_75_code
def yX11_yearsGo : MethodName := ⟨RX11, "yearsGo", "(I)I"⟩
abbrev cX11_year : ByteArray := prog_13_method_76_code
def yX11_year : MethodName := ⟨RX11, "year", "(I)I"⟩
abbrev cX11_sits : ByteArray := prog_13_method_77_code
def yX11_sits : MethodName := ⟨RX11, "sits", "(II)V"⟩
abbrev cX11_moves : ByteArray := prog_13_method_78_code
def yX11_moves : MethodName := ⟨RX11, "moves", "(II)Z"⟩
abbrev cX11_move : ByteArray := prog_13_method_79_code
def yX11_move : MethodName := ⟨RX11, "move", "(II)I"⟩
abbrev cX11_swaps : ByteArray := prog_13_method_80_code
def yX11_swaps : MethodName := ⟨RX11, "swaps", "(II)Z"⟩
abbrev cX11_swap : ByteArray := prog_13_method_81_code
def yX11_swap : MethodName := ⟨RX11, "swap", "(II)I"⟩
abbrev cX11_fans : ByteArray := prog_13_method_82_code
def yX11_fans : MethodName := ⟨RX11, "fans", "(II)Z"⟩
abbrev cX11_fan : ByteArray := prog_13_method_83_code
def yX11_fan : MethodName := ⟨RX11, "fan", "(II)I"⟩
abbrev cX11_cleans : ByteArray := prog_13_method_84_code
def yX11_cleans : MethodName := ⟨RX11, "cleans", "(IZ)I"⟩
abbrev cX11_dust : ByteArray := prog_13_method_85_code
def yX11_dust : MethodName := ⟨RX11, "dust", "(I)I"⟩
abbrev cX11_look : ByteArray := prog_13_method_86_code
def yX11_look : MethodName := ⟨RX11, "look", "(I)I"⟩
abbrev cX11_coming : ByteArray := prog_13_method_87_code
def yX11_coming : MethodName := ⟨RX11, "coming", "(I)I"⟩
abbrev cX11_leaves : ByteArray := prog_13_method_88_code
def yX11_leaves : MethodName := ⟨RX11, "leaves", "(I)V"⟩
abbrev cX11_pays : ByteArray := prog_13_method_89_code
def yX11_pays : MethodName := ⟨RX11, "pays", "(I)I"⟩
abbrev cX11_run : ByteArray := prog_13_method_90_code
def yX11_run : MethodName := ⟨RX11, "run", "()I"⟩
abbrev cX11_hire : ByteArray := prog_13_method_91_code
def yX11_hire : MethodName := ⟨RX11, "hire", "(I)I"⟩
abbrev cX11_open : ByteArray := prog_13_method_92_code
def yX11_open : MethodName := ⟨RX11, "open", "(II)I"⟩
abbrev cX11_calm : ByteArray := prog_13_method_93_code
def yX11_calm : MethodName := ⟨RX11, "calm", "(II)I"⟩
abbrev cX11_rule : ByteArray := prog_13_method_94_code
def yX11_rule : MethodName := ⟨RX11, "rule", "(II)Z"⟩
abbrev cX11_greyBy : ByteArray := prog_13_method_95_code
def yX11_greyBy : MethodName := ⟨RX11, "greyBy", "(III)I"⟩
abbrev cX11_greyThen : ByteArray := prog_13_method_96_code
def yX11_greyThen : MethodName := ⟨RX11, "greyThen", "(II)I"⟩
abbrev cX11_looksThen : ByteArray := prog_13_method_97_code
def yX11_looksThen : MethodName := ⟨RX11, "looksThen", "(III)I"⟩
abbrev cX11_isAhead : ByteArray := prog_13_method_98_code
def yX11_isAhead : MethodName := ⟨RX11, "isAhead", "(II)Z"⟩
abbrev cX11_greyIn : ByteArray := prog_13_method_99_code
def yX11_greyIn : MethodName := ⟨RX11, "greyIn", "(II)I"⟩
abbrev cX11_rankIn : ByteArray := prog_13_method_100_code
def yX11_rankIn : MethodName := ⟨RX11, "rankIn", "(II)I"⟩
abbrev cX11_keeps : ByteArray := prog_13_method_101_code
def yX11_keeps : MethodName := ⟨RX11, "keeps", "()V"⟩
abbrev cX11_restores : ByteArray := prog_13_method_102_code
def yX11_restores : MethodName := ⟨RX11, "restores", "()V"⟩
abbrev cX11_unpaidIn : ByteArray := prog_13_method_103_code
def yX11_unpaidIn : MethodName := ⟨RX11, "unpaidIn", "()I"⟩
abbrev cX11_cashIn : ByteArray := prog_13_method_104_code
def yX11_cashIn : MethodName := ⟨RX11, "cashIn", "(I)I"⟩
abbrev cX11_greyAt : ByteArray := prog_13_method_105_code
def yX11_greyAt : MethodName := ⟨RX11, "greyAt", "(III)I"⟩
abbrev cX11_laysSeats : ByteArray := prog_13_method_106_code
def yX11_laysSeats : MethodName := ⟨RX11, "laysSeats", "(I)V"⟩
abbrev cX11_seating : ByteArray := prog_13_method_107_code
def yX11_seating : MethodName := ⟨RX11, "seating", "(I)I"⟩
abbrev cX11_seatOf : ByteArray := prog_13_method_108_code
def yX11_seatOf : MethodName := ⟨RX11, "seatOf", "(II)I"⟩
abbrev cX11_isLikedBy : ByteArray := prog_13_method_109_code
def yX11_isLikedBy : MethodName := ⟨RX11, "isLikedBy", "(III)Z"⟩
abbrev cX11_liked : ByteArray := prog_13_method_110_code
def yX11_liked : MethodName := ⟨RX11, "liked", "(I)I"⟩
abbrev cX11_isLiked : ByteArray := prog_13_method_111_code
def yX11_isLiked : MethodName := ⟨RX11, "isLiked", "(III)I"⟩
abbrev cX11_yearsTo : ByteArray := prog_13_method_112_code
def yX11_yearsTo : MethodName := ⟨RX11, "yearsTo", "(IIII)I"⟩
abbrev cX11_soonest : ByteArray := prog_13_method_113_code
def yX11_soonest : MethodName := ⟨RX11, "soonest", "(II)I"⟩
abbrev cX11_soon : ByteArray := prog_13_method_114_code
def yX11_soon : MethodName := ⟨RX11, "soon", "(II)I"⟩
abbrev cX11_soonAt : ByteArray := prog_13_method_115_code
def yX11_soonAt : MethodName := ⟨RX11, "soonAt", "(II)I"⟩
abbrev cX11_worth : ByteArray := prog_13_method_116_code
def yX11_worth : MethodName := ⟨RX11, "worth", "(III)I"⟩
abbrev cX11_leastFan : ByteArray := prog_13_method_117_code
def yX11_leastFan : MethodName := ⟨RX11, "leastFan", "(II)I"⟩
abbrev cX11_greyOf : ByteArray := prog_13_method_118_code
def yX11_greyOf : MethodName := ⟨RX11, "greyOf", "(II)I"⟩
abbrev cX11_wrongSeen : ByteArray := prog_13_method_119_code
def yX11_wrongSeen : MethodName := ⟨RX11, "wrongSeen", "(II)I"⟩
abbrev cX11_laysFits : ByteArray := prog_13_method_120_code
def yX11_laysFits : MethodName := ⟨RX11, "laysFits", "(II)I"⟩
abbrev cX11_fits : ByteArray := prog_13_method_121_code
def yX11_fits : MethodName := ⟨RX11, "fits", "(II)I"⟩
abbrev cX11_fitsAt : ByteArray := prog_13_method_122_code
def yX11_fitsAt : MethodName := ⟨RX11, "fitsAt", "(III)I"⟩
abbrev cX11_mostAlike : ByteArray := prog_13_method_123_code
def yX11_mostAlike : MethodName := ⟨RX11, "mostAlike", "(I)I"⟩
abbrev cX11_ask : ByteArray := prog_13_method_124_code
def yX11_ask : MethodName := ⟨RX11, "ask", "(II)I"⟩
abbrev cX11_comes : ByteArray := prog_13_method_125_code
def yX11_comes : MethodName := ⟨RX11, "comes", "()I"⟩
abbrev cX11_comesFor : ByteArray := prog_13_method_126_code
def yX11_comesFor : MethodName := ⟨RX11, "comesFor", "()I"⟩
abbrev cX11_calming : ByteArray := prog_13_method_127_code
def yX11_calming : MethodName := ⟨RX11, "calming", "()I"⟩
abbrev cX11_calms : ByteArray := prog_13_method_128_code
def yX11_calms : MethodName := ⟨RX11, "calms", "()I"⟩
abbrev cX11_calmSet : ByteArray := prog_13_method_129_code
def yX11_calmSet : MethodName := ⟨RX11, "calmSet", "()I"⟩
abbrev cX11_settles : ByteArray := prog_13_method_130_code
def yX11_settles : MethodName := ⟨RX11, "settles", "(II)V"⟩
abbrev cX11_asGrey : ByteArray := prog_13_method_131_code
def yX11_asGrey : MethodName := ⟨RX11, "asGrey", "(I)I"⟩
abbrev cX11_chooses : ByteArray := prog_13_method_132_code
def yX11_chooses : MethodName := ⟨RX11, "chooses", "(I)V"⟩
abbrev cX11_leavesOff : ByteArray := prog_13_method_133_code
def yX11_leavesOff : MethodName := ⟨RX11, "leavesOff", "(I)V"⟩
abbrev cX11_beginsAt : ByteArray := prog_13_method_134_code
def yX11_beginsAt : MethodName := ⟨RX11, "beginsAt", "(I)V"⟩
abbrev cX11_playing : ByteArray := prog_13_method_135_code
def yX11_playing : MethodName := ⟨RX11, "playing", "(II)I"⟩
abbrev cX11_game : ByteArray := prog_13_method_136_code
def yX11_game : MethodName := ⟨RX11, "game", "(II)I"⟩
abbrev cX11_who : ByteArray := prog_13_method_137_code
def yX11_who : MethodName := ⟨RX11, "who", "(II)I"⟩
abbrev cX11_shams : ByteArray := prog_13_method_138_code
def yX11_shams : MethodName := ⟨RX11, "shams", "(I)Z"⟩
abbrev cX11_share : ByteArray := prog_13_method_139_code
def yX11_share : MethodName := ⟨RX11, "share", "(I)Z"⟩
abbrev cX11_copyGrey : ByteArray := prog_13_method_140_code
def yX11_copyGrey : MethodName := ⟨RX11, "copyGrey", "(I)I"⟩
abbrev cX11_draw : ByteArray := prog_13_method_141_code
def yX11_draw : MethodName := ⟨RX11, "draw", "(I)I"⟩
abbrev cX11_yearsBy : ByteArray := prog_13_method_142_code
def yX11_yearsBy : MethodName := ⟨RX11, "yearsBy", "(I)Z"⟩
abbrev cX11_runsBy : ByteArray := prog_13_method_143_code
def yX11_runsBy : MethodName := ⟨RX11, "runsBy", "()Z"⟩
abbrev cX11_doesAny : ByteArray := prog_13_method_144_code
def yX11_doesAny : MethodName := ⟨RX11, "doesAny", "()Z"⟩
abbrev cX11_does : ByteArray := prog_13_method_145_code
def yX11_does : MethodName := ⟨RX11, "does", "(I)Z"⟩
abbrev cX11_holds : ByteArray := prog_13_method_146_code
def yX11_holds : MethodName := ⟨RX11, "holds", "(I)Z"⟩
abbrev cX11_behindEnds : ByteArray := prog_13_method_147_code
def yX11_behindEnds : MethodName := ⟨RX11, "behindEnds", "(I)I"⟩
abbrev cX11_lives : ByteArray := prog_13_method_148_code
def yX11_lives : MethodName := ⟨RX11, "lives", "(I)V"⟩
abbrev cX11_live : ByteArray := prog_13_method_149_code
def yX11_live : MethodName := ⟨RX11, "live", "(I)I"⟩
abbrev cX11_lived : ByteArray := prog_13_method_150_code
def yX11_lived : MethodName := ⟨RX11, "lived", "(I)I"⟩
abbrev cX11_mean : ByteArray := prog_13_method_151_code
def yX11_mean : MethodName := ⟨RX11, "mean", "(II)Z"⟩
abbrev cX11_copies : ByteArray := prog_13_method_152_code
def yX11_copies : MethodName := ⟨RX11, "copies", "(II)V"⟩
abbrev cX11_mark : ByteArray := prog_13_method_153_code
def yX11_mark : MethodName := ⟨RX11, "mark", "()I"⟩
abbrev cX11_undo : ByteArray := prog_13_method_154_code
def yX11_undo : MethodName := ⟨RX11, "undo", "()I"⟩
def RJ6 : String := "java/lang/Integer"
def TJ6 : u_T := fun k => match k with
  | _ => ("", "", "", false)
def tyJ6 : Nat → FieldType := fun k => match k with
  | _ => .int
abbrev wsJ60 : List Cond := u_ws RJ6 TJ6 0
theorem nmJ6 : ∀ a, a < 0 → ∀ b, b < 0 → a ≠ b → (TJ6 a).2.1 ≠ (TJ6 b).2.1 := by decide +kernel
theorem tyJ6_ok : ∀ k, k < 0 → parseFieldDescriptor (TJ6 k).2.2.1 = some (tyJ6 k) := by decide +kernel
abbrev cJ6_bitCount_0f7a4 : ByteArray := prog_14_method_49_code
def yJ6_bitCount_0f7a4 : MethodName := ⟨RJ6, "bitCount", "(I)I"⟩
def RJ9 : String := "java/lang/Math"
def TJ9 : u_T := fun k => match k with
  | _ => ("", "", "", false)
def tyJ9 : Nat → FieldType := fun k => match k with
  | _ => .int
abbrev wsJ90 : List Cond := u_ws RJ9 TJ9 0
theorem nmJ9 : ∀ a, a < 0 → ∀ b, b < 0 → a ≠ b → (TJ9 a).2.1 ≠ (TJ9 b).2.1 := by decide +kernel
theorem tyJ9_ok : ∀ k, k < 0 → parseFieldDescriptor (TJ9 k).2.2.1 = some (tyJ9 k) := by decide +kernel
abbrev cJ9_max_7cf53 : ByteArray := prog_15_method_65_code
def yJ9_max_7cf53 : MethodName := ⟨RJ9, "max", "(II)I"⟩
abbrev cJ9_min_7cf53 : ByteArray := prog_15_method_69_code
def yJ9_min_7cf53 : MethodName := ⟨RJ9, "min", "(II)I"⟩
def RJ0 : String := "java/lang/String"
def TJ0 : u_T := fun k => match k with
  | _ => ("", "", "", false)
def tyJ0 : Nat → FieldType := fun k => match k with
  | _ => .int
abbrev wsJ00 : List Cond := u_ws RJ0 TJ0 0
theorem nmJ0 : ∀ a, a < 0 → ∀ b, b < 0 → a ≠ b → (TJ0 a).2.1 ≠ (TJ0 b).2.1 := by decide +kernel
theorem tyJ0_ok : ∀ k, k < 0 → parseFieldDescriptor (TJ0 k).2.2.1 = some (tyJ0 k) := by decide +kernel
abbrev cJ0_length_8abf5 : ByteArray := prog_16_method_54_code
def yJ0_length_8abf5 : MethodName := ⟨RJ0, "length", "()I"⟩
abbrev cJ0_charAt_5068e : ByteArray := prog_16_method_56_code
def yJ0_charAt_5068e : MethodName := ⟨RJ0, "charAt", "(I)C"⟩
abbrev cJ0_coder_7d493 : ByteArray := prog_16_method_152_code
def yJ0_coder_7d493 : MethodName := ⟨RJ0, "coder", "()B"⟩
abbrev cJ0_isLatin1_aae02 : ByteArray := prog_16_method_154_code
def yJ0_isLatin1_aae02 : MethodName := ⟨RJ0, "isLatin1", "()Z"⟩
abbrev cJ0_checkIndex_df160 : ByteArray := prog_16_method_155_code
def yJ0_checkIndex_df160 : MethodName := ⟨RJ0, "checkIndex", "(II)V"⟩
def RJ1 : String := "java/lang/StringLatin1"
def TJ1 : u_T := fun k => match k with
  | _ => ("", "", "", false)
def tyJ1 : Nat → FieldType := fun k => match k with
  | _ => .int
abbrev wsJ10 : List Cond := u_ws RJ1 TJ1 0
theorem nmJ1 : ∀ a, a < 0 → ∀ b, b < 0 → a ≠ b → (TJ1 a).2.1 ≠ (TJ1 b).2.1 := by decide +kernel
theorem tyJ1_ok : ∀ k, k < 0 → parseFieldDescriptor (TJ1 k).2.2.1 = some (tyJ1 k) := by decide +kernel
abbrev cJ1_charAt_3b067 : ByteArray := prog_17_method_2_code
def yJ1_charAt_3b067 : MethodName := ⟨RJ1, "charAt", "([BI)C"⟩
def RJ2 : String := "java/lang/StringUTF16"
def TJ2 : u_T := fun k => match k with
  | _ => ("", "", "", false)
def tyJ2 : Nat → FieldType := fun k => match k with
  | _ => .int
abbrev wsJ20 : List Cond := u_ws RJ2 TJ2 0
theorem nmJ2 : ∀ a, a < 0 → ∀ b, b < 0 → a ≠ b → (TJ2 a).2.1 ≠ (TJ2 b).2.1 := by decide +kernel
theorem tyJ2_ok : ∀ k, k < 0 → parseFieldDescriptor (TJ2 k).2.2.1 = some (tyJ2 k) := by decide +kernel
abbrev cJ2_getChar_3b067 : ByteArray := prog_18_method_5_code
def yJ2_getChar_3b067 : MethodName := ⟨RJ2, "getChar", "([BI)C"⟩
abbrev cJ2_length_9d52b : ByteArray := prog_18_method_6_code
def yJ2_length_9d52b : MethodName := ⟨RJ2, "length", "([B)I"⟩
abbrev cJ2_charAt_3b067 : ByteArray := prog_18_method_83_code
def yJ2_charAt_3b067 : MethodName := ⟨RJ2, "charAt", "([BI)C"⟩
abbrev cJ2_checkIndex_2214a : ByteArray := prog_18_method_91_code
def yJ2_checkIndex_2214a : MethodName := ⟨RJ2, "checkIndex", "(I[B)V"⟩
def RJ10 : String := "java/lang/System"
def TJ10 : u_T := fun k => match k with
  | _ => ("", "", "", false)
def tyJ10 : Nat → FieldType := fun k => match k with
  | _ => .int
abbrev wsJ100 : List Cond := u_ws RJ10 TJ10 0
theorem nmJ10 : ∀ a, a < 0 → ∀ b, b < 0 → a ≠ b → (TJ10 a).2.1 ≠ (TJ10 b).2.1 := by decide +kernel
theorem tyJ10_ok : ∀ k, k < 0 → parseFieldDescriptor (TJ10 k).2.2.1 = some (tyJ10 k) := by decide +kernel
def RJ3 : String := "jdk/internal/util/Preconditions"
def TJ3 : u_T := fun k => match k with
  | _ => ("", "", "", false)
def tyJ3 : Nat → FieldType := fun k => match k with
  | _ => .int
abbrev wsJ30 : List Cond := u_ws RJ3 TJ3 0
theorem nmJ3 : ∀ a, a < 0 → ∀ b, b < 0 → a ≠ b → (TJ3 a).2.1 ≠ (TJ3 b).2.1 := by decide +kernel
theorem tyJ3_ok : ∀ k, k < 0 → parseFieldDescriptor (TJ3 k).2.2.1 = some (tyJ3 k) := by decide +kernel
abbrev cJ3_checkIndex_8e157 : ByteArray := prog_20_method_11_code
def yJ3_checkIndex_8e157 : MethodName := ⟨RJ3, "checkIndex", "(IILjava/util/function/BiFunction;)I"⟩
def RL : String := "WebBankLaw"
abbrev cL_law : ByteArray := code
def yL_law : MethodName := ⟨RL, "law", "([I)Z"⟩
abbrev vwCl : List vw_C := [(RX0, TX0, 19), (RX1, TX1, 4), (RX2, TX2, 5), (RX3, TX3, 10), (RX4, TX4, 2), (RX5, TX5, 9), (RX6, TX6, 5), (RX7, TX7, 1), (RX8, TX8, 17), (RX9, TX9, 3), (RX10, TX10, 18), (RX11, TX11, 40)]
