section
-- ===== PART A: goes FIRST, ahead of the names: the tables' words, and 'selects' of the private methods out of them =====
/-- a private method of a class that the tables say can be made, by its rows of tables_1 -/
def lw_okq (q : MethodName × Nat) : Prop := (q.1.cls ≠ "java/lang/invoke/MethodHandle" ∧ q.1.cls ≠ "java/lang/invoke/VarHandle") ∧ Cond.instantiable q.1.cls q.2 ∈ tables_1 ∧ Cond.privateMethod q.1 ∈ tables_1 ∧ Cond.instanceMethod q.1 ∈ tables_1
theorem lw_p0 : lw_okq (⟨"CopyBench$Odds", "learn", "(LCopyBench$Exam;III)V"⟩, 8) := ⟨⟨by decide +kernel, by decide +kernel⟩, List.mem_of_getElem? (i := 142) (by decide +kernel), List.mem_of_getElem? (i := 483) (by decide +kernel), List.mem_of_getElem? (i := 484) (by decide +kernel)⟩
theorem lw_p1 : lw_okq (⟨"CopyBench$Odds", "spread", "(LCopyBench$Exam;IIII)V"⟩, 8) := ⟨⟨by decide +kernel, by decide +kernel⟩, List.mem_of_getElem? (i := 142) (by decide +kernel), List.mem_of_getElem? (i := 518) (by decide +kernel), List.mem_of_getElem? (i := 519) (by decide +kernel)⟩
theorem lw_p2 : lw_okq (⟨"CopyBench$Odds", "weigh", "(LCopyBench$Exam;IIII)V"⟩, 8) := ⟨⟨by decide +kernel, by decide +kernel⟩, List.mem_of_getElem? (i := 142) (by decide +kernel), List.mem_of_getElem? (i := 526) (by decide +kernel), List.mem_of_getElem? (i := 527) (by decide +kernel)⟩
theorem lw_p3 : lw_okq (⟨"CopyBench$Odds", "wrongSquares", "(I)J"⟩, 8) := ⟨⟨by decide +kernel, by decide +kernel⟩, List.mem_of_getElem? (i := 142) (by decide +kernel), List.mem_of_getElem? (i := 531) (by decide +kernel), List.mem_of_getElem? (i := 532) (by decide +kernel)⟩
theorem lw_p4 : lw_okq (⟨"CopyBench$Odds", "put", "(JJJ)V"⟩, 8) := ⟨⟨by decide +kernel, by decide +kernel⟩, List.mem_of_getElem? (i := 142) (by decide +kernel), List.mem_of_getElem? (i := 535) (by decide +kernel), List.mem_of_getElem? (i := 536) (by decide +kernel)⟩
theorem lw_p5 : lw_okq (⟨"CopyBench$Odds", "weighGiven", "(IZZ)V"⟩, 8) := ⟨⟨by decide +kernel, by decide +kernel⟩, List.mem_of_getElem? (i := 142) (by decide +kernel), List.mem_of_getElem? (i := 539) (by decide +kernel), List.mem_of_getElem? (i := 540) (by decide +kernel)⟩
theorem lw_p6 : lw_okq (⟨"CopyBench$Odds", "weighBound", "(IIZ)V"⟩, 8) := ⟨⟨by decide +kernel, by decide +kernel⟩, List.mem_of_getElem? (i := 142) (by decide +kernel), List.mem_of_getElem? (i := 543) (by decide +kernel), List.mem_of_getElem? (i := 544) (by decide +kernel)⟩
theorem lw_p7 : lw_okq (⟨"CopyBench$Odds", "addItem", "(III)V"⟩, 8) := ⟨⟨by decide +kernel, by decide +kernel⟩, List.mem_of_getElem? (i := 142) (by decide +kernel), List.mem_of_getElem? (i := 553) (by decide +kernel), List.mem_of_getElem? (i := 554) (by decide +kernel)⟩
theorem lw_p8 : lw_okq (⟨"CopyBench$Odds", "putTail", "(LCopyBench$Ratio;)V"⟩, 8) := ⟨⟨by decide +kernel, by decide +kernel⟩, List.mem_of_getElem? (i := 142) (by decide +kernel), List.mem_of_getElem? (i := 558) (by decide +kernel), List.mem_of_getElem? (i := 559) (by decide +kernel)⟩
theorem lw_p9 : lw_okq (⟨"CopyBench", "rankNow", "()V"⟩, 13) := ⟨⟨by decide +kernel, by decide +kernel⟩, List.mem_of_getElem? (i := 16) (by decide +kernel), List.mem_of_getElem? (i := 631) (by decide +kernel), List.mem_of_getElem? (i := 632) (by decide +kernel)⟩
theorem lw_p10 : lw_okq (⟨"CopyBench$Ranking", "weighPair", "(LCopyBench$Exam;LCopyBench$Odds;III)V"⟩, 8) := ⟨⟨by decide +kernel, by decide +kernel⟩, List.mem_of_getElem? (i := 191) (by decide +kernel), List.mem_of_getElem? (i := 643) (by decide +kernel), List.mem_of_getElem? (i := 644) (by decide +kernel)⟩
theorem lw_p11 : lw_okq (⟨"CopyBench$Ranking", "insert", "(II)V"⟩, 8) := ⟨⟨by decide +kernel, by decide +kernel⟩, List.mem_of_getElem? (i := 191) (by decide +kernel), List.mem_of_getElem? (i := 650) (by decide +kernel), List.mem_of_getElem? (i := 651) (by decide +kernel)⟩
theorem lw_p12 : lw_okq (⟨"CopyBench$Ranking", "countSuspects", "(II)I"⟩, 8) := ⟨⟨by decide +kernel, by decide +kernel⟩, List.mem_of_getElem? (i := 191) (by decide +kernel), List.mem_of_getElem? (i := 656) (by decide +kernel), List.mem_of_getElem? (i := 657) (by decide +kernel)⟩
theorem lw_p13 : lw_okq (⟨"CopyBench$Ranking", "holds", "(III)Z"⟩, 8) := ⟨⟨by decide +kernel, by decide +kernel⟩, List.mem_of_getElem? (i := 191) (by decide +kernel), List.mem_of_getElem? (i := 660) (by decide +kernel), List.mem_of_getElem? (i := 661) (by decide +kernel)⟩
theorem lw_p14 : lw_okq (⟨"CopyBench", "linkNow", "()V"⟩, 13) := ⟨⟨by decide +kernel, by decide +kernel⟩, List.mem_of_getElem? (i := 16) (by decide +kernel), List.mem_of_getElem? (i := 666) (by decide +kernel), List.mem_of_getElem? (i := 667) (by decide +kernel)⟩
theorem lw_p15 : lw_okq (⟨"CopyBench$Links", "isGroup", "(I)Z"⟩, 1) := ⟨⟨by decide +kernel, by decide +kernel⟩, List.mem_of_getElem? (i := 232) (by decide +kernel), List.mem_of_getElem? (i := 678) (by decide +kernel), List.mem_of_getElem? (i := 679) (by decide +kernel)⟩
def lw_privs_1 : List (MethodName × Nat) := [(⟨"CopyBench$Odds", "learn", "(LCopyBench$Exam;III)V"⟩, 8), (⟨"CopyBench$Odds", "spread", "(LCopyBench$Exam;IIII)V"⟩, 8), (⟨"CopyBench$Odds", "weigh", "(LCopyBench$Exam;IIII)V"⟩, 8), (⟨"CopyBench$Odds", "wrongSquares", "(I)J"⟩, 8), (⟨"CopyBench$Odds", "put", "(JJJ)V"⟩, 8), (⟨"CopyBench$Odds", "weighGiven", "(IZZ)V"⟩, 8), (⟨"CopyBench$Odds", "weighBound", "(IIZ)V"⟩, 8), (⟨"CopyBench$Odds", "addItem", "(III)V"⟩, 8), (⟨"CopyBench$Odds", "putTail", "(LCopyBench$Ratio;)V"⟩, 8), (⟨"CopyBench", "rankNow", "()V"⟩, 13), (⟨"CopyBench$Ranking", "weighPair", "(LCopyBench$Exam;LCopyBench$Odds;III)V"⟩, 8), (⟨"CopyBench$Ranking", "insert", "(II)V"⟩, 8), (⟨"CopyBench$Ranking", "countSuspects", "(II)I"⟩, 8), (⟨"CopyBench$Ranking", "holds", "(III)Z"⟩, 8), (⟨"CopyBench", "linkNow", "()V"⟩, 13), (⟨"CopyBench$Links", "isGroup", "(I)Z"⟩, 1)]
theorem lw_r1 : ∀ q ∈ lw_privs_1, lw_okq q := List.forall_mem_cons.mpr ⟨lw_p0, List.forall_mem_cons.mpr ⟨lw_p1, List.forall_mem_cons.mpr ⟨lw_p2, List.forall_mem_cons.mpr ⟨lw_p3, List.forall_mem_cons.mpr ⟨lw_p4, List.forall_mem_cons.mpr ⟨lw_p5, List.forall_mem_cons.mpr ⟨lw_p6, List.forall_mem_cons.mpr ⟨lw_p7, List.forall_mem_cons.mpr ⟨lw_p8, List.forall_mem_cons.mpr ⟨lw_p9, List.forall_mem_cons.mpr ⟨lw_p10, List.forall_mem_cons.mpr ⟨lw_p11, List.forall_mem_cons.mpr ⟨lw_p12, List.forall_mem_cons.mpr ⟨lw_p13, List.forall_mem_cons.mpr ⟨lw_p14, List.forall_mem_cons.mpr ⟨lw_p15, fun _ h => absurd h List.not_mem_nil⟩⟩⟩⟩⟩⟩⟩⟩⟩⟩⟩⟩⟩⟩⟩⟩
theorem lw_p16 : lw_okq (⟨"CopyBench$Seating", "gather", "(LCopyBench$Exam;)V"⟩, 5) := ⟨⟨by decide +kernel, by decide +kernel⟩, List.mem_of_getElem? (i := 243) (by decide +kernel), List.mem_of_getElem? (i := 743) (by decide +kernel), List.mem_of_getElem? (i := 744) (by decide +kernel)⟩
theorem lw_p17 : lw_okq (⟨"CopyBench$Seating", "relate", "(LCopyBench$Exam;LCopyBench$Links;I)V"⟩, 5) := ⟨⟨by decide +kernel, by decide +kernel⟩, List.mem_of_getElem? (i := 243) (by decide +kernel), List.mem_of_getElem? (i := 748) (by decide +kernel), List.mem_of_getElem? (i := 749) (by decide +kernel)⟩
theorem lw_p18 : lw_okq (⟨"CopyBench$Seating", "nearSuspects", "()I"⟩, 5) := ⟨⟨by decide +kernel, by decide +kernel⟩, List.mem_of_getElem? (i := 243) (by decide +kernel), List.mem_of_getElem? (i := 757) (by decide +kernel), List.mem_of_getElem? (i := 758) (by decide +kernel)⟩
theorem lw_p19 : lw_okq (⟨"CopyBench$Seating", "nextWay", "()Z"⟩, 5) := ⟨⟨by decide +kernel, by decide +kernel⟩, List.mem_of_getElem? (i := 243) (by decide +kernel), List.mem_of_getElem? (i := 761) (by decide +kernel), List.mem_of_getElem? (i := 762) (by decide +kernel)⟩
theorem lw_p20 : lw_okq (⟨"CopyBench$Seating", "swap", "(II)V"⟩, 5) := ⟨⟨by decide +kernel, by decide +kernel⟩, List.mem_of_getElem? (i := 243) (by decide +kernel), List.mem_of_getElem? (i := 765) (by decide +kernel), List.mem_of_getElem? (i := 766) (by decide +kernel)⟩
theorem lw_p21 : lw_okq (⟨"CopyBench$Draws", "anAnswer", "(LCopyBench$Odds;)I"⟩, 1) := ⟨⟨by decide +kernel, by decide +kernel⟩, List.mem_of_getElem? (i := 265) (by decide +kernel), List.mem_of_getElem? (i := 780) (by decide +kernel), List.mem_of_getElem? (i := 781) (by decide +kernel)⟩
theorem lw_p22 : lw_okq (⟨"CopyBench$Draws", "below", "(I)I"⟩, 1) := ⟨⟨by decide +kernel, by decide +kernel⟩, List.mem_of_getElem? (i := 265) (by decide +kernel), List.mem_of_getElem? (i := 784) (by decide +kernel), List.mem_of_getElem? (i := 785) (by decide +kernel)⟩
theorem lw_p23 : lw_okq (⟨"CopyBench$Exam", "follow", "(III)V"⟩, 17) := ⟨⟨by decide +kernel, by decide +kernel⟩, List.mem_of_getElem? (i := 24) (by decide +kernel), List.mem_of_getElem? (i := 852) (by decide +kernel), List.mem_of_getElem? (i := 853) (by decide +kernel)⟩
theorem lw_p24 : lw_okq (⟨"CopyBenchModel", "begins", "()V"⟩, 47) := ⟨⟨by decide +kernel, by decide +kernel⟩, List.mem_of_getElem? (i := 921) (by decide +kernel), List.mem_of_getElem? (i := 929) (by decide +kernel), List.mem_of_getElem? (i := 930) (by decide +kernel)⟩
theorem lw_p25 : lw_okq (⟨"CopyBenchModel", "passesAll", "(Z)I"⟩, 47) := ⟨⟨by decide +kernel, by decide +kernel⟩, List.mem_of_getElem? (i := 921) (by decide +kernel), List.mem_of_getElem? (i := 1079) (by decide +kernel), List.mem_of_getElem? (i := 1080) (by decide +kernel)⟩
theorem lw_p26 : lw_okq (⟨"CopyBenchModel", "passes", "(I)I"⟩, 47) := ⟨⟨by decide +kernel, by decide +kernel⟩, List.mem_of_getElem? (i := 921) (by decide +kernel), List.mem_of_getElem? (i := 1083) (by decide +kernel), List.mem_of_getElem? (i := 1084) (by decide +kernel)⟩
theorem lw_p27 : lw_okq (⟨"CopyBenchModel", "passesRow", "([I)V"⟩, 47) := ⟨⟨by decide +kernel, by decide +kernel⟩, List.mem_of_getElem? (i := 921) (by decide +kernel), List.mem_of_getElem? (i := 1087) (by decide +kernel), List.mem_of_getElem? (i := 1088) (by decide +kernel)⟩
theorem lw_p28 : lw_okq (⟨"CopyBenchModel", "isItem", "(I)Z"⟩, 47) := ⟨⟨by decide +kernel, by decide +kernel⟩, List.mem_of_getElem? (i := 921) (by decide +kernel), List.mem_of_getElem? (i := 1107) (by decide +kernel), List.mem_of_getElem? (i := 1108) (by decide +kernel)⟩
theorem lw_p29 : lw_okq (⟨"CopyBenchModel", "isOne", "(I)Z"⟩, 47) := ⟨⟨by decide +kernel, by decide +kernel⟩, List.mem_of_getElem? (i := 921) (by decide +kernel), List.mem_of_getElem? (i := 1128) (by decide +kernel), List.mem_of_getElem? (i := 1129) (by decide +kernel)⟩
theorem lw_p30 : lw_okq (⟨"CopyBenchModel", "goesThrough", "(Z)V"⟩, 47) := ⟨⟨by decide +kernel, by decide +kernel⟩, List.mem_of_getElem? (i := 921) (by decide +kernel), List.mem_of_getElem? (i := 1150) (by decide +kernel), List.mem_of_getElem? (i := 1151) (by decide +kernel)⟩
theorem lw_p31 : lw_okq (⟨"CopyBenchModel", "clause", "(Z)V"⟩, 47) := ⟨⟨by decide +kernel, by decide +kernel⟩, List.mem_of_getElem? (i := 921) (by decide +kernel), List.mem_of_getElem? (i := 1154) (by decide +kernel), List.mem_of_getElem? (i := 1155) (by decide +kernel)⟩
def lw_privs_2 : List (MethodName × Nat) := [(⟨"CopyBench$Seating", "gather", "(LCopyBench$Exam;)V"⟩, 5), (⟨"CopyBench$Seating", "relate", "(LCopyBench$Exam;LCopyBench$Links;I)V"⟩, 5), (⟨"CopyBench$Seating", "nearSuspects", "()I"⟩, 5), (⟨"CopyBench$Seating", "nextWay", "()Z"⟩, 5), (⟨"CopyBench$Seating", "swap", "(II)V"⟩, 5), (⟨"CopyBench$Draws", "anAnswer", "(LCopyBench$Odds;)I"⟩, 1), (⟨"CopyBench$Draws", "below", "(I)I"⟩, 1), (⟨"CopyBench$Exam", "follow", "(III)V"⟩, 17), (⟨"CopyBenchModel", "begins", "()V"⟩, 47), (⟨"CopyBenchModel", "passesAll", "(Z)I"⟩, 47), (⟨"CopyBenchModel", "passes", "(I)I"⟩, 47), (⟨"CopyBenchModel", "passesRow", "([I)V"⟩, 47), (⟨"CopyBenchModel", "isItem", "(I)Z"⟩, 47), (⟨"CopyBenchModel", "isOne", "(I)Z"⟩, 47), (⟨"CopyBenchModel", "goesThrough", "(Z)V"⟩, 47), (⟨"CopyBenchModel", "clause", "(Z)V"⟩, 47)]
theorem lw_r2 : ∀ q ∈ lw_privs_2, lw_okq q := List.forall_mem_cons.mpr ⟨lw_p16, List.forall_mem_cons.mpr ⟨lw_p17, List.forall_mem_cons.mpr ⟨lw_p18, List.forall_mem_cons.mpr ⟨lw_p19, List.forall_mem_cons.mpr ⟨lw_p20, List.forall_mem_cons.mpr ⟨lw_p21, List.forall_mem_cons.mpr ⟨lw_p22, List.forall_mem_cons.mpr ⟨lw_p23, List.forall_mem_cons.mpr ⟨lw_p24, List.forall_mem_cons.mpr ⟨lw_p25, List.forall_mem_cons.mpr ⟨lw_p26, List.forall_mem_cons.mpr ⟨lw_p27, List.forall_mem_cons.mpr ⟨lw_p28, List.forall_mem_cons.mpr ⟨lw_p29, List.forall_mem_cons.mpr ⟨lw_p30, List.forall_mem_cons.mpr ⟨lw_p31, fun _ h => absurd h List.not_mem_nil⟩⟩⟩⟩⟩⟩⟩⟩⟩⟩⟩⟩⟩⟩⟩⟩
theorem lw_p32 : lw_okq (⟨"CopyBenchModel", "here", "()I"⟩, 47) := ⟨⟨by decide +kernel, by decide +kernel⟩, List.mem_of_getElem? (i := 921) (by decide +kernel), List.mem_of_getElem? (i := 1158) (by decide +kernel), List.mem_of_getElem? (i := 1159) (by decide +kernel)⟩
theorem lw_p33 : lw_okq (⟨"CopyBenchModel", "gave", "(IZ)I"⟩, 47) := ⟨⟨by decide +kernel, by decide +kernel⟩, List.mem_of_getElem? (i := 921) (by decide +kernel), List.mem_of_getElem? (i := 1183) (by decide +kernel), List.mem_of_getElem? (i := 1184) (by decide +kernel)⟩
theorem lw_p34 : lw_okq (⟨"CopyBenchModel", "givers", "(I)I"⟩, 47) := ⟨⟨by decide +kernel, by decide +kernel⟩, List.mem_of_getElem? (i := 921) (by decide +kernel), List.mem_of_getElem? (i := 1191) (by decide +kernel), List.mem_of_getElem? (i := 1192) (by decide +kernel)⟩
theorem lw_p35 : lw_okq (⟨"CopyBenchModel", "gavers", "(IIII)I"⟩, 47) := ⟨⟨by decide +kernel, by decide +kernel⟩, List.mem_of_getElem? (i := 921) (by decide +kernel), List.mem_of_getElem? (i := 1195) (by decide +kernel), List.mem_of_getElem? (i := 1196) (by decide +kernel)⟩
theorem lw_p36 : lw_okq (⟨"CopyBenchModel", "likedWrong", "(I)I"⟩, 47) := ⟨⟨by decide +kernel, by decide +kernel⟩, List.mem_of_getElem? (i := 921) (by decide +kernel), List.mem_of_getElem? (i := 1199) (by decide +kernel), List.mem_of_getElem? (i := 1200) (by decide +kernel)⟩
theorem lw_p37 : lw_okq (⟨"CopyBenchModel", "isTwo", "(II)Z"⟩, 47) := ⟨⟨by decide +kernel, by decide +kernel⟩, List.mem_of_getElem? (i := 921) (by decide +kernel), List.mem_of_getElem? (i := 1211) (by decide +kernel), List.mem_of_getElem? (i := 1212) (by decide +kernel)⟩
theorem lw_p38 : lw_okq (⟨"CopyBenchModel", "sumBut", "(IIII)I"⟩, 47) := ⟨⟨by decide +kernel, by decide +kernel⟩, List.mem_of_getElem? (i := 921) (by decide +kernel), List.mem_of_getElem? (i := 1215) (by decide +kernel), List.mem_of_getElem? (i := 1216) (by decide +kernel)⟩
theorem lw_p39 : lw_okq (⟨"CopyBenchModel", "shareOf", "(IIII)I"⟩, 47) := ⟨⟨by decide +kernel, by decide +kernel⟩, List.mem_of_getElem? (i := 921) (by decide +kernel), List.mem_of_getElem? (i := 1219) (by decide +kernel), List.mem_of_getElem? (i := 1220) (by decide +kernel)⟩
theorem lw_p40 : lw_okq (⟨"CopyBenchModel", "likeness", "(III)I"⟩, 47) := ⟨⟨by decide +kernel, by decide +kernel⟩, List.mem_of_getElem? (i := 921) (by decide +kernel), List.mem_of_getElem? (i := 1227) (by decide +kernel), List.mem_of_getElem? (i := 1228) (by decide +kernel)⟩
theorem lw_p41 : lw_okq (⟨"CopyBenchModel", "worth", "(II)I"⟩, 47) := ⟨⟨by decide +kernel, by decide +kernel⟩, List.mem_of_getElem? (i := 921) (by decide +kernel), List.mem_of_getElem? (i := 1231) (by decide +kernel), List.mem_of_getElem? (i := 1232) (by decide +kernel)⟩
theorem lw_p42 : lw_okq (⟨"CopyBenchModel", "asMuch", "(IIII)J"⟩, 47) := ⟨⟨by decide +kernel, by decide +kernel⟩, List.mem_of_getElem? (i := 921) (by decide +kernel), List.mem_of_getElem? (i := 1240) (by decide +kernel), List.mem_of_getElem? (i := 1241) (by decide +kernel)⟩
theorem lw_p43 : lw_okq (⟨"CopyBenchModel", "spreads", "(IIII)V"⟩, 47) := ⟨⟨by decide +kernel, by decide +kernel⟩, List.mem_of_getElem? (i := 921) (by decide +kernel), List.mem_of_getElem? (i := 1244) (by decide +kernel), List.mem_of_getElem? (i := 1245) (by decide +kernel)⟩
theorem lw_p44 : lw_okq (⟨"CopyBenchModel", "comes", "(IIII)V"⟩, 47) := ⟨⟨by decide +kernel, by decide +kernel⟩, List.mem_of_getElem? (i := 921) (by decide +kernel), List.mem_of_getElem? (i := 1248) (by decide +kernel), List.mem_of_getElem? (i := 1249) (by decide +kernel)⟩
theorem lw_p45 : lw_okq (⟨"CopyBenchModel", "adds", "(JI)V"⟩, 47) := ⟨⟨by decide +kernel, by decide +kernel⟩, List.mem_of_getElem? (i := 921) (by decide +kernel), List.mem_of_getElem? (i := 1252) (by decide +kernel), List.mem_of_getElem? (i := 1253) (by decide +kernel)⟩
theorem lw_p46 : lw_okq (⟨"CopyBenchModel", "orders", "()V"⟩, 47) := ⟨⟨by decide +kernel, by decide +kernel⟩, List.mem_of_getElem? (i := 921) (by decide +kernel), List.mem_of_getElem? (i := 1283) (by decide +kernel), List.mem_of_getElem? (i := 1284) (by decide +kernel)⟩
theorem lw_p47 : lw_okq (⟨"CopyBenchModel", "isNear", "(III)Z"⟩, 47) := ⟨⟨by decide +kernel, by decide +kernel⟩, List.mem_of_getElem? (i := 921) (by decide +kernel), List.mem_of_getElem? (i := 1287) (by decide +kernel), List.mem_of_getElem? (i := 1288) (by decide +kernel)⟩
def lw_privs_3 : List (MethodName × Nat) := [(⟨"CopyBenchModel", "here", "()I"⟩, 47), (⟨"CopyBenchModel", "gave", "(IZ)I"⟩, 47), (⟨"CopyBenchModel", "givers", "(I)I"⟩, 47), (⟨"CopyBenchModel", "gavers", "(IIII)I"⟩, 47), (⟨"CopyBenchModel", "likedWrong", "(I)I"⟩, 47), (⟨"CopyBenchModel", "isTwo", "(II)Z"⟩, 47), (⟨"CopyBenchModel", "sumBut", "(IIII)I"⟩, 47), (⟨"CopyBenchModel", "shareOf", "(IIII)I"⟩, 47), (⟨"CopyBenchModel", "likeness", "(III)I"⟩, 47), (⟨"CopyBenchModel", "worth", "(II)I"⟩, 47), (⟨"CopyBenchModel", "asMuch", "(IIII)J"⟩, 47), (⟨"CopyBenchModel", "spreads", "(IIII)V"⟩, 47), (⟨"CopyBenchModel", "comes", "(IIII)V"⟩, 47), (⟨"CopyBenchModel", "adds", "(JI)V"⟩, 47), (⟨"CopyBenchModel", "orders", "()V"⟩, 47), (⟨"CopyBenchModel", "isNear", "(III)Z"⟩, 47)]
theorem lw_r3 : ∀ q ∈ lw_privs_3, lw_okq q := List.forall_mem_cons.mpr ⟨lw_p32, List.forall_mem_cons.mpr ⟨lw_p33, List.forall_mem_cons.mpr ⟨lw_p34, List.forall_mem_cons.mpr ⟨lw_p35, List.forall_mem_cons.mpr ⟨lw_p36, List.forall_mem_cons.mpr ⟨lw_p37, List.forall_mem_cons.mpr ⟨lw_p38, List.forall_mem_cons.mpr ⟨lw_p39, List.forall_mem_cons.mpr ⟨lw_p40, List.forall_mem_cons.mpr ⟨lw_p41, List.forall_mem_cons.mpr ⟨lw_p42, List.forall_mem_cons.mpr ⟨lw_p43, List.forall_mem_cons.mpr ⟨lw_p44, List.forall_mem_cons.mpr ⟨lw_p45, List.forall_mem_cons.mpr ⟨lw_p46, List.forall_mem_cons.mpr ⟨lw_p47, fun _ h => absurd h List.not_mem_nil⟩⟩⟩⟩⟩⟩⟩⟩⟩⟩⟩⟩⟩⟩⟩⟩
theorem lw_p48 : lw_okq (⟨"CopyBenchModel", "putsPair", "(II)V"⟩, 47) := ⟨⟨by decide +kernel, by decide +kernel⟩, List.mem_of_getElem? (i := 921) (by decide +kernel), List.mem_of_getElem? (i := 1292) (by decide +kernel), List.mem_of_getElem? (i := 1293) (by decide +kernel)⟩
theorem lw_p49 : lw_okq (⟨"CopyBenchModel", "puts", "(IIJJ)V"⟩, 47) := ⟨⟨by decide +kernel, by decide +kernel⟩, List.mem_of_getElem? (i := 921) (by decide +kernel), List.mem_of_getElem? (i := 1296) (by decide +kernel), List.mem_of_getElem? (i := 1297) (by decide +kernel)⟩
theorem lw_p50 : lw_okq (⟨"CopyBenchModel", "isLow", "(III)Z"⟩, 47) := ⟨⟨by decide +kernel, by decide +kernel⟩, List.mem_of_getElem? (i := 921) (by decide +kernel), List.mem_of_getElem? (i := 1300) (by decide +kernel), List.mem_of_getElem? (i := 1301) (by decide +kernel)⟩
theorem lw_p51 : lw_okq (⟨"CopyBenchModel", "suspects", "()I"⟩, 47) := ⟨⟨by decide +kernel, by decide +kernel⟩, List.mem_of_getElem? (i := 921) (by decide +kernel), List.mem_of_getElem? (i := 1305) (by decide +kernel), List.mem_of_getElem? (i := 1306) (by decide +kernel)⟩
theorem lw_p52 : lw_okq (⟨"CopyBenchModel", "near", "(I)I"⟩, 47) := ⟨⟨by decide +kernel, by decide +kernel⟩, List.mem_of_getElem? (i := 921) (by decide +kernel), List.mem_of_getElem? (i := 1309) (by decide +kernel), List.mem_of_getElem? (i := 1310) (by decide +kernel)⟩
theorem lw_p53 : lw_okq (⟨"CopyBenchModel", "grouped", "(I)I"⟩, 47) := ⟨⟨by decide +kernel, by decide +kernel⟩, List.mem_of_getElem? (i := 921) (by decide +kernel), List.mem_of_getElem? (i := 1313) (by decide +kernel), List.mem_of_getElem? (i := 1314) (by decide +kernel)⟩
theorem lw_p54 : lw_okq (⟨"CopyBenchModel", "binds", "()V"⟩, 47) := ⟨⟨by decide +kernel, by decide +kernel⟩, List.mem_of_getElem? (i := 921) (by decide +kernel), List.mem_of_getElem? (i := 1317) (by decide +kernel), List.mem_of_getElem? (i := 1318) (by decide +kernel)⟩
theorem lw_p55 : lw_okq (⟨"CopyBenchModel", "isGroup", "(I)Z"⟩, 47) := ⟨⟨by decide +kernel, by decide +kernel⟩, List.mem_of_getElem? (i := 921) (by decide +kernel), List.mem_of_getElem? (i := 1321) (by decide +kernel), List.mem_of_getElem? (i := 1322) (by decide +kernel)⟩
theorem lw_p56 : lw_okq (⟨"CopyBenchModel", "common", "(I)I"⟩, 47) := ⟨⟨by decide +kernel, by decide +kernel⟩, List.mem_of_getElem? (i := 921) (by decide +kernel), List.mem_of_getElem? (i := 1325) (by decide +kernel), List.mem_of_getElem? (i := 1326) (by decide +kernel)⟩
theorem lw_p57 : lw_okq (⟨"CopyBenchModel", "greatest", "()I"⟩, 47) := ⟨⟨by decide +kernel, by decide +kernel⟩, List.mem_of_getElem? (i := 921) (by decide +kernel), List.mem_of_getElem? (i := 1329) (by decide +kernel), List.mem_of_getElem? (i := 1330) (by decide +kernel)⟩
theorem lw_p58 : lw_okq (⟨"CopyBenchModel", "ranked", "(II)I"⟩, 47) := ⟨⟨by decide +kernel, by decide +kernel⟩, List.mem_of_getElem? (i := 921) (by decide +kernel), List.mem_of_getElem? (i := 1347) (by decide +kernel), List.mem_of_getElem? (i := 1348) (by decide +kernel)⟩
theorem lw_p59 : lw_okq (⟨"CopyBenchModel", "nearNow", "(I)I"⟩, 47) := ⟨⟨by decide +kernel, by decide +kernel⟩, List.mem_of_getElem? (i := 921) (by decide +kernel), List.mem_of_getElem? (i := 1368) (by decide +kernel), List.mem_of_getElem? (i := 1369) (by decide +kernel)⟩
theorem lw_p60 : lw_okq (⟨"CopyBenchModel", "placeOf", "(I)I"⟩, 47) := ⟨⟨by decide +kernel, by decide +kernel⟩, List.mem_of_getElem? (i := 921) (by decide +kernel), List.mem_of_getElem? (i := 1372) (by decide +kernel), List.mem_of_getElem? (i := 1373) (by decide +kernel)⟩
theorem lw_p61 : lw_okq (⟨"CopyBenchModel", "turns", "()Z"⟩, 47) := ⟨⟨by decide +kernel, by decide +kernel⟩, List.mem_of_getElem? (i := 921) (by decide +kernel), List.mem_of_getElem? (i := 1376) (by decide +kernel), List.mem_of_getElem? (i := 1377) (by decide +kernel)⟩
theorem lw_p62 : lw_okq (⟨"CopyBenchModel", "exchange", "(II)V"⟩, 47) := ⟨⟨by decide +kernel, by decide +kernel⟩, List.mem_of_getElem? (i := 921) (by decide +kernel), List.mem_of_getElem? (i := 1380) (by decide +kernel), List.mem_of_getElem? (i := 1381) (by decide +kernel)⟩
theorem lw_p63 : lw_okq (⟨"CopyBenchModel", "drawnBy", "(III)I"⟩, 47) := ⟨⟨by decide +kernel, by decide +kernel⟩, List.mem_of_getElem? (i := 921) (by decide +kernel), List.mem_of_getElem? (i := 1388) (by decide +kernel), List.mem_of_getElem? (i := 1389) (by decide +kernel)⟩
def lw_privs_4 : List (MethodName × Nat) := [(⟨"CopyBenchModel", "putsPair", "(II)V"⟩, 47), (⟨"CopyBenchModel", "puts", "(IIJJ)V"⟩, 47), (⟨"CopyBenchModel", "isLow", "(III)Z"⟩, 47), (⟨"CopyBenchModel", "suspects", "()I"⟩, 47), (⟨"CopyBenchModel", "near", "(I)I"⟩, 47), (⟨"CopyBenchModel", "grouped", "(I)I"⟩, 47), (⟨"CopyBenchModel", "binds", "()V"⟩, 47), (⟨"CopyBenchModel", "isGroup", "(I)Z"⟩, 47), (⟨"CopyBenchModel", "common", "(I)I"⟩, 47), (⟨"CopyBenchModel", "greatest", "()I"⟩, 47), (⟨"CopyBenchModel", "ranked", "(II)I"⟩, 47), (⟨"CopyBenchModel", "nearNow", "(I)I"⟩, 47), (⟨"CopyBenchModel", "placeOf", "(I)I"⟩, 47), (⟨"CopyBenchModel", "turns", "()Z"⟩, 47), (⟨"CopyBenchModel", "exchange", "(II)V"⟩, 47), (⟨"CopyBenchModel", "drawnBy", "(III)I"⟩, 47)]
theorem lw_r4 : ∀ q ∈ lw_privs_4, lw_okq q := List.forall_mem_cons.mpr ⟨lw_p48, List.forall_mem_cons.mpr ⟨lw_p49, List.forall_mem_cons.mpr ⟨lw_p50, List.forall_mem_cons.mpr ⟨lw_p51, List.forall_mem_cons.mpr ⟨lw_p52, List.forall_mem_cons.mpr ⟨lw_p53, List.forall_mem_cons.mpr ⟨lw_p54, List.forall_mem_cons.mpr ⟨lw_p55, List.forall_mem_cons.mpr ⟨lw_p56, List.forall_mem_cons.mpr ⟨lw_p57, List.forall_mem_cons.mpr ⟨lw_p58, List.forall_mem_cons.mpr ⟨lw_p59, List.forall_mem_cons.mpr ⟨lw_p60, List.forall_mem_cons.mpr ⟨lw_p61, List.forall_mem_cons.mpr ⟨lw_p62, List.forall_mem_cons.mpr ⟨lw_p63, fun _ h => absurd h List.not_mem_nil⟩⟩⟩⟩⟩⟩⟩⟩⟩⟩⟩⟩⟩⟩⟩⟩
theorem lw_p64 : lw_okq (⟨"CopyBenchModel", "answersAnew", "(III)I"⟩, 47) := ⟨⟨by decide +kernel, by decide +kernel⟩, List.mem_of_getElem? (i := 921) (by decide +kernel), List.mem_of_getElem? (i := 1392) (by decide +kernel), List.mem_of_getElem? (i := 1393) (by decide +kernel)⟩
theorem lw_p65 : lw_okq (⟨"CopyBenchModel", "draw", "(I)I"⟩, 47) := ⟨⟨by decide +kernel, by decide +kernel⟩, List.mem_of_getElem? (i := 921) (by decide +kernel), List.mem_of_getElem? (i := 1396) (by decide +kernel), List.mem_of_getElem? (i := 1397) (by decide +kernel)⟩
theorem lw_p66 : lw_okq (⟨"CopyBenchModel", "isAllSeen", "()Z"⟩, 47) := ⟨⟨by decide +kernel, by decide +kernel⟩, List.mem_of_getElem? (i := 921) (by decide +kernel), List.mem_of_getElem? (i := 1414) (by decide +kernel), List.mem_of_getElem? (i := 1415) (by decide +kernel)⟩
theorem lw_p67 : lw_okq (⟨"CopyBenchModel", "goes", "(III)V"⟩, 47) := ⟨⟨by decide +kernel, by decide +kernel⟩, List.mem_of_getElem? (i := 921) (by decide +kernel), List.mem_of_getElem? (i := 1433) (by decide +kernel), List.mem_of_getElem? (i := 1434) (by decide +kernel)⟩
theorem lw_p68 : lw_okq (⟨"CopyBenchModel", "seatedOnes", "()I"⟩, 47) := ⟨⟨by decide +kernel, by decide +kernel⟩, List.mem_of_getElem? (i := 921) (by decide +kernel), List.mem_of_getElem? (i := 1448) (by decide +kernel), List.mem_of_getElem? (i := 1449) (by decide +kernel)⟩
def lw_privs_5 : List (MethodName × Nat) := [(⟨"CopyBenchModel", "answersAnew", "(III)I"⟩, 47), (⟨"CopyBenchModel", "draw", "(I)I"⟩, 47), (⟨"CopyBenchModel", "isAllSeen", "()Z"⟩, 47), (⟨"CopyBenchModel", "goes", "(III)V"⟩, 47), (⟨"CopyBenchModel", "seatedOnes", "()I"⟩, 47)]
theorem lw_r5 : ∀ q ∈ lw_privs_5, lw_okq q := List.forall_mem_cons.mpr ⟨lw_p64, List.forall_mem_cons.mpr ⟨lw_p65, List.forall_mem_cons.mpr ⟨lw_p66, List.forall_mem_cons.mpr ⟨lw_p67, List.forall_mem_cons.mpr ⟨lw_p68, fun _ h => absurd h List.not_mem_nil⟩⟩⟩⟩⟩
def lw_privs : List (MethodName × Nat) := lw_privs_1 ++ (lw_privs_2 ++ (lw_privs_3 ++ (lw_privs_4 ++ (lw_privs_5))))
def lw_tbl : List Cond := k2_sels lw_privs ++ tables_1
theorem lw_privs_ok : ∀ q ∈ lw_privs, lw_okq q := by
  show ∀ q ∈ lw_privs_1 ++ (lw_privs_2 ++ (lw_privs_3 ++ (lw_privs_4 ++ (lw_privs_5)))), lw_okq q
  exact List.forall_mem_append.mpr ⟨lw_r1, List.forall_mem_append.mpr ⟨lw_r2, List.forall_mem_append.mpr ⟨lw_r3, List.forall_mem_append.mpr ⟨lw_r4, lw_r5⟩⟩⟩⟩

def gd : List Cond := lw_tbl.filter goodWord
theorem gd_in {w : Cond} (h : w ∈ gd) : w ∈ lw_tbl := (List.mem_filter.mp h).1
theorem gd_good {ws : List Cond} (h : ∀ w ∈ ws, w ∈ gd) : GoodIn gd ws := fun w hw => ⟨h w hw, good_of_word (List.mem_filter.mp (h w hw)).2⟩
theorem tb_t {w : Cond} (h : w ∈ tables_1) : w ∈ lw_tbl := List.mem_append_right _ h
theorem tt_1 {w : Cond} {i : Nat} (h0 : tables_1_1[i]? = some w) : w ∈ lw_tbl := by
  have h := List.mem_of_getElem? h0
  exact tb_t (List.mem_append_left _ h)
theorem tb_1 {w : Cond} {i : Nat} (h0 : tables_1_1[i]? = some w) (hg : goodWord w = true) : w ∈ gd := List.mem_filter.mpr ⟨tt_1 h0, hg⟩
theorem tt_2 {w : Cond} {i : Nat} (h0 : tables_1_2[i]? = some w) : w ∈ lw_tbl := by
  have h := List.mem_of_getElem? h0
  exact tb_t (List.mem_append_right _ (List.mem_append_left _ h))
theorem tb_2 {w : Cond} {i : Nat} (h0 : tables_1_2[i]? = some w) (hg : goodWord w = true) : w ∈ gd := List.mem_filter.mpr ⟨tt_2 h0, hg⟩
theorem tt_3 {w : Cond} {i : Nat} (h0 : tables_1_3[i]? = some w) : w ∈ lw_tbl := by
  have h := List.mem_of_getElem? h0
  exact tb_t (List.mem_append_right _ (List.mem_append_right _ (List.mem_append_left _ h)))
theorem tb_3 {w : Cond} {i : Nat} (h0 : tables_1_3[i]? = some w) (hg : goodWord w = true) : w ∈ gd := List.mem_filter.mpr ⟨tt_3 h0, hg⟩
theorem tt_4 {w : Cond} {i : Nat} (h0 : tables_1_4[i]? = some w) : w ∈ lw_tbl := by
  have h := List.mem_of_getElem? h0
  exact tb_t (List.mem_append_right _ (List.mem_append_right _ (List.mem_append_right _ (List.mem_append_left _ h))))
theorem tb_4 {w : Cond} {i : Nat} (h0 : tables_1_4[i]? = some w) (hg : goodWord w = true) : w ∈ gd := List.mem_filter.mpr ⟨tt_4 h0, hg⟩
theorem tt_5 {w : Cond} {i : Nat} (h0 : tables_1_5[i]? = some w) : w ∈ lw_tbl := by
  have h := List.mem_of_getElem? h0
  exact tb_t (List.mem_append_right _ (List.mem_append_right _ (List.mem_append_right _ (List.mem_append_right _ (List.mem_append_left _ h)))))
theorem tb_5 {w : Cond} {i : Nat} (h0 : tables_1_5[i]? = some w) (hg : goodWord w = true) : w ∈ gd := List.mem_filter.mpr ⟨tt_5 h0, hg⟩
theorem tt_6 {w : Cond} {i : Nat} (h0 : tables_1_6[i]? = some w) : w ∈ lw_tbl := by
  have h := List.mem_of_getElem? h0
  exact tb_t (List.mem_append_right _ (List.mem_append_right _ (List.mem_append_right _ (List.mem_append_right _ (List.mem_append_right _ (List.mem_append_left _ h))))))
theorem tb_6 {w : Cond} {i : Nat} (h0 : tables_1_6[i]? = some w) (hg : goodWord w = true) : w ∈ gd := List.mem_filter.mpr ⟨tt_6 h0, hg⟩
theorem tt_7 {w : Cond} {i : Nat} (h0 : tables_1_7[i]? = some w) : w ∈ lw_tbl := by
  have h := List.mem_of_getElem? h0
  exact tb_t (List.mem_append_right _ (List.mem_append_right _ (List.mem_append_right _ (List.mem_append_right _ (List.mem_append_right _ (List.mem_append_right _ (h)))))))
theorem tb_7 {w : Cond} {i : Nat} (h0 : tables_1_7[i]? = some w) (hg : goodWord w = true) : w ∈ gd := List.mem_filter.mpr ⟨tt_7 h0, hg⟩
def R_Draws : String := "CopyBench$Draws"
def F_Draws : u_T := fun k => match k with
  | _ => ("CopyBench$Draws", "seed", "I", false)
def t_Draws : Nat → FieldType := fun k => match k with
  | _ => .int
theorem n_Draws : ∀ a, a < 1 → ∀ b, b < 1 → a ≠ b → (F_Draws a).2.1 ≠ (F_Draws b).2.1 := by decide +kernel
theorem t_Draws_ok : ∀ k, k < 1 → parseFieldDescriptor (F_Draws k).2.2.1 = some (t_Draws k) := by decide +kernel
theorem i_Draws : ∀ w ∈ u_ws R_Draws F_Draws 1, w ∈ gd := by
  have h1 : ∀ w ∈ u_ws R_Draws F_Draws 1, w ∈ lw_tbl := by decide +kernel
  have h2 : (u_ws R_Draws F_Draws 1).all goodWord = true := by decide +kernel
  exact fun w hw => List.mem_filter.mpr ⟨h1 w hw, List.all_eq_true.mp h2 w hw⟩
def R_Exam : String := "CopyBench$Exam"
def F_Exam : u_T := fun k => match k with
  | 0 => ("CopyBench$Exam", "items", "I", false)
  | 1 => ("CopyBench$Exam", "come", "I", false)
  | 2 => ("CopyBench$Exam", "seen", "I", false)
  | 3 => ("CopyBench$Exam", "planned", "I", false)
  | 4 => ("CopyBench$Exam", "key", "[I", true)
  | 5 => ("CopyBench$Exam", "kind", "[I", true)
  | 6 => ("CopyBench$Exam", "parts", "[[I", true)
  | 7 => ("CopyBench$Exam", "given", "[[I", true)
  | 8 => ("CopyBench$Exam", "row", "[I", true)
  | 9 => ("CopyBench$Exam", "place", "[I", true)
  | 10 => ("CopyBench$Exam", "used", "[I", true)
  | 11 => ("CopyBench$Exam", "seenX", "[I", true)
  | 12 => ("CopyBench$Exam", "seenY", "[I", true)
  | 13 => ("CopyBench$Exam", "seenIs", "[Z", true)
  | 14 => ("CopyBench$Exam", "planWhat", "[I", true)
  | 15 => ("CopyBench$Exam", "planK", "[I", true)
  | _ => ("CopyBench$Exam", "planV", "[I", true)
def t_Exam : Nat → FieldType := fun k => match k with
  | 0 => .int
  | 1 => .int
  | 2 => .int
  | 3 => .int
  | 4 => .array .int
  | 5 => .array .int
  | 6 => .array (.array .int)
  | 7 => .array (.array .int)
  | 8 => .array .int
  | 9 => .array .int
  | 10 => .array .int
  | 11 => .array .int
  | 12 => .array .int
  | 13 => .array .boolean
  | 14 => .array .int
  | 15 => .array .int
  | _ => .array .int
theorem n_Exam : ∀ a, a < 17 → ∀ b, b < 17 → a ≠ b → (F_Exam a).2.1 ≠ (F_Exam b).2.1 := by decide +kernel
theorem t_Exam_ok : ∀ k, k < 17 → parseFieldDescriptor (F_Exam k).2.2.1 = some (t_Exam k) := by decide +kernel
theorem i_Exam : ∀ w ∈ u_ws R_Exam F_Exam 17, w ∈ gd := by
  have h1 : ∀ w ∈ u_ws R_Exam F_Exam 17, w ∈ lw_tbl := by decide +kernel
  have h2 : (u_ws R_Exam F_Exam 17).all goodWord = true := by decide +kernel
  exact fun w hw => List.mem_filter.mpr ⟨h1 w hw, List.all_eq_true.mp h2 w hw⟩
def R_Links : String := "CopyBench$Links"
def F_Links : u_T := fun k => match k with
  | _ => ("CopyBench$Links", "suspectWith", "[I", true)
def t_Links : Nat → FieldType := fun k => match k with
  | _ => .array .int
theorem n_Links : ∀ a, a < 1 → ∀ b, b < 1 → a ≠ b → (F_Links a).2.1 ≠ (F_Links b).2.1 := by decide +kernel
theorem t_Links_ok : ∀ k, k < 1 → parseFieldDescriptor (F_Links k).2.2.1 = some (t_Links k) := by decide +kernel
theorem i_Links : ∀ w ∈ u_ws R_Links F_Links 1, w ∈ gd := by
  have h1 : ∀ w ∈ u_ws R_Links F_Links 1, w ∈ lw_tbl := by decide +kernel
  have h2 : (u_ws R_Links F_Links 1).all goodWord = true := by decide +kernel
  exact fun w hw => List.mem_filter.mpr ⟨h1 w hw, List.all_eq_true.mp h2 w hw⟩
def R_Odds : String := "CopyBench$Odds"
def F_Odds : u_T := fun k => match k with
  | 0 => ("CopyBench$Odds", "shares", "[I", true)
  | 1 => ("CopyBench$Odds", "sum", "I", false)
  | 2 => ("CopyBench$Odds", "ways", "[J", true)
  | 3 => ("CopyBench$Odds", "allWays", "J", false)
  | 4 => ("CopyBench$Odds", "likeness", "I", false)
  | 5 => ("CopyBench$Odds", "alikeRight", "J", false)
  | 6 => ("CopyBench$Odds", "alikeWrong", "J", false)
  | _ => ("CopyBench$Odds", "any", "J", false)
def t_Odds : Nat → FieldType := fun k => match k with
  | 0 => .array .int
  | 1 => .int
  | 2 => .array .long
  | 3 => .long
  | 4 => .int
  | 5 => .long
  | 6 => .long
  | _ => .long
theorem n_Odds : ∀ a, a < 8 → ∀ b, b < 8 → a ≠ b → (F_Odds a).2.1 ≠ (F_Odds b).2.1 := by decide +kernel
theorem t_Odds_ok : ∀ k, k < 8 → parseFieldDescriptor (F_Odds k).2.2.1 = some (t_Odds k) := by decide +kernel
theorem i_Odds : ∀ w ∈ u_ws R_Odds F_Odds 8, w ∈ gd := by
  have h1 : ∀ w ∈ u_ws R_Odds F_Odds 8, w ∈ lw_tbl := by decide +kernel
  have h2 : (u_ws R_Odds F_Odds 8).all goodWord = true := by decide +kernel
  exact fun w hw => List.mem_filter.mpr ⟨h1 w hw, List.all_eq_true.mp h2 w hw⟩
def R_Ranking : String := "CopyBench$Ranking"
def F_Ranking : u_T := fun k => match k with
  | 0 => ("CopyBench$Ranking", "size", "I", false)
  | 1 => ("CopyBench$Ranking", "suspects", "I", false)
  | 2 => ("CopyBench$Ranking", "lower", "[I", true)
  | 3 => ("CopyBench$Ranking", "upper", "[I", true)
  | 4 => ("CopyBench$Ranking", "above", "[J", true)
  | 5 => ("CopyBench$Ranking", "below", "[J", true)
  | 6 => ("CopyBench$Ranking", "one", "LCopyBench$Ratio;", true)
  | _ => ("CopyBench$Ranking", "turned", "LCopyBench$Ratio;", true)
def t_Ranking : Nat → FieldType := fun k => match k with
  | 0 => .int
  | 1 => .int
  | 2 => .array .int
  | 3 => .array .int
  | 4 => .array .long
  | 5 => .array .long
  | 6 => .object "CopyBench$Ratio"
  | _ => .object "CopyBench$Ratio"
theorem n_Ranking : ∀ a, a < 8 → ∀ b, b < 8 → a ≠ b → (F_Ranking a).2.1 ≠ (F_Ranking b).2.1 := by decide +kernel
theorem t_Ranking_ok : ∀ k, k < 8 → parseFieldDescriptor (F_Ranking k).2.2.1 = some (t_Ranking k) := by decide +kernel
theorem i_Ranking : ∀ w ∈ u_ws R_Ranking F_Ranking 8, w ∈ gd := by
  have h1 : ∀ w ∈ u_ws R_Ranking F_Ranking 8, w ∈ lw_tbl := by decide +kernel
  have h2 : (u_ws R_Ranking F_Ranking 8).all goodWord = true := by decide +kernel
  exact fun w hw => List.mem_filter.mpr ⟨h1 w hw, List.all_eq_true.mp h2 w hw⟩
def R_Ratio : String := "CopyBench$Ratio"
def F_Ratio : u_T := fun k => match k with
  | 0 => ("CopyBench$Ratio", "above", "J", false)
  | _ => ("CopyBench$Ratio", "below", "J", false)
def t_Ratio : Nat → FieldType := fun k => match k with
  | 0 => .long
  | _ => .long
theorem n_Ratio : ∀ a, a < 2 → ∀ b, b < 2 → a ≠ b → (F_Ratio a).2.1 ≠ (F_Ratio b).2.1 := by decide +kernel
theorem t_Ratio_ok : ∀ k, k < 2 → parseFieldDescriptor (F_Ratio k).2.2.1 = some (t_Ratio k) := by decide +kernel
theorem i_Ratio : ∀ w ∈ u_ws R_Ratio F_Ratio 2, w ∈ gd := by
  have h1 : ∀ w ∈ u_ws R_Ratio F_Ratio 2, w ∈ lw_tbl := by decide +kernel
  have h2 : (u_ws R_Ratio F_Ratio 2).all goodWord = true := by decide +kernel
  exact fun w hw => List.mem_filter.mpr ⟨h1 w hw, List.all_eq_true.mp h2 w hw⟩
def R_Seating : String := "CopyBench$Seating"
def F_Seating : u_T := fun k => match k with
  | 0 => ("CopyBench$Seating", "size", "I", false)
  | 1 => ("CopyBench$Seating", "who", "[I", true)
  | 2 => ("CopyBench$Seating", "seatOf", "[I", true)
  | 3 => ("CopyBench$Seating", "nearTo", "[I", true)
  | _ => ("CopyBench$Seating", "suspectWith", "[I", true)
def t_Seating : Nat → FieldType := fun k => match k with
  | 0 => .int
  | 1 => .array .int
  | 2 => .array .int
  | 3 => .array .int
  | _ => .array .int
theorem n_Seating : ∀ a, a < 5 → ∀ b, b < 5 → a ≠ b → (F_Seating a).2.1 ≠ (F_Seating b).2.1 := by decide +kernel
theorem t_Seating_ok : ∀ k, k < 5 → parseFieldDescriptor (F_Seating k).2.2.1 = some (t_Seating k) := by decide +kernel
theorem i_Seating : ∀ w ∈ u_ws R_Seating F_Seating 5, w ∈ gd := by
  have h1 : ∀ w ∈ u_ws R_Seating F_Seating 5, w ∈ lw_tbl := by decide +kernel
  have h2 : (u_ws R_Seating F_Seating 5).all goodWord = true := by decide +kernel
  exact fun w hw => List.mem_filter.mpr ⟨h1 w hw, List.all_eq_true.mp h2 w hw⟩
def R_Tape : String := "CopyBench$Tape"
def F_Tape : u_T := fun k => match k with
  | 0 => ("CopyBench$Tape", "sort", "I", false)
  | 1 => ("CopyBench$Tape", "size", "I", false)
  | _ => ("CopyBench$Tape", "row", "[J", true)
def t_Tape : Nat → FieldType := fun k => match k with
  | 0 => .int
  | 1 => .int
  | _ => .array .long
theorem n_Tape : ∀ a, a < 3 → ∀ b, b < 3 → a ≠ b → (F_Tape a).2.1 ≠ (F_Tape b).2.1 := by decide +kernel
theorem t_Tape_ok : ∀ k, k < 3 → parseFieldDescriptor (F_Tape k).2.2.1 = some (t_Tape k) := by decide +kernel
theorem i_Tape : ∀ w ∈ u_ws R_Tape F_Tape 3, w ∈ gd := by
  have h1 : ∀ w ∈ u_ws R_Tape F_Tape 3, w ∈ lw_tbl := by decide +kernel
  have h2 : (u_ws R_Tape F_Tape 3).all goodWord = true := by decide +kernel
  exact fun w hw => List.mem_filter.mpr ⟨h1 w hw, List.all_eq_true.mp h2 w hw⟩
def R_Text : String := "CopyBench$Text"
def F_Text : u_T := fun k => match k with
  | 0 => ("CopyBench$Text", "size", "I", false)
  | _ => ("CopyBench$Text", "signs", "[I", true)
def t_Text : Nat → FieldType := fun k => match k with
  | 0 => .int
  | _ => .array .int
theorem n_Text : ∀ a, a < 2 → ∀ b, b < 2 → a ≠ b → (F_Text a).2.1 ≠ (F_Text b).2.1 := by decide +kernel
theorem t_Text_ok : ∀ k, k < 2 → parseFieldDescriptor (F_Text k).2.2.1 = some (t_Text k) := by decide +kernel
theorem i_Text : ∀ w ∈ u_ws R_Text F_Text 2, w ∈ gd := by
  have h1 : ∀ w ∈ u_ws R_Text F_Text 2, w ∈ lw_tbl := by decide +kernel
  have h2 : (u_ws R_Text F_Text 2).all goodWord = true := by decide +kernel
  exact fun w hw => List.mem_filter.mpr ⟨h1 w hw, List.all_eq_true.mp h2 w hw⟩
def R_Cb : String := "CopyBench"
def F_Cb : u_T := fun k => match k with
  | 0 => ("CopyBench", "now", "LCopyBench$Exam;", true)
  | 1 => ("CopyBench", "kept", "LCopyBench$Exam;", true)
  | 2 => ("CopyBench", "trial", "LCopyBench$Exam;", true)
  | 3 => ("CopyBench", "imageTaken", "Z", false)
  | 4 => ("CopyBench", "text", "LCopyBench$Text;", true)
  | 5 => ("CopyBench", "tapes", "[LCopyBench$Tape;", true)
  | 6 => ("CopyBench", "odds", "LCopyBench$Odds;", true)
  | 7 => ("CopyBench", "first", "LCopyBench$Ratio;", true)
  | 8 => ("CopyBench", "second", "LCopyBench$Ratio;", true)
  | 9 => ("CopyBench", "ranking", "LCopyBench$Ranking;", true)
  | 10 => ("CopyBench", "links", "LCopyBench$Links;", true)
  | 11 => ("CopyBench", "seating", "LCopyBench$Seating;", true)
  | _ => ("CopyBench", "draws", "LCopyBench$Draws;", true)
def t_Cb : Nat → FieldType := fun k => match k with
  | 0 => .object "CopyBench$Exam"
  | 1 => .object "CopyBench$Exam"
  | 2 => .object "CopyBench$Exam"
  | 3 => .boolean
  | 4 => .object "CopyBench$Text"
  | 5 => .array (.object "CopyBench$Tape")
  | 6 => .object "CopyBench$Odds"
  | 7 => .object "CopyBench$Ratio"
  | 8 => .object "CopyBench$Ratio"
  | 9 => .object "CopyBench$Ranking"
  | 10 => .object "CopyBench$Links"
  | 11 => .object "CopyBench$Seating"
  | _ => .object "CopyBench$Draws"
theorem n_Cb : ∀ a, a < 13 → ∀ b, b < 13 → a ≠ b → (F_Cb a).2.1 ≠ (F_Cb b).2.1 := by decide +kernel
theorem t_Cb_ok : ∀ k, k < 13 → parseFieldDescriptor (F_Cb k).2.2.1 = some (t_Cb k) := by decide +kernel
theorem i_Cb : ∀ w ∈ u_ws R_Cb F_Cb 13, w ∈ gd := by
  have h1 : ∀ w ∈ u_ws R_Cb F_Cb 13, w ∈ lw_tbl := by decide +kernel
  have h2 : (u_ws R_Cb F_Cb 13).all goodWord = true := by decide +kernel
  exact fun w hw => List.mem_filter.mpr ⟨h1 w hw, List.all_eq_true.mp h2 w hw⟩
def R_Md : String := "CopyBenchModel"
def F_Md : u_T := fun k => match k with
  | 0 => ("CopyBenchModel", "n", "I", false)
  | 1 => ("CopyBenchModel", "many", "I", false)
  | 2 => ("CopyBenchModel", "right", "[I", true)
  | 3 => ("CopyBenchModel", "kind", "[I", true)
  | 4 => ("CopyBenchModel", "parts", "[I", true)
  | 5 => ("CopyBenchModel", "given", "[I", true)
  | 6 => ("CopyBenchModel", "row", "[I", true)
  | 7 => ("CopyBenchModel", "place", "[I", true)
  | 8 => ("CopyBenchModel", "used", "[I", true)
  | 9 => ("CopyBenchModel", "seenX", "[I", true)
  | 10 => ("CopyBenchModel", "seenY", "[I", true)
  | 11 => ("CopyBenchModel", "seenIs", "[I", true)
  | 12 => ("CopyBenchModel", "planWhat", "[I", true)
  | 13 => ("CopyBenchModel", "planK", "[I", true)
  | 14 => ("CopyBenchModel", "planV", "[I", true)
  | 15 => ("CopyBenchModel", "seen", "I", false)
  | 16 => ("CopyBenchModel", "plans", "I", false)
  | 17 => ("CopyBenchModel", "text", "[I", true)
  | 18 => ("CopyBenchModel", "texted", "I", false)
  | 19 => ("CopyBenchModel", "imaged", "[I", true)
  | 20 => ("CopyBenchModel", "isKept", "Z", false)
  | 21 => ("CopyBenchModel", "spot", "I", false)
  | 22 => ("CopyBenchModel", "keeps", "Z", false)
  | 23 => ("CopyBenchModel", "at", "I", false)
  | 24 => ("CopyBenchModel", "isFaulty", "Z", false)
  | 25 => ("CopyBenchModel", "whole", "I", false)
  | 26 => ("CopyBenchModel", "ways", "[J", true)
  | 27 => ("CopyBenchModel", "before", "[J", true)
  | 28 => ("CopyBenchModel", "below", "J", false)
  | 29 => ("CopyBenchModel", "pairs", "I", false)
  | 30 => ("CopyBenchModel", "pairX", "[I", true)
  | 31 => ("CopyBenchModel", "pairY", "[I", true)
  | 32 => ("CopyBenchModel", "above", "[J", true)
  | 33 => ("CopyBenchModel", "under", "[J", true)
  | 34 => ("CopyBenchModel", "isSuspect", "[Z", true)
  | 35 => ("CopyBenchModel", "links", "[I", true)
  | 36 => ("CopyBenchModel", "sits", "[I", true)
  | 37 => ("CopyBenchModel", "seatOf", "[I", true)
  | 38 => ("CopyBenchModel", "sitters", "I", false)
  | 39 => ("CopyBenchModel", "seedNow", "I", false)
  | 40 => ("CopyBenchModel", "givenWas", "[I", true)
  | 41 => ("CopyBenchModel", "rightWas", "[I", true)
  | 42 => ("CopyBenchModel", "kindWas", "[I", true)
  | 43 => ("CopyBenchModel", "tapes", "[[J", true)
  | 44 => ("CopyBenchModel", "tapeSort", "[I", true)
  | 45 => ("CopyBenchModel", "tapeSize", "[I", true)
  | _ => ("CopyBenchModel", "moved", "[J", true)
def t_Md : Nat → FieldType := fun k => match k with
  | 0 => .int
  | 1 => .int
  | 2 => .array .int
  | 3 => .array .int
  | 4 => .array .int
  | 5 => .array .int
  | 6 => .array .int
  | 7 => .array .int
  | 8 => .array .int
  | 9 => .array .int
  | 10 => .array .int
  | 11 => .array .int
  | 12 => .array .int
  | 13 => .array .int
  | 14 => .array .int
  | 15 => .int
  | 16 => .int
  | 17 => .array .int
  | 18 => .int
  | 19 => .array .int
  | 20 => .boolean
  | 21 => .int
  | 22 => .boolean
  | 23 => .int
  | 24 => .boolean
  | 25 => .int
  | 26 => .array .long
  | 27 => .array .long
  | 28 => .long
  | 29 => .int
  | 30 => .array .int
  | 31 => .array .int
  | 32 => .array .long
  | 33 => .array .long
  | 34 => .array .boolean
  | 35 => .array .int
  | 36 => .array .int
  | 37 => .array .int
  | 38 => .int
  | 39 => .int
  | 40 => .array .int
  | 41 => .array .int
  | 42 => .array .int
  | 43 => .array (.array .long)
  | 44 => .array .int
  | 45 => .array .int
  | _ => .array .long
theorem n_Md : ∀ a, a < 47 → ∀ b, b < 47 → a ≠ b → (F_Md a).2.1 ≠ (F_Md b).2.1 := by decide +kernel
theorem t_Md_ok : ∀ k, k < 47 → parseFieldDescriptor (F_Md k).2.2.1 = some (t_Md k) := by decide +kernel
theorem i_Md : ∀ w ∈ u_ws R_Md F_Md 47, w ∈ gd := by
  have h1 : ∀ w ∈ u_ws R_Md F_Md 47, w ∈ lw_tbl := by decide +kernel
  have h2 : (u_ws R_Md F_Md 47).all goodWord = true := by decide +kernel
  exact fun w hw => List.mem_filter.mpr ⟨h1 w hw, List.all_eq_true.mp h2 w hw⟩
def R_law : String := "CopyBenchLaw"
def CL : List vw_C := [(R_Draws, F_Draws, 1), (R_Exam, F_Exam, 17), (R_Links, F_Links, 1), (R_Odds, F_Odds, 8), (R_Ranking, F_Ranking, 8), (R_Ratio, F_Ratio, 2), (R_Seating, F_Seating, 5), (R_Tape, F_Tape, 3), (R_Text, F_Text, 2), (R_Cb, F_Cb, 13), (R_Md, F_Md, 47)]
abbrev k_Cb_init : ByteArray := prog_1_method_1_code
def y_Cb_init : MethodName := ⟨"CopyBench", "<init>", "()V"⟩
theorem co_Cb_init : Cond.code y_Cb_init k_Cb_init 2 (Option.none : Option FieldType) ∈ gd := tb_1 (i := 19) rfl rfl
theorem im_Cb_init : Cond.instanceMethod y_Cb_init ∈ gd := tb_1 (i := 18) rfl rfl
abbrev k_Cb_items : ByteArray := prog_1_method_2_code
def y_Cb_items : MethodName := ⟨"CopyBench", "items", "(I)I"⟩
theorem co_Cb_items : Cond.code y_Cb_items k_Cb_items 3 (Option.some FieldType.int) ∈ gd := tb_2 (i := 94) rfl rfl
theorem im_Cb_items : Cond.instanceMethod y_Cb_items ∈ gd := tb_2 (i := 92) rfl rfl
theorem se_Cb_items : Cond.selects "CopyBench" y_Cb_items y_Cb_items ∈ gd := tb_2 (i := 93) rfl rfl
abbrev k_Cb_right : ByteArray := prog_1_method_3_code
def y_Cb_right : MethodName := ⟨"CopyBench", "right", "(II)I"⟩
theorem co_Cb_right : Cond.code y_Cb_right k_Cb_right 4 (Option.some FieldType.int) ∈ gd := tb_2 (i := 99) rfl rfl
theorem im_Cb_right : Cond.instanceMethod y_Cb_right ∈ gd := tb_2 (i := 97) rfl rfl
theorem se_Cb_right : Cond.selects "CopyBench" y_Cb_right y_Cb_right ∈ gd := tb_2 (i := 98) rfl rfl
abbrev k_Cb_model : ByteArray := prog_1_method_4_code
def y_Cb_model : MethodName := ⟨"CopyBench", "model", "(II)I"⟩
theorem co_Cb_model : Cond.code y_Cb_model k_Cb_model 4 (Option.some FieldType.int) ∈ gd := tb_2 (i := 110) rfl rfl
theorem im_Cb_model : Cond.instanceMethod y_Cb_model ∈ gd := tb_2 (i := 108) rfl rfl
theorem se_Cb_model : Cond.selects "CopyBench" y_Cb_model y_Cb_model ∈ gd := tb_2 (i := 109) rfl rfl
abbrev k_Cb_part : ByteArray := prog_1_method_5_code
def y_Cb_part : MethodName := ⟨"CopyBench", "part", "(III)I"⟩
theorem co_Cb_part : Cond.code y_Cb_part k_Cb_part 5 (Option.some FieldType.int) ∈ gd := tb_2 (i := 117) rfl rfl
theorem im_Cb_part : Cond.instanceMethod y_Cb_part ∈ gd := tb_2 (i := 115) rfl rfl
theorem se_Cb_part : Cond.selects "CopyBench" y_Cb_part y_Cb_part ∈ gd := tb_2 (i := 116) rfl rfl
abbrev k_Cb_candidate : ByteArray := prog_1_method_6_code
def y_Cb_candidate : MethodName := ⟨"CopyBench", "candidate", "()I"⟩
theorem co_Cb_candidate : Cond.code y_Cb_candidate k_Cb_candidate 1 (Option.some FieldType.int) ∈ gd := tb_2 (i := 121) rfl rfl
theorem im_Cb_candidate : Cond.instanceMethod y_Cb_candidate ∈ gd := tb_2 (i := 119) rfl rfl
theorem se_Cb_candidate : Cond.selects "CopyBench" y_Cb_candidate y_Cb_candidate ∈ gd := tb_2 (i := 120) rfl rfl
abbrev k_Cb_gives : ByteArray := prog_1_method_7_code
def y_Cb_gives : MethodName := ⟨"CopyBench", "gives", "(III)I"⟩
theorem co_Cb_gives : Cond.code y_Cb_gives k_Cb_gives 5 (Option.some FieldType.int) ∈ gd := tb_2 (i := 129) rfl rfl
theorem im_Cb_gives : Cond.instanceMethod y_Cb_gives ∈ gd := tb_2 (i := 127) rfl rfl
theorem se_Cb_gives : Cond.selects "CopyBench" y_Cb_gives y_Cb_gives ∈ gd := tb_2 (i := 128) rfl rfl
abbrev k_Cb_seat : ByteArray := prog_1_method_8_code
def y_Cb_seat : MethodName := ⟨"CopyBench", "seat", "(III)I"⟩
theorem co_Cb_seat : Cond.code y_Cb_seat k_Cb_seat 5 (Option.some FieldType.int) ∈ gd := tb_2 (i := 140) rfl rfl
theorem im_Cb_seat : Cond.instanceMethod y_Cb_seat ∈ gd := tb_2 (i := 138) rfl rfl
theorem se_Cb_seat : Cond.selects "CopyBench" y_Cb_seat y_Cb_seat ∈ gd := tb_2 (i := 139) rfl rfl
abbrev k_Cb_feed : ByteArray := prog_1_method_9_code
def y_Cb_feed : MethodName := ⟨"CopyBench", "feed", "(I)I"⟩
theorem co_Cb_feed : Cond.code y_Cb_feed k_Cb_feed 2 (Option.some FieldType.int) ∈ gd := tb_2 (i := 149) rfl rfl
theorem im_Cb_feed : Cond.instanceMethod y_Cb_feed ∈ gd := tb_2 (i := 147) rfl rfl
theorem se_Cb_feed : Cond.selects "CopyBench" y_Cb_feed y_Cb_feed ∈ gd := tb_2 (i := 148) rfl rfl
abbrev k_Cb_read : ByteArray := prog_1_method_10_code
def y_Cb_read : MethodName := ⟨"CopyBench", "read", "()I"⟩
theorem co_Cb_read : Cond.code y_Cb_read k_Cb_read 2 (Option.some FieldType.int) ∈ gd := tb_2 (i := 161) rfl rfl
theorem im_Cb_read : Cond.instanceMethod y_Cb_read ∈ gd := tb_2 (i := 159) rfl rfl
theorem se_Cb_read : Cond.selects "CopyBench" y_Cb_read y_Cb_read ∈ gd := tb_2 (i := 160) rfl rfl
abbrev k_Cb_use : ByteArray := prog_1_method_11_code
def y_Cb_use : MethodName := ⟨"CopyBench", "use", "(II)I"⟩
theorem co_Cb_use : Cond.code y_Cb_use k_Cb_use 4 (Option.some FieldType.int) ∈ gd := tb_2 (i := 182) rfl rfl
theorem im_Cb_use : Cond.instanceMethod y_Cb_use ∈ gd := tb_2 (i := 180) rfl rfl
theorem se_Cb_use : Cond.selects "CopyBench" y_Cb_use y_Cb_use ∈ gd := tb_2 (i := 181) rfl rfl
abbrev k_Cb_answer : ByteArray := prog_1_method_12_code
def y_Cb_answer : MethodName := ⟨"CopyBench", "answer", "(II)I"⟩
theorem co_Cb_answer : Cond.code y_Cb_answer k_Cb_answer 3 (Option.some FieldType.int) ∈ gd := tb_2 (i := 192) rfl rfl
theorem im_Cb_answer : Cond.instanceMethod y_Cb_answer ∈ gd := tb_2 (i := 190) rfl rfl
theorem se_Cb_answer : Cond.selects "CopyBench" y_Cb_answer y_Cb_answer ∈ gd := tb_2 (i := 191) rfl rfl
abbrev k_Cb_of : ByteArray := prog_1_method_13_code
def y_Cb_of : MethodName := ⟨"CopyBench", "of", "(II)I"⟩
theorem co_Cb_of : Cond.code y_Cb_of k_Cb_of 3 (Option.some FieldType.int) ∈ gd := tb_2 (i := 196) rfl rfl
theorem im_Cb_of : Cond.instanceMethod y_Cb_of ∈ gd := tb_2 (i := 194) rfl rfl
theorem se_Cb_of : Cond.selects "CopyBench" y_Cb_of y_Cb_of ∈ gd := tb_2 (i := 195) rfl rfl
abbrev k_Cb_itemOf : ByteArray := prog_1_method_14_code
def y_Cb_itemOf : MethodName := ⟨"CopyBench", "itemOf", "(II)I"⟩
theorem co_Cb_itemOf : Cond.code y_Cb_itemOf k_Cb_itemOf 3 (Option.some FieldType.int) ∈ gd := tb_2 (i := 208) rfl rfl
theorem im_Cb_itemOf : Cond.instanceMethod y_Cb_itemOf ∈ gd := tb_2 (i := 206) rfl rfl
theorem se_Cb_itemOf : Cond.selects "CopyBench" y_Cb_itemOf y_Cb_itemOf ∈ gd := tb_2 (i := 207) rfl rfl
abbrev k_Cb_taken : ByteArray := prog_1_method_15_code
def y_Cb_taken : MethodName := ⟨"CopyBench", "taken", "(II)I"⟩
theorem co_Cb_taken : Cond.code y_Cb_taken k_Cb_taken 4 (Option.some FieldType.int) ∈ gd := tb_2 (i := 225) rfl rfl
theorem im_Cb_taken : Cond.instanceMethod y_Cb_taken ∈ gd := tb_2 (i := 223) rfl rfl
theorem se_Cb_taken : Cond.selects "CopyBench" y_Cb_taken y_Cb_taken ∈ gd := tb_2 (i := 224) rfl rfl
abbrev k_Cb_share : ByteArray := prog_1_method_16_code
def y_Cb_share : MethodName := ⟨"CopyBench", "share", "(IIII)I"⟩
theorem co_Cb_share : Cond.code y_Cb_share k_Cb_share 5 (Option.some FieldType.int) ∈ gd := tb_2 (i := 232) rfl rfl
theorem im_Cb_share : Cond.instanceMethod y_Cb_share ∈ gd := tb_2 (i := 230) rfl rfl
theorem se_Cb_share : Cond.selects "CopyBench" y_Cb_share y_Cb_share ∈ gd := tb_2 (i := 231) rfl rfl
abbrev k_Cb_alike : ByteArray := prog_1_method_17_code
def y_Cb_alike : MethodName := ⟨"CopyBench", "alike", "(II)I"⟩
theorem co_Cb_alike : Cond.code y_Cb_alike k_Cb_alike 3 (Option.some FieldType.int) ∈ gd := tb_3 (i := 9) rfl rfl
theorem im_Cb_alike : Cond.instanceMethod y_Cb_alike ∈ gd := tb_3 (i := 7) rfl rfl
theorem se_Cb_alike : Cond.selects "CopyBench" y_Cb_alike y_Cb_alike ∈ gd := tb_3 (i := 8) rfl rfl
abbrev k_Cb_odds : ByteArray := prog_1_method_18_code
def y_Cb_odds : MethodName := ⟨"CopyBench", "odds", "(IIII)J"⟩
theorem co_Cb_odds : Cond.code y_Cb_odds k_Cb_odds 5 (Option.some FieldType.long) ∈ gd := tb_3 (i := 25) rfl rfl
theorem im_Cb_odds : Cond.instanceMethod y_Cb_odds ∈ gd := tb_3 (i := 23) rfl rfl
theorem se_Cb_odds : Cond.selects "CopyBench" y_Cb_odds y_Cb_odds ∈ gd := tb_3 (i := 24) rfl rfl
abbrev k_Cb_just : ByteArray := prog_1_method_19_code
def y_Cb_just : MethodName := ⟨"CopyBench", "just", "(IIIII)J"⟩
theorem co_Cb_just : Cond.code y_Cb_just k_Cb_just 6 (Option.some FieldType.long) ∈ gd := tb_3 (i := 95) rfl rfl
theorem im_Cb_just : Cond.instanceMethod y_Cb_just ∈ gd := tb_3 (i := 93) rfl rfl
theorem se_Cb_just : Cond.selects "CopyBench" y_Cb_just y_Cb_just ∈ gd := tb_3 (i := 94) rfl rfl
abbrev k_Cb_source : ByteArray := prog_1_method_20_code
def y_Cb_source : MethodName := ⟨"CopyBench", "source", "(II)I"⟩
theorem co_Cb_source : Cond.code y_Cb_source k_Cb_source 4 (Option.some FieldType.int) ∈ gd := tb_3 (i := 103) rfl rfl
theorem im_Cb_source : Cond.instanceMethod y_Cb_source ∈ gd := tb_3 (i := 101) rfl rfl
theorem se_Cb_source : Cond.selects "CopyBench" y_Cb_source y_Cb_source ∈ gd := tb_3 (i := 102) rfl rfl
abbrev k_Cb_without : ByteArray := prog_1_method_21_code
def y_Cb_without : MethodName := ⟨"CopyBench", "without", "(IIII)J"⟩
theorem co_Cb_without : Cond.code y_Cb_without k_Cb_without 5 (Option.some FieldType.long) ∈ gd := tb_3 (i := 114) rfl rfl
theorem im_Cb_without : Cond.instanceMethod y_Cb_without ∈ gd := tb_3 (i := 112) rfl rfl
theorem se_Cb_without : Cond.selects "CopyBench" y_Cb_without y_Cb_without ∈ gd := tb_3 (i := 113) rfl rfl
abbrev k_Cb_key : ByteArray := prog_1_method_22_code
def y_Cb_key : MethodName := ⟨"CopyBench", "key", "(II)I"⟩
theorem co_Cb_key : Cond.code y_Cb_key k_Cb_key 5 (Option.some FieldType.int) ∈ gd := tb_3 (i := 122) rfl rfl
theorem im_Cb_key : Cond.instanceMethod y_Cb_key ∈ gd := tb_3 (i := 120) rfl rfl
theorem se_Cb_key : Cond.selects "CopyBench" y_Cb_key y_Cb_key ∈ gd := tb_3 (i := 121) rfl rfl
abbrev k_Cb_pairs : ByteArray := prog_1_method_23_code
def y_Cb_pairs : MethodName := ⟨"CopyBench", "pairs", "(II)I"⟩
theorem co_Cb_pairs : Cond.code y_Cb_pairs k_Cb_pairs 3 (Option.some FieldType.int) ∈ gd := tb_3 (i := 130) rfl rfl
theorem im_Cb_pairs : Cond.instanceMethod y_Cb_pairs ∈ gd := tb_3 (i := 128) rfl rfl
theorem se_Cb_pairs : Cond.selects "CopyBench" y_Cb_pairs y_Cb_pairs ∈ gd := tb_3 (i := 129) rfl rfl
abbrev k_Cb_pair : ByteArray := prog_1_method_24_code
def y_Cb_pair : MethodName := ⟨"CopyBench", "pair", "(II)I"⟩
theorem co_Cb_pair : Cond.code y_Cb_pair k_Cb_pair 3 (Option.some FieldType.int) ∈ gd := tb_3 (i := 215) rfl rfl
theorem im_Cb_pair : Cond.instanceMethod y_Cb_pair ∈ gd := tb_3 (i := 213) rfl rfl
theorem se_Cb_pair : Cond.selects "CopyBench" y_Cb_pair y_Cb_pair ∈ gd := tb_3 (i := 214) rfl rfl
abbrev k_Cb_pairOdds : ByteArray := prog_1_method_25_code
def y_Cb_pairOdds : MethodName := ⟨"CopyBench", "pairOdds", "(II)J"⟩
theorem co_Cb_pairOdds : Cond.code y_Cb_pairOdds k_Cb_pairOdds 3 (Option.some FieldType.long) ∈ gd := tb_3 (i := 223) rfl rfl
theorem im_Cb_pairOdds : Cond.instanceMethod y_Cb_pairOdds ∈ gd := tb_3 (i := 221) rfl rfl
theorem se_Cb_pairOdds : Cond.selects "CopyBench" y_Cb_pairOdds y_Cb_pairOdds ∈ gd := tb_3 (i := 222) rfl rfl
abbrev k_Cb_rank : ByteArray := prog_1_method_26_code
def y_Cb_rank : MethodName := ⟨"CopyBench", "rank", "(II)I"⟩
theorem co_Cb_rank : Cond.code y_Cb_rank k_Cb_rank 3 (Option.some FieldType.int) ∈ gd := tb_3 (i := 227) rfl rfl
theorem im_Cb_rank : Cond.instanceMethod y_Cb_rank ∈ gd := tb_3 (i := 225) rfl rfl
theorem se_Cb_rank : Cond.selects "CopyBench" y_Cb_rank y_Cb_rank ∈ gd := tb_3 (i := 226) rfl rfl
abbrev k_Cb_linked : ByteArray := prog_1_method_27_code
def y_Cb_linked : MethodName := ⟨"CopyBench", "linked", "(I)I"⟩
theorem co_Cb_linked : Cond.code y_Cb_linked k_Cb_linked 2 (Option.some FieldType.int) ∈ gd := tb_3 (i := 237) rfl rfl
theorem im_Cb_linked : Cond.instanceMethod y_Cb_linked ∈ gd := tb_3 (i := 235) rfl rfl
theorem se_Cb_linked : Cond.selects "CopyBench" y_Cb_linked y_Cb_linked ∈ gd := tb_3 (i := 236) rfl rfl
abbrev k_Cb_chain : ByteArray := prog_1_method_28_code
def y_Cb_chain : MethodName := ⟨"CopyBench", "chain", "(I)I"⟩
theorem co_Cb_chain : Cond.code y_Cb_chain k_Cb_chain 2 (Option.some FieldType.int) ∈ gd := tb_4 (i := 1) rfl rfl
theorem im_Cb_chain : Cond.instanceMethod y_Cb_chain ∈ gd := tb_3 (i := 239) rfl rfl
theorem se_Cb_chain : Cond.selects "CopyBench" y_Cb_chain y_Cb_chain ∈ gd := tb_4 (i := 0) rfl rfl
abbrev k_Cb_group : ByteArray := prog_1_method_29_code
def y_Cb_group : MethodName := ⟨"CopyBench", "group", "(I)I"⟩
theorem co_Cb_group : Cond.code y_Cb_group k_Cb_group 2 (Option.some FieldType.int) ∈ gd := tb_4 (i := 9) rfl rfl
theorem im_Cb_group : Cond.instanceMethod y_Cb_group ∈ gd := tb_4 (i := 7) rfl rfl
theorem se_Cb_group : Cond.selects "CopyBench" y_Cb_group y_Cb_group ∈ gd := tb_4 (i := 8) rfl rfl
abbrev k_Cb_seated : ByteArray := prog_1_method_30_code
def y_Cb_seated : MethodName := ⟨"CopyBench", "seated", "(II)J"⟩
theorem co_Cb_seated : Cond.code y_Cb_seated k_Cb_seated 3 (Option.some FieldType.long) ∈ gd := tb_4 (i := 17) rfl rfl
theorem im_Cb_seated : Cond.instanceMethod y_Cb_seated ∈ gd := tb_4 (i := 15) rfl rfl
theorem se_Cb_seated : Cond.selects "CopyBench" y_Cb_seated y_Cb_seated ∈ gd := tb_4 (i := 16) rfl rfl
abbrev k_Cb_drawn : ByteArray := prog_1_method_31_code
def y_Cb_drawn : MethodName := ⟨"CopyBench", "drawn", "(III)I"⟩
theorem co_Cb_drawn : Cond.code y_Cb_drawn k_Cb_drawn 4 (Option.some FieldType.int) ∈ gd := tb_4 (i := 52) rfl rfl
theorem im_Cb_drawn : Cond.instanceMethod y_Cb_drawn ∈ gd := tb_4 (i := 50) rfl rfl
theorem se_Cb_drawn : Cond.selects "CopyBench" y_Cb_drawn y_Cb_drawn ∈ gd := tb_4 (i := 51) rfl rfl
abbrev k_Cb_chance : ByteArray := prog_1_method_32_code
def y_Cb_chance : MethodName := ⟨"CopyBench", "chance", "(IIIII)J"⟩
theorem co_Cb_chance : Cond.code y_Cb_chance k_Cb_chance 8 (Option.some FieldType.long) ∈ gd := tb_4 (i := 72) rfl rfl
theorem im_Cb_chance : Cond.instanceMethod y_Cb_chance ∈ gd := tb_4 (i := 70) rfl rfl
theorem se_Cb_chance : Cond.selects "CopyBench" y_Cb_chance y_Cb_chance ∈ gd := tb_4 (i := 71) rfl rfl
abbrev k_Cb_see : ByteArray := prog_1_method_33_code
def y_Cb_see : MethodName := ⟨"CopyBench", "see", "(IIZ)I"⟩
theorem co_Cb_see : Cond.code y_Cb_see k_Cb_see 4 (Option.some FieldType.int) ∈ gd := tb_4 (i := 78) rfl rfl
theorem im_Cb_see : Cond.instanceMethod y_Cb_see ∈ gd := tb_4 (i := 76) rfl rfl
theorem se_Cb_see : Cond.selects "CopyBench" y_Cb_see y_Cb_see ∈ gd := tb_4 (i := 77) rfl rfl
abbrev k_Cb_fits : ByteArray := prog_1_method_34_code
def y_Cb_fits : MethodName := ⟨"CopyBench", "fits", "(I)I"⟩
theorem co_Cb_fits : Cond.code y_Cb_fits k_Cb_fits 5 (Option.some FieldType.int) ∈ gd := tb_4 (i := 86) rfl rfl
theorem im_Cb_fits : Cond.instanceMethod y_Cb_fits ∈ gd := tb_4 (i := 84) rfl rfl
theorem se_Cb_fits : Cond.selects "CopyBench" y_Cb_fits y_Cb_fits ∈ gd := tb_4 (i := 85) rfl rfl
abbrev k_Cb_mean : ByteArray := prog_1_method_35_code
def y_Cb_mean : MethodName := ⟨"CopyBench", "mean", "(I)J"⟩
theorem co_Cb_mean : Cond.code y_Cb_mean k_Cb_mean 3 (Option.some FieldType.long) ∈ gd := tb_4 (i := 95) rfl rfl
theorem im_Cb_mean : Cond.instanceMethod y_Cb_mean ∈ gd := tb_4 (i := 93) rfl rfl
theorem se_Cb_mean : Cond.selects "CopyBench" y_Cb_mean y_Cb_mean ∈ gd := tb_4 (i := 94) rfl rfl
abbrev k_Cb_plan : ByteArray := prog_1_method_36_code
def y_Cb_plan : MethodName := ⟨"CopyBench", "plan", "(III)I"⟩
theorem co_Cb_plan : Cond.code y_Cb_plan k_Cb_plan 4 (Option.some FieldType.int) ∈ gd := tb_4 (i := 105) rfl rfl
theorem im_Cb_plan : Cond.instanceMethod y_Cb_plan ∈ gd := tb_4 (i := 103) rfl rfl
theorem se_Cb_plan : Cond.selects "CopyBench" y_Cb_plan y_Cb_plan ∈ gd := tb_4 (i := 104) rfl rfl
abbrev k_Cb_ends : ByteArray := prog_1_method_37_code
def y_Cb_ends : MethodName := ⟨"CopyBench", "ends", "()I"⟩
theorem co_Cb_ends : Cond.code y_Cb_ends k_Cb_ends 1 (Option.some FieldType.int) ∈ gd := tb_4 (i := 119) rfl rfl
theorem im_Cb_ends : Cond.instanceMethod y_Cb_ends ∈ gd := tb_4 (i := 117) rfl rfl
theorem se_Cb_ends : Cond.selects "CopyBench" y_Cb_ends y_Cb_ends ∈ gd := tb_4 (i := 118) rfl rfl
abbrev k_Cb_judge : ByteArray := prog_1_method_38_code
def y_Cb_judge : MethodName := ⟨"CopyBench", "judge", "(III)I"⟩
theorem co_Cb_judge : Cond.code y_Cb_judge k_Cb_judge 6 (Option.some FieldType.int) ∈ gd := tb_4 (i := 139) rfl rfl
theorem im_Cb_judge : Cond.instanceMethod y_Cb_judge ∈ gd := tb_4 (i := 137) rfl rfl
theorem se_Cb_judge : Cond.selects "CopyBench" y_Cb_judge y_Cb_judge ∈ gd := tb_4 (i := 138) rfl rfl
abbrev k_Cb_image : ByteArray := prog_1_method_39_code
def y_Cb_image : MethodName := ⟨"CopyBench", "image", "()I"⟩
theorem co_Cb_image : Cond.code y_Cb_image k_Cb_image 1 (Option.some FieldType.int) ∈ gd := tb_4 (i := 154) rfl rfl
theorem im_Cb_image : Cond.instanceMethod y_Cb_image ∈ gd := tb_4 (i := 152) rfl rfl
theorem se_Cb_image : Cond.selects "CopyBench" y_Cb_image y_Cb_image ∈ gd := tb_4 (i := 153) rfl rfl
abbrev k_Cb_undo : ByteArray := prog_1_method_40_code
def y_Cb_undo : MethodName := ⟨"CopyBench", "undo", "()I"⟩
theorem co_Cb_undo : Cond.code y_Cb_undo k_Cb_undo 1 (Option.some FieldType.int) ∈ gd := tb_4 (i := 158) rfl rfl
theorem im_Cb_undo : Cond.instanceMethod y_Cb_undo ∈ gd := tb_4 (i := 156) rfl rfl
theorem se_Cb_undo : Cond.selects "CopyBench" y_Cb_undo y_Cb_undo ∈ gd := tb_4 (i := 157) rfl rfl
abbrev k_Cb_count : ByteArray := prog_1_method_41_code
def y_Cb_count : MethodName := ⟨"CopyBench", "count", "(I)I"⟩
theorem co_Cb_count : Cond.code y_Cb_count k_Cb_count 2 (Option.some FieldType.int) ∈ gd := tb_4 (i := 162) rfl rfl
theorem im_Cb_count : Cond.instanceMethod y_Cb_count ∈ gd := tb_4 (i := 160) rfl rfl
theorem se_Cb_count : Cond.selects "CopyBench" y_Cb_count y_Cb_count ∈ gd := tb_4 (i := 161) rfl rfl
abbrev k_Cb_tape : ByteArray := prog_1_method_42_code
def y_Cb_tape : MethodName := ⟨"CopyBench", "tape", "(III)I"⟩
theorem co_Cb_tape : Cond.code y_Cb_tape k_Cb_tape 4 (Option.some FieldType.int) ∈ gd := tb_4 (i := 170) rfl rfl
theorem im_Cb_tape : Cond.instanceMethod y_Cb_tape ∈ gd := tb_4 (i := 168) rfl rfl
theorem se_Cb_tape : Cond.selects "CopyBench" y_Cb_tape y_Cb_tape ∈ gd := tb_4 (i := 169) rfl rfl
abbrev k_Cb_item : ByteArray := prog_1_method_43_code
def y_Cb_item : MethodName := ⟨"CopyBench", "item", "(IIJ)I"⟩
theorem co_Cb_item : Cond.code y_Cb_item k_Cb_item 6 (Option.some FieldType.int) ∈ gd := tb_4 (i := 178) rfl rfl
theorem im_Cb_item : Cond.instanceMethod y_Cb_item ∈ gd := tb_4 (i := 176) rfl rfl
theorem se_Cb_item : Cond.selects "CopyBench" y_Cb_item y_Cb_item ∈ gd := tb_4 (i := 177) rfl rfl
abbrev k_Cb_peek : ByteArray := prog_1_method_44_code
def y_Cb_peek : MethodName := ⟨"CopyBench", "peek", "(II)J"⟩
theorem co_Cb_peek : Cond.code y_Cb_peek k_Cb_peek 3 (Option.some FieldType.long) ∈ gd := tb_4 (i := 190) rfl rfl
theorem im_Cb_peek : Cond.instanceMethod y_Cb_peek ∈ gd := tb_4 (i := 188) rfl rfl
theorem se_Cb_peek : Cond.selects "CopyBench" y_Cb_peek y_Cb_peek ∈ gd := tb_4 (i := 189) rfl rfl
abbrev k_Cb_shift : ByteArray := prog_1_method_45_code
def y_Cb_shift : MethodName := ⟨"CopyBench", "shift", "(IIIII)I"⟩
theorem co_Cb_shift : Cond.code y_Cb_shift k_Cb_shift 8 (Option.some FieldType.int) ∈ gd := tb_4 (i := 194) rfl rfl
theorem im_Cb_shift : Cond.instanceMethod y_Cb_shift ∈ gd := tb_4 (i := 192) rfl rfl
theorem se_Cb_shift : Cond.selects "CopyBench" y_Cb_shift y_Cb_shift ∈ gd := tb_4 (i := 193) rfl rfl
abbrev k_Cb_rankNow : ByteArray := prog_1_method_46_code
def y_Cb_rankNow : MethodName := ⟨"CopyBench", "rankNow", "()V"⟩
theorem co_Cb_rankNow : Cond.code y_Cb_rankNow k_Cb_rankNow 1 (Option.none : Option FieldType) ∈ gd := tb_3 (i := 153) rfl rfl
theorem im_Cb_rankNow : Cond.instanceMethod y_Cb_rankNow ∈ gd := tb_3 (i := 152) rfl rfl
theorem se_Cb_rankNow : Cond.selects "CopyBench" y_Cb_rankNow y_Cb_rankNow ∈ gd := List.mem_filter.mpr ⟨List.mem_append_left _ (List.mem_map.mpr ⟨(y_Cb_rankNow, 13), by decide +kernel, rfl⟩), rfl⟩
abbrev k_Cb_linkNow : ByteArray := prog_1_method_47_code
def y_Cb_linkNow : MethodName := ⟨"CopyBench", "linkNow", "()V"⟩
theorem co_Cb_linkNow : Cond.code y_Cb_linkNow k_Cb_linkNow 1 (Option.none : Option FieldType) ∈ gd := tb_3 (i := 188) rfl rfl
theorem im_Cb_linkNow : Cond.instanceMethod y_Cb_linkNow ∈ gd := tb_3 (i := 187) rfl rfl
theorem se_Cb_linkNow : Cond.selects "CopyBench" y_Cb_linkNow y_Cb_linkNow ∈ gd := List.mem_filter.mpr ⟨List.mem_append_left _ (List.mem_map.mpr ⟨(y_Cb_linkNow, 13), by decide +kernel, rfl⟩), rfl⟩
abbrev k_Cb_orNeither : ByteArray := prog_1_method_48_code
def y_Cb_orNeither : MethodName := ⟨"CopyBench", "orNeither", "(I)I"⟩
theorem co_Cb_orNeither : Cond.code y_Cb_orNeither k_Cb_orNeither 1 (Option.some FieldType.int) ∈ gd := tb_2 (i := 136) rfl rfl
theorem st_Cb_orNeither : Cond.static y_Cb_orNeither ∈ gd := tb_2 (i := 135) rfl rfl
abbrev k_Cb_isAnswer : ByteArray := prog_1_method_49_code
def y_Cb_isAnswer : MethodName := ⟨"CopyBench", "isAnswer", "(I)Z"⟩
theorem co_Cb_isAnswer : Cond.code y_Cb_isAnswer k_Cb_isAnswer 1 (Option.some FieldType.boolean) ∈ gd := tb_2 (i := 106) rfl rfl
theorem st_Cb_isAnswer : Cond.static y_Cb_isAnswer ∈ gd := tb_2 (i := 105) rfl rfl
abbrev k_Cb_isKind : ByteArray := prog_1_method_50_code
def y_Cb_isKind : MethodName := ⟨"CopyBench", "isKind", "(I)Z"⟩
theorem co_Cb_isKind : Cond.code y_Cb_isKind k_Cb_isKind 1 (Option.some FieldType.boolean) ∈ gd := tb_2 (i := 113) rfl rfl
theorem st_Cb_isKind : Cond.static y_Cb_isKind ∈ gd := tb_2 (i := 112) rfl rfl
abbrev k_Cb_isSupposition : ByteArray := prog_1_method_51_code
def y_Cb_isSupposition : MethodName := ⟨"CopyBench", "isSupposition", "(I)Z"⟩
theorem co_Cb_isSupposition : Cond.code y_Cb_isSupposition k_Cb_isSupposition 1 (Option.some FieldType.boolean) ∈ gd := tb_3 (i := 28) rfl rfl
theorem st_Cb_isSupposition : Cond.static y_Cb_isSupposition ∈ gd := tb_3 (i := 27) rfl rfl
abbrev k_Cb_isPart : ByteArray := prog_1_method_52_code
def y_Cb_isPart : MethodName := ⟨"CopyBench", "isPart", "(I)Z"⟩
theorem co_Cb_isPart : Cond.code y_Cb_isPart k_Cb_isPart 1 (Option.some FieldType.boolean) ∈ gd := tb_3 (i := 31) rfl rfl
theorem st_Cb_isPart : Cond.static y_Cb_isPart ∈ gd := tb_3 (i := 30) rfl rfl
abbrev k_Cb_isTape : ByteArray := prog_1_method_53_code
def y_Cb_isTape : MethodName := ⟨"CopyBench", "isTape", "(I)Z"⟩
theorem co_Cb_isTape : Cond.code y_Cb_isTape k_Cb_isTape 1 (Option.some FieldType.boolean) ∈ gd := tb_4 (i := 142) rfl rfl
theorem st_Cb_isTape : Cond.static y_Cb_isTape ∈ gd := tb_4 (i := 141) rfl rfl
abbrev k_Cb_isOfSort : ByteArray := prog_1_method_54_code
def y_Cb_isOfSort : MethodName := ⟨"CopyBench", "isOfSort", "(II)Z"⟩
theorem co_Cb_isOfSort : Cond.code y_Cb_isOfSort k_Cb_isOfSort 2 (Option.some FieldType.boolean) ∈ gd := tb_2 (i := 228) rfl rfl
theorem st_Cb_isOfSort : Cond.static y_Cb_isOfSort ∈ gd := tb_2 (i := 227) rfl rfl
abbrev k_Cb_leastUse : ByteArray := prog_1_method_55_code
def y_Cb_leastUse : MethodName := ⟨"CopyBench", "leastUse", "(I)I"⟩
theorem co_Cb_leastUse : Cond.code y_Cb_leastUse k_Cb_leastUse 1 (Option.some FieldType.int) ∈ gd := tb_2 (i := 185) rfl rfl
theorem st_Cb_leastUse : Cond.static y_Cb_leastUse ∈ gd := tb_2 (i := 184) rfl rfl
abbrev k_Cb_mostUse : ByteArray := prog_1_method_56_code
def y_Cb_mostUse : MethodName := ⟨"CopyBench", "mostUse", "(I)I"⟩
theorem co_Cb_mostUse : Cond.code y_Cb_mostUse k_Cb_mostUse 1 (Option.some FieldType.int) ∈ gd := tb_2 (i := 188) rfl rfl
theorem st_Cb_mostUse : Cond.static y_Cb_mostUse ∈ gd := tb_2 (i := 187) rfl rfl
abbrev k_Md_init : ByteArray := prog_12_method_1_code
def y_Md_init : MethodName := ⟨"CopyBenchModel", "<init>", "()V"⟩
theorem co_Md_init : Cond.code y_Md_init k_Md_init 1 (Option.none : Option FieldType) ∈ gd := tb_4 (i := 204) rfl rfl
theorem im_Md_init : Cond.instanceMethod y_Md_init ∈ gd := tb_4 (i := 203) rfl rfl
abbrev k_Md_in : ByteArray := prog_12_method_2_code
def y_Md_in : MethodName := ⟨"CopyBenchModel", "in", "(JJJ)Z"⟩
theorem co_Md_in : Cond.code y_Md_in k_Md_in 6 (Option.some FieldType.boolean) ∈ gd := tb_5 (i := 141) rfl rfl
theorem st_Md_in : Cond.static y_Md_in ∈ gd := tb_5 (i := 140) rfl rfl
abbrev k_Md_isItem : ByteArray := prog_12_method_3_code
def y_Md_isItem : MethodName := ⟨"CopyBenchModel", "isItem", "(I)Z"⟩
theorem co_Md_isItem : Cond.code y_Md_isItem k_Md_isItem 2 (Option.some FieldType.boolean) ∈ gd := tb_5 (i := 149) rfl rfl
theorem im_Md_isItem : Cond.instanceMethod y_Md_isItem ∈ gd := tb_5 (i := 148) rfl rfl
theorem se_Md_isItem : Cond.selects "CopyBenchModel" y_Md_isItem y_Md_isItem ∈ gd := List.mem_filter.mpr ⟨List.mem_append_left _ (List.mem_map.mpr ⟨(y_Md_isItem, 47), by decide +kernel, rfl⟩), rfl⟩
abbrev k_Md_isOne : ByteArray := prog_12_method_4_code
def y_Md_isOne : MethodName := ⟨"CopyBenchModel", "isOne", "(I)Z"⟩
theorem co_Md_isOne : Cond.code y_Md_isOne k_Md_isOne 2 (Option.some FieldType.boolean) ∈ gd := tb_5 (i := 170) rfl rfl
theorem im_Md_isOne : Cond.instanceMethod y_Md_isOne ∈ gd := tb_5 (i := 169) rfl rfl
theorem se_Md_isOne : Cond.selects "CopyBenchModel" y_Md_isOne y_Md_isOne ∈ gd := List.mem_filter.mpr ⟨List.mem_append_left _ (List.mem_map.mpr ⟨(y_Md_isOne, 47), by decide +kernel, rfl⟩), rfl⟩
abbrev k_Md_isTwo : ByteArray := prog_12_method_5_code
def y_Md_isTwo : MethodName := ⟨"CopyBenchModel", "isTwo", "(II)Z"⟩
theorem co_Md_isTwo : Cond.code y_Md_isTwo k_Md_isTwo 3 (Option.some FieldType.boolean) ∈ gd := tb_6 (i := 13) rfl rfl
theorem im_Md_isTwo : Cond.instanceMethod y_Md_isTwo ∈ gd := tb_6 (i := 12) rfl rfl
theorem se_Md_isTwo : Cond.selects "CopyBenchModel" y_Md_isTwo y_Md_isTwo ∈ gd := List.mem_filter.mpr ⟨List.mem_append_left _ (List.mem_map.mpr ⟨(y_Md_isTwo, 47), by decide +kernel, rfl⟩), rfl⟩
abbrev k_Md_begins : ByteArray := prog_12_method_6_code
def y_Md_begins : MethodName := ⟨"CopyBenchModel", "begins", "()V"⟩
theorem co_Md_begins : Cond.code y_Md_begins k_Md_begins 2 (Option.none : Option FieldType) ∈ gd := tb_4 (i := 211) rfl rfl
theorem im_Md_begins : Cond.instanceMethod y_Md_begins ∈ gd := tb_4 (i := 210) rfl rfl
theorem se_Md_begins : Cond.selects "CopyBenchModel" y_Md_begins y_Md_begins ∈ gd := List.mem_filter.mpr ⟨List.mem_append_left _ (List.mem_map.mpr ⟨(y_Md_begins, 47), by decide +kernel, rfl⟩), rfl⟩
abbrev k_Md_passes : ByteArray := prog_12_method_7_code
def y_Md_passes : MethodName := ⟨"CopyBenchModel", "passes", "(I)I"⟩
theorem co_Md_passes : Cond.code y_Md_passes k_Md_passes 3 (Option.some FieldType.int) ∈ gd := tb_5 (i := 125) rfl rfl
theorem im_Md_passes : Cond.instanceMethod y_Md_passes ∈ gd := tb_5 (i := 124) rfl rfl
theorem se_Md_passes : Cond.selects "CopyBenchModel" y_Md_passes y_Md_passes ∈ gd := List.mem_filter.mpr ⟨List.mem_append_left _ (List.mem_map.mpr ⟨(y_Md_passes, 47), by decide +kernel, rfl⟩), rfl⟩
abbrev k_Md_passesRow : ByteArray := prog_12_method_8_code
def y_Md_passesRow : MethodName := ⟨"CopyBenchModel", "passesRow", "([I)V"⟩
theorem co_Md_passesRow : Cond.code y_Md_passesRow k_Md_passesRow 3 (Option.none : Option FieldType) ∈ gd := tb_5 (i := 129) rfl rfl
theorem im_Md_passesRow : Cond.instanceMethod y_Md_passesRow ∈ gd := tb_5 (i := 128) rfl rfl
theorem se_Md_passesRow : Cond.selects "CopyBenchModel" y_Md_passesRow y_Md_passesRow ∈ gd := List.mem_filter.mpr ⟨List.mem_append_left _ (List.mem_map.mpr ⟨(y_Md_passesRow, 47), by decide +kernel, rfl⟩), rfl⟩
abbrev k_Md_passesAll : ByteArray := prog_12_method_9_code
def y_Md_passesAll : MethodName := ⟨"CopyBenchModel", "passesAll", "(Z)I"⟩
theorem co_Md_passesAll : Cond.code y_Md_passesAll k_Md_passesAll 2 (Option.some FieldType.int) ∈ gd := tb_5 (i := 121) rfl rfl
theorem im_Md_passesAll : Cond.instanceMethod y_Md_passesAll ∈ gd := tb_5 (i := 120) rfl rfl
theorem se_Md_passesAll : Cond.selects "CopyBenchModel" y_Md_passesAll y_Md_passesAll ∈ gd := List.mem_filter.mpr ⟨List.mem_append_left _ (List.mem_map.mpr ⟨(y_Md_passesAll, 47), by decide +kernel, rfl⟩), rfl⟩
abbrev k_Md_image : ByteArray := prog_12_method_10_code
def y_Md_image : MethodName := ⟨"CopyBenchModel", "image", "()I"⟩
theorem co_Md_image : Cond.code y_Md_image k_Md_image 1 (Option.some FieldType.int) ∈ gd := tb_5 (i := 117) rfl rfl
theorem im_Md_image : Cond.instanceMethod y_Md_image ∈ gd := tb_5 (i := 115) rfl rfl
theorem se_Md_image : Cond.selects "CopyBenchModel" y_Md_image y_Md_image ∈ gd := tb_5 (i := 116) rfl rfl
abbrev k_Md_undo : ByteArray := prog_12_method_11_code
def y_Md_undo : MethodName := ⟨"CopyBenchModel", "undo", "()I"⟩
theorem co_Md_undo : Cond.code y_Md_undo k_Md_undo 1 (Option.some FieldType.int) ∈ gd := tb_5 (i := 133) rfl rfl
theorem im_Md_undo : Cond.instanceMethod y_Md_undo ∈ gd := tb_5 (i := 131) rfl rfl
theorem se_Md_undo : Cond.selects "CopyBenchModel" y_Md_undo y_Md_undo ∈ gd := tb_5 (i := 132) rfl rfl
abbrev k_Md_items : ByteArray := prog_12_method_12_code
def y_Md_items : MethodName := ⟨"CopyBenchModel", "items", "(I)I"⟩
theorem co_Md_items : Cond.code y_Md_items k_Md_items 3 (Option.some FieldType.int) ∈ gd := tb_5 (i := 137) rfl rfl
theorem im_Md_items : Cond.instanceMethod y_Md_items ∈ gd := tb_5 (i := 135) rfl rfl
theorem se_Md_items : Cond.selects "CopyBenchModel" y_Md_items y_Md_items ∈ gd := tb_5 (i := 136) rfl rfl
abbrev k_Md_right : ByteArray := prog_12_method_13_code
def y_Md_right : MethodName := ⟨"CopyBenchModel", "right", "(II)I"⟩
theorem co_Md_right : Cond.code y_Md_right k_Md_right 4 (Option.some FieldType.int) ∈ gd := tb_5 (i := 145) rfl rfl
theorem im_Md_right : Cond.instanceMethod y_Md_right ∈ gd := tb_5 (i := 143) rfl rfl
theorem se_Md_right : Cond.selects "CopyBenchModel" y_Md_right y_Md_right ∈ gd := tb_5 (i := 144) rfl rfl
abbrev k_Md_model : ByteArray := prog_12_method_14_code
def y_Md_model : MethodName := ⟨"CopyBenchModel", "model", "(II)I"⟩
theorem co_Md_model : Cond.code y_Md_model k_Md_model 4 (Option.some FieldType.int) ∈ gd := tb_5 (i := 154) rfl rfl
theorem im_Md_model : Cond.instanceMethod y_Md_model ∈ gd := tb_5 (i := 152) rfl rfl
theorem se_Md_model : Cond.selects "CopyBenchModel" y_Md_model y_Md_model ∈ gd := tb_5 (i := 153) rfl rfl
abbrev k_Md_part : ByteArray := prog_12_method_15_code
def y_Md_part : MethodName := ⟨"CopyBenchModel", "part", "(III)I"⟩
theorem co_Md_part : Cond.code y_Md_part k_Md_part 5 (Option.some FieldType.int) ∈ gd := tb_5 (i := 158) rfl rfl
theorem im_Md_part : Cond.instanceMethod y_Md_part ∈ gd := tb_5 (i := 156) rfl rfl
theorem se_Md_part : Cond.selects "CopyBenchModel" y_Md_part y_Md_part ∈ gd := tb_5 (i := 157) rfl rfl
abbrev k_Md_candidate : ByteArray := prog_12_method_16_code
def y_Md_candidate : MethodName := ⟨"CopyBenchModel", "candidate", "()I"⟩
theorem co_Md_candidate : Cond.code y_Md_candidate k_Md_candidate 2 (Option.some FieldType.int) ∈ gd := tb_5 (i := 162) rfl rfl
theorem im_Md_candidate : Cond.instanceMethod y_Md_candidate ∈ gd := tb_5 (i := 160) rfl rfl
theorem se_Md_candidate : Cond.selects "CopyBenchModel" y_Md_candidate y_Md_candidate ∈ gd := tb_5 (i := 161) rfl rfl
abbrev k_Md_told : ByteArray := prog_12_method_17_code
def y_Md_told : MethodName := ⟨"CopyBenchModel", "told", "(I)I"⟩
theorem co_Md_told : Cond.code y_Md_told k_Md_told 1 (Option.some FieldType.int) ∈ gd := tb_5 (i := 174) rfl rfl
theorem st_Md_told : Cond.static y_Md_told ∈ gd := tb_5 (i := 173) rfl rfl
abbrev k_Md_gives : ByteArray := prog_12_method_18_code
def y_Md_gives : MethodName := ⟨"CopyBenchModel", "gives", "(III)I"⟩
theorem co_Md_gives : Cond.code y_Md_gives k_Md_gives 5 (Option.some FieldType.int) ∈ gd := tb_5 (i := 166) rfl rfl
theorem im_Md_gives : Cond.instanceMethod y_Md_gives ∈ gd := tb_5 (i := 164) rfl rfl
theorem se_Md_gives : Cond.selects "CopyBenchModel" y_Md_gives y_Md_gives ∈ gd := tb_5 (i := 165) rfl rfl
abbrev k_Md_seat : ByteArray := prog_12_method_19_code
def y_Md_seat : MethodName := ⟨"CopyBenchModel", "seat", "(III)I"⟩
theorem co_Md_seat : Cond.code y_Md_seat k_Md_seat 5 (Option.some FieldType.int) ∈ gd := tb_5 (i := 178) rfl rfl
theorem im_Md_seat : Cond.instanceMethod y_Md_seat ∈ gd := tb_5 (i := 176) rfl rfl
theorem se_Md_seat : Cond.selects "CopyBenchModel" y_Md_seat y_Md_seat ∈ gd := tb_5 (i := 177) rfl rfl
abbrev k_Md_here : ByteArray := prog_12_method_20_code
def y_Md_here : MethodName := ⟨"CopyBenchModel", "here", "()I"⟩
theorem co_Md_here : Cond.code y_Md_here k_Md_here 1 (Option.some FieldType.int) ∈ gd := tb_5 (i := 200) rfl rfl
theorem im_Md_here : Cond.instanceMethod y_Md_here ∈ gd := tb_5 (i := 199) rfl rfl
theorem se_Md_here : Cond.selects "CopyBenchModel" y_Md_here y_Md_here ∈ gd := List.mem_filter.mpr ⟨List.mem_append_left _ (List.mem_map.mpr ⟨(y_Md_here, 47), by decide +kernel, rfl⟩), rfl⟩
abbrev k_Md_clause : ByteArray := prog_12_method_21_code
def y_Md_clause : MethodName := ⟨"CopyBenchModel", "clause", "(Z)V"⟩
theorem co_Md_clause : Cond.code y_Md_clause k_Md_clause 4 (Option.none : Option FieldType) ∈ gd := tb_5 (i := 196) rfl rfl
theorem im_Md_clause : Cond.instanceMethod y_Md_clause ∈ gd := tb_5 (i := 195) rfl rfl
theorem se_Md_clause : Cond.selects "CopyBenchModel" y_Md_clause y_Md_clause ∈ gd := List.mem_filter.mpr ⟨List.mem_append_left _ (List.mem_map.mpr ⟨(y_Md_clause, 47), by decide +kernel, rfl⟩), rfl⟩
abbrev k_Md_goesThrough : ByteArray := prog_12_method_22_code
def y_Md_goesThrough : MethodName := ⟨"CopyBenchModel", "goesThrough", "(Z)V"⟩
theorem co_Md_goesThrough : Cond.code y_Md_goesThrough k_Md_goesThrough 2 (Option.none : Option FieldType) ∈ gd := tb_5 (i := 192) rfl rfl
theorem im_Md_goesThrough : Cond.instanceMethod y_Md_goesThrough ∈ gd := tb_5 (i := 191) rfl rfl
theorem se_Md_goesThrough : Cond.selects "CopyBenchModel" y_Md_goesThrough y_Md_goesThrough ∈ gd := List.mem_filter.mpr ⟨List.mem_append_left _ (List.mem_map.mpr ⟨(y_Md_goesThrough, 47), by decide +kernel, rfl⟩), rfl⟩
abbrev k_Md_feed : ByteArray := prog_12_method_23_code
def y_Md_feed : MethodName := ⟨"CopyBenchModel", "feed", "(I)I"⟩
theorem co_Md_feed : Cond.code y_Md_feed k_Md_feed 2 (Option.some FieldType.int) ∈ gd := tb_5 (i := 183) rfl rfl
theorem im_Md_feed : Cond.instanceMethod y_Md_feed ∈ gd := tb_5 (i := 181) rfl rfl
theorem se_Md_feed : Cond.selects "CopyBenchModel" y_Md_feed y_Md_feed ∈ gd := tb_5 (i := 182) rfl rfl
abbrev k_Md_read : ByteArray := prog_12_method_24_code
def y_Md_read : MethodName := ⟨"CopyBenchModel", "read", "()I"⟩
theorem co_Md_read : Cond.code y_Md_read k_Md_read 2 (Option.some FieldType.int) ∈ gd := tb_5 (i := 188) rfl rfl
theorem im_Md_read : Cond.instanceMethod y_Md_read ∈ gd := tb_5 (i := 186) rfl rfl
theorem se_Md_read : Cond.selects "CopyBenchModel" y_Md_read y_Md_read ∈ gd := tb_5 (i := 187) rfl rfl
abbrev k_Md_isUse : ByteArray := prog_12_method_25_code
def y_Md_isUse : MethodName := ⟨"CopyBenchModel", "isUse", "(II)Z"⟩
theorem co_Md_isUse : Cond.code y_Md_isUse k_Md_isUse 2 (Option.some FieldType.boolean) ∈ gd := tb_5 (i := 210) rfl rfl
theorem st_Md_isUse : Cond.static y_Md_isUse ∈ gd := tb_5 (i := 209) rfl rfl
abbrev k_Md_use : ByteArray := prog_12_method_26_code
def y_Md_use : MethodName := ⟨"CopyBenchModel", "use", "(II)I"⟩
theorem co_Md_use : Cond.code y_Md_use k_Md_use 4 (Option.some FieldType.int) ∈ gd := tb_5 (i := 206) rfl rfl
theorem im_Md_use : Cond.instanceMethod y_Md_use ∈ gd := tb_5 (i := 204) rfl rfl
theorem se_Md_use : Cond.selects "CopyBenchModel" y_Md_use y_Md_use ∈ gd := tb_5 (i := 205) rfl rfl
abbrev k_Md_answer : ByteArray := prog_12_method_27_code
def y_Md_answer : MethodName := ⟨"CopyBenchModel", "answer", "(II)I"⟩
theorem co_Md_answer : Cond.code y_Md_answer k_Md_answer 3 (Option.some FieldType.int) ∈ gd := tb_5 (i := 217) rfl rfl
theorem im_Md_answer : Cond.instanceMethod y_Md_answer ∈ gd := tb_5 (i := 215) rfl rfl
theorem se_Md_answer : Cond.selects "CopyBenchModel" y_Md_answer y_Md_answer ∈ gd := tb_5 (i := 216) rfl rfl
abbrev k_Md_gave : ByteArray := prog_12_method_28_code
def y_Md_gave : MethodName := ⟨"CopyBenchModel", "gave", "(IZ)I"⟩
theorem co_Md_gave : Cond.code y_Md_gave k_Md_gave 6 (Option.some FieldType.int) ∈ gd := tb_5 (i := 225) rfl rfl
theorem im_Md_gave : Cond.instanceMethod y_Md_gave ∈ gd := tb_5 (i := 224) rfl rfl
theorem se_Md_gave : Cond.selects "CopyBenchModel" y_Md_gave y_Md_gave ∈ gd := List.mem_filter.mpr ⟨List.mem_append_left _ (List.mem_map.mpr ⟨(y_Md_gave, 47), by decide +kernel, rfl⟩), rfl⟩
abbrev k_Md_of : ByteArray := prog_12_method_29_code
def y_Md_of : MethodName := ⟨"CopyBenchModel", "of", "(II)I"⟩
theorem co_Md_of : Cond.code y_Md_of k_Md_of 3 (Option.some FieldType.int) ∈ gd := tb_5 (i := 221) rfl rfl
theorem im_Md_of : Cond.instanceMethod y_Md_of ∈ gd := tb_5 (i := 219) rfl rfl
theorem se_Md_of : Cond.selects "CopyBenchModel" y_Md_of y_Md_of ∈ gd := tb_5 (i := 220) rfl rfl
abbrev k_Md_gavers : ByteArray := prog_12_method_30_code
def y_Md_gavers : MethodName := ⟨"CopyBenchModel", "gavers", "(IIII)I"⟩
theorem co_Md_gavers : Cond.code y_Md_gavers k_Md_gavers 7 (Option.some FieldType.int) ∈ gd := tb_5 (i := 237) rfl rfl
theorem im_Md_gavers : Cond.instanceMethod y_Md_gavers ∈ gd := tb_5 (i := 236) rfl rfl
theorem se_Md_gavers : Cond.selects "CopyBenchModel" y_Md_gavers y_Md_gavers ∈ gd := List.mem_filter.mpr ⟨List.mem_append_left _ (List.mem_map.mpr ⟨(y_Md_gavers, 47), by decide +kernel, rfl⟩), rfl⟩
abbrev k_Md_givers : ByteArray := prog_12_method_31_code
def y_Md_givers : MethodName := ⟨"CopyBenchModel", "givers", "(I)I"⟩
theorem co_Md_givers : Cond.code y_Md_givers k_Md_givers 2 (Option.some FieldType.int) ∈ gd := tb_5 (i := 233) rfl rfl
theorem im_Md_givers : Cond.instanceMethod y_Md_givers ∈ gd := tb_5 (i := 232) rfl rfl
theorem se_Md_givers : Cond.selects "CopyBenchModel" y_Md_givers y_Md_givers ∈ gd := List.mem_filter.mpr ⟨List.mem_append_left _ (List.mem_map.mpr ⟨(y_Md_givers, 47), by decide +kernel, rfl⟩), rfl⟩
abbrev k_Md_likedWrong : ByteArray := prog_12_method_32_code
def y_Md_likedWrong : MethodName := ⟨"CopyBenchModel", "likedWrong", "(I)I"⟩
theorem co_Md_likedWrong : Cond.code y_Md_likedWrong k_Md_likedWrong 4 (Option.some FieldType.int) ∈ gd := tb_6 (i := 1) rfl rfl
theorem im_Md_likedWrong : Cond.instanceMethod y_Md_likedWrong ∈ gd := tb_6 (i := 0) rfl rfl
theorem se_Md_likedWrong : Cond.selects "CopyBenchModel" y_Md_likedWrong y_Md_likedWrong ∈ gd := List.mem_filter.mpr ⟨List.mem_append_left _ (List.mem_map.mpr ⟨(y_Md_likedWrong, 47), by decide +kernel, rfl⟩), rfl⟩
abbrev k_Md_itemOf : ByteArray := prog_12_method_33_code
def y_Md_itemOf : MethodName := ⟨"CopyBenchModel", "itemOf", "(II)I"⟩
theorem co_Md_itemOf : Cond.code y_Md_itemOf k_Md_itemOf 3 (Option.some FieldType.int) ∈ gd := tb_5 (i := 229) rfl rfl
theorem im_Md_itemOf : Cond.instanceMethod y_Md_itemOf ∈ gd := tb_5 (i := 227) rfl rfl
theorem se_Md_itemOf : Cond.selects "CopyBenchModel" y_Md_itemOf y_Md_itemOf ∈ gd := tb_5 (i := 228) rfl rfl
abbrev k_Md_taken : ByteArray := prog_12_method_34_code
def y_Md_taken : MethodName := ⟨"CopyBenchModel", "taken", "(II)I"⟩
theorem co_Md_taken : Cond.code y_Md_taken k_Md_taken 4 (Option.some FieldType.int) ∈ gd := tb_6 (i := 5) rfl rfl
theorem im_Md_taken : Cond.instanceMethod y_Md_taken ∈ gd := tb_6 (i := 3) rfl rfl
theorem se_Md_taken : Cond.selects "CopyBenchModel" y_Md_taken y_Md_taken ∈ gd := tb_6 (i := 4) rfl rfl
abbrev k_Md_shareOf : ByteArray := prog_12_method_35_code
def y_Md_shareOf : MethodName := ⟨"CopyBenchModel", "shareOf", "(IIII)I"⟩
theorem co_Md_shareOf : Cond.code y_Md_shareOf k_Md_shareOf 5 (Option.some FieldType.int) ∈ gd := tb_6 (i := 21) rfl rfl
theorem im_Md_shareOf : Cond.instanceMethod y_Md_shareOf ∈ gd := tb_6 (i := 20) rfl rfl
theorem se_Md_shareOf : Cond.selects "CopyBenchModel" y_Md_shareOf y_Md_shareOf ∈ gd := List.mem_filter.mpr ⟨List.mem_append_left _ (List.mem_map.mpr ⟨(y_Md_shareOf, 47), by decide +kernel, rfl⟩), rfl⟩
abbrev k_Md_sumBut : ByteArray := prog_12_method_36_code
def y_Md_sumBut : MethodName := ⟨"CopyBenchModel", "sumBut", "(IIII)I"⟩
theorem co_Md_sumBut : Cond.code y_Md_sumBut k_Md_sumBut 7 (Option.some FieldType.int) ∈ gd := tb_6 (i := 17) rfl rfl
theorem im_Md_sumBut : Cond.instanceMethod y_Md_sumBut ∈ gd := tb_6 (i := 16) rfl rfl
theorem se_Md_sumBut : Cond.selects "CopyBenchModel" y_Md_sumBut y_Md_sumBut ∈ gd := List.mem_filter.mpr ⟨List.mem_append_left _ (List.mem_map.mpr ⟨(y_Md_sumBut, 47), by decide +kernel, rfl⟩), rfl⟩
abbrev k_Md_share : ByteArray := prog_12_method_37_code
def y_Md_share : MethodName := ⟨"CopyBenchModel", "share", "(IIII)I"⟩
theorem co_Md_share : Cond.code y_Md_share k_Md_share 5 (Option.some FieldType.int) ∈ gd := tb_6 (i := 9) rfl rfl
theorem im_Md_share : Cond.instanceMethod y_Md_share ∈ gd := tb_6 (i := 7) rfl rfl
theorem se_Md_share : Cond.selects "CopyBenchModel" y_Md_share y_Md_share ∈ gd := tb_6 (i := 8) rfl rfl
abbrev k_Md_worth : ByteArray := prog_12_method_38_code
def y_Md_worth : MethodName := ⟨"CopyBenchModel", "worth", "(II)I"⟩
theorem co_Md_worth : Cond.code y_Md_worth k_Md_worth 3 (Option.some FieldType.int) ∈ gd := tb_6 (i := 33) rfl rfl
theorem im_Md_worth : Cond.instanceMethod y_Md_worth ∈ gd := tb_6 (i := 32) rfl rfl
theorem se_Md_worth : Cond.selects "CopyBenchModel" y_Md_worth y_Md_worth ∈ gd := List.mem_filter.mpr ⟨List.mem_append_left _ (List.mem_map.mpr ⟨(y_Md_worth, 47), by decide +kernel, rfl⟩), rfl⟩
abbrev k_Md_likeness : ByteArray := prog_12_method_39_code
def y_Md_likeness : MethodName := ⟨"CopyBenchModel", "likeness", "(III)I"⟩
theorem co_Md_likeness : Cond.code y_Md_likeness k_Md_likeness 7 (Option.some FieldType.int) ∈ gd := tb_6 (i := 29) rfl rfl
theorem im_Md_likeness : Cond.instanceMethod y_Md_likeness ∈ gd := tb_6 (i := 28) rfl rfl
theorem se_Md_likeness : Cond.selects "CopyBenchModel" y_Md_likeness y_Md_likeness ∈ gd := List.mem_filter.mpr ⟨List.mem_append_left _ (List.mem_map.mpr ⟨(y_Md_likeness, 47), by decide +kernel, rfl⟩), rfl⟩
abbrev k_Md_alike : ByteArray := prog_12_method_40_code
def y_Md_alike : MethodName := ⟨"CopyBenchModel", "alike", "(II)I"⟩
theorem co_Md_alike : Cond.code y_Md_alike k_Md_alike 3 (Option.some FieldType.int) ∈ gd := tb_6 (i := 25) rfl rfl
theorem im_Md_alike : Cond.instanceMethod y_Md_alike ∈ gd := tb_6 (i := 23) rfl rfl
theorem se_Md_alike : Cond.selects "CopyBenchModel" y_Md_alike y_Md_alike ∈ gd := tb_6 (i := 24) rfl rfl
abbrev k_Md_adds : ByteArray := prog_12_method_41_code
def y_Md_adds : MethodName := ⟨"CopyBenchModel", "adds", "(JI)V"⟩
theorem co_Md_adds : Cond.code y_Md_adds k_Md_adds 5 (Option.none : Option FieldType) ∈ gd := tb_6 (i := 54) rfl rfl
theorem im_Md_adds : Cond.instanceMethod y_Md_adds ∈ gd := tb_6 (i := 53) rfl rfl
theorem se_Md_adds : Cond.selects "CopyBenchModel" y_Md_adds y_Md_adds ∈ gd := List.mem_filter.mpr ⟨List.mem_append_left _ (List.mem_map.mpr ⟨(y_Md_adds, 47), by decide +kernel, rfl⟩), rfl⟩
abbrev k_Md_comes : ByteArray := prog_12_method_42_code
def y_Md_comes : MethodName := ⟨"CopyBenchModel", "comes", "(IIII)V"⟩
theorem co_Md_comes : Cond.code y_Md_comes k_Md_comes 21 (Option.none : Option FieldType) ∈ gd := tb_6 (i := 50) rfl rfl
theorem im_Md_comes : Cond.instanceMethod y_Md_comes ∈ gd := tb_6 (i := 49) rfl rfl
theorem se_Md_comes : Cond.selects "CopyBenchModel" y_Md_comes y_Md_comes ∈ gd := List.mem_filter.mpr ⟨List.mem_append_left _ (List.mem_map.mpr ⟨(y_Md_comes, 47), by decide +kernel, rfl⟩), rfl⟩
abbrev k_Md_spreads : ByteArray := prog_12_method_43_code
def y_Md_spreads : MethodName := ⟨"CopyBenchModel", "spreads", "(IIII)V"⟩
theorem co_Md_spreads : Cond.code y_Md_spreads k_Md_spreads 6 (Option.none : Option FieldType) ∈ gd := tb_6 (i := 46) rfl rfl
theorem im_Md_spreads : Cond.instanceMethod y_Md_spreads ∈ gd := tb_6 (i := 45) rfl rfl
theorem se_Md_spreads : Cond.selects "CopyBenchModel" y_Md_spreads y_Md_spreads ∈ gd := List.mem_filter.mpr ⟨List.mem_append_left _ (List.mem_map.mpr ⟨(y_Md_spreads, 47), by decide +kernel, rfl⟩), rfl⟩
abbrev k_Md_asMuch : ByteArray := prog_12_method_44_code
def y_Md_asMuch : MethodName := ⟨"CopyBenchModel", "asMuch", "(IIII)J"⟩
theorem co_Md_asMuch : Cond.code y_Md_asMuch k_Md_asMuch 8 (Option.some FieldType.long) ∈ gd := tb_6 (i := 42) rfl rfl
theorem im_Md_asMuch : Cond.instanceMethod y_Md_asMuch ∈ gd := tb_6 (i := 41) rfl rfl
theorem se_Md_asMuch : Cond.selects "CopyBenchModel" y_Md_asMuch y_Md_asMuch ∈ gd := List.mem_filter.mpr ⟨List.mem_append_left _ (List.mem_map.mpr ⟨(y_Md_asMuch, 47), by decide +kernel, rfl⟩), rfl⟩
abbrev k_Md_lowest : ByteArray := prog_12_method_45_code
def y_Md_lowest : MethodName := ⟨"CopyBenchModel", "lowest", "(JJI)J"⟩
theorem co_Md_lowest : Cond.code y_Md_lowest k_Md_lowest 11 (Option.some FieldType.long) ∈ gd := tb_6 (i := 57) rfl rfl
theorem st_Md_lowest : Cond.static y_Md_lowest ∈ gd := tb_6 (i := 56) rfl rfl
abbrev k_Md_odds : ByteArray := prog_12_method_46_code
def y_Md_odds : MethodName := ⟨"CopyBenchModel", "odds", "(IIII)J"⟩
theorem co_Md_odds : Cond.code y_Md_odds k_Md_odds 7 (Option.some FieldType.long) ∈ gd := tb_6 (i := 37) rfl rfl
theorem im_Md_odds : Cond.instanceMethod y_Md_odds ∈ gd := tb_6 (i := 35) rfl rfl
theorem se_Md_odds : Cond.selects "CopyBenchModel" y_Md_odds y_Md_odds ∈ gd := tb_6 (i := 36) rfl rfl
abbrev k_Md_just : ByteArray := prog_12_method_47_code
def y_Md_just : MethodName := ⟨"CopyBenchModel", "just", "(IIIII)J"⟩
theorem co_Md_just : Cond.code y_Md_just k_Md_just 6 (Option.some FieldType.long) ∈ gd := tb_6 (i := 61) rfl rfl
theorem im_Md_just : Cond.instanceMethod y_Md_just ∈ gd := tb_6 (i := 59) rfl rfl
theorem se_Md_just : Cond.selects "CopyBenchModel" y_Md_just y_Md_just ∈ gd := tb_6 (i := 60) rfl rfl
abbrev k_Md_compares : ByteArray := prog_12_method_48_code
def y_Md_compares : MethodName := ⟨"CopyBenchModel", "compares", "(JJJJ)I"⟩
theorem co_Md_compares : Cond.code y_Md_compares k_Md_compares 25 (Option.some FieldType.int) ∈ gd := tb_6 (i := 69) rfl rfl
theorem st_Md_compares : Cond.static y_Md_compares ∈ gd := tb_6 (i := 68) rfl rfl
abbrev k_Md_source : ByteArray := prog_12_method_49_code
def y_Md_source : MethodName := ⟨"CopyBenchModel", "source", "(II)I"⟩
theorem co_Md_source : Cond.code y_Md_source k_Md_source 10 (Option.some FieldType.int) ∈ gd := tb_6 (i := 66) rfl rfl
theorem im_Md_source : Cond.instanceMethod y_Md_source ∈ gd := tb_6 (i := 64) rfl rfl
theorem se_Md_source : Cond.selects "CopyBenchModel" y_Md_source y_Md_source ∈ gd := tb_6 (i := 65) rfl rfl
abbrev k_Md_without : ByteArray := prog_12_method_50_code
def y_Md_without : MethodName := ⟨"CopyBenchModel", "without", "(IIII)J"⟩
theorem co_Md_without : Cond.code y_Md_without k_Md_without 7 (Option.some FieldType.long) ∈ gd := tb_6 (i := 73) rfl rfl
theorem im_Md_without : Cond.instanceMethod y_Md_without ∈ gd := tb_6 (i := 71) rfl rfl
theorem se_Md_without : Cond.selects "CopyBenchModel" y_Md_without y_Md_without ∈ gd := tb_6 (i := 72) rfl rfl
abbrev k_Md_key : ByteArray := prog_12_method_51_code
def y_Md_key : MethodName := ⟨"CopyBenchModel", "key", "(II)I"⟩
theorem co_Md_key : Cond.code y_Md_key k_Md_key 11 (Option.some FieldType.int) ∈ gd := tb_6 (i := 77) rfl rfl
theorem im_Md_key : Cond.instanceMethod y_Md_key ∈ gd := tb_6 (i := 75) rfl rfl
theorem se_Md_key : Cond.selects "CopyBenchModel" y_Md_key y_Md_key ∈ gd := tb_6 (i := 76) rfl rfl
abbrev k_Md_isNear : ByteArray := prog_12_method_52_code
def y_Md_isNear : MethodName := ⟨"CopyBenchModel", "isNear", "(III)Z"⟩
theorem co_Md_isNear : Cond.code y_Md_isNear k_Md_isNear 4 (Option.some FieldType.boolean) ∈ gd := tb_6 (i := 89) rfl rfl
theorem im_Md_isNear : Cond.instanceMethod y_Md_isNear ∈ gd := tb_6 (i := 88) rfl rfl
theorem se_Md_isNear : Cond.selects "CopyBenchModel" y_Md_isNear y_Md_isNear ∈ gd := List.mem_filter.mpr ⟨List.mem_append_left _ (List.mem_map.mpr ⟨(y_Md_isNear, 47), by decide +kernel, rfl⟩), rfl⟩
abbrev k_Md_puts : ByteArray := prog_12_method_53_code
def y_Md_puts : MethodName := ⟨"CopyBenchModel", "puts", "(IIJJ)V"⟩
theorem co_Md_puts : Cond.code y_Md_puts k_Md_puts 8 (Option.none : Option FieldType) ∈ gd := tb_6 (i := 98) rfl rfl
theorem im_Md_puts : Cond.instanceMethod y_Md_puts ∈ gd := tb_6 (i := 97) rfl rfl
theorem se_Md_puts : Cond.selects "CopyBenchModel" y_Md_puts y_Md_puts ∈ gd := List.mem_filter.mpr ⟨List.mem_append_left _ (List.mem_map.mpr ⟨(y_Md_puts, 47), by decide +kernel, rfl⟩), rfl⟩
abbrev k_Md_putsPair : ByteArray := prog_12_method_54_code
def y_Md_putsPair : MethodName := ⟨"CopyBenchModel", "putsPair", "(II)V"⟩
theorem co_Md_putsPair : Cond.code y_Md_putsPair k_Md_putsPair 9 (Option.none : Option FieldType) ∈ gd := tb_6 (i := 94) rfl rfl
theorem im_Md_putsPair : Cond.instanceMethod y_Md_putsPair ∈ gd := tb_6 (i := 93) rfl rfl
theorem se_Md_putsPair : Cond.selects "CopyBenchModel" y_Md_putsPair y_Md_putsPair ∈ gd := List.mem_filter.mpr ⟨List.mem_append_left _ (List.mem_map.mpr ⟨(y_Md_putsPair, 47), by decide +kernel, rfl⟩), rfl⟩
abbrev k_Md_isLow : ByteArray := prog_12_method_55_code
def y_Md_isLow : MethodName := ⟨"CopyBenchModel", "isLow", "(III)Z"⟩
theorem co_Md_isLow : Cond.code y_Md_isLow k_Md_isLow 4 (Option.some FieldType.boolean) ∈ gd := tb_6 (i := 102) rfl rfl
theorem im_Md_isLow : Cond.instanceMethod y_Md_isLow ∈ gd := tb_6 (i := 101) rfl rfl
theorem se_Md_isLow : Cond.selects "CopyBenchModel" y_Md_isLow y_Md_isLow ∈ gd := List.mem_filter.mpr ⟨List.mem_append_left _ (List.mem_map.mpr ⟨(y_Md_isLow, 47), by decide +kernel, rfl⟩), rfl⟩
abbrev k_Md_orders : ByteArray := prog_12_method_56_code
def y_Md_orders : MethodName := ⟨"CopyBenchModel", "orders", "()V"⟩
theorem co_Md_orders : Cond.code y_Md_orders k_Md_orders 3 (Option.none : Option FieldType) ∈ gd := tb_6 (i := 85) rfl rfl
theorem im_Md_orders : Cond.instanceMethod y_Md_orders ∈ gd := tb_6 (i := 84) rfl rfl
theorem se_Md_orders : Cond.selects "CopyBenchModel" y_Md_orders y_Md_orders ∈ gd := List.mem_filter.mpr ⟨List.mem_append_left _ (List.mem_map.mpr ⟨(y_Md_orders, 47), by decide +kernel, rfl⟩), rfl⟩
abbrev k_Md_suspects : ByteArray := prog_12_method_57_code
def y_Md_suspects : MethodName := ⟨"CopyBenchModel", "suspects", "()I"⟩
theorem co_Md_suspects : Cond.code y_Md_suspects k_Md_suspects 3 (Option.some FieldType.int) ∈ gd := tb_6 (i := 107) rfl rfl
theorem im_Md_suspects : Cond.instanceMethod y_Md_suspects ∈ gd := tb_6 (i := 106) rfl rfl
theorem se_Md_suspects : Cond.selects "CopyBenchModel" y_Md_suspects y_Md_suspects ∈ gd := List.mem_filter.mpr ⟨List.mem_append_left _ (List.mem_map.mpr ⟨(y_Md_suspects, 47), by decide +kernel, rfl⟩), rfl⟩
abbrev k_Md_near : ByteArray := prog_12_method_58_code
def y_Md_near : MethodName := ⟨"CopyBenchModel", "near", "(I)I"⟩
theorem co_Md_near : Cond.code y_Md_near k_Md_near 5 (Option.some FieldType.int) ∈ gd := tb_6 (i := 111) rfl rfl
theorem im_Md_near : Cond.instanceMethod y_Md_near ∈ gd := tb_6 (i := 110) rfl rfl
theorem se_Md_near : Cond.selects "CopyBenchModel" y_Md_near y_Md_near ∈ gd := List.mem_filter.mpr ⟨List.mem_append_left _ (List.mem_map.mpr ⟨(y_Md_near, 47), by decide +kernel, rfl⟩), rfl⟩
abbrev k_Md_binds : ByteArray := prog_12_method_59_code
def y_Md_binds : MethodName := ⟨"CopyBenchModel", "binds", "()V"⟩
theorem co_Md_binds : Cond.code y_Md_binds k_Md_binds 2 (Option.none : Option FieldType) ∈ gd := tb_6 (i := 119) rfl rfl
theorem im_Md_binds : Cond.instanceMethod y_Md_binds ∈ gd := tb_6 (i := 118) rfl rfl
theorem se_Md_binds : Cond.selects "CopyBenchModel" y_Md_binds y_Md_binds ∈ gd := List.mem_filter.mpr ⟨List.mem_append_left _ (List.mem_map.mpr ⟨(y_Md_binds, 47), by decide +kernel, rfl⟩), rfl⟩
abbrev k_Md_common : ByteArray := prog_12_method_60_code
def y_Md_common : MethodName := ⟨"CopyBenchModel", "common", "(I)I"⟩
theorem co_Md_common : Cond.code y_Md_common k_Md_common 4 (Option.some FieldType.int) ∈ gd := tb_6 (i := 127) rfl rfl
theorem im_Md_common : Cond.instanceMethod y_Md_common ∈ gd := tb_6 (i := 126) rfl rfl
theorem se_Md_common : Cond.selects "CopyBenchModel" y_Md_common y_Md_common ∈ gd := List.mem_filter.mpr ⟨List.mem_append_left _ (List.mem_map.mpr ⟨(y_Md_common, 47), by decide +kernel, rfl⟩), rfl⟩
abbrev k_Md_isGroup : ByteArray := prog_12_method_61_code
def y_Md_isGroup : MethodName := ⟨"CopyBenchModel", "isGroup", "(I)Z"⟩
theorem co_Md_isGroup : Cond.code y_Md_isGroup k_Md_isGroup 3 (Option.some FieldType.boolean) ∈ gd := tb_6 (i := 123) rfl rfl
theorem im_Md_isGroup : Cond.instanceMethod y_Md_isGroup ∈ gd := tb_6 (i := 122) rfl rfl
theorem se_Md_isGroup : Cond.selects "CopyBenchModel" y_Md_isGroup y_Md_isGroup ∈ gd := List.mem_filter.mpr ⟨List.mem_append_left _ (List.mem_map.mpr ⟨(y_Md_isGroup, 47), by decide +kernel, rfl⟩), rfl⟩
abbrev k_Md_grouped : ByteArray := prog_12_method_62_code
def y_Md_grouped : MethodName := ⟨"CopyBenchModel", "grouped", "(I)I"⟩
theorem co_Md_grouped : Cond.code y_Md_grouped k_Md_grouped 4 (Option.some FieldType.int) ∈ gd := tb_6 (i := 115) rfl rfl
theorem im_Md_grouped : Cond.instanceMethod y_Md_grouped ∈ gd := tb_6 (i := 114) rfl rfl
theorem se_Md_grouped : Cond.selects "CopyBenchModel" y_Md_grouped y_Md_grouped ∈ gd := List.mem_filter.mpr ⟨List.mem_append_left _ (List.mem_map.mpr ⟨(y_Md_grouped, 47), by decide +kernel, rfl⟩), rfl⟩
abbrev k_Md_greatest : ByteArray := prog_12_method_63_code
def y_Md_greatest : MethodName := ⟨"CopyBenchModel", "greatest", "()I"⟩
theorem co_Md_greatest : Cond.code y_Md_greatest k_Md_greatest 3 (Option.some FieldType.int) ∈ gd := tb_6 (i := 131) rfl rfl
theorem im_Md_greatest : Cond.instanceMethod y_Md_greatest ∈ gd := tb_6 (i := 130) rfl rfl
theorem se_Md_greatest : Cond.selects "CopyBenchModel" y_Md_greatest y_Md_greatest ∈ gd := List.mem_filter.mpr ⟨List.mem_append_left _ (List.mem_map.mpr ⟨(y_Md_greatest, 47), by decide +kernel, rfl⟩), rfl⟩
abbrev k_Md_pairs : ByteArray := prog_12_method_64_code
def y_Md_pairs : MethodName := ⟨"CopyBenchModel", "pairs", "(II)I"⟩
theorem co_Md_pairs : Cond.code y_Md_pairs k_Md_pairs 3 (Option.some FieldType.int) ∈ gd := tb_6 (i := 81) rfl rfl
theorem im_Md_pairs : Cond.instanceMethod y_Md_pairs ∈ gd := tb_6 (i := 79) rfl rfl
theorem se_Md_pairs : Cond.selects "CopyBenchModel" y_Md_pairs y_Md_pairs ∈ gd := tb_6 (i := 80) rfl rfl
abbrev k_Md_pair : ByteArray := prog_12_method_65_code
def y_Md_pair : MethodName := ⟨"CopyBenchModel", "pair", "(II)I"⟩
theorem co_Md_pair : Cond.code y_Md_pair k_Md_pair 3 (Option.some FieldType.int) ∈ gd := tb_6 (i := 137) rfl rfl
theorem im_Md_pair : Cond.instanceMethod y_Md_pair ∈ gd := tb_6 (i := 135) rfl rfl
theorem se_Md_pair : Cond.selects "CopyBenchModel" y_Md_pair y_Md_pair ∈ gd := tb_6 (i := 136) rfl rfl
abbrev k_Md_pairOdds : ByteArray := prog_12_method_66_code
def y_Md_pairOdds : MethodName := ⟨"CopyBenchModel", "pairOdds", "(II)J"⟩
theorem co_Md_pairOdds : Cond.code y_Md_pairOdds k_Md_pairOdds 3 (Option.some FieldType.long) ∈ gd := tb_6 (i := 141) rfl rfl
theorem im_Md_pairOdds : Cond.instanceMethod y_Md_pairOdds ∈ gd := tb_6 (i := 139) rfl rfl
theorem se_Md_pairOdds : Cond.selects "CopyBenchModel" y_Md_pairOdds y_Md_pairOdds ∈ gd := tb_6 (i := 140) rfl rfl
abbrev k_Md_ranked : ByteArray := prog_12_method_67_code
def y_Md_ranked : MethodName := ⟨"CopyBenchModel", "ranked", "(II)I"⟩
theorem co_Md_ranked : Cond.code y_Md_ranked k_Md_ranked 4 (Option.some FieldType.int) ∈ gd := tb_6 (i := 149) rfl rfl
theorem im_Md_ranked : Cond.instanceMethod y_Md_ranked ∈ gd := tb_6 (i := 148) rfl rfl
theorem se_Md_ranked : Cond.selects "CopyBenchModel" y_Md_ranked y_Md_ranked ∈ gd := List.mem_filter.mpr ⟨List.mem_append_left _ (List.mem_map.mpr ⟨(y_Md_ranked, 47), by decide +kernel, rfl⟩), rfl⟩
abbrev k_Md_rank : ByteArray := prog_12_method_68_code
def y_Md_rank : MethodName := ⟨"CopyBenchModel", "rank", "(II)I"⟩
theorem co_Md_rank : Cond.code y_Md_rank k_Md_rank 3 (Option.some FieldType.int) ∈ gd := tb_6 (i := 145) rfl rfl
theorem im_Md_rank : Cond.instanceMethod y_Md_rank ∈ gd := tb_6 (i := 143) rfl rfl
theorem se_Md_rank : Cond.selects "CopyBenchModel" y_Md_rank y_Md_rank ∈ gd := tb_6 (i := 144) rfl rfl
abbrev k_Md_linked : ByteArray := prog_12_method_69_code
def y_Md_linked : MethodName := ⟨"CopyBenchModel", "linked", "(I)I"⟩
theorem co_Md_linked : Cond.code y_Md_linked k_Md_linked 2 (Option.some FieldType.int) ∈ gd := tb_6 (i := 154) rfl rfl
theorem im_Md_linked : Cond.instanceMethod y_Md_linked ∈ gd := tb_6 (i := 152) rfl rfl
theorem se_Md_linked : Cond.selects "CopyBenchModel" y_Md_linked y_Md_linked ∈ gd := tb_6 (i := 153) rfl rfl
abbrev k_Md_chain : ByteArray := prog_12_method_70_code
def y_Md_chain : MethodName := ⟨"CopyBenchModel", "chain", "(I)I"⟩
theorem co_Md_chain : Cond.code y_Md_chain k_Md_chain 5 (Option.some FieldType.int) ∈ gd := tb_6 (i := 158) rfl rfl
theorem im_Md_chain : Cond.instanceMethod y_Md_chain ∈ gd := tb_6 (i := 156) rfl rfl
theorem se_Md_chain : Cond.selects "CopyBenchModel" y_Md_chain y_Md_chain ∈ gd := tb_6 (i := 157) rfl rfl
abbrev k_Md_group : ByteArray := prog_12_method_71_code
def y_Md_group : MethodName := ⟨"CopyBenchModel", "group", "(I)I"⟩
theorem co_Md_group : Cond.code y_Md_group k_Md_group 2 (Option.some FieldType.int) ∈ gd := tb_6 (i := 162) rfl rfl
theorem im_Md_group : Cond.instanceMethod y_Md_group ∈ gd := tb_6 (i := 160) rfl rfl
theorem se_Md_group : Cond.selects "CopyBenchModel" y_Md_group y_Md_group ∈ gd := tb_6 (i := 161) rfl rfl
abbrev k_Md_nearNow : ByteArray := prog_12_method_72_code
def y_Md_nearNow : MethodName := ⟨"CopyBenchModel", "nearNow", "(I)I"⟩
theorem co_Md_nearNow : Cond.code y_Md_nearNow k_Md_nearNow 6 (Option.some FieldType.int) ∈ gd := tb_6 (i := 170) rfl rfl
theorem im_Md_nearNow : Cond.instanceMethod y_Md_nearNow ∈ gd := tb_6 (i := 169) rfl rfl
theorem se_Md_nearNow : Cond.selects "CopyBenchModel" y_Md_nearNow y_Md_nearNow ∈ gd := List.mem_filter.mpr ⟨List.mem_append_left _ (List.mem_map.mpr ⟨(y_Md_nearNow, 47), by decide +kernel, rfl⟩), rfl⟩
abbrev k_Md_placeOf : ByteArray := prog_12_method_73_code
def y_Md_placeOf : MethodName := ⟨"CopyBenchModel", "placeOf", "(I)I"⟩
theorem co_Md_placeOf : Cond.code y_Md_placeOf k_Md_placeOf 3 (Option.some FieldType.int) ∈ gd := tb_6 (i := 174) rfl rfl
theorem im_Md_placeOf : Cond.instanceMethod y_Md_placeOf ∈ gd := tb_6 (i := 173) rfl rfl
theorem se_Md_placeOf : Cond.selects "CopyBenchModel" y_Md_placeOf y_Md_placeOf ∈ gd := List.mem_filter.mpr ⟨List.mem_append_left _ (List.mem_map.mpr ⟨(y_Md_placeOf, 47), by decide +kernel, rfl⟩), rfl⟩
abbrev k_Md_turns : ByteArray := prog_12_method_74_code
def y_Md_turns : MethodName := ⟨"CopyBenchModel", "turns", "()Z"⟩
theorem co_Md_turns : Cond.code y_Md_turns k_Md_turns 5 (Option.some FieldType.boolean) ∈ gd := tb_6 (i := 178) rfl rfl
theorem im_Md_turns : Cond.instanceMethod y_Md_turns ∈ gd := tb_6 (i := 177) rfl rfl
theorem se_Md_turns : Cond.selects "CopyBenchModel" y_Md_turns y_Md_turns ∈ gd := List.mem_filter.mpr ⟨List.mem_append_left _ (List.mem_map.mpr ⟨(y_Md_turns, 47), by decide +kernel, rfl⟩), rfl⟩
abbrev k_Md_exchange : ByteArray := prog_12_method_75_code
def y_Md_exchange : MethodName := ⟨"CopyBenchModel", "exchange", "(II)V"⟩
theorem co_Md_exchange : Cond.code y_Md_exchange k_Md_exchange 4 (Option.none : Option FieldType) ∈ gd := tb_6 (i := 182) rfl rfl
theorem im_Md_exchange : Cond.instanceMethod y_Md_exchange ∈ gd := tb_6 (i := 181) rfl rfl
theorem se_Md_exchange : Cond.selects "CopyBenchModel" y_Md_exchange y_Md_exchange ∈ gd := List.mem_filter.mpr ⟨List.mem_append_left _ (List.mem_map.mpr ⟨(y_Md_exchange, 47), by decide +kernel, rfl⟩), rfl⟩
abbrev k_Md_seated : ByteArray := prog_12_method_76_code
def y_Md_seated : MethodName := ⟨"CopyBenchModel", "seated", "(II)J"⟩
theorem co_Md_seated : Cond.code y_Md_seated k_Md_seated 8 (Option.some FieldType.long) ∈ gd := tb_6 (i := 166) rfl rfl
theorem im_Md_seated : Cond.instanceMethod y_Md_seated ∈ gd := tb_6 (i := 164) rfl rfl
theorem se_Md_seated : Cond.selects "CopyBenchModel" y_Md_seated y_Md_seated ∈ gd := tb_6 (i := 165) rfl rfl
abbrev k_Md_draw : ByteArray := prog_12_method_77_code
def y_Md_draw : MethodName := ⟨"CopyBenchModel", "draw", "(I)I"⟩
theorem co_Md_draw : Cond.code y_Md_draw k_Md_draw 2 (Option.some FieldType.int) ∈ gd := tb_6 (i := 198) rfl rfl
theorem im_Md_draw : Cond.instanceMethod y_Md_draw ∈ gd := tb_6 (i := 197) rfl rfl
theorem se_Md_draw : Cond.selects "CopyBenchModel" y_Md_draw y_Md_draw ∈ gd := List.mem_filter.mpr ⟨List.mem_append_left _ (List.mem_map.mpr ⟨(y_Md_draw, 47), by decide +kernel, rfl⟩), rfl⟩
abbrev k_Md_answersAnew : ByteArray := prog_12_method_78_code
def y_Md_answersAnew : MethodName := ⟨"CopyBenchModel", "answersAnew", "(III)I"⟩
theorem co_Md_answersAnew : Cond.code y_Md_answersAnew k_Md_answersAnew 6 (Option.some FieldType.int) ∈ gd := tb_6 (i := 194) rfl rfl
theorem im_Md_answersAnew : Cond.instanceMethod y_Md_answersAnew ∈ gd := tb_6 (i := 193) rfl rfl
theorem se_Md_answersAnew : Cond.selects "CopyBenchModel" y_Md_answersAnew y_Md_answersAnew ∈ gd := List.mem_filter.mpr ⟨List.mem_append_left _ (List.mem_map.mpr ⟨(y_Md_answersAnew, 47), by decide +kernel, rfl⟩), rfl⟩
abbrev k_Md_drawnBy : ByteArray := prog_12_method_79_code
def y_Md_drawnBy : MethodName := ⟨"CopyBenchModel", "drawnBy", "(III)I"⟩
theorem co_Md_drawnBy : Cond.code y_Md_drawnBy k_Md_drawnBy 8 (Option.some FieldType.int) ∈ gd := tb_6 (i := 190) rfl rfl
theorem im_Md_drawnBy : Cond.instanceMethod y_Md_drawnBy ∈ gd := tb_6 (i := 189) rfl rfl
theorem se_Md_drawnBy : Cond.selects "CopyBenchModel" y_Md_drawnBy y_Md_drawnBy ∈ gd := List.mem_filter.mpr ⟨List.mem_append_left _ (List.mem_map.mpr ⟨(y_Md_drawnBy, 47), by decide +kernel, rfl⟩), rfl⟩
abbrev k_Md_drawn : ByteArray := prog_12_method_80_code
def y_Md_drawn : MethodName := ⟨"CopyBenchModel", "drawn", "(III)I"⟩
theorem co_Md_drawn : Cond.code y_Md_drawn k_Md_drawn 4 (Option.some FieldType.int) ∈ gd := tb_6 (i := 186) rfl rfl
theorem im_Md_drawn : Cond.instanceMethod y_Md_drawn ∈ gd := tb_6 (i := 184) rfl rfl
theorem se_Md_drawn : Cond.selects "CopyBenchModel" y_Md_drawn y_Md_drawn ∈ gd := tb_6 (i := 185) rfl rfl
abbrev k_Md_chance : ByteArray := prog_12_method_81_code
def y_Md_chance : MethodName := ⟨"CopyBenchModel", "chance", "(IIIII)J"⟩
theorem co_Md_chance : Cond.code y_Md_chance k_Md_chance 8 (Option.some FieldType.long) ∈ gd := tb_6 (i := 203) rfl rfl
theorem im_Md_chance : Cond.instanceMethod y_Md_chance ∈ gd := tb_6 (i := 201) rfl rfl
theorem se_Md_chance : Cond.selects "CopyBenchModel" y_Md_chance y_Md_chance ∈ gd := tb_6 (i := 202) rfl rfl
abbrev k_Md_see : ByteArray := prog_12_method_82_code
def y_Md_see : MethodName := ⟨"CopyBenchModel", "see", "(IIZ)I"⟩
theorem co_Md_see : Cond.code y_Md_see k_Md_see 4 (Option.some FieldType.int) ∈ gd := tb_6 (i := 208) rfl rfl
theorem im_Md_see : Cond.instanceMethod y_Md_see ∈ gd := tb_6 (i := 206) rfl rfl
theorem se_Md_see : Cond.selects "CopyBenchModel" y_Md_see y_Md_see ∈ gd := tb_6 (i := 207) rfl rfl
abbrev k_Md_isAllSeen : ByteArray := prog_12_method_83_code
def y_Md_isAllSeen : MethodName := ⟨"CopyBenchModel", "isAllSeen", "()Z"⟩
theorem co_Md_isAllSeen : Cond.code y_Md_isAllSeen k_Md_isAllSeen 3 (Option.some FieldType.boolean) ∈ gd := tb_6 (i := 216) rfl rfl
theorem im_Md_isAllSeen : Cond.instanceMethod y_Md_isAllSeen ∈ gd := tb_6 (i := 215) rfl rfl
theorem se_Md_isAllSeen : Cond.selects "CopyBenchModel" y_Md_isAllSeen y_Md_isAllSeen ∈ gd := List.mem_filter.mpr ⟨List.mem_append_left _ (List.mem_map.mpr ⟨(y_Md_isAllSeen, 47), by decide +kernel, rfl⟩), rfl⟩
abbrev k_Md_fits : ByteArray := prog_12_method_84_code
def y_Md_fits : MethodName := ⟨"CopyBenchModel", "fits", "(I)I"⟩
theorem co_Md_fits : Cond.code y_Md_fits k_Md_fits 6 (Option.some FieldType.int) ∈ gd := tb_6 (i := 212) rfl rfl
theorem im_Md_fits : Cond.instanceMethod y_Md_fits ∈ gd := tb_6 (i := 210) rfl rfl
theorem se_Md_fits : Cond.selects "CopyBenchModel" y_Md_fits y_Md_fits ∈ gd := tb_6 (i := 211) rfl rfl
abbrev k_Md_mean : ByteArray := prog_12_method_85_code
def y_Md_mean : MethodName := ⟨"CopyBenchModel", "mean", "(I)J"⟩
theorem co_Md_mean : Cond.code y_Md_mean k_Md_mean 5 (Option.some FieldType.long) ∈ gd := tb_6 (i := 220) rfl rfl
theorem im_Md_mean : Cond.instanceMethod y_Md_mean ∈ gd := tb_6 (i := 218) rfl rfl
theorem se_Md_mean : Cond.selects "CopyBenchModel" y_Md_mean y_Md_mean ∈ gd := tb_6 (i := 219) rfl rfl
abbrev k_Md_plan : ByteArray := prog_12_method_86_code
def y_Md_plan : MethodName := ⟨"CopyBenchModel", "plan", "(III)I"⟩
theorem co_Md_plan : Cond.code y_Md_plan k_Md_plan 4 (Option.some FieldType.int) ∈ gd := tb_6 (i := 224) rfl rfl
theorem im_Md_plan : Cond.instanceMethod y_Md_plan ∈ gd := tb_6 (i := 222) rfl rfl
theorem se_Md_plan : Cond.selects "CopyBenchModel" y_Md_plan y_Md_plan ∈ gd := tb_6 (i := 223) rfl rfl
abbrev k_Md_copies : ByteArray := prog_12_method_87_code
def y_Md_copies : MethodName := ⟨"CopyBenchModel", "copies", "([I[I)V"⟩
theorem co_Md_copies : Cond.code y_Md_copies k_Md_copies 3 (Option.none : Option FieldType) ∈ gd := tb_6 (i := 231) rfl rfl
theorem st_Md_copies : Cond.static y_Md_copies ∈ gd := tb_6 (i := 230) rfl rfl
abbrev k_Md_goes : ByteArray := prog_12_method_88_code
def y_Md_goes : MethodName := ⟨"CopyBenchModel", "goes", "(III)V"⟩
theorem co_Md_goes : Cond.code y_Md_goes k_Md_goes 5 (Option.none : Option FieldType) ∈ gd := tb_6 (i := 235) rfl rfl
theorem im_Md_goes : Cond.instanceMethod y_Md_goes ∈ gd := tb_6 (i := 234) rfl rfl
theorem se_Md_goes : Cond.selects "CopyBenchModel" y_Md_goes y_Md_goes ∈ gd := List.mem_filter.mpr ⟨List.mem_append_left _ (List.mem_map.mpr ⟨(y_Md_goes, 47), by decide +kernel, rfl⟩), rfl⟩
abbrev k_Md_ends : ByteArray := prog_12_method_89_code
def y_Md_ends : MethodName := ⟨"CopyBenchModel", "ends", "()I"⟩
theorem co_Md_ends : Cond.code y_Md_ends k_Md_ends 2 (Option.some FieldType.int) ∈ gd := tb_6 (i := 228) rfl rfl
theorem im_Md_ends : Cond.instanceMethod y_Md_ends ∈ gd := tb_6 (i := 226) rfl rfl
theorem se_Md_ends : Cond.selects "CopyBenchModel" y_Md_ends y_Md_ends ∈ gd := tb_6 (i := 227) rfl rfl
abbrev k_Md_isTape : ByteArray := prog_12_method_90_code
def y_Md_isTape : MethodName := ⟨"CopyBenchModel", "isTape", "(I)Z"⟩
theorem co_Md_isTape : Cond.code y_Md_isTape k_Md_isTape 1 (Option.some FieldType.boolean) ∈ gd := tb_7 (i := 2) rfl rfl
theorem st_Md_isTape : Cond.static y_Md_isTape ∈ gd := tb_7 (i := 1) rfl rfl
abbrev k_Md_judge : ByteArray := prog_12_method_91_code
def y_Md_judge : MethodName := ⟨"CopyBenchModel", "judge", "(III)I"⟩
theorem co_Md_judge : Cond.code y_Md_judge k_Md_judge 5 (Option.some FieldType.int) ∈ gd := tb_6 (i := 239) rfl rfl
theorem im_Md_judge : Cond.instanceMethod y_Md_judge ∈ gd := tb_6 (i := 237) rfl rfl
theorem se_Md_judge : Cond.selects "CopyBenchModel" y_Md_judge y_Md_judge ∈ gd := tb_6 (i := 238) rfl rfl
abbrev k_Md_seatedOnes : ByteArray := prog_12_method_92_code
def y_Md_seatedOnes : MethodName := ⟨"CopyBenchModel", "seatedOnes", "()I"⟩
theorem co_Md_seatedOnes : Cond.code y_Md_seatedOnes k_Md_seatedOnes 3 (Option.some FieldType.int) ∈ gd := tb_7 (i := 10) rfl rfl
theorem im_Md_seatedOnes : Cond.instanceMethod y_Md_seatedOnes ∈ gd := tb_7 (i := 9) rfl rfl
theorem se_Md_seatedOnes : Cond.selects "CopyBenchModel" y_Md_seatedOnes y_Md_seatedOnes ∈ gd := List.mem_filter.mpr ⟨List.mem_append_left _ (List.mem_map.mpr ⟨(y_Md_seatedOnes, 47), by decide +kernel, rfl⟩), rfl⟩
abbrev k_Md_count : ByteArray := prog_12_method_93_code
def y_Md_count : MethodName := ⟨"CopyBenchModel", "count", "(I)I"⟩
theorem co_Md_count : Cond.code y_Md_count k_Md_count 2 (Option.some FieldType.int) ∈ gd := tb_7 (i := 6) rfl rfl
theorem im_Md_count : Cond.instanceMethod y_Md_count ∈ gd := tb_7 (i := 4) rfl rfl
theorem se_Md_count : Cond.selects "CopyBenchModel" y_Md_count y_Md_count ∈ gd := tb_7 (i := 5) rfl rfl
abbrev k_Md_tape : ByteArray := prog_12_method_94_code
def y_Md_tape : MethodName := ⟨"CopyBenchModel", "tape", "(III)I"⟩
theorem co_Md_tape : Cond.code y_Md_tape k_Md_tape 5 (Option.some FieldType.int) ∈ gd := tb_7 (i := 15) rfl rfl
theorem im_Md_tape : Cond.instanceMethod y_Md_tape ∈ gd := tb_7 (i := 13) rfl rfl
theorem se_Md_tape : Cond.selects "CopyBenchModel" y_Md_tape y_Md_tape ∈ gd := tb_7 (i := 14) rfl rfl
abbrev k_Md_fit : ByteArray := prog_12_method_95_code
def y_Md_fit : MethodName := ⟨"CopyBenchModel", "fit", "(IJ)J"⟩
theorem co_Md_fit : Cond.code y_Md_fit k_Md_fit 3 (Option.some FieldType.long) ∈ gd := tb_7 (i := 22) rfl rfl
theorem st_Md_fit : Cond.static y_Md_fit ∈ gd := tb_7 (i := 21) rfl rfl
abbrev k_Md_item : ByteArray := prog_12_method_96_code
def y_Md_item : MethodName := ⟨"CopyBenchModel", "item", "(IIJ)I"⟩
theorem co_Md_item : Cond.code y_Md_item k_Md_item 5 (Option.some FieldType.int) ∈ gd := tb_7 (i := 19) rfl rfl
theorem im_Md_item : Cond.instanceMethod y_Md_item ∈ gd := tb_7 (i := 17) rfl rfl
theorem se_Md_item : Cond.selects "CopyBenchModel" y_Md_item y_Md_item ∈ gd := tb_7 (i := 18) rfl rfl
abbrev k_Md_peek : ByteArray := prog_12_method_97_code
def y_Md_peek : MethodName := ⟨"CopyBenchModel", "peek", "(II)J"⟩
theorem co_Md_peek : Cond.code y_Md_peek k_Md_peek 3 (Option.some FieldType.long) ∈ gd := tb_7 (i := 26) rfl rfl
theorem im_Md_peek : Cond.instanceMethod y_Md_peek ∈ gd := tb_7 (i := 24) rfl rfl
theorem se_Md_peek : Cond.selects "CopyBenchModel" y_Md_peek y_Md_peek ∈ gd := tb_7 (i := 25) rfl rfl
abbrev k_Md_shift : ByteArray := prog_12_method_98_code
def y_Md_shift : MethodName := ⟨"CopyBenchModel", "shift", "(IIIII)I"⟩
theorem co_Md_shift : Cond.code y_Md_shift k_Md_shift 7 (Option.some FieldType.int) ∈ gd := tb_7 (i := 30) rfl rfl
theorem im_Md_shift : Cond.instanceMethod y_Md_shift ∈ gd := tb_7 (i := 28) rfl rfl
theorem se_Md_shift : Cond.selects "CopyBenchModel" y_Md_shift y_Md_shift ∈ gd := tb_7 (i := 29) rfl rfl
abbrev k_Draws_init : ByteArray := prog_2_method_1_code
def y_Draws_init : MethodName := ⟨"CopyBench$Draws", "<init>", "()V"⟩
theorem co_Draws_init : Cond.code y_Draws_init k_Draws_init 1 (Option.none : Option FieldType) ∈ gd := tb_2 (i := 28) rfl rfl
theorem im_Draws_init : Cond.instanceMethod y_Draws_init ∈ gd := tb_2 (i := 27) rfl rfl
abbrev k_Draws_likeness : ByteArray := prog_2_method_2_code
def y_Draws_likeness : MethodName := ⟨"CopyBench$Draws", "likeness", "(LCopyBench$Exam;LCopyBench$Odds;III)I"⟩
theorem co_Draws_likeness : Cond.code y_Draws_likeness k_Draws_likeness 10 (Option.some FieldType.int) ∈ gd := tb_4 (i := 56) rfl rfl
theorem im_Draws_likeness : Cond.instanceMethod y_Draws_likeness ∈ gd := tb_4 (i := 54) rfl rfl
theorem se_Draws_likeness : Cond.selects "CopyBench$Draws" y_Draws_likeness y_Draws_likeness ∈ gd := tb_4 (i := 55) rfl rfl
abbrev k_Draws_anAnswer : ByteArray := prog_2_method_3_code
def y_Draws_anAnswer : MethodName := ⟨"CopyBench$Draws", "anAnswer", "(LCopyBench$Odds;)I"⟩
theorem co_Draws_anAnswer : Cond.code y_Draws_anAnswer k_Draws_anAnswer 5 (Option.some FieldType.int) ∈ gd := tb_4 (i := 62) rfl rfl
theorem im_Draws_anAnswer : Cond.instanceMethod y_Draws_anAnswer ∈ gd := tb_4 (i := 61) rfl rfl
theorem se_Draws_anAnswer : Cond.selects "CopyBench$Draws" y_Draws_anAnswer y_Draws_anAnswer ∈ gd := List.mem_filter.mpr ⟨List.mem_append_left _ (List.mem_map.mpr ⟨(y_Draws_anAnswer, 1), by decide +kernel, rfl⟩), rfl⟩
abbrev k_Draws_below : ByteArray := prog_2_method_4_code
def y_Draws_below : MethodName := ⟨"CopyBench$Draws", "below", "(I)I"⟩
theorem co_Draws_below : Cond.code y_Draws_below k_Draws_below 2 (Option.some FieldType.int) ∈ gd := tb_4 (i := 66) rfl rfl
theorem im_Draws_below : Cond.instanceMethod y_Draws_below ∈ gd := tb_4 (i := 65) rfl rfl
theorem se_Draws_below : Cond.selects "CopyBench$Draws" y_Draws_below y_Draws_below ∈ gd := List.mem_filter.mpr ⟨List.mem_append_left _ (List.mem_map.mpr ⟨(y_Draws_below, 1), by decide +kernel, rfl⟩), rfl⟩
abbrev k_Exam_init : ByteArray := prog_3_method_1_code
def y_Exam_init : MethodName := ⟨"CopyBench$Exam", "<init>", "()V"⟩
theorem co_Exam_init : Cond.code y_Exam_init k_Exam_init 1 (Option.none : Option FieldType) ∈ gd := tb_1 (i := 27) rfl rfl
theorem im_Exam_init : Cond.instanceMethod y_Exam_init ∈ gd := tb_1 (i := 26) rfl rfl
abbrev k_Exam_begin : ByteArray := prog_3_method_2_code
def y_Exam_begin : MethodName := ⟨"CopyBench$Exam", "begin", "(I)V"⟩
theorem co_Exam_begin : Cond.code y_Exam_begin k_Exam_begin 4 (Option.none : Option FieldType) ∈ gd := tb_1 (i := 34) rfl rfl
theorem im_Exam_begin : Cond.instanceMethod y_Exam_begin ∈ gd := tb_1 (i := 32) rfl rfl
theorem se_Exam_begin : Cond.selects "CopyBench$Exam" y_Exam_begin y_Exam_begin ∈ gd := tb_1 (i := 33) rfl rfl
abbrev k_Exam_copy : ByteArray := prog_3_method_3_code
def y_Exam_copy : MethodName := ⟨"CopyBench$Exam", "copy", "(LCopyBench$Exam;)V"⟩
theorem co_Exam_copy : Cond.code y_Exam_copy k_Exam_copy 3 (Option.none : Option FieldType) ∈ gd := tb_4 (i := 123) rfl rfl
theorem im_Exam_copy : Cond.instanceMethod y_Exam_copy ∈ gd := tb_4 (i := 121) rfl rfl
theorem se_Exam_copy : Cond.selects "CopyBench$Exam" y_Exam_copy y_Exam_copy ∈ gd := tb_4 (i := 122) rfl rfl
abbrev k_Exam_hasItem : ByteArray := prog_3_method_4_code
def y_Exam_hasItem : MethodName := ⟨"CopyBench$Exam", "hasItem", "(I)Z"⟩
theorem co_Exam_hasItem : Cond.code y_Exam_hasItem k_Exam_hasItem 2 (Option.some FieldType.boolean) ∈ gd := tb_2 (i := 103) rfl rfl
theorem im_Exam_hasItem : Cond.instanceMethod y_Exam_hasItem ∈ gd := tb_2 (i := 101) rfl rfl
theorem se_Exam_hasItem : Cond.selects "CopyBench$Exam" y_Exam_hasItem y_Exam_hasItem ∈ gd := tb_2 (i := 102) rfl rfl
abbrev k_Exam_hasCandidate : ByteArray := prog_3_method_5_code
def y_Exam_hasCandidate : MethodName := ⟨"CopyBench$Exam", "hasCandidate", "(I)Z"⟩
theorem co_Exam_hasCandidate : Cond.code y_Exam_hasCandidate k_Exam_hasCandidate 2 (Option.some FieldType.boolean) ∈ gd := tb_2 (i := 133) rfl rfl
theorem im_Exam_hasCandidate : Cond.instanceMethod y_Exam_hasCandidate ∈ gd := tb_2 (i := 131) rfl rfl
theorem se_Exam_hasCandidate : Cond.selects "CopyBench$Exam" y_Exam_hasCandidate y_Exam_hasCandidate ∈ gd := tb_2 (i := 132) rfl rfl
abbrev k_Exam_hasTwo : ByteArray := prog_3_method_6_code
def y_Exam_hasTwo : MethodName := ⟨"CopyBench$Exam", "hasTwo", "(II)Z"⟩
theorem co_Exam_hasTwo : Cond.code y_Exam_hasTwo k_Exam_hasTwo 3 (Option.some FieldType.boolean) ∈ gd := tb_2 (i := 236) rfl rfl
theorem im_Exam_hasTwo : Cond.instanceMethod y_Exam_hasTwo ∈ gd := tb_2 (i := 234) rfl rfl
theorem se_Exam_hasTwo : Cond.selects "CopyBench$Exam" y_Exam_hasTwo y_Exam_hasTwo ∈ gd := tb_2 (i := 235) rfl rfl
abbrev k_Exam_comes : ByteArray := prog_3_method_7_code
def y_Exam_comes : MethodName := ⟨"CopyBench$Exam", "comes", "()I"⟩
theorem co_Exam_comes : Cond.code y_Exam_comes k_Exam_comes 1 (Option.some FieldType.int) ∈ gd := tb_2 (i := 125) rfl rfl
theorem im_Exam_comes : Cond.instanceMethod y_Exam_comes ∈ gd := tb_2 (i := 123) rfl rfl
theorem se_Exam_comes : Cond.selects "CopyBench$Exam" y_Exam_comes y_Exam_comes ∈ gd := tb_2 (i := 124) rfl rfl
abbrev k_Exam_leaveBlank : ByteArray := prog_3_method_8_code
def y_Exam_leaveBlank : MethodName := ⟨"CopyBench$Exam", "leaveBlank", "(I)V"⟩
theorem co_Exam_leaveBlank : Cond.code y_Exam_leaveBlank k_Exam_leaveBlank 3 (Option.none : Option FieldType) ∈ gd := tb_1 (i := 38) rfl rfl
theorem im_Exam_leaveBlank : Cond.instanceMethod y_Exam_leaveBlank ∈ gd := tb_1 (i := 36) rfl rfl
theorem se_Exam_leaveBlank : Cond.selects "CopyBench$Exam" y_Exam_leaveBlank y_Exam_leaveBlank ∈ gd := tb_1 (i := 37) rfl rfl
abbrev k_Exam_sits : ByteArray := prog_3_method_9_code
def y_Exam_sits : MethodName := ⟨"CopyBench$Exam", "sits", "(III)V"⟩
theorem co_Exam_sits : Cond.code y_Exam_sits k_Exam_sits 4 (Option.none : Option FieldType) ∈ gd := tb_1 (i := 42) rfl rfl
theorem im_Exam_sits : Cond.instanceMethod y_Exam_sits ∈ gd := tb_1 (i := 40) rfl rfl
theorem se_Exam_sits : Cond.selects "CopyBench$Exam" y_Exam_sits y_Exam_sits ∈ gd := tb_1 (i := 41) rfl rfl
abbrev k_Exam_hasSeat : ByteArray := prog_3_method_10_code
def y_Exam_hasSeat : MethodName := ⟨"CopyBench$Exam", "hasSeat", "(I)Z"⟩
theorem co_Exam_hasSeat : Cond.code y_Exam_hasSeat k_Exam_hasSeat 2 (Option.some FieldType.boolean) ∈ gd := tb_3 (i := 146) rfl rfl
theorem im_Exam_hasSeat : Cond.instanceMethod y_Exam_hasSeat ∈ gd := tb_3 (i := 144) rfl rfl
theorem se_Exam_hasSeat : Cond.selects "CopyBench$Exam" y_Exam_hasSeat y_Exam_hasSeat ∈ gd := tb_3 (i := 145) rfl rfl
abbrev k_Exam_whoSits : ByteArray := prog_3_method_11_code
def y_Exam_whoSits : MethodName := ⟨"CopyBench$Exam", "whoSits", "(II)I"⟩
theorem co_Exam_whoSits : Cond.code y_Exam_whoSits k_Exam_whoSits 4 (Option.some FieldType.int) ∈ gd := tb_2 (i := 145) rfl rfl
theorem im_Exam_whoSits : Cond.instanceMethod y_Exam_whoSits ∈ gd := tb_2 (i := 143) rfl rfl
theorem se_Exam_whoSits : Cond.selects "CopyBench$Exam" y_Exam_whoSits y_Exam_whoSits ∈ gd := tb_2 (i := 144) rfl rfl
abbrev k_Exam_seatedOnes : ByteArray := prog_3_method_12_code
def y_Exam_seatedOnes : MethodName := ⟨"CopyBench$Exam", "seatedOnes", "()I"⟩
theorem co_Exam_seatedOnes : Cond.code y_Exam_seatedOnes k_Exam_seatedOnes 3 (Option.some FieldType.int) ∈ gd := tb_4 (i := 166) rfl rfl
theorem im_Exam_seatedOnes : Cond.instanceMethod y_Exam_seatedOnes ∈ gd := tb_4 (i := 164) rfl rfl
theorem se_Exam_seatedOnes : Cond.selects "CopyBench$Exam" y_Exam_seatedOnes y_Exam_seatedOnes ∈ gd := tb_4 (i := 165) rfl rfl
abbrev k_Exam_answersOf : ByteArray := prog_3_method_13_code
def y_Exam_answersOf : MethodName := ⟨"CopyBench$Exam", "answersOf", "(I)I"⟩
theorem co_Exam_answersOf : Cond.code y_Exam_answersOf k_Exam_answersOf 4 (Option.some FieldType.int) ∈ gd := tb_2 (i := 200) rfl rfl
theorem im_Exam_answersOf : Cond.instanceMethod y_Exam_answersOf ∈ gd := tb_2 (i := 198) rfl rfl
theorem se_Exam_answersOf : Cond.selects "CopyBench$Exam" y_Exam_answersOf y_Exam_answersOf ∈ gd := tb_2 (i := 199) rfl rfl
abbrev k_Exam_rightOnesOf : ByteArray := prog_3_method_14_code
def y_Exam_rightOnesOf : MethodName := ⟨"CopyBench$Exam", "rightOnesOf", "(I)I"⟩
theorem co_Exam_rightOnesOf : Cond.code y_Exam_rightOnesOf k_Exam_rightOnesOf 4 (Option.some FieldType.int) ∈ gd := tb_2 (i := 204) rfl rfl
theorem im_Exam_rightOnesOf : Cond.instanceMethod y_Exam_rightOnesOf ∈ gd := tb_2 (i := 202) rfl rfl
theorem se_Exam_rightOnesOf : Cond.selects "CopyBench$Exam" y_Exam_rightOnesOf y_Exam_rightOnesOf ∈ gd := tb_2 (i := 203) rfl rfl
abbrev k_Exam_howMany : ByteArray := prog_3_method_15_code
def y_Exam_howMany : MethodName := ⟨"CopyBench$Exam", "howMany", "(II)I"⟩
theorem co_Exam_howMany : Cond.code y_Exam_howMany k_Exam_howMany 5 (Option.some FieldType.int) ∈ gd := tb_2 (i := 216) rfl rfl
theorem im_Exam_howMany : Cond.instanceMethod y_Exam_howMany ∈ gd := tb_2 (i := 214) rfl rfl
theorem se_Exam_howMany : Cond.selects "CopyBench$Exam" y_Exam_howMany y_Exam_howMany ∈ gd := tb_2 (i := 215) rfl rfl
abbrev k_Exam_answersTo : ByteArray := prog_3_method_16_code
def y_Exam_answersTo : MethodName := ⟨"CopyBench$Exam", "answersTo", "(I)I"⟩
theorem co_Exam_answersTo : Cond.code y_Exam_answersTo k_Exam_answersTo 2 (Option.some FieldType.int) ∈ gd := tb_2 (i := 212) rfl rfl
theorem im_Exam_answersTo : Cond.instanceMethod y_Exam_answersTo ∈ gd := tb_2 (i := 210) rfl rfl
theorem se_Exam_answersTo : Cond.selects "CopyBench$Exam" y_Exam_answersTo y_Exam_answersTo ∈ gd := tb_2 (i := 211) rfl rfl
abbrev k_Exam_favouriteMistake : ByteArray := prog_3_method_17_code
def y_Exam_favouriteMistake : MethodName := ⟨"CopyBench$Exam", "favouriteMistake", "(I)I"⟩
theorem co_Exam_favouriteMistake : Cond.code y_Exam_favouriteMistake k_Exam_favouriteMistake 6 (Option.some FieldType.int) ∈ gd := tb_2 (i := 221) rfl rfl
theorem im_Exam_favouriteMistake : Cond.instanceMethod y_Exam_favouriteMistake ∈ gd := tb_2 (i := 219) rfl rfl
theorem se_Exam_favouriteMistake : Cond.selects "CopyBench$Exam" y_Exam_favouriteMistake y_Exam_favouriteMistake ∈ gd := tb_2 (i := 220) rfl rfl
abbrev k_Exam_bothGave : ByteArray := prog_3_method_18_code
def y_Exam_bothGave : MethodName := ⟨"CopyBench$Exam", "bothGave", "(III)Z"⟩
theorem co_Exam_bothGave : Cond.code y_Exam_bothGave k_Exam_bothGave 4 (Option.some FieldType.boolean) ∈ gd := tb_3 (i := 44) rfl rfl
theorem im_Exam_bothGave : Cond.instanceMethod y_Exam_bothGave ∈ gd := tb_3 (i := 42) rfl rfl
theorem se_Exam_bothGave : Cond.selects "CopyBench$Exam" y_Exam_bothGave y_Exam_bothGave ∈ gd := tb_3 (i := 43) rfl rfl
abbrev k_Exam_worth : ByteArray := prog_3_method_19_code
def y_Exam_worth : MethodName := ⟨"CopyBench$Exam", "worth", "(II)I"⟩
theorem co_Exam_worth : Cond.code y_Exam_worth k_Exam_worth 3 (Option.some FieldType.int) ∈ gd := tb_3 (i := 21) rfl rfl
theorem im_Exam_worth : Cond.instanceMethod y_Exam_worth ∈ gd := tb_3 (i := 19) rfl rfl
theorem se_Exam_worth : Cond.selects "CopyBench$Exam" y_Exam_worth y_Exam_worth ∈ gd := tb_3 (i := 20) rfl rfl
abbrev k_Exam_likenessAt : ByteArray := prog_3_method_20_code
def y_Exam_likenessAt : MethodName := ⟨"CopyBench$Exam", "likenessAt", "(III)I"⟩
theorem co_Exam_likenessAt : Cond.code y_Exam_likenessAt k_Exam_likenessAt 5 (Option.some FieldType.int) ∈ gd := tb_3 (i := 17) rfl rfl
theorem im_Exam_likenessAt : Cond.instanceMethod y_Exam_likenessAt ∈ gd := tb_3 (i := 15) rfl rfl
theorem se_Exam_likenessAt : Cond.selects "CopyBench$Exam" y_Exam_likenessAt y_Exam_likenessAt ∈ gd := tb_3 (i := 16) rfl rfl
abbrev k_Exam_likeness : ByteArray := prog_3_method_21_code
def y_Exam_likeness : MethodName := ⟨"CopyBench$Exam", "likeness", "(II)I"⟩
theorem co_Exam_likeness : Cond.code y_Exam_likeness k_Exam_likeness 5 (Option.some FieldType.int) ∈ gd := tb_3 (i := 13) rfl rfl
theorem im_Exam_likeness : Cond.instanceMethod y_Exam_likeness ∈ gd := tb_3 (i := 11) rfl rfl
theorem se_Exam_likeness : Cond.selects "CopyBench$Exam" y_Exam_likeness y_Exam_likeness ∈ gd := tb_3 (i := 12) rfl rfl
abbrev k_Exam_near : ByteArray := prog_3_method_22_code
def y_Exam_near : MethodName := ⟨"CopyBench$Exam", "near", "(III)Z"⟩
theorem co_Exam_near : Cond.code y_Exam_near k_Exam_near 4 (Option.some FieldType.boolean) ∈ gd := tb_3 (i := 142) rfl rfl
theorem im_Exam_near : Cond.instanceMethod y_Exam_near ∈ gd := tb_3 (i := 140) rfl rfl
theorem se_Exam_near : Cond.selects "CopyBench$Exam" y_Exam_near y_Exam_near ∈ gd := tb_3 (i := 141) rfl rfl
abbrev k_Exam_nearOnes : ByteArray := prog_3_method_23_code
def y_Exam_nearOnes : MethodName := ⟨"CopyBench$Exam", "nearOnes", "(I)I"⟩
theorem co_Exam_nearOnes : Cond.code y_Exam_nearOnes k_Exam_nearOnes 5 (Option.some FieldType.int) ∈ gd := tb_3 (i := 138) rfl rfl
theorem im_Exam_nearOnes : Cond.instanceMethod y_Exam_nearOnes ∈ gd := tb_3 (i := 136) rfl rfl
theorem se_Exam_nearOnes : Cond.selects "CopyBench$Exam" y_Exam_nearOnes y_Exam_nearOnes ∈ gd := tb_3 (i := 137) rfl rfl
abbrev k_Exam_inReach : ByteArray := prog_3_method_24_code
def y_Exam_inReach : MethodName := ⟨"CopyBench$Exam", "inReach", "(II)Z"⟩
theorem co_Exam_inReach : Cond.code y_Exam_inReach k_Exam_inReach 3 (Option.some FieldType.boolean) ∈ gd := tb_3 (i := 161) rfl rfl
theorem im_Exam_inReach : Cond.instanceMethod y_Exam_inReach ∈ gd := tb_3 (i := 159) rfl rfl
theorem se_Exam_inReach : Cond.selects "CopyBench$Exam" y_Exam_inReach y_Exam_inReach ∈ gd := tb_3 (i := 160) rfl rfl
abbrev k_Exam_pairsInReach : ByteArray := prog_3_method_25_code
def y_Exam_pairsInReach : MethodName := ⟨"CopyBench$Exam", "pairsInReach", "()I"⟩
theorem co_Exam_pairsInReach : Cond.code y_Exam_pairsInReach k_Exam_pairsInReach 1 (Option.some FieldType.int) ∈ gd := tb_3 (i := 134) rfl rfl
theorem im_Exam_pairsInReach : Cond.instanceMethod y_Exam_pairsInReach ∈ gd := tb_3 (i := 132) rfl rfl
theorem se_Exam_pairsInReach : Cond.selects "CopyBench$Exam" y_Exam_pairsInReach y_Exam_pairsInReach ∈ gd := tb_3 (i := 133) rfl rfl
abbrev k_Exam_likenessInReach : ByteArray := prog_3_method_26_code
def y_Exam_likenessInReach : MethodName := ⟨"CopyBench$Exam", "likenessInReach", "()I"⟩
theorem co_Exam_likenessInReach : Cond.code y_Exam_likenessInReach k_Exam_likenessInReach 4 (Option.some FieldType.int) ∈ gd := tb_4 (i := 99) rfl rfl
theorem im_Exam_likenessInReach : Cond.instanceMethod y_Exam_likenessInReach ∈ gd := tb_4 (i := 97) rfl rfl
theorem se_Exam_likenessInReach : Cond.selects "CopyBench$Exam" y_Exam_likenessInReach y_Exam_likenessInReach ∈ gd := tb_4 (i := 98) rfl rfl
abbrev k_Exam_sees : ByteArray := prog_3_method_27_code
def y_Exam_sees : MethodName := ⟨"CopyBench$Exam", "sees", "(IIZ)I"⟩
theorem co_Exam_sees : Cond.code y_Exam_sees k_Exam_sees 4 (Option.some FieldType.int) ∈ gd := tb_4 (i := 82) rfl rfl
theorem im_Exam_sees : Cond.instanceMethod y_Exam_sees ∈ gd := tb_4 (i := 80) rfl rfl
theorem se_Exam_sees : Cond.selects "CopyBench$Exam" y_Exam_sees y_Exam_sees ∈ gd := tb_4 (i := 81) rfl rfl
abbrev k_Exam_canPlan : ByteArray := prog_3_method_28_code
def y_Exam_canPlan : MethodName := ⟨"CopyBench$Exam", "canPlan", "(III)Z"⟩
theorem co_Exam_canPlan : Cond.code y_Exam_canPlan k_Exam_canPlan 4 (Option.some FieldType.boolean) ∈ gd := tb_4 (i := 109) rfl rfl
theorem im_Exam_canPlan : Cond.instanceMethod y_Exam_canPlan ∈ gd := tb_4 (i := 107) rfl rfl
theorem se_Exam_canPlan : Cond.selects "CopyBench$Exam" y_Exam_canPlan y_Exam_canPlan ∈ gd := tb_4 (i := 108) rfl rfl
abbrev k_Exam_plans : ByteArray := prog_3_method_29_code
def y_Exam_plans : MethodName := ⟨"CopyBench$Exam", "plans", "(III)I"⟩
theorem co_Exam_plans : Cond.code y_Exam_plans k_Exam_plans 4 (Option.some FieldType.int) ∈ gd := tb_4 (i := 115) rfl rfl
theorem im_Exam_plans : Cond.instanceMethod y_Exam_plans ∈ gd := tb_4 (i := 113) rfl rfl
theorem se_Exam_plans : Cond.selects "CopyBench$Exam" y_Exam_plans y_Exam_plans ∈ gd := tb_4 (i := 114) rfl rfl
abbrev k_Exam_followPlan : ByteArray := prog_3_method_30_code
def y_Exam_followPlan : MethodName := ⟨"CopyBench$Exam", "followPlan", "()V"⟩
theorem co_Exam_followPlan : Cond.code y_Exam_followPlan k_Exam_followPlan 2 (Option.none : Option FieldType) ∈ gd := tb_4 (i := 130) rfl rfl
theorem im_Exam_followPlan : Cond.instanceMethod y_Exam_followPlan ∈ gd := tb_4 (i := 128) rfl rfl
theorem se_Exam_followPlan : Cond.selects "CopyBench$Exam" y_Exam_followPlan y_Exam_followPlan ∈ gd := tb_4 (i := 129) rfl rfl
abbrev k_Exam_follow : ByteArray := prog_3_method_31_code
def y_Exam_follow : MethodName := ⟨"CopyBench$Exam", "follow", "(III)V"⟩
theorem co_Exam_follow : Cond.code y_Exam_follow k_Exam_follow 4 (Option.none : Option FieldType) ∈ gd := tb_4 (i := 134) rfl rfl
theorem im_Exam_follow : Cond.instanceMethod y_Exam_follow ∈ gd := tb_4 (i := 133) rfl rfl
theorem se_Exam_follow : Cond.selects "CopyBench$Exam" y_Exam_follow y_Exam_follow ∈ gd := List.mem_filter.mpr ⟨List.mem_append_left _ (List.mem_map.mpr ⟨(y_Exam_follow, 17), by decide +kernel, rfl⟩), rfl⟩
abbrev k_Links_init : ByteArray := prog_4_method_1_code
def y_Links_init : MethodName := ⟨"CopyBench$Links", "<init>", "()V"⟩
theorem co_Links_init : Cond.code y_Links_init k_Links_init 1 (Option.none : Option FieldType) ∈ gd := tb_1 (i := 235) rfl rfl
theorem im_Links_init : Cond.instanceMethod y_Links_init ∈ gd := tb_1 (i := 234) rfl rfl
abbrev k_Links_take : ByteArray := prog_4_method_2_code
def y_Links_take : MethodName := ⟨"CopyBench$Links", "take", "(LCopyBench$Ranking;)V"⟩
theorem co_Links_take : Cond.code y_Links_take k_Links_take 5 (Option.none : Option FieldType) ∈ gd := tb_3 (i := 192) rfl rfl
theorem im_Links_take : Cond.instanceMethod y_Links_take ∈ gd := tb_3 (i := 190) rfl rfl
theorem se_Links_take : Cond.selects "CopyBench$Links" y_Links_take y_Links_take ∈ gd := tb_3 (i := 191) rfl rfl
abbrev k_Links_areSuspect : ByteArray := prog_4_method_3_code
def y_Links_areSuspect : MethodName := ⟨"CopyBench$Links", "areSuspect", "(II)Z"⟩
theorem co_Links_areSuspect : Cond.code y_Links_areSuspect k_Links_areSuspect 3 (Option.some FieldType.boolean) ∈ gd := tb_4 (i := 35) rfl rfl
theorem im_Links_areSuspect : Cond.instanceMethod y_Links_areSuspect ∈ gd := tb_4 (i := 33) rfl rfl
theorem se_Links_areSuspect : Cond.selects "CopyBench$Links" y_Links_areSuspect y_Links_areSuspect ∈ gd := tb_4 (i := 34) rfl rfl
abbrev k_Links_reachedFrom : ByteArray := prog_4_method_4_code
def y_Links_reachedFrom : MethodName := ⟨"CopyBench$Links", "reachedFrom", "(I)I"⟩
theorem co_Links_reachedFrom : Cond.code y_Links_reachedFrom k_Links_reachedFrom 5 (Option.some FieldType.int) ∈ gd := tb_4 (i := 5) rfl rfl
theorem im_Links_reachedFrom : Cond.instanceMethod y_Links_reachedFrom ∈ gd := tb_4 (i := 3) rfl rfl
theorem se_Links_reachedFrom : Cond.selects "CopyBench$Links" y_Links_reachedFrom y_Links_reachedFrom ∈ gd := tb_4 (i := 4) rfl rfl
abbrev k_Links_groups : ByteArray := prog_4_method_5_code
def y_Links_groups : MethodName := ⟨"CopyBench$Links", "groups", "()I"⟩
theorem co_Links_groups : Cond.code y_Links_groups k_Links_groups 3 (Option.some FieldType.int) ∈ gd := tb_3 (i := 196) rfl rfl
theorem im_Links_groups : Cond.instanceMethod y_Links_groups ∈ gd := tb_3 (i := 194) rfl rfl
theorem se_Links_groups : Cond.selects "CopyBench$Links" y_Links_groups y_Links_groups ∈ gd := tb_3 (i := 195) rfl rfl
abbrev k_Links_greatest : ByteArray := prog_4_method_6_code
def y_Links_greatest : MethodName := ⟨"CopyBench$Links", "greatest", "()I"⟩
theorem co_Links_greatest : Cond.code y_Links_greatest k_Links_greatest 3 (Option.some FieldType.int) ∈ gd := tb_3 (i := 210) rfl rfl
theorem im_Links_greatest : Cond.instanceMethod y_Links_greatest ∈ gd := tb_3 (i := 208) rfl rfl
theorem se_Links_greatest : Cond.selects "CopyBench$Links" y_Links_greatest y_Links_greatest ∈ gd := tb_3 (i := 209) rfl rfl
abbrev k_Links_groupAt : ByteArray := prog_4_method_7_code
def y_Links_groupAt : MethodName := ⟨"CopyBench$Links", "groupAt", "(I)I"⟩
theorem co_Links_groupAt : Cond.code y_Links_groupAt k_Links_groupAt 4 (Option.some FieldType.int) ∈ gd := tb_4 (i := 13) rfl rfl
theorem im_Links_groupAt : Cond.instanceMethod y_Links_groupAt ∈ gd := tb_4 (i := 11) rfl rfl
theorem se_Links_groupAt : Cond.selects "CopyBench$Links" y_Links_groupAt y_Links_groupAt ∈ gd := tb_4 (i := 12) rfl rfl
abbrev k_Links_isGroup : ByteArray := prog_4_method_8_code
def y_Links_isGroup : MethodName := ⟨"CopyBench$Links", "isGroup", "(I)Z"⟩
theorem co_Links_isGroup : Cond.code y_Links_isGroup k_Links_isGroup 4 (Option.some FieldType.boolean) ∈ gd := tb_3 (i := 200) rfl rfl
theorem im_Links_isGroup : Cond.instanceMethod y_Links_isGroup ∈ gd := tb_3 (i := 199) rfl rfl
theorem se_Links_isGroup : Cond.selects "CopyBench$Links" y_Links_isGroup y_Links_isGroup ∈ gd := List.mem_filter.mpr ⟨List.mem_append_left _ (List.mem_map.mpr ⟨(y_Links_isGroup, 1), by decide +kernel, rfl⟩), rfl⟩
abbrev k_Odds_init : ByteArray := prog_5_method_1_code
def y_Odds_init : MethodName := ⟨"CopyBench$Odds", "<init>", "()V"⟩
theorem co_Odds_init : Cond.code y_Odds_init k_Odds_init 1 (Option.none : Option FieldType) ∈ gd := tb_1 (i := 145) rfl rfl
theorem im_Odds_init : Cond.instanceMethod y_Odds_init ∈ gd := tb_1 (i := 144) rfl rfl
abbrev k_Odds_asGreat : ByteArray := prog_5_method_2_code
def y_Odds_asGreat : MethodName := ⟨"CopyBench$Odds", "asGreat", "(LCopyBench$Exam;IIILCopyBench$Ratio;)V"⟩
theorem co_Odds_asGreat : Cond.code y_Odds_asGreat k_Odds_asGreat 6 (Option.none : Option FieldType) ∈ gd := tb_3 (i := 36) rfl rfl
theorem im_Odds_asGreat : Cond.instanceMethod y_Odds_asGreat ∈ gd := tb_3 (i := 34) rfl rfl
theorem se_Odds_asGreat : Cond.selects "CopyBench$Odds" y_Odds_asGreat y_Odds_asGreat ∈ gd := tb_3 (i := 35) rfl rfl
abbrev k_Odds_asGreatWithout : ByteArray := prog_5_method_3_code
def y_Odds_asGreatWithout : MethodName := ⟨"CopyBench$Odds", "asGreatWithout", "(LCopyBench$Exam;IIILCopyBench$Ratio;)V"⟩
theorem co_Odds_asGreatWithout : Cond.code y_Odds_asGreatWithout k_Odds_asGreatWithout 6 (Option.none : Option FieldType) ∈ gd := tb_3 (i := 118) rfl rfl
theorem im_Odds_asGreatWithout : Cond.instanceMethod y_Odds_asGreatWithout ∈ gd := tb_3 (i := 116) rfl rfl
theorem se_Odds_asGreatWithout : Cond.selects "CopyBench$Odds" y_Odds_asGreatWithout y_Odds_asGreatWithout ∈ gd := tb_3 (i := 117) rfl rfl
abbrev k_Odds_exactly : ByteArray := prog_5_method_4_code
def y_Odds_exactly : MethodName := ⟨"CopyBench$Odds", "exactly", "(LCopyBench$Exam;IIIILCopyBench$Ratio;)V"⟩
theorem co_Odds_exactly : Cond.code y_Odds_exactly k_Odds_exactly 7 (Option.none : Option FieldType) ∈ gd := tb_3 (i := 99) rfl rfl
theorem im_Odds_exactly : Cond.instanceMethod y_Odds_exactly ∈ gd := tb_3 (i := 97) rfl rfl
theorem se_Odds_exactly : Cond.selects "CopyBench$Odds" y_Odds_exactly y_Odds_exactly ∈ gd := tb_3 (i := 98) rfl rfl
abbrev k_Odds_takeShares : ByteArray := prog_5_method_5_code
def y_Odds_takeShares : MethodName := ⟨"CopyBench$Odds", "takeShares", "(LCopyBench$Exam;III)V"⟩
theorem co_Odds_takeShares : Cond.code y_Odds_takeShares k_Odds_takeShares 7 (Option.none : Option FieldType) ∈ gd := tb_3 (i := 1) rfl rfl
theorem im_Odds_takeShares : Cond.instanceMethod y_Odds_takeShares ∈ gd := tb_2 (i := 239) rfl rfl
theorem se_Odds_takeShares : Cond.selects "CopyBench$Odds" y_Odds_takeShares y_Odds_takeShares ∈ gd := tb_3 (i := 0) rfl rfl
abbrev k_Odds_learn : ByteArray := prog_5_method_6_code
def y_Odds_learn : MethodName := ⟨"CopyBench$Odds", "learn", "(LCopyBench$Exam;III)V"⟩
theorem co_Odds_learn : Cond.code y_Odds_learn k_Odds_learn 7 (Option.none : Option FieldType) ∈ gd := tb_3 (i := 5) rfl rfl
theorem im_Odds_learn : Cond.instanceMethod y_Odds_learn ∈ gd := tb_3 (i := 4) rfl rfl
theorem se_Odds_learn : Cond.selects "CopyBench$Odds" y_Odds_learn y_Odds_learn ∈ gd := List.mem_filter.mpr ⟨List.mem_append_left _ (List.mem_map.mpr ⟨(y_Odds_learn, 8), by decide +kernel, rfl⟩), rfl⟩
abbrev k_Odds_putTail : ByteArray := prog_5_method_7_code
def y_Odds_putTail : MethodName := ⟨"CopyBench$Odds", "putTail", "(LCopyBench$Ratio;)V"⟩
theorem co_Odds_putTail : Cond.code y_Odds_putTail k_Odds_putTail 5 (Option.none : Option FieldType) ∈ gd := tb_3 (i := 80) rfl rfl
theorem im_Odds_putTail : Cond.instanceMethod y_Odds_putTail ∈ gd := tb_3 (i := 79) rfl rfl
theorem se_Odds_putTail : Cond.selects "CopyBench$Odds" y_Odds_putTail y_Odds_putTail ∈ gd := List.mem_filter.mpr ⟨List.mem_append_left _ (List.mem_map.mpr ⟨(y_Odds_putTail, 8), by decide +kernel, rfl⟩), rfl⟩
abbrev k_Odds_spread : ByteArray := prog_5_method_8_code
def y_Odds_spread : MethodName := ⟨"CopyBench$Odds", "spread", "(LCopyBench$Exam;IIII)V"⟩
theorem co_Odds_spread : Cond.code y_Odds_spread k_Odds_spread 10 (Option.none : Option FieldType) ∈ gd := tb_3 (i := 40) rfl rfl
theorem im_Odds_spread : Cond.instanceMethod y_Odds_spread ∈ gd := tb_3 (i := 39) rfl rfl
theorem se_Odds_spread : Cond.selects "CopyBench$Odds" y_Odds_spread y_Odds_spread ∈ gd := List.mem_filter.mpr ⟨List.mem_append_left _ (List.mem_map.mpr ⟨(y_Odds_spread, 8), by decide +kernel, rfl⟩), rfl⟩
abbrev k_Odds_addItem : ByteArray := prog_5_method_9_code
def y_Odds_addItem : MethodName := ⟨"CopyBench$Odds", "addItem", "(III)V"⟩
theorem co_Odds_addItem : Cond.code y_Odds_addItem k_Odds_addItem 9 (Option.none : Option FieldType) ∈ gd := tb_3 (i := 75) rfl rfl
theorem im_Odds_addItem : Cond.instanceMethod y_Odds_addItem ∈ gd := tb_3 (i := 74) rfl rfl
theorem se_Odds_addItem : Cond.selects "CopyBench$Odds" y_Odds_addItem y_Odds_addItem ∈ gd := List.mem_filter.mpr ⟨List.mem_append_left _ (List.mem_map.mpr ⟨(y_Odds_addItem, 8), by decide +kernel, rfl⟩), rfl⟩
abbrev k_Odds_weigh : ByteArray := prog_5_method_10_code
def y_Odds_weigh : MethodName := ⟨"CopyBench$Odds", "weigh", "(LCopyBench$Exam;IIII)V"⟩
theorem co_Odds_weigh : Cond.code y_Odds_weigh k_Odds_weigh 9 (Option.none : Option FieldType) ∈ gd := tb_3 (i := 48) rfl rfl
theorem im_Odds_weigh : Cond.instanceMethod y_Odds_weigh ∈ gd := tb_3 (i := 47) rfl rfl
theorem se_Odds_weigh : Cond.selects "CopyBench$Odds" y_Odds_weigh y_Odds_weigh ∈ gd := List.mem_filter.mpr ⟨List.mem_append_left _ (List.mem_map.mpr ⟨(y_Odds_weigh, 8), by decide +kernel, rfl⟩), rfl⟩
abbrev k_Odds_weighGiven : ByteArray := prog_5_method_11_code
def y_Odds_weighGiven : MethodName := ⟨"CopyBench$Odds", "weighGiven", "(IZZ)V"⟩
theorem co_Odds_weighGiven : Cond.code y_Odds_weighGiven k_Odds_weighGiven 6 (Option.none : Option FieldType) ∈ gd := tb_3 (i := 61) rfl rfl
theorem im_Odds_weighGiven : Cond.instanceMethod y_Odds_weighGiven ∈ gd := tb_3 (i := 60) rfl rfl
theorem se_Odds_weighGiven : Cond.selects "CopyBench$Odds" y_Odds_weighGiven y_Odds_weighGiven ∈ gd := List.mem_filter.mpr ⟨List.mem_append_left _ (List.mem_map.mpr ⟨(y_Odds_weighGiven, 8), by decide +kernel, rfl⟩), rfl⟩
abbrev k_Odds_weighBound : ByteArray := prog_5_method_12_code
def y_Odds_weighBound : MethodName := ⟨"CopyBench$Odds", "weighBound", "(IIZ)V"⟩
theorem co_Odds_weighBound : Cond.code y_Odds_weighBound k_Odds_weighBound 4 (Option.none : Option FieldType) ∈ gd := tb_3 (i := 65) rfl rfl
theorem im_Odds_weighBound : Cond.instanceMethod y_Odds_weighBound ∈ gd := tb_3 (i := 64) rfl rfl
theorem se_Odds_weighBound : Cond.selects "CopyBench$Odds" y_Odds_weighBound y_Odds_weighBound ∈ gd := List.mem_filter.mpr ⟨List.mem_append_left _ (List.mem_map.mpr ⟨(y_Odds_weighBound, 8), by decide +kernel, rfl⟩), rfl⟩
abbrev k_Odds_put : ByteArray := prog_5_method_13_code
def y_Odds_put : MethodName := ⟨"CopyBench$Odds", "put", "(JJJ)V"⟩
theorem co_Odds_put : Cond.code y_Odds_put k_Odds_put 7 (Option.none : Option FieldType) ∈ gd := tb_3 (i := 57) rfl rfl
theorem im_Odds_put : Cond.instanceMethod y_Odds_put ∈ gd := tb_3 (i := 56) rfl rfl
theorem se_Odds_put : Cond.selects "CopyBench$Odds" y_Odds_put y_Odds_put ∈ gd := List.mem_filter.mpr ⟨List.mem_append_left _ (List.mem_map.mpr ⟨(y_Odds_put, 8), by decide +kernel, rfl⟩), rfl⟩
abbrev k_Odds_wrongSquares : ByteArray := prog_5_method_14_code
def y_Odds_wrongSquares : MethodName := ⟨"CopyBench$Odds", "wrongSquares", "(I)J"⟩
theorem co_Odds_wrongSquares : Cond.code y_Odds_wrongSquares k_Odds_wrongSquares 5 (Option.some FieldType.long) ∈ gd := tb_3 (i := 53) rfl rfl
theorem im_Odds_wrongSquares : Cond.instanceMethod y_Odds_wrongSquares ∈ gd := tb_3 (i := 52) rfl rfl
theorem se_Odds_wrongSquares : Cond.selects "CopyBench$Odds" y_Odds_wrongSquares y_Odds_wrongSquares ∈ gd := List.mem_filter.mpr ⟨List.mem_append_left _ (List.mem_map.mpr ⟨(y_Odds_wrongSquares, 8), by decide +kernel, rfl⟩), rfl⟩
abbrev k_Ranking_init : ByteArray := prog_6_method_1_code
def y_Ranking_init : MethodName := ⟨"CopyBench$Ranking", "<init>", "()V"⟩
theorem co_Ranking_init : Cond.code y_Ranking_init k_Ranking_init 1 (Option.none : Option FieldType) ∈ gd := tb_1 (i := 194) rfl rfl
theorem im_Ranking_init : Cond.instanceMethod y_Ranking_init ∈ gd := tb_1 (i := 193) rfl rfl
abbrev k_Ranking_has : ByteArray := prog_6_method_2_code
def y_Ranking_has : MethodName := ⟨"CopyBench$Ranking", "has", "(I)Z"⟩
theorem co_Ranking_has : Cond.code y_Ranking_has k_Ranking_has 2 (Option.some FieldType.boolean) ∈ gd := tb_3 (i := 219) rfl rfl
theorem im_Ranking_has : Cond.instanceMethod y_Ranking_has ∈ gd := tb_3 (i := 217) rfl rfl
theorem se_Ranking_has : Cond.selects "CopyBench$Ranking" y_Ranking_has y_Ranking_has ∈ gd := tb_3 (i := 218) rfl rfl
abbrev k_Ranking_order : ByteArray := prog_6_method_3_code
def y_Ranking_order : MethodName := ⟨"CopyBench$Ranking", "order", "(LCopyBench$Exam;LCopyBench$Odds;I)V"⟩
theorem co_Ranking_order : Cond.code y_Ranking_order k_Ranking_order 6 (Option.none : Option FieldType) ∈ gd := tb_3 (i := 157) rfl rfl
theorem im_Ranking_order : Cond.instanceMethod y_Ranking_order ∈ gd := tb_3 (i := 155) rfl rfl
theorem se_Ranking_order : Cond.selects "CopyBench$Ranking" y_Ranking_order y_Ranking_order ∈ gd := tb_3 (i := 156) rfl rfl
abbrev k_Ranking_placeOf : ByteArray := prog_6_method_4_code
def y_Ranking_placeOf : MethodName := ⟨"CopyBench$Ranking", "placeOf", "(II)I"⟩
theorem co_Ranking_placeOf : Cond.code y_Ranking_placeOf k_Ranking_placeOf 6 (Option.some FieldType.int) ∈ gd := tb_3 (i := 231) rfl rfl
theorem im_Ranking_placeOf : Cond.instanceMethod y_Ranking_placeOf ∈ gd := tb_3 (i := 229) rfl rfl
theorem se_Ranking_placeOf : Cond.selects "CopyBench$Ranking" y_Ranking_placeOf y_Ranking_placeOf ∈ gd := tb_3 (i := 230) rfl rfl
abbrev k_Ranking_agrees : ByteArray := prog_6_method_5_code
def y_Ranking_agrees : MethodName := ⟨"CopyBench$Ranking", "agrees", "(LCopyBench$Exam;)Z"⟩
theorem co_Ranking_agrees : Cond.code y_Ranking_agrees k_Ranking_agrees 5 (Option.some FieldType.boolean) ∈ gd := tb_4 (i := 90) rfl rfl
theorem im_Ranking_agrees : Cond.instanceMethod y_Ranking_agrees ∈ gd := tb_4 (i := 88) rfl rfl
theorem se_Ranking_agrees : Cond.selects "CopyBench$Ranking" y_Ranking_agrees y_Ranking_agrees ∈ gd := tb_4 (i := 89) rfl rfl
abbrev k_Ranking_weighPair : ByteArray := prog_6_method_6_code
def y_Ranking_weighPair : MethodName := ⟨"CopyBench$Ranking", "weighPair", "(LCopyBench$Exam;LCopyBench$Odds;III)V"⟩
theorem co_Ranking_weighPair : Cond.code y_Ranking_weighPair k_Ranking_weighPair 6 (Option.none : Option FieldType) ∈ gd := tb_3 (i := 165) rfl rfl
theorem im_Ranking_weighPair : Cond.instanceMethod y_Ranking_weighPair ∈ gd := tb_3 (i := 164) rfl rfl
theorem se_Ranking_weighPair : Cond.selects "CopyBench$Ranking" y_Ranking_weighPair y_Ranking_weighPair ∈ gd := List.mem_filter.mpr ⟨List.mem_append_left _ (List.mem_map.mpr ⟨(y_Ranking_weighPair, 8), by decide +kernel, rfl⟩), rfl⟩
abbrev k_Ranking_insert : ByteArray := prog_6_method_7_code
def y_Ranking_insert : MethodName := ⟨"CopyBench$Ranking", "insert", "(II)V"⟩
theorem co_Ranking_insert : Cond.code y_Ranking_insert k_Ranking_insert 4 (Option.none : Option FieldType) ∈ gd := tb_3 (i := 172) rfl rfl
theorem im_Ranking_insert : Cond.instanceMethod y_Ranking_insert ∈ gd := tb_3 (i := 171) rfl rfl
theorem se_Ranking_insert : Cond.selects "CopyBench$Ranking" y_Ranking_insert y_Ranking_insert ∈ gd := List.mem_filter.mpr ⟨List.mem_append_left _ (List.mem_map.mpr ⟨(y_Ranking_insert, 8), by decide +kernel, rfl⟩), rfl⟩
abbrev k_Ranking_countSuspects : ByteArray := prog_6_method_8_code
def y_Ranking_countSuspects : MethodName := ⟨"CopyBench$Ranking", "countSuspects", "(II)I"⟩
theorem co_Ranking_countSuspects : Cond.code y_Ranking_countSuspects k_Ranking_countSuspects 4 (Option.some FieldType.int) ∈ gd := tb_3 (i := 178) rfl rfl
theorem im_Ranking_countSuspects : Cond.instanceMethod y_Ranking_countSuspects ∈ gd := tb_3 (i := 177) rfl rfl
theorem se_Ranking_countSuspects : Cond.selects "CopyBench$Ranking" y_Ranking_countSuspects y_Ranking_countSuspects ∈ gd := List.mem_filter.mpr ⟨List.mem_append_left _ (List.mem_map.mpr ⟨(y_Ranking_countSuspects, 8), by decide +kernel, rfl⟩), rfl⟩
abbrev k_Ranking_holds : ByteArray := prog_6_method_9_code
def y_Ranking_holds : MethodName := ⟨"CopyBench$Ranking", "holds", "(III)Z"⟩
theorem co_Ranking_holds : Cond.code y_Ranking_holds k_Ranking_holds 6 (Option.some FieldType.boolean) ∈ gd := tb_3 (i := 182) rfl rfl
theorem im_Ranking_holds : Cond.instanceMethod y_Ranking_holds ∈ gd := tb_3 (i := 181) rfl rfl
theorem se_Ranking_holds : Cond.selects "CopyBench$Ranking" y_Ranking_holds y_Ranking_holds ∈ gd := List.mem_filter.mpr ⟨List.mem_append_left _ (List.mem_map.mpr ⟨(y_Ranking_holds, 8), by decide +kernel, rfl⟩), rfl⟩
abbrev k_Ratio_init : ByteArray := prog_7_method_1_code
def y_Ratio_init : MethodName := ⟨"CopyBench$Ratio", "<init>", "()V"⟩
theorem co_Ratio_init : Cond.code y_Ratio_init k_Ratio_init 1 (Option.none : Option FieldType) ∈ gd := tb_1 (i := 181) rfl rfl
theorem im_Ratio_init : Cond.instanceMethod y_Ratio_init ∈ gd := tb_1 (i := 180) rfl rfl
abbrev k_Ratio_put : ByteArray := prog_7_method_2_code
def y_Ratio_put : MethodName := ⟨"CopyBench$Ratio", "put", "(JJ)V"⟩
theorem co_Ratio_put : Cond.code y_Ratio_put k_Ratio_put 7 (Option.none : Option FieldType) ∈ gd := tb_3 (i := 84) rfl rfl
theorem im_Ratio_put : Cond.instanceMethod y_Ratio_put ∈ gd := tb_3 (i := 82) rfl rfl
theorem se_Ratio_put : Cond.selects "CopyBench$Ratio" y_Ratio_put y_Ratio_put ∈ gd := tb_3 (i := 83) rfl rfl
abbrev k_Ratio_copy : ByteArray := prog_7_method_3_code
def y_Ratio_copy : MethodName := ⟨"CopyBench$Ratio", "copy", "(LCopyBench$Ratio;)V"⟩
theorem co_Ratio_copy : Cond.code y_Ratio_copy k_Ratio_copy 2 (Option.none : Option FieldType) ∈ gd := tb_3 (i := 126) rfl rfl
theorem im_Ratio_copy : Cond.instanceMethod y_Ratio_copy ∈ gd := tb_3 (i := 124) rfl rfl
theorem se_Ratio_copy : Cond.selects "CopyBench$Ratio" y_Ratio_copy y_Ratio_copy ∈ gd := tb_3 (i := 125) rfl rfl
abbrev k_Ratio_half : ByteArray := prog_7_method_4_code
def y_Ratio_half : MethodName := ⟨"CopyBench$Ratio", "half", "(I)J"⟩
theorem co_Ratio_half : Cond.code y_Ratio_half k_Ratio_half 2 (Option.some FieldType.long) ∈ gd := tb_3 (i := 91) rfl rfl
theorem im_Ratio_half : Cond.instanceMethod y_Ratio_half ∈ gd := tb_3 (i := 89) rfl rfl
theorem se_Ratio_half : Cond.selects "CopyBench$Ratio" y_Ratio_half y_Ratio_half ∈ gd := tb_3 (i := 90) rfl rfl
abbrev k_Ratio_against : ByteArray := prog_7_method_5_code
def y_Ratio_against : MethodName := ⟨"CopyBench$Ratio", "against", "(LCopyBench$Ratio;)I"⟩
theorem co_Ratio_against : Cond.code y_Ratio_against k_Ratio_against 2 (Option.some FieldType.int) ∈ gd := tb_3 (i := 107) rfl rfl
theorem im_Ratio_against : Cond.instanceMethod y_Ratio_against ∈ gd := tb_3 (i := 105) rfl rfl
theorem se_Ratio_against : Cond.selects "CopyBench$Ratio" y_Ratio_against y_Ratio_against ∈ gd := tb_3 (i := 106) rfl rfl
abbrev k_Ratio_commonDivisor : ByteArray := prog_7_method_6_code
def y_Ratio_commonDivisor : MethodName := ⟨"CopyBench$Ratio", "commonDivisor", "(JJ)J"⟩
theorem co_Ratio_commonDivisor : Cond.code y_Ratio_commonDivisor k_Ratio_commonDivisor 7 (Option.some FieldType.long) ∈ gd := tb_3 (i := 87) rfl rfl
theorem st_Ratio_commonDivisor : Cond.static y_Ratio_commonDivisor ∈ gd := tb_3 (i := 86) rfl rfl
abbrev k_Ratio_compare : ByteArray := prog_7_method_7_code
def y_Ratio_compare : MethodName := ⟨"CopyBench$Ratio", "compare", "(JJJJ)I"⟩
theorem co_Ratio_compare : Cond.code y_Ratio_compare k_Ratio_compare 18 (Option.some FieldType.int) ∈ gd := tb_3 (i := 110) rfl rfl
theorem st_Ratio_compare : Cond.static y_Ratio_compare ∈ gd := tb_3 (i := 109) rfl rfl
abbrev k_Seating_init : ByteArray := prog_8_method_1_code
def y_Seating_init : MethodName := ⟨"CopyBench$Seating", "<init>", "()V"⟩
theorem co_Seating_init : Cond.code y_Seating_init k_Seating_init 1 (Option.none : Option FieldType) ∈ gd := tb_2 (i := 6) rfl rfl
theorem im_Seating_init : Cond.instanceMethod y_Seating_init ∈ gd := tb_2 (i := 5) rfl rfl
abbrev k_Seating_ways : ByteArray := prog_8_method_2_code
def y_Seating_ways : MethodName := ⟨"CopyBench$Seating", "ways", "(LCopyBench$Exam;LCopyBench$Links;ILCopyBench$Ratio;)V"⟩
theorem co_Seating_ways : Cond.code y_Seating_ways k_Seating_ways 9 (Option.none : Option FieldType) ∈ gd := tb_4 (i := 21) rfl rfl
theorem im_Seating_ways : Cond.instanceMethod y_Seating_ways ∈ gd := tb_4 (i := 19) rfl rfl
theorem se_Seating_ways : Cond.selects "CopyBench$Seating" y_Seating_ways y_Seating_ways ∈ gd := tb_4 (i := 20) rfl rfl
abbrev k_Seating_gather : ByteArray := prog_8_method_3_code
def y_Seating_gather : MethodName := ⟨"CopyBench$Seating", "gather", "(LCopyBench$Exam;)V"⟩
theorem co_Seating_gather : Cond.code y_Seating_gather k_Seating_gather 3 (Option.none : Option FieldType) ∈ gd := tb_4 (i := 25) rfl rfl
theorem im_Seating_gather : Cond.instanceMethod y_Seating_gather ∈ gd := tb_4 (i := 24) rfl rfl
theorem se_Seating_gather : Cond.selects "CopyBench$Seating" y_Seating_gather y_Seating_gather ∈ gd := List.mem_filter.mpr ⟨List.mem_append_left _ (List.mem_map.mpr ⟨(y_Seating_gather, 5), by decide +kernel, rfl⟩), rfl⟩
abbrev k_Seating_relate : ByteArray := prog_8_method_4_code
def y_Seating_relate : MethodName := ⟨"CopyBench$Seating", "relate", "(LCopyBench$Exam;LCopyBench$Links;I)V"⟩
theorem co_Seating_relate : Cond.code y_Seating_relate k_Seating_relate 6 (Option.none : Option FieldType) ∈ gd := tb_4 (i := 30) rfl rfl
theorem im_Seating_relate : Cond.instanceMethod y_Seating_relate ∈ gd := tb_4 (i := 29) rfl rfl
theorem se_Seating_relate : Cond.selects "CopyBench$Seating" y_Seating_relate y_Seating_relate ∈ gd := List.mem_filter.mpr ⟨List.mem_append_left _ (List.mem_map.mpr ⟨(y_Seating_relate, 5), by decide +kernel, rfl⟩), rfl⟩
abbrev k_Seating_nearSuspects : ByteArray := prog_8_method_5_code
def y_Seating_nearSuspects : MethodName := ⟨"CopyBench$Seating", "nearSuspects", "()I"⟩
theorem co_Seating_nearSuspects : Cond.code y_Seating_nearSuspects k_Seating_nearSuspects 4 (Option.some FieldType.int) ∈ gd := tb_4 (i := 39) rfl rfl
theorem im_Seating_nearSuspects : Cond.instanceMethod y_Seating_nearSuspects ∈ gd := tb_4 (i := 38) rfl rfl
theorem se_Seating_nearSuspects : Cond.selects "CopyBench$Seating" y_Seating_nearSuspects y_Seating_nearSuspects ∈ gd := List.mem_filter.mpr ⟨List.mem_append_left _ (List.mem_map.mpr ⟨(y_Seating_nearSuspects, 5), by decide +kernel, rfl⟩), rfl⟩
abbrev k_Seating_nextWay : ByteArray := prog_8_method_6_code
def y_Seating_nextWay : MethodName := ⟨"CopyBench$Seating", "nextWay", "()Z"⟩
theorem co_Seating_nextWay : Cond.code y_Seating_nextWay k_Seating_nextWay 5 (Option.some FieldType.boolean) ∈ gd := tb_4 (i := 43) rfl rfl
theorem im_Seating_nextWay : Cond.instanceMethod y_Seating_nextWay ∈ gd := tb_4 (i := 42) rfl rfl
theorem se_Seating_nextWay : Cond.selects "CopyBench$Seating" y_Seating_nextWay y_Seating_nextWay ∈ gd := List.mem_filter.mpr ⟨List.mem_append_left _ (List.mem_map.mpr ⟨(y_Seating_nextWay, 5), by decide +kernel, rfl⟩), rfl⟩
abbrev k_Seating_swap : ByteArray := prog_8_method_7_code
def y_Seating_swap : MethodName := ⟨"CopyBench$Seating", "swap", "(II)V"⟩
theorem co_Seating_swap : Cond.code y_Seating_swap k_Seating_swap 4 (Option.none : Option FieldType) ∈ gd := tb_4 (i := 47) rfl rfl
theorem im_Seating_swap : Cond.instanceMethod y_Seating_swap ∈ gd := tb_4 (i := 46) rfl rfl
theorem se_Seating_swap : Cond.selects "CopyBench$Seating" y_Seating_swap y_Seating_swap ∈ gd := List.mem_filter.mpr ⟨List.mem_append_left _ (List.mem_map.mpr ⟨(y_Seating_swap, 5), by decide +kernel, rfl⟩), rfl⟩
abbrev k_Tape_init : ByteArray := prog_9_method_1_code
def y_Tape_init : MethodName := ⟨"CopyBench$Tape", "<init>", "()V"⟩
theorem co_Tape_init : Cond.code y_Tape_init k_Tape_init 1 (Option.none : Option FieldType) ∈ gd := tb_2 (i := 37) rfl rfl
theorem im_Tape_init : Cond.instanceMethod y_Tape_init ∈ gd := tb_2 (i := 36) rfl rfl
abbrev k_Tape_begin : ByteArray := prog_9_method_2_code
def y_Tape_begin : MethodName := ⟨"CopyBench$Tape", "begin", "(II)V"⟩
theorem co_Tape_begin : Cond.code y_Tape_begin k_Tape_begin 4 (Option.none : Option FieldType) ∈ gd := tb_4 (i := 174) rfl rfl
theorem im_Tape_begin : Cond.instanceMethod y_Tape_begin ∈ gd := tb_4 (i := 172) rfl rfl
theorem se_Tape_begin : Cond.selects "CopyBench$Tape" y_Tape_begin y_Tape_begin ∈ gd := tb_4 (i := 173) rfl rfl
abbrev k_Tape_holdsNothing : ByteArray := prog_9_method_3_code
def y_Tape_holdsNothing : MethodName := ⟨"CopyBench$Tape", "holdsNothing", "()Z"⟩
theorem co_Tape_holdsNothing : Cond.code y_Tape_holdsNothing k_Tape_holdsNothing 1 (Option.some FieldType.boolean) ∈ gd := tb_4 (i := 146) rfl rfl
theorem im_Tape_holdsNothing : Cond.instanceMethod y_Tape_holdsNothing ∈ gd := tb_4 (i := 144) rfl rfl
theorem se_Tape_holdsNothing : Cond.selects "CopyBench$Tape" y_Tape_holdsNothing y_Tape_holdsNothing ∈ gd := tb_4 (i := 145) rfl rfl
abbrev k_Tape_hasPlace : ByteArray := prog_9_method_4_code
def y_Tape_hasPlace : MethodName := ⟨"CopyBench$Tape", "hasPlace", "(I)Z"⟩
theorem co_Tape_hasPlace : Cond.code y_Tape_hasPlace k_Tape_hasPlace 2 (Option.some FieldType.boolean) ∈ gd := tb_4 (i := 182) rfl rfl
theorem im_Tape_hasPlace : Cond.instanceMethod y_Tape_hasPlace ∈ gd := tb_4 (i := 180) rfl rfl
theorem se_Tape_hasPlace : Cond.selects "CopyBench$Tape" y_Tape_hasPlace y_Tape_hasPlace ∈ gd := tb_4 (i := 181) rfl rfl
abbrev k_Tape_hasPlaceBehind : ByteArray := prog_9_method_5_code
def y_Tape_hasPlaceBehind : MethodName := ⟨"CopyBench$Tape", "hasPlaceBehind", "(II)Z"⟩
theorem co_Tape_hasPlaceBehind : Cond.code y_Tape_hasPlaceBehind k_Tape_hasPlaceBehind 3 (Option.some FieldType.boolean) ∈ gd := tb_4 (i := 150) rfl rfl
theorem im_Tape_hasPlaceBehind : Cond.instanceMethod y_Tape_hasPlaceBehind ∈ gd := tb_4 (i := 148) rfl rfl
theorem se_Tape_hasPlaceBehind : Cond.selects "CopyBench$Tape" y_Tape_hasPlaceBehind y_Tape_hasPlaceBehind ∈ gd := tb_4 (i := 149) rfl rfl
abbrev k_Tape_hasStretch : ByteArray := prog_9_method_6_code
def y_Tape_hasStretch : MethodName := ⟨"CopyBench$Tape", "hasStretch", "(II)Z"⟩
theorem co_Tape_hasStretch : Cond.code y_Tape_hasStretch k_Tape_hasStretch 3 (Option.some FieldType.boolean) ∈ gd := tb_4 (i := 198) rfl rfl
theorem im_Tape_hasStretch : Cond.instanceMethod y_Tape_hasStretch ∈ gd := tb_4 (i := 196) rfl rfl
theorem se_Tape_hasStretch : Cond.selects "CopyBench$Tape" y_Tape_hasStretch y_Tape_hasStretch ∈ gd := tb_4 (i := 197) rfl rfl
abbrev k_Tape_fitted : ByteArray := prog_9_method_7_code
def y_Tape_fitted : MethodName := ⟨"CopyBench$Tape", "fitted", "(J)J"⟩
theorem co_Tape_fitted : Cond.code y_Tape_fitted k_Tape_fitted 3 (Option.some FieldType.long) ∈ gd := tb_4 (i := 186) rfl rfl
theorem im_Tape_fitted : Cond.instanceMethod y_Tape_fitted ∈ gd := tb_4 (i := 184) rfl rfl
theorem se_Tape_fitted : Cond.selects "CopyBench$Tape" y_Tape_fitted y_Tape_fitted ∈ gd := tb_4 (i := 185) rfl rfl
abbrev k_Text_init : ByteArray := prog_10_method_1_code
def y_Text_init : MethodName := ⟨"CopyBench$Text", "<init>", "()V"⟩
theorem co_Text_init : Cond.code y_Text_init k_Text_init 1 (Option.none : Option FieldType) ∈ gd := tb_1 (i := 129) rfl rfl
theorem im_Text_init : Cond.instanceMethod y_Text_init ∈ gd := tb_1 (i := 128) rfl rfl
abbrev k_Text_isFull : ByteArray := prog_10_method_2_code
def y_Text_isFull : MethodName := ⟨"CopyBench$Text", "isFull", "()Z"⟩
theorem co_Text_isFull : Cond.code y_Text_isFull k_Text_isFull 1 (Option.some FieldType.boolean) ∈ gd := tb_2 (i := 153) rfl rfl
theorem im_Text_isFull : Cond.instanceMethod y_Text_isFull ∈ gd := tb_2 (i := 151) rfl rfl
theorem se_Text_isFull : Cond.selects "CopyBench$Text" y_Text_isFull y_Text_isFull ∈ gd := tb_2 (i := 152) rfl rfl
abbrev k_Text_append : ByteArray := prog_10_method_3_code
def y_Text_append : MethodName := ⟨"CopyBench$Text", "append", "(I)I"⟩
theorem co_Text_append : Cond.code y_Text_append k_Text_append 2 (Option.some FieldType.int) ∈ gd := tb_2 (i := 157) rfl rfl
theorem im_Text_append : Cond.instanceMethod y_Text_append ∈ gd := tb_2 (i := 155) rfl rfl
theorem se_Text_append : Cond.selects "CopyBench$Text" y_Text_append y_Text_append ∈ gd := tb_2 (i := 156) rfl rfl
abbrev k_Text_empty : ByteArray := prog_10_method_4_code
def y_Text_empty : MethodName := ⟨"CopyBench$Text", "empty", "()V"⟩
theorem co_Text_empty : Cond.code y_Text_empty k_Text_empty 1 (Option.none : Option FieldType) ∈ gd := tb_2 (i := 178) rfl rfl
theorem im_Text_empty : Cond.instanceMethod y_Text_empty ∈ gd := tb_2 (i := 176) rfl rfl
theorem se_Text_empty : Cond.selects "CopyBench$Text" y_Text_empty y_Text_empty ∈ gd := tb_2 (i := 177) rfl rfl
abbrev k_Text_examine : ByteArray := prog_10_method_5_code
def y_Text_examine : MethodName := ⟨"CopyBench$Text", "examine", "(LCopyBench$Exam;)I"⟩
theorem co_Text_examine : Cond.code y_Text_examine k_Text_examine 6 (Option.some FieldType.int) ∈ gd := tb_2 (i := 165) rfl rfl
theorem im_Text_examine : Cond.instanceMethod y_Text_examine ∈ gd := tb_2 (i := 163) rfl rfl
theorem se_Text_examine : Cond.selects "CopyBench$Text" y_Text_examine y_Text_examine ∈ gd := tb_2 (i := 164) rfl rfl
abbrev k_Text_tell : ByteArray := prog_10_method_6_code
def y_Text_tell : MethodName := ⟨"CopyBench$Text", "tell", "(LCopyBench$Exam;)V"⟩
theorem co_Text_tell : Cond.code y_Text_tell k_Text_tell 6 (Option.none : Option FieldType) ∈ gd := tb_2 (i := 173) rfl rfl
theorem im_Text_tell : Cond.instanceMethod y_Text_tell ∈ gd := tb_2 (i := 171) rfl rfl
theorem se_Text_tell : Cond.selects "CopyBench$Text" y_Text_tell y_Text_tell ∈ gd := tb_2 (i := 172) rfl rfl
abbrev k_Text_isLetter : ByteArray := prog_10_method_7_code
def y_Text_isLetter : MethodName := ⟨"CopyBench$Text", "isLetter", "(I)Z"⟩
theorem co_Text_isLetter : Cond.code y_Text_isLetter k_Text_isLetter 1 (Option.some FieldType.boolean) ∈ gd := tb_2 (i := 169) rfl rfl
theorem st_Text_isLetter : Cond.static y_Text_isLetter ∈ gd := tb_2 (i := 168) rfl rfl
abbrev k_Jint_bitCount : ByteArray := prog_13_method_49_code
def y_Jint_bitCount : MethodName := ⟨"java/lang/Integer", "bitCount", "(I)I"⟩
theorem co_Jint_bitCount : Cond.code y_Jint_bitCount k_Jint_bitCount 1 (Option.some FieldType.int) ∈ gd := tb_3 (i := 203) rfl rfl
theorem st_Jint_bitCount : Cond.static y_Jint_bitCount ∈ gd := tb_3 (i := 202) rfl rfl
theorem ini_Draws : Cond.initialized "CopyBench$Draws" ∈ gd := tb_1 (i := 9) rfl rfl
theorem ini_Exam : Cond.initialized "CopyBench$Exam" ∈ gd := tb_1 (i := 2) rfl rfl
theorem ini_Links : Cond.initialized "CopyBench$Links" ∈ gd := tb_1 (i := 7) rfl rfl
theorem ini_Odds : Cond.initialized "CopyBench$Odds" ∈ gd := tb_1 (i := 4) rfl rfl
theorem ini_Ranking : Cond.initialized "CopyBench$Ranking" ∈ gd := tb_1 (i := 6) rfl rfl
theorem ini_Ratio : Cond.initialized "CopyBench$Ratio" ∈ gd := tb_1 (i := 5) rfl rfl
theorem ini_Seating : Cond.initialized "CopyBench$Seating" ∈ gd := tb_1 (i := 8) rfl rfl
theorem ini_Tape : Cond.initialized "CopyBench$Tape" ∈ gd := tb_1 (i := 10) rfl rfl
theorem ini_Text : Cond.initialized "CopyBench$Text" ∈ gd := tb_1 (i := 3) rfl rfl
theorem ini_Cb : Cond.initialized "CopyBench" ∈ gd := tb_1 (i := 1) rfl rfl
theorem ini_Md : Cond.initialized "CopyBenchModel" ∈ gd := tb_1 (i := 11) rfl rfl
theorem ini_Jmath : Cond.initialized "java/lang/Math" ∈ gd := tb_1 (i := 12) rfl rfl
theorem ini_Jint : Cond.initialized "java/lang/Integer" ∈ gd := tb_1 (i := 13) rfl rfl
theorem ini_Jsystem : Cond.initialized "java/lang/System" ∈ gd := tb_1 (i := 14) rfl rfl
theorem xl_law_7 : Cond.classLink "CopyBenchLaw" 7 "CopyBench" ∈ gd := tb_1 (i := 15) rfl rfl
theorem ml_law_9 : Cond.methodLink "CopyBenchLaw" 9 y_Cb_init ∈ gd := tb_1 (i := 17) rfl rfl
theorem ml_Cb_3 : Cond.methodLink "CopyBench" 3 ({ cls := "java/lang/Object", name := "<init>", desc := "()V" } : MethodName) ∈ gd := tb_1 (i := 20) rfl rfl
theorem xl_Cb_9 : Cond.classLink "CopyBench" 9 "CopyBench$Exam" ∈ gd := tb_1 (i := 23) rfl rfl
theorem ml_Cb_11 : Cond.methodLink "CopyBench" 11 y_Exam_init ∈ gd := tb_1 (i := 25) rfl rfl
theorem ml_Exam_3 : Cond.methodLink "CopyBench$Exam" 3 ({ cls := "java/lang/Object", name := "<init>", desc := "()V" } : MethodName) ∈ gd := tb_1 (i := 28) rfl rfl
theorem xl_Exam_31 : Cond.classLink "CopyBench$Exam" 31 "[[I" ∈ gd := tb_1 (i := 29) rfl rfl
theorem ml_Exam_67 : Cond.methodLink "CopyBench$Exam" 67 y_Exam_begin ∈ gd := tb_1 (i := 31) rfl rfl
theorem ml_Exam_71 : Cond.methodLink "CopyBench$Exam" 71 y_Exam_leaveBlank ∈ gd := tb_1 (i := 35) rfl rfl
theorem ml_Exam_74 : Cond.methodLink "CopyBench$Exam" 74 y_Exam_sits ∈ gd := tb_1 (i := 39) rfl rfl
theorem fl_Exam_9 : Cond.fieldLink "CopyBench$Exam" 9 "CopyBench$Exam" "items" "I" ∈ gd := tb_1 (i := 43) rfl rfl
theorem fl_Draws_15 : Cond.fieldLink "CopyBench$Draws" 15 "CopyBench$Exam" "items" "I" ∈ gd := tb_1 (i := 44) rfl rfl
theorem fl_Cb_87 : Cond.fieldLink "CopyBench" 87 "CopyBench$Exam" "items" "I" ∈ gd := tb_1 (i := 45) rfl rfl
theorem fl_Text_25 : Cond.fieldLink "CopyBench$Text" 25 "CopyBench$Exam" "items" "I" ∈ gd := tb_1 (i := 46) rfl rfl
theorem fl_Odds_75 : Cond.fieldLink "CopyBench$Odds" 75 "CopyBench$Exam" "items" "I" ∈ gd := tb_1 (i := 47) rfl rfl
theorem fl_Exam_15 : Cond.fieldLink "CopyBench$Exam" 15 "CopyBench$Exam" "come" "I" ∈ gd := tb_1 (i := 48) rfl rfl
theorem fl_Seating_48 : Cond.fieldLink "CopyBench$Seating" 48 "CopyBench$Exam" "come" "I" ∈ gd := tb_1 (i := 49) rfl rfl
theorem fl_Ranking_42 : Cond.fieldLink "CopyBench$Ranking" 42 "CopyBench$Exam" "come" "I" ∈ gd := tb_1 (i := 50) rfl rfl
theorem fl_Cb_116 : Cond.fieldLink "CopyBench" 116 "CopyBench$Exam" "come" "I" ∈ gd := tb_1 (i := 51) rfl rfl
theorem fl_Odds_66 : Cond.fieldLink "CopyBench$Odds" 66 "CopyBench$Exam" "come" "I" ∈ gd := tb_1 (i := 52) rfl rfl
theorem fl_Exam_18 : Cond.fieldLink "CopyBench$Exam" 18 "CopyBench$Exam" "seen" "I" ∈ gd := tb_1 (i := 53) rfl rfl
theorem fl_Ranking_74 : Cond.fieldLink "CopyBench$Ranking" 74 "CopyBench$Exam" "seen" "I" ∈ gd := tb_1 (i := 54) rfl rfl
theorem fl_Cb_302 : Cond.fieldLink "CopyBench" 302 "CopyBench$Exam" "seen" "I" ∈ gd := tb_1 (i := 55) rfl rfl
theorem fl_Exam_21 : Cond.fieldLink "CopyBench$Exam" 21 "CopyBench$Exam" "planned" "I" ∈ gd := tb_1 (i := 56) rfl rfl
theorem fl_Cb_320 : Cond.fieldLink "CopyBench" 320 "CopyBench$Exam" "planned" "I" ∈ gd := tb_1 (i := 57) rfl rfl
theorem fl_Exam_24 : Cond.fieldLink "CopyBench$Exam" 24 "CopyBench$Exam" "key" "[I" ∈ gd := tb_1 (i := 58) rfl rfl
theorem fl_Cb_102 : Cond.fieldLink "CopyBench" 102 "CopyBench$Exam" "key" "[I" ∈ gd := tb_1 (i := 59) rfl rfl
theorem fl_Odds_105 : Cond.fieldLink "CopyBench$Odds" 105 "CopyBench$Exam" "key" "[I" ∈ gd := tb_1 (i := 60) rfl rfl
theorem fl_Exam_28 : Cond.fieldLink "CopyBench$Exam" 28 "CopyBench$Exam" "kind" "[I" ∈ gd := tb_1 (i := 61) rfl rfl
theorem fl_Cb_109 : Cond.fieldLink "CopyBench" 109 "CopyBench$Exam" "kind" "[I" ∈ gd := tb_1 (i := 62) rfl rfl
theorem fl_Odds_53 : Cond.fieldLink "CopyBench$Odds" 53 "CopyBench$Exam" "kind" "[I" ∈ gd := tb_1 (i := 63) rfl rfl
theorem fl_Exam_33 : Cond.fieldLink "CopyBench$Exam" 33 "CopyBench$Exam" "parts" "[[I" ∈ gd := tb_1 (i := 64) rfl rfl
theorem fl_Odds_58 : Cond.fieldLink "CopyBench$Odds" 58 "CopyBench$Exam" "parts" "[[I" ∈ gd := tb_1 (i := 65) rfl rfl
theorem fl_Cb_112 : Cond.fieldLink "CopyBench" 112 "CopyBench$Exam" "parts" "[[I" ∈ gd := tb_1 (i := 66) rfl rfl
theorem fl_Exam_36 : Cond.fieldLink "CopyBench$Exam" 36 "CopyBench$Exam" "given" "[[I" ∈ gd := tb_1 (i := 67) rfl rfl
theorem fl_Odds_69 : Cond.fieldLink "CopyBench$Odds" 69 "CopyBench$Exam" "given" "[[I" ∈ gd := tb_1 (i := 68) rfl rfl
theorem fl_Text_34 : Cond.fieldLink "CopyBench$Text" 34 "CopyBench$Exam" "given" "[[I" ∈ gd := tb_1 (i := 69) rfl rfl
theorem fl_Cb_126 : Cond.fieldLink "CopyBench" 126 "CopyBench$Exam" "given" "[[I" ∈ gd := tb_1 (i := 70) rfl rfl
theorem fl_Exam_39 : Cond.fieldLink "CopyBench$Exam" 39 "CopyBench$Exam" "row" "[I" ∈ gd := tb_1 (i := 71) rfl rfl
theorem fl_Cb_174 : Cond.fieldLink "CopyBench" 174 "CopyBench$Exam" "row" "[I" ∈ gd := tb_1 (i := 72) rfl rfl
theorem fl_Exam_42 : Cond.fieldLink "CopyBench$Exam" 42 "CopyBench$Exam" "place" "[I" ∈ gd := tb_1 (i := 73) rfl rfl
theorem fl_Cb_177 : Cond.fieldLink "CopyBench" 177 "CopyBench$Exam" "place" "[I" ∈ gd := tb_1 (i := 74) rfl rfl
theorem fl_Exam_45 : Cond.fieldLink "CopyBench$Exam" 45 "CopyBench$Exam" "used" "[I" ∈ gd := tb_1 (i := 75) rfl rfl
theorem fl_Ranking_59 : Cond.fieldLink "CopyBench$Ranking" 59 "CopyBench$Exam" "used" "[I" ∈ gd := tb_1 (i := 76) rfl rfl
theorem fl_Odds_72 : Cond.fieldLink "CopyBench$Odds" 72 "CopyBench$Exam" "used" "[I" ∈ gd := tb_1 (i := 77) rfl rfl
theorem fl_Cb_165 : Cond.fieldLink "CopyBench" 165 "CopyBench$Exam" "used" "[I" ∈ gd := tb_1 (i := 78) rfl rfl
theorem fl_Exam_48 : Cond.fieldLink "CopyBench$Exam" 48 "CopyBench$Exam" "seenX" "[I" ∈ gd := tb_1 (i := 79) rfl rfl
theorem fl_Ranking_77 : Cond.fieldLink "CopyBench$Ranking" 77 "CopyBench$Exam" "seenX" "[I" ∈ gd := tb_1 (i := 80) rfl rfl
theorem fl_Exam_51 : Cond.fieldLink "CopyBench$Exam" 51 "CopyBench$Exam" "seenY" "[I" ∈ gd := tb_1 (i := 81) rfl rfl
theorem fl_Ranking_80 : Cond.fieldLink "CopyBench$Ranking" 80 "CopyBench$Exam" "seenY" "[I" ∈ gd := tb_1 (i := 82) rfl rfl
theorem fl_Exam_54 : Cond.fieldLink "CopyBench$Exam" 54 "CopyBench$Exam" "seenIs" "[Z" ∈ gd := tb_1 (i := 83) rfl rfl
theorem fl_Ranking_86 : Cond.fieldLink "CopyBench$Ranking" 86 "CopyBench$Exam" "seenIs" "[Z" ∈ gd := tb_1 (i := 84) rfl rfl
theorem fl_Exam_58 : Cond.fieldLink "CopyBench$Exam" 58 "CopyBench$Exam" "planWhat" "[I" ∈ gd := tb_1 (i := 85) rfl rfl
theorem fl_Exam_61 : Cond.fieldLink "CopyBench$Exam" 61 "CopyBench$Exam" "planK" "[I" ∈ gd := tb_1 (i := 86) rfl rfl
theorem fl_Exam_64 : Cond.fieldLink "CopyBench$Exam" 64 "CopyBench$Exam" "planV" "[I" ∈ gd := tb_1 (i := 87) rfl rfl
theorem xl_Cb_28 : Cond.classLink "CopyBench" 28 "CopyBench$Text" ∈ gd := tb_1 (i := 125) rfl rfl
theorem mn_Cb_30 : Cond.methodLinkNest "CopyBench" 30 y_Text_init "CopyBench" ∈ lw_tbl := tt_1 (i := 127) rfl
theorem ml_Text_3 : Cond.methodLink "CopyBench$Text" 3 ({ cls := "java/lang/Object", name := "<init>", desc := "()V" } : MethodName) ∈ gd := tb_1 (i := 130) rfl rfl
theorem fl_Text_9 : Cond.fieldLink "CopyBench$Text" 9 "CopyBench$Text" "size" "I" ∈ gd := tb_1 (i := 131) rfl rfl
theorem fl_Cb_353 : Cond.fieldLink "CopyBench" 353 "CopyBench$Text" "size" "I" ∈ gd := tb_1 (i := 132) rfl rfl
theorem fl_Text_15 : Cond.fieldLink "CopyBench$Text" 15 "CopyBench$Text" "signs" "[I" ∈ gd := tb_1 (i := 133) rfl rfl
theorem xl_Cb_35 : Cond.classLink "CopyBench" 35 "CopyBench$Tape" ∈ gd := tb_1 (i := 139) rfl rfl
theorem xl_Cb_41 : Cond.classLink "CopyBench" 41 "CopyBench$Odds" ∈ gd := tb_1 (i := 141) rfl rfl
theorem mn_Cb_43 : Cond.methodLinkNest "CopyBench" 43 y_Odds_init "CopyBench" ∈ lw_tbl := tt_1 (i := 143) rfl
theorem ml_Odds_3 : Cond.methodLink "CopyBench$Odds" 3 ({ cls := "java/lang/Object", name := "<init>", desc := "()V" } : MethodName) ∈ gd := tb_1 (i := 146) rfl rfl
theorem fl_Odds_9 : Cond.fieldLink "CopyBench$Odds" 9 "CopyBench$Odds" "shares" "[I" ∈ gd := tb_1 (i := 147) rfl rfl
theorem fl_Draws_45 : Cond.fieldLink "CopyBench$Draws" 45 "CopyBench$Odds" "shares" "[I" ∈ gd := tb_1 (i := 148) rfl rfl
theorem fl_Cb_203 : Cond.fieldLink "CopyBench" 203 "CopyBench$Odds" "shares" "[I" ∈ gd := tb_1 (i := 149) rfl rfl
theorem fl_Odds_15 : Cond.fieldLink "CopyBench$Odds" 15 "CopyBench$Odds" "sum" "I" ∈ gd := tb_1 (i := 150) rfl rfl
theorem fl_Draws_38 : Cond.fieldLink "CopyBench$Draws" 38 "CopyBench$Odds" "sum" "I" ∈ gd := tb_1 (i := 151) rfl rfl
theorem fl_Cb_200 : Cond.fieldLink "CopyBench" 200 "CopyBench$Odds" "sum" "I" ∈ gd := tb_1 (i := 152) rfl rfl
theorem fl_Odds_19 : Cond.fieldLink "CopyBench$Odds" 19 "CopyBench$Odds" "ways" "[J" ∈ gd := tb_1 (i := 153) rfl rfl
theorem fl_Odds_23 : Cond.fieldLink "CopyBench$Odds" 23 "CopyBench$Odds" "allWays" "J" ∈ gd := tb_1 (i := 154) rfl rfl
theorem fl_Odds_27 : Cond.fieldLink "CopyBench$Odds" 27 "CopyBench$Odds" "likeness" "I" ∈ gd := tb_1 (i := 155) rfl rfl
theorem fl_Odds_30 : Cond.fieldLink "CopyBench$Odds" 30 "CopyBench$Odds" "alikeRight" "J" ∈ gd := tb_1 (i := 156) rfl rfl
theorem fl_Odds_33 : Cond.fieldLink "CopyBench$Odds" 33 "CopyBench$Odds" "alikeWrong" "J" ∈ gd := tb_1 (i := 157) rfl rfl
theorem fl_Odds_36 : Cond.fieldLink "CopyBench$Odds" 36 "CopyBench$Odds" "any" "J" ∈ gd := tb_1 (i := 158) rfl rfl
theorem xl_Cb_48 : Cond.classLink "CopyBench" 48 "CopyBench$Ratio" ∈ gd := tb_1 (i := 177) rfl rfl
theorem mn_Cb_50 : Cond.methodLinkNest "CopyBench" 50 y_Ratio_init "CopyBench" ∈ lw_tbl := tt_1 (i := 179) rfl
theorem ml_Ratio_1 : Cond.methodLink "CopyBench$Ratio" 1 ({ cls := "java/lang/Object", name := "<init>", desc := "()V" } : MethodName) ∈ gd := tb_1 (i := 182) rfl rfl
theorem fl_Ratio_7 : Cond.fieldLink "CopyBench$Ratio" 7 "CopyBench$Ratio" "above" "J" ∈ gd := tb_1 (i := 183) rfl rfl
theorem fl_Ratio_13 : Cond.fieldLink "CopyBench$Ratio" 13 "CopyBench$Ratio" "below" "J" ∈ gd := tb_1 (i := 184) rfl rfl
theorem xl_Cb_58 : Cond.classLink "CopyBench" 58 "CopyBench$Ranking" ∈ gd := tb_1 (i := 190) rfl rfl
theorem mn_Cb_60 : Cond.methodLinkNest "CopyBench" 60 y_Ranking_init "CopyBench" ∈ lw_tbl := tt_1 (i := 192) rfl
theorem ml_Ranking_3 : Cond.methodLink "CopyBench$Ranking" 3 ({ cls := "java/lang/Object", name := "<init>", desc := "()V" } : MethodName) ∈ gd := tb_1 (i := 195) rfl rfl
theorem xl_Ranking_32 : Cond.classLink "CopyBench$Ranking" 32 "CopyBench$Ratio" ∈ gd := tb_1 (i := 196) rfl rfl
theorem mn_Ranking_34 : Cond.methodLinkNest "CopyBench$Ranking" 34 y_Ratio_init "CopyBench" ∈ lw_tbl := tt_1 (i := 197) rfl
theorem fl_Ranking_9 : Cond.fieldLink "CopyBench$Ranking" 9 "CopyBench$Ranking" "size" "I" ∈ gd := tb_1 (i := 198) rfl rfl
theorem fl_Ranking_15 : Cond.fieldLink "CopyBench$Ranking" 15 "CopyBench$Ranking" "suspects" "I" ∈ gd := tb_1 (i := 199) rfl rfl
theorem fl_Links_15 : Cond.fieldLink "CopyBench$Links" 15 "CopyBench$Ranking" "suspects" "I" ∈ gd := tb_1 (i := 200) rfl rfl
theorem fl_Cb_246 : Cond.fieldLink "CopyBench" 246 "CopyBench$Ranking" "suspects" "I" ∈ gd := tb_1 (i := 201) rfl rfl
theorem fl_Ranking_18 : Cond.fieldLink "CopyBench$Ranking" 18 "CopyBench$Ranking" "lower" "[I" ∈ gd := tb_1 (i := 202) rfl rfl
theorem fl_Links_21 : Cond.fieldLink "CopyBench$Links" 21 "CopyBench$Ranking" "lower" "[I" ∈ gd := tb_1 (i := 203) rfl rfl
theorem fl_Cb_264 : Cond.fieldLink "CopyBench" 264 "CopyBench$Ranking" "lower" "[I" ∈ gd := tb_1 (i := 204) rfl rfl
theorem fl_Ranking_22 : Cond.fieldLink "CopyBench$Ranking" 22 "CopyBench$Ranking" "upper" "[I" ∈ gd := tb_1 (i := 205) rfl rfl
theorem fl_Links_24 : Cond.fieldLink "CopyBench$Links" 24 "CopyBench$Ranking" "upper" "[I" ∈ gd := tb_1 (i := 206) rfl rfl
theorem fl_Cb_267 : Cond.fieldLink "CopyBench" 267 "CopyBench$Ranking" "upper" "[I" ∈ gd := tb_1 (i := 207) rfl rfl
theorem fl_Ranking_25 : Cond.fieldLink "CopyBench$Ranking" 25 "CopyBench$Ranking" "above" "[J" ∈ gd := tb_1 (i := 208) rfl rfl
theorem fl_Cb_270 : Cond.fieldLink "CopyBench" 270 "CopyBench$Ranking" "above" "[J" ∈ gd := tb_1 (i := 209) rfl rfl
theorem fl_Ranking_29 : Cond.fieldLink "CopyBench$Ranking" 29 "CopyBench$Ranking" "below" "[J" ∈ gd := tb_1 (i := 210) rfl rfl
theorem fl_Cb_274 : Cond.fieldLink "CopyBench" 274 "CopyBench$Ranking" "below" "[J" ∈ gd := tb_1 (i := 211) rfl rfl
theorem fl_Ranking_35 : Cond.fieldLink "CopyBench$Ranking" 35 "CopyBench$Ranking" "one" "LCopyBench$Ratio;" ∈ gd := tb_1 (i := 212) rfl rfl
theorem fl_Ranking_39 : Cond.fieldLink "CopyBench$Ranking" 39 "CopyBench$Ranking" "turned" "LCopyBench$Ratio;" ∈ gd := tb_1 (i := 213) rfl rfl
theorem xl_Cb_65 : Cond.classLink "CopyBench" 65 "CopyBench$Links" ∈ gd := tb_1 (i := 231) rfl rfl
theorem mn_Cb_67 : Cond.methodLinkNest "CopyBench" 67 y_Links_init "CopyBench" ∈ lw_tbl := tt_1 (i := 233) rfl
theorem ml_Links_3 : Cond.methodLink "CopyBench$Links" 3 ({ cls := "java/lang/Object", name := "<init>", desc := "()V" } : MethodName) ∈ gd := tb_1 (i := 236) rfl rfl
theorem fl_Links_9 : Cond.fieldLink "CopyBench$Links" 9 "CopyBench$Links" "suspectWith" "[I" ∈ gd := tb_1 (i := 237) rfl rfl
theorem fl_Cb_280 : Cond.fieldLink "CopyBench" 280 "CopyBench$Links" "suspectWith" "[I" ∈ gd := tb_1 (i := 238) rfl rfl
theorem xl_Cb_72 : Cond.classLink "CopyBench" 72 "CopyBench$Seating" ∈ gd := tb_2 (i := 2) rfl rfl
theorem mn_Cb_74 : Cond.methodLinkNest "CopyBench" 74 y_Seating_init "CopyBench" ∈ lw_tbl := tt_2 (i := 4) rfl
theorem ml_Seating_1 : Cond.methodLink "CopyBench$Seating" 1 ({ cls := "java/lang/Object", name := "<init>", desc := "()V" } : MethodName) ∈ gd := tb_2 (i := 7) rfl rfl
theorem fl_Seating_7 : Cond.fieldLink "CopyBench$Seating" 7 "CopyBench$Seating" "size" "I" ∈ gd := tb_2 (i := 8) rfl rfl
theorem fl_Seating_13 : Cond.fieldLink "CopyBench$Seating" 13 "CopyBench$Seating" "who" "[I" ∈ gd := tb_2 (i := 9) rfl rfl
theorem fl_Seating_17 : Cond.fieldLink "CopyBench$Seating" 17 "CopyBench$Seating" "seatOf" "[I" ∈ gd := tb_2 (i := 10) rfl rfl
theorem fl_Seating_20 : Cond.fieldLink "CopyBench$Seating" 20 "CopyBench$Seating" "nearTo" "[I" ∈ gd := tb_2 (i := 11) rfl rfl
theorem fl_Seating_23 : Cond.fieldLink "CopyBench$Seating" 23 "CopyBench$Seating" "suspectWith" "[I" ∈ gd := tb_2 (i := 12) rfl rfl
theorem xl_Cb_79 : Cond.classLink "CopyBench" 79 "CopyBench$Draws" ∈ gd := tb_2 (i := 24) rfl rfl
theorem mn_Cb_81 : Cond.methodLinkNest "CopyBench" 81 y_Draws_init "CopyBench" ∈ lw_tbl := tt_2 (i := 26) rfl
theorem ml_Draws_3 : Cond.methodLink "CopyBench$Draws" 3 ({ cls := "java/lang/Object", name := "<init>", desc := "()V" } : MethodName) ∈ gd := tb_2 (i := 29) rfl rfl
theorem fl_Draws_9 : Cond.fieldLink "CopyBench$Draws" 9 "CopyBench$Draws" "seed" "I" ∈ gd := tb_2 (i := 30) rfl rfl
theorem mn_Cb_86 : Cond.methodLinkNest "CopyBench" 86 y_Tape_init "CopyBench" ∈ lw_tbl := tt_2 (i := 35) rfl
theorem ml_Tape_1 : Cond.methodLink "CopyBench$Tape" 1 ({ cls := "java/lang/Object", name := "<init>", desc := "()V" } : MethodName) ∈ gd := tb_2 (i := 38) rfl rfl
theorem fl_Tape_9 : Cond.fieldLink "CopyBench$Tape" 9 "CopyBench$Tape" "sort" "I" ∈ gd := tb_2 (i := 39) rfl rfl
theorem fl_Cb_342 : Cond.fieldLink "CopyBench" 342 "CopyBench$Tape" "sort" "I" ∈ gd := tb_2 (i := 40) rfl rfl
theorem fl_Tape_13 : Cond.fieldLink "CopyBench$Tape" 13 "CopyBench$Tape" "size" "I" ∈ gd := tb_2 (i := 41) rfl rfl
theorem fl_Tape_16 : Cond.fieldLink "CopyBench$Tape" 16 "CopyBench$Tape" "row" "[J" ∈ gd := tb_2 (i := 42) rfl rfl
theorem fl_Cb_348 : Cond.fieldLink "CopyBench" 348 "CopyBench$Tape" "row" "[J" ∈ gd := tb_2 (i := 43) rfl rfl
theorem fl_Cb_12 : Cond.fieldLink "CopyBench" 12 "CopyBench" "now" "LCopyBench$Exam;" ∈ gd := tb_2 (i := 51) rfl rfl
theorem fl_Cb_18 : Cond.fieldLink "CopyBench" 18 "CopyBench" "kept" "LCopyBench$Exam;" ∈ gd := tb_2 (i := 52) rfl rfl
theorem fl_Cb_21 : Cond.fieldLink "CopyBench" 21 "CopyBench" "trial" "LCopyBench$Exam;" ∈ gd := tb_2 (i := 53) rfl rfl
theorem fl_Cb_24 : Cond.fieldLink "CopyBench" 24 "CopyBench" "imageTaken" "Z" ∈ gd := tb_2 (i := 54) rfl rfl
theorem fl_Cb_31 : Cond.fieldLink "CopyBench" 31 "CopyBench" "text" "LCopyBench$Text;" ∈ gd := tb_2 (i := 55) rfl rfl
theorem fl_Cb_37 : Cond.fieldLink "CopyBench" 37 "CopyBench" "tapes" "[LCopyBench$Tape;" ∈ gd := tb_2 (i := 56) rfl rfl
theorem fl_Cb_44 : Cond.fieldLink "CopyBench" 44 "CopyBench" "odds" "LCopyBench$Odds;" ∈ gd := tb_2 (i := 57) rfl rfl
theorem fl_Cb_51 : Cond.fieldLink "CopyBench" 51 "CopyBench" "first" "LCopyBench$Ratio;" ∈ gd := tb_2 (i := 58) rfl rfl
theorem fl_Cb_55 : Cond.fieldLink "CopyBench" 55 "CopyBench" "second" "LCopyBench$Ratio;" ∈ gd := tb_2 (i := 59) rfl rfl
theorem fl_Cb_61 : Cond.fieldLink "CopyBench" 61 "CopyBench" "ranking" "LCopyBench$Ranking;" ∈ gd := tb_2 (i := 60) rfl rfl
theorem fl_Cb_68 : Cond.fieldLink "CopyBench" 68 "CopyBench" "links" "LCopyBench$Links;" ∈ gd := tb_2 (i := 61) rfl rfl
theorem fl_Cb_75 : Cond.fieldLink "CopyBench" 75 "CopyBench" "seating" "LCopyBench$Seating;" ∈ gd := tb_2 (i := 62) rfl rfl
theorem fl_Cb_82 : Cond.fieldLink "CopyBench" 82 "CopyBench" "draws" "LCopyBench$Draws;" ∈ gd := tb_2 (i := 63) rfl rfl
theorem ml_law_13 : Cond.methodLink "CopyBenchLaw" 13 y_Cb_items ∈ gd := tb_2 (i := 91) rfl rfl
theorem ml_Cb_91 : Cond.methodLink "CopyBench" 91 y_Exam_begin ∈ gd := tb_2 (i := 95) rfl rfl
theorem ml_law_18 : Cond.methodLink "CopyBenchLaw" 18 y_Cb_right ∈ gd := tb_2 (i := 96) rfl rfl
theorem ml_Cb_95 : Cond.methodLink "CopyBench" 95 y_Exam_hasItem ∈ gd := tb_2 (i := 100) rfl rfl
theorem ml_Cb_99 : Cond.methodLink "CopyBench" 99 y_Cb_isAnswer ∈ gd := tb_2 (i := 104) rfl rfl
theorem ml_law_23 : Cond.methodLink "CopyBenchLaw" 23 y_Cb_model ∈ gd := tb_2 (i := 107) rfl rfl
theorem ml_Cb_106 : Cond.methodLink "CopyBench" 106 y_Cb_isKind ∈ gd := tb_2 (i := 111) rfl rfl
theorem ml_law_27 : Cond.methodLink "CopyBenchLaw" 27 y_Cb_part ∈ gd := tb_2 (i := 114) rfl rfl
theorem ml_law_32 : Cond.methodLink "CopyBenchLaw" 32 y_Cb_candidate ∈ gd := tb_2 (i := 118) rfl rfl
theorem ml_Cb_119 : Cond.methodLink "CopyBench" 119 y_Exam_comes ∈ gd := tb_2 (i := 122) rfl rfl
theorem ml_law_37 : Cond.methodLink "CopyBenchLaw" 37 y_Cb_gives ∈ gd := tb_2 (i := 126) rfl rfl
theorem ml_Cb_123 : Cond.methodLink "CopyBench" 123 y_Exam_hasCandidate ∈ gd := tb_2 (i := 130) rfl rfl
theorem ml_Cb_129 : Cond.methodLink "CopyBench" 129 y_Cb_orNeither ∈ gd := tb_2 (i := 134) rfl rfl
theorem ml_law_41 : Cond.methodLink "CopyBenchLaw" 41 y_Cb_seat ∈ gd := tb_2 (i := 137) rfl rfl
theorem ml_Cb_133 : Cond.methodLink "CopyBench" 133 y_Exam_sits ∈ gd := tb_2 (i := 141) rfl rfl
theorem ml_Cb_137 : Cond.methodLink "CopyBench" 137 y_Exam_whoSits ∈ gd := tb_2 (i := 142) rfl rfl
theorem ml_law_45 : Cond.methodLink "CopyBenchLaw" 45 y_Cb_feed ∈ gd := tb_2 (i := 146) rfl rfl
theorem ml_Cb_141 : Cond.methodLink "CopyBench" 141 y_Text_isFull ∈ gd := tb_2 (i := 150) rfl rfl
theorem ml_Cb_145 : Cond.methodLink "CopyBench" 145 y_Text_append ∈ gd := tb_2 (i := 154) rfl rfl
theorem ml_law_49 : Cond.methodLink "CopyBenchLaw" 49 y_Cb_read ∈ gd := tb_2 (i := 158) rfl rfl
theorem ml_Cb_148 : Cond.methodLink "CopyBench" 148 y_Text_examine ∈ gd := tb_2 (i := 162) rfl rfl
theorem ml_Text_19 : Cond.methodLink "CopyBench$Text" 19 y_Exam_hasCandidate ∈ gd := tb_2 (i := 166) rfl rfl
theorem ml_Text_28 : Cond.methodLink "CopyBench$Text" 28 y_Text_isLetter ∈ gd := tb_2 (i := 167) rfl rfl
theorem ml_Cb_152 : Cond.methodLink "CopyBench" 152 y_Text_tell ∈ gd := tb_2 (i := 170) rfl rfl
theorem ml_Text_31 : Cond.methodLink "CopyBench$Text" 31 y_Exam_hasItem ∈ gd := tb_2 (i := 174) rfl rfl
theorem ml_Cb_156 : Cond.methodLink "CopyBench" 156 y_Text_empty ∈ gd := tb_2 (i := 175) rfl rfl
theorem ml_law_53 : Cond.methodLink "CopyBenchLaw" 53 y_Cb_use ∈ gd := tb_2 (i := 179) rfl rfl
theorem ml_Cb_159 : Cond.methodLink "CopyBench" 159 y_Cb_leastUse ∈ gd := tb_2 (i := 183) rfl rfl
theorem ml_Cb_162 : Cond.methodLink "CopyBench" 162 y_Cb_mostUse ∈ gd := tb_2 (i := 186) rfl rfl
theorem ml_law_57 : Cond.methodLink "CopyBenchLaw" 57 y_Cb_answer ∈ gd := tb_2 (i := 189) rfl rfl
theorem ml_law_61 : Cond.methodLink "CopyBenchLaw" 61 y_Cb_of ∈ gd := tb_2 (i := 193) rfl rfl
theorem ml_Cb_168 : Cond.methodLink "CopyBench" 168 y_Exam_answersOf ∈ gd := tb_2 (i := 197) rfl rfl
theorem ml_Cb_171 : Cond.methodLink "CopyBench" 171 y_Exam_rightOnesOf ∈ gd := tb_2 (i := 201) rfl rfl
theorem ml_law_65 : Cond.methodLink "CopyBenchLaw" 65 y_Cb_itemOf ∈ gd := tb_2 (i := 205) rfl rfl
theorem ml_Cb_180 : Cond.methodLink "CopyBench" 180 y_Exam_answersTo ∈ gd := tb_2 (i := 209) rfl rfl
theorem ml_Exam_91 : Cond.methodLink "CopyBench$Exam" 91 y_Exam_howMany ∈ gd := tb_2 (i := 213) rfl rfl
theorem ml_Cb_183 : Cond.methodLink "CopyBench" 183 y_Exam_howMany ∈ gd := tb_2 (i := 217) rfl rfl
theorem ml_Cb_186 : Cond.methodLink "CopyBench" 186 y_Exam_favouriteMistake ∈ gd := tb_2 (i := 218) rfl rfl
theorem ml_law_69 : Cond.methodLink "CopyBenchLaw" 69 y_Cb_taken ∈ gd := tb_2 (i := 222) rfl rfl
theorem ml_Cb_189 : Cond.methodLink "CopyBench" 189 y_Cb_isOfSort ∈ gd := tb_2 (i := 226) rfl rfl
theorem ml_law_73 : Cond.methodLink "CopyBenchLaw" 73 y_Cb_share ∈ gd := tb_2 (i := 229) rfl rfl
theorem ml_Cb_193 : Cond.methodLink "CopyBench" 193 y_Exam_hasTwo ∈ gd := tb_2 (i := 233) rfl rfl
theorem ml_Exam_84 : Cond.methodLink "CopyBench$Exam" 84 y_Exam_hasCandidate ∈ gd := tb_2 (i := 237) rfl rfl
theorem ml_Cb_196 : Cond.methodLink "CopyBench" 196 y_Odds_takeShares ∈ gd := tb_2 (i := 238) rfl rfl
theorem ml_Odds_62 : Cond.methodLink "CopyBench$Odds" 62 y_Odds_learn ∈ gd := tb_3 (i := 2) rfl rfl
theorem ml_law_78 : Cond.methodLink "CopyBenchLaw" 78 y_Cb_alike ∈ gd := tb_3 (i := 6) rfl rfl
theorem ml_Cb_206 : Cond.methodLink "CopyBench" 206 y_Exam_likeness ∈ gd := tb_3 (i := 10) rfl rfl
theorem ml_Exam_98 : Cond.methodLink "CopyBench$Exam" 98 y_Exam_likenessAt ∈ gd := tb_3 (i := 14) rfl rfl
theorem ml_Exam_95 : Cond.methodLink "CopyBench$Exam" 95 y_Exam_worth ∈ gd := tb_3 (i := 18) rfl rfl
theorem ml_law_82 : Cond.methodLink "CopyBenchLaw" 82 y_Cb_odds ∈ gd := tb_3 (i := 22) rfl rfl
theorem ml_Cb_209 : Cond.methodLink "CopyBench" 209 y_Cb_isSupposition ∈ gd := tb_3 (i := 26) rfl rfl
theorem ml_Cb_212 : Cond.methodLink "CopyBench" 212 y_Cb_isPart ∈ gd := tb_3 (i := 29) rfl rfl
theorem cl_Cb_215 : Cond.constantLong "CopyBench" 215 (-9223372036854775808 : Int64) ∈ gd := tb_3 (i := 32) rfl rfl
theorem ml_Cb_217 : Cond.methodLink "CopyBench" 217 y_Odds_asGreat ∈ gd := tb_3 (i := 33) rfl rfl
theorem ml_Odds_39 : Cond.methodLink "CopyBench$Odds" 39 y_Odds_spread ∈ gd := tb_3 (i := 37) rfl rfl
theorem ml_Odds_78 : Cond.methodLink "CopyBench$Odds" 78 y_Exam_bothGave ∈ gd := tb_3 (i := 41) rfl rfl
theorem ml_Odds_82 : Cond.methodLink "CopyBench$Odds" 82 y_Odds_weigh ∈ gd := tb_3 (i := 45) rfl rfl
theorem ml_Odds_102 : Cond.methodLink "CopyBench$Odds" 102 y_Odds_takeShares ∈ gd := tb_3 (i := 49) rfl rfl
theorem ml_Odds_108 : Cond.methodLink "CopyBench$Odds" 108 y_Odds_wrongSquares ∈ gd := tb_3 (i := 50) rfl rfl
theorem ml_Odds_112 : Cond.methodLink "CopyBench$Odds" 112 y_Odds_put ∈ gd := tb_3 (i := 54) rfl rfl
theorem ml_Odds_115 : Cond.methodLink "CopyBench$Odds" 115 y_Odds_weighGiven ∈ gd := tb_3 (i := 58) rfl rfl
theorem ml_Odds_119 : Cond.methodLink "CopyBench$Odds" 119 y_Odds_weighBound ∈ gd := tb_3 (i := 62) rfl rfl
theorem ml_Odds_85 : Cond.methodLink "CopyBench$Odds" 85 ({ cls := "java/lang/Math", name := "max", desc := "(II)I" } : MethodName) ∈ gd := tb_3 (i := 66) rfl rfl
theorem ml_Odds_91 : Cond.methodLink "CopyBench$Odds" 91 ({ cls := "java/lang/Math", name := "min", desc := "(II)I" } : MethodName) ∈ gd := tb_3 (i := 69) rfl rfl
theorem ml_Odds_94 : Cond.methodLink "CopyBench$Odds" 94 y_Odds_addItem ∈ gd := tb_3 (i := 72) rfl rfl
theorem ml_Odds_98 : Cond.methodLink "CopyBench$Odds" 98 y_Exam_likenessAt ∈ gd := tb_3 (i := 76) rfl rfl
theorem ml_Odds_43 : Cond.methodLink "CopyBench$Odds" 43 y_Odds_putTail ∈ gd := tb_3 (i := 77) rfl rfl
theorem ml_Odds_47 : Cond.methodLink "CopyBench$Odds" 47 y_Ratio_put ∈ gd := tb_3 (i := 81) rfl rfl
theorem ml_Ratio_16 : Cond.methodLink "CopyBench$Ratio" 16 y_Ratio_commonDivisor ∈ gd := tb_3 (i := 85) rfl rfl
theorem ml_Cb_221 : Cond.methodLink "CopyBench" 221 y_Ratio_half ∈ gd := tb_3 (i := 88) rfl rfl
theorem ml_law_87 : Cond.methodLink "CopyBenchLaw" 87 y_Cb_just ∈ gd := tb_3 (i := 92) rfl rfl
theorem ml_Cb_225 : Cond.methodLink "CopyBench" 225 y_Odds_exactly ∈ gd := tb_3 (i := 96) rfl rfl
theorem ml_law_92 : Cond.methodLink "CopyBenchLaw" 92 y_Cb_source ∈ gd := tb_3 (i := 100) rfl rfl
theorem ml_Cb_229 : Cond.methodLink "CopyBench" 229 y_Ratio_against ∈ gd := tb_3 (i := 104) rfl rfl
theorem ml_Ratio_20 : Cond.methodLink "CopyBench$Ratio" 20 y_Ratio_compare ∈ gd := tb_3 (i := 108) rfl rfl
theorem ml_law_96 : Cond.methodLink "CopyBenchLaw" 96 y_Cb_without ∈ gd := tb_3 (i := 111) rfl rfl
theorem ml_Cb_233 : Cond.methodLink "CopyBench" 233 y_Odds_asGreatWithout ∈ gd := tb_3 (i := 115) rfl rfl
theorem ml_law_100 : Cond.methodLink "CopyBenchLaw" 100 y_Cb_key ∈ gd := tb_3 (i := 119) rfl rfl
theorem ml_Cb_236 : Cond.methodLink "CopyBench" 236 y_Ratio_copy ∈ gd := tb_3 (i := 123) rfl rfl
theorem ml_law_104 : Cond.methodLink "CopyBenchLaw" 104 y_Cb_pairs ∈ gd := tb_3 (i := 127) rfl rfl
theorem ml_Cb_240 : Cond.methodLink "CopyBench" 240 y_Exam_pairsInReach ∈ gd := tb_3 (i := 131) rfl rfl
theorem ml_Exam_112 : Cond.methodLink "CopyBench$Exam" 112 y_Exam_nearOnes ∈ gd := tb_3 (i := 135) rfl rfl
theorem ml_Exam_108 : Cond.methodLink "CopyBench$Exam" 108 y_Exam_near ∈ gd := tb_3 (i := 139) rfl rfl
theorem ml_Exam_88 : Cond.methodLink "CopyBench$Exam" 88 y_Exam_hasSeat ∈ gd := tb_3 (i := 143) rfl rfl
theorem ml_Exam_102 : Cond.methodLink "CopyBench$Exam" 102 ({ cls := "java/lang/Math", name := "abs", desc := "(I)I" } : MethodName) ∈ gd := tb_3 (i := 147) rfl rfl
theorem ml_Cb_243 : Cond.methodLink "CopyBench" 243 y_Cb_rankNow ∈ gd := tb_3 (i := 150) rfl rfl
theorem ml_Cb_309 : Cond.methodLink "CopyBench" 309 y_Ranking_order ∈ gd := tb_3 (i := 154) rfl rfl
theorem ml_Ranking_47 : Cond.methodLink "CopyBench$Ranking" 47 y_Exam_inReach ∈ gd := tb_3 (i := 158) rfl rfl
theorem ml_Ranking_51 : Cond.methodLink "CopyBench$Ranking" 51 y_Ranking_weighPair ∈ gd := tb_3 (i := 162) rfl rfl
theorem ml_Ranking_90 : Cond.methodLink "CopyBench$Ranking" 90 y_Odds_asGreat ∈ gd := tb_3 (i := 166) rfl rfl
theorem ml_Ranking_96 : Cond.methodLink "CopyBench$Ranking" 96 y_Ratio_against ∈ gd := tb_3 (i := 167) rfl rfl
theorem ml_Ranking_100 : Cond.methodLink "CopyBench$Ranking" 100 y_Ratio_copy ∈ gd := tb_3 (i := 168) rfl rfl
theorem ml_Ranking_55 : Cond.methodLink "CopyBench$Ranking" 55 y_Ranking_insert ∈ gd := tb_3 (i := 169) rfl rfl
theorem ml_Ranking_104 : Cond.methodLink "CopyBench$Ranking" 104 y_Ratio_half ∈ gd := tb_3 (i := 173) rfl rfl
theorem ml_Ranking_108 : Cond.methodLink "CopyBench$Ranking" 108 y_Ratio_compare ∈ gd := tb_3 (i := 174) rfl rfl
theorem ml_Ranking_62 : Cond.methodLink "CopyBench$Ranking" 62 y_Ranking_countSuspects ∈ gd := tb_3 (i := 175) rfl rfl
theorem ml_Ranking_112 : Cond.methodLink "CopyBench$Ranking" 112 y_Ranking_holds ∈ gd := tb_3 (i := 179) rfl rfl
theorem cl_Ranking_116 : Cond.constantLong "CopyBench$Ranking" 116 (1000 : Int64) ∈ gd := tb_3 (i := 183) rfl rfl
theorem ml_Cb_249 : Cond.methodLink "CopyBench" 249 y_Exam_nearOnes ∈ gd := tb_3 (i := 184) rfl rfl
theorem ml_Cb_252 : Cond.methodLink "CopyBench" 252 y_Cb_linkNow ∈ gd := tb_3 (i := 185) rfl rfl
theorem ml_Cb_375 : Cond.methodLink "CopyBench" 375 y_Links_take ∈ gd := tb_3 (i := 189) rfl rfl
theorem ml_Cb_255 : Cond.methodLink "CopyBench" 255 y_Links_groups ∈ gd := tb_3 (i := 193) rfl rfl
theorem ml_Links_27 : Cond.methodLink "CopyBench$Links" 27 y_Links_isGroup ∈ gd := tb_3 (i := 197) rfl rfl
theorem ml_Links_31 : Cond.methodLink "CopyBench$Links" 31 y_Jint_bitCount ∈ gd := tb_3 (i := 201) rfl rfl
theorem cn_Jint_265 : Cond.constant "java/lang/Integer" 265 (1431655765 : Int32) ∈ gd := tb_3 (i := 204) rfl rfl
theorem cn_Jint_266 : Cond.constant "java/lang/Integer" 266 (858993459 : Int32) ∈ gd := tb_3 (i := 205) rfl rfl
theorem cn_Jint_267 : Cond.constant "java/lang/Integer" 267 (252645135 : Int32) ∈ gd := tb_3 (i := 206) rfl rfl
theorem ml_Cb_258 : Cond.methodLink "CopyBench" 258 y_Links_greatest ∈ gd := tb_3 (i := 207) rfl rfl
theorem ml_Links_37 : Cond.methodLink "CopyBench$Links" 37 ({ cls := "java/lang/Math", name := "max", desc := "(II)I" } : MethodName) ∈ gd := tb_3 (i := 211) rfl rfl
theorem ml_law_108 : Cond.methodLink "CopyBenchLaw" 108 y_Cb_pair ∈ gd := tb_3 (i := 212) rfl rfl
theorem ml_Cb_261 : Cond.methodLink "CopyBench" 261 y_Ranking_has ∈ gd := tb_3 (i := 216) rfl rfl
theorem ml_law_112 : Cond.methodLink "CopyBenchLaw" 112 y_Cb_pairOdds ∈ gd := tb_3 (i := 220) rfl rfl
theorem ml_law_117 : Cond.methodLink "CopyBenchLaw" 117 y_Cb_rank ∈ gd := tb_3 (i := 224) rfl rfl
theorem ml_Cb_277 : Cond.methodLink "CopyBench" 277 y_Ranking_placeOf ∈ gd := tb_3 (i := 228) rfl rfl
theorem ml_Ranking_66 : Cond.methodLink "CopyBench$Ranking" 66 ({ cls := "java/lang/Math", name := "min", desc := "(II)I" } : MethodName) ∈ gd := tb_3 (i := 232) rfl rfl
theorem ml_Ranking_71 : Cond.methodLink "CopyBench$Ranking" 71 ({ cls := "java/lang/Math", name := "max", desc := "(II)I" } : MethodName) ∈ gd := tb_3 (i := 233) rfl rfl
theorem ml_law_121 : Cond.methodLink "CopyBenchLaw" 121 y_Cb_linked ∈ gd := tb_3 (i := 234) rfl rfl
theorem ml_law_125 : Cond.methodLink "CopyBenchLaw" 125 y_Cb_chain ∈ gd := tb_3 (i := 238) rfl rfl
theorem ml_Cb_283 : Cond.methodLink "CopyBench" 283 y_Links_reachedFrom ∈ gd := tb_4 (i := 2) rfl rfl
theorem ml_law_129 : Cond.methodLink "CopyBenchLaw" 129 y_Cb_group ∈ gd := tb_4 (i := 6) rfl rfl
theorem ml_Cb_286 : Cond.methodLink "CopyBench" 286 y_Links_groupAt ∈ gd := tb_4 (i := 10) rfl rfl
theorem ml_law_133 : Cond.methodLink "CopyBenchLaw" 133 y_Cb_seated ∈ gd := tb_4 (i := 14) rfl rfl
theorem ml_Cb_289 : Cond.methodLink "CopyBench" 289 y_Seating_ways ∈ gd := tb_4 (i := 18) rfl rfl
theorem ml_Seating_26 : Cond.methodLink "CopyBench$Seating" 26 y_Seating_gather ∈ gd := tb_4 (i := 22) rfl rfl
theorem ml_Seating_53 : Cond.methodLink "CopyBench$Seating" 53 y_Exam_hasSeat ∈ gd := tb_4 (i := 26) rfl rfl
theorem ml_Seating_30 : Cond.methodLink "CopyBench$Seating" 30 y_Seating_relate ∈ gd := tb_4 (i := 27) rfl rfl
theorem ml_Seating_57 : Cond.methodLink "CopyBench$Seating" 57 y_Exam_near ∈ gd := tb_4 (i := 31) rfl rfl
theorem ml_Seating_61 : Cond.methodLink "CopyBench$Seating" 61 y_Links_areSuspect ∈ gd := tb_4 (i := 32) rfl rfl
theorem ml_Seating_34 : Cond.methodLink "CopyBench$Seating" 34 y_Seating_nearSuspects ∈ gd := tb_4 (i := 36) rfl rfl
theorem ml_Seating_38 : Cond.methodLink "CopyBench$Seating" 38 y_Seating_nextWay ∈ gd := tb_4 (i := 40) rfl rfl
theorem ml_Seating_67 : Cond.methodLink "CopyBench$Seating" 67 y_Seating_swap ∈ gd := tb_4 (i := 44) rfl rfl
theorem ml_Seating_42 : Cond.methodLink "CopyBench$Seating" 42 y_Ratio_put ∈ gd := tb_4 (i := 48) rfl rfl
theorem ml_law_137 : Cond.methodLink "CopyBenchLaw" 137 y_Cb_drawn ∈ gd := tb_4 (i := 49) rfl rfl
theorem ml_Cb_293 : Cond.methodLink "CopyBench" 293 y_Draws_likeness ∈ gd := tb_4 (i := 53) rfl rfl
theorem ml_Draws_20 : Cond.methodLink "CopyBench$Draws" 20 y_Exam_bothGave ∈ gd := tb_4 (i := 57) rfl rfl
theorem ml_Draws_24 : Cond.methodLink "CopyBench$Draws" 24 y_Odds_takeShares ∈ gd := tb_4 (i := 58) rfl rfl
theorem ml_Draws_30 : Cond.methodLink "CopyBench$Draws" 30 y_Draws_anAnswer ∈ gd := tb_4 (i := 59) rfl rfl
theorem ml_Draws_41 : Cond.methodLink "CopyBench$Draws" 41 y_Draws_below ∈ gd := tb_4 (i := 63) rfl rfl
theorem cn_Draws_49 : Cond.constant "CopyBench$Draws" 49 (1103515245 : Int32) ∈ gd := tb_4 (i := 67) rfl rfl
theorem ml_Draws_34 : Cond.methodLink "CopyBench$Draws" 34 y_Exam_worth ∈ gd := tb_4 (i := 68) rfl rfl
theorem ml_law_141 : Cond.methodLink "CopyBenchLaw" 141 y_Cb_chance ∈ gd := tb_4 (i := 69) rfl rfl
theorem cl_Cb_296 : Cond.constantLong "CopyBench" 296 (6 : Int64) ∈ gd := tb_4 (i := 73) rfl rfl
theorem ml_Cb_298 : Cond.methodLink "CopyBench" 298 y_Ratio_put ∈ gd := tb_4 (i := 74) rfl rfl
theorem ml_law_145 : Cond.methodLink "CopyBenchLaw" 145 y_Cb_see ∈ gd := tb_4 (i := 75) rfl rfl
theorem ml_Cb_305 : Cond.methodLink "CopyBench" 305 y_Exam_sees ∈ gd := tb_4 (i := 79) rfl rfl
theorem ml_law_150 : Cond.methodLink "CopyBenchLaw" 150 y_Cb_fits ∈ gd := tb_4 (i := 83) rfl rfl
theorem ml_Cb_313 : Cond.methodLink "CopyBench" 313 y_Ranking_agrees ∈ gd := tb_4 (i := 87) rfl rfl
theorem ml_Ranking_83 : Cond.methodLink "CopyBench$Ranking" 83 y_Ranking_placeOf ∈ gd := tb_4 (i := 91) rfl rfl
theorem ml_law_154 : Cond.methodLink "CopyBenchLaw" 154 y_Cb_mean ∈ gd := tb_4 (i := 92) rfl rfl
theorem ml_Cb_317 : Cond.methodLink "CopyBench" 317 y_Exam_likenessInReach ∈ gd := tb_4 (i := 96) rfl rfl
theorem ml_Exam_115 : Cond.methodLink "CopyBench$Exam" 115 y_Exam_inReach ∈ gd := tb_4 (i := 100) rfl rfl
theorem ml_Exam_119 : Cond.methodLink "CopyBench$Exam" 119 y_Exam_likeness ∈ gd := tb_4 (i := 101) rfl rfl
theorem ml_law_159 : Cond.methodLink "CopyBenchLaw" 159 y_Cb_plan ∈ gd := tb_4 (i := 102) rfl rfl
theorem ml_Cb_323 : Cond.methodLink "CopyBench" 323 y_Exam_canPlan ∈ gd := tb_4 (i := 106) rfl rfl
theorem ml_Exam_122 : Cond.methodLink "CopyBench$Exam" 122 y_Exam_hasItem ∈ gd := tb_4 (i := 110) rfl rfl
theorem ml_Exam_125 : Cond.methodLink "CopyBench$Exam" 125 y_Exam_hasTwo ∈ gd := tb_4 (i := 111) rfl rfl
theorem ml_Cb_327 : Cond.methodLink "CopyBench" 327 y_Exam_plans ∈ gd := tb_4 (i := 112) rfl rfl
theorem ml_law_163 : Cond.methodLink "CopyBenchLaw" 163 y_Cb_ends ∈ gd := tb_4 (i := 116) rfl rfl
theorem ml_Cb_331 : Cond.methodLink "CopyBench" 331 y_Exam_copy ∈ gd := tb_4 (i := 120) rfl rfl
theorem ml_Exam_78 : Cond.methodLink "CopyBench$Exam" 78 ({ cls := "java/lang/System", name := "arraycopy", desc := "(Ljava/lang/Object;ILjava/lang/Object;II)V" } : MethodName) ∈ gd := tb_4 (i := 124) rfl rfl
theorem ml_Cb_333 : Cond.methodLink "CopyBench" 333 y_Exam_followPlan ∈ gd := tb_4 (i := 127) rfl rfl
theorem ml_Exam_128 : Cond.methodLink "CopyBench$Exam" 128 y_Exam_follow ∈ gd := tb_4 (i := 131) rfl rfl
theorem ml_Exam_131 : Cond.methodLink "CopyBench$Exam" 131 y_Exam_canPlan ∈ gd := tb_4 (i := 135) rfl rfl
theorem ml_law_167 : Cond.methodLink "CopyBenchLaw" 167 y_Cb_judge ∈ gd := tb_4 (i := 136) rfl rfl
theorem ml_Cb_336 : Cond.methodLink "CopyBench" 336 y_Cb_isTape ∈ gd := tb_4 (i := 140) rfl rfl
theorem ml_Cb_339 : Cond.methodLink "CopyBench" 339 y_Tape_holdsNothing ∈ gd := tb_4 (i := 143) rfl rfl
theorem ml_Cb_345 : Cond.methodLink "CopyBench" 345 y_Tape_hasPlaceBehind ∈ gd := tb_4 (i := 147) rfl rfl
theorem ml_law_171 : Cond.methodLink "CopyBenchLaw" 171 y_Cb_image ∈ gd := tb_4 (i := 151) rfl rfl
theorem ml_law_175 : Cond.methodLink "CopyBenchLaw" 175 y_Cb_undo ∈ gd := tb_4 (i := 155) rfl rfl
theorem ml_law_179 : Cond.methodLink "CopyBenchLaw" 179 y_Cb_count ∈ gd := tb_4 (i := 159) rfl rfl
theorem ml_Cb_350 : Cond.methodLink "CopyBench" 350 y_Exam_seatedOnes ∈ gd := tb_4 (i := 163) rfl rfl
theorem ml_law_183 : Cond.methodLink "CopyBenchLaw" 183 y_Cb_tape ∈ gd := tb_4 (i := 167) rfl rfl
theorem ml_Cb_356 : Cond.methodLink "CopyBench" 356 y_Tape_begin ∈ gd := tb_4 (i := 171) rfl rfl
theorem ml_law_189 : Cond.methodLink "CopyBenchLaw" 189 y_Cb_item ∈ gd := tb_4 (i := 175) rfl rfl
theorem ml_Cb_359 : Cond.methodLink "CopyBench" 359 y_Tape_hasPlace ∈ gd := tb_4 (i := 179) rfl rfl
theorem ml_Cb_362 : Cond.methodLink "CopyBench" 362 y_Tape_fitted ∈ gd := tb_4 (i := 183) rfl rfl
theorem ml_law_194 : Cond.methodLink "CopyBenchLaw" 194 y_Cb_peek ∈ gd := tb_4 (i := 187) rfl rfl
theorem ml_law_198 : Cond.methodLink "CopyBenchLaw" 198 y_Cb_shift ∈ gd := tb_4 (i := 191) rfl rfl
theorem ml_Cb_366 : Cond.methodLink "CopyBench" 366 y_Tape_hasStretch ∈ gd := tb_4 (i := 195) rfl rfl
theorem ml_Cb_369 : Cond.methodLink "CopyBench" 369 ({ cls := "java/lang/System", name := "arraycopy", desc := "(Ljava/lang/Object;ILjava/lang/Object;II)V" } : MethodName) ∈ gd := tb_4 (i := 199) rfl rfl
theorem xl_law_10 : Cond.classLink "CopyBenchLaw" 10 "CopyBenchModel" ∈ gd := tb_4 (i := 200) rfl rfl
theorem ml_law_12 : Cond.methodLink "CopyBenchLaw" 12 y_Md_init ∈ gd := tb_4 (i := 202) rfl rfl
theorem ml_Md_3 : Cond.methodLink "CopyBenchModel" 3 ({ cls := "java/lang/Object", name := "<init>", desc := "()V" } : MethodName) ∈ gd := tb_4 (i := 205) rfl rfl
theorem xl_Md_102 : Cond.classLink "CopyBenchModel" 102 "[[J" ∈ gd := tb_4 (i := 206) rfl rfl
theorem ml_Md_116 : Cond.methodLink "CopyBenchModel" 116 y_Md_begins ∈ gd := tb_4 (i := 208) rfl rfl
theorem fl_Md_9 : Cond.fieldLink "CopyBenchModel" 9 "CopyBenchModel" "n" "I" ∈ gd := tb_4 (i := 212) rfl rfl
theorem fl_Md_123 : Cond.fieldLink "CopyBenchModel" 123 "CopyBenchModel" "many" "I" ∈ gd := tb_4 (i := 213) rfl rfl
theorem fl_Md_15 : Cond.fieldLink "CopyBenchModel" 15 "CopyBenchModel" "right" "[I" ∈ gd := tb_4 (i := 214) rfl rfl
theorem fl_Md_19 : Cond.fieldLink "CopyBenchModel" 19 "CopyBenchModel" "kind" "[I" ∈ gd := tb_4 (i := 215) rfl rfl
theorem fl_Md_22 : Cond.fieldLink "CopyBenchModel" 22 "CopyBenchModel" "parts" "[I" ∈ gd := tb_4 (i := 216) rfl rfl
theorem fl_Md_25 : Cond.fieldLink "CopyBenchModel" 25 "CopyBenchModel" "given" "[I" ∈ gd := tb_4 (i := 217) rfl rfl
theorem fl_Md_28 : Cond.fieldLink "CopyBenchModel" 28 "CopyBenchModel" "row" "[I" ∈ gd := tb_4 (i := 218) rfl rfl
theorem fl_Md_31 : Cond.fieldLink "CopyBenchModel" 31 "CopyBenchModel" "place" "[I" ∈ gd := tb_4 (i := 219) rfl rfl
theorem fl_Md_34 : Cond.fieldLink "CopyBenchModel" 34 "CopyBenchModel" "used" "[I" ∈ gd := tb_4 (i := 220) rfl rfl
theorem fl_Md_37 : Cond.fieldLink "CopyBenchModel" 37 "CopyBenchModel" "seenX" "[I" ∈ gd := tb_4 (i := 221) rfl rfl
theorem fl_Md_40 : Cond.fieldLink "CopyBenchModel" 40 "CopyBenchModel" "seenY" "[I" ∈ gd := tb_4 (i := 222) rfl rfl
theorem fl_Md_43 : Cond.fieldLink "CopyBenchModel" 43 "CopyBenchModel" "seenIs" "[I" ∈ gd := tb_4 (i := 223) rfl rfl
theorem fl_Md_46 : Cond.fieldLink "CopyBenchModel" 46 "CopyBenchModel" "planWhat" "[I" ∈ gd := tb_4 (i := 224) rfl rfl
theorem fl_Md_49 : Cond.fieldLink "CopyBenchModel" 49 "CopyBenchModel" "planK" "[I" ∈ gd := tb_4 (i := 225) rfl rfl
theorem fl_Md_52 : Cond.fieldLink "CopyBenchModel" 52 "CopyBenchModel" "planV" "[I" ∈ gd := tb_4 (i := 226) rfl rfl
theorem fl_Md_130 : Cond.fieldLink "CopyBenchModel" 130 "CopyBenchModel" "seen" "I" ∈ gd := tb_4 (i := 227) rfl rfl
theorem fl_Md_133 : Cond.fieldLink "CopyBenchModel" 133 "CopyBenchModel" "plans" "I" ∈ gd := tb_4 (i := 228) rfl rfl
theorem fl_Md_55 : Cond.fieldLink "CopyBenchModel" 55 "CopyBenchModel" "text" "[I" ∈ gd := tb_4 (i := 229) rfl rfl
theorem fl_Md_175 : Cond.fieldLink "CopyBenchModel" 175 "CopyBenchModel" "texted" "I" ∈ gd := tb_4 (i := 230) rfl rfl
theorem fl_Md_58 : Cond.fieldLink "CopyBenchModel" 58 "CopyBenchModel" "imaged" "[I" ∈ gd := tb_4 (i := 231) rfl rfl
theorem fl_Md_151 : Cond.fieldLink "CopyBenchModel" 151 "CopyBenchModel" "isKept" "Z" ∈ gd := tb_4 (i := 232) rfl rfl
theorem fl_Md_140 : Cond.fieldLink "CopyBenchModel" 140 "CopyBenchModel" "spot" "I" ∈ gd := tb_4 (i := 233) rfl rfl
theorem fl_Md_136 : Cond.fieldLink "CopyBenchModel" 136 "CopyBenchModel" "keeps" "Z" ∈ gd := tb_4 (i := 234) rfl rfl
theorem fl_Md_172 : Cond.fieldLink "CopyBenchModel" 172 "CopyBenchModel" "at" "I" ∈ gd := tb_4 (i := 235) rfl rfl
theorem fl_Md_182 : Cond.fieldLink "CopyBenchModel" 182 "CopyBenchModel" "isFaulty" "Z" ∈ gd := tb_4 (i := 236) rfl rfl
theorem fl_Md_189 : Cond.fieldLink "CopyBenchModel" 189 "CopyBenchModel" "whole" "I" ∈ gd := tb_4 (i := 237) rfl rfl
theorem fl_Md_61 : Cond.fieldLink "CopyBenchModel" 61 "CopyBenchModel" "ways" "[J" ∈ gd := tb_4 (i := 238) rfl rfl
theorem fl_Md_65 : Cond.fieldLink "CopyBenchModel" 65 "CopyBenchModel" "before" "[J" ∈ gd := tb_4 (i := 239) rfl rfl
theorem fl_Md_248 : Cond.fieldLink "CopyBenchModel" 248 "CopyBenchModel" "below" "J" ∈ gd := tb_5 (i := 0) rfl rfl
theorem fl_Md_280 : Cond.fieldLink "CopyBenchModel" 280 "CopyBenchModel" "pairs" "I" ∈ gd := tb_5 (i := 1) rfl rfl
theorem fl_Md_68 : Cond.fieldLink "CopyBenchModel" 68 "CopyBenchModel" "pairX" "[I" ∈ gd := tb_5 (i := 2) rfl rfl
theorem fl_Md_71 : Cond.fieldLink "CopyBenchModel" 71 "CopyBenchModel" "pairY" "[I" ∈ gd := tb_5 (i := 3) rfl rfl
theorem fl_Md_74 : Cond.fieldLink "CopyBenchModel" 74 "CopyBenchModel" "above" "[J" ∈ gd := tb_5 (i := 4) rfl rfl
theorem fl_Md_77 : Cond.fieldLink "CopyBenchModel" 77 "CopyBenchModel" "under" "[J" ∈ gd := tb_5 (i := 5) rfl rfl
theorem fl_Md_80 : Cond.fieldLink "CopyBenchModel" 80 "CopyBenchModel" "isSuspect" "[Z" ∈ gd := tb_5 (i := 6) rfl rfl
theorem fl_Md_84 : Cond.fieldLink "CopyBenchModel" 84 "CopyBenchModel" "links" "[I" ∈ gd := tb_5 (i := 7) rfl rfl
theorem fl_Md_87 : Cond.fieldLink "CopyBenchModel" 87 "CopyBenchModel" "sits" "[I" ∈ gd := tb_5 (i := 8) rfl rfl
theorem fl_Md_90 : Cond.fieldLink "CopyBenchModel" 90 "CopyBenchModel" "seatOf" "[I" ∈ gd := tb_5 (i := 9) rfl rfl
theorem fl_Md_341 : Cond.fieldLink "CopyBenchModel" 341 "CopyBenchModel" "sitters" "I" ∈ gd := tb_5 (i := 10) rfl rfl
theorem fl_Md_354 : Cond.fieldLink "CopyBenchModel" 354 "CopyBenchModel" "seedNow" "I" ∈ gd := tb_5 (i := 11) rfl rfl
theorem fl_Md_93 : Cond.fieldLink "CopyBenchModel" 93 "CopyBenchModel" "givenWas" "[I" ∈ gd := tb_5 (i := 12) rfl rfl
theorem fl_Md_96 : Cond.fieldLink "CopyBenchModel" 96 "CopyBenchModel" "rightWas" "[I" ∈ gd := tb_5 (i := 13) rfl rfl
theorem fl_Md_99 : Cond.fieldLink "CopyBenchModel" 99 "CopyBenchModel" "kindWas" "[I" ∈ gd := tb_5 (i := 14) rfl rfl
theorem fl_Md_104 : Cond.fieldLink "CopyBenchModel" 104 "CopyBenchModel" "tapes" "[[J" ∈ gd := tb_5 (i := 15) rfl rfl
theorem fl_Md_107 : Cond.fieldLink "CopyBenchModel" 107 "CopyBenchModel" "tapeSort" "[I" ∈ gd := tb_5 (i := 16) rfl rfl
theorem fl_Md_110 : Cond.fieldLink "CopyBenchModel" 110 "CopyBenchModel" "tapeSize" "[I" ∈ gd := tb_5 (i := 17) rfl rfl
theorem fl_Md_113 : Cond.fieldLink "CopyBenchModel" 113 "CopyBenchModel" "moved" "[J" ∈ gd := tb_5 (i := 18) rfl rfl
theorem ml_law_174 : Cond.methodLink "CopyBenchLaw" 174 y_Md_image ∈ gd := tb_5 (i := 114) rfl rfl
theorem ml_Md_154 : Cond.methodLink "CopyBenchModel" 154 y_Md_passesAll ∈ gd := tb_5 (i := 118) rfl rfl
theorem ml_Md_143 : Cond.methodLink "CopyBenchModel" 143 y_Md_passes ∈ gd := tb_5 (i := 122) rfl rfl
theorem ml_Md_147 : Cond.methodLink "CopyBenchModel" 147 y_Md_passesRow ∈ gd := tb_5 (i := 126) rfl rfl
theorem ml_law_178 : Cond.methodLink "CopyBenchLaw" 178 y_Md_undo ∈ gd := tb_5 (i := 130) rfl rfl
theorem ml_law_17 : Cond.methodLink "CopyBenchLaw" 17 y_Md_items ∈ gd := tb_5 (i := 134) rfl rfl
theorem cl_Md_158 : Cond.constantLong "CopyBenchModel" 158 (8 : Int64) ∈ gd := tb_5 (i := 138) rfl rfl
theorem ml_Md_119 : Cond.methodLink "CopyBenchModel" 119 y_Md_in ∈ gd := tb_5 (i := 139) rfl rfl
theorem ml_law_22 : Cond.methodLink "CopyBenchLaw" 22 y_Md_right ∈ gd := tb_5 (i := 142) rfl rfl
theorem ml_Md_160 : Cond.methodLink "CopyBenchModel" 160 y_Md_isItem ∈ gd := tb_5 (i := 146) rfl rfl
theorem cl_Md_163 : Cond.constantLong "CopyBenchModel" 163 (3 : Int64) ∈ gd := tb_5 (i := 150) rfl rfl
theorem ml_law_26 : Cond.methodLink "CopyBenchLaw" 26 y_Md_model ∈ gd := tb_5 (i := 151) rfl rfl
theorem ml_law_31 : Cond.methodLink "CopyBenchLaw" 31 y_Md_part ∈ gd := tb_5 (i := 155) rfl rfl
theorem ml_law_36 : Cond.methodLink "CopyBenchLaw" 36 y_Md_candidate ∈ gd := tb_5 (i := 159) rfl rfl
theorem ml_law_40 : Cond.methodLink "CopyBenchLaw" 40 y_Md_gives ∈ gd := tb_5 (i := 163) rfl rfl
theorem ml_Md_126 : Cond.methodLink "CopyBenchModel" 126 y_Md_isOne ∈ gd := tb_5 (i := 167) rfl rfl
theorem cl_Md_165 : Cond.constantLong "CopyBenchModel" 165 (-1 : Int64) ∈ gd := tb_5 (i := 171) rfl rfl
theorem ml_Md_167 : Cond.methodLink "CopyBenchModel" 167 y_Md_told ∈ gd := tb_5 (i := 172) rfl rfl
theorem ml_law_44 : Cond.methodLink "CopyBenchLaw" 44 y_Md_seat ∈ gd := tb_5 (i := 175) rfl rfl
theorem cl_Md_170 : Cond.constantLong "CopyBenchModel" 170 (9 : Int64) ∈ gd := tb_5 (i := 179) rfl rfl
theorem ml_law_48 : Cond.methodLink "CopyBenchLaw" 48 y_Md_feed ∈ gd := tb_5 (i := 180) rfl rfl
theorem cl_Md_196 : Cond.constantLong "CopyBenchModel" 196 (127 : Int64) ∈ gd := tb_5 (i := 184) rfl rfl
theorem ml_law_52 : Cond.methodLink "CopyBenchLaw" 52 y_Md_read ∈ gd := tb_5 (i := 185) rfl rfl
theorem ml_Md_198 : Cond.methodLink "CopyBenchModel" 198 y_Md_goesThrough ∈ gd := tb_5 (i := 189) rfl rfl
theorem ml_Md_192 : Cond.methodLink "CopyBenchModel" 192 y_Md_clause ∈ gd := tb_5 (i := 193) rfl rfl
theorem ml_Md_178 : Cond.methodLink "CopyBenchModel" 178 y_Md_here ∈ gd := tb_5 (i := 197) rfl rfl
theorem cl_Md_185 : Cond.constantLong "CopyBenchModel" 185 (97 : Int64) ∈ gd := tb_5 (i := 201) rfl rfl
theorem cl_Md_187 : Cond.constantLong "CopyBenchModel" 187 (100 : Int64) ∈ gd := tb_5 (i := 202) rfl rfl
theorem ml_law_56 : Cond.methodLink "CopyBenchLaw" 56 y_Md_use ∈ gd := tb_5 (i := 203) rfl rfl
theorem cl_Md_207 : Cond.constantLong "CopyBenchModel" 207 (5 : Int64) ∈ gd := tb_5 (i := 207) rfl rfl
theorem ml_Md_209 : Cond.methodLink "CopyBenchModel" 209 y_Md_isUse ∈ gd := tb_5 (i := 208) rfl rfl
theorem cl_Md_201 : Cond.constantLong "CopyBenchModel" 201 (500 : Int64) ∈ gd := tb_5 (i := 211) rfl rfl
theorem cl_Md_203 : Cond.constantLong "CopyBenchModel" 203 (2 : Int64) ∈ gd := tb_5 (i := 212) rfl rfl
theorem cl_Md_205 : Cond.constantLong "CopyBenchModel" 205 (4 : Int64) ∈ gd := tb_5 (i := 213) rfl rfl
theorem ml_law_60 : Cond.methodLink "CopyBenchLaw" 60 y_Md_answer ∈ gd := tb_5 (i := 214) rfl rfl
theorem ml_law_64 : Cond.methodLink "CopyBenchLaw" 64 y_Md_of ∈ gd := tb_5 (i := 218) rfl rfl
theorem ml_Md_213 : Cond.methodLink "CopyBenchModel" 213 y_Md_gave ∈ gd := tb_5 (i := 222) rfl rfl
theorem ml_law_68 : Cond.methodLink "CopyBenchLaw" 68 y_Md_itemOf ∈ gd := tb_5 (i := 226) rfl rfl
theorem ml_Md_221 : Cond.methodLink "CopyBenchModel" 221 y_Md_givers ∈ gd := tb_5 (i := 230) rfl rfl
theorem ml_Md_217 : Cond.methodLink "CopyBenchModel" 217 y_Md_gavers ∈ gd := tb_5 (i := 234) rfl rfl
theorem ml_Md_224 : Cond.methodLink "CopyBenchModel" 224 y_Md_likedWrong ∈ gd := tb_5 (i := 238) rfl rfl
theorem ml_law_72 : Cond.methodLink "CopyBenchLaw" 72 y_Md_taken ∈ gd := tb_6 (i := 2) rfl rfl
theorem ml_law_77 : Cond.methodLink "CopyBenchLaw" 77 y_Md_share ∈ gd := tb_6 (i := 6) rfl rfl
theorem ml_Md_230 : Cond.methodLink "CopyBenchModel" 230 y_Md_isTwo ∈ gd := tb_6 (i := 10) rfl rfl
theorem ml_Md_233 : Cond.methodLink "CopyBenchModel" 233 y_Md_sumBut ∈ gd := tb_6 (i := 14) rfl rfl
theorem ml_Md_227 : Cond.methodLink "CopyBenchModel" 227 y_Md_shareOf ∈ gd := tb_6 (i := 18) rfl rfl
theorem ml_law_81 : Cond.methodLink "CopyBenchLaw" 81 y_Md_alike ∈ gd := tb_6 (i := 22) rfl rfl
theorem ml_Md_240 : Cond.methodLink "CopyBenchModel" 240 y_Md_likeness ∈ gd := tb_6 (i := 26) rfl rfl
theorem ml_Md_236 : Cond.methodLink "CopyBenchModel" 236 y_Md_worth ∈ gd := tb_6 (i := 30) rfl rfl
theorem ml_law_86 : Cond.methodLink "CopyBenchLaw" 86 y_Md_odds ∈ gd := tb_6 (i := 34) rfl rfl
theorem cl_Md_259 : Cond.constantLong "CopyBenchModel" 259 (-9223372036854775808 : Int64) ∈ gd := tb_6 (i := 38) rfl rfl
theorem ml_Md_261 : Cond.methodLink "CopyBenchModel" 261 y_Md_asMuch ∈ gd := tb_6 (i := 39) rfl rfl
theorem ml_Md_256 : Cond.methodLink "CopyBenchModel" 256 y_Md_spreads ∈ gd := tb_6 (i := 43) rfl rfl
theorem ml_Md_252 : Cond.methodLink "CopyBenchModel" 252 y_Md_comes ∈ gd := tb_6 (i := 47) rfl rfl
theorem ml_Md_244 : Cond.methodLink "CopyBenchModel" 244 y_Md_adds ∈ gd := tb_6 (i := 51) rfl rfl
theorem ml_Md_265 : Cond.methodLink "CopyBenchModel" 265 y_Md_lowest ∈ gd := tb_6 (i := 55) rfl rfl
theorem ml_law_91 : Cond.methodLink "CopyBenchLaw" 91 y_Md_just ∈ gd := tb_6 (i := 58) rfl rfl
theorem cl_Md_269 : Cond.constantLong "CopyBenchModel" 269 (32 : Int64) ∈ gd := tb_6 (i := 62) rfl rfl
theorem ml_law_95 : Cond.methodLink "CopyBenchLaw" 95 y_Md_source ∈ gd := tb_6 (i := 63) rfl rfl
theorem ml_Md_271 : Cond.methodLink "CopyBenchModel" 271 y_Md_compares ∈ gd := tb_6 (i := 67) rfl rfl
theorem ml_law_99 : Cond.methodLink "CopyBenchLaw" 99 y_Md_without ∈ gd := tb_6 (i := 70) rfl rfl
theorem ml_law_103 : Cond.methodLink "CopyBenchLaw" 103 y_Md_key ∈ gd := tb_6 (i := 74) rfl rfl
theorem ml_law_107 : Cond.methodLink "CopyBenchLaw" 107 y_Md_pairs ∈ gd := tb_6 (i := 78) rfl rfl
theorem ml_Md_300 : Cond.methodLink "CopyBenchModel" 300 y_Md_orders ∈ gd := tb_6 (i := 82) rfl rfl
theorem ml_Md_289 : Cond.methodLink "CopyBenchModel" 289 y_Md_isNear ∈ gd := tb_6 (i := 86) rfl rfl
theorem ml_Md_275 : Cond.methodLink "CopyBenchModel" 275 ({ cls := "java/lang/Math", name := "abs", desc := "(I)I" } : MethodName) ∈ gd := tb_6 (i := 90) rfl rfl
theorem ml_Md_293 : Cond.methodLink "CopyBenchModel" 293 y_Md_putsPair ∈ gd := tb_6 (i := 91) rfl rfl
theorem ml_Md_283 : Cond.methodLink "CopyBenchModel" 283 y_Md_puts ∈ gd := tb_6 (i := 95) rfl rfl
theorem ml_Md_297 : Cond.methodLink "CopyBenchModel" 297 y_Md_isLow ∈ gd := tb_6 (i := 99) rfl rfl
theorem cl_Md_287 : Cond.constantLong "CopyBenchModel" 287 (1000 : Int64) ∈ gd := tb_6 (i := 103) rfl rfl
theorem ml_Md_320 : Cond.methodLink "CopyBenchModel" 320 y_Md_suspects ∈ gd := tb_6 (i := 104) rfl rfl
theorem ml_Md_323 : Cond.methodLink "CopyBenchModel" 323 y_Md_near ∈ gd := tb_6 (i := 108) rfl rfl
theorem ml_Md_326 : Cond.methodLink "CopyBenchModel" 326 y_Md_grouped ∈ gd := tb_6 (i := 112) rfl rfl
theorem ml_Md_306 : Cond.methodLink "CopyBenchModel" 306 y_Md_binds ∈ gd := tb_6 (i := 116) rfl rfl
theorem ml_Md_309 : Cond.methodLink "CopyBenchModel" 309 y_Md_isGroup ∈ gd := tb_6 (i := 120) rfl rfl
theorem ml_Md_303 : Cond.methodLink "CopyBenchModel" 303 y_Md_common ∈ gd := tb_6 (i := 124) rfl rfl
theorem ml_Md_329 : Cond.methodLink "CopyBenchModel" 329 y_Md_greatest ∈ gd := tb_6 (i := 128) rfl rfl
theorem ml_Md_312 : Cond.methodLink "CopyBenchModel" 312 y_Jint_bitCount ∈ gd := tb_6 (i := 132) rfl rfl
theorem ml_Md_317 : Cond.methodLink "CopyBenchModel" 317 ({ cls := "java/lang/Math", name := "max", desc := "(II)I" } : MethodName) ∈ gd := tb_6 (i := 133) rfl rfl
theorem ml_law_111 : Cond.methodLink "CopyBenchLaw" 111 y_Md_pair ∈ gd := tb_6 (i := 134) rfl rfl
theorem ml_law_116 : Cond.methodLink "CopyBenchLaw" 116 y_Md_pairOdds ∈ gd := tb_6 (i := 138) rfl rfl
theorem ml_law_120 : Cond.methodLink "CopyBenchLaw" 120 y_Md_rank ∈ gd := tb_6 (i := 142) rfl rfl
theorem ml_Md_335 : Cond.methodLink "CopyBenchModel" 335 y_Md_ranked ∈ gd := tb_6 (i := 146) rfl rfl
theorem ml_Md_332 : Cond.methodLink "CopyBenchModel" 332 ({ cls := "java/lang/Math", name := "min", desc := "(II)I" } : MethodName) ∈ gd := tb_6 (i := 150) rfl rfl
theorem ml_law_124 : Cond.methodLink "CopyBenchLaw" 124 y_Md_linked ∈ gd := tb_6 (i := 151) rfl rfl
theorem ml_law_128 : Cond.methodLink "CopyBenchLaw" 128 y_Md_chain ∈ gd := tb_6 (i := 155) rfl rfl
theorem ml_law_132 : Cond.methodLink "CopyBenchLaw" 132 y_Md_group ∈ gd := tb_6 (i := 159) rfl rfl
theorem ml_law_136 : Cond.methodLink "CopyBenchLaw" 136 y_Md_seated ∈ gd := tb_6 (i := 163) rfl rfl
theorem ml_Md_347 : Cond.methodLink "CopyBenchModel" 347 y_Md_nearNow ∈ gd := tb_6 (i := 167) rfl rfl
theorem ml_Md_338 : Cond.methodLink "CopyBenchModel" 338 y_Md_placeOf ∈ gd := tb_6 (i := 171) rfl rfl
theorem ml_Md_350 : Cond.methodLink "CopyBenchModel" 350 y_Md_turns ∈ gd := tb_6 (i := 175) rfl rfl
theorem ml_Md_344 : Cond.methodLink "CopyBenchModel" 344 y_Md_exchange ∈ gd := tb_6 (i := 179) rfl rfl
theorem ml_law_140 : Cond.methodLink "CopyBenchLaw" 140 y_Md_drawn ∈ gd := tb_6 (i := 183) rfl rfl
theorem ml_Md_364 : Cond.methodLink "CopyBenchModel" 364 y_Md_drawnBy ∈ gd := tb_6 (i := 187) rfl rfl
theorem ml_Md_361 : Cond.methodLink "CopyBenchModel" 361 y_Md_answersAnew ∈ gd := tb_6 (i := 191) rfl rfl
theorem ml_Md_358 : Cond.methodLink "CopyBenchModel" 358 y_Md_draw ∈ gd := tb_6 (i := 195) rfl rfl
theorem cn_Md_357 : Cond.constant "CopyBenchModel" 357 (1103515245 : Int32) ∈ gd := tb_6 (i := 199) rfl rfl
theorem ml_law_144 : Cond.methodLink "CopyBenchLaw" 144 y_Md_chance ∈ gd := tb_6 (i := 200) rfl rfl
theorem cl_Md_367 : Cond.constantLong "CopyBenchModel" 367 (6 : Int64) ∈ gd := tb_6 (i := 204) rfl rfl
theorem ml_law_149 : Cond.methodLink "CopyBenchLaw" 149 y_Md_see ∈ gd := tb_6 (i := 205) rfl rfl
theorem ml_law_153 : Cond.methodLink "CopyBenchLaw" 153 y_Md_fits ∈ gd := tb_6 (i := 209) rfl rfl
theorem ml_Md_369 : Cond.methodLink "CopyBenchModel" 369 y_Md_isAllSeen ∈ gd := tb_6 (i := 213) rfl rfl
theorem ml_law_158 : Cond.methodLink "CopyBenchLaw" 158 y_Md_mean ∈ gd := tb_6 (i := 217) rfl rfl
theorem ml_law_162 : Cond.methodLink "CopyBenchLaw" 162 y_Md_plan ∈ gd := tb_6 (i := 221) rfl rfl
theorem ml_law_166 : Cond.methodLink "CopyBenchLaw" 166 y_Md_ends ∈ gd := tb_6 (i := 225) rfl rfl
theorem ml_Md_372 : Cond.methodLink "CopyBenchModel" 372 y_Md_copies ∈ gd := tb_6 (i := 229) rfl rfl
theorem ml_Md_376 : Cond.methodLink "CopyBenchModel" 376 y_Md_goes ∈ gd := tb_6 (i := 232) rfl rfl
theorem ml_law_170 : Cond.methodLink "CopyBenchLaw" 170 y_Md_judge ∈ gd := tb_6 (i := 236) rfl rfl
theorem ml_Md_380 : Cond.methodLink "CopyBenchModel" 380 y_Md_isTape ∈ gd := tb_7 (i := 0) rfl rfl
theorem ml_law_182 : Cond.methodLink "CopyBenchLaw" 182 y_Md_count ∈ gd := tb_7 (i := 3) rfl rfl
theorem ml_Md_383 : Cond.methodLink "CopyBenchModel" 383 y_Md_seatedOnes ∈ gd := tb_7 (i := 7) rfl rfl
theorem cl_Md_386 : Cond.constantLong "CopyBenchModel" 386 (11 : Int64) ∈ gd := tb_7 (i := 11) rfl rfl
theorem ml_law_186 : Cond.methodLink "CopyBenchLaw" 186 y_Md_tape ∈ gd := tb_7 (i := 12) rfl rfl
theorem ml_law_193 : Cond.methodLink "CopyBenchLaw" 193 y_Md_item ∈ gd := tb_7 (i := 16) rfl rfl
theorem ml_Md_388 : Cond.methodLink "CopyBenchModel" 388 y_Md_fit ∈ gd := tb_7 (i := 20) rfl rfl
theorem ml_law_197 : Cond.methodLink "CopyBenchLaw" 197 y_Md_peek ∈ gd := tb_7 (i := 23) rfl rfl
theorem ml_law_202 : Cond.methodLink "CopyBenchLaw" 202 y_Md_shift ∈ gd := tb_7 (i := 27) rfl rfl
theorem cl_law_187 : Cond.constantLong "CopyBenchLaw" 187 (4294967295 : Int64) ∈ gd := tb_7 (i := 31) rfl rfl
theorem im_Object : Cond.instanceMethod ({ cls := "java/lang/Object", name := "<init>", desc := "()V" } : MethodName) ∈ gd := tb_1 (i := 21) rfl rfl
theorem w_instantiable_1016 : Cond.instantiable "CopyBench" (13 : Nat) ∈ gd := tb_1 (i := 16) rfl rfl
theorem co_Object : Cond.code ({ cls := "java/lang/Object", name := "<init>", desc := "()V" } : MethodName) object_method_1_code (1 : Nat) (Option.none : Option FieldType) ∈ gd := tb_1 (i := 22) rfl rfl
theorem w_instantiable_1024 : Cond.instantiable "CopyBench$Exam" (17 : Nat) ∈ gd := tb_1 (i := 24) rfl rfl
theorem w_arrayOver_1030 : Cond.arrayOver (FieldType.array FieldType.int) ∈ lw_tbl := tt_1 (i := 30) rfl
theorem w_arrayClass_1123 : Cond.arrayClass FieldType.int ∈ gd := tb_1 (i := 123) rfl rfl
theorem w_arrayClass_1124 : Cond.arrayClass FieldType.boolean ∈ gd := tb_1 (i := 124) rfl rfl
theorem w_instantiable_1126 : Cond.instantiable "CopyBench$Text" (2 : Nat) ∈ gd := tb_1 (i := 126) rfl rfl
theorem w_arrayOver_1140 : Cond.arrayOver (FieldType.object "CopyBench$Tape") ∈ lw_tbl := tt_1 (i := 140) rfl
theorem w_instantiable_1142 : Cond.instantiable "CopyBench$Odds" (8 : Nat) ∈ gd := tb_1 (i := 142) rfl rfl
theorem w_arrayClass_1176 : Cond.arrayClass FieldType.long ∈ gd := tb_1 (i := 176) rfl rfl
theorem w_instantiable_1178 : Cond.instantiable "CopyBench$Ratio" (2 : Nat) ∈ gd := tb_1 (i := 178) rfl rfl
theorem w_instantiable_1191 : Cond.instantiable "CopyBench$Ranking" (8 : Nat) ∈ gd := tb_1 (i := 191) rfl rfl
theorem w_instantiable_1232 : Cond.instantiable "CopyBench$Links" (1 : Nat) ∈ gd := tb_1 (i := 232) rfl rfl
theorem w_instantiable_2003 : Cond.instantiable "CopyBench$Seating" (5 : Nat) ∈ gd := tb_2 (i := 3) rfl rfl
theorem w_instantiable_2025 : Cond.instantiable "CopyBench$Draws" (1 : Nat) ∈ gd := tb_2 (i := 25) rfl rfl
theorem w_instantiable_2034 : Cond.instantiable "CopyBench$Tape" (3 : Nat) ∈ gd := tb_2 (i := 34) rfl rfl
theorem jst_max : Cond.static ({ cls := "java/lang/Math", name := "max", desc := "(II)I" } : MethodName) ∈ gd := tb_3 (i := 67) rfl rfl
theorem jco_max : Cond.code ({ cls := "java/lang/Math", name := "max", desc := "(II)I" } : MethodName) prog_14_method_65_code (2 : Nat) (Option.some FieldType.int) ∈ gd := tb_3 (i := 68) rfl rfl
theorem jst_min : Cond.static ({ cls := "java/lang/Math", name := "min", desc := "(II)I" } : MethodName) ∈ gd := tb_3 (i := 70) rfl rfl
theorem jco_min : Cond.code ({ cls := "java/lang/Math", name := "min", desc := "(II)I" } : MethodName) prog_14_method_69_code (2 : Nat) (Option.some FieldType.int) ∈ gd := tb_3 (i := 71) rfl rfl
theorem jst_abs : Cond.static ({ cls := "java/lang/Math", name := "abs", desc := "(I)I" } : MethodName) ∈ gd := tb_3 (i := 148) rfl rfl
theorem jco_abs : Cond.code ({ cls := "java/lang/Math", name := "abs", desc := "(I)I" } : MethodName) prog_14_method_59_code (1 : Nat) (Option.some FieldType.int) ∈ gd := tb_3 (i := 149) rfl rfl
theorem jst_arraycopy : Cond.static ({ cls := "java/lang/System", name := "arraycopy", desc := "(Ljava/lang/Object;ILjava/lang/Object;II)V" } : MethodName) ∈ gd := tb_4 (i := 125) rfl rfl
theorem jna_arraycopy : Cond.native ({ cls := "java/lang/System", name := "arraycopy", desc := "(Ljava/lang/Object;ILjava/lang/Object;II)V" } : MethodName) ∈ gd := tb_4 (i := 126) rfl rfl
theorem w_instantiable_4201 : Cond.instantiable "CopyBenchModel" (47 : Nat) ∈ gd := tb_4 (i := 201) rfl rfl
theorem w_arrayOver_4207 : Cond.arrayOver (FieldType.array FieldType.long) ∈ lw_tbl := tt_4 (i := 207) rfl
end
section
/-! THE PURE HEAP: a cell's place, an index, a number. A world: the kinds of its places. -/
abbrev HP : Type := Int → Int → Int
abbrev TP : Type := List (Nat × Nat)
def w32 (x : Int) : Int := (Int32.ofInt x).toInt
def w64 (x : Int) : Int := (Int64.ofInt x).toInt
def inR (x : Int) : Prop := -2147483648 ≤ x ∧ x ≤ 2147483647
def inL (x : Int) : Prop := -9223372036854775808 ≤ x ∧ x ≤ 9223372036854775807
def b01 (x : Int) : Prop := x = 0 ∨ x = 1
def vI (x : Int) : Value := .int (Int32.ofInt x)
def vL (x : Int) : Value := .long (Int64.ofInt x)
def vR (ad : Nat → Nat) (o : Int) : Value := .ref (ad o.toNat)
def upd2 (h : HP) (p i v : Int) : HP := fun q j => if q = p ∧ j = i then v else h q j
def blit (h : HP) (p i q j n : Int) : HP := fun a k => if a = q ∧ j ≤ k ∧ k < j + n then h p (i + (k - j)) else h a k
theorem inR_w32 (x : Int) : inR (w32 x) := ⟨Int32.le_toInt _, by have := Int32.toInt_lt (Int32.ofInt x); unfold w32; omega⟩
theorem inL_w64 (x : Int) : inL (w64 x) := ⟨Int64.le_toInt _, by have := Int64.toInt_lt (Int64.ofInt x); unfold w64; omega⟩
theorem w32_id {x : Int} (h1 : -2147483648 ≤ x) (h2 : x ≤ 2147483647) : w32 x = x := Int32.toInt_ofInt_of_le (by omega) (by omega)
theorem w64_id {x : Int} (h1 : -9223372036854775808 ≤ x) (h2 : x ≤ 9223372036854775807) : w64 x = x := Int64.toInt_ofInt_of_le (by omega) (by omega)
theorem toI32 {x : Int} (h : inR x) : (Int32.ofInt x).toInt = x := w32_id h.1 h.2
theorem toI64 {x : Int} (h : inL x) : (Int64.ofInt x).toInt = x := w64_id h.1 h.2
theorem ofI32 (x : Int) : Int32.ofInt (w32 x) = Int32.ofInt x := Int32.ofInt_toInt _
theorem ofI64 (x : Int) : Int64.ofInt (w64 x) = Int64.ofInt x := Int64.ofInt_toInt _
theorem inR_of (x : Int32) : inR x.toInt := ⟨Int32.le_toInt _, by have := Int32.toInt_lt x; omega⟩
theorem inL_of (x : Int64) : inL x.toInt := ⟨Int64.le_toInt _, by have := Int64.toInt_lt x; omega⟩
theorem b01.R {x : Int} (h : b01 x) : inR x := by rcases h with rfl | rfl <;> exact ⟨by decide, by decide⟩
theorem inR_c {x : Int} (h : (decide (-2147483648 ≤ x) && decide (x ≤ 2147483647)) = true) : inR x := by
  simp only [Bool.and_eq_true, decide_eq_true_eq] at h
  exact h
theorem inL_c {x : Int} (h : (decide (-9223372036854775808 ≤ x) && decide (x ≤ 9223372036854775807)) = true) : inL x := by
  simp only [Bool.and_eq_true, decide_eq_true_eq] at h
  exact h
theorem inR.L {x : Int} (h : inR x) : inL x := ⟨by have := h.1; omega, by have := h.2; omega⟩
theorem lt32 {x y : Int} (hx : inR x) (hy : inR y) : Int32.ofInt x < Int32.ofInt y ↔ x < y := by rw [Int32.lt_iff_toInt_lt, toI32 hx, toI32 hy]
theorem le32 {x y : Int} (hx : inR x) (hy : inR y) : Int32.ofInt x ≤ Int32.ofInt y ↔ x ≤ y := by rw [Int32.le_iff_toInt_le, toI32 hx, toI32 hy]
theorem eq32 {x y : Int} (hx : inR x) (hy : inR y) : Int32.ofInt x = Int32.ofInt y ↔ x = y := ⟨fun h => by rw [← toI32 hx, ← toI32 hy, h], fun h => by rw [h]⟩
theorem lt64 {x y : Int} (hx : inL x) (hy : inL y) : Int64.ofInt x < Int64.ofInt y ↔ x < y := by rw [Int64.lt_iff_toInt_lt, toI64 hx, toI64 hy]
theorem eq64 {x y : Int} (hx : inL x) (hy : inL y) : Int64.ofInt x = Int64.ofInt y ↔ x = y := ⟨fun h => by rw [← toI64 hx, ← toI64 hy, h], fun h => by rw [h]⟩
theorem add32 (x y : Int) : Int32.ofInt x + Int32.ofInt y = Int32.ofInt (x + y) := (Int32.ofInt_add x y).symm
theorem sub32 (x y : Int) : Int32.ofInt x - Int32.ofInt y = Int32.ofInt (x - y) := (Int32.ofInt_sub x y).symm
theorem mul32 (x y : Int) : Int32.ofInt x * Int32.ofInt y = Int32.ofInt (x * y) := (Int32.ofInt_mul x y).symm
theorem neg32 (x : Int) : - Int32.ofInt x = Int32.ofInt (-x) := (Int32.ofInt_neg x).symm
theorem add64 (x y : Int) : Int64.ofInt x + Int64.ofInt y = Int64.ofInt (x + y) := (Int64.ofInt_add x y).symm
theorem sub64 (x y : Int) : Int64.ofInt x - Int64.ofInt y = Int64.ofInt (x - y) := (Int64.ofInt_sub x y).symm
theorem mul64 (x y : Int) : Int64.ofInt x * Int64.ofInt y = Int64.ofInt (x * y) := (Int64.ofInt_mul x y).symm
/-- what isn't plus, minus, times: by the machine's own words -/
def iAnd (x y : Int) : Int := (Int32.ofInt x &&& Int32.ofInt y).toInt
def iOr (x y : Int) : Int := (Int32.ofInt x ||| Int32.ofInt y).toInt
def iXor (x y : Int) : Int := (Int32.ofInt x ^^^ Int32.ofInt y).toInt
def iShl (x y : Int) : Int := (Int32.ofInt x <<< (Int32.ofInt y &&& 31)).toInt
def iShr (x y : Int) : Int := (Int32.ofInt x >>> (Int32.ofInt y &&& 31)).toInt
def iUshr (x y : Int) : Int := ((Int32.ofInt x).toUInt32 >>> ((Int32.ofInt y).toUInt32 &&& Int32.toUInt32 31)).toInt32.toInt
def iDiv (x y : Int) : Int := (Int32.ofInt x / Int32.ofInt y).toInt
def iRem (x y : Int) : Int := (Int32.ofInt x - Int32.ofInt x / Int32.ofInt y * Int32.ofInt y).toInt
def lAnd (x y : Int) : Int := (Int64.ofInt x &&& Int64.ofInt y).toInt
def lOr (x y : Int) : Int := (Int64.ofInt x ||| Int64.ofInt y).toInt
def lShl (x y : Int) : Int := (Int64.ofInt x <<< ((Int32.ofInt y).toInt64 &&& 63)).toInt
def lDiv (x y : Int) : Int := (Int64.ofInt x / Int64.ofInt y).toInt
def lRem (x y : Int) : Int := (Int64.ofInt x - Int64.ofInt x / Int64.ofInt y * Int64.ofInt y).toInt
def l2i (x : Int) : Int := (Int64.ofInt x).toInt32.toInt
def i2b (x : Int) : Int := (Int32.ofInt x).toInt8.toInt32.toInt
def i2s (x : Int) : Int := (Int32.ofInt x).toInt16.toInt32.toInt
def lCmp (x y : Int) : Int := if x < y then -1 else if x = y then 0 else 1
theorem inR_lCmp (x y : Int) : inR (lCmp x y) := by
  unfold lCmp inR
  split
  · omega
  · split <;> omega
/-- what a kind's cells hold: 0 an int, 1 a long, 2 a boolean, 3 another cell, so many places behind -/
def fv (ad : Nat → Nat) (h : HP) (k j : Nat) (t : Nat × Nat) : Value := match t with
  | (0, _) => vI (h k j)
  | (1, _) => vL (h k j)
  | (2, _) => vI (h k j)
  | (_, off) => .ref (ad (k + off))
def FT : Nat → List (Nat × Nat) := fun ci => match ci with
  | 0 => [(0, 0)]
  | 1 => [(0, 0), (0, 0), (0, 0), (0, 0), (3, 1), (3, 2), (3, 3), (3, 12), (3, 21), (3, 22), (3, 23), (3, 24), (3, 25), (3, 26), (3, 27), (3, 28), (3, 29)]
  | 2 => [(3, 1)]
  | 3 => [(3, 1), (0, 0), (3, 2), (1, 0), (0, 0), (1, 0), (1, 0), (1, 0)]
  | 4 => [(0, 0), (0, 0), (3, 1), (3, 2), (3, 3), (3, 4), (3, 5), (3, 6)]
  | 5 => [(1, 0), (1, 0)]
  | 6 => [(0, 0), (3, 1), (3, 2), (3, 3), (3, 4)]
  | 7 => [(0, 0), (0, 0), (3, 1)]
  | 8 => [(0, 0), (3, 1)]
  | 9 => [(3, 1), (3, 31), (3, 61), (2, 0), (3, 91), (3, 93), (3, 94), (3, 97), (3, 98), (3, 99), (3, 106), (3, 108), (3, 113)]
  | 10 => [(0, 0), (0, 0), (3, 1), (3, 2), (3, 3), (3, 4), (3, 5), (3, 6), (3, 7), (3, 8), (3, 9), (3, 10), (3, 11), (3, 12), (3, 13), (0, 0), (0, 0), (3, 14), (0, 0), (3, 15), (2, 0), (0, 0), (2, 0), (0, 0), (2, 0), (0, 0), (3, 16), (3, 17), (1, 0), (0, 0), (3, 18), (3, 19), (3, 20), (3, 21), (3, 22), (3, 23), (3, 24), (3, 25), (0, 0), (0, 0), (3, 26), (3, 27), (3, 28), (3, 29), (3, 36), (3, 37), (3, 38)]
  | _ => []
def FK : Nat → List (Nat × (Nat × Nat)) := fun ci => match ci with
  | 0 => []
  | 1 => [(1, (0, 8)), (2, (0, 8)), (3, (3, 0)), (12, (3, 1)), (21, (0, 8)), (22, (0, 8)), (23, (0, 6)), (24, (0, 5)), (25, (0, 5)), (26, (2, 5)), (27, (0, 8)), (28, (0, 8)), (29, (0, 8))]
  | 2 => [(1, (0, 8))]
  | 3 => [(1, (0, 4)), (2, (1, 33))]
  | 4 => [(1, (0, 28)), (2, (0, 28)), (3, (1, 28)), (4, (1, 28)), (5, (4, 5)), (6, (4, 5))]
  | 5 => []
  | 6 => [(1, (0, 6)), (2, (0, 6)), (3, (0, 6)), (4, (0, 6))]
  | 7 => [(1, (1, 60))]
  | 8 => [(1, (0, 60))]
  | 9 => [(1, (4, 1)), (31, (4, 1)), (61, (4, 1)), (91, (4, 8)), (93, (3, 2)), (94, (4, 3)), (97, (4, 5)), (98, (4, 5)), (99, (4, 4)), (106, (4, 2)), (108, (4, 6)), (113, (4, 0))]
  | 10 => [(1, (0, 8)), (2, (0, 8)), (3, (0, 32)), (4, (0, 64)), (5, (0, 8)), (6, (0, 8)), (7, (0, 6)), (8, (0, 5)), (9, (0, 5)), (10, (0, 5)), (11, (0, 8)), (12, (0, 8)), (13, (0, 8)), (14, (0, 60)), (15, (0, 200)), (16, (1, 33)), (17, (1, 33)), (18, (0, 28)), (19, (0, 28)), (20, (1, 28)), (21, (1, 28)), (22, (2, 28)), (23, (0, 8)), (24, (0, 6)), (25, (0, 6)), (26, (0, 64)), (27, (0, 8)), (28, (0, 8)), (29, (3, 3)), (36, (0, 6)), (37, (0, 6)), (38, (1, 60))]
  | _ => []
def RTn : Nat → Nat := fun r => match r with
  | 0 => 8
  | 1 => 8
  | 2 => 6
  | 3 => 6
  | _ => 0
def RTo : Nat → Nat := fun r => match r with
  | 0 => 1
  | 1 => 1
  | 2 => 21
  | 3 => 1
  | _ => 0
def RTs : Nat → Nat := fun r => match r with
  | 0 => 1
  | 1 => 1
  | 2 => 2
  | 3 => 1
  | _ => 0
def RTa : Nat → Nat := fun r => match r with
  | 0 => 3
  | 1 => 3
  | 2 => 4
  | _ => 5
def RTk : Nat → Nat × Nat := fun r => match r with
  | 0 => (0, 4)
  | 1 => (0, 8)
  | 2 => (4, 7)
  | 3 => (1, 60)
  | _ => (9, 9)
def ent (ad : Nat → Nat) (cA : Nat → ClassId) (h : HP) (k : Nat) (kd : Nat × Nat) : va_E := match kd with
  | (0, n) => .inl (cA 0, n, .inl (fun j => Int32.ofInt (h k j)))
  | (1, n) => .inl (cA 1, n, .inr (.inl (fun j => Int64.ofInt (h k j))))
  | (2, n) => .inl (cA 2, n, .inl (fun j => Int32.ofInt (h k j)))
  | (3, r) => .inl (cA (RTa r), RTn r, .inr (.inr (.inr (.inr (fun j => some (ad (k + RTo r + RTs r * j)))))))
  | (_, ci) => .inr (ci, (FT ci).mapIdx (fv ad h k))
def tysOf (cA : Nat → ClassId) : List (ClassId × FieldType) := [(cA 0, .int), (cA 1, .long), (cA 2, .boolean), (cA 3, .array .int), (cA 4, .object "CopyBench$Tape"), (cA 5, .array .long)]
def ws (τ : TP) (ad : Nat → Nat) (cA : Nat → ClassId) (h : HP) : va_W := τ.mapIdx (fun k kd => (ad k, ent ad cA h k kd))
theorem ws_get {τ : TP} {ad : Nat → Nat} {cA : Nat → ClassId} {h : HP} {k : Nat} {kd : Nat × Nat} (hk : τ[k]? = some kd) : (ws τ ad cA h)[k]? = some (ad k, ent ad cA h k kd) := by
  unfold ws
  rw [List.getElem?_mapIdx, hk]
  rfl
theorem ent_congr {ad : Nat → Nat} {cA : Nat → ClassId} {h h' : HP} {k : Nat} {kd : Nat × Nat} (e : ∀ j : Int, h k j = h' k j) : ent ad cA h k kd = ent ad cA h' k kd := by
  have e1 : h k = h' k := funext e
  unfold ent fv
  rw [e1]
theorem ws_set {τ : TP} {ad : Nat → Nat} {cA : Nat → ClassId} {h h' : HP} {k : Nat} {kd : Nat × Nat} {x : va_E} (hk : τ[k]? = some kd) (he : x = ent ad cA h' k kd) (ho : ∀ q : Nat, q ≠ k → ∀ j : Int, h q j = h' q j) : (ws τ ad cA h).set k (ad k, x) = ws τ ad cA h' := by
  apply List.ext_getElem?
  intro q
  by_cases hq : q = k
  · subst hq
    have hl : q < (ws τ ad cA h).length := by
      unfold ws
      rw [List.length_mapIdx]
      exact (List.getElem?_eq_some_iff.mp hk).1
    rw [List.getElem?_set_self hl, ws_get hk, he]
  · rw [List.getElem?_set_ne (fun e => hq e.symm)]
    unfold ws
    rw [List.getElem?_mapIdx, List.getElem?_mapIdx]
    cases τ[q]? with
    | none => rfl
    | some kd' =>
      show some (ad q, ent ad cA h q kd') = some (ad q, ent ad cA h' q kd')
      rw [ent_congr (ho q hq)]
/-- the numbers' ranges -/
def okv (t : Nat) (x : Int) : Prop := match t with
  | 0 => inR x
  | 1 => inL x
  | 2 => b01 x
  | _ => True
def hr1 (h : HP) (k : Nat) (kd : Nat × Nat) : Prop := match kd with
  | (0, n) => ∀ j : Nat, j < n → inR (h k j)
  | (1, n) => ∀ j : Nat, j < n → inL (h k j)
  | (2, n) => ∀ j : Nat, j < n → b01 (h k j)
  | (3, _) => True
  | (_, ci) => ∀ (j : Nat) (t : Nat × Nat), (FT ci)[j]? = some t → okv t.1 (h k j)
def hr (τ : TP) (h : HP) : Prop := ∀ (k : Nat) (kd : Nat × Nat), τ[k]? = some kd → hr1 h k kd
theorem hr1_congr {h h' : HP} {k : Nat} {kd : Nat × Nat} (e : ∀ j : Int, h k j = h' k j) : hr1 h k kd = hr1 h' k kd := by
  have e1 : h k = h' k := funext e
  unfold hr1
  rw [e1]
theorem hr_set {τ : TP} {h h' : HP} {k : Nat} {kd : Nat × Nat} (hh : hr τ h) (hk : τ[k]? = some kd) (h1 : hr1 h' k kd) (ho : ∀ q : Nat, q ≠ k → ∀ j : Int, h q j = h' q j) : hr τ h' := by
  intro q kd' hq
  by_cases e : q = k
  · subst e
    cases hk.symm.trans hq
    exact h1
  · rw [← hr1_congr (ho q e)]
    exact hh q kd' hq
def ok (τ : TP) (kd : Nat × Nat) (o : Int) : Prop := 0 ≤ o ∧ τ[o.toNat]? = some kd
def wf1 (τ : TP) (k : Nat) (kd : Nat × Nat) : Bool := match kd with
  | (3, r) => (List.range (RTn r)).all (fun i => τ[k + RTo r + RTs r * i]? == some (RTk r))
  | (4, ci) => (FK ci).all (fun q => τ[k + q.1]? == some q.2)
  | _ => true
def wf (τ : TP) : Prop := ∀ (k : Nat) (kd : Nat × Nat), τ[k]? = some kd → wf1 τ k kd = true
theorem wf_of {τ : TP} (h : (List.range τ.length).all (fun k => wf1 τ k (τ.getD k (9, 9))) = true) : wf τ := by
  intro k kd hk
  have hl := (List.getElem?_eq_some_iff.mp hk).1
  have h1 := List.all_eq_true.mp h k (List.mem_range.mpr hl)
  rwa [List.getD_eq_getElem?_getD, hk] at h1
theorem ok_fld {τ : TP} {o : Int} {ci off : Nat} {c : Int} {kd : Nat × Nat} (hw : wf τ) (ho : ok τ (4, ci) o) (hc : (off : Int) = c) (hm : (off, kd) ∈ FK ci) : ok τ kd (o + c) := by
  have h1 := hw _ _ ho.2
  have h2 := List.all_eq_true.mp h1 _ hm
  have h3 : τ[o.toNat + off]? = some kd := by simpa using h2
  have h0 := ho.1
  refine ⟨by omega, ?_⟩
  rw [show (o + c).toNat = o.toNat + off by omega]
  exact h3
theorem ok_elt {τ : TP} {a i : Int} {r : Nat} (n c s : Int) {kd : Nat × Nat} (hw : wf τ) (ho : ok τ (3, r) a) (hn : (RTn r : Int) = n) (hc : (RTo r : Int) = c) (hs : (RTs r : Int) = s) (hk : RTk r = kd) (hi : 0 ≤ i ∧ i < n) : ok τ kd (a + c + s * i) := by
  have h1 := hw _ _ ho.2
  have h2 := List.all_eq_true.mp h1 i.toNat (List.mem_range.mpr (by omega))
  have h3 : τ[a.toNat + RTo r + RTs r * i.toNat]? = some (RTk r) := by simpa using h2
  have h0 := ho.1
  have e1 : ((RTs r * i.toNat : Nat) : Int) = s * i := by
    rw [Int.natCast_mul, hs, Int.toNat_of_nonneg hi.1]
  have e2 : 0 ≤ s * i := by omega
  refine ⟨by omega, ?_⟩
  rw [← hk, show (a + c + s * i).toNat = a.toNat + RTo r + RTs r * i.toNat by omega]
  exact h3
end
section
/-! THE WALK OVER THE PURE HEAP: Y h pc lv st says that the machine at pc, with these locals and this stack, its cells as h says, comes to its end. -/
def rv (ret : Option FieldType) (v : Option Value) : Prop := match ret with
  | none => v = none
  | some .int => ∃ x : Int, v = some (vI x)
  | some .boolean => ∃ x : Int, b01 x ∧ v = some (vI x)
  | some .long => ∃ x : Int, v = some (vL x)
  | _ => False
def retI (ret : Option FieldType) : Instr := match ret with
  | none => .return_
  | some .long => .lreturn
  | _ => .ireturn
def Isy (l : Launch) (τ : TP) (ad : Nat → Nat) (cc : ByteArray) (nL : Nat) (own : String) (R : Room) (ret : Option FieldType) (K : Option Value → HP → Prop) (Y : HP → Nat → List (Nat × Value) → List Value → Prop) : Prop :=
  ∃ (p : Program) (e : Env) (s : State) (m : MethodId) (args : Array Value) (below : List Frame) (meth : Method) (c : Code) (cells slots : Nat) (Q : State → Prop) (D : va_G) (cA : Nat → ClassId) (A : Nat → Prop) (H0 : Heap),
    p.tables.exec = Jvm.exec ∧ c.code = cc ∧ c.maxLocals = nL ∧ s.vm.findClass own = some m.cls ∧ (∀ w ∈ gd, w.before args s = true) ∧ va_K D CL (tysOf cA) s ∧ wf τ ∧ (∀ k : Nat, k < τ.length → A (ad k)) ∧ cells ≤ R.cells ∧ slots ≤ R.slots ∧
    (Y = fun h pc lv st => ∀ (H : Heap) (locs : List Loc) (ls : Array Slot), va_P D CL (ws τ ad cA h) H → va_D A (ws τ ad cA h) → va_S A H0 H locs → lv_has ls nL lv → hr τ h → W p l e R s m args below meth c H locs cells slots Q (F0 m pc ls st)) ∧
    (∀ (h : HP) (pc : Nat) (lv : List (Nat × Value)) (v : Option Value), K v h → rv ret v → decode cc pc = .ok (retI ret, 1) → Y h pc lv v.toList)
def Z (Y : HP → Nat → List (Nat × Value) → List Value → Prop) {X : Type} (T : Option X) (G : X → Prop) (h : HP) (pc : Nat) (lv : List (Nat × Value)) (st : List Value) : Prop := ∀ x, T = some x → G x → Y h pc lv st
def St (cc : ByteArray) (nL : Nat) (pc : Nat) (lv : List (Nat × Value)) (st : List Value) (pc' : Nat) (lv' : List (Nat × Value)) (st' : List Value) : Prop :=
  ∀ (p : Program) (l : Launch) (e : Env) (R : Room) (s : State) (m : MethodId) (args : Array Value) (below : List Frame) (meth : Method) (c : Code) (H : Heap) (locs : List Loc) (cells slots : Nat) (Q : State → Prop) (ls : Array Slot),
    p.tables.exec = Jvm.exec → c.code = cc → lv_has ls nL lv → (∀ ls' : Array Slot, lv_has ls' nL lv' → W p l e R s m args below meth c H locs cells slots Q (F0 m pc' ls' st')) → W p l e R s m args below meth c H locs cells slots Q (F0 m pc ls st)
section RowsA
variable {l : Launch} {τ : TP} {ad : Nat → Nat} {cc : ByteArray} {nL : Nat} {own : String} {R : Room} {ret : Option FieldType} {K : Option Value → HP → Prop} {Y : HP → Nat → List (Nat × Value) → List Value → Prop}
variable {X : Type} {T T1 T2 : Option X} {G : X → Prop} {h h' : HP} {pc pc' tgt : Nat} {lv lv' : List (Nat × Value)} {st st' rest : List Value} {x y z i : Int} {off : Int}
theorem z_s (I : Isy l τ ad cc nL own R ret K Y) (S : St cc nL pc lv st pc' lv' st') (k : Z Y T G h pc' lv' st') : Z Y T G h pc lv st := by
  obtain ⟨p, e, s, m, args, below, meth, c, cells, slots, Q, D, cA, A, H0, hx, hb, hml, hown, hts, hK, hw, hA, hc, hs, rfl, hret⟩ := I
  intro r hT hG H locs ls hP hD hS hl hh
  exact S p l e R s m args below meth c H locs cells slots Q ls hx hb hl (fun ls' hl' => k r hT hG H locs ls' hP hD hS hl' hh)
theorem St.then {pc'' : Nat} {lv'' : List (Nat × Value)} {st'' : List Value} (a : St cc nL pc lv st pc' lv' st') (b : St cc nL pc' lv' st' pc'' lv'' st'') : St cc nL pc lv st pc'' lv'' st'' :=
  fun p l e R s m args below meth c H locs cells slots Q ls hx hb hl k => a p l e R s m args below meth c H locs cells slots Q ls hx hb hl (fun ls' hl' => b p l e R s m args below meth c H locs cells slots Q ls' hx hb hl' k)
theorem s_iconst {n : Int} (d : decode cc pc = .ok (.iconst n, 1)) (hp : pc + 1 = pc') : St cc nL pc lv st pc' lv (vI n :: st) := by
  subst hp
  exact fun p l e R s m args below meth c H locs cells slots Q ls hx hb hl k => lv_iconst hx hb d rfl (k ls hl)
theorem s_bipush {n : Int} (d : decode cc pc = .ok (.bipush n, 2)) (hv : (Int8.ofInt n).toInt32 = Int32.ofInt n) (hp : pc + 2 = pc') : St cc nL pc lv st pc' lv (vI n :: st) := by
  subst hp
  exact fun p l e R s m args below meth c H locs cells slots Q ls hx hb hl k => lv_bipush hx hb d hv (k ls hl)
theorem s_sipush {n : Int} (d : decode cc pc = .ok (.sipush n, 3)) (hv : (Int16.ofInt n).toInt32 = Int32.ofInt n) (hp : pc + 3 = pc') : St cc nL pc lv st pc' lv (vI n :: st) := by
  subst hp
  exact fun p l e R s m args below meth c H locs cells slots Q ls hx hb hl k => lv_sipush hx hb d hv (k ls hl)
theorem s_lconst {n : Fin 2} {x : Int} (d : decode cc pc = .ok (.lconst n, 1)) (hv : Int64.ofNat (n : Nat) = Int64.ofInt x) (hp : pc + 1 = pc') : St cc nL pc lv st pc' lv (vL x :: st) := by
  subst hp
  exact fun p l e R s m args below meth c H locs cells slots Q ls hx hb hl k => lv_lconst hx hb d hv (k ls hl)
theorem s_iload_n {q : Fin 4} {j : Nat} (n : Nat) (hn : lv[n]? = some (j, vI x)) (d : decode cc pc = .ok (.iload_n q, 1)) (hq : (q : Nat) = j) (hp : pc + 1 = pc') : St cc nL pc lv st pc' lv (vI x :: st) := by
  subst hp
  exact fun p l e R s m args below meth c H locs cells slots Q ls hx hb hl k => lv_iload_n hx hb d hq (lv_at hl n hn) (k ls hl)
theorem s_iload {j : Nat} (n : Nat) (hn : lv[n]? = some (j, vI x)) (d : decode cc pc = .ok (.iload j, 2)) (hp : pc + 2 = pc') : St cc nL pc lv st pc' lv (vI x :: st) := by
  subst hp
  exact fun p l e R s m args below meth c H locs cells slots Q ls hx hb hl k => lv_iload hx hb d (lv_at hl n hn) (k ls hl)
theorem s_lload_n {q : Fin 4} {j : Nat} (n : Nat) (hn : lv[n]? = some (j, vL x)) (d : decode cc pc = .ok (.lload_n q, 1)) (hq : (q : Nat) = j) (hp : pc + 1 = pc') : St cc nL pc lv st pc' lv (vL x :: st) := by
  subst hp
  exact fun p l e R s m args below meth c H locs cells slots Q ls hx hb hl k => lv_lload_n hx hb d hq (lv_at hl n hn) (k ls hl)
theorem s_lload {j : Nat} (n : Nat) (hn : lv[n]? = some (j, vL x)) (d : decode cc pc = .ok (.lload j, 2)) (hp : pc + 2 = pc') : St cc nL pc lv st pc' lv (vL x :: st) := by
  subst hp
  exact fun p l e R s m args below meth c H locs cells slots Q ls hx hb hl k => lv_lload hx hb d (lv_at hl n hn) (k ls hl)
theorem s_aload_n {q : Fin 4} {j : Nat} {ad : Nat → Nat} (n : Nat) (hn : lv[n]? = some (j, vR ad x)) (d : decode cc pc = .ok (.aload_n q, 1)) (hq : (q : Nat) = j) (hp : pc + 1 = pc') : St cc nL pc lv st pc' lv (vR ad x :: st) := by
  subst hp
  exact fun p l e R s m args below meth c H locs cells slots Q ls hx hb hl k => lv_aload_n hx hb d hq (lv_at hl n hn) (k ls hl)
theorem s_aload {j : Nat} {ad : Nat → Nat} (n : Nat) (hn : lv[n]? = some (j, vR ad x)) (d : decode cc pc = .ok (.aload j, 2)) (hp : pc + 2 = pc') : St cc nL pc lv st pc' lv (vR ad x :: st) := by
  subst hp
  exact fun p l e R s m args below meth c H locs cells slots Q ls hx hb hl k => lv_aload hx hb d (lv_at hl n hn) (k ls hl)
/-- the locals behind a store of one word, of two -/
def lset (j : Nat) (v : Value) (lv : List (Nat × Value)) : List (Nat × Value) := (j, v) :: lv.filter (fun q => !(q.1 == j) && !(q.1 + 1 == j && q.2.category == 2))
def lset2 (j : Nat) (v : Value) (lv : List (Nat × Value)) : List (Nat × Value) := (j, v) :: lv.filter (fun q => !(q.1 == j) && (!(q.1 == j + 1) && !(q.1 + 1 == j && q.2.category == 2)))
theorem s_istore_n {q : Fin 4} {j : Nat} (d : decode cc pc = .ok (.istore_n q, 1)) (hq : (q : Nat) = j) (hj : j < nL) (hl' : lset j (vI x) lv = lv') (hp : pc + 1 = pc') : St cc nL pc lv (vI x :: st) pc' lv' st := by
  subst hp
  exact fun p l e R s m args below meth c H locs cells slots Q ls hx hb hl k => lv_istore_n hx hb d hq hl hj hl' k
theorem s_istore {j : Nat} (d : decode cc pc = .ok (.istore j, 2)) (hj : j < nL) (hl' : lset j (vI x) lv = lv') (hp : pc + 2 = pc') : St cc nL pc lv (vI x :: st) pc' lv' st := by
  subst hp
  exact fun p l e R s m args below meth c H locs cells slots Q ls hx hb hl k => lv_istore hx hb d hl hj hl' k
theorem s_lstore_n {q : Fin 4} {j : Nat} (d : decode cc pc = .ok (.lstore_n q, 1)) (hq : (q : Nat) = j) (hj : j + 1 < nL) (hl' : lset2 j (vL x) lv = lv') (hp : pc + 1 = pc') : St cc nL pc lv (vL x :: st) pc' lv' st := by
  subst hp
  exact fun p l e R s m args below meth c H locs cells slots Q ls hx hb hl k => lv_lstore_n hx hb d hq hl hj hl' k
theorem s_lstore {j : Nat} (d : decode cc pc = .ok (.lstore j, 2)) (hj : j + 1 < nL) (hl' : lset2 j (vL x) lv = lv') (hp : pc + 2 = pc') : St cc nL pc lv (vL x :: st) pc' lv' st := by
  subst hp
  exact fun p l e R s m args below meth c H locs cells slots Q ls hx hb hl k => lv_lstore hx hb d hl hj hl' k
theorem s_astore_n {q : Fin 4} {j : Nat} {ad : Nat → Nat} (d : decode cc pc = .ok (.astore_n q, 1)) (hq : (q : Nat) = j) (hj : j < nL) (hl' : lset j (vR ad x) lv = lv') (hp : pc + 1 = pc') : St cc nL pc lv (vR ad x :: st) pc' lv' st := by
  subst hp
  exact fun p l e R s m args below meth c H locs cells slots Q ls hx hb hl k => lv_astore_n hx hb d hq hl hj hl' k
theorem s_astore {j : Nat} {ad : Nat → Nat} (d : decode cc pc = .ok (.astore j, 2)) (hj : j < nL) (hl' : lset j (vR ad x) lv = lv') (hp : pc + 2 = pc') : St cc nL pc lv (vR ad x :: st) pc' lv' st := by
  subst hp
  exact fun p l e R s m args below meth c H locs cells slots Q ls hx hb hl k => lv_astore hx hb d hl hj hl' k
theorem s_iinc {j n : Nat} {a : Int} (hn : lv[n]? = some (j, vI x)) (d : decode cc pc = .ok (.iinc j a, 3)) (hj : j < nL) (hl' : lset j (vI (w32 (x + a))) lv = lv') (hp : pc + 3 = pc') : St cc nL pc lv st pc' lv' st := by
  subst hp
  exact fun p l e R s m args below meth c H locs cells slots Q ls hx hb hl k => lv_iinc hx hb d hl hn (by rw [add32, ofI32]) hj hl' k
theorem s_lv (ks : List Nat) (hk : lv_pick lv ks = lv') : St cc nL pc lv st pc lv' st :=
  fun p l e R s m args below meth c H locs cells slots Q ls hx hb hl k => k ls (lv_sub hl ks hk)
theorem s_iadd (d : decode cc pc = .ok (.iadd, 1)) (hp : pc + 1 = pc') : St cc nL pc lv (vI y :: vI x :: st) pc' lv (vI (w32 (x + y)) :: st) := by
  subst hp
  exact fun p l e R s m args below meth c H locs cells slots Q ls hx hb hl k => lv_iadd hx hb d (by rw [add32, ← ofI32]; exact k ls hl)
theorem s_isub (d : decode cc pc = .ok (.isub, 1)) (hp : pc + 1 = pc') : St cc nL pc lv (vI y :: vI x :: st) pc' lv (vI (w32 (x - y)) :: st) := by
  subst hp
  exact fun p l e R s m args below meth c H locs cells slots Q ls hx hb hl k => lv_isub hx hb d (by rw [sub32, ← ofI32]; exact k ls hl)
theorem s_imul (d : decode cc pc = .ok (.imul, 1)) (hp : pc + 1 = pc') : St cc nL pc lv (vI y :: vI x :: st) pc' lv (vI (w32 (x * y)) :: st) := by
  subst hp
  exact fun p l e R s m args below meth c H locs cells slots Q ls hx hb hl k => lv_imul hx hb d (by rw [mul32, ← ofI32]; exact k ls hl)
theorem s_ineg (d : decode cc pc = .ok (.ineg, 1)) (hp : pc + 1 = pc') : St cc nL pc lv (vI x :: st) pc' lv (vI (w32 (-x)) :: st) := by
  subst hp
  exact fun p l e R s m args below meth c H locs cells slots Q ls hx hb hl k => lv_ineg hx hb d (by rw [neg32, ← ofI32]; exact k ls hl)
theorem s_iand (d : decode cc pc = .ok (.iand, 1)) (hp : pc + 1 = pc') : St cc nL pc lv (vI y :: vI x :: st) pc' lv (vI (iAnd x y) :: st) := by
  subst hp
  exact fun p l e R s m args below meth c H locs cells slots Q ls hx hb hl k => lv_iand hx hb d (by have := k ls hl; unfold vI iAnd at this; rwa [Int32.ofInt_toInt] at this)
theorem s_ior (d : decode cc pc = .ok (.ior, 1)) (hp : pc + 1 = pc') : St cc nL pc lv (vI y :: vI x :: st) pc' lv (vI (iOr x y) :: st) := by
  subst hp
  exact fun p l e R s m args below meth c H locs cells slots Q ls hx hb hl k => lv_ior hx hb d (by have := k ls hl; unfold vI iOr at this; rwa [Int32.ofInt_toInt] at this)
theorem s_ixor (d : decode cc pc = .ok (.ixor, 1)) (hp : pc + 1 = pc') : St cc nL pc lv (vI y :: vI x :: st) pc' lv (vI (iXor x y) :: st) := by
  subst hp
  exact fun p l e R s m args below meth c H locs cells slots Q ls hx hb hl k => lv_ixor hx hb d (by have := k ls hl; unfold vI iXor at this; rwa [Int32.ofInt_toInt] at this)
theorem s_ishl (d : decode cc pc = .ok (.ishl, 1)) (hp : pc + 1 = pc') : St cc nL pc lv (vI y :: vI x :: st) pc' lv (vI (iShl x y) :: st) := by
  subst hp
  exact fun p l e R s m args below meth c H locs cells slots Q ls hx hb hl k => lv_ishl hx hb d (by have := k ls hl; unfold vI iShl at this; rwa [Int32.ofInt_toInt] at this)
theorem s_ishr (d : decode cc pc = .ok (.ishr, 1)) (hp : pc + 1 = pc') : St cc nL pc lv (vI y :: vI x :: st) pc' lv (vI (iShr x y) :: st) := by
  subst hp
  exact fun p l e R s m args below meth c H locs cells slots Q ls hx hb hl k => lv_ishr hx hb d (by have := k ls hl; unfold vI iShr at this; rwa [Int32.ofInt_toInt] at this)
theorem s_iushr (d : decode cc pc = .ok (.iushr, 1)) (hp : pc + 1 = pc') : St cc nL pc lv (vI y :: vI x :: st) pc' lv (vI (iUshr x y) :: st) := by
  subst hp
  exact fun p l e R s m args below meth c H locs cells slots Q ls hx hb hl k => lv_iushr (v := Int32.ofInt (iUshr x y)) hx hb d (Int32.ofInt_toInt _).symm (k ls hl)
theorem s_ladd (d : decode cc pc = .ok (.ladd, 1)) (hp : pc + 1 = pc') : St cc nL pc lv (vL y :: vL x :: st) pc' lv (vL (w64 (x + y)) :: st) := by
  subst hp
  exact fun p l e R s m args below meth c H locs cells slots Q ls hx hb hl k => lv_ladd hx hb d (by rw [add64, ← ofI64]; exact k ls hl)
theorem s_lsub (d : decode cc pc = .ok (.lsub, 1)) (hp : pc + 1 = pc') : St cc nL pc lv (vL y :: vL x :: st) pc' lv (vL (w64 (x - y)) :: st) := by
  subst hp
  exact fun p l e R s m args below meth c H locs cells slots Q ls hx hb hl k => lv_lsub hx hb d (by rw [sub64, ← ofI64]; exact k ls hl)
theorem s_lmul (d : decode cc pc = .ok (.lmul, 1)) (hp : pc + 1 = pc') : St cc nL pc lv (vL y :: vL x :: st) pc' lv (vL (w64 (x * y)) :: st) := by
  subst hp
  exact fun p l e R s m args below meth c H locs cells slots Q ls hx hb hl k => lv_lmul hx hb d (by rw [mul64, ← ofI64]; exact k ls hl)
theorem s_land (d : decode cc pc = .ok (.land, 1)) (hp : pc + 1 = pc') : St cc nL pc lv (vL y :: vL x :: st) pc' lv (vL (lAnd x y) :: st) := by
  subst hp
  exact fun p l e R s m args below meth c H locs cells slots Q ls hx hb hl k => lv_land hx hb d (by have := k ls hl; unfold vL lAnd at this; rwa [Int64.ofInt_toInt] at this)
theorem s_lor (d : decode cc pc = .ok (.lor, 1)) (hp : pc + 1 = pc') : St cc nL pc lv (vL y :: vL x :: st) pc' lv (vL (lOr x y) :: st) := by
  subst hp
  exact fun p l e R s m args below meth c H locs cells slots Q ls hx hb hl k => lv_lor hx hb d (by have := k ls hl; unfold vL lOr at this; rwa [Int64.ofInt_toInt] at this)
theorem s_lshl (d : decode cc pc = .ok (.lshl, 1)) (hp : pc + 1 = pc') : St cc nL pc lv (vI y :: vL x :: st) pc' lv (vL (lShl x y) :: st) := by
  subst hp
  exact fun p l e R s m args below meth c H locs cells slots Q ls hx hb hl k => lv_lshl (v := Int64.ofInt (lShl x y)) hx hb d (Int64.ofInt_toInt _).symm (k ls hl)
theorem s_i2l (hr : inR x) (d : decode cc pc = .ok (.i2l, 1)) (hp : pc + 1 = pc') : St cc nL pc lv (vI x :: st) pc' lv (vL x :: st) := by
  subst hp
  exact fun p l e R s m args below meth c H locs cells slots Q ls hx hb hl k => lv_i2l (v := Int64.ofInt x) hx hb d (by rw [← Int64.toInt_inj, Int32.toInt_toInt64, toI32 hr, toI64 hr.L]) (k ls hl)
theorem s_l2i (d : decode cc pc = .ok (.l2i, 1)) (hp : pc + 1 = pc') : St cc nL pc lv (vL x :: st) pc' lv (vI (l2i x) :: st) := by
  subst hp
  exact fun p l e R s m args below meth c H locs cells slots Q ls hx hb hl k => lv_l2i (v := Int32.ofInt (l2i x)) hx hb d (Int32.ofInt_toInt _).symm (k ls hl)
theorem s_i2b (d : decode cc pc = .ok (.i2b, 1)) (hp : pc + 1 = pc') : St cc nL pc lv (vI x :: st) pc' lv (vI (i2b x) :: st) := by
  subst hp
  exact fun p l e R s m args below meth c H locs cells slots Q ls hx hb hl k => lv_i2b (v := Int32.ofInt (i2b x)) hx hb d (Int32.ofInt_toInt _).symm (k ls hl)
theorem s_i2s (d : decode cc pc = .ok (.i2s, 1)) (hp : pc + 1 = pc') : St cc nL pc lv (vI x :: st) pc' lv (vI (i2s x) :: st) := by
  subst hp
  exact fun p l e R s m args below meth c H locs cells slots Q ls hx hb hl k => lv_i2s (v := Int32.ofInt (i2s x)) hx hb d (Int32.ofInt_toInt _).symm (k ls hl)
theorem s_dup {v : Value} (hv : v.category = 1) (d : decode cc pc = .ok (.dup, 1)) (hp : pc + 1 = pc') : St cc nL pc lv (v :: st) pc' lv (v :: v :: st) := by
  subst hp
  exact fun p l e R s m args below meth c H locs cells slots Q ls hx hb hl k => lv_dup hx hb d hv (k ls hl)
theorem s_goto (d : decode cc pc = .ok (.goto off, 3)) (ht : (pc : Int) + off = (tgt : Int)) : St cc nL pc lv st tgt lv st :=
  fun p l e R s m args below meth c H locs cells slots Q ls hx hb hl k => lv_goto hx hb d ht (k ls hl)
end RowsA
end
section
/-! branches, cells, returns -/
section RowsB
variable {l : Launch} {τ : TP} {ad : Nat → Nat} {cc : ByteArray} {nL : Nat} {own : String} {R : Room} {ret : Option FieldType} {K : Option Value → HP → Prop} {Y : HP → Nat → List (Nat × Value) → List Value → Prop}
variable {X : Type} {T T1 T2 : Option X} {G : X → Prop} {h h' : HP} {pc pc' tgt : Nat} {lv lv' : List (Nat × Value)} {st st' rest : List Value} {x y z i o a : Int} {off : Int}
theorem s_dup2 {v w : Value} (hv : v.category = 1) (hw : w.category = 1) (d : decode cc pc = .ok (.dup2, 1)) (hp : pc + 1 = pc') : St cc nL pc lv (v :: w :: st) pc' lv (v :: w :: v :: w :: st) := by
  subst hp
  exact fun p l e R s m args below meth c H locs cells slots Q ls hx hb hl k => lv_dup2_11 hx hb d hv hw (k ls hl)
theorem s_dup2w {v : Value} (hv : v.category = 2) (d : decode cc pc = .ok (.dup2, 1)) (hp : pc + 1 = pc') : St cc nL pc lv (v :: st) pc' lv (v :: v :: st) := by
  subst hp
  exact fun p l e R s m args below meth c H locs cells slots Q ls hx hb hl k => lv_dup2_2 hx hb d hv (k ls hl)
theorem s_pop {v : Value} (hv : v.category = 1) (d : decode cc pc = .ok (.pop, 1)) (hp : pc + 1 = pc') : St cc nL pc lv (v :: st) pc' lv st := by
  subst hp
  exact fun p l e R s m args below meth c H locs cells slots Q ls hx hb hl k => lv_pop hx hb d hv (k ls hl)
theorem lg_lCmp (hx : inL x) (hy : inL y) : lg_cmp (Int64.ofInt x) (Int64.ofInt y) = Int32.ofInt (lCmp x y) := by
  unfold lg_cmp lCmp
  simp only [gt_iff_lt, lt64 hy hx, eq64 hx hy]
  by_cases h1 : y < x
  · rw [if_pos h1, if_neg (by omega), if_neg (by omega)]; rfl
  · rw [if_neg h1]
    by_cases h2 : x = y
    · rw [if_pos h2, if_neg (by omega), if_pos h2]; rfl
    · rw [if_neg h2, if_pos (by omega)]; rfl
theorem s_lcmp (hx : inL x) (hy : inL y) (d : decode cc pc = .ok (.lcmp, 1)) (hp : pc + 1 = pc') : St cc nL pc lv (vL y :: vL x :: st) pc' lv (vI (lCmp x y) :: st) := by
  subst hp
  exact fun p l e R s m args below meth c H locs cells slots Q ls hx' hb hl k => W.lcmp hx' hb d (by rw [lg_lCmp hx hy]; exact k ls hl)

theorem z_icmp_eq (I : Isy l τ ad cc nL own R ret K Y) (hx : inR x) (hy : inR y) (d : decode cc pc = .ok (.if_icmp .eq off, 3)) (ht : (pc : Int) + off = (tgt : Int)) (hp : pc + 3 = pc') (k1 : x = y → Z Y T1 G h tgt lv rest) (k2 : ¬ (x = y) → Z Y T2 G h pc' lv rest) : Z Y (if x = y then T1 else T2) G h pc lv (vI y :: vI x :: rest) := by
  subst hp
  obtain ⟨p, e, s, m, args, below, meth, c, cells, slots, Q, D, cA, A, H0, hx', hb, hml, hown, hts, hK, hw, hA, hc, hs, rfl, hret⟩ := I
  intro r hT hG H locs ls hP hD hS hl hh
  refine lv_icmp_eq hx' hb d ht (fun q => ?_) (fun q => ?_)
  · have q' : x = y := (eq32 hx hy).mp q
    rw [if_pos q'] at hT
    exact k1 q' r hT hG H locs ls hP hD hS hl hh
  · have q' : ¬ (x = y) := fun z => q ((eq32 hx hy).mpr z)
    rw [if_neg q'] at hT
    exact k2 q' r hT hG H locs ls hP hD hS hl hh
theorem z_if_eq (I : Isy l τ ad cc nL own R ret K Y) (hx : inR x) (d : decode cc pc = .ok (.ifCond .eq off, 3)) (ht : (pc : Int) + off = (tgt : Int)) (hp : pc + 3 = pc') (k1 : x = 0 → Z Y T1 G h tgt lv rest) (k2 : ¬ (x = 0) → Z Y T2 G h pc' lv rest) : Z Y (if x = 0 then T1 else T2) G h pc lv (vI x :: rest) := by
  subst hp
  obtain ⟨p, e, s, m, args, below, meth, c, cells, slots, Q, D, cA, A, H0, hx', hb, hml, hown, hts, hK, hw, hA, hc, hs, rfl, hret⟩ := I
  intro r hT hG H locs ls hP hD hS hl hh
  refine lv_if_eq hx' hb d ht (fun q => ?_) (fun q => ?_)
  · have q' : x = 0 := (eq32 hx (inR_c rfl)).mp q
    rw [if_pos q'] at hT
    exact k1 q' r hT hG H locs ls hP hD hS hl hh
  · have q' : ¬ (x = 0) := fun z => q ((eq32 hx (inR_c rfl)).mpr z)
    rw [if_neg q'] at hT
    exact k2 q' r hT hG H locs ls hP hD hS hl hh
theorem z_icmp_ne (I : Isy l τ ad cc nL own R ret K Y) (hx : inR x) (hy : inR y) (d : decode cc pc = .ok (.if_icmp .ne off, 3)) (ht : (pc : Int) + off = (tgt : Int)) (hp : pc + 3 = pc') (k1 : ¬ x = y → Z Y T1 G h tgt lv rest) (k2 : x = y → Z Y T2 G h pc' lv rest) : Z Y (if x = y then T2 else T1) G h pc lv (vI y :: vI x :: rest) := by
  subst hp
  obtain ⟨p, e, s, m, args, below, meth, c, cells, slots, Q, D, cA, A, H0, hx', hb, hml, hown, hts, hK, hw, hA, hc, hs, rfl, hret⟩ := I
  intro r hT hG H locs ls hP hD hS hl hh
  refine lv_icmp_ne hx' hb d ht (fun q => ?_) (fun q => ?_)
  · have q' : ¬ x = y := fun z => q ((eq32 hx hy).mpr z)
    rw [if_neg q'] at hT
    exact k1 q' r hT hG H locs ls hP hD hS hl hh
  · have q' : x = y := (eq32 hx hy).mp q
    rw [if_pos q'] at hT
    exact k2 q' r hT hG H locs ls hP hD hS hl hh
theorem z_if_ne (I : Isy l τ ad cc nL own R ret K Y) (hx : inR x) (d : decode cc pc = .ok (.ifCond .ne off, 3)) (ht : (pc : Int) + off = (tgt : Int)) (hp : pc + 3 = pc') (k1 : ¬ x = 0 → Z Y T1 G h tgt lv rest) (k2 : x = 0 → Z Y T2 G h pc' lv rest) : Z Y (if x = 0 then T2 else T1) G h pc lv (vI x :: rest) := by
  subst hp
  obtain ⟨p, e, s, m, args, below, meth, c, cells, slots, Q, D, cA, A, H0, hx', hb, hml, hown, hts, hK, hw, hA, hc, hs, rfl, hret⟩ := I
  intro r hT hG H locs ls hP hD hS hl hh
  refine lv_if_ne hx' hb d ht (fun q => ?_) (fun q => ?_)
  · have q' : ¬ x = 0 := fun z => q ((eq32 hx (y := 0) (inR_c rfl)).mpr z)
    rw [if_neg q'] at hT
    exact k1 q' r hT hG H locs ls hP hD hS hl hh
  · have q' : x = 0 := (eq32 hx (y := 0) (inR_c rfl)).mp q
    rw [if_pos q'] at hT
    exact k2 q' r hT hG H locs ls hP hD hS hl hh
theorem z_icmp_lt (I : Isy l τ ad cc nL own R ret K Y) (hx : inR x) (hy : inR y) (d : decode cc pc = .ok (.if_icmp .lt off, 3)) (ht : (pc : Int) + off = (tgt : Int)) (hp : pc + 3 = pc') (k1 : x < y → Z Y T1 G h tgt lv rest) (k2 : ¬ (x < y) → Z Y T2 G h pc' lv rest) : Z Y (if x < y then T1 else T2) G h pc lv (vI y :: vI x :: rest) := by
  subst hp
  obtain ⟨p, e, s, m, args, below, meth, c, cells, slots, Q, D, cA, A, H0, hx', hb, hml, hown, hts, hK, hw, hA, hc, hs, rfl, hret⟩ := I
  intro r hT hG H locs ls hP hD hS hl hh
  refine lv_icmp_lt hx' hb d ht (fun q => ?_) (fun q => ?_)
  · have q' : x < y := (lt32 hx hy).mp q
    rw [if_pos q'] at hT
    exact k1 q' r hT hG H locs ls hP hD hS hl hh
  · have q' : ¬ (x < y) := fun z => q ((lt32 hx hy).mpr z)
    rw [if_neg q'] at hT
    exact k2 q' r hT hG H locs ls hP hD hS hl hh
theorem z_if_lt (I : Isy l τ ad cc nL own R ret K Y) (hx : inR x) (d : decode cc pc = .ok (.ifCond .lt off, 3)) (ht : (pc : Int) + off = (tgt : Int)) (hp : pc + 3 = pc') (k1 : x < 0 → Z Y T1 G h tgt lv rest) (k2 : ¬ (x < 0) → Z Y T2 G h pc' lv rest) : Z Y (if x < 0 then T1 else T2) G h pc lv (vI x :: rest) := by
  subst hp
  obtain ⟨p, e, s, m, args, below, meth, c, cells, slots, Q, D, cA, A, H0, hx', hb, hml, hown, hts, hK, hw, hA, hc, hs, rfl, hret⟩ := I
  intro r hT hG H locs ls hP hD hS hl hh
  refine lv_if_lt hx' hb d ht (fun q => ?_) (fun q => ?_)
  · have q' : x < 0 := (lt32 hx (inR_c rfl)).mp q
    rw [if_pos q'] at hT
    exact k1 q' r hT hG H locs ls hP hD hS hl hh
  · have q' : ¬ (x < 0) := fun z => q ((lt32 hx (inR_c rfl)).mpr z)
    rw [if_neg q'] at hT
    exact k2 q' r hT hG H locs ls hP hD hS hl hh
theorem z_icmp_ge (I : Isy l τ ad cc nL own R ret K Y) (hx : inR x) (hy : inR y) (d : decode cc pc = .ok (.if_icmp .ge off, 3)) (ht : (pc : Int) + off = (tgt : Int)) (hp : pc + 3 = pc') (k1 : y ≤ x → Z Y T1 G h tgt lv rest) (k2 : ¬ (y ≤ x) → Z Y T2 G h pc' lv rest) : Z Y (if y ≤ x then T1 else T2) G h pc lv (vI y :: vI x :: rest) := by
  subst hp
  obtain ⟨p, e, s, m, args, below, meth, c, cells, slots, Q, D, cA, A, H0, hx', hb, hml, hown, hts, hK, hw, hA, hc, hs, rfl, hret⟩ := I
  intro r hT hG H locs ls hP hD hS hl hh
  refine lv_icmp_ge hx' hb d ht (fun q => ?_) (fun q => ?_)
  · have q' : y ≤ x := (le32 hy hx).mp q
    rw [if_pos q'] at hT
    exact k1 q' r hT hG H locs ls hP hD hS hl hh
  · have q' : ¬ (y ≤ x) := fun z => q ((le32 hy hx).mpr z)
    rw [if_neg q'] at hT
    exact k2 q' r hT hG H locs ls hP hD hS hl hh
theorem z_if_ge (I : Isy l τ ad cc nL own R ret K Y) (hx : inR x) (d : decode cc pc = .ok (.ifCond .ge off, 3)) (ht : (pc : Int) + off = (tgt : Int)) (hp : pc + 3 = pc') (k1 : 0 ≤ x → Z Y T1 G h tgt lv rest) (k2 : ¬ (0 ≤ x) → Z Y T2 G h pc' lv rest) : Z Y (if 0 ≤ x then T1 else T2) G h pc lv (vI x :: rest) := by
  subst hp
  obtain ⟨p, e, s, m, args, below, meth, c, cells, slots, Q, D, cA, A, H0, hx', hb, hml, hown, hts, hK, hw, hA, hc, hs, rfl, hret⟩ := I
  intro r hT hG H locs ls hP hD hS hl hh
  refine lv_if_ge hx' hb d ht (fun q => ?_) (fun q => ?_)
  · have q' : 0 ≤ x := (le32 (inR_c rfl) hx).mp q
    rw [if_pos q'] at hT
    exact k1 q' r hT hG H locs ls hP hD hS hl hh
  · have q' : ¬ (0 ≤ x) := fun z => q ((le32 (inR_c rfl) hx).mpr z)
    rw [if_neg q'] at hT
    exact k2 q' r hT hG H locs ls hP hD hS hl hh
theorem z_icmp_gt (I : Isy l τ ad cc nL own R ret K Y) (hx : inR x) (hy : inR y) (d : decode cc pc = .ok (.if_icmp .gt off, 3)) (ht : (pc : Int) + off = (tgt : Int)) (hp : pc + 3 = pc') (k1 : y < x → Z Y T1 G h tgt lv rest) (k2 : ¬ (y < x) → Z Y T2 G h pc' lv rest) : Z Y (if y < x then T1 else T2) G h pc lv (vI y :: vI x :: rest) := by
  subst hp
  obtain ⟨p, e, s, m, args, below, meth, c, cells, slots, Q, D, cA, A, H0, hx', hb, hml, hown, hts, hK, hw, hA, hc, hs, rfl, hret⟩ := I
  intro r hT hG H locs ls hP hD hS hl hh
  refine lv_icmp_gt hx' hb d ht (fun q => ?_) (fun q => ?_)
  · have q' : y < x := (lt32 hy hx).mp q
    rw [if_pos q'] at hT
    exact k1 q' r hT hG H locs ls hP hD hS hl hh
  · have q' : ¬ (y < x) := fun z => q ((lt32 hy hx).mpr z)
    rw [if_neg q'] at hT
    exact k2 q' r hT hG H locs ls hP hD hS hl hh
theorem z_if_gt (I : Isy l τ ad cc nL own R ret K Y) (hx : inR x) (d : decode cc pc = .ok (.ifCond .gt off, 3)) (ht : (pc : Int) + off = (tgt : Int)) (hp : pc + 3 = pc') (k1 : 0 < x → Z Y T1 G h tgt lv rest) (k2 : ¬ (0 < x) → Z Y T2 G h pc' lv rest) : Z Y (if 0 < x then T1 else T2) G h pc lv (vI x :: rest) := by
  subst hp
  obtain ⟨p, e, s, m, args, below, meth, c, cells, slots, Q, D, cA, A, H0, hx', hb, hml, hown, hts, hK, hw, hA, hc, hs, rfl, hret⟩ := I
  intro r hT hG H locs ls hP hD hS hl hh
  refine lv_if_gt hx' hb d ht (fun q => ?_) (fun q => ?_)
  · have q' : 0 < x := (lt32 (inR_c rfl) hx).mp q
    rw [if_pos q'] at hT
    exact k1 q' r hT hG H locs ls hP hD hS hl hh
  · have q' : ¬ (0 < x) := fun z => q ((lt32 (inR_c rfl) hx).mpr z)
    rw [if_neg q'] at hT
    exact k2 q' r hT hG H locs ls hP hD hS hl hh
theorem z_icmp_le (I : Isy l τ ad cc nL own R ret K Y) (hx : inR x) (hy : inR y) (d : decode cc pc = .ok (.if_icmp .le off, 3)) (ht : (pc : Int) + off = (tgt : Int)) (hp : pc + 3 = pc') (k1 : x ≤ y → Z Y T1 G h tgt lv rest) (k2 : ¬ (x ≤ y) → Z Y T2 G h pc' lv rest) : Z Y (if x ≤ y then T1 else T2) G h pc lv (vI y :: vI x :: rest) := by
  subst hp
  obtain ⟨p, e, s, m, args, below, meth, c, cells, slots, Q, D, cA, A, H0, hx', hb, hml, hown, hts, hK, hw, hA, hc, hs, rfl, hret⟩ := I
  intro r hT hG H locs ls hP hD hS hl hh
  refine lv_icmp_le hx' hb d ht (fun q => ?_) (fun q => ?_)
  · have q' : x ≤ y := (le32 hx hy).mp q
    rw [if_pos q'] at hT
    exact k1 q' r hT hG H locs ls hP hD hS hl hh
  · have q' : ¬ (x ≤ y) := fun z => q ((le32 hx hy).mpr z)
    rw [if_neg q'] at hT
    exact k2 q' r hT hG H locs ls hP hD hS hl hh
theorem z_if_le (I : Isy l τ ad cc nL own R ret K Y) (hx : inR x) (d : decode cc pc = .ok (.ifCond .le off, 3)) (ht : (pc : Int) + off = (tgt : Int)) (hp : pc + 3 = pc') (k1 : x ≤ 0 → Z Y T1 G h tgt lv rest) (k2 : ¬ (x ≤ 0) → Z Y T2 G h pc' lv rest) : Z Y (if x ≤ 0 then T1 else T2) G h pc lv (vI x :: rest) := by
  subst hp
  obtain ⟨p, e, s, m, args, below, meth, c, cells, slots, Q, D, cA, A, H0, hx', hb, hml, hown, hts, hK, hw, hA, hc, hs, rfl, hret⟩ := I
  intro r hT hG H locs ls hP hD hS hl hh
  refine lv_if_le hx' hb d ht (fun q => ?_) (fun q => ?_)
  · have q' : x ≤ 0 := (le32 hx (inR_c rfl)).mp q
    rw [if_pos q'] at hT
    exact k1 q' r hT hG H locs ls hP hD hS hl hh
  · have q' : ¬ (x ≤ 0) := fun z => q ((le32 hx (inR_c rfl)).mpr z)
    rw [if_neg q'] at hT
    exact k2 q' r hT hG H locs ls hP hD hS hl hh
theorem z_ldc (I : Isy l τ ad cc nL own R ret K Y) {index : Nat} {v : Int32} (hm : Cond.constant own index v ∈ gd) (hv : v = Int32.ofInt x) (d : decode cc pc = .ok (.ldc index, 2)) (hp : pc + 2 = pc') (k : Z Y T G h pc' lv (vI x :: rest)) : Z Y T G h pc lv rest := by
  subst hp
  subst hv
  obtain ⟨p, e, s, m, args, below, meth, c, cells, slots, Q, D, cA, A, H0, hx', hb, hml, hown, hts, hK, hw, hA, hc, hs, rfl, hret⟩ := I
  intro r hT hG H locs ls hP hD hS hl hh
  exact lv_ldc hx' hb hown (hts _ hm) d (k r hT hG H locs ls hP hD hS hl hh)
theorem z_ldcw (I : Isy l τ ad cc nL own R ret K Y) {index : Nat} {v : Int32} (hm : Cond.constant own index v ∈ gd) (hv : v = Int32.ofInt x) (d : decode cc pc = .ok (.ldc_w index, 3)) (hp : pc + 3 = pc') (k : Z Y T G h pc' lv (vI x :: rest)) : Z Y T G h pc lv rest := by
  subst hp
  subst hv
  obtain ⟨p, e, s, m, args, below, meth, c, cells, slots, Q, D, cA, A, H0, hx', hb, hml, hown, hts, hK, hw, hA, hc, hs, rfl, hret⟩ := I
  intro r hT hG H locs ls hP hD hS hl hh
  exact lv_ldcw hx' hb hown (hts _ hm) d (k r hT hG H locs ls hP hD hS hl hh)
theorem z_ldc2 (I : Isy l τ ad cc nL own R ret K Y) {index : Nat} {v : Int64} (hm : Cond.constantLong own index v ∈ gd) (hv : v = Int64.ofInt x) (d : decode cc pc = .ok (.ldc2_w index, 3)) (hp : pc + 3 = pc') (k : Z Y T G h pc' lv (vL x :: rest)) : Z Y T G h pc lv rest := by
  subst hp
  subst hv
  obtain ⟨p, e, s, m, args, below, meth, c, cells, slots, Q, D, cA, A, H0, hx', hb, hml, hown, hts, hK, hw, hA, hc, hs, rfl, hret⟩ := I
  intro r hT hG H locs ls hP hD hS hl hh
  exact lv_ldc2 hx' hb hown (hts _ hm) d (k r hT hG H locs ls hP hD hS hl hh)
theorem z_tin (I : Isy l τ ad cc nL own R ret K Y) {dflt lo hi : Int} {offs : Array Int} {len : Nat} (hx : inR x) (d : decode cc pc = .ok (.tableswitch dflt lo hi offs, len)) (v : Int) (hv : lo ≤ v ∧ v ≤ hi) (ho : offs[(v - lo).toNat]? = some off) (ht : (pc : Int) + off = (tgt : Int)) (k1 : x = v → Z Y T1 G h tgt lv rest) (k2 : ¬ x = v → Z Y T2 G h pc lv (vI x :: rest)) : Z Y (if x = v then T1 else T2) G h pc lv (vI x :: rest) := by
  intro r hT hG
  by_cases q : x = v
  · rw [if_pos q] at hT
    have kk := k1 q r hT hG
    obtain ⟨p, e, s, m, args, below, meth, c, cells, slots, Q, D, cA, A, H0, hx', hb, hml, hown, hts, hK, hw, hA, hc, hs, rfl, hret⟩ := I
    intro H locs ls hP hD hS hl hh
    have e1 : (Int32.ofInt x).toInt = v := by rw [toI32 hx, q]
    exact lv_tableIn hx' hb d (by rw [e1]; omega) (by rw [e1]; omega) (by rw [e1]; exact ho) ht (kk H locs ls hP hD hS hl hh)
  · rw [if_neg q] at hT
    exact k2 q r hT hG
theorem z_tout (I : Isy l τ ad cc nL own R ret K Y) {dflt lo hi : Int} {offs : Array Int} {len : Nat} (hx : inR x) (d : decode cc pc = .ok (.tableswitch dflt lo hi offs, len)) (hq : x < lo ∨ hi < x) (ht : (pc : Int) + dflt = (tgt : Int)) (k : Z Y T G h tgt lv rest) : Z Y T G h pc lv (vI x :: rest) := by
  obtain ⟨p, e, s, m, args, below, meth, c, cells, slots, Q, D, cA, A, H0, hx', hb, hml, hown, hts, hK, hw, hA, hc, hs, rfl, hret⟩ := I
  intro r hT hG H locs ls hP hD hS hl hh
  exact lv_tableOut hx' hb d (by rw [toI32 hx]; exact hq) ht (k r hT hG H locs ls hP hD hS hl hh)
theorem z_look (I : Isy l τ ad cc nL own R ret K Y) {dflt : Int} {ps : Array (Int × Int)} {len : Nat} (hx : inR x) (d : decode cc pc = .ok (.lookupswitch dflt ps, len)) (hps : (ps.toList.zip (ps.toList.drop 1)).all (fun (a, next) => a.1 < next.1) = true) (ho : Op.lookupswitch.offset ps.toList dflt x = off) (ht : (pc : Int) + off = (tgt : Int)) (k : Z Y T G h tgt lv rest) : Z Y T G h pc lv (vI x :: rest) := by
  obtain ⟨p, e, s, m, args, below, meth, c, cells, slots, Q, D, cA, A, H0, hx', hb, hml, hown, hts, hK, hw, hA, hc, hs, rfl, hret⟩ := I
  intro r hT hG H locs ls hP hD hS hl hh
  exact lv_lookup hx' hb d hps (by rw [toI32 hx]; exact ho) ht (k r hT hG H locs ls hP hD hS hl hh)
/-- a number kept by a name: h, x below are as they were -/
theorem z_ret (I : Isy l τ ad cc nL own R ret K Y) {v : X} {w : Option Value} (hk : G v → K w h) (hv : rv ret w) (d : decode cc pc = .ok (retI ret, 1)) (hst : st = w.toList) : Z Y (some v) G h pc lv st := by
  obtain ⟨p, e, s, m, args, below, meth, c, cells, slots, Q, D, cA, A, H0, hx', hb, hml, hown, hts, hK, hw, hA, hc, hs, rfl, hret⟩ := I
  intro r hT hG
  cases hT
  subst hst
  exact hret h pc lv w (hk hG) hv d
/-- fields: the class by its number, the field by its place -/
def GF (own : String) (index ci k : Nat) : Prop := ∃ (C : String) (T : u_T) (N : Nat), CL[ci]? = some (C, T, N) ∧ (∀ w ∈ u_ws C T N, w ∈ gd) ∧ k < N ∧ Cond.fieldLink own index C (T k).2.1 (T k).2.2.1 ∈ gd ∧ (T k).1 = C
def PF (own : String) (index ci k : Nat) (ty : FieldType) : Prop := ∃ (C : String) (T : u_T) (N : Nat) (ty0 : Nat → FieldType), CL[ci]? = some (C, T, N) ∧ (∀ w ∈ u_ws C T N, w ∈ gd) ∧ k < N ∧ Cond.fieldLink own index C (T k).2.1 (T k).2.2.1 ∈ gd ∧ (T k).1 = C ∧
  (∀ k, k < N → parseFieldDescriptor (T k).2.2.1 = some (ty0 k)) ∧ (∀ a, a < N → ∀ b, b < N → a ≠ b → (T a).2.1 ≠ (T b).2.1) ∧ (T k).2.2.2 = false ∧ parseFieldDescriptor (T k).2.2.1 = some ty
theorem flds_get {ad : Nat → Nat} {h : HP} {k ci j : Nat} {t : Nat × Nat} (hf : (FT ci)[j]? = some t) : ((FT ci).mapIdx (fv ad h k))[j]? = some (fv ad h k j t) := by
  rw [List.getElem?_mapIdx, hf]
  rfl
theorem z_getV (I : Isy l τ ad cc nL own R ret K Y) {index ci j : Nat} {t : Nat × Nat} (g : GF own index ci j) (ho : ok τ (4, ci) o) (hf : (FT ci)[j]? = some t) (d : decode cc pc = .ok (.getfield index, 3)) (hp : pc + 3 = pc') (k : okv t.1 (h o j) → Z Y T G h pc' lv (fv ad h o.toNat j t :: rest)) : Z Y T G h pc lv (vR ad o :: rest) := by
  subst hp
  obtain ⟨p, e, s, m, args, below, meth, c, cells, slots, Q, D, cA, A, H0, hx', hb, hml, hown, hts, hK, hw, hA, hc, hs, rfl, hret⟩ := I
  intro r hT hG H locs ls hP hD hS hl hh
  obtain ⟨C, TT, N, h1, h2, h3, h4, h5⟩ := g
  have e0 : ((o.toNat : Nat) : Int) = o := Int.toNat_of_nonneg ho.1
  have hv : okv t.1 (h o j) := by
    have := hh _ _ ho.2 j t hf
    rwa [e0] at this
  refine va_get hx' hb hts h2 hown hK hP o.toNat (ws_get ho.2) h1 j h3 (hts _ h4) (fun x hx => by rw [h5] at hx; exact hx) (flds_get hf) d ?_
  exact k hv r hT hG H locs ls hP hD hS hl hh
theorem z_getI (I : Isy l τ ad cc nL own R ret K Y) {index ci j : Nat} {b : Nat} {jI : Int} (g : GF own index ci j) (ho : ok τ (4, ci) o) (hf : (FT ci)[j]? = some (0, b)) (hj : (j : Int) = jI) (d : decode cc pc = .ok (.getfield index, 3)) (hp : pc + 3 = pc') (k : inR (h o jI) → Z Y T G h pc' lv (vI (h o jI) :: rest)) : Z Y T G h pc lv (vR ad o :: rest) := by
  subst hj
  refine z_getV I g ho hf d hp (fun q => ?_)
  have e0 : ((o.toNat : Nat) : Int) = o := Int.toNat_of_nonneg ho.1
  show Z Y T G h pc' lv (vI (h ((o.toNat : Nat) : Int) j) :: rest)
  rw [e0]
  exact k q
theorem z_getB (I : Isy l τ ad cc nL own R ret K Y) {index ci j : Nat} {b : Nat} {jI : Int} (g : GF own index ci j) (ho : ok τ (4, ci) o) (hf : (FT ci)[j]? = some (2, b)) (hj : (j : Int) = jI) (d : decode cc pc = .ok (.getfield index, 3)) (hp : pc + 3 = pc') (k : b01 (h o jI) → Z Y T G h pc' lv (vI (h o jI) :: rest)) : Z Y T G h pc lv (vR ad o :: rest) := by
  subst hj
  refine z_getV I g ho hf d hp (fun q => ?_)
  have e0 : ((o.toNat : Nat) : Int) = o := Int.toNat_of_nonneg ho.1
  show Z Y T G h pc' lv (vI (h ((o.toNat : Nat) : Int) j) :: rest)
  rw [e0]
  exact k q
theorem z_getL (I : Isy l τ ad cc nL own R ret K Y) {index ci j : Nat} {b : Nat} {jI : Int} (g : GF own index ci j) (ho : ok τ (4, ci) o) (hf : (FT ci)[j]? = some (1, b)) (hj : (j : Int) = jI) (d : decode cc pc = .ok (.getfield index, 3)) (hp : pc + 3 = pc') (k : inL (h o jI) → Z Y T G h pc' lv (vL (h o jI) :: rest)) : Z Y T G h pc lv (vR ad o :: rest) := by
  subst hj
  refine z_getV I g ho hf d hp (fun q => ?_)
  have e0 : ((o.toNat : Nat) : Int) = o := Int.toNat_of_nonneg ho.1
  show Z Y T G h pc' lv (vL (h ((o.toNat : Nat) : Int) j) :: rest)
  rw [e0]
  exact k q
theorem z_getR (I : Isy l τ ad cc nL own R ret K Y) {index ci j : Nat} {b : Nat} {eI : Int} (g : GF own index ci j) (ho : ok τ (4, ci) o) (hf : (FT ci)[j]? = some (3, b)) (he : o + (b : Int) = eI) (d : decode cc pc = .ok (.getfield index, 3)) (hp : pc + 3 = pc') (k : Z Y T G h pc' lv (vR ad eI :: rest)) : Z Y T G h pc lv (vR ad o :: rest) := by
  subst he
  refine z_getV I g ho hf d hp (fun q => ?_)
  have h0 := ho.1
  have e0 : (o + (b : Int)).toNat = o.toNat + b := by omega
  show Z Y T G h pc' lv (.ref (ad (o.toNat + b)) :: rest)
  rw [← e0]
  exact k
theorem z_putV (I : Isy l τ ad cc nL own R ret K Y) {index ci j : Nat} {t : Nat × Nat} {ty : FieldType} {v : Value} (g : PF own index ci j ty) (ho : ok τ (4, ci) o) (hf : (FT ci)[j]? = some t) (hn : narrow ty v = v) (hfit : fits ty v = true) (hv : okv t.1 x) (he : fv ad (upd2 h o j x) o.toNat j t = v) (d : decode cc pc = .ok (.putfield index, 3)) (hp : pc + 3 = pc') (k : Z Y T G (upd2 h o j x) pc' lv rest) : Z Y T G h pc lv (v :: vR ad o :: rest) := by
  subst hp
  obtain ⟨p, e, s, m, args, below, meth, c, cells, slots, Q, D, cA, A, H0, hx', hb, hml, hown, hts, hK, hw, hA, hc, hs, rfl, hret⟩ := I
  intro r hT hG H locs ls hP hD hS hl hh
  obtain ⟨C, TT, N, ty0, h1, h2, h3, h4, h5, h6, h7, h8, h9⟩ := g
  have e0 : ((o.toNat : Nat) : Int) = o := Int.toNat_of_nonneg ho.1
  have hother : ∀ q : Nat, q ≠ o.toNat → ∀ i : Int, h q i = upd2 h o j x q i := fun q hq i => by
    have : ¬ ((q : Int) = o ∧ i = (j : Int)) := fun z => hq (by omega)
    show _ = if (q : Int) = o ∧ i = (j : Int) then x else h q i
    rw [if_neg this]
  have hset : (ws τ ad cA h).set o.toNat (ad o.toNat, .inr (ci, ((FT ci).mapIdx (fv ad h o.toNat)).set j v)) = ws τ ad cA (upd2 h o j x) := by
    refine ws_set ho.2 ?_ hother
    show (Sum.inr (ci, ((FT ci).mapIdx (fv ad h o.toNat)).set j v) : va_E) = Sum.inr (ci, (FT ci).mapIdx (fv ad (upd2 h o j x) o.toNat))
    refine congrArg (fun z => Sum.inr (ci, z)) ?_
    apply List.ext_getElem?
    intro i
    by_cases hi : i = j
    · subst hi
      have hl' : i < ((FT ci).mapIdx (fv ad h o.toNat)).length := by
        rw [List.length_mapIdx]
        exact (List.getElem?_eq_some_iff.mp hf).1
      rw [List.getElem?_set_self hl', flds_get hf, he]
    · rw [List.getElem?_set_ne (fun z => hi z.symm), List.getElem?_mapIdx, List.getElem?_mapIdx]
      cases (FT ci)[i]? with
      | none => rfl
      | some t' =>
        show some (fv ad h o.toNat i t') = some (fv ad (upd2 h o j x) o.toNat i t')
        have e1 : upd2 h o j x ((o.toNat : Nat) : Int) i = h ((o.toNat : Nat) : Int) i := by
          show (if ((o.toNat : Nat) : Int) = o ∧ (i : Int) = (j : Int) then x else _) = _
          rw [if_neg (fun z => hi (by omega))]
        unfold fv
        rw [e1]
  have hh' : hr τ (upd2 h o j x) := by
    refine hr_set hh ho.2 ?_ hother
    intro i t' ht'
    by_cases hi : i = j
    · subst hi
      cases hf.symm.trans ht'
      show okv t.1 (if ((o.toNat : Nat) : Int) = o ∧ (i : Int) = (i : Int) then x else _)
      rw [if_pos ⟨e0, rfl⟩]
      exact hv
    · show okv t'.1 (if ((o.toNat : Nat) : Int) = o ∧ (i : Int) = (j : Int) then x else _)
      rw [if_neg (fun z => hi (by omega))]
      exact hh _ _ ho.2 i t' ht'
  have hjl : j < ((FT ci).mapIdx (fv ad h o.toNat)).length := by
    rw [List.length_mapIdx]
    exact (List.getElem?_eq_some_iff.mp hf).1
  refine va_put hx' hb hts h2 ty0 h6 h7 hown hK hP hD hS o.toNat (ws_get ho.2) h1 j h3 (hts _ h4) (fun x hx => by rw [h5] at hx; exact hx) h8 h9 hn hfit hjl d (fun H1 locs1 hP1 hD1 hS1 => ?_)
  rw [hset] at hP1 hD1
  exact k r hT hG H1 locs1 ls hP1 hD1 hS1 hl hh'
theorem upd2_same (h : HP) {p q i j : Int} (x : Int) (h1 : p = q) (h2 : i = j) : upd2 h p i x q j = x := by
  unfold upd2
  rw [if_pos ⟨h1.symm, h2.symm⟩]
theorem z_putI (I : Isy l τ ad cc nL own R ret K Y) {index ci j : Nat} {b : Nat} {jI : Int} (g : PF own index ci j .int) (ho : ok τ (4, ci) o) (hf : (FT ci)[j]? = some (0, b)) (hj : (j : Int) = jI) (hx : inR x) (d : decode cc pc = .ok (.putfield index, 3)) (hp : pc + 3 = pc') (k : Z Y T G (upd2 h o jI x) pc' lv rest) : Z Y T G h pc lv (vI x :: vR ad o :: rest) := by
  subst hj
  refine z_putV I g ho hf rfl rfl hx ?_ d hp k
  show vI (upd2 h o j x ((o.toNat : Nat) : Int) j) = vI x
  rw [upd2_same h x (Int.toNat_of_nonneg ho.1).symm rfl]
theorem z_putL (I : Isy l τ ad cc nL own R ret K Y) {index ci j : Nat} {b : Nat} {jI : Int} (g : PF own index ci j .long) (ho : ok τ (4, ci) o) (hf : (FT ci)[j]? = some (1, b)) (hj : (j : Int) = jI) (hx : inL x) (d : decode cc pc = .ok (.putfield index, 3)) (hp : pc + 3 = pc') (k : Z Y T G (upd2 h o jI x) pc' lv rest) : Z Y T G h pc lv (vL x :: vR ad o :: rest) := by
  subst hj
  refine z_putV I g ho hf rfl rfl hx ?_ d hp k
  show vL (upd2 h o j x ((o.toNat : Nat) : Int) j) = vL x
  rw [upd2_same h x (Int.toNat_of_nonneg ho.1).symm rfl]
theorem z_putB (I : Isy l τ ad cc nL own R ret K Y) {index ci j : Nat} {b : Nat} {jI : Int} (g : PF own index ci j .boolean) (ho : ok τ (4, ci) o) (hf : (FT ci)[j]? = some (2, b)) (hj : (j : Int) = jI) (hx : b01 x) (d : decode cc pc = .ok (.putfield index, 3)) (hp : pc + 3 = pc') (k : Z Y T G (upd2 h o jI x) pc' lv rest) : Z Y T G h pc lv (vI x :: vR ad o :: rest) := by
  subst hj
  refine z_putV I g ho hf (by rcases hx with rfl | rfl <;> rfl) (by rcases hx with rfl | rfl <;> rfl) hx ?_ d hp k
  show vI (upd2 h o j x ((o.toNat : Nat) : Int) j) = vI x
  rw [upd2_same h x (Int.toNat_of_nonneg ho.1).symm rfl]
/-- arrays -/
theorem in_of {n : Nat} {nI : Int} (hn : (n : Int) = nI) (hi : inR i) (q : 0 ≤ i ∧ i < nI) : vp_in (Int32.ofInt i) n := vp_in_iff.mpr (by rw [toI32 hi]; omega)
theorem cl_of (hi : inR i) : (Int32.ofInt i).toNatClampNeg = i.toNat := by
  show (Int32.ofInt i).toInt.toNat = _
  rw [toI32 hi]
theorem z_iald (I : Isy l τ ad cc nL own R ret K Y) {n : Nat} {nI : Int} (ho : ok τ (0, n) a) (hi : inR i) (hn : (n : Int) = nI) (d : decode cc pc = .ok (.iaload, 1)) (hp : pc + 1 = pc') (k : (0 ≤ i ∧ i < nI) → inR (h a i) → Z Y T G h pc' lv (vI (h a i) :: rest)) : Z Y (if 0 ≤ i ∧ i < nI then T else none) G h pc lv (vI i :: vR ad a :: rest) := by
  subst hp
  obtain ⟨p, e, s, m, args, below, meth, c, cells, slots, Q, D, cA, A, H0, hx', hb, hml, hown, hts, hK, hw, hA, hc, hs, rfl, hret⟩ := I
  intro r hT hG H locs ls hP hD hS hl hh
  by_cases q : 0 ≤ i ∧ i < nI
  · rw [if_pos q] at hT
    have e0 : ((a.toNat : Nat) : Int) = a := Int.toNat_of_nonneg ho.1
    have e1 : ((i.toNat : Nat) : Int) = i := Int.toNat_of_nonneg q.1
    have hv : inR (h a i) := by
      have := hh _ _ ho.2 i.toNat (by omega)
      rwa [e0, e1] at this
    refine va_iald hx' hb hK hP a.toNat 0 (ws_get ho.2) rfl (in_of hn hi q) d ?_
    rw [cl_of hi, e0, e1]
    exact k q hv r hT hG H locs ls hP hD hS hl hh
  · rw [if_neg q] at hT
    cases hT
theorem z_lald (I : Isy l τ ad cc nL own R ret K Y) {n : Nat} {nI : Int} (ho : ok τ (1, n) a) (hi : inR i) (hn : (n : Int) = nI) (d : decode cc pc = .ok (.laload, 1)) (hp : pc + 1 = pc') (k : (0 ≤ i ∧ i < nI) → inL (h a i) → Z Y T G h pc' lv (vL (h a i) :: rest)) : Z Y (if 0 ≤ i ∧ i < nI then T else none) G h pc lv (vI i :: vR ad a :: rest) := by
  subst hp
  obtain ⟨p, e, s, m, args, below, meth, c, cells, slots, Q, D, cA, A, H0, hx', hb, hml, hown, hts, hK, hw, hA, hc, hs, rfl, hret⟩ := I
  intro r hT hG H locs ls hP hD hS hl hh
  by_cases q : 0 ≤ i ∧ i < nI
  · rw [if_pos q] at hT
    have e0 : ((a.toNat : Nat) : Int) = a := Int.toNat_of_nonneg ho.1
    have e1 : ((i.toNat : Nat) : Int) = i := Int.toNat_of_nonneg q.1
    have hv : inL (h a i) := by
      have := hh _ _ ho.2 i.toNat (by omega)
      rwa [e0, e1] at this
    refine va_lald hx' hb hK hP a.toNat 1 (ws_get ho.2) rfl (in_of hn hi q) d ?_
    rw [cl_of hi, e0, e1]
    exact k q hv r hT hG H locs ls hP hD hS hl hh
  · rw [if_neg q] at hT
    cases hT
theorem z_bald (I : Isy l τ ad cc nL own R ret K Y) {n : Nat} {nI : Int} (ho : ok τ (2, n) a) (hi : inR i) (hn : (n : Int) = nI) (d : decode cc pc = .ok (.baload, 1)) (hp : pc + 1 = pc') (k : (0 ≤ i ∧ i < nI) → b01 (h a i) → Z Y T G h pc' lv (vI (h a i) :: rest)) : Z Y (if 0 ≤ i ∧ i < nI then T else none) G h pc lv (vI i :: vR ad a :: rest) := by
  subst hp
  obtain ⟨p, e, s, m, args, below, meth, c, cells, slots, Q, D, cA, A, H0, hx', hb, hml, hown, hts, hK, hw, hA, hc, hs, rfl, hret⟩ := I
  intro r hT hG H locs ls hP hD hS hl hh
  by_cases q : 0 ≤ i ∧ i < nI
  · rw [if_pos q] at hT
    have e0 : ((a.toNat : Nat) : Int) = a := Int.toNat_of_nonneg ho.1
    have e1 : ((i.toNat : Nat) : Int) = i := Int.toNat_of_nonneg q.1
    have hv : b01 (h a i) := by
      have := hh _ _ ho.2 i.toNat (by omega)
      rwa [e0, e1] at this
    refine va_zald hx' hb hK hP a.toNat 2 (ws_get ho.2) rfl (in_of hn hi q) d ?_
    rw [cl_of hi, e0, e1]
    exact k q hv r hT hG H locs ls hP hD hS hl hh
  · rw [if_neg q] at hT
    cases hT
theorem z_iast (I : Isy l τ ad cc nL own R ret K Y) {n : Nat} {nI : Int} (ho : ok τ (0, n) a) (hi : inR i) (hx : inR x) (hn : (n : Int) = nI) (d : decode cc pc = .ok (.iastore, 1)) (hp : pc + 1 = pc') (k : (0 ≤ i ∧ i < nI) → Z Y T G (upd2 h a i x) pc' lv rest) : Z Y (if 0 ≤ i ∧ i < nI then T else none) G h pc lv (vI x :: vI i :: vR ad a :: rest) := by
  subst hp
  obtain ⟨p, e, s, m, args, below, meth, c, cells, slots, Q, D, cA, A, H0, hx', hb, hml, hown, hts, hK, hw, hA, hc, hs, rfl, hret⟩ := I
  intro r hT hG H locs ls hP hD hS hl hh
  by_cases q : 0 ≤ i ∧ i < nI
  · rw [if_pos q] at hT
    have e0 : ((a.toNat : Nat) : Int) = a := Int.toNat_of_nonneg ho.1
    have e1 : ((i.toNat : Nat) : Int) = i := Int.toNat_of_nonneg q.1
    have hother : ∀ z : Nat, z ≠ a.toNat → ∀ w : Int, h z w = upd2 h a i x z w := fun z hz w => by
      show _ = if (z : Int) = a ∧ w = i then x else h z w
      rw [if_neg (fun u => hz (by omega))]
    refine va_iast hx' hb hK hP hD hS a.toNat 0 (ws_get ho.2) rfl (in_of hn hi q) d (fun H1 locs1 hP1 hD1 hS1 => ?_)
    have hset : (ws τ ad cA h).set a.toNat (ad a.toNat, .inl (cA 0, n, .inl (upd (fun j : Nat => Int32.ofInt (h ((a.toNat : Nat) : Int) j)) (Int32.ofInt i).toNatClampNeg (Int32.ofInt x)))) = ws τ ad cA (upd2 h a i x) := by
      refine ws_set ho.2 ?_ hother
      show (Sum.inl (cA 0, n, .inl _) : va_E) = Sum.inl (cA 0, n, .inl (fun j : Nat => Int32.ofInt (upd2 h a i x ((a.toNat : Nat) : Int) j)))
      refine congrArg (fun z => (Sum.inl (cA 0, n, .inl z) : va_E)) (funext fun j => ?_)
      rw [cl_of hi]
      show (if j = i.toNat then _ else Int32.ofInt (h ((a.toNat : Nat) : Int) j)) = Int32.ofInt (if ((a.toNat : Nat) : Int) = a ∧ (j : Int) = i then x else h ((a.toNat : Nat) : Int) j)
      by_cases w : j = i.toNat
      · rw [if_pos w, if_pos ⟨e0, by omega⟩]
      · rw [if_neg w, if_neg (fun u => w (by omega))]
    rw [hset] at hP1 hD1
    have hh' : hr τ (upd2 h a i x) := by
      refine hr_set hh ho.2 ?_ hother
      intro j hj
      show inR (if ((a.toNat : Nat) : Int) = a ∧ (j : Int) = i then x else h ((a.toNat : Nat) : Int) j)
      by_cases w : (j : Int) = i
      · rw [if_pos ⟨e0, w⟩]
        exact hx
      · rw [if_neg (fun u => w u.2)]
        exact hh _ _ ho.2 j hj
    exact k q r hT hG H1 locs1 ls hP1 hD1 hS1 hl hh'
  · rw [if_neg q] at hT
    cases hT
theorem z_last (I : Isy l τ ad cc nL own R ret K Y) {n : Nat} {nI : Int} (ho : ok τ (1, n) a) (hi : inR i) (hx : inL x) (hn : (n : Int) = nI) (d : decode cc pc = .ok (.lastore, 1)) (hp : pc + 1 = pc') (k : (0 ≤ i ∧ i < nI) → Z Y T G (upd2 h a i x) pc' lv rest) : Z Y (if 0 ≤ i ∧ i < nI then T else none) G h pc lv (vL x :: vI i :: vR ad a :: rest) := by
  subst hp
  obtain ⟨p, e, s, m, args, below, meth, c, cells, slots, Q, D, cA, A, H0, hx', hb, hml, hown, hts, hK, hw, hA, hc, hs, rfl, hret⟩ := I
  intro r hT hG H locs ls hP hD hS hl hh
  by_cases q : 0 ≤ i ∧ i < nI
  · rw [if_pos q] at hT
    have e0 : ((a.toNat : Nat) : Int) = a := Int.toNat_of_nonneg ho.1
    have e1 : ((i.toNat : Nat) : Int) = i := Int.toNat_of_nonneg q.1
    have hother : ∀ z : Nat, z ≠ a.toNat → ∀ w : Int, h z w = upd2 h a i x z w := fun z hz w => by
      show _ = if (z : Int) = a ∧ w = i then x else h z w
      rw [if_neg (fun u => hz (by omega))]
    refine va_last hx' hb hK hP hD hS a.toNat 1 (ws_get ho.2) rfl (in_of hn hi q) d (fun H1 locs1 hP1 hD1 hS1 => ?_)
    have hset : (ws τ ad cA h).set a.toNat (ad a.toNat, .inl (cA 1, n, .inr (.inl (vp_updL (fun j : Nat => Int64.ofInt (h ((a.toNat : Nat) : Int) j)) (Int32.ofInt i).toNatClampNeg (Int64.ofInt x))))) = ws τ ad cA (upd2 h a i x) := by
      refine ws_set ho.2 ?_ hother
      show (Sum.inl (cA 1, n, .inr (.inl _)) : va_E) = Sum.inl (cA 1, n, .inr (.inl (fun j : Nat => Int64.ofInt (upd2 h a i x ((a.toNat : Nat) : Int) j))))
      refine congrArg (fun z => (Sum.inl (cA 1, n, .inr (.inl z)) : va_E)) (funext fun j => ?_)
      rw [cl_of hi]
      show (if j = i.toNat then _ else Int64.ofInt (h ((a.toNat : Nat) : Int) j)) = Int64.ofInt (if ((a.toNat : Nat) : Int) = a ∧ (j : Int) = i then x else h ((a.toNat : Nat) : Int) j)
      by_cases w : j = i.toNat
      · rw [if_pos w, if_pos ⟨e0, by omega⟩]
      · rw [if_neg w, if_neg (fun u => w (by omega))]
    rw [hset] at hP1 hD1
    have hh' : hr τ (upd2 h a i x) := by
      refine hr_set hh ho.2 ?_ hother
      intro j hj
      show inL (if ((a.toNat : Nat) : Int) = a ∧ (j : Int) = i then x else h ((a.toNat : Nat) : Int) j)
      by_cases w : (j : Int) = i
      · rw [if_pos ⟨e0, w⟩]
        exact hx
      · rw [if_neg (fun u => w u.2)]
        exact hh _ _ ho.2 j hj
    exact k q r hT hG H1 locs1 ls hP1 hD1 hS1 hl hh'
  · rw [if_neg q] at hT
    cases hT
theorem z_bast (I : Isy l τ ad cc nL own R ret K Y) {n : Nat} {nI : Int} (ho : ok τ (2, n) a) (hi : inR i) (hx : b01 x) (hn : (n : Int) = nI) (d : decode cc pc = .ok (.bastore, 1)) (hp : pc + 1 = pc') (k : (0 ≤ i ∧ i < nI) → Z Y T G (upd2 h a i x) pc' lv rest) : Z Y (if 0 ≤ i ∧ i < nI then T else none) G h pc lv (vI x :: vI i :: vR ad a :: rest) := by
  subst hp
  obtain ⟨p, e, s, m, args, below, meth, c, cells, slots, Q, D, cA, A, H0, hx', hb, hml, hown, hts, hK, hw, hA, hc, hs, rfl, hret⟩ := I
  intro r hT hG H locs ls hP hD hS hl hh
  by_cases q : 0 ≤ i ∧ i < nI
  · rw [if_pos q] at hT
    have e0 : ((a.toNat : Nat) : Int) = a := Int.toNat_of_nonneg ho.1
    have e1 : ((i.toNat : Nat) : Int) = i := Int.toNat_of_nonneg q.1
    have hother : ∀ z : Nat, z ≠ a.toNat → ∀ w : Int, h z w = upd2 h a i x z w := fun z hz w => by
      show _ = if (z : Int) = a ∧ w = i then x else h z w
      rw [if_neg (fun u => hz (by omega))]
    refine va_zast hx' hb hK hP hD hS a.toNat 2 (ws_get ho.2) rfl (in_of hn hi q) d (fun H1 locs1 hP1 hD1 hS1 => ?_)
    have hset : (ws τ ad cA h).set a.toNat (ad a.toNat, .inl (cA 2, n, .inl (upd (fun j : Nat => Int32.ofInt (h ((a.toNat : Nat) : Int) j)) (Int32.ofInt i).toNatClampNeg (vp_nar .boolean (Int32.ofInt x))))) = ws τ ad cA (upd2 h a i x) := by
      refine ws_set ho.2 ?_ hother
      show (Sum.inl (cA 2, n, .inl _) : va_E) = Sum.inl (cA 2, n, .inl (fun j : Nat => Int32.ofInt (upd2 h a i x ((a.toNat : Nat) : Int) j)))
      refine congrArg (fun z => (Sum.inl (cA 2, n, .inl z) : va_E)) (funext fun j => ?_)
      rw [cl_of hi]
      show (if j = i.toNat then _ else Int32.ofInt (h ((a.toNat : Nat) : Int) j)) = Int32.ofInt (if ((a.toNat : Nat) : Int) = a ∧ (j : Int) = i then x else h ((a.toNat : Nat) : Int) j)
      by_cases w : j = i.toNat
      · rw [if_pos w, if_pos ⟨e0, by omega⟩]
        rcases hx with rfl | rfl <;> rfl
      · rw [if_neg w, if_neg (fun u => w (by omega))]
    rw [hset] at hP1 hD1
    have hh' : hr τ (upd2 h a i x) := by
      refine hr_set hh ho.2 ?_ hother
      intro j hj
      show b01 (if ((a.toNat : Nat) : Int) = a ∧ (j : Int) = i then x else h ((a.toNat : Nat) : Int) j)
      by_cases w : (j : Int) = i
      · rw [if_pos ⟨e0, w⟩]
        exact hx
      · rw [if_neg (fun u => w u.2)]
        exact hh _ _ ho.2 j hj
    exact k q r hT hG H1 locs1 ls hP1 hD1 hS1 hl hh'
  · rw [if_neg q] at hT
    cases hT
theorem arrRT (D : va_G) (cA : Nat → ClassId) {s : State} (hK : va_K D CL (tysOf cA) s) (r : Nat) : ∃ ty : FieldType, ty.isReference = true ∧ ArrOfT s (cA (RTa r)) ty := by
  match r with
  | 0 => exact ⟨.array .int, rfl, (hK.2 3 _ rfl).1⟩
  | 1 => exact ⟨.array .int, rfl, (hK.2 3 _ rfl).1⟩
  | 2 => exact ⟨.object "CopyBench$Tape", rfl, (hK.2 4 _ rfl).1⟩
  | n + 3 => exact ⟨.array .long, rfl, (hK.2 5 _ rfl).1⟩
theorem z_aald (I : Isy l τ ad cc nL own R ret K Y) {r : Nat} (nI c0 s0 : Int) {eI : Int} (ho : ok τ (3, r) a) (hi : inR i) (hn : (RTn r : Int) = nI) (hc0 : (RTo r : Int) = c0) (hs0 : (RTs r : Int) = s0) (he : a + c0 + s0 * i = eI) (d : decode cc pc = .ok (.aaload, 1)) (hp : pc + 1 = pc') (k : (0 ≤ i ∧ i < nI) → Z Y T G h pc' lv (vR ad eI :: rest)) : Z Y (if 0 ≤ i ∧ i < nI then T else none) G h pc lv (vI i :: vR ad a :: rest) := by
  subst hp
  obtain ⟨p, e, s, m, args, below, meth, c, cells, slots, Q, D, cA, A, H0, hx', hb, hml, hown, hts, hK, hw, hA, hc, hs, rfl, hret⟩ := I
  intro rr hT hG H locs ls hP hD hS hl hh
  by_cases q : 0 ≤ i ∧ i < nI
  · rw [if_pos q] at hT
    obtain ⟨ty, hty, harr⟩ := arrRT D cA hK r
    have hin := in_of hn hi q
    have h0 := ho.1
    have hlt : i.toNat < RTn r := by omega
    have hcell : H[ad a.toNat]? = some (arrV (cA (RTa r)) (RTn r) (fun j => va_rf (some (ad (a.toNat + RTo r + RTs r * j))))) := hP a.toNat _ (ws_get ho.2)
    have e1 : ((RTs r * i.toNat : Nat) : Int) = s0 * i := by rw [Int.natCast_mul, hs0, Int.toNat_of_nonneg q.1]
    have e2 : eI.toNat = a.toNat + RTo r + RTs r * i.toNat := by omega
    refine W.aald (v := .ref (ad eI.toNat)) (ty := ty) hx' hb hcell (harr _ _) hty (fun z => by cases z) (by rw [arrV_size]; exact hin) ?_ rfl rfl d ?_
    · rw [cl_of hi, arrV_read _ _ hlt, e2]
      rfl
    · exact k q rr hT hG H locs ls hP hD hS hl hh
  · rw [if_neg q] at hT
    cases hT
theorem z_alen (I : Isy l τ ad cc nL own R ret K Y) {n : Nat} {nI : Int} (ho : ok τ (0, n) a) (hn : (n : Int) = nI) (d : decode cc pc = .ok (.arraylength, 1)) (hp : pc + 1 = pc') (k : Z Y T G h pc' lv (vI nI :: rest)) : Z Y T G h pc lv (vR ad a :: rest) := by
  subst hp
  obtain ⟨p, e, s, m, args, below, meth, c, cells, slots, Q, D, cA, A, H0, hx', hb, hml, hown, hts, hK, hw, hA, hc, hs, rfl, hret⟩ := I
  intro rr hT hG H locs ls hP hD hS hl hh
  exact va_alen (v := Int32.ofInt nI) hx' hb hK hP a.toNat 0 (ws_get ho.2) rfl (by rw [← hn]; rfl) d (k rr hT hG H locs ls hP hD hS hl hh)
theorem z_icpy (I : Isy l τ ad cc nL own R ret K Y) {index n0 n1 : Nat} {m0 m1 b sp dp n : Int} (ho : ok τ (0, n0) a) (ho1 : ok τ (0, n1) b) (hm0 : (n0 : Int) = m0) (hm1 : (n1 : Int) = m1) (hsp : inR sp) (hdp : inR dp) (hn : inR n) (hml0 : Cond.methodLink own index arraycopyName ∈ gd) (hfr : 1 ≤ R.frames) (hlo : (rest.map fun v => v.category).sum + (nativeFrameWords "java/lang/System" "arraycopy" 5 + 11) ≤ R.locals) (d : decode cc pc = .ok (.invokestatic index, 3)) (hp : pc + 3 = pc') (k : Z Y T G (blit h a sp b dp n) pc' lv rest) : Z Y (if 0 ≤ sp ∧ 0 ≤ dp ∧ 0 ≤ n ∧ sp + n ≤ m0 ∧ dp + n ≤ m1 then T else none) G h pc lv (vI n :: vI dp :: vR ad b :: vI sp :: vR ad a :: rest) := by
  subst hp
  obtain ⟨p, e, s, m, args, below, meth, c, cells, slots, Q, D, cA, A, H0, hx', hb, hml, hown, hts, hK, hw, hA, hc, hs, rfl, hret⟩ := I
  intro rr hT hG H locs ls hP hD hS hl hh
  by_cases q : 0 ≤ sp ∧ 0 ≤ dp ∧ 0 ≤ n ∧ sp + n ≤ m0 ∧ dp + n ≤ m1
  · rw [if_pos q] at hT
    have e0 : ((a.toNat : Nat) : Int) = a := Int.toNat_of_nonneg ho.1
    have e1 : ((b.toNat : Nat) : Int) = b := Int.toNat_of_nonneg ho1.1
    have nn : ∀ w : Int, inR w → 0 ≤ w → ¬ Int32.ofInt w < 0 := fun w hw h0 z => by
      have := (lt32 hw (inR_c (x := 0) rfl)).mp z
      omega
    have hother : ∀ z : Nat, z ≠ b.toNat → ∀ w : Int, h z w = blit h a sp b dp n z w := fun z hz w => by
      show _ = if (z : Int) = b ∧ dp ≤ w ∧ w < dp + n then _ else h z w
      rw [if_neg (fun u => hz (by omega))]
    refine va_copyi hx' hb (hml.trans hl.1.symm) hown (hts _ hml0) (hts _ jna_arraycopy) (hts _ jst_arraycopy) (hts _ ini_Jsystem) hK hP hD hS a.toNat b.toNat 0 0 (ws_get ho.2) (ws_get ho1.2) rfl rfl rfl (nn _ hsp q.1) (nn _ hdp q.2.1) (nn _ hn q.2.2.1) (by rw [cl_of hsp, cl_of hn]; omega) (by rw [cl_of hdp, cl_of hn]; omega) ?_ hfr hlo d (fun H1 locs1 hP1 hD1 hS1 => ?_)
    · intro j hj
      rfl
    · have hset : (ws τ ad cA h).set b.toNat (ad b.toNat, .inl (cA 0, n1, .inl (va_cpy (fun j : Nat => Int32.ofInt (h ((a.toNat : Nat) : Int) j)) (fun j : Nat => Int32.ofInt (h ((b.toNat : Nat) : Int) j)) (Int32.ofInt sp).toNatClampNeg (Int32.ofInt dp).toNatClampNeg (Int32.ofInt n).toNatClampNeg))) = ws τ ad cA (blit h a sp b dp n) := by
        refine ws_set ho1.2 ?_ hother
        show (Sum.inl (cA 0, n1, .inl _) : va_E) = Sum.inl (cA 0, n1, .inl (fun j : Nat => Int32.ofInt (blit h a sp b dp n ((b.toNat : Nat) : Int) j)))
        refine congrArg (fun z => (Sum.inl (cA 0, n1, .inl z) : va_E)) (funext fun j => ?_)
        rw [cl_of hsp, cl_of hdp, cl_of hn]
        show (if dp.toNat ≤ j ∧ j < dp.toNat + n.toNat then Int32.ofInt (h ((a.toNat : Nat) : Int) ((sp.toNat + (j - dp.toNat) : Nat) : Int)) else Int32.ofInt (h ((b.toNat : Nat) : Int) j)) = Int32.ofInt (if ((b.toNat : Nat) : Int) = b ∧ dp ≤ (j : Int) ∧ (j : Int) < dp + n then h a (sp + ((j : Int) - dp)) else h ((b.toNat : Nat) : Int) j)
        by_cases w : dp.toNat ≤ j ∧ j < dp.toNat + n.toNat
        · rw [if_pos w, if_pos ⟨e1, by omega, by omega⟩, e0, show ((sp.toNat + (j - dp.toNat) : Nat) : Int) = sp + ((j : Int) - dp) by omega]
        · rw [if_neg w, if_neg (fun u => w ⟨by omega, by omega⟩)]
      rw [hset] at hP1 hD1
      have hh' : hr τ (blit h a sp b dp n) := by
        refine hr_set hh ho1.2 ?_ hother
        intro j hj
        show inR (if ((b.toNat : Nat) : Int) = b ∧ dp ≤ (j : Int) ∧ (j : Int) < dp + n then h a (sp + ((j : Int) - dp)) else h ((b.toNat : Nat) : Int) j)
        by_cases w : dp ≤ (j : Int) ∧ (j : Int) < dp + n
        · rw [if_pos ⟨e1, w⟩]
          have := hh _ _ ho.2 (sp + ((j : Int) - dp)).toNat (by omega)
          rwa [e0, show (((sp + ((j : Int) - dp)).toNat : Nat) : Int) = sp + ((j : Int) - dp) by omega] at this
        · rw [if_neg (fun u => w u.2)]
          exact hh _ _ ho1.2 j hj
      exact k rr hT hG H1 locs1 ls hP1 hD1 hS1 hl hh'
  · rw [if_neg q] at hT
    cases hT
theorem z_bcpy (I : Isy l τ ad cc nL own R ret K Y) {index n0 n1 : Nat} {m0 m1 b sp dp n : Int} (ho : ok τ (2, n0) a) (ho1 : ok τ (2, n1) b) (hm0 : (n0 : Int) = m0) (hm1 : (n1 : Int) = m1) (hsp : inR sp) (hdp : inR dp) (hn : inR n) (hml0 : Cond.methodLink own index arraycopyName ∈ gd) (hfr : 1 ≤ R.frames) (hlo : (rest.map fun v => v.category).sum + (nativeFrameWords "java/lang/System" "arraycopy" 5 + 11) ≤ R.locals) (d : decode cc pc = .ok (.invokestatic index, 3)) (hp : pc + 3 = pc') (k : Z Y T G (blit h a sp b dp n) pc' lv rest) : Z Y (if 0 ≤ sp ∧ 0 ≤ dp ∧ 0 ≤ n ∧ sp + n ≤ m0 ∧ dp + n ≤ m1 then T else none) G h pc lv (vI n :: vI dp :: vR ad b :: vI sp :: vR ad a :: rest) := by
  subst hp
  obtain ⟨p, e, s, m, args, below, meth, c, cells, slots, Q, D, cA, A, H0, hx', hb, hml, hown, hts, hK, hw, hA, hc, hs, rfl, hret⟩ := I
  intro rr hT hG H locs ls hP hD hS hl hh
  by_cases q : 0 ≤ sp ∧ 0 ≤ dp ∧ 0 ≤ n ∧ sp + n ≤ m0 ∧ dp + n ≤ m1
  · rw [if_pos q] at hT
    have e0 : ((a.toNat : Nat) : Int) = a := Int.toNat_of_nonneg ho.1
    have e1 : ((b.toNat : Nat) : Int) = b := Int.toNat_of_nonneg ho1.1
    have nn : ∀ w : Int, inR w → 0 ≤ w → ¬ Int32.ofInt w < 0 := fun w hw h0 z => by
      have := (lt32 hw (inR_c (x := 0) rfl)).mp z
      omega
    have hother : ∀ z : Nat, z ≠ b.toNat → ∀ w : Int, h z w = blit h a sp b dp n z w := fun z hz w => by
      show _ = if (z : Int) = b ∧ dp ≤ w ∧ w < dp + n then _ else h z w
      rw [if_neg (fun u => hz (by omega))]
    refine va_copyi hx' hb (hml.trans hl.1.symm) hown (hts _ hml0) (hts _ jna_arraycopy) (hts _ jst_arraycopy) (hts _ ini_Jsystem) hK hP hD hS a.toNat b.toNat 2 2 (ws_get ho.2) (ws_get ho1.2) rfl rfl rfl (nn _ hsp q.1) (nn _ hdp q.2.1) (nn _ hn q.2.2.1) (by rw [cl_of hsp, cl_of hn]; omega) (by rw [cl_of hdp, cl_of hn]; omega) ?_ hfr hlo d (fun H1 locs1 hP1 hD1 hS1 => ?_)
    · intro j hj
      rw [cl_of hsp]
      have hq := hh _ _ ho.2 (sp.toNat + j) (by rw [cl_of hn] at hj; omega)
      rcases hq with hq | hq <;> (rw [hq]; rfl)
    · have hset : (ws τ ad cA h).set b.toNat (ad b.toNat, .inl (cA 2, n1, .inl (va_cpy (fun j : Nat => Int32.ofInt (h ((a.toNat : Nat) : Int) j)) (fun j : Nat => Int32.ofInt (h ((b.toNat : Nat) : Int) j)) (Int32.ofInt sp).toNatClampNeg (Int32.ofInt dp).toNatClampNeg (Int32.ofInt n).toNatClampNeg))) = ws τ ad cA (blit h a sp b dp n) := by
        refine ws_set ho1.2 ?_ hother
        show (Sum.inl (cA 2, n1, .inl _) : va_E) = Sum.inl (cA 2, n1, .inl (fun j : Nat => Int32.ofInt (blit h a sp b dp n ((b.toNat : Nat) : Int) j)))
        refine congrArg (fun z => (Sum.inl (cA 2, n1, .inl z) : va_E)) (funext fun j => ?_)
        rw [cl_of hsp, cl_of hdp, cl_of hn]
        show (if dp.toNat ≤ j ∧ j < dp.toNat + n.toNat then Int32.ofInt (h ((a.toNat : Nat) : Int) ((sp.toNat + (j - dp.toNat) : Nat) : Int)) else Int32.ofInt (h ((b.toNat : Nat) : Int) j)) = Int32.ofInt (if ((b.toNat : Nat) : Int) = b ∧ dp ≤ (j : Int) ∧ (j : Int) < dp + n then h a (sp + ((j : Int) - dp)) else h ((b.toNat : Nat) : Int) j)
        by_cases w : dp.toNat ≤ j ∧ j < dp.toNat + n.toNat
        · rw [if_pos w, if_pos ⟨e1, by omega, by omega⟩, e0, show ((sp.toNat + (j - dp.toNat) : Nat) : Int) = sp + ((j : Int) - dp) by omega]
        · rw [if_neg w, if_neg (fun u => w ⟨by omega, by omega⟩)]
      rw [hset] at hP1 hD1
      have hh' : hr τ (blit h a sp b dp n) := by
        refine hr_set hh ho1.2 ?_ hother
        intro j hj
        show b01 (if ((b.toNat : Nat) : Int) = b ∧ dp ≤ (j : Int) ∧ (j : Int) < dp + n then h a (sp + ((j : Int) - dp)) else h ((b.toNat : Nat) : Int) j)
        by_cases w : dp ≤ (j : Int) ∧ (j : Int) < dp + n
        · rw [if_pos ⟨e1, w⟩]
          have := hh _ _ ho.2 (sp + ((j : Int) - dp)).toNat (by omega)
          rwa [e0, show (((sp + ((j : Int) - dp)).toNat : Nat) : Int) = sp + ((j : Int) - dp) by omega] at this
        · rw [if_neg (fun u => w u.2)]
          exact hh _ _ ho1.2 j hj
      exact k rr hT hG H1 locs1 ls hP1 hD1 hS1 hl hh'
  · rw [if_neg q] at hT
    cases hT
theorem z_lcpy (I : Isy l τ ad cc nL own R ret K Y) {index n0 n1 : Nat} {m0 m1 b sp dp n : Int} (ho : ok τ (1, n0) a) (ho1 : ok τ (1, n1) b) (hm0 : (n0 : Int) = m0) (hm1 : (n1 : Int) = m1) (hsp : inR sp) (hdp : inR dp) (hn : inR n) (hml0 : Cond.methodLink own index arraycopyName ∈ gd) (hfr : 1 ≤ R.frames) (hlo : (rest.map fun v => v.category).sum + (nativeFrameWords "java/lang/System" "arraycopy" 5 + 11) ≤ R.locals) (d : decode cc pc = .ok (.invokestatic index, 3)) (hp : pc + 3 = pc') (k : Z Y T G (blit h a sp b dp n) pc' lv rest) : Z Y (if 0 ≤ sp ∧ 0 ≤ dp ∧ 0 ≤ n ∧ sp + n ≤ m0 ∧ dp + n ≤ m1 then T else none) G h pc lv (vI n :: vI dp :: vR ad b :: vI sp :: vR ad a :: rest) := by
  subst hp
  obtain ⟨p, e, s, m, args, below, meth, c, cells, slots, Q, D, cA, A, H0, hx', hb, hml, hown, hts, hK, hw, hA, hc, hs, rfl, hret⟩ := I
  intro rr hT hG H locs ls hP hD hS hl hh
  by_cases q : 0 ≤ sp ∧ 0 ≤ dp ∧ 0 ≤ n ∧ sp + n ≤ m0 ∧ dp + n ≤ m1
  · rw [if_pos q] at hT
    have e0 : ((a.toNat : Nat) : Int) = a := Int.toNat_of_nonneg ho.1
    have e1 : ((b.toNat : Nat) : Int) = b := Int.toNat_of_nonneg ho1.1
    have nn : ∀ w : Int, inR w → 0 ≤ w → ¬ Int32.ofInt w < 0 := fun w hw h0 z => by
      have := (lt32 hw (inR_c (x := 0) rfl)).mp z
      omega
    have hother : ∀ z : Nat, z ≠ b.toNat → ∀ w : Int, h z w = blit h a sp b dp n z w := fun z hz w => by
      show _ = if (z : Int) = b ∧ dp ≤ w ∧ w < dp + n then _ else h z w
      rw [if_neg (fun u => hz (by omega))]
    refine va_copyl hx' hb (hml.trans hl.1.symm) hown (hts _ hml0) (hts _ jna_arraycopy) (hts _ jst_arraycopy) (hts _ ini_Jsystem) hK hP hD hS a.toNat b.toNat 1 1 (ws_get ho.2) (ws_get ho1.2) rfl rfl rfl (nn _ hsp q.1) (nn _ hdp q.2.1) (nn _ hn q.2.2.1) (by rw [cl_of hsp, cl_of hn]; omega) (by rw [cl_of hdp, cl_of hn]; omega) ?_ hfr hlo d (fun H1 locs1 hP1 hD1 hS1 => ?_)
    · intro j hj
      rfl
    · have hset : (ws τ ad cA h).set b.toNat (ad b.toNat, .inl (cA 1, n1, .inr (.inl (va_cpy (fun j : Nat => Int64.ofInt (h ((a.toNat : Nat) : Int) j)) (fun j : Nat => Int64.ofInt (h ((b.toNat : Nat) : Int) j)) (Int32.ofInt sp).toNatClampNeg (Int32.ofInt dp).toNatClampNeg (Int32.ofInt n).toNatClampNeg)))) = ws τ ad cA (blit h a sp b dp n) := by
        refine ws_set ho1.2 ?_ hother
        show (Sum.inl (cA 1, n1, .inr (.inl _)) : va_E) = Sum.inl (cA 1, n1, .inr (.inl (fun j : Nat => Int64.ofInt (blit h a sp b dp n ((b.toNat : Nat) : Int) j))))
        refine congrArg (fun z => (Sum.inl (cA 1, n1, .inr (.inl z)) : va_E)) (funext fun j => ?_)
        rw [cl_of hsp, cl_of hdp, cl_of hn]
        show (if dp.toNat ≤ j ∧ j < dp.toNat + n.toNat then Int64.ofInt (h ((a.toNat : Nat) : Int) ((sp.toNat + (j - dp.toNat) : Nat) : Int)) else Int64.ofInt (h ((b.toNat : Nat) : Int) j)) = Int64.ofInt (if ((b.toNat : Nat) : Int) = b ∧ dp ≤ (j : Int) ∧ (j : Int) < dp + n then h a (sp + ((j : Int) - dp)) else h ((b.toNat : Nat) : Int) j)
        by_cases w : dp.toNat ≤ j ∧ j < dp.toNat + n.toNat
        · rw [if_pos w, if_pos ⟨e1, by omega, by omega⟩, e0, show ((sp.toNat + (j - dp.toNat) : Nat) : Int) = sp + ((j : Int) - dp) by omega]
        · rw [if_neg w, if_neg (fun u => w ⟨by omega, by omega⟩)]
      rw [hset] at hP1 hD1
      have hh' : hr τ (blit h a sp b dp n) := by
        refine hr_set hh ho1.2 ?_ hother
        intro j hj
        show inL (if ((b.toNat : Nat) : Int) = b ∧ dp ≤ (j : Int) ∧ (j : Int) < dp + n then h a (sp + ((j : Int) - dp)) else h ((b.toNat : Nat) : Int) j)
        by_cases w : dp ≤ (j : Int) ∧ (j : Int) < dp + n
        · rw [if_pos ⟨e1, w⟩]
          have := hh _ _ ho.2 (sp + ((j : Int) - dp)).toNat (by omega)
          rwa [e0, show (((sp + ((j : Int) - dp)).toNat : Nat) : Int) = sp + ((j : Int) - dp) by omega] at this
        · rw [if_neg (fun u => w u.2)]
          exact hh _ _ ho1.2 j hj
      exact k rr hT hG H1 locs1 ls hP1 hD1 hS1 hl hh'
  · rw [if_neg q] at hT
    cases hT
theorem z_mmax (I : Isy l τ ad cc nL own R ret K Y) {index : Nat} (hx : inR x) (hy : inR y) (hm : Cond.methodLink own index Lib.Math.max.name ∈ gd) (hfr : 1 ≤ R.frames) (hlo : (rest.map fun v => v.category).sum + 13 ≤ R.locals) (d : decode cc pc = .ok (.invokestatic index, 3)) (hp : pc + 3 = pc') (k : inR (if x < y then y else x) → Z Y T G h pc' lv (vI (if x < y then y else x) :: rest)) : Z Y T G h pc lv (vI y :: vI x :: rest) := by
  subst hp
  obtain ⟨p, e, s, m, args, below, meth, c, cells, slots, Q, D, cA, A, H0, hx', hb, hml, hown, hts, hK, hw, hA, hc, hs, rfl, hret⟩ := I
  intro rr hT hG H locs ls hP hD hS hl hh
  refine va_mmax hx' hb (hml.trans hl.1.symm) hown (hts _ hm) (hts _ jst_max) (hts _ ini_Jmath) (hts _ jco_max) hfr hlo hc hs d ?_
  have e1 : (if Int32.ofInt x < Int32.ofInt y then Int32.ofInt y else Int32.ofInt x : Int32) = Int32.ofInt (if x < y then y else x) := by
    by_cases q : x < y
    · rw [if_pos q, if_pos ((lt32 hx hy).mpr q)]
    · rw [if_neg q, if_neg (fun z => q ((lt32 hx hy).mp z))]
  rw [e1]
  exact k (by split <;> assumption) rr hT hG H locs ls hP hD hS hl hh
theorem z_mmin (I : Isy l τ ad cc nL own R ret K Y) {index : Nat} (hx : inR x) (hy : inR y) (hm : Cond.methodLink own index Lib.Math.min.name ∈ gd) (hfr : 1 ≤ R.frames) (hlo : (rest.map fun v => v.category).sum + 13 ≤ R.locals) (d : decode cc pc = .ok (.invokestatic index, 3)) (hp : pc + 3 = pc') (k : inR (if y < x then y else x) → Z Y T G h pc' lv (vI (if y < x then y else x) :: rest)) : Z Y T G h pc lv (vI y :: vI x :: rest) := by
  subst hp
  obtain ⟨p, e, s, m, args, below, meth, c, cells, slots, Q, D, cA, A, H0, hx', hb, hml, hown, hts, hK, hw, hA, hc, hs, rfl, hret⟩ := I
  intro rr hT hG H locs ls hP hD hS hl hh
  refine va_mmin hx' hb (hml.trans hl.1.symm) hown (hts _ hm) (hts _ jst_min) (hts _ ini_Jmath) (hts _ jco_min) hfr hlo hc hs d ?_
  have e1 : (if Int32.ofInt y < Int32.ofInt x then Int32.ofInt y else Int32.ofInt x : Int32) = Int32.ofInt (if y < x then y else x) := by
    by_cases q : y < x
    · rw [if_pos q, if_pos ((lt32 hy hx).mpr q)]
    · rw [if_neg q, if_neg (fun z => q ((lt32 hy hx).mp z))]
  rw [e1]
  exact k (by split <;> assumption) rr hT hG H locs ls hP hD hS hl hh
theorem z_mabs (I : Isy l τ ad cc nL own R ret K Y) {index : Nat} (hx : inR x) (hm : Cond.methodLink own index Lib.Math.abs.name ∈ gd) (hfr : 1 ≤ R.frames) (hlo : (rest.map fun v => v.category).sum + 13 ≤ R.locals) (d : decode cc pc = .ok (.invokestatic index, 3)) (hp : pc + 3 = pc') (k : Z Y T G h pc' lv (vI (if 0 ≤ x then x else w32 (-x)) :: rest)) : Z Y T G h pc lv (vI x :: rest) := by
  subst hp
  obtain ⟨p, e, s, m, args, below, meth, c, cells, slots, Q, D, cA, A, H0, hx', hb, hml, hown, hts, hK, hw, hA, hc, hs, rfl, hret⟩ := I
  intro rr hT hG H locs ls hP hD hS hl hh
  refine va_mabs hx' hb (hml.trans hl.1.symm) hown (hts _ hm) (hts _ jst_abs) (hts _ ini_Jmath) (hts _ jco_abs) hfr hlo hc hs d ?_
  have e1 : (if 0 ≤ Int32.ofInt x then Int32.ofInt x else 0 - Int32.ofInt x : Int32) = Int32.ofInt (if 0 ≤ x then x else w32 (-x)) := by
    have z0 : (0 : Int32) = Int32.ofInt 0 := rfl
    rw [z0]
    by_cases q : 0 ≤ x
    · rw [if_pos q, if_pos ((le32 (inR_c rfl) hx).mpr q)]
    · rw [if_neg q, if_neg (fun z => q ((le32 (inR_c rfl) hx).mp z)), ofI32, sub32, Int.zero_sub]
  rw [e1]
  exact k rr hT hG H locs ls hP hD hS hl hh
end RowsB
end
section
/-! contracts over the pure heap: from args and h the method answers v and leaves h' -/
def AD (τ : TP) (ad : Nat → Nat) : Nat → Prop := fun q => ∃ k : Nat, k < τ.length ∧ q = ad k
def QQ (D : va_G) (cA : Nat → ClassId) (τ : TP) (ad : Nat → Nat) (v : Option Value) (h' : HP) (φ : Prop) : Array Value → State → Outcome → State → Prop := fun _ st oc t =>
  (oc = .returned v ∧ va_P D CL (ws τ ad cA h') t.heap ∧ va_K D CL (tysOf cA) t ∧ hr τ h' ∧ φ) ∧ va_F (AD τ ad) st t
def rm0' (fr lo : Nat) : Room := { frames := fr, cells := 0, slots := 0, locals := lo }
def Ctr (l : Launch) (y : MethodName) (cc : ByteArray) (nL : Nat) (ret : Option FieldType) (fr lo : Nat) (τ : TP) (As : (Nat → Nat) → List Value) (h : HP) (v : Option Value) (h' : HP) (φ : Prop) : Prop :=
  ∀ (D : va_G) (cA : Nat → ClassId) (ad : Nat → Nat), Met l y (.code y cc nL ret :: gd) (rm0' fr lo) (va_Pc (As ad) (fun U => va_P D CL (ws τ ad cA h) U.heap ∧ va_K D CL (tysOf cA) U ∧ va_D (fun _ => True) (ws τ ad cA h))) (QQ D cA τ ad v h' φ) 0 0 (AD τ ad)
theorem wsD {τ : TP} {ad : Nat → Nat} {cA : Nat → ClassId} {h h' : HP} {A B : Nat → Prop} (hD : va_D A (ws τ ad cA h)) (hB : ∀ k : Nat, k < τ.length → B (ad k)) : va_D B (ws τ ad cA h') := by
  have tr : ∀ (k : Nat) (q : Nat × va_E), (ws τ ad cA h')[k]? = some q → ∃ q0 : Nat × va_E, (ws τ ad cA h)[k]? = some q0 ∧ q0.1 = q.1 ∧ q.1 = ad k ∧ k < τ.length := by
    intro k q hq
    unfold ws at hq ⊢
    rw [List.getElem?_mapIdx] at hq ⊢
    cases e : τ[k]? with
    | none => rw [e] at hq; cases hq
    | some kd =>
      rw [e] at hq
      cases hq
      exact ⟨_, rfl, rfl, rfl, (List.getElem?_eq_some_iff.mp e).1⟩
  refine ⟨fun i j p q hi hj e => ?_, fun k q hq => ?_⟩
  · obtain ⟨p0, a1, a2, -, -⟩ := tr i p hi
    obtain ⟨q0, b1, b2, -, -⟩ := tr j q hj
    exact hD.1 i j p0 q0 a1 b1 (by rw [a2, b2, e])
  · obtain ⟨q0, -, -, e, hl⟩ := tr k q hq
    rw [e]
    exact hB k hl
set_option maxHeartbeats 1000000 in
theorem ctr_of {l : Launch} {τ : TP} {y : MethodName} {cc : ByteArray} {nL : Nat} {ret : Option FieldType} {fr lo : Nat} {As : (Nat → Nat) → List Value} {h h' : HP} {v : Option Value} {φ : Prop} (hpl : plainName y.cls = true) (hw : wf τ) (hh : hr τ h) (hlen : ∀ ad, (lg_sl (As ad)).length ≤ nL)
    (body : ∀ (ad : Nat → Nat) (K : Option Value → HP → Prop) (Y : HP → Nat → List (Nat × Value) → List Value → Prop), Isy l τ ad cc nL y.cls (rm0' fr lo) ret K Y → (φ → K v h') → Y h 0 (lv_args 0 (As ad)) []) : Ctr l y cc nL ret fr lo τ As h v h' φ := by
  intro D cA ad
  refine Met.ofW (cc := cc) (maxL := nL) (ret := ret) hpl rfl ?_
  intro p e s m args below meth c s₁ B hml hv
  obtain ⟨rfl, hP, hK, hD⟩ := hv
  have hts0 := atoms_spec (ws := .code y cc nL ret :: gd) B.pre
  have hts : ∀ w ∈ gd, w.before ((As ad).toArray) s = true := fun w hw => hts0 w (List.mem_cons_of_mem _ hw)
  have hown : s.vm.findClass y.cls = some m.cls := findClass_of_methodNamed B.named
  have hlocks := B.notSynchronized
  have hA : ∀ k : Nat, k < τ.length → AD τ ad (ad k) := fun k hk => ⟨k, hk, rfl⟩
  have hQ : ∀ (H : Heap) (locs : List Loc), va_P D CL (ws τ ad cA h') H → va_S (AD τ ad) s.heap H locs → hr τ h' → φ → ∀ t : State, t.heap = H → s.WarmedH t.vm → QQ D cA τ ad v h' φ ((As ad).toArray) s (.returned v) t := by
    intro H locs hP' hS' hh' hφ t ht hW
    exact ⟨⟨rfl, by rw [ht]; exact hP', va_K.moved hW.alike hK, hh', hφ⟩, hS'.F ht⟩
  have I : Isy l τ ad cc nL y.cls (rm0' fr lo) ret (fun v' h'' => v' = v ∧ h'' = h' ∧ φ) (fun h pc lv st => ∀ (H : Heap) (locs : List Loc) (ls : Array Slot), va_P D CL (ws τ ad cA h) H → va_D (AD τ ad) (ws τ ad cA h) → va_S (AD τ ad) s.heap H locs → lv_has ls nL lv → hr τ h → W p l e (rm0' fr lo) s m ((As ad).toArray) below meth c H locs 0 0 (MQ below (QQ D cA τ ad v h' φ) ((As ad).toArray) s 0 0 (AD τ ad)) (F0 m pc ls st)) := by
    refine ⟨p, e, s, m, (As ad).toArray, below, meth, c, 0, 0, _, D, cA, AD τ ad, s.heap, B.exec, B.bytes, hml, hown, hts, hK, hw, hA, Nat.le_refl _, Nat.le_refl _, rfl, ?_⟩
    rintro h2 pc lv v2 ⟨rfl, rfl, hφ⟩ hrv hd H locs ls hP2 hD2 hS2 hl2 hh2
    have hq := hQ H locs hP2 hS2 hh2 hφ
    have hr := B.returns
    cases ret with
    | none =>
      cases hrv
      exact W.vret B.exec B.bytes hr hq hS2.2.2 hd
    | some ty =>
      cases ty with
      | int =>
        obtain ⟨x, rfl⟩ := hrv
        exact W.iret B.exec B.bytes hr hq hS2.2.2 hd
      | boolean =>
        obtain ⟨x, hx, rfl⟩ := hrv
        exact W.zret (ty := .boolean) B.exec B.bytes hr (by rcases hx with rfl | rfl <;> rfl) hq hS2.2.2 hd
      | long =>
        obtain ⟨x, rfl⟩ := hrv
        exact W.lret B.exec B.bytes hr hq hS2.2.2 hd
      | _ => exact hrv.elim
  have K := body ad _ _ I (fun q => ⟨rfl, rfl, q⟩)
  have hl := lv_entry (As ad) (n := nL) (hlen ad)
  rw [lg_entry_eq]
  exact K s.heap [] _ hP (wsD hD hA) va_S.rf hl hh
section Calls5
variable {l : Launch} {τ : TP} {ad : Nat → Nat} {cc : ByteArray} {nL : Nat} {own : String} {R : Room} {ret : Option FieldType} {K : Option Value → HP → Prop} {Y : HP → Nat → List (Nat × Value) → List Value → Prop}
variable {X : Type} {T : Option X} {G : X → Prop} {h h2 : HP} {pc pc' : Nat} {lv : List (Nat × Value)} {st rest : List Value} {o : Int}
theorem Y_run {p : Program} {e : Env} {s : State} {m : MethodId} {args : Array Value} {below : List Frame} {meth : Method} {c : Code} {H : Heap} {locs : List Loc} {cells slots : Nat} {Q : State → Prop} {D : va_G} {cA : Nat → ClassId} {A : Nat → Prop} {H0 : Heap} {ls : Array Slot} {a : Array Value} {v : Option Value} {φ : Prop}
    (hr : va_Run p l e R s m args below meth c H locs cells slots 0 0 (F0 m pc ls st) rest (QQ D cA τ ad v h2 φ a) (AD τ ad)) (hD : va_D A (ws τ ad cA h)) (hS : va_S A H0 H locs) (hA : ∀ k : Nat, k < τ.length → A (ad k))
    (k : ∀ (H1 : Heap) (locs1 : List Loc), va_P D CL (ws τ ad cA h2) H1 → va_D A (ws τ ad cA h2) → va_S A H0 H1 locs1 → Jvm.Pilot.@@N@@.hr τ h2 → φ → W p l e R s m args below meth c H1 locs1 cells slots Q (F0 m (pc + 3) ls (v.toList ++ rest))) : W p l e R s m args below meth c H locs cells slots Q (F0 m pc ls st) := by
  intro T hT X
  obtain ⟨v', st₀, t, T', L, h0, X', hL, e1, e2, ⟨⟨hv, hP1, hK1, hh1, hφ⟩, hz, hk⟩, stp⟩ := hr T hT X
  cases hv
  rw [h0] at hz hk
  have hAA : ∀ q, AD τ ad q → A q := by
    rintro q ⟨k, hk, rfl⟩
    exact hA k hk
  obtain ⟨t2, a1, b1⟩ := k T'.heap (locs ++ L) (by rw [e1]; exact hP1) (wsD hD hA)
    ⟨Nat.le_trans hS.1 (by rw [e1]; exact hz), fun q h1 h2 => by rw [e1, hk q (Nat.lt_of_lt_of_le h1 hS.1) (fun z => h2 (hAA q z))]; exact hS.2.1 q h1 h2, fun q hq => by
      rcases List.mem_append.mp hq with h | h
      · exact hS.2.2 q h
      · exact hAA _ (hL q h)⟩ hh1 hφ T' rfl X'
  exact ⟨t2, stp t2 a1, b1⟩
theorem blind5 {D : va_G} {cA : Nat → ClassId} {av : List Value} : FrameBlind (va_Pc av (fun U => va_P D CL (ws τ ad cA h) U.heap ∧ va_K D CL (tysOf cA) U ∧ va_D (fun _ => True) (ws τ ad cA h))) := by
  intro a U g mk q
  obtain ⟨q0, qP, qK, qD⟩ := q
  exact ⟨q0, qP, va_K.moved (u := U) (U := U.calling g mk a) (Vm.Alike.refl U.vm) qK, qD⟩
/-- what the tables say of a method that is called -/
def MV (y : MethodName) (cc : ByteArray) (nL : Nat) (ret : Option FieldType) (n : Nat) (ci : Nat) : Prop := Cond.code y cc nL ret ∈ gd ∧ Cond.instanceMethod y ∈ gd ∧ Cond.selects y.cls y y ∈ gd ∧ Cond.initialized y.cls ∈ gd ∧ (y.cls ≠ "java/lang/invoke/MethodHandle" ∧ y.cls ≠ "java/lang/invoke/VarHandle" ∧ (parseMethodDescriptor y.desc).map (fun d => d.parameters.length) = some n) ∧ (CL[ci]?).map (fun q => q.1) = some y.cls
def MS (y : MethodName) (cc : ByteArray) (nL : Nat) (ret : Option FieldType) (n : Nat) : Prop := Cond.code y cc nL ret ∈ gd ∧ Cond.static y ∈ gd ∧ Cond.initialized y.cls ∈ gd ∧ (y.cls ≠ "java/lang/invoke/MethodHandle" ∧ y.cls ≠ "java/lang/invoke/VarHandle" ∧ (parseMethodDescriptor y.desc).map (fun d => d.parameters.length) = some n)
theorem good5 {y : MethodName} {cc : ByteArray} {nL : Nat} {ret : Option FieldType} (h : Cond.code y cc nL ret ∈ gd) : GoodIn gd (.code y cc nL ret :: gd) := gd_good (fun w hw => by
  rcases List.mem_cons.mp hw with rfl | hw
  · exact h
  · exact hw)
theorem z_callV (I : Isy l τ ad cc nL own R ret K Y) {y : MethodName} {cc' : ByteArray} {nL' : Nat} {ret' : Option FieldType} {fr lo n index ci : Nat} {v : Option Value} {φ : Prop} (mv : MV y cc' nL' ret' n ci) (hml : Cond.methodLink own index y ∈ gd) (As : (Nat → Nat) → List Value) (hR : fr + 1 ≤ R.frames ∧ 8 + (nL' + 11) + lo ≤ R.locals) (ho : ok τ (4, ci) o)
    (hc : hr τ h → Ctr l y cc' nL' ret' fr lo τ (fun ad => vR ad o :: As ad) h v h2 φ) (hn : (As ad).length = n) (hst : st = (As ad).reverse ++ vR ad o :: rest) (hcat : (rest.map fun v => v.category).sum ≤ 8) (d : decode cc pc = .ok (.invokevirtual index, 3)) (hp : pc + 3 = pc')
    (k : φ → Z Y T G h2 pc' lv (v.toList ++ rest)) : Z Y T G h pc lv st := by
  subst hp
  obtain ⟨p, e, s, m, args, below, meth, c, cells, slots, Q, D, cA, A, H0, hx, hb, hml', hown, hts, hK, hw, hA, hcl, hsl, rfl, hret⟩ := I
  intro x hT hG H locs ls hP hD hS hl hh
  obtain ⟨m1, m2, m3, m4, m5, m6⟩ := mv
  have cb := callB_of (own := own) (index := index) (Ts := gd) (ws' := gd) (y := y) (bytes := cc') (maxL := nL') (ret := ret') (rm := rm0' fr lo) (mc := 0) (ms := 0) (R := R) (args := args) (s := s) n hts (good5 m1) rfl rfl rfl (hts _ m4) (hts _ hml) m5 hR
  obtain ⟨q6, hq6, e6⟩ : ∃ q : vw_C, CL[ci]? = some q ∧ q.1 = y.cls := by
    cases e : CL[ci]? with
    | none => rw [e] at m6; cases m6
    | some q => rw [e] at m6; exact ⟨q, rfl, Option.some.inj m6⟩
  have hrecv := va_recv hK hP hq6 (ws_get ho.2)
  rw [e6] at hrecv
  have hrun := va_runV (locs := locs) (cells := cells) (slots := slots) (below := below) (meth := meth) (l := l) (e := e) (H := H) (g := F0 m pc ls st) (As := As ad) (rest := rest) (b := ad o.toNat) ⟨hx, hb, hml', hown, hts⟩ (hc hh D cA ad) ⟨cb, hts _ m2, hts _ m3⟩
    ⟨blind5, hrecv, fun U hU hW => ⟨rfl, by rw [hU]; exact hP, va_K.moved hW.alike hK, hD.weaken (fun _ _ _ _ => trivial)⟩⟩ rfl hn (hl.1.trans rfl) hst (lv_room hcat) d ⟨by show cells + 0 ≤ _; exact hcl, by show slots + 0 ≤ _; exact hsl⟩
  exact Y_run hrun hD hS hA (fun H1 locs1 hP1 hD1 hS1 hh1 hφ => k hφ x hT hG H1 locs1 ls hP1 hD1 hS1 hl hh1)
theorem z_callS (I : Isy l τ ad cc nL own R ret K Y) {y : MethodName} {cc' : ByteArray} {nL' : Nat} {ret' : Option FieldType} {fr lo n index : Nat} {v : Option Value} {φ : Prop} (mv : MS y cc' nL' ret' n) (hml : Cond.methodLink own index y ∈ gd) (As : (Nat → Nat) → List Value) (hR : fr + 1 ≤ R.frames ∧ 8 + (nL' + 11) + lo ≤ R.locals)
    (hc : hr τ h → Ctr l y cc' nL' ret' fr lo τ As h v h2 φ) (hn : (As ad).length = n) (hst : st = (As ad).reverse ++ rest) (hcat : (rest.map fun v => v.category).sum ≤ 8) (d : decode cc pc = .ok (.invokestatic index, 3)) (hp : pc + 3 = pc')
    (k : φ → Z Y T G h2 pc' lv (v.toList ++ rest)) : Z Y T G h pc lv st := by
  subst hp
  obtain ⟨p, e, s, m, args, below, meth, c, cells, slots, Q, D, cA, A, H0, hx, hb, hml', hown, hts, hK, hw, hA, hcl, hsl, rfl, hret⟩ := I
  intro x hT hG H locs ls hP hD hS hl hh
  obtain ⟨m1, m2, m4, m5⟩ := mv
  have cb := callB_of (own := own) (index := index) (Ts := gd) (ws' := gd) (y := y) (bytes := cc') (maxL := nL') (ret := ret') (rm := rm0' fr lo) (mc := 0) (ms := 0) (R := R) (args := args) (s := s) n hts (good5 m1) rfl rfl rfl (hts _ m4) (hts _ hml) m5 hR
  have hrun := va_runS (locs := locs) (cells := cells) (slots := slots) (below := below) (meth := meth) (l := l) (e := e) (H := H) (g := F0 m pc ls st) (As := As ad) (rest := rest) ⟨hx, hb, hml', hown, hts⟩ (hc hh D cA ad) ⟨cb, hts _ m2⟩
    ⟨blind5, fun U hU hW => ⟨rfl, by rw [hU]; exact hP, va_K.moved hW.alike hK, hD.weaken (fun _ _ _ _ => trivial)⟩⟩ rfl hn (hl.1.trans rfl) hst (lv_room hcat) d ⟨by show cells + 0 ≤ _; exact hcl, by show slots + 0 ≤ _; exact hsl⟩
  exact Y_run hrun hD hS hA (fun H1 locs1 hP1 hD1 hS1 hh1 hφ => k hφ x hT hG H1 locs1 ls hP1 hD1 hS1 hl hh1)
/-- the trees' words -/
def b1 {A X : Type} (F : Option A) (k : A → Option X) : Option X := match F with
  | none => none
  | some a => k a
def b2 {A B X : Type} (F : Option (A × B)) (k : A → B → Option X) : Option X := match F with
  | none => none
  | some (a, b) => k a b
theorem z_b1 {A : Type} {F : Option A} {k : A → Option X} (q : ∀ a, F = some a → Z Y (k a) G h pc lv st) : Z Y (b1 F k) G h pc lv st := by
  intro x hT hG
  cases hF : F with
  | none => rw [hF] at hT; cases hT
  | some a => rw [hF] at hT; exact q a hF x hT hG
theorem z_b2 {A B : Type} {F : Option (A × B)} {k : A → B → Option X} (q : ∀ a b, F = some (a, b) → Z Y (k a b) G h pc lv st) : Z Y (b2 F k) G h pc lv st := by
  intro x hT hG
  cases hF : F with
  | none => rw [hF] at hT; cases hT
  | some ab => obtain ⟨a, b⟩ := ab; rw [hF] at hT; exact q a b hF x hT hG
def loopO {S X : Type} (f : S → Option (S ⊕ X)) : Nat → S → Option X
  | 0, _ => none
  | n + 1, s => match f s with
    | none => none
    | some (.inl s') => loopO f n s'
    | some (.inr x) => some x
def FUEL : Nat := 1000000
theorem z_loop {S : Type} {f : S → Option (S ⊕ X)} {hO : S → HP} {lO : S → List (Nat × Value)} {Φ : S → Prop}
    (body : ∀ (G' : S ⊕ X → Prop), (∀ s', G' (.inl s') → Φ s' → Y (hO s') pc (lO s') []) → (∀ x, G' (.inr x) → G x) → ∀ s, Φ s → Z Y (f s) G' (hO s) pc (lO s) []) (n : Nat) : ∀ s, Φ s → Z Y (loopO f n s) G (hO s) pc (lO s) [] := by
  induction n with
  | zero => intro s _ x hT; cases hT
  | succ n ih =>
    intro s hs x hT hG
    have hT' := hT
    rw [loopO] at hT'
    cases hf : f s with
    | none => rw [hf] at hT'; cases hT'
    | some u =>
      rw [hf] at hT'
      refine body (fun w => match w with
        | .inl s' => loopO f n s' = some x
        | .inr y => y = x) (fun s' h1 h2 => ih s' h2 x h1 hG) (fun y hy => by
          have : y = x := hy
          rw [this]
          exact hG) s hs u hf ?_
      cases u with
      | inl s' => exact hT'
      | inr y => exact Option.some.inj hT'
theorem z_in {S : Type} {G' : S ⊕ X → Prop} {hO : S → HP} {lO : S → List (Nat × Value)} {Φ : S → Prop} {s : S} (hin : ∀ s', G' (.inl s') → Φ s' → Y (hO s') pc (lO s') []) (hs : Φ s) (e1 : hO s = h) (e2 : lO s = lv) : Z Y (some (.inl s)) G' h pc lv [] := by
  intro x hT hG
  cases hT
  subst e1
  subst e2
  exact hin s hG hs
theorem z_map {A : Type} {G' : A → Prop} {g : A → X} (T : Option A) (h0 : ∀ x, G (g x) → G' x) (k : Z Y T G' h pc lv st) : Z Y (b1 T (fun x => some (g x))) G h pc lv st := by
  intro x hT hG
  cases hF : T with
  | none => rw [hF] at hT; cases hT
  | some a =>
    rw [hF] at hT
    have e : g a = x := Option.some.inj hT
    exact k a hF (h0 a (by rw [e]; exact hG))
theorem z_let {A : Type} {a : A} {k : A → Option X} (q : ∀ b, b = a → Z Y (k b) G h pc lv st) : Z Y (k a) G h pc lv st := q a rfl
end Calls5
end
section
/-- a number by a name -/
def bv {A X : Type} (a : A) (k : A → Option X) : Option X := k a
section Aux6
variable {τ : TP} {ad : Nat → Nat} {Y : HP → Nat → List (Nat × Value) → List Value → Prop} {X : Type} {T T1 T2 : Option X} {G : X → Prop} {h : HP} {pc : Nat} {lv : List (Nat × Value)} {st rest : List Value}
theorem z_g {c : Prop} [Decidable c] (hc : c) (k : Z Y (if c then T else none) G h pc lv st) : Z Y T G h pc lv st := by
  rwa [if_pos hc] at k
theorem z_ite {c : Prop} [Decidable c] (k1 : c → Z Y T1 G h pc lv st) (k2 : ¬ c → Z Y T2 G h pc lv st) : Z Y (if c then T1 else T2) G h pc lv st := by
  by_cases q : c
  · rw [if_pos q]
    exact k1 q
  · rw [if_neg q]
    exact k2 q
theorem z_bI {e : Int} {k : Int → Option X} (f : inR e) (q : ∀ x, x = e → inR x → Z Y (k x) G h pc lv (vI x :: rest)) : Z Y (bv e k) G h pc lv (vI e :: rest) := q e rfl f
theorem z_bZ {e : Int} {k : Int → Option X} (f : b01 e) (q : ∀ x, x = e → b01 x → Z Y (k x) G h pc lv (vI x :: rest)) : Z Y (bv e k) G h pc lv (vI e :: rest) := q e rfl f
theorem z_bL {e : Int} {k : Int → Option X} (f : inL e) (q : ∀ x, x = e → inL x → Z Y (k x) G h pc lv (vL x :: rest)) : Z Y (bv e k) G h pc lv (vL e :: rest) := q e rfl f
theorem z_bR {e : Int} {kd : Nat × Nat} {k : Int → Option X} (f : ok τ kd e) (q : ∀ x, x = e → ok τ kd x → Z Y (k x) G h pc lv (vR ad x :: rest)) : Z Y (bv e k) G h pc lv (vR ad e :: rest) := q e rfl f
theorem z_bH {k : HP → Option X} (q : ∀ x, x = h → Z Y (k x) G x pc lv st) : Z Y (bv h k) G h pc lv st := q h rfl
theorem z_end {w : X} (q : G w → Y h pc lv st) : Z Y (some w) G h pc lv st := by
  intro x hT hG
  cases hT
  exact q hG
theorem r_iAnd (x y : Int) : inR (iAnd x y) := inR_of _
theorem r_iOr (x y : Int) : inR (iOr x y) := inR_of _
theorem r_iXor (x y : Int) : inR (iXor x y) := inR_of _
theorem r_iShl (x y : Int) : inR (iShl x y) := inR_of _
theorem r_iShr (x y : Int) : inR (iShr x y) := inR_of _
theorem r_iUshr (x y : Int) : inR (iUshr x y) := inR_of _
theorem r_iDiv (x y : Int) : inR (iDiv x y) := inR_of _
theorem r_iRem (x y : Int) : inR (iRem x y) := inR_of _
theorem r_l2i (x : Int) : inR (l2i x) := inR_of _
theorem r_i2b (x : Int) : inR (i2b x) := inR_of _
theorem r_i2s (x : Int) : inR (i2s x) := inR_of _
theorem r_lAnd (x y : Int) : inL (lAnd x y) := inL_of _
theorem r_lOr (x y : Int) : inL (lOr x y) := inL_of _
theorem r_lShl (x y : Int) : inL (lShl x y) := inL_of _
theorem r_lDiv (x y : Int) : inL (lDiv x y) := inL_of _
theorem r_lRem (x y : Int) : inL (lRem x y) := inL_of _
theorem b_iAnd {x y : Int} (hx : b01 x) (hy : b01 y) : b01 (iAnd x y) := by
  rcases hx with rfl | rfl <;> rcases hy with rfl | rfl <;> (unfold b01; decide +kernel)
theorem b_iOr {x y : Int} (hx : b01 x) (hy : b01 y) : b01 (iOr x y) := by
  rcases hx with rfl | rfl <;> rcases hy with rfl | rfl <;> (unfold b01; decide +kernel)
theorem b_iXor {x y : Int} (hx : b01 x) (hy : b01 y) : b01 (iXor x y) := by
  rcases hx with rfl | rfl <;> rcases hy with rfl | rfl <;> (unfold b01; decide +kernel)
end Aux6
section Aux6b
variable {l : Launch} {τ : TP} {ad : Nat → Nat} {cc : ByteArray} {nL : Nat} {own : String} {R : Room} {ret : Option FieldType} {K : Option Value → HP → Prop} {Y : HP → Nat → List (Nat × Value) → List Value → Prop}
variable {X : Type} {T T1 T2 : Option X} {G : X → Prop} {h h' : HP} {pc pc' tgt : Nat} {lv lv' : List (Nat × Value)} {st st' rest : List Value} {x y : Int}
theorem z_idiv (I : Isy l τ ad cc nL own R ret K Y) (hy : inR y) (d : decode cc pc = .ok (.idiv, 1)) (hp : pc + 1 = pc') (k : ¬ y = 0 → Z Y T G h pc' lv (vI (iDiv x y) :: rest)) : Z Y (if y = 0 then none else T) G h pc lv (vI y :: vI x :: rest) := by
  subst hp
  obtain ⟨p, e, s, m, args, below, meth, c, cells, slots, Q, D, cA, A, H0, hx', hb, hml, hown, hts, hK, hw, hA, hc, hs, rfl, hret⟩ := I
  intro r hT hG H locs ls hP hD hS hl hh
  by_cases q : y = 0
  · rw [if_pos q] at hT
    cases hT
  · rw [if_neg q] at hT
    have k := k q r hT hG H locs ls hP hD hS hl hh
    refine lv_idiv hx' hb d (fun z => q ((eq32 hy (inR_c (x := 0) rfl)).mp z)) ?_
    unfold vI iDiv at k
    rwa [Int32.ofInt_toInt] at k
theorem z_irem (I : Isy l τ ad cc nL own R ret K Y) (hy : inR y) (d : decode cc pc = .ok (.irem, 1)) (hp : pc + 1 = pc') (k : ¬ y = 0 → Z Y T G h pc' lv (vI (iRem x y) :: rest)) : Z Y (if y = 0 then none else T) G h pc lv (vI y :: vI x :: rest) := by
  subst hp
  obtain ⟨p, e, s, m, args, below, meth, c, cells, slots, Q, D, cA, A, H0, hx', hb, hml, hown, hts, hK, hw, hA, hc, hs, rfl, hret⟩ := I
  intro r hT hG H locs ls hP hD hS hl hh
  by_cases q : y = 0
  · rw [if_pos q] at hT
    cases hT
  · rw [if_neg q] at hT
    have k := k q r hT hG H locs ls hP hD hS hl hh
    refine lv_irem hx' hb d (fun z => q ((eq32 hy (inR_c (x := 0) rfl)).mp z)) ?_
    unfold vI iRem at k
    rwa [Int32.ofInt_toInt] at k
theorem z_ldiv (I : Isy l τ ad cc nL own R ret K Y) (hy : inL y) (d : decode cc pc = .ok (.ldiv, 1)) (hp : pc + 1 = pc') (k : ¬ y = 0 → Z Y T G h pc' lv (vL (lDiv x y) :: rest)) : Z Y (if y = 0 then none else T) G h pc lv (vL y :: vL x :: rest) := by
  subst hp
  obtain ⟨p, e, s, m, args, below, meth, c, cells, slots, Q, D, cA, A, H0, hx', hb, hml, hown, hts, hK, hw, hA, hc, hs, rfl, hret⟩ := I
  intro r hT hG H locs ls hP hD hS hl hh
  by_cases q : y = 0
  · rw [if_pos q] at hT
    cases hT
  · rw [if_neg q] at hT
    have k := k q r hT hG H locs ls hP hD hS hl hh
    refine lv_ldiv hx' hb d (fun z => q ((eq64 hy (inL_c (x := 0) rfl)).mp z)) ?_
    unfold vL lDiv at k
    rwa [Int64.ofInt_toInt] at k
theorem z_lrem (I : Isy l τ ad cc nL own R ret K Y) (hy : inL y) (d : decode cc pc = .ok (.lrem, 1)) (hp : pc + 1 = pc') (k : ¬ y = 0 → Z Y T G h pc' lv (vL (lRem x y) :: rest)) : Z Y (if y = 0 then none else T) G h pc lv (vL y :: vL x :: rest) := by
  subst hp
  obtain ⟨p, e, s, m, args, below, meth, c, cells, slots, Q, D, cA, A, H0, hx', hb, hml, hown, hts, hK, hw, hA, hc, hs, rfl, hret⟩ := I
  intro r hT hG H locs ls hP hD hS hl hh
  by_cases q : y = 0
  · rw [if_pos q] at hT
    cases hT
  · rw [if_neg q] at hT
    have k := k q r hT hG H locs ls hP hD hS hl hh
    refine lv_lrem hx' hb d (fun z => q ((eq64 hy (inL_c (x := 0) rfl)).mp z)) ?_
    unfold vL lRem at k
    rwa [Int64.ofInt_toInt] at k
end Aux6b
theorem r_Exam_key {τ : TP} {o e : Int} (hw : wf τ) (ho : ok τ (4, 1) o) (he : o + 1 = e) : ok τ (0, 8) e := he ▸ ok_fld (off := 1) hw ho rfl (by decide)
theorem r_Exam_kind {τ : TP} {o e : Int} (hw : wf τ) (ho : ok τ (4, 1) o) (he : o + 2 = e) : ok τ (0, 8) e := he ▸ ok_fld (off := 2) hw ho rfl (by decide)
theorem r_Exam_parts {τ : TP} {o e : Int} (hw : wf τ) (ho : ok τ (4, 1) o) (he : o + 3 = e) : ok τ (3, 0) e := he ▸ ok_fld (off := 3) hw ho rfl (by decide)
theorem r_Exam_given {τ : TP} {o e : Int} (hw : wf τ) (ho : ok τ (4, 1) o) (he : o + 12 = e) : ok τ (3, 1) e := he ▸ ok_fld (off := 12) hw ho rfl (by decide)
theorem r_Exam_row {τ : TP} {o e : Int} (hw : wf τ) (ho : ok τ (4, 1) o) (he : o + 21 = e) : ok τ (0, 8) e := he ▸ ok_fld (off := 21) hw ho rfl (by decide)
theorem r_Exam_place {τ : TP} {o e : Int} (hw : wf τ) (ho : ok τ (4, 1) o) (he : o + 22 = e) : ok τ (0, 8) e := he ▸ ok_fld (off := 22) hw ho rfl (by decide)
theorem r_Exam_used {τ : TP} {o e : Int} (hw : wf τ) (ho : ok τ (4, 1) o) (he : o + 23 = e) : ok τ (0, 6) e := he ▸ ok_fld (off := 23) hw ho rfl (by decide)
theorem r_Exam_seenX {τ : TP} {o e : Int} (hw : wf τ) (ho : ok τ (4, 1) o) (he : o + 24 = e) : ok τ (0, 5) e := he ▸ ok_fld (off := 24) hw ho rfl (by decide)
theorem r_Exam_seenY {τ : TP} {o e : Int} (hw : wf τ) (ho : ok τ (4, 1) o) (he : o + 25 = e) : ok τ (0, 5) e := he ▸ ok_fld (off := 25) hw ho rfl (by decide)
theorem r_Exam_seenIs {τ : TP} {o e : Int} (hw : wf τ) (ho : ok τ (4, 1) o) (he : o + 26 = e) : ok τ (2, 5) e := he ▸ ok_fld (off := 26) hw ho rfl (by decide)
theorem r_Exam_planWhat {τ : TP} {o e : Int} (hw : wf τ) (ho : ok τ (4, 1) o) (he : o + 27 = e) : ok τ (0, 8) e := he ▸ ok_fld (off := 27) hw ho rfl (by decide)
theorem r_Exam_planK {τ : TP} {o e : Int} (hw : wf τ) (ho : ok τ (4, 1) o) (he : o + 28 = e) : ok τ (0, 8) e := he ▸ ok_fld (off := 28) hw ho rfl (by decide)
theorem r_Exam_planV {τ : TP} {o e : Int} (hw : wf τ) (ho : ok τ (4, 1) o) (he : o + 29 = e) : ok τ (0, 8) e := he ▸ ok_fld (off := 29) hw ho rfl (by decide)
theorem r_Links_suspectWith {τ : TP} {o e : Int} (hw : wf τ) (ho : ok τ (4, 2) o) (he : o + 1 = e) : ok τ (0, 8) e := he ▸ ok_fld (off := 1) hw ho rfl (by decide)
theorem r_Odds_shares {τ : TP} {o e : Int} (hw : wf τ) (ho : ok τ (4, 3) o) (he : o + 1 = e) : ok τ (0, 4) e := he ▸ ok_fld (off := 1) hw ho rfl (by decide)
theorem r_Odds_ways {τ : TP} {o e : Int} (hw : wf τ) (ho : ok τ (4, 3) o) (he : o + 2 = e) : ok τ (1, 33) e := he ▸ ok_fld (off := 2) hw ho rfl (by decide)
theorem r_Ranking_lower {τ : TP} {o e : Int} (hw : wf τ) (ho : ok τ (4, 4) o) (he : o + 1 = e) : ok τ (0, 28) e := he ▸ ok_fld (off := 1) hw ho rfl (by decide)
theorem r_Ranking_upper {τ : TP} {o e : Int} (hw : wf τ) (ho : ok τ (4, 4) o) (he : o + 2 = e) : ok τ (0, 28) e := he ▸ ok_fld (off := 2) hw ho rfl (by decide)
theorem r_Ranking_above {τ : TP} {o e : Int} (hw : wf τ) (ho : ok τ (4, 4) o) (he : o + 3 = e) : ok τ (1, 28) e := he ▸ ok_fld (off := 3) hw ho rfl (by decide)
theorem r_Ranking_below {τ : TP} {o e : Int} (hw : wf τ) (ho : ok τ (4, 4) o) (he : o + 4 = e) : ok τ (1, 28) e := he ▸ ok_fld (off := 4) hw ho rfl (by decide)
theorem r_Ranking_one {τ : TP} {o e : Int} (hw : wf τ) (ho : ok τ (4, 4) o) (he : o + 5 = e) : ok τ (4, 5) e := he ▸ ok_fld (off := 5) hw ho rfl (by decide)
theorem r_Ranking_turned {τ : TP} {o e : Int} (hw : wf τ) (ho : ok τ (4, 4) o) (he : o + 6 = e) : ok τ (4, 5) e := he ▸ ok_fld (off := 6) hw ho rfl (by decide)
theorem r_Seating_who {τ : TP} {o e : Int} (hw : wf τ) (ho : ok τ (4, 6) o) (he : o + 1 = e) : ok τ (0, 6) e := he ▸ ok_fld (off := 1) hw ho rfl (by decide)
theorem r_Seating_seatOf {τ : TP} {o e : Int} (hw : wf τ) (ho : ok τ (4, 6) o) (he : o + 2 = e) : ok τ (0, 6) e := he ▸ ok_fld (off := 2) hw ho rfl (by decide)
theorem r_Seating_nearTo {τ : TP} {o e : Int} (hw : wf τ) (ho : ok τ (4, 6) o) (he : o + 3 = e) : ok τ (0, 6) e := he ▸ ok_fld (off := 3) hw ho rfl (by decide)
theorem r_Seating_suspectWith {τ : TP} {o e : Int} (hw : wf τ) (ho : ok τ (4, 6) o) (he : o + 4 = e) : ok τ (0, 6) e := he ▸ ok_fld (off := 4) hw ho rfl (by decide)
theorem r_Tape_row {τ : TP} {o e : Int} (hw : wf τ) (ho : ok τ (4, 7) o) (he : o + 1 = e) : ok τ (1, 60) e := he ▸ ok_fld (off := 1) hw ho rfl (by decide)
theorem r_Text_signs {τ : TP} {o e : Int} (hw : wf τ) (ho : ok τ (4, 8) o) (he : o + 1 = e) : ok τ (0, 60) e := he ▸ ok_fld (off := 1) hw ho rfl (by decide)
theorem r_Cb_now {τ : TP} {o e : Int} (hw : wf τ) (ho : ok τ (4, 9) o) (he : o + 1 = e) : ok τ (4, 1) e := he ▸ ok_fld (off := 1) hw ho rfl (by decide)
theorem r_Cb_kept {τ : TP} {o e : Int} (hw : wf τ) (ho : ok τ (4, 9) o) (he : o + 31 = e) : ok τ (4, 1) e := he ▸ ok_fld (off := 31) hw ho rfl (by decide)
theorem r_Cb_trial {τ : TP} {o e : Int} (hw : wf τ) (ho : ok τ (4, 9) o) (he : o + 61 = e) : ok τ (4, 1) e := he ▸ ok_fld (off := 61) hw ho rfl (by decide)
theorem r_Cb_text {τ : TP} {o e : Int} (hw : wf τ) (ho : ok τ (4, 9) o) (he : o + 91 = e) : ok τ (4, 8) e := he ▸ ok_fld (off := 91) hw ho rfl (by decide)
theorem r_Cb_tapes {τ : TP} {o e : Int} (hw : wf τ) (ho : ok τ (4, 9) o) (he : o + 93 = e) : ok τ (3, 2) e := he ▸ ok_fld (off := 93) hw ho rfl (by decide)
theorem r_Cb_odds {τ : TP} {o e : Int} (hw : wf τ) (ho : ok τ (4, 9) o) (he : o + 94 = e) : ok τ (4, 3) e := he ▸ ok_fld (off := 94) hw ho rfl (by decide)
theorem r_Cb_first {τ : TP} {o e : Int} (hw : wf τ) (ho : ok τ (4, 9) o) (he : o + 97 = e) : ok τ (4, 5) e := he ▸ ok_fld (off := 97) hw ho rfl (by decide)
theorem r_Cb_second {τ : TP} {o e : Int} (hw : wf τ) (ho : ok τ (4, 9) o) (he : o + 98 = e) : ok τ (4, 5) e := he ▸ ok_fld (off := 98) hw ho rfl (by decide)
theorem r_Cb_ranking {τ : TP} {o e : Int} (hw : wf τ) (ho : ok τ (4, 9) o) (he : o + 99 = e) : ok τ (4, 4) e := he ▸ ok_fld (off := 99) hw ho rfl (by decide)
theorem r_Cb_links {τ : TP} {o e : Int} (hw : wf τ) (ho : ok τ (4, 9) o) (he : o + 106 = e) : ok τ (4, 2) e := he ▸ ok_fld (off := 106) hw ho rfl (by decide)
theorem r_Cb_seating {τ : TP} {o e : Int} (hw : wf τ) (ho : ok τ (4, 9) o) (he : o + 108 = e) : ok τ (4, 6) e := he ▸ ok_fld (off := 108) hw ho rfl (by decide)
theorem r_Cb_draws {τ : TP} {o e : Int} (hw : wf τ) (ho : ok τ (4, 9) o) (he : o + 113 = e) : ok τ (4, 0) e := he ▸ ok_fld (off := 113) hw ho rfl (by decide)
theorem r_Md_right {τ : TP} {o e : Int} (hw : wf τ) (ho : ok τ (4, 10) o) (he : o + 1 = e) : ok τ (0, 8) e := he ▸ ok_fld (off := 1) hw ho rfl (by decide)
theorem r_Md_kind {τ : TP} {o e : Int} (hw : wf τ) (ho : ok τ (4, 10) o) (he : o + 2 = e) : ok τ (0, 8) e := he ▸ ok_fld (off := 2) hw ho rfl (by decide)
theorem r_Md_parts {τ : TP} {o e : Int} (hw : wf τ) (ho : ok τ (4, 10) o) (he : o + 3 = e) : ok τ (0, 32) e := he ▸ ok_fld (off := 3) hw ho rfl (by decide)
theorem r_Md_given {τ : TP} {o e : Int} (hw : wf τ) (ho : ok τ (4, 10) o) (he : o + 4 = e) : ok τ (0, 64) e := he ▸ ok_fld (off := 4) hw ho rfl (by decide)
theorem r_Md_row {τ : TP} {o e : Int} (hw : wf τ) (ho : ok τ (4, 10) o) (he : o + 5 = e) : ok τ (0, 8) e := he ▸ ok_fld (off := 5) hw ho rfl (by decide)
theorem r_Md_place {τ : TP} {o e : Int} (hw : wf τ) (ho : ok τ (4, 10) o) (he : o + 6 = e) : ok τ (0, 8) e := he ▸ ok_fld (off := 6) hw ho rfl (by decide)
theorem r_Md_used {τ : TP} {o e : Int} (hw : wf τ) (ho : ok τ (4, 10) o) (he : o + 7 = e) : ok τ (0, 6) e := he ▸ ok_fld (off := 7) hw ho rfl (by decide)
theorem r_Md_seenX {τ : TP} {o e : Int} (hw : wf τ) (ho : ok τ (4, 10) o) (he : o + 8 = e) : ok τ (0, 5) e := he ▸ ok_fld (off := 8) hw ho rfl (by decide)
theorem r_Md_seenY {τ : TP} {o e : Int} (hw : wf τ) (ho : ok τ (4, 10) o) (he : o + 9 = e) : ok τ (0, 5) e := he ▸ ok_fld (off := 9) hw ho rfl (by decide)
theorem r_Md_seenIs {τ : TP} {o e : Int} (hw : wf τ) (ho : ok τ (4, 10) o) (he : o + 10 = e) : ok τ (0, 5) e := he ▸ ok_fld (off := 10) hw ho rfl (by decide)
theorem r_Md_planWhat {τ : TP} {o e : Int} (hw : wf τ) (ho : ok τ (4, 10) o) (he : o + 11 = e) : ok τ (0, 8) e := he ▸ ok_fld (off := 11) hw ho rfl (by decide)
theorem r_Md_planK {τ : TP} {o e : Int} (hw : wf τ) (ho : ok τ (4, 10) o) (he : o + 12 = e) : ok τ (0, 8) e := he ▸ ok_fld (off := 12) hw ho rfl (by decide)
theorem r_Md_planV {τ : TP} {o e : Int} (hw : wf τ) (ho : ok τ (4, 10) o) (he : o + 13 = e) : ok τ (0, 8) e := he ▸ ok_fld (off := 13) hw ho rfl (by decide)
theorem r_Md_text {τ : TP} {o e : Int} (hw : wf τ) (ho : ok τ (4, 10) o) (he : o + 14 = e) : ok τ (0, 60) e := he ▸ ok_fld (off := 14) hw ho rfl (by decide)
theorem r_Md_imaged {τ : TP} {o e : Int} (hw : wf τ) (ho : ok τ (4, 10) o) (he : o + 15 = e) : ok τ (0, 200) e := he ▸ ok_fld (off := 15) hw ho rfl (by decide)
theorem r_Md_ways {τ : TP} {o e : Int} (hw : wf τ) (ho : ok τ (4, 10) o) (he : o + 16 = e) : ok τ (1, 33) e := he ▸ ok_fld (off := 16) hw ho rfl (by decide)
theorem r_Md_before {τ : TP} {o e : Int} (hw : wf τ) (ho : ok τ (4, 10) o) (he : o + 17 = e) : ok τ (1, 33) e := he ▸ ok_fld (off := 17) hw ho rfl (by decide)
theorem r_Md_pairX {τ : TP} {o e : Int} (hw : wf τ) (ho : ok τ (4, 10) o) (he : o + 18 = e) : ok τ (0, 28) e := he ▸ ok_fld (off := 18) hw ho rfl (by decide)
theorem r_Md_pairY {τ : TP} {o e : Int} (hw : wf τ) (ho : ok τ (4, 10) o) (he : o + 19 = e) : ok τ (0, 28) e := he ▸ ok_fld (off := 19) hw ho rfl (by decide)
theorem r_Md_above {τ : TP} {o e : Int} (hw : wf τ) (ho : ok τ (4, 10) o) (he : o + 20 = e) : ok τ (1, 28) e := he ▸ ok_fld (off := 20) hw ho rfl (by decide)
theorem r_Md_under {τ : TP} {o e : Int} (hw : wf τ) (ho : ok τ (4, 10) o) (he : o + 21 = e) : ok τ (1, 28) e := he ▸ ok_fld (off := 21) hw ho rfl (by decide)
theorem r_Md_isSuspect {τ : TP} {o e : Int} (hw : wf τ) (ho : ok τ (4, 10) o) (he : o + 22 = e) : ok τ (2, 28) e := he ▸ ok_fld (off := 22) hw ho rfl (by decide)
theorem r_Md_links {τ : TP} {o e : Int} (hw : wf τ) (ho : ok τ (4, 10) o) (he : o + 23 = e) : ok τ (0, 8) e := he ▸ ok_fld (off := 23) hw ho rfl (by decide)
theorem r_Md_sits {τ : TP} {o e : Int} (hw : wf τ) (ho : ok τ (4, 10) o) (he : o + 24 = e) : ok τ (0, 6) e := he ▸ ok_fld (off := 24) hw ho rfl (by decide)
theorem r_Md_seatOf {τ : TP} {o e : Int} (hw : wf τ) (ho : ok τ (4, 10) o) (he : o + 25 = e) : ok τ (0, 6) e := he ▸ ok_fld (off := 25) hw ho rfl (by decide)
theorem r_Md_givenWas {τ : TP} {o e : Int} (hw : wf τ) (ho : ok τ (4, 10) o) (he : o + 26 = e) : ok τ (0, 64) e := he ▸ ok_fld (off := 26) hw ho rfl (by decide)
theorem r_Md_rightWas {τ : TP} {o e : Int} (hw : wf τ) (ho : ok τ (4, 10) o) (he : o + 27 = e) : ok τ (0, 8) e := he ▸ ok_fld (off := 27) hw ho rfl (by decide)
theorem r_Md_kindWas {τ : TP} {o e : Int} (hw : wf τ) (ho : ok τ (4, 10) o) (he : o + 28 = e) : ok τ (0, 8) e := he ▸ ok_fld (off := 28) hw ho rfl (by decide)
theorem r_Md_tapes {τ : TP} {o e : Int} (hw : wf τ) (ho : ok τ (4, 10) o) (he : o + 29 = e) : ok τ (3, 3) e := he ▸ ok_fld (off := 29) hw ho rfl (by decide)
theorem r_Md_tapeSort {τ : TP} {o e : Int} (hw : wf τ) (ho : ok τ (4, 10) o) (he : o + 36 = e) : ok τ (0, 6) e := he ▸ ok_fld (off := 36) hw ho rfl (by decide)
theorem r_Md_tapeSize {τ : TP} {o e : Int} (hw : wf τ) (ho : ok τ (4, 10) o) (he : o + 37 = e) : ok τ (0, 6) e := he ▸ ok_fld (off := 37) hw ho rfl (by decide)
theorem r_Md_moved {τ : TP} {o e : Int} (hw : wf τ) (ho : ok τ (4, 10) o) (he : o + 38 = e) : ok τ (1, 60) e := he ▸ ok_fld (off := 38) hw ho rfl (by decide)
theorem e_0 {τ : TP} {a i e : Int} (hw : wf τ) (ho : ok τ (3, 0) a) (hi : 0 ≤ i ∧ i < 8) (he : a + 1 + 1 * i = e) : ok τ (0, 4) e := he ▸ ok_elt 8 1 1 hw ho rfl rfl rfl rfl hi
theorem e_1 {τ : TP} {a i e : Int} (hw : wf τ) (ho : ok τ (3, 1) a) (hi : 0 ≤ i ∧ i < 8) (he : a + 1 + 1 * i = e) : ok τ (0, 8) e := he ▸ ok_elt 8 1 1 hw ho rfl rfl rfl rfl hi
theorem e_2 {τ : TP} {a i e : Int} (hw : wf τ) (ho : ok τ (3, 2) a) (hi : 0 ≤ i ∧ i < 6) (he : a + 21 + 2 * i = e) : ok τ (4, 7) e := he ▸ ok_elt 6 21 2 hw ho rfl rfl rfl rfl hi
theorem e_3 {τ : TP} {a i e : Int} (hw : wf τ) (ho : ok τ (3, 3) a) (hi : 0 ≤ i ∧ i < 6) (he : a + 1 + 1 * i = e) : ok τ (1, 60) e := he ▸ ok_elt 6 1 1 hw ho rfl rfl rfl rfl hi
theorem p_Cb_24 : PF "CopyBench" 24 9 3 .boolean := ⟨R_Cb, F_Cb, 13, t_Cb, rfl, i_Cb, by decide, fl_Cb_24, rfl, t_Cb_ok, n_Cb, rfl, by decide +kernel⟩
theorem g_Cb_37 : GF "CopyBench" 37 9 5 := ⟨R_Cb, F_Cb, 13, rfl, i_Cb, by decide, fl_Cb_37, rfl⟩
theorem g_Cb_12 : GF "CopyBench" 12 9 0 := ⟨R_Cb, F_Cb, 13, rfl, i_Cb, by decide, fl_Cb_12, rfl⟩
theorem g_Cb_87 : GF "CopyBench" 87 1 0 := ⟨R_Exam, F_Exam, 17, rfl, i_Exam, by decide, fl_Cb_87, rfl⟩
theorem g_Cb_102 : GF "CopyBench" 102 1 4 := ⟨R_Exam, F_Exam, 17, rfl, i_Exam, by decide, fl_Cb_102, rfl⟩
theorem g_Cb_109 : GF "CopyBench" 109 1 5 := ⟨R_Exam, F_Exam, 17, rfl, i_Exam, by decide, fl_Cb_109, rfl⟩
theorem g_Cb_112 : GF "CopyBench" 112 1 6 := ⟨R_Exam, F_Exam, 17, rfl, i_Exam, by decide, fl_Cb_112, rfl⟩
theorem g_Cb_116 : GF "CopyBench" 116 1 1 := ⟨R_Exam, F_Exam, 17, rfl, i_Exam, by decide, fl_Cb_116, rfl⟩
theorem g_Cb_126 : GF "CopyBench" 126 1 7 := ⟨R_Exam, F_Exam, 17, rfl, i_Exam, by decide, fl_Cb_126, rfl⟩
theorem g_Cb_31 : GF "CopyBench" 31 9 4 := ⟨R_Cb, F_Cb, 13, rfl, i_Cb, by decide, fl_Cb_31, rfl⟩
theorem g_Cb_165 : GF "CopyBench" 165 1 10 := ⟨R_Exam, F_Exam, 17, rfl, i_Exam, by decide, fl_Cb_165, rfl⟩
theorem g_Cb_174 : GF "CopyBench" 174 1 8 := ⟨R_Exam, F_Exam, 17, rfl, i_Exam, by decide, fl_Cb_174, rfl⟩
theorem g_Cb_177 : GF "CopyBench" 177 1 9 := ⟨R_Exam, F_Exam, 17, rfl, i_Exam, by decide, fl_Cb_177, rfl⟩
theorem g_Cb_44 : GF "CopyBench" 44 9 6 := ⟨R_Cb, F_Cb, 13, rfl, i_Cb, by decide, fl_Cb_44, rfl⟩
theorem g_Cb_200 : GF "CopyBench" 200 3 1 := ⟨R_Odds, F_Odds, 8, rfl, i_Odds, by decide, fl_Cb_200, rfl⟩
theorem g_Cb_203 : GF "CopyBench" 203 3 0 := ⟨R_Odds, F_Odds, 8, rfl, i_Odds, by decide, fl_Cb_203, rfl⟩
theorem g_Cb_51 : GF "CopyBench" 51 9 7 := ⟨R_Cb, F_Cb, 13, rfl, i_Cb, by decide, fl_Cb_51, rfl⟩
theorem g_Cb_55 : GF "CopyBench" 55 9 8 := ⟨R_Cb, F_Cb, 13, rfl, i_Cb, by decide, fl_Cb_55, rfl⟩
theorem g_Cb_61 : GF "CopyBench" 61 9 9 := ⟨R_Cb, F_Cb, 13, rfl, i_Cb, by decide, fl_Cb_61, rfl⟩
theorem g_Cb_246 : GF "CopyBench" 246 4 1 := ⟨R_Ranking, F_Ranking, 8, rfl, i_Ranking, by decide, fl_Cb_246, rfl⟩
theorem g_Cb_68 : GF "CopyBench" 68 9 10 := ⟨R_Cb, F_Cb, 13, rfl, i_Cb, by decide, fl_Cb_68, rfl⟩
theorem g_Cb_264 : GF "CopyBench" 264 4 2 := ⟨R_Ranking, F_Ranking, 8, rfl, i_Ranking, by decide, fl_Cb_264, rfl⟩
theorem g_Cb_267 : GF "CopyBench" 267 4 3 := ⟨R_Ranking, F_Ranking, 8, rfl, i_Ranking, by decide, fl_Cb_267, rfl⟩
theorem g_Cb_270 : GF "CopyBench" 270 4 4 := ⟨R_Ranking, F_Ranking, 8, rfl, i_Ranking, by decide, fl_Cb_270, rfl⟩
theorem g_Cb_274 : GF "CopyBench" 274 4 5 := ⟨R_Ranking, F_Ranking, 8, rfl, i_Ranking, by decide, fl_Cb_274, rfl⟩
theorem g_Cb_280 : GF "CopyBench" 280 2 0 := ⟨R_Links, F_Links, 1, rfl, i_Links, by decide, fl_Cb_280, rfl⟩
theorem g_Cb_75 : GF "CopyBench" 75 9 11 := ⟨R_Cb, F_Cb, 13, rfl, i_Cb, by decide, fl_Cb_75, rfl⟩
theorem g_Cb_82 : GF "CopyBench" 82 9 12 := ⟨R_Cb, F_Cb, 13, rfl, i_Cb, by decide, fl_Cb_82, rfl⟩
theorem p_Cb_302 : PF "CopyBench" 302 1 2 .int := ⟨R_Exam, F_Exam, 17, t_Exam, rfl, i_Exam, by decide, fl_Cb_302, rfl, t_Exam_ok, n_Exam, rfl, by decide +kernel⟩
theorem g_Cb_302 : GF "CopyBench" 302 1 2 := ⟨R_Exam, F_Exam, 17, rfl, i_Exam, by decide, fl_Cb_302, rfl⟩
theorem p_Cb_320 : PF "CopyBench" 320 1 3 .int := ⟨R_Exam, F_Exam, 17, t_Exam, rfl, i_Exam, by decide, fl_Cb_320, rfl, t_Exam_ok, n_Exam, rfl, by decide +kernel⟩
theorem g_Cb_320 : GF "CopyBench" 320 1 3 := ⟨R_Exam, F_Exam, 17, rfl, i_Exam, by decide, fl_Cb_320, rfl⟩
theorem g_Cb_21 : GF "CopyBench" 21 9 2 := ⟨R_Cb, F_Cb, 13, rfl, i_Cb, by decide, fl_Cb_21, rfl⟩
theorem g_Cb_342 : GF "CopyBench" 342 7 0 := ⟨R_Tape, F_Tape, 3, rfl, i_Tape, by decide, fl_Cb_342, rfl⟩
theorem g_Cb_348 : GF "CopyBench" 348 7 2 := ⟨R_Tape, F_Tape, 3, rfl, i_Tape, by decide, fl_Cb_348, rfl⟩
theorem g_Cb_18 : GF "CopyBench" 18 9 1 := ⟨R_Cb, F_Cb, 13, rfl, i_Cb, by decide, fl_Cb_18, rfl⟩
theorem g_Cb_24 : GF "CopyBench" 24 9 3 := ⟨R_Cb, F_Cb, 13, rfl, i_Cb, by decide, fl_Cb_24, rfl⟩
theorem g_Cb_353 : GF "CopyBench" 353 8 0 := ⟨R_Text, F_Text, 2, rfl, i_Text, by decide, fl_Cb_353, rfl⟩
theorem p_Md_9 : PF "CopyBenchModel" 9 10 0 .int := ⟨R_Md, F_Md, 47, t_Md, rfl, i_Md, by decide, fl_Md_9, rfl, t_Md_ok, n_Md, rfl, by decide +kernel⟩
theorem g_Md_9 : GF "CopyBenchModel" 9 10 0 := ⟨R_Md, F_Md, 47, rfl, i_Md, by decide, fl_Md_9, rfl⟩
theorem g_Md_123 : GF "CopyBenchModel" 123 10 1 := ⟨R_Md, F_Md, 47, rfl, i_Md, by decide, fl_Md_123, rfl⟩
theorem p_Md_123 : PF "CopyBenchModel" 123 10 1 .int := ⟨R_Md, F_Md, 47, t_Md, rfl, i_Md, by decide, fl_Md_123, rfl, t_Md_ok, n_Md, rfl, by decide +kernel⟩
theorem p_Md_130 : PF "CopyBenchModel" 130 10 15 .int := ⟨R_Md, F_Md, 47, t_Md, rfl, i_Md, by decide, fl_Md_130, rfl, t_Md_ok, n_Md, rfl, by decide +kernel⟩
theorem p_Md_133 : PF "CopyBenchModel" 133 10 16 .int := ⟨R_Md, F_Md, 47, t_Md, rfl, i_Md, by decide, fl_Md_133, rfl, t_Md_ok, n_Md, rfl, by decide +kernel⟩
theorem g_Md_15 : GF "CopyBenchModel" 15 10 2 := ⟨R_Md, F_Md, 47, rfl, i_Md, by decide, fl_Md_15, rfl⟩
theorem g_Md_19 : GF "CopyBenchModel" 19 10 3 := ⟨R_Md, F_Md, 47, rfl, i_Md, by decide, fl_Md_19, rfl⟩
theorem g_Md_22 : GF "CopyBenchModel" 22 10 4 := ⟨R_Md, F_Md, 47, rfl, i_Md, by decide, fl_Md_22, rfl⟩
theorem g_Md_136 : GF "CopyBenchModel" 136 10 22 := ⟨R_Md, F_Md, 47, rfl, i_Md, by decide, fl_Md_136, rfl⟩
theorem g_Md_58 : GF "CopyBenchModel" 58 10 19 := ⟨R_Md, F_Md, 47, rfl, i_Md, by decide, fl_Md_58, rfl⟩
theorem g_Md_140 : GF "CopyBenchModel" 140 10 21 := ⟨R_Md, F_Md, 47, rfl, i_Md, by decide, fl_Md_140, rfl⟩
theorem p_Md_140 : PF "CopyBenchModel" 140 10 21 .int := ⟨R_Md, F_Md, 47, t_Md, rfl, i_Md, by decide, fl_Md_140, rfl, t_Md_ok, n_Md, rfl, by decide +kernel⟩
theorem p_Md_136 : PF "CopyBenchModel" 136 10 22 .boolean := ⟨R_Md, F_Md, 47, t_Md, rfl, i_Md, by decide, fl_Md_136, rfl, t_Md_ok, n_Md, rfl, by decide +kernel⟩
theorem g_Md_130 : GF "CopyBenchModel" 130 10 15 := ⟨R_Md, F_Md, 47, rfl, i_Md, by decide, fl_Md_130, rfl⟩
theorem g_Md_133 : GF "CopyBenchModel" 133 10 16 := ⟨R_Md, F_Md, 47, rfl, i_Md, by decide, fl_Md_133, rfl⟩
theorem g_Md_25 : GF "CopyBenchModel" 25 10 5 := ⟨R_Md, F_Md, 47, rfl, i_Md, by decide, fl_Md_25, rfl⟩
theorem g_Md_28 : GF "CopyBenchModel" 28 10 6 := ⟨R_Md, F_Md, 47, rfl, i_Md, by decide, fl_Md_28, rfl⟩
theorem g_Md_31 : GF "CopyBenchModel" 31 10 7 := ⟨R_Md, F_Md, 47, rfl, i_Md, by decide, fl_Md_31, rfl⟩
theorem g_Md_34 : GF "CopyBenchModel" 34 10 8 := ⟨R_Md, F_Md, 47, rfl, i_Md, by decide, fl_Md_34, rfl⟩
theorem g_Md_37 : GF "CopyBenchModel" 37 10 9 := ⟨R_Md, F_Md, 47, rfl, i_Md, by decide, fl_Md_37, rfl⟩
theorem g_Md_40 : GF "CopyBenchModel" 40 10 10 := ⟨R_Md, F_Md, 47, rfl, i_Md, by decide, fl_Md_40, rfl⟩
theorem g_Md_43 : GF "CopyBenchModel" 43 10 11 := ⟨R_Md, F_Md, 47, rfl, i_Md, by decide, fl_Md_43, rfl⟩
theorem g_Md_46 : GF "CopyBenchModel" 46 10 12 := ⟨R_Md, F_Md, 47, rfl, i_Md, by decide, fl_Md_46, rfl⟩
theorem g_Md_49 : GF "CopyBenchModel" 49 10 13 := ⟨R_Md, F_Md, 47, rfl, i_Md, by decide, fl_Md_49, rfl⟩
theorem g_Md_52 : GF "CopyBenchModel" 52 10 14 := ⟨R_Md, F_Md, 47, rfl, i_Md, by decide, fl_Md_52, rfl⟩
theorem p_Md_151 : PF "CopyBenchModel" 151 10 20 .boolean := ⟨R_Md, F_Md, 47, t_Md, rfl, i_Md, by decide, fl_Md_151, rfl, t_Md_ok, n_Md, rfl, by decide +kernel⟩
theorem g_Md_151 : GF "CopyBenchModel" 151 10 20 := ⟨R_Md, F_Md, 47, rfl, i_Md, by decide, fl_Md_151, rfl⟩
theorem g_Md_172 : GF "CopyBenchModel" 172 10 23 := ⟨R_Md, F_Md, 47, rfl, i_Md, by decide, fl_Md_172, rfl⟩
theorem g_Md_175 : GF "CopyBenchModel" 175 10 18 := ⟨R_Md, F_Md, 47, rfl, i_Md, by decide, fl_Md_175, rfl⟩
theorem g_Md_55 : GF "CopyBenchModel" 55 10 17 := ⟨R_Md, F_Md, 47, rfl, i_Md, by decide, fl_Md_55, rfl⟩
theorem p_Md_182 : PF "CopyBenchModel" 182 10 24 .boolean := ⟨R_Md, F_Md, 47, t_Md, rfl, i_Md, by decide, fl_Md_182, rfl, t_Md_ok, n_Md, rfl, by decide +kernel⟩
theorem p_Md_172 : PF "CopyBenchModel" 172 10 23 .int := ⟨R_Md, F_Md, 47, t_Md, rfl, i_Md, by decide, fl_Md_172, rfl, t_Md_ok, n_Md, rfl, by decide +kernel⟩
theorem g_Md_189 : GF "CopyBenchModel" 189 10 25 := ⟨R_Md, F_Md, 47, rfl, i_Md, by decide, fl_Md_189, rfl⟩
theorem p_Md_189 : PF "CopyBenchModel" 189 10 25 .int := ⟨R_Md, F_Md, 47, t_Md, rfl, i_Md, by decide, fl_Md_189, rfl, t_Md_ok, n_Md, rfl, by decide +kernel⟩
theorem g_Md_182 : GF "CopyBenchModel" 182 10 24 := ⟨R_Md, F_Md, 47, rfl, i_Md, by decide, fl_Md_182, rfl⟩
theorem p_Md_175 : PF "CopyBenchModel" 175 10 18 .int := ⟨R_Md, F_Md, 47, t_Md, rfl, i_Md, by decide, fl_Md_175, rfl, t_Md_ok, n_Md, rfl, by decide +kernel⟩
theorem g_Md_61 : GF "CopyBenchModel" 61 10 26 := ⟨R_Md, F_Md, 47, rfl, i_Md, by decide, fl_Md_61, rfl⟩
theorem g_Md_65 : GF "CopyBenchModel" 65 10 27 := ⟨R_Md, F_Md, 47, rfl, i_Md, by decide, fl_Md_65, rfl⟩
theorem g_Md_248 : GF "CopyBenchModel" 248 10 28 := ⟨R_Md, F_Md, 47, rfl, i_Md, by decide, fl_Md_248, rfl⟩
theorem p_Md_248 : PF "CopyBenchModel" 248 10 28 .long := ⟨R_Md, F_Md, 47, t_Md, rfl, i_Md, by decide, fl_Md_248, rfl, t_Md_ok, n_Md, rfl, by decide +kernel⟩
theorem g_Md_280 : GF "CopyBenchModel" 280 10 29 := ⟨R_Md, F_Md, 47, rfl, i_Md, by decide, fl_Md_280, rfl⟩
theorem g_Md_74 : GF "CopyBenchModel" 74 10 32 := ⟨R_Md, F_Md, 47, rfl, i_Md, by decide, fl_Md_74, rfl⟩
theorem g_Md_77 : GF "CopyBenchModel" 77 10 33 := ⟨R_Md, F_Md, 47, rfl, i_Md, by decide, fl_Md_77, rfl⟩
theorem g_Md_68 : GF "CopyBenchModel" 68 10 30 := ⟨R_Md, F_Md, 47, rfl, i_Md, by decide, fl_Md_68, rfl⟩
theorem g_Md_71 : GF "CopyBenchModel" 71 10 31 := ⟨R_Md, F_Md, 47, rfl, i_Md, by decide, fl_Md_71, rfl⟩
theorem p_Md_280 : PF "CopyBenchModel" 280 10 29 .int := ⟨R_Md, F_Md, 47, t_Md, rfl, i_Md, by decide, fl_Md_280, rfl, t_Md_ok, n_Md, rfl, by decide +kernel⟩
theorem g_Md_80 : GF "CopyBenchModel" 80 10 34 := ⟨R_Md, F_Md, 47, rfl, i_Md, by decide, fl_Md_80, rfl⟩
theorem g_Md_84 : GF "CopyBenchModel" 84 10 35 := ⟨R_Md, F_Md, 47, rfl, i_Md, by decide, fl_Md_84, rfl⟩
theorem g_Md_87 : GF "CopyBenchModel" 87 10 36 := ⟨R_Md, F_Md, 47, rfl, i_Md, by decide, fl_Md_87, rfl⟩
theorem g_Md_90 : GF "CopyBenchModel" 90 10 37 := ⟨R_Md, F_Md, 47, rfl, i_Md, by decide, fl_Md_90, rfl⟩
theorem g_Md_341 : GF "CopyBenchModel" 341 10 38 := ⟨R_Md, F_Md, 47, rfl, i_Md, by decide, fl_Md_341, rfl⟩
theorem p_Md_341 : PF "CopyBenchModel" 341 10 38 .int := ⟨R_Md, F_Md, 47, t_Md, rfl, i_Md, by decide, fl_Md_341, rfl, t_Md_ok, n_Md, rfl, by decide +kernel⟩
theorem g_Md_354 : GF "CopyBenchModel" 354 10 39 := ⟨R_Md, F_Md, 47, rfl, i_Md, by decide, fl_Md_354, rfl⟩
theorem p_Md_354 : PF "CopyBenchModel" 354 10 39 .int := ⟨R_Md, F_Md, 47, t_Md, rfl, i_Md, by decide, fl_Md_354, rfl, t_Md_ok, n_Md, rfl, by decide +kernel⟩
theorem g_Md_93 : GF "CopyBenchModel" 93 10 40 := ⟨R_Md, F_Md, 47, rfl, i_Md, by decide, fl_Md_93, rfl⟩
theorem g_Md_96 : GF "CopyBenchModel" 96 10 41 := ⟨R_Md, F_Md, 47, rfl, i_Md, by decide, fl_Md_96, rfl⟩
theorem g_Md_99 : GF "CopyBenchModel" 99 10 42 := ⟨R_Md, F_Md, 47, rfl, i_Md, by decide, fl_Md_99, rfl⟩
theorem g_Md_107 : GF "CopyBenchModel" 107 10 44 := ⟨R_Md, F_Md, 47, rfl, i_Md, by decide, fl_Md_107, rfl⟩
theorem g_Md_110 : GF "CopyBenchModel" 110 10 45 := ⟨R_Md, F_Md, 47, rfl, i_Md, by decide, fl_Md_110, rfl⟩
theorem g_Md_104 : GF "CopyBenchModel" 104 10 43 := ⟨R_Md, F_Md, 47, rfl, i_Md, by decide, fl_Md_104, rfl⟩
theorem g_Md_113 : GF "CopyBenchModel" 113 10 46 := ⟨R_Md, F_Md, 47, rfl, i_Md, by decide, fl_Md_113, rfl⟩
theorem p_Draws_9 : PF "CopyBench$Draws" 9 0 0 .int := ⟨R_Draws, F_Draws, 1, t_Draws, rfl, i_Draws, by decide, fl_Draws_9, rfl, t_Draws_ok, n_Draws, rfl, by decide +kernel⟩
theorem g_Draws_15 : GF "CopyBench$Draws" 15 1 0 := ⟨R_Exam, F_Exam, 17, rfl, i_Exam, by decide, fl_Draws_15, rfl⟩
theorem g_Draws_38 : GF "CopyBench$Draws" 38 3 1 := ⟨R_Odds, F_Odds, 8, rfl, i_Odds, by decide, fl_Draws_38, rfl⟩
theorem g_Draws_45 : GF "CopyBench$Draws" 45 3 0 := ⟨R_Odds, F_Odds, 8, rfl, i_Odds, by decide, fl_Draws_45, rfl⟩
theorem g_Draws_9 : GF "CopyBench$Draws" 9 0 0 := ⟨R_Draws, F_Draws, 1, rfl, i_Draws, by decide, fl_Draws_9, rfl⟩
theorem p_Exam_9 : PF "CopyBench$Exam" 9 1 0 .int := ⟨R_Exam, F_Exam, 17, t_Exam, rfl, i_Exam, by decide, fl_Exam_9, rfl, t_Exam_ok, n_Exam, rfl, by decide +kernel⟩
theorem p_Exam_15 : PF "CopyBench$Exam" 15 1 1 .int := ⟨R_Exam, F_Exam, 17, t_Exam, rfl, i_Exam, by decide, fl_Exam_15, rfl, t_Exam_ok, n_Exam, rfl, by decide +kernel⟩
theorem p_Exam_18 : PF "CopyBench$Exam" 18 1 2 .int := ⟨R_Exam, F_Exam, 17, t_Exam, rfl, i_Exam, by decide, fl_Exam_18, rfl, t_Exam_ok, n_Exam, rfl, by decide +kernel⟩
theorem p_Exam_21 : PF "CopyBench$Exam" 21 1 3 .int := ⟨R_Exam, F_Exam, 17, t_Exam, rfl, i_Exam, by decide, fl_Exam_21, rfl, t_Exam_ok, n_Exam, rfl, by decide +kernel⟩
theorem g_Exam_45 : GF "CopyBench$Exam" 45 1 10 := ⟨R_Exam, F_Exam, 17, rfl, i_Exam, by decide, fl_Exam_45, rfl⟩
theorem g_Exam_24 : GF "CopyBench$Exam" 24 1 4 := ⟨R_Exam, F_Exam, 17, rfl, i_Exam, by decide, fl_Exam_24, rfl⟩
theorem g_Exam_28 : GF "CopyBench$Exam" 28 1 5 := ⟨R_Exam, F_Exam, 17, rfl, i_Exam, by decide, fl_Exam_28, rfl⟩
theorem g_Exam_33 : GF "CopyBench$Exam" 33 1 6 := ⟨R_Exam, F_Exam, 17, rfl, i_Exam, by decide, fl_Exam_33, rfl⟩
theorem g_Exam_9 : GF "CopyBench$Exam" 9 1 0 := ⟨R_Exam, F_Exam, 17, rfl, i_Exam, by decide, fl_Exam_9, rfl⟩
theorem g_Exam_15 : GF "CopyBench$Exam" 15 1 1 := ⟨R_Exam, F_Exam, 17, rfl, i_Exam, by decide, fl_Exam_15, rfl⟩
theorem g_Exam_18 : GF "CopyBench$Exam" 18 1 2 := ⟨R_Exam, F_Exam, 17, rfl, i_Exam, by decide, fl_Exam_18, rfl⟩
theorem g_Exam_21 : GF "CopyBench$Exam" 21 1 3 := ⟨R_Exam, F_Exam, 17, rfl, i_Exam, by decide, fl_Exam_21, rfl⟩
theorem g_Exam_36 : GF "CopyBench$Exam" 36 1 7 := ⟨R_Exam, F_Exam, 17, rfl, i_Exam, by decide, fl_Exam_36, rfl⟩
theorem g_Exam_39 : GF "CopyBench$Exam" 39 1 8 := ⟨R_Exam, F_Exam, 17, rfl, i_Exam, by decide, fl_Exam_39, rfl⟩
theorem g_Exam_42 : GF "CopyBench$Exam" 42 1 9 := ⟨R_Exam, F_Exam, 17, rfl, i_Exam, by decide, fl_Exam_42, rfl⟩
theorem g_Exam_48 : GF "CopyBench$Exam" 48 1 11 := ⟨R_Exam, F_Exam, 17, rfl, i_Exam, by decide, fl_Exam_48, rfl⟩
theorem g_Exam_51 : GF "CopyBench$Exam" 51 1 12 := ⟨R_Exam, F_Exam, 17, rfl, i_Exam, by decide, fl_Exam_51, rfl⟩
theorem g_Exam_54 : GF "CopyBench$Exam" 54 1 13 := ⟨R_Exam, F_Exam, 17, rfl, i_Exam, by decide, fl_Exam_54, rfl⟩
theorem g_Exam_58 : GF "CopyBench$Exam" 58 1 14 := ⟨R_Exam, F_Exam, 17, rfl, i_Exam, by decide, fl_Exam_58, rfl⟩
theorem g_Exam_61 : GF "CopyBench$Exam" 61 1 15 := ⟨R_Exam, F_Exam, 17, rfl, i_Exam, by decide, fl_Exam_61, rfl⟩
theorem g_Exam_64 : GF "CopyBench$Exam" 64 1 16 := ⟨R_Exam, F_Exam, 17, rfl, i_Exam, by decide, fl_Exam_64, rfl⟩
theorem g_Links_9 : GF "CopyBench$Links" 9 2 0 := ⟨R_Links, F_Links, 1, rfl, i_Links, by decide, fl_Links_9, rfl⟩
theorem g_Links_15 : GF "CopyBench$Links" 15 4 1 := ⟨R_Ranking, F_Ranking, 8, rfl, i_Ranking, by decide, fl_Links_15, rfl⟩
theorem g_Links_21 : GF "CopyBench$Links" 21 4 2 := ⟨R_Ranking, F_Ranking, 8, rfl, i_Ranking, by decide, fl_Links_21, rfl⟩
theorem g_Links_24 : GF "CopyBench$Links" 24 4 3 := ⟨R_Ranking, F_Ranking, 8, rfl, i_Ranking, by decide, fl_Links_24, rfl⟩
theorem p_Odds_15 : PF "CopyBench$Odds" 15 3 1 .int := ⟨R_Odds, F_Odds, 8, t_Odds, rfl, i_Odds, by decide, fl_Odds_15, rfl, t_Odds_ok, n_Odds, rfl, by decide +kernel⟩
theorem p_Odds_23 : PF "CopyBench$Odds" 23 3 3 .long := ⟨R_Odds, F_Odds, 8, t_Odds, rfl, i_Odds, by decide, fl_Odds_23, rfl, t_Odds_ok, n_Odds, rfl, by decide +kernel⟩
theorem p_Odds_27 : PF "CopyBench$Odds" 27 3 4 .int := ⟨R_Odds, F_Odds, 8, t_Odds, rfl, i_Odds, by decide, fl_Odds_27, rfl, t_Odds_ok, n_Odds, rfl, by decide +kernel⟩
theorem p_Odds_30 : PF "CopyBench$Odds" 30 3 5 .long := ⟨R_Odds, F_Odds, 8, t_Odds, rfl, i_Odds, by decide, fl_Odds_30, rfl, t_Odds_ok, n_Odds, rfl, by decide +kernel⟩
theorem p_Odds_33 : PF "CopyBench$Odds" 33 3 6 .long := ⟨R_Odds, F_Odds, 8, t_Odds, rfl, i_Odds, by decide, fl_Odds_33, rfl, t_Odds_ok, n_Odds, rfl, by decide +kernel⟩
theorem p_Odds_36 : PF "CopyBench$Odds" 36 3 7 .long := ⟨R_Odds, F_Odds, 8, t_Odds, rfl, i_Odds, by decide, fl_Odds_36, rfl, t_Odds_ok, n_Odds, rfl, by decide +kernel⟩
theorem g_Odds_19 : GF "CopyBench$Odds" 19 3 2 := ⟨R_Odds, F_Odds, 8, rfl, i_Odds, by decide, fl_Odds_19, rfl⟩
theorem g_Odds_23 : GF "CopyBench$Odds" 23 3 3 := ⟨R_Odds, F_Odds, 8, rfl, i_Odds, by decide, fl_Odds_23, rfl⟩
theorem g_Odds_53 : GF "CopyBench$Odds" 53 1 5 := ⟨R_Exam, F_Exam, 17, rfl, i_Exam, by decide, fl_Odds_53, rfl⟩
theorem g_Odds_9 : GF "CopyBench$Odds" 9 3 0 := ⟨R_Odds, F_Odds, 8, rfl, i_Odds, by decide, fl_Odds_9, rfl⟩
theorem g_Odds_58 : GF "CopyBench$Odds" 58 1 6 := ⟨R_Exam, F_Exam, 17, rfl, i_Exam, by decide, fl_Odds_58, rfl⟩
theorem g_Odds_15 : GF "CopyBench$Odds" 15 3 1 := ⟨R_Odds, F_Odds, 8, rfl, i_Odds, by decide, fl_Odds_15, rfl⟩
theorem g_Odds_66 : GF "CopyBench$Odds" 66 1 1 := ⟨R_Exam, F_Exam, 17, rfl, i_Exam, by decide, fl_Odds_66, rfl⟩
theorem g_Odds_69 : GF "CopyBench$Odds" 69 1 7 := ⟨R_Exam, F_Exam, 17, rfl, i_Exam, by decide, fl_Odds_69, rfl⟩
theorem g_Odds_27 : GF "CopyBench$Odds" 27 3 4 := ⟨R_Odds, F_Odds, 8, rfl, i_Odds, by decide, fl_Odds_27, rfl⟩
theorem g_Odds_72 : GF "CopyBench$Odds" 72 1 10 := ⟨R_Exam, F_Exam, 17, rfl, i_Exam, by decide, fl_Odds_72, rfl⟩
theorem g_Odds_75 : GF "CopyBench$Odds" 75 1 0 := ⟨R_Exam, F_Exam, 17, rfl, i_Exam, by decide, fl_Odds_75, rfl⟩
theorem g_Odds_36 : GF "CopyBench$Odds" 36 3 7 := ⟨R_Odds, F_Odds, 8, rfl, i_Odds, by decide, fl_Odds_36, rfl⟩
theorem g_Odds_30 : GF "CopyBench$Odds" 30 3 5 := ⟨R_Odds, F_Odds, 8, rfl, i_Odds, by decide, fl_Odds_30, rfl⟩
theorem g_Odds_33 : GF "CopyBench$Odds" 33 3 6 := ⟨R_Odds, F_Odds, 8, rfl, i_Odds, by decide, fl_Odds_33, rfl⟩
theorem g_Odds_105 : GF "CopyBench$Odds" 105 1 4 := ⟨R_Exam, F_Exam, 17, rfl, i_Exam, by decide, fl_Odds_105, rfl⟩
theorem p_Ranking_9 : PF "CopyBench$Ranking" 9 4 0 .int := ⟨R_Ranking, F_Ranking, 8, t_Ranking, rfl, i_Ranking, by decide, fl_Ranking_9, rfl, t_Ranking_ok, n_Ranking, rfl, by decide +kernel⟩
theorem p_Ranking_15 : PF "CopyBench$Ranking" 15 4 1 .int := ⟨R_Ranking, F_Ranking, 8, t_Ranking, rfl, i_Ranking, by decide, fl_Ranking_15, rfl, t_Ranking_ok, n_Ranking, rfl, by decide +kernel⟩
theorem g_Ranking_9 : GF "CopyBench$Ranking" 9 4 0 := ⟨R_Ranking, F_Ranking, 8, rfl, i_Ranking, by decide, fl_Ranking_9, rfl⟩
theorem g_Ranking_42 : GF "CopyBench$Ranking" 42 1 1 := ⟨R_Exam, F_Exam, 17, rfl, i_Exam, by decide, fl_Ranking_42, rfl⟩
theorem g_Ranking_59 : GF "CopyBench$Ranking" 59 1 10 := ⟨R_Exam, F_Exam, 17, rfl, i_Exam, by decide, fl_Ranking_59, rfl⟩
theorem g_Ranking_18 : GF "CopyBench$Ranking" 18 4 2 := ⟨R_Ranking, F_Ranking, 8, rfl, i_Ranking, by decide, fl_Ranking_18, rfl⟩
theorem g_Ranking_22 : GF "CopyBench$Ranking" 22 4 3 := ⟨R_Ranking, F_Ranking, 8, rfl, i_Ranking, by decide, fl_Ranking_22, rfl⟩
theorem g_Ranking_74 : GF "CopyBench$Ranking" 74 1 2 := ⟨R_Exam, F_Exam, 17, rfl, i_Exam, by decide, fl_Ranking_74, rfl⟩
theorem g_Ranking_77 : GF "CopyBench$Ranking" 77 1 11 := ⟨R_Exam, F_Exam, 17, rfl, i_Exam, by decide, fl_Ranking_77, rfl⟩
theorem g_Ranking_80 : GF "CopyBench$Ranking" 80 1 12 := ⟨R_Exam, F_Exam, 17, rfl, i_Exam, by decide, fl_Ranking_80, rfl⟩
theorem g_Ranking_15 : GF "CopyBench$Ranking" 15 4 1 := ⟨R_Ranking, F_Ranking, 8, rfl, i_Ranking, by decide, fl_Ranking_15, rfl⟩
theorem g_Ranking_86 : GF "CopyBench$Ranking" 86 1 13 := ⟨R_Exam, F_Exam, 17, rfl, i_Exam, by decide, fl_Ranking_86, rfl⟩
theorem g_Ranking_35 : GF "CopyBench$Ranking" 35 4 6 := ⟨R_Ranking, F_Ranking, 8, rfl, i_Ranking, by decide, fl_Ranking_35, rfl⟩
theorem g_Ranking_39 : GF "CopyBench$Ranking" 39 4 7 := ⟨R_Ranking, F_Ranking, 8, rfl, i_Ranking, by decide, fl_Ranking_39, rfl⟩
theorem g_Ranking_25 : GF "CopyBench$Ranking" 25 4 4 := ⟨R_Ranking, F_Ranking, 8, rfl, i_Ranking, by decide, fl_Ranking_25, rfl⟩
theorem g_Ranking_29 : GF "CopyBench$Ranking" 29 4 5 := ⟨R_Ranking, F_Ranking, 8, rfl, i_Ranking, by decide, fl_Ranking_29, rfl⟩
theorem p_Ratio_7 : PF "CopyBench$Ratio" 7 5 0 .long := ⟨R_Ratio, F_Ratio, 2, t_Ratio, rfl, i_Ratio, by decide, fl_Ratio_7, rfl, t_Ratio_ok, n_Ratio, rfl, by decide +kernel⟩
theorem p_Ratio_13 : PF "CopyBench$Ratio" 13 5 1 .long := ⟨R_Ratio, F_Ratio, 2, t_Ratio, rfl, i_Ratio, by decide, fl_Ratio_13, rfl, t_Ratio_ok, n_Ratio, rfl, by decide +kernel⟩
theorem g_Ratio_7 : GF "CopyBench$Ratio" 7 5 0 := ⟨R_Ratio, F_Ratio, 2, rfl, i_Ratio, by decide, fl_Ratio_7, rfl⟩
theorem g_Ratio_13 : GF "CopyBench$Ratio" 13 5 1 := ⟨R_Ratio, F_Ratio, 2, rfl, i_Ratio, by decide, fl_Ratio_13, rfl⟩
theorem p_Seating_7 : PF "CopyBench$Seating" 7 6 0 .int := ⟨R_Seating, F_Seating, 5, t_Seating, rfl, i_Seating, by decide, fl_Seating_7, rfl, t_Seating_ok, n_Seating, rfl, by decide +kernel⟩
theorem g_Seating_48 : GF "CopyBench$Seating" 48 1 1 := ⟨R_Exam, F_Exam, 17, rfl, i_Exam, by decide, fl_Seating_48, rfl⟩
theorem g_Seating_7 : GF "CopyBench$Seating" 7 6 0 := ⟨R_Seating, F_Seating, 5, rfl, i_Seating, by decide, fl_Seating_7, rfl⟩
theorem g_Seating_13 : GF "CopyBench$Seating" 13 6 1 := ⟨R_Seating, F_Seating, 5, rfl, i_Seating, by decide, fl_Seating_13, rfl⟩
theorem g_Seating_17 : GF "CopyBench$Seating" 17 6 2 := ⟨R_Seating, F_Seating, 5, rfl, i_Seating, by decide, fl_Seating_17, rfl⟩
theorem g_Seating_20 : GF "CopyBench$Seating" 20 6 3 := ⟨R_Seating, F_Seating, 5, rfl, i_Seating, by decide, fl_Seating_20, rfl⟩
theorem g_Seating_23 : GF "CopyBench$Seating" 23 6 4 := ⟨R_Seating, F_Seating, 5, rfl, i_Seating, by decide, fl_Seating_23, rfl⟩
theorem p_Tape_9 : PF "CopyBench$Tape" 9 7 0 .int := ⟨R_Tape, F_Tape, 3, t_Tape, rfl, i_Tape, by decide, fl_Tape_9, rfl, t_Tape_ok, n_Tape, rfl, by decide +kernel⟩
theorem p_Tape_13 : PF "CopyBench$Tape" 13 7 1 .int := ⟨R_Tape, F_Tape, 3, t_Tape, rfl, i_Tape, by decide, fl_Tape_13, rfl, t_Tape_ok, n_Tape, rfl, by decide +kernel⟩
theorem g_Tape_16 : GF "CopyBench$Tape" 16 7 2 := ⟨R_Tape, F_Tape, 3, rfl, i_Tape, by decide, fl_Tape_16, rfl⟩
theorem g_Tape_9 : GF "CopyBench$Tape" 9 7 0 := ⟨R_Tape, F_Tape, 3, rfl, i_Tape, by decide, fl_Tape_9, rfl⟩
theorem g_Tape_13 : GF "CopyBench$Tape" 13 7 1 := ⟨R_Tape, F_Tape, 3, rfl, i_Tape, by decide, fl_Tape_13, rfl⟩
theorem p_Text_9 : PF "CopyBench$Text" 9 8 0 .int := ⟨R_Text, F_Text, 2, t_Text, rfl, i_Text, by decide, fl_Text_9, rfl, t_Text_ok, n_Text, rfl, by decide +kernel⟩
theorem g_Text_9 : GF "CopyBench$Text" 9 8 0 := ⟨R_Text, F_Text, 2, rfl, i_Text, by decide, fl_Text_9, rfl⟩
theorem g_Text_15 : GF "CopyBench$Text" 15 8 1 := ⟨R_Text, F_Text, 2, rfl, i_Text, by decide, fl_Text_15, rfl⟩
theorem g_Text_25 : GF "CopyBench$Text" 25 1 0 := ⟨R_Exam, F_Exam, 17, rfl, i_Exam, by decide, fl_Text_25, rfl⟩
theorem g_Text_34 : GF "CopyBench$Text" 34 1 7 := ⟨R_Exam, F_Exam, 17, rfl, i_Exam, by decide, fl_Text_34, rfl⟩
theorem mv_Cb_items : MV y_Cb_items k_Cb_items 3 (Option.some FieldType.int) 1 9 := ⟨co_Cb_items, im_Cb_items, se_Cb_items, ini_Cb, by decide +kernel, rfl⟩
theorem mv_Cb_right : MV y_Cb_right k_Cb_right 4 (Option.some FieldType.int) 2 9 := ⟨co_Cb_right, im_Cb_right, se_Cb_right, ini_Cb, by decide +kernel, rfl⟩
theorem mv_Cb_model : MV y_Cb_model k_Cb_model 4 (Option.some FieldType.int) 2 9 := ⟨co_Cb_model, im_Cb_model, se_Cb_model, ini_Cb, by decide +kernel, rfl⟩
theorem mv_Cb_part : MV y_Cb_part k_Cb_part 5 (Option.some FieldType.int) 3 9 := ⟨co_Cb_part, im_Cb_part, se_Cb_part, ini_Cb, by decide +kernel, rfl⟩
theorem mv_Cb_candidate : MV y_Cb_candidate k_Cb_candidate 1 (Option.some FieldType.int) 0 9 := ⟨co_Cb_candidate, im_Cb_candidate, se_Cb_candidate, ini_Cb, by decide +kernel, rfl⟩
theorem mv_Cb_gives : MV y_Cb_gives k_Cb_gives 5 (Option.some FieldType.int) 3 9 := ⟨co_Cb_gives, im_Cb_gives, se_Cb_gives, ini_Cb, by decide +kernel, rfl⟩
theorem mv_Cb_seat : MV y_Cb_seat k_Cb_seat 5 (Option.some FieldType.int) 3 9 := ⟨co_Cb_seat, im_Cb_seat, se_Cb_seat, ini_Cb, by decide +kernel, rfl⟩
theorem mv_Cb_feed : MV y_Cb_feed k_Cb_feed 2 (Option.some FieldType.int) 1 9 := ⟨co_Cb_feed, im_Cb_feed, se_Cb_feed, ini_Cb, by decide +kernel, rfl⟩
theorem mv_Cb_read : MV y_Cb_read k_Cb_read 2 (Option.some FieldType.int) 0 9 := ⟨co_Cb_read, im_Cb_read, se_Cb_read, ini_Cb, by decide +kernel, rfl⟩
theorem mv_Cb_use : MV y_Cb_use k_Cb_use 4 (Option.some FieldType.int) 2 9 := ⟨co_Cb_use, im_Cb_use, se_Cb_use, ini_Cb, by decide +kernel, rfl⟩
theorem mv_Cb_answer : MV y_Cb_answer k_Cb_answer 3 (Option.some FieldType.int) 2 9 := ⟨co_Cb_answer, im_Cb_answer, se_Cb_answer, ini_Cb, by decide +kernel, rfl⟩
theorem mv_Cb_of : MV y_Cb_of k_Cb_of 3 (Option.some FieldType.int) 2 9 := ⟨co_Cb_of, im_Cb_of, se_Cb_of, ini_Cb, by decide +kernel, rfl⟩
theorem mv_Cb_itemOf : MV y_Cb_itemOf k_Cb_itemOf 3 (Option.some FieldType.int) 2 9 := ⟨co_Cb_itemOf, im_Cb_itemOf, se_Cb_itemOf, ini_Cb, by decide +kernel, rfl⟩
theorem mv_Cb_taken : MV y_Cb_taken k_Cb_taken 4 (Option.some FieldType.int) 2 9 := ⟨co_Cb_taken, im_Cb_taken, se_Cb_taken, ini_Cb, by decide +kernel, rfl⟩
theorem mv_Cb_share : MV y_Cb_share k_Cb_share 5 (Option.some FieldType.int) 4 9 := ⟨co_Cb_share, im_Cb_share, se_Cb_share, ini_Cb, by decide +kernel, rfl⟩
theorem mv_Cb_alike : MV y_Cb_alike k_Cb_alike 3 (Option.some FieldType.int) 2 9 := ⟨co_Cb_alike, im_Cb_alike, se_Cb_alike, ini_Cb, by decide +kernel, rfl⟩
theorem mv_Cb_odds : MV y_Cb_odds k_Cb_odds 5 (Option.some FieldType.long) 4 9 := ⟨co_Cb_odds, im_Cb_odds, se_Cb_odds, ini_Cb, by decide +kernel, rfl⟩
theorem mv_Cb_just : MV y_Cb_just k_Cb_just 6 (Option.some FieldType.long) 5 9 := ⟨co_Cb_just, im_Cb_just, se_Cb_just, ini_Cb, by decide +kernel, rfl⟩
theorem mv_Cb_source : MV y_Cb_source k_Cb_source 4 (Option.some FieldType.int) 2 9 := ⟨co_Cb_source, im_Cb_source, se_Cb_source, ini_Cb, by decide +kernel, rfl⟩
theorem mv_Cb_without : MV y_Cb_without k_Cb_without 5 (Option.some FieldType.long) 4 9 := ⟨co_Cb_without, im_Cb_without, se_Cb_without, ini_Cb, by decide +kernel, rfl⟩
theorem mv_Cb_key : MV y_Cb_key k_Cb_key 5 (Option.some FieldType.int) 2 9 := ⟨co_Cb_key, im_Cb_key, se_Cb_key, ini_Cb, by decide +kernel, rfl⟩
theorem mv_Cb_pairs : MV y_Cb_pairs k_Cb_pairs 3 (Option.some FieldType.int) 2 9 := ⟨co_Cb_pairs, im_Cb_pairs, se_Cb_pairs, ini_Cb, by decide +kernel, rfl⟩
theorem mv_Cb_pair : MV y_Cb_pair k_Cb_pair 3 (Option.some FieldType.int) 2 9 := ⟨co_Cb_pair, im_Cb_pair, se_Cb_pair, ini_Cb, by decide +kernel, rfl⟩
theorem mv_Cb_pairOdds : MV y_Cb_pairOdds k_Cb_pairOdds 3 (Option.some FieldType.long) 2 9 := ⟨co_Cb_pairOdds, im_Cb_pairOdds, se_Cb_pairOdds, ini_Cb, by decide +kernel, rfl⟩
theorem mv_Cb_rank : MV y_Cb_rank k_Cb_rank 3 (Option.some FieldType.int) 2 9 := ⟨co_Cb_rank, im_Cb_rank, se_Cb_rank, ini_Cb, by decide +kernel, rfl⟩
theorem mv_Cb_linked : MV y_Cb_linked k_Cb_linked 2 (Option.some FieldType.int) 1 9 := ⟨co_Cb_linked, im_Cb_linked, se_Cb_linked, ini_Cb, by decide +kernel, rfl⟩
theorem mv_Cb_chain : MV y_Cb_chain k_Cb_chain 2 (Option.some FieldType.int) 1 9 := ⟨co_Cb_chain, im_Cb_chain, se_Cb_chain, ini_Cb, by decide +kernel, rfl⟩
theorem mv_Cb_group : MV y_Cb_group k_Cb_group 2 (Option.some FieldType.int) 1 9 := ⟨co_Cb_group, im_Cb_group, se_Cb_group, ini_Cb, by decide +kernel, rfl⟩
theorem mv_Cb_seated : MV y_Cb_seated k_Cb_seated 3 (Option.some FieldType.long) 2 9 := ⟨co_Cb_seated, im_Cb_seated, se_Cb_seated, ini_Cb, by decide +kernel, rfl⟩
theorem mv_Cb_drawn : MV y_Cb_drawn k_Cb_drawn 4 (Option.some FieldType.int) 3 9 := ⟨co_Cb_drawn, im_Cb_drawn, se_Cb_drawn, ini_Cb, by decide +kernel, rfl⟩
theorem mv_Cb_chance : MV y_Cb_chance k_Cb_chance 8 (Option.some FieldType.long) 5 9 := ⟨co_Cb_chance, im_Cb_chance, se_Cb_chance, ini_Cb, by decide +kernel, rfl⟩
theorem mv_Cb_see : MV y_Cb_see k_Cb_see 4 (Option.some FieldType.int) 3 9 := ⟨co_Cb_see, im_Cb_see, se_Cb_see, ini_Cb, by decide +kernel, rfl⟩
theorem mv_Cb_fits : MV y_Cb_fits k_Cb_fits 5 (Option.some FieldType.int) 1 9 := ⟨co_Cb_fits, im_Cb_fits, se_Cb_fits, ini_Cb, by decide +kernel, rfl⟩
theorem mv_Cb_mean : MV y_Cb_mean k_Cb_mean 3 (Option.some FieldType.long) 1 9 := ⟨co_Cb_mean, im_Cb_mean, se_Cb_mean, ini_Cb, by decide +kernel, rfl⟩
theorem mv_Cb_plan : MV y_Cb_plan k_Cb_plan 4 (Option.some FieldType.int) 3 9 := ⟨co_Cb_plan, im_Cb_plan, se_Cb_plan, ini_Cb, by decide +kernel, rfl⟩
theorem mv_Cb_ends : MV y_Cb_ends k_Cb_ends 1 (Option.some FieldType.int) 0 9 := ⟨co_Cb_ends, im_Cb_ends, se_Cb_ends, ini_Cb, by decide +kernel, rfl⟩
theorem mv_Cb_judge : MV y_Cb_judge k_Cb_judge 6 (Option.some FieldType.int) 3 9 := ⟨co_Cb_judge, im_Cb_judge, se_Cb_judge, ini_Cb, by decide +kernel, rfl⟩
theorem mv_Cb_image : MV y_Cb_image k_Cb_image 1 (Option.some FieldType.int) 0 9 := ⟨co_Cb_image, im_Cb_image, se_Cb_image, ini_Cb, by decide +kernel, rfl⟩
theorem mv_Cb_undo : MV y_Cb_undo k_Cb_undo 1 (Option.some FieldType.int) 0 9 := ⟨co_Cb_undo, im_Cb_undo, se_Cb_undo, ini_Cb, by decide +kernel, rfl⟩
theorem mv_Cb_count : MV y_Cb_count k_Cb_count 2 (Option.some FieldType.int) 1 9 := ⟨co_Cb_count, im_Cb_count, se_Cb_count, ini_Cb, by decide +kernel, rfl⟩
theorem mv_Cb_tape : MV y_Cb_tape k_Cb_tape 4 (Option.some FieldType.int) 3 9 := ⟨co_Cb_tape, im_Cb_tape, se_Cb_tape, ini_Cb, by decide +kernel, rfl⟩
theorem mv_Cb_item : MV y_Cb_item k_Cb_item 6 (Option.some FieldType.int) 3 9 := ⟨co_Cb_item, im_Cb_item, se_Cb_item, ini_Cb, by decide +kernel, rfl⟩
theorem mv_Cb_peek : MV y_Cb_peek k_Cb_peek 3 (Option.some FieldType.long) 2 9 := ⟨co_Cb_peek, im_Cb_peek, se_Cb_peek, ini_Cb, by decide +kernel, rfl⟩
theorem mv_Cb_shift : MV y_Cb_shift k_Cb_shift 8 (Option.some FieldType.int) 5 9 := ⟨co_Cb_shift, im_Cb_shift, se_Cb_shift, ini_Cb, by decide +kernel, rfl⟩
theorem mv_Cb_rankNow : MV y_Cb_rankNow k_Cb_rankNow 1 (Option.none : Option FieldType) 0 9 := ⟨co_Cb_rankNow, im_Cb_rankNow, se_Cb_rankNow, ini_Cb, by decide +kernel, rfl⟩
theorem mv_Cb_linkNow : MV y_Cb_linkNow k_Cb_linkNow 1 (Option.none : Option FieldType) 0 9 := ⟨co_Cb_linkNow, im_Cb_linkNow, se_Cb_linkNow, ini_Cb, by decide +kernel, rfl⟩
theorem mv_Cb_orNeither : MS y_Cb_orNeither k_Cb_orNeither 1 (Option.some FieldType.int) 1 := ⟨co_Cb_orNeither, st_Cb_orNeither, ini_Cb, by decide +kernel⟩
theorem mv_Cb_isAnswer : MS y_Cb_isAnswer k_Cb_isAnswer 1 (Option.some FieldType.boolean) 1 := ⟨co_Cb_isAnswer, st_Cb_isAnswer, ini_Cb, by decide +kernel⟩
theorem mv_Cb_isKind : MS y_Cb_isKind k_Cb_isKind 1 (Option.some FieldType.boolean) 1 := ⟨co_Cb_isKind, st_Cb_isKind, ini_Cb, by decide +kernel⟩
theorem mv_Cb_isSupposition : MS y_Cb_isSupposition k_Cb_isSupposition 1 (Option.some FieldType.boolean) 1 := ⟨co_Cb_isSupposition, st_Cb_isSupposition, ini_Cb, by decide +kernel⟩
theorem mv_Cb_isPart : MS y_Cb_isPart k_Cb_isPart 1 (Option.some FieldType.boolean) 1 := ⟨co_Cb_isPart, st_Cb_isPart, ini_Cb, by decide +kernel⟩
theorem mv_Cb_isTape : MS y_Cb_isTape k_Cb_isTape 1 (Option.some FieldType.boolean) 1 := ⟨co_Cb_isTape, st_Cb_isTape, ini_Cb, by decide +kernel⟩
theorem mv_Cb_isOfSort : MS y_Cb_isOfSort k_Cb_isOfSort 2 (Option.some FieldType.boolean) 2 := ⟨co_Cb_isOfSort, st_Cb_isOfSort, ini_Cb, by decide +kernel⟩
theorem mv_Cb_leastUse : MS y_Cb_leastUse k_Cb_leastUse 1 (Option.some FieldType.int) 1 := ⟨co_Cb_leastUse, st_Cb_leastUse, ini_Cb, by decide +kernel⟩
theorem mv_Cb_mostUse : MS y_Cb_mostUse k_Cb_mostUse 1 (Option.some FieldType.int) 1 := ⟨co_Cb_mostUse, st_Cb_mostUse, ini_Cb, by decide +kernel⟩
theorem mv_Md_in : MS y_Md_in k_Md_in 6 (Option.some FieldType.boolean) 3 := ⟨co_Md_in, st_Md_in, ini_Md, by decide +kernel⟩
theorem mv_Md_isItem : MV y_Md_isItem k_Md_isItem 2 (Option.some FieldType.boolean) 1 10 := ⟨co_Md_isItem, im_Md_isItem, se_Md_isItem, ini_Md, by decide +kernel, rfl⟩
theorem mv_Md_isOne : MV y_Md_isOne k_Md_isOne 2 (Option.some FieldType.boolean) 1 10 := ⟨co_Md_isOne, im_Md_isOne, se_Md_isOne, ini_Md, by decide +kernel, rfl⟩
theorem mv_Md_isTwo : MV y_Md_isTwo k_Md_isTwo 3 (Option.some FieldType.boolean) 2 10 := ⟨co_Md_isTwo, im_Md_isTwo, se_Md_isTwo, ini_Md, by decide +kernel, rfl⟩
theorem mv_Md_begins : MV y_Md_begins k_Md_begins 2 (Option.none : Option FieldType) 0 10 := ⟨co_Md_begins, im_Md_begins, se_Md_begins, ini_Md, by decide +kernel, rfl⟩
theorem mv_Md_passes : MV y_Md_passes k_Md_passes 3 (Option.some FieldType.int) 1 10 := ⟨co_Md_passes, im_Md_passes, se_Md_passes, ini_Md, by decide +kernel, rfl⟩
theorem mv_Md_passesRow : MV y_Md_passesRow k_Md_passesRow 3 (Option.none : Option FieldType) 1 10 := ⟨co_Md_passesRow, im_Md_passesRow, se_Md_passesRow, ini_Md, by decide +kernel, rfl⟩
theorem mv_Md_passesAll : MV y_Md_passesAll k_Md_passesAll 2 (Option.some FieldType.int) 1 10 := ⟨co_Md_passesAll, im_Md_passesAll, se_Md_passesAll, ini_Md, by decide +kernel, rfl⟩
theorem mv_Md_image : MV y_Md_image k_Md_image 1 (Option.some FieldType.int) 0 10 := ⟨co_Md_image, im_Md_image, se_Md_image, ini_Md, by decide +kernel, rfl⟩
theorem mv_Md_undo : MV y_Md_undo k_Md_undo 1 (Option.some FieldType.int) 0 10 := ⟨co_Md_undo, im_Md_undo, se_Md_undo, ini_Md, by decide +kernel, rfl⟩
theorem mv_Md_items : MV y_Md_items k_Md_items 3 (Option.some FieldType.int) 1 10 := ⟨co_Md_items, im_Md_items, se_Md_items, ini_Md, by decide +kernel, rfl⟩
theorem mv_Md_right : MV y_Md_right k_Md_right 4 (Option.some FieldType.int) 2 10 := ⟨co_Md_right, im_Md_right, se_Md_right, ini_Md, by decide +kernel, rfl⟩
theorem mv_Md_model : MV y_Md_model k_Md_model 4 (Option.some FieldType.int) 2 10 := ⟨co_Md_model, im_Md_model, se_Md_model, ini_Md, by decide +kernel, rfl⟩
theorem mv_Md_part : MV y_Md_part k_Md_part 5 (Option.some FieldType.int) 3 10 := ⟨co_Md_part, im_Md_part, se_Md_part, ini_Md, by decide +kernel, rfl⟩
theorem mv_Md_candidate : MV y_Md_candidate k_Md_candidate 2 (Option.some FieldType.int) 0 10 := ⟨co_Md_candidate, im_Md_candidate, se_Md_candidate, ini_Md, by decide +kernel, rfl⟩
theorem mv_Md_told : MS y_Md_told k_Md_told 1 (Option.some FieldType.int) 1 := ⟨co_Md_told, st_Md_told, ini_Md, by decide +kernel⟩
theorem mv_Md_gives : MV y_Md_gives k_Md_gives 5 (Option.some FieldType.int) 3 10 := ⟨co_Md_gives, im_Md_gives, se_Md_gives, ini_Md, by decide +kernel, rfl⟩
theorem mv_Md_seat : MV y_Md_seat k_Md_seat 5 (Option.some FieldType.int) 3 10 := ⟨co_Md_seat, im_Md_seat, se_Md_seat, ini_Md, by decide +kernel, rfl⟩
theorem mv_Md_here : MV y_Md_here k_Md_here 1 (Option.some FieldType.int) 0 10 := ⟨co_Md_here, im_Md_here, se_Md_here, ini_Md, by decide +kernel, rfl⟩
theorem mv_Md_clause : MV y_Md_clause k_Md_clause 4 (Option.none : Option FieldType) 1 10 := ⟨co_Md_clause, im_Md_clause, se_Md_clause, ini_Md, by decide +kernel, rfl⟩
theorem mv_Md_goesThrough : MV y_Md_goesThrough k_Md_goesThrough 2 (Option.none : Option FieldType) 1 10 := ⟨co_Md_goesThrough, im_Md_goesThrough, se_Md_goesThrough, ini_Md, by decide +kernel, rfl⟩
theorem mv_Md_feed : MV y_Md_feed k_Md_feed 2 (Option.some FieldType.int) 1 10 := ⟨co_Md_feed, im_Md_feed, se_Md_feed, ini_Md, by decide +kernel, rfl⟩
theorem mv_Md_read : MV y_Md_read k_Md_read 2 (Option.some FieldType.int) 0 10 := ⟨co_Md_read, im_Md_read, se_Md_read, ini_Md, by decide +kernel, rfl⟩
theorem mv_Md_isUse : MS y_Md_isUse k_Md_isUse 2 (Option.some FieldType.boolean) 2 := ⟨co_Md_isUse, st_Md_isUse, ini_Md, by decide +kernel⟩
theorem mv_Md_use : MV y_Md_use k_Md_use 4 (Option.some FieldType.int) 2 10 := ⟨co_Md_use, im_Md_use, se_Md_use, ini_Md, by decide +kernel, rfl⟩
theorem mv_Md_answer : MV y_Md_answer k_Md_answer 3 (Option.some FieldType.int) 2 10 := ⟨co_Md_answer, im_Md_answer, se_Md_answer, ini_Md, by decide +kernel, rfl⟩
theorem mv_Md_gave : MV y_Md_gave k_Md_gave 6 (Option.some FieldType.int) 2 10 := ⟨co_Md_gave, im_Md_gave, se_Md_gave, ini_Md, by decide +kernel, rfl⟩
theorem mv_Md_of : MV y_Md_of k_Md_of 3 (Option.some FieldType.int) 2 10 := ⟨co_Md_of, im_Md_of, se_Md_of, ini_Md, by decide +kernel, rfl⟩
theorem mv_Md_gavers : MV y_Md_gavers k_Md_gavers 7 (Option.some FieldType.int) 4 10 := ⟨co_Md_gavers, im_Md_gavers, se_Md_gavers, ini_Md, by decide +kernel, rfl⟩
theorem mv_Md_givers : MV y_Md_givers k_Md_givers 2 (Option.some FieldType.int) 1 10 := ⟨co_Md_givers, im_Md_givers, se_Md_givers, ini_Md, by decide +kernel, rfl⟩
theorem mv_Md_likedWrong : MV y_Md_likedWrong k_Md_likedWrong 4 (Option.some FieldType.int) 1 10 := ⟨co_Md_likedWrong, im_Md_likedWrong, se_Md_likedWrong, ini_Md, by decide +kernel, rfl⟩
theorem mv_Md_itemOf : MV y_Md_itemOf k_Md_itemOf 3 (Option.some FieldType.int) 2 10 := ⟨co_Md_itemOf, im_Md_itemOf, se_Md_itemOf, ini_Md, by decide +kernel, rfl⟩
theorem mv_Md_taken : MV y_Md_taken k_Md_taken 4 (Option.some FieldType.int) 2 10 := ⟨co_Md_taken, im_Md_taken, se_Md_taken, ini_Md, by decide +kernel, rfl⟩
theorem mv_Md_shareOf : MV y_Md_shareOf k_Md_shareOf 5 (Option.some FieldType.int) 4 10 := ⟨co_Md_shareOf, im_Md_shareOf, se_Md_shareOf, ini_Md, by decide +kernel, rfl⟩
theorem mv_Md_sumBut : MV y_Md_sumBut k_Md_sumBut 7 (Option.some FieldType.int) 4 10 := ⟨co_Md_sumBut, im_Md_sumBut, se_Md_sumBut, ini_Md, by decide +kernel, rfl⟩
theorem mv_Md_share : MV y_Md_share k_Md_share 5 (Option.some FieldType.int) 4 10 := ⟨co_Md_share, im_Md_share, se_Md_share, ini_Md, by decide +kernel, rfl⟩
theorem mv_Md_worth : MV y_Md_worth k_Md_worth 3 (Option.some FieldType.int) 2 10 := ⟨co_Md_worth, im_Md_worth, se_Md_worth, ini_Md, by decide +kernel, rfl⟩
theorem mv_Md_likeness : MV y_Md_likeness k_Md_likeness 7 (Option.some FieldType.int) 3 10 := ⟨co_Md_likeness, im_Md_likeness, se_Md_likeness, ini_Md, by decide +kernel, rfl⟩
theorem mv_Md_alike : MV y_Md_alike k_Md_alike 3 (Option.some FieldType.int) 2 10 := ⟨co_Md_alike, im_Md_alike, se_Md_alike, ini_Md, by decide +kernel, rfl⟩
theorem mv_Md_adds : MV y_Md_adds k_Md_adds 5 (Option.none : Option FieldType) 2 10 := ⟨co_Md_adds, im_Md_adds, se_Md_adds, ini_Md, by decide +kernel, rfl⟩
theorem mv_Md_comes : MV y_Md_comes k_Md_comes 21 (Option.none : Option FieldType) 4 10 := ⟨co_Md_comes, im_Md_comes, se_Md_comes, ini_Md, by decide +kernel, rfl⟩
theorem mv_Md_spreads : MV y_Md_spreads k_Md_spreads 6 (Option.none : Option FieldType) 4 10 := ⟨co_Md_spreads, im_Md_spreads, se_Md_spreads, ini_Md, by decide +kernel, rfl⟩
theorem mv_Md_asMuch : MV y_Md_asMuch k_Md_asMuch 8 (Option.some FieldType.long) 4 10 := ⟨co_Md_asMuch, im_Md_asMuch, se_Md_asMuch, ini_Md, by decide +kernel, rfl⟩
theorem mv_Md_lowest : MS y_Md_lowest k_Md_lowest 11 (Option.some FieldType.long) 3 := ⟨co_Md_lowest, st_Md_lowest, ini_Md, by decide +kernel⟩
theorem mv_Md_odds : MV y_Md_odds k_Md_odds 7 (Option.some FieldType.long) 4 10 := ⟨co_Md_odds, im_Md_odds, se_Md_odds, ini_Md, by decide +kernel, rfl⟩
theorem mv_Md_just : MV y_Md_just k_Md_just 6 (Option.some FieldType.long) 5 10 := ⟨co_Md_just, im_Md_just, se_Md_just, ini_Md, by decide +kernel, rfl⟩
theorem mv_Md_compares : MS y_Md_compares k_Md_compares 25 (Option.some FieldType.int) 4 := ⟨co_Md_compares, st_Md_compares, ini_Md, by decide +kernel⟩
theorem mv_Md_source : MV y_Md_source k_Md_source 10 (Option.some FieldType.int) 2 10 := ⟨co_Md_source, im_Md_source, se_Md_source, ini_Md, by decide +kernel, rfl⟩
theorem mv_Md_without : MV y_Md_without k_Md_without 7 (Option.some FieldType.long) 4 10 := ⟨co_Md_without, im_Md_without, se_Md_without, ini_Md, by decide +kernel, rfl⟩
theorem mv_Md_key : MV y_Md_key k_Md_key 11 (Option.some FieldType.int) 2 10 := ⟨co_Md_key, im_Md_key, se_Md_key, ini_Md, by decide +kernel, rfl⟩
theorem mv_Md_isNear : MV y_Md_isNear k_Md_isNear 4 (Option.some FieldType.boolean) 3 10 := ⟨co_Md_isNear, im_Md_isNear, se_Md_isNear, ini_Md, by decide +kernel, rfl⟩
theorem mv_Md_puts : MV y_Md_puts k_Md_puts 8 (Option.none : Option FieldType) 4 10 := ⟨co_Md_puts, im_Md_puts, se_Md_puts, ini_Md, by decide +kernel, rfl⟩
theorem mv_Md_putsPair : MV y_Md_putsPair k_Md_putsPair 9 (Option.none : Option FieldType) 2 10 := ⟨co_Md_putsPair, im_Md_putsPair, se_Md_putsPair, ini_Md, by decide +kernel, rfl⟩
theorem mv_Md_isLow : MV y_Md_isLow k_Md_isLow 4 (Option.some FieldType.boolean) 3 10 := ⟨co_Md_isLow, im_Md_isLow, se_Md_isLow, ini_Md, by decide +kernel, rfl⟩
theorem mv_Md_orders : MV y_Md_orders k_Md_orders 3 (Option.none : Option FieldType) 0 10 := ⟨co_Md_orders, im_Md_orders, se_Md_orders, ini_Md, by decide +kernel, rfl⟩
theorem mv_Md_suspects : MV y_Md_suspects k_Md_suspects 3 (Option.some FieldType.int) 0 10 := ⟨co_Md_suspects, im_Md_suspects, se_Md_suspects, ini_Md, by decide +kernel, rfl⟩
theorem mv_Md_near : MV y_Md_near k_Md_near 5 (Option.some FieldType.int) 1 10 := ⟨co_Md_near, im_Md_near, se_Md_near, ini_Md, by decide +kernel, rfl⟩
theorem mv_Md_binds : MV y_Md_binds k_Md_binds 2 (Option.none : Option FieldType) 0 10 := ⟨co_Md_binds, im_Md_binds, se_Md_binds, ini_Md, by decide +kernel, rfl⟩
theorem mv_Md_common : MV y_Md_common k_Md_common 4 (Option.some FieldType.int) 1 10 := ⟨co_Md_common, im_Md_common, se_Md_common, ini_Md, by decide +kernel, rfl⟩
theorem mv_Md_isGroup : MV y_Md_isGroup k_Md_isGroup 3 (Option.some FieldType.boolean) 1 10 := ⟨co_Md_isGroup, im_Md_isGroup, se_Md_isGroup, ini_Md, by decide +kernel, rfl⟩
theorem mv_Md_grouped : MV y_Md_grouped k_Md_grouped 4 (Option.some FieldType.int) 1 10 := ⟨co_Md_grouped, im_Md_grouped, se_Md_grouped, ini_Md, by decide +kernel, rfl⟩
theorem mv_Md_greatest : MV y_Md_greatest k_Md_greatest 3 (Option.some FieldType.int) 0 10 := ⟨co_Md_greatest, im_Md_greatest, se_Md_greatest, ini_Md, by decide +kernel, rfl⟩
theorem mv_Md_pairs : MV y_Md_pairs k_Md_pairs 3 (Option.some FieldType.int) 2 10 := ⟨co_Md_pairs, im_Md_pairs, se_Md_pairs, ini_Md, by decide +kernel, rfl⟩
theorem mv_Md_pair : MV y_Md_pair k_Md_pair 3 (Option.some FieldType.int) 2 10 := ⟨co_Md_pair, im_Md_pair, se_Md_pair, ini_Md, by decide +kernel, rfl⟩
theorem mv_Md_pairOdds : MV y_Md_pairOdds k_Md_pairOdds 3 (Option.some FieldType.long) 2 10 := ⟨co_Md_pairOdds, im_Md_pairOdds, se_Md_pairOdds, ini_Md, by decide +kernel, rfl⟩
theorem mv_Md_ranked : MV y_Md_ranked k_Md_ranked 4 (Option.some FieldType.int) 2 10 := ⟨co_Md_ranked, im_Md_ranked, se_Md_ranked, ini_Md, by decide +kernel, rfl⟩
theorem mv_Md_rank : MV y_Md_rank k_Md_rank 3 (Option.some FieldType.int) 2 10 := ⟨co_Md_rank, im_Md_rank, se_Md_rank, ini_Md, by decide +kernel, rfl⟩
theorem mv_Md_linked : MV y_Md_linked k_Md_linked 2 (Option.some FieldType.int) 1 10 := ⟨co_Md_linked, im_Md_linked, se_Md_linked, ini_Md, by decide +kernel, rfl⟩
theorem mv_Md_chain : MV y_Md_chain k_Md_chain 5 (Option.some FieldType.int) 1 10 := ⟨co_Md_chain, im_Md_chain, se_Md_chain, ini_Md, by decide +kernel, rfl⟩
theorem mv_Md_group : MV y_Md_group k_Md_group 2 (Option.some FieldType.int) 1 10 := ⟨co_Md_group, im_Md_group, se_Md_group, ini_Md, by decide +kernel, rfl⟩
theorem mv_Md_nearNow : MV y_Md_nearNow k_Md_nearNow 6 (Option.some FieldType.int) 1 10 := ⟨co_Md_nearNow, im_Md_nearNow, se_Md_nearNow, ini_Md, by decide +kernel, rfl⟩
theorem mv_Md_placeOf : MV y_Md_placeOf k_Md_placeOf 3 (Option.some FieldType.int) 1 10 := ⟨co_Md_placeOf, im_Md_placeOf, se_Md_placeOf, ini_Md, by decide +kernel, rfl⟩
theorem mv_Md_turns : MV y_Md_turns k_Md_turns 5 (Option.some FieldType.boolean) 0 10 := ⟨co_Md_turns, im_Md_turns, se_Md_turns, ini_Md, by decide +kernel, rfl⟩
theorem mv_Md_exchange : MV y_Md_exchange k_Md_exchange 4 (Option.none : Option FieldType) 2 10 := ⟨co_Md_exchange, im_Md_exchange, se_Md_exchange, ini_Md, by decide +kernel, rfl⟩
theorem mv_Md_seated : MV y_Md_seated k_Md_seated 8 (Option.some FieldType.long) 2 10 := ⟨co_Md_seated, im_Md_seated, se_Md_seated, ini_Md, by decide +kernel, rfl⟩
theorem mv_Md_draw : MV y_Md_draw k_Md_draw 2 (Option.some FieldType.int) 1 10 := ⟨co_Md_draw, im_Md_draw, se_Md_draw, ini_Md, by decide +kernel, rfl⟩
theorem mv_Md_answersAnew : MV y_Md_answersAnew k_Md_answersAnew 6 (Option.some FieldType.int) 3 10 := ⟨co_Md_answersAnew, im_Md_answersAnew, se_Md_answersAnew, ini_Md, by decide +kernel, rfl⟩
theorem mv_Md_drawnBy : MV y_Md_drawnBy k_Md_drawnBy 8 (Option.some FieldType.int) 3 10 := ⟨co_Md_drawnBy, im_Md_drawnBy, se_Md_drawnBy, ini_Md, by decide +kernel, rfl⟩
theorem mv_Md_drawn : MV y_Md_drawn k_Md_drawn 4 (Option.some FieldType.int) 3 10 := ⟨co_Md_drawn, im_Md_drawn, se_Md_drawn, ini_Md, by decide +kernel, rfl⟩
theorem mv_Md_chance : MV y_Md_chance k_Md_chance 8 (Option.some FieldType.long) 5 10 := ⟨co_Md_chance, im_Md_chance, se_Md_chance, ini_Md, by decide +kernel, rfl⟩
theorem mv_Md_see : MV y_Md_see k_Md_see 4 (Option.some FieldType.int) 3 10 := ⟨co_Md_see, im_Md_see, se_Md_see, ini_Md, by decide +kernel, rfl⟩
theorem mv_Md_isAllSeen : MV y_Md_isAllSeen k_Md_isAllSeen 3 (Option.some FieldType.boolean) 0 10 := ⟨co_Md_isAllSeen, im_Md_isAllSeen, se_Md_isAllSeen, ini_Md, by decide +kernel, rfl⟩
theorem mv_Md_fits : MV y_Md_fits k_Md_fits 6 (Option.some FieldType.int) 1 10 := ⟨co_Md_fits, im_Md_fits, se_Md_fits, ini_Md, by decide +kernel, rfl⟩
theorem mv_Md_mean : MV y_Md_mean k_Md_mean 5 (Option.some FieldType.long) 1 10 := ⟨co_Md_mean, im_Md_mean, se_Md_mean, ini_Md, by decide +kernel, rfl⟩
theorem mv_Md_plan : MV y_Md_plan k_Md_plan 4 (Option.some FieldType.int) 3 10 := ⟨co_Md_plan, im_Md_plan, se_Md_plan, ini_Md, by decide +kernel, rfl⟩
theorem mv_Md_copies : MS y_Md_copies k_Md_copies 3 (Option.none : Option FieldType) 2 := ⟨co_Md_copies, st_Md_copies, ini_Md, by decide +kernel⟩
theorem mv_Md_goes : MV y_Md_goes k_Md_goes 5 (Option.none : Option FieldType) 3 10 := ⟨co_Md_goes, im_Md_goes, se_Md_goes, ini_Md, by decide +kernel, rfl⟩
theorem mv_Md_ends : MV y_Md_ends k_Md_ends 2 (Option.some FieldType.int) 0 10 := ⟨co_Md_ends, im_Md_ends, se_Md_ends, ini_Md, by decide +kernel, rfl⟩
theorem mv_Md_isTape : MS y_Md_isTape k_Md_isTape 1 (Option.some FieldType.boolean) 1 := ⟨co_Md_isTape, st_Md_isTape, ini_Md, by decide +kernel⟩
theorem mv_Md_judge : MV y_Md_judge k_Md_judge 5 (Option.some FieldType.int) 3 10 := ⟨co_Md_judge, im_Md_judge, se_Md_judge, ini_Md, by decide +kernel, rfl⟩
theorem mv_Md_seatedOnes : MV y_Md_seatedOnes k_Md_seatedOnes 3 (Option.some FieldType.int) 0 10 := ⟨co_Md_seatedOnes, im_Md_seatedOnes, se_Md_seatedOnes, ini_Md, by decide +kernel, rfl⟩
theorem mv_Md_count : MV y_Md_count k_Md_count 2 (Option.some FieldType.int) 1 10 := ⟨co_Md_count, im_Md_count, se_Md_count, ini_Md, by decide +kernel, rfl⟩
theorem mv_Md_tape : MV y_Md_tape k_Md_tape 5 (Option.some FieldType.int) 3 10 := ⟨co_Md_tape, im_Md_tape, se_Md_tape, ini_Md, by decide +kernel, rfl⟩
theorem mv_Md_fit : MS y_Md_fit k_Md_fit 3 (Option.some FieldType.long) 2 := ⟨co_Md_fit, st_Md_fit, ini_Md, by decide +kernel⟩
theorem mv_Md_item : MV y_Md_item k_Md_item 5 (Option.some FieldType.int) 3 10 := ⟨co_Md_item, im_Md_item, se_Md_item, ini_Md, by decide +kernel, rfl⟩
theorem mv_Md_peek : MV y_Md_peek k_Md_peek 3 (Option.some FieldType.long) 2 10 := ⟨co_Md_peek, im_Md_peek, se_Md_peek, ini_Md, by decide +kernel, rfl⟩
theorem mv_Md_shift : MV y_Md_shift k_Md_shift 7 (Option.some FieldType.int) 5 10 := ⟨co_Md_shift, im_Md_shift, se_Md_shift, ini_Md, by decide +kernel, rfl⟩
theorem mv_Draws_likeness : MV y_Draws_likeness k_Draws_likeness 10 (Option.some FieldType.int) 5 0 := ⟨co_Draws_likeness, im_Draws_likeness, se_Draws_likeness, ini_Draws, by decide +kernel, rfl⟩
theorem mv_Draws_anAnswer : MV y_Draws_anAnswer k_Draws_anAnswer 5 (Option.some FieldType.int) 1 0 := ⟨co_Draws_anAnswer, im_Draws_anAnswer, se_Draws_anAnswer, ini_Draws, by decide +kernel, rfl⟩
theorem mv_Draws_below : MV y_Draws_below k_Draws_below 2 (Option.some FieldType.int) 1 0 := ⟨co_Draws_below, im_Draws_below, se_Draws_below, ini_Draws, by decide +kernel, rfl⟩
theorem mv_Exam_begin : MV y_Exam_begin k_Exam_begin 4 (Option.none : Option FieldType) 1 1 := ⟨co_Exam_begin, im_Exam_begin, se_Exam_begin, ini_Exam, by decide +kernel, rfl⟩
theorem mv_Exam_copy : MV y_Exam_copy k_Exam_copy 3 (Option.none : Option FieldType) 1 1 := ⟨co_Exam_copy, im_Exam_copy, se_Exam_copy, ini_Exam, by decide +kernel, rfl⟩
theorem mv_Exam_hasItem : MV y_Exam_hasItem k_Exam_hasItem 2 (Option.some FieldType.boolean) 1 1 := ⟨co_Exam_hasItem, im_Exam_hasItem, se_Exam_hasItem, ini_Exam, by decide +kernel, rfl⟩
theorem mv_Exam_hasCandidate : MV y_Exam_hasCandidate k_Exam_hasCandidate 2 (Option.some FieldType.boolean) 1 1 := ⟨co_Exam_hasCandidate, im_Exam_hasCandidate, se_Exam_hasCandidate, ini_Exam, by decide +kernel, rfl⟩
theorem mv_Exam_hasTwo : MV y_Exam_hasTwo k_Exam_hasTwo 3 (Option.some FieldType.boolean) 2 1 := ⟨co_Exam_hasTwo, im_Exam_hasTwo, se_Exam_hasTwo, ini_Exam, by decide +kernel, rfl⟩
theorem mv_Exam_comes : MV y_Exam_comes k_Exam_comes 1 (Option.some FieldType.int) 0 1 := ⟨co_Exam_comes, im_Exam_comes, se_Exam_comes, ini_Exam, by decide +kernel, rfl⟩
theorem mv_Exam_leaveBlank : MV y_Exam_leaveBlank k_Exam_leaveBlank 3 (Option.none : Option FieldType) 1 1 := ⟨co_Exam_leaveBlank, im_Exam_leaveBlank, se_Exam_leaveBlank, ini_Exam, by decide +kernel, rfl⟩
theorem mv_Exam_sits : MV y_Exam_sits k_Exam_sits 4 (Option.none : Option FieldType) 3 1 := ⟨co_Exam_sits, im_Exam_sits, se_Exam_sits, ini_Exam, by decide +kernel, rfl⟩
theorem mv_Exam_hasSeat : MV y_Exam_hasSeat k_Exam_hasSeat 2 (Option.some FieldType.boolean) 1 1 := ⟨co_Exam_hasSeat, im_Exam_hasSeat, se_Exam_hasSeat, ini_Exam, by decide +kernel, rfl⟩
theorem mv_Exam_whoSits : MV y_Exam_whoSits k_Exam_whoSits 4 (Option.some FieldType.int) 2 1 := ⟨co_Exam_whoSits, im_Exam_whoSits, se_Exam_whoSits, ini_Exam, by decide +kernel, rfl⟩
theorem mv_Exam_seatedOnes : MV y_Exam_seatedOnes k_Exam_seatedOnes 3 (Option.some FieldType.int) 0 1 := ⟨co_Exam_seatedOnes, im_Exam_seatedOnes, se_Exam_seatedOnes, ini_Exam, by decide +kernel, rfl⟩
theorem mv_Exam_answersOf : MV y_Exam_answersOf k_Exam_answersOf 4 (Option.some FieldType.int) 1 1 := ⟨co_Exam_answersOf, im_Exam_answersOf, se_Exam_answersOf, ini_Exam, by decide +kernel, rfl⟩
theorem mv_Exam_rightOnesOf : MV y_Exam_rightOnesOf k_Exam_rightOnesOf 4 (Option.some FieldType.int) 1 1 := ⟨co_Exam_rightOnesOf, im_Exam_rightOnesOf, se_Exam_rightOnesOf, ini_Exam, by decide +kernel, rfl⟩
theorem mv_Exam_howMany : MV y_Exam_howMany k_Exam_howMany 5 (Option.some FieldType.int) 2 1 := ⟨co_Exam_howMany, im_Exam_howMany, se_Exam_howMany, ini_Exam, by decide +kernel, rfl⟩
theorem mv_Exam_answersTo : MV y_Exam_answersTo k_Exam_answersTo 2 (Option.some FieldType.int) 1 1 := ⟨co_Exam_answersTo, im_Exam_answersTo, se_Exam_answersTo, ini_Exam, by decide +kernel, rfl⟩
theorem mv_Exam_favouriteMistake : MV y_Exam_favouriteMistake k_Exam_favouriteMistake 6 (Option.some FieldType.int) 1 1 := ⟨co_Exam_favouriteMistake, im_Exam_favouriteMistake, se_Exam_favouriteMistake, ini_Exam, by decide +kernel, rfl⟩
theorem mv_Exam_bothGave : MV y_Exam_bothGave k_Exam_bothGave 4 (Option.some FieldType.boolean) 3 1 := ⟨co_Exam_bothGave, im_Exam_bothGave, se_Exam_bothGave, ini_Exam, by decide +kernel, rfl⟩
theorem mv_Exam_worth : MV y_Exam_worth k_Exam_worth 3 (Option.some FieldType.int) 2 1 := ⟨co_Exam_worth, im_Exam_worth, se_Exam_worth, ini_Exam, by decide +kernel, rfl⟩
theorem mv_Exam_likenessAt : MV y_Exam_likenessAt k_Exam_likenessAt 5 (Option.some FieldType.int) 3 1 := ⟨co_Exam_likenessAt, im_Exam_likenessAt, se_Exam_likenessAt, ini_Exam, by decide +kernel, rfl⟩
theorem mv_Exam_likeness : MV y_Exam_likeness k_Exam_likeness 5 (Option.some FieldType.int) 2 1 := ⟨co_Exam_likeness, im_Exam_likeness, se_Exam_likeness, ini_Exam, by decide +kernel, rfl⟩
theorem mv_Exam_near : MV y_Exam_near k_Exam_near 4 (Option.some FieldType.boolean) 3 1 := ⟨co_Exam_near, im_Exam_near, se_Exam_near, ini_Exam, by decide +kernel, rfl⟩
theorem mv_Exam_nearOnes : MV y_Exam_nearOnes k_Exam_nearOnes 5 (Option.some FieldType.int) 1 1 := ⟨co_Exam_nearOnes, im_Exam_nearOnes, se_Exam_nearOnes, ini_Exam, by decide +kernel, rfl⟩
theorem mv_Exam_inReach : MV y_Exam_inReach k_Exam_inReach 3 (Option.some FieldType.boolean) 2 1 := ⟨co_Exam_inReach, im_Exam_inReach, se_Exam_inReach, ini_Exam, by decide +kernel, rfl⟩
theorem mv_Exam_pairsInReach : MV y_Exam_pairsInReach k_Exam_pairsInReach 1 (Option.some FieldType.int) 0 1 := ⟨co_Exam_pairsInReach, im_Exam_pairsInReach, se_Exam_pairsInReach, ini_Exam, by decide +kernel, rfl⟩
theorem mv_Exam_likenessInReach : MV y_Exam_likenessInReach k_Exam_likenessInReach 4 (Option.some FieldType.int) 0 1 := ⟨co_Exam_likenessInReach, im_Exam_likenessInReach, se_Exam_likenessInReach, ini_Exam, by decide +kernel, rfl⟩
theorem mv_Exam_sees : MV y_Exam_sees k_Exam_sees 4 (Option.some FieldType.int) 3 1 := ⟨co_Exam_sees, im_Exam_sees, se_Exam_sees, ini_Exam, by decide +kernel, rfl⟩
theorem mv_Exam_canPlan : MV y_Exam_canPlan k_Exam_canPlan 4 (Option.some FieldType.boolean) 3 1 := ⟨co_Exam_canPlan, im_Exam_canPlan, se_Exam_canPlan, ini_Exam, by decide +kernel, rfl⟩
theorem mv_Exam_plans : MV y_Exam_plans k_Exam_plans 4 (Option.some FieldType.int) 3 1 := ⟨co_Exam_plans, im_Exam_plans, se_Exam_plans, ini_Exam, by decide +kernel, rfl⟩
theorem mv_Exam_followPlan : MV y_Exam_followPlan k_Exam_followPlan 2 (Option.none : Option FieldType) 0 1 := ⟨co_Exam_followPlan, im_Exam_followPlan, se_Exam_followPlan, ini_Exam, by decide +kernel, rfl⟩
theorem mv_Exam_follow : MV y_Exam_follow k_Exam_follow 4 (Option.none : Option FieldType) 3 1 := ⟨co_Exam_follow, im_Exam_follow, se_Exam_follow, ini_Exam, by decide +kernel, rfl⟩
theorem mv_Links_take : MV y_Links_take k_Links_take 5 (Option.none : Option FieldType) 1 2 := ⟨co_Links_take, im_Links_take, se_Links_take, ini_Links, by decide +kernel, rfl⟩
theorem mv_Links_areSuspect : MV y_Links_areSuspect k_Links_areSuspect 3 (Option.some FieldType.boolean) 2 2 := ⟨co_Links_areSuspect, im_Links_areSuspect, se_Links_areSuspect, ini_Links, by decide +kernel, rfl⟩
theorem mv_Links_reachedFrom : MV y_Links_reachedFrom k_Links_reachedFrom 5 (Option.some FieldType.int) 1 2 := ⟨co_Links_reachedFrom, im_Links_reachedFrom, se_Links_reachedFrom, ini_Links, by decide +kernel, rfl⟩
theorem mv_Links_groups : MV y_Links_groups k_Links_groups 3 (Option.some FieldType.int) 0 2 := ⟨co_Links_groups, im_Links_groups, se_Links_groups, ini_Links, by decide +kernel, rfl⟩
theorem mv_Links_greatest : MV y_Links_greatest k_Links_greatest 3 (Option.some FieldType.int) 0 2 := ⟨co_Links_greatest, im_Links_greatest, se_Links_greatest, ini_Links, by decide +kernel, rfl⟩
theorem mv_Links_groupAt : MV y_Links_groupAt k_Links_groupAt 4 (Option.some FieldType.int) 1 2 := ⟨co_Links_groupAt, im_Links_groupAt, se_Links_groupAt, ini_Links, by decide +kernel, rfl⟩
theorem mv_Links_isGroup : MV y_Links_isGroup k_Links_isGroup 4 (Option.some FieldType.boolean) 1 2 := ⟨co_Links_isGroup, im_Links_isGroup, se_Links_isGroup, ini_Links, by decide +kernel, rfl⟩
theorem mv_Odds_asGreat : MV y_Odds_asGreat k_Odds_asGreat 6 (Option.none : Option FieldType) 5 3 := ⟨co_Odds_asGreat, im_Odds_asGreat, se_Odds_asGreat, ini_Odds, by decide +kernel, rfl⟩
theorem mv_Odds_asGreatWithout : MV y_Odds_asGreatWithout k_Odds_asGreatWithout 6 (Option.none : Option FieldType) 5 3 := ⟨co_Odds_asGreatWithout, im_Odds_asGreatWithout, se_Odds_asGreatWithout, ini_Odds, by decide +kernel, rfl⟩
theorem mv_Odds_exactly : MV y_Odds_exactly k_Odds_exactly 7 (Option.none : Option FieldType) 6 3 := ⟨co_Odds_exactly, im_Odds_exactly, se_Odds_exactly, ini_Odds, by decide +kernel, rfl⟩
theorem mv_Odds_takeShares : MV y_Odds_takeShares k_Odds_takeShares 7 (Option.none : Option FieldType) 4 3 := ⟨co_Odds_takeShares, im_Odds_takeShares, se_Odds_takeShares, ini_Odds, by decide +kernel, rfl⟩
theorem mv_Odds_learn : MV y_Odds_learn k_Odds_learn 7 (Option.none : Option FieldType) 4 3 := ⟨co_Odds_learn, im_Odds_learn, se_Odds_learn, ini_Odds, by decide +kernel, rfl⟩
theorem mv_Odds_putTail : MV y_Odds_putTail k_Odds_putTail 5 (Option.none : Option FieldType) 1 3 := ⟨co_Odds_putTail, im_Odds_putTail, se_Odds_putTail, ini_Odds, by decide +kernel, rfl⟩
theorem mv_Odds_spread : MV y_Odds_spread k_Odds_spread 10 (Option.none : Option FieldType) 5 3 := ⟨co_Odds_spread, im_Odds_spread, se_Odds_spread, ini_Odds, by decide +kernel, rfl⟩
theorem mv_Odds_addItem : MV y_Odds_addItem k_Odds_addItem 9 (Option.none : Option FieldType) 3 3 := ⟨co_Odds_addItem, im_Odds_addItem, se_Odds_addItem, ini_Odds, by decide +kernel, rfl⟩
theorem mv_Odds_weigh : MV y_Odds_weigh k_Odds_weigh 9 (Option.none : Option FieldType) 5 3 := ⟨co_Odds_weigh, im_Odds_weigh, se_Odds_weigh, ini_Odds, by decide +kernel, rfl⟩
theorem mv_Odds_weighGiven : MV y_Odds_weighGiven k_Odds_weighGiven 6 (Option.none : Option FieldType) 3 3 := ⟨co_Odds_weighGiven, im_Odds_weighGiven, se_Odds_weighGiven, ini_Odds, by decide +kernel, rfl⟩
theorem mv_Odds_weighBound : MV y_Odds_weighBound k_Odds_weighBound 4 (Option.none : Option FieldType) 3 3 := ⟨co_Odds_weighBound, im_Odds_weighBound, se_Odds_weighBound, ini_Odds, by decide +kernel, rfl⟩
theorem mv_Odds_put : MV y_Odds_put k_Odds_put 7 (Option.none : Option FieldType) 3 3 := ⟨co_Odds_put, im_Odds_put, se_Odds_put, ini_Odds, by decide +kernel, rfl⟩
theorem mv_Odds_wrongSquares : MV y_Odds_wrongSquares k_Odds_wrongSquares 5 (Option.some FieldType.long) 1 3 := ⟨co_Odds_wrongSquares, im_Odds_wrongSquares, se_Odds_wrongSquares, ini_Odds, by decide +kernel, rfl⟩
theorem mv_Ranking_has : MV y_Ranking_has k_Ranking_has 2 (Option.some FieldType.boolean) 1 4 := ⟨co_Ranking_has, im_Ranking_has, se_Ranking_has, ini_Ranking, by decide +kernel, rfl⟩
theorem mv_Ranking_order : MV y_Ranking_order k_Ranking_order 6 (Option.none : Option FieldType) 3 4 := ⟨co_Ranking_order, im_Ranking_order, se_Ranking_order, ini_Ranking, by decide +kernel, rfl⟩
theorem mv_Ranking_placeOf : MV y_Ranking_placeOf k_Ranking_placeOf 6 (Option.some FieldType.int) 2 4 := ⟨co_Ranking_placeOf, im_Ranking_placeOf, se_Ranking_placeOf, ini_Ranking, by decide +kernel, rfl⟩
theorem mv_Ranking_agrees : MV y_Ranking_agrees k_Ranking_agrees 5 (Option.some FieldType.boolean) 1 4 := ⟨co_Ranking_agrees, im_Ranking_agrees, se_Ranking_agrees, ini_Ranking, by decide +kernel, rfl⟩
theorem mv_Ranking_weighPair : MV y_Ranking_weighPair k_Ranking_weighPair 6 (Option.none : Option FieldType) 5 4 := ⟨co_Ranking_weighPair, im_Ranking_weighPair, se_Ranking_weighPair, ini_Ranking, by decide +kernel, rfl⟩
theorem mv_Ranking_insert : MV y_Ranking_insert k_Ranking_insert 4 (Option.none : Option FieldType) 2 4 := ⟨co_Ranking_insert, im_Ranking_insert, se_Ranking_insert, ini_Ranking, by decide +kernel, rfl⟩
theorem mv_Ranking_countSuspects : MV y_Ranking_countSuspects k_Ranking_countSuspects 4 (Option.some FieldType.int) 2 4 := ⟨co_Ranking_countSuspects, im_Ranking_countSuspects, se_Ranking_countSuspects, ini_Ranking, by decide +kernel, rfl⟩
theorem mv_Ranking_holds : MV y_Ranking_holds k_Ranking_holds 6 (Option.some FieldType.boolean) 3 4 := ⟨co_Ranking_holds, im_Ranking_holds, se_Ranking_holds, ini_Ranking, by decide +kernel, rfl⟩
theorem mv_Ratio_put : MV y_Ratio_put k_Ratio_put 7 (Option.none : Option FieldType) 2 5 := ⟨co_Ratio_put, im_Ratio_put, se_Ratio_put, ini_Ratio, by decide +kernel, rfl⟩
theorem mv_Ratio_copy : MV y_Ratio_copy k_Ratio_copy 2 (Option.none : Option FieldType) 1 5 := ⟨co_Ratio_copy, im_Ratio_copy, se_Ratio_copy, ini_Ratio, by decide +kernel, rfl⟩
theorem mv_Ratio_half : MV y_Ratio_half k_Ratio_half 2 (Option.some FieldType.long) 1 5 := ⟨co_Ratio_half, im_Ratio_half, se_Ratio_half, ini_Ratio, by decide +kernel, rfl⟩
theorem mv_Ratio_against : MV y_Ratio_against k_Ratio_against 2 (Option.some FieldType.int) 1 5 := ⟨co_Ratio_against, im_Ratio_against, se_Ratio_against, ini_Ratio, by decide +kernel, rfl⟩
theorem mv_Ratio_commonDivisor : MS y_Ratio_commonDivisor k_Ratio_commonDivisor 7 (Option.some FieldType.long) 2 := ⟨co_Ratio_commonDivisor, st_Ratio_commonDivisor, ini_Ratio, by decide +kernel⟩
theorem mv_Ratio_compare : MS y_Ratio_compare k_Ratio_compare 18 (Option.some FieldType.int) 4 := ⟨co_Ratio_compare, st_Ratio_compare, ini_Ratio, by decide +kernel⟩
theorem mv_Seating_ways : MV y_Seating_ways k_Seating_ways 9 (Option.none : Option FieldType) 4 6 := ⟨co_Seating_ways, im_Seating_ways, se_Seating_ways, ini_Seating, by decide +kernel, rfl⟩
theorem mv_Seating_gather : MV y_Seating_gather k_Seating_gather 3 (Option.none : Option FieldType) 1 6 := ⟨co_Seating_gather, im_Seating_gather, se_Seating_gather, ini_Seating, by decide +kernel, rfl⟩
theorem mv_Seating_relate : MV y_Seating_relate k_Seating_relate 6 (Option.none : Option FieldType) 3 6 := ⟨co_Seating_relate, im_Seating_relate, se_Seating_relate, ini_Seating, by decide +kernel, rfl⟩
theorem mv_Seating_nearSuspects : MV y_Seating_nearSuspects k_Seating_nearSuspects 4 (Option.some FieldType.int) 0 6 := ⟨co_Seating_nearSuspects, im_Seating_nearSuspects, se_Seating_nearSuspects, ini_Seating, by decide +kernel, rfl⟩
theorem mv_Seating_nextWay : MV y_Seating_nextWay k_Seating_nextWay 5 (Option.some FieldType.boolean) 0 6 := ⟨co_Seating_nextWay, im_Seating_nextWay, se_Seating_nextWay, ini_Seating, by decide +kernel, rfl⟩
theorem mv_Seating_swap : MV y_Seating_swap k_Seating_swap 4 (Option.none : Option FieldType) 2 6 := ⟨co_Seating_swap, im_Seating_swap, se_Seating_swap, ini_Seating, by decide +kernel, rfl⟩
theorem mv_Tape_begin : MV y_Tape_begin k_Tape_begin 4 (Option.none : Option FieldType) 2 7 := ⟨co_Tape_begin, im_Tape_begin, se_Tape_begin, ini_Tape, by decide +kernel, rfl⟩
theorem mv_Tape_holdsNothing : MV y_Tape_holdsNothing k_Tape_holdsNothing 1 (Option.some FieldType.boolean) 0 7 := ⟨co_Tape_holdsNothing, im_Tape_holdsNothing, se_Tape_holdsNothing, ini_Tape, by decide +kernel, rfl⟩
theorem mv_Tape_hasPlace : MV y_Tape_hasPlace k_Tape_hasPlace 2 (Option.some FieldType.boolean) 1 7 := ⟨co_Tape_hasPlace, im_Tape_hasPlace, se_Tape_hasPlace, ini_Tape, by decide +kernel, rfl⟩
theorem mv_Tape_hasPlaceBehind : MV y_Tape_hasPlaceBehind k_Tape_hasPlaceBehind 3 (Option.some FieldType.boolean) 2 7 := ⟨co_Tape_hasPlaceBehind, im_Tape_hasPlaceBehind, se_Tape_hasPlaceBehind, ini_Tape, by decide +kernel, rfl⟩
theorem mv_Tape_hasStretch : MV y_Tape_hasStretch k_Tape_hasStretch 3 (Option.some FieldType.boolean) 2 7 := ⟨co_Tape_hasStretch, im_Tape_hasStretch, se_Tape_hasStretch, ini_Tape, by decide +kernel, rfl⟩
theorem mv_Tape_fitted : MV y_Tape_fitted k_Tape_fitted 3 (Option.some FieldType.long) 1 7 := ⟨co_Tape_fitted, im_Tape_fitted, se_Tape_fitted, ini_Tape, by decide +kernel, rfl⟩
theorem mv_Text_isFull : MV y_Text_isFull k_Text_isFull 1 (Option.some FieldType.boolean) 0 8 := ⟨co_Text_isFull, im_Text_isFull, se_Text_isFull, ini_Text, by decide +kernel, rfl⟩
theorem mv_Text_append : MV y_Text_append k_Text_append 2 (Option.some FieldType.int) 1 8 := ⟨co_Text_append, im_Text_append, se_Text_append, ini_Text, by decide +kernel, rfl⟩
theorem mv_Text_empty : MV y_Text_empty k_Text_empty 1 (Option.none : Option FieldType) 0 8 := ⟨co_Text_empty, im_Text_empty, se_Text_empty, ini_Text, by decide +kernel, rfl⟩
theorem mv_Text_examine : MV y_Text_examine k_Text_examine 6 (Option.some FieldType.int) 1 8 := ⟨co_Text_examine, im_Text_examine, se_Text_examine, ini_Text, by decide +kernel, rfl⟩
theorem mv_Text_tell : MV y_Text_tell k_Text_tell 6 (Option.none : Option FieldType) 1 8 := ⟨co_Text_tell, im_Text_tell, se_Text_tell, ini_Text, by decide +kernel, rfl⟩
theorem mv_Text_isLetter : MS y_Text_isLetter k_Text_isLetter 1 (Option.some FieldType.boolean) 1 := ⟨co_Text_isLetter, st_Text_isLetter, ini_Text, by decide +kernel⟩
theorem mv_Jint_bitCount : MS y_Jint_bitCount k_Jint_bitCount 1 (Option.some FieldType.int) 1 := ⟨co_Jint_bitCount, st_Jint_bitCount, ini_Jint, by decide +kernel⟩
end
section
theorem D_Cb_init_0 : ((((decode k_Cb_init 0 = .ok (.aload_n 0, 1)) ∧ (decode k_Cb_init 1 = .ok (.invokespecial 3, 3))) ∧ ((decode k_Cb_init 4 = .ok (.aload_n 0, 1)) ∧ (decode k_Cb_init 5 = .ok (.new 9, 3)))) ∧ (((decode k_Cb_init 8 = .ok (.dup, 1)) ∧ (decode k_Cb_init 9 = .ok (.invokespecial 11, 3))) ∧ ((decode k_Cb_init 12 = .ok (.putfield 12, 3)) ∧ (decode k_Cb_init 15 = .ok (.aload_n 0, 1))))) ∧ ((((decode k_Cb_init 16 = .ok (.new 9, 3)) ∧ (decode k_Cb_init 19 = .ok (.dup, 1))) ∧ ((decode k_Cb_init 20 = .ok (.invokespecial 11, 3)) ∧ (decode k_Cb_init 23 = .ok (.putfield 18, 3)))) ∧ (((decode k_Cb_init 26 = .ok (.aload_n 0, 1)) ∧ (decode k_Cb_init 27 = .ok (.new 9, 3))) ∧ ((decode k_Cb_init 30 = .ok (.dup, 1)) ∧ (decode k_Cb_init 31 = .ok (.invokespecial 11, 3))))) := by decide +kernel
theorem D_Cb_init_1 : ((((decode k_Cb_init 34 = .ok (.putfield 21, 3)) ∧ (decode k_Cb_init 37 = .ok (.aload_n 0, 1))) ∧ ((decode k_Cb_init 38 = .ok (.iconst 0, 1)) ∧ (decode k_Cb_init 39 = .ok (.putfield 24, 3)))) ∧ (((decode k_Cb_init 42 = .ok (.aload_n 0, 1)) ∧ (decode k_Cb_init 43 = .ok (.new 28, 3))) ∧ ((decode k_Cb_init 46 = .ok (.dup, 1)) ∧ (decode k_Cb_init 47 = .ok (.invokespecial 30, 3))))) ∧ ((((decode k_Cb_init 50 = .ok (.putfield 31, 3)) ∧ (decode k_Cb_init 53 = .ok (.aload_n 0, 1))) ∧ ((decode k_Cb_init 54 = .ok (.bipush 6, 2)) ∧ (decode k_Cb_init 56 = .ok (.anewarray 35, 3)))) ∧ (((decode k_Cb_init 59 = .ok (.putfield 37, 3)) ∧ (decode k_Cb_init 62 = .ok (.aload_n 0, 1))) ∧ ((decode k_Cb_init 63 = .ok (.new 41, 3)) ∧ (decode k_Cb_init 66 = .ok (.dup, 1))))) := by decide +kernel
theorem D_Cb_init_2 : ((((decode k_Cb_init 67 = .ok (.invokespecial 43, 3)) ∧ (decode k_Cb_init 70 = .ok (.putfield 44, 3))) ∧ ((decode k_Cb_init 73 = .ok (.aload_n 0, 1)) ∧ (decode k_Cb_init 74 = .ok (.new 48, 3)))) ∧ (((decode k_Cb_init 77 = .ok (.dup, 1)) ∧ (decode k_Cb_init 78 = .ok (.invokespecial 50, 3))) ∧ ((decode k_Cb_init 81 = .ok (.putfield 51, 3)) ∧ (decode k_Cb_init 84 = .ok (.aload_n 0, 1))))) ∧ ((((decode k_Cb_init 85 = .ok (.new 48, 3)) ∧ (decode k_Cb_init 88 = .ok (.dup, 1))) ∧ ((decode k_Cb_init 89 = .ok (.invokespecial 50, 3)) ∧ (decode k_Cb_init 92 = .ok (.putfield 55, 3)))) ∧ (((decode k_Cb_init 95 = .ok (.aload_n 0, 1)) ∧ (decode k_Cb_init 96 = .ok (.new 58, 3))) ∧ ((decode k_Cb_init 99 = .ok (.dup, 1)) ∧ (decode k_Cb_init 100 = .ok (.invokespecial 60, 3))))) := by decide +kernel
theorem D_Cb_init_3 : ((((decode k_Cb_init 103 = .ok (.putfield 61, 3)) ∧ (decode k_Cb_init 106 = .ok (.aload_n 0, 1))) ∧ ((decode k_Cb_init 107 = .ok (.new 65, 3)) ∧ (decode k_Cb_init 110 = .ok (.dup, 1)))) ∧ (((decode k_Cb_init 111 = .ok (.invokespecial 67, 3)) ∧ (decode k_Cb_init 114 = .ok (.putfield 68, 3))) ∧ ((decode k_Cb_init 117 = .ok (.aload_n 0, 1)) ∧ (decode k_Cb_init 118 = .ok (.new 72, 3))))) ∧ ((((decode k_Cb_init 121 = .ok (.dup, 1)) ∧ (decode k_Cb_init 122 = .ok (.invokespecial 74, 3))) ∧ ((decode k_Cb_init 125 = .ok (.putfield 75, 3)) ∧ (decode k_Cb_init 128 = .ok (.aload_n 0, 1)))) ∧ (((decode k_Cb_init 129 = .ok (.new 79, 3)) ∧ (decode k_Cb_init 132 = .ok (.dup, 1))) ∧ ((decode k_Cb_init 133 = .ok (.invokespecial 81, 3)) ∧ (decode k_Cb_init 136 = .ok (.putfield 82, 3))))) := by decide +kernel
theorem D_Cb_init_4 : (((decode k_Cb_init 139 = .ok (.iconst 0, 1)) ∧ ((decode k_Cb_init 140 = .ok (.istore_n 1, 1)) ∧ (decode k_Cb_init 141 = .ok (.iload_n 1, 1)))) ∧ (((decode k_Cb_init 142 = .ok (.bipush 6, 2)) ∧ (decode k_Cb_init 144 = .ok (.if_icmp .ge 22, 3))) ∧ ((decode k_Cb_init 147 = .ok (.aload_n 0, 1)) ∧ (decode k_Cb_init 148 = .ok (.getfield 37, 3))))) ∧ ((((decode k_Cb_init 151 = .ok (.iload_n 1, 1)) ∧ (decode k_Cb_init 152 = .ok (.new 35, 3))) ∧ ((decode k_Cb_init 155 = .ok (.dup, 1)) ∧ (decode k_Cb_init 156 = .ok (.invokespecial 86, 3)))) ∧ (((decode k_Cb_init 159 = .ok (.aastore, 1)) ∧ (decode k_Cb_init 160 = .ok (.iinc 1 1, 3))) ∧ ((decode k_Cb_init 163 = .ok (.goto (-22), 3)) ∧ (decode k_Cb_init 166 = .ok (.return_, 1))))) := by decide +kernel
theorem D_Cb_items_0 : ((((decode k_Cb_items 0 = .ok (.iload_n 1, 1)) ∧ (decode k_Cb_items 1 = .ok (.iconst 1, 1))) ∧ ((decode k_Cb_items 2 = .ok (.if_icmp .lt 9, 3)) ∧ (decode k_Cb_items 5 = .ok (.iload_n 1, 1)))) ∧ (((decode k_Cb_items 6 = .ok (.bipush 8, 2)) ∧ (decode k_Cb_items 8 = .ok (.if_icmp .le 6, 3))) ∧ ((decode k_Cb_items 11 = .ok (.bipush (-2), 2)) ∧ (decode k_Cb_items 13 = .ok (.ireturn, 1))))) ∧ ((((decode k_Cb_items 14 = .ok (.aload_n 0, 1)) ∧ (decode k_Cb_items 15 = .ok (.getfield 12, 3))) ∧ ((decode k_Cb_items 18 = .ok (.getfield 87, 3)) ∧ (decode k_Cb_items 21 = .ok (.istore_n 2, 1)))) ∧ (((decode k_Cb_items 22 = .ok (.aload_n 0, 1)) ∧ (decode k_Cb_items 23 = .ok (.getfield 12, 3))) ∧ ((decode k_Cb_items 26 = .ok (.iload_n 1, 1)) ∧ (decode k_Cb_items 27 = .ok (.invokevirtual 91, 3))))) := by decide +kernel
theorem D_Cb_items_1 : (decode k_Cb_items 30 = .ok (.iload_n 2, 1)) ∧ (decode k_Cb_items 31 = .ok (.ireturn, 1)) := by decide +kernel
theorem D_Cb_right_0 : ((((decode k_Cb_right 0 = .ok (.aload_n 0, 1)) ∧ (decode k_Cb_right 1 = .ok (.getfield 12, 3))) ∧ ((decode k_Cb_right 4 = .ok (.iload_n 1, 1)) ∧ (decode k_Cb_right 5 = .ok (.invokevirtual 95, 3)))) ∧ (((decode k_Cb_right 8 = .ok (.ifCond .ne 5, 3)) ∧ (decode k_Cb_right 11 = .ok (.iconst (-1), 1))) ∧ ((decode k_Cb_right 12 = .ok (.ireturn, 1)) ∧ (decode k_Cb_right 13 = .ok (.iload_n 2, 1))))) ∧ ((((decode k_Cb_right 14 = .ok (.invokestatic 99, 3)) ∧ (decode k_Cb_right 17 = .ok (.ifCond .ne 6, 3))) ∧ ((decode k_Cb_right 20 = .ok (.bipush (-2), 2)) ∧ (decode k_Cb_right 22 = .ok (.ireturn, 1)))) ∧ (((decode k_Cb_right 23 = .ok (.aload_n 0, 1)) ∧ (decode k_Cb_right 24 = .ok (.getfield 12, 3))) ∧ ((decode k_Cb_right 27 = .ok (.getfield 102, 3)) ∧ (decode k_Cb_right 30 = .ok (.iload_n 1, 1))))) := by decide +kernel
theorem D_Cb_right_1 : (((decode k_Cb_right 31 = .ok (.iaload, 1)) ∧ (decode k_Cb_right 32 = .ok (.istore_n 3, 1))) ∧ ((decode k_Cb_right 33 = .ok (.aload_n 0, 1)) ∧ ((decode k_Cb_right 34 = .ok (.getfield 12, 3)) ∧ (decode k_Cb_right 37 = .ok (.getfield 102, 3))))) ∧ (((decode k_Cb_right 40 = .ok (.iload_n 1, 1)) ∧ (decode k_Cb_right 41 = .ok (.iload_n 2, 1))) ∧ ((decode k_Cb_right 42 = .ok (.iastore, 1)) ∧ ((decode k_Cb_right 43 = .ok (.iload_n 3, 1)) ∧ (decode k_Cb_right 44 = .ok (.ireturn, 1))))) := by decide +kernel
theorem D_Cb_model_0 : ((((decode k_Cb_model 0 = .ok (.aload_n 0, 1)) ∧ (decode k_Cb_model 1 = .ok (.getfield 12, 3))) ∧ ((decode k_Cb_model 4 = .ok (.iload_n 1, 1)) ∧ (decode k_Cb_model 5 = .ok (.invokevirtual 95, 3)))) ∧ (((decode k_Cb_model 8 = .ok (.ifCond .ne 5, 3)) ∧ (decode k_Cb_model 11 = .ok (.iconst (-1), 1))) ∧ ((decode k_Cb_model 12 = .ok (.ireturn, 1)) ∧ (decode k_Cb_model 13 = .ok (.iload_n 2, 1))))) ∧ ((((decode k_Cb_model 14 = .ok (.invokestatic 106, 3)) ∧ (decode k_Cb_model 17 = .ok (.ifCond .ne 6, 3))) ∧ ((decode k_Cb_model 20 = .ok (.bipush (-2), 2)) ∧ (decode k_Cb_model 22 = .ok (.ireturn, 1)))) ∧ (((decode k_Cb_model 23 = .ok (.aload_n 0, 1)) ∧ (decode k_Cb_model 24 = .ok (.getfield 12, 3))) ∧ ((decode k_Cb_model 27 = .ok (.getfield 109, 3)) ∧ (decode k_Cb_model 30 = .ok (.iload_n 1, 1))))) := by decide +kernel
theorem D_Cb_model_1 : (((decode k_Cb_model 31 = .ok (.iaload, 1)) ∧ (decode k_Cb_model 32 = .ok (.istore_n 3, 1))) ∧ ((decode k_Cb_model 33 = .ok (.aload_n 0, 1)) ∧ ((decode k_Cb_model 34 = .ok (.getfield 12, 3)) ∧ (decode k_Cb_model 37 = .ok (.getfield 109, 3))))) ∧ (((decode k_Cb_model 40 = .ok (.iload_n 1, 1)) ∧ (decode k_Cb_model 41 = .ok (.iload_n 2, 1))) ∧ ((decode k_Cb_model 42 = .ok (.iastore, 1)) ∧ ((decode k_Cb_model 43 = .ok (.iload_n 3, 1)) ∧ (decode k_Cb_model 44 = .ok (.ireturn, 1))))) := by decide +kernel
theorem D_Cb_part_0 : ((((decode k_Cb_part 0 = .ok (.aload_n 0, 1)) ∧ (decode k_Cb_part 1 = .ok (.getfield 12, 3))) ∧ ((decode k_Cb_part 4 = .ok (.iload_n 1, 1)) ∧ (decode k_Cb_part 5 = .ok (.invokevirtual 95, 3)))) ∧ (((decode k_Cb_part 8 = .ok (.ifCond .eq 10, 3)) ∧ (decode k_Cb_part 11 = .ok (.iload_n 2, 1))) ∧ ((decode k_Cb_part 12 = .ok (.invokestatic 99, 3)) ∧ (decode k_Cb_part 15 = .ok (.ifCond .ne 5, 3))))) ∧ ((((decode k_Cb_part 18 = .ok (.iconst (-1), 1)) ∧ (decode k_Cb_part 19 = .ok (.ireturn, 1))) ∧ ((decode k_Cb_part 20 = .ok (.iload_n 3, 1)) ∧ (decode k_Cb_part 21 = .ok (.iconst 1, 1)))) ∧ (((decode k_Cb_part 22 = .ok (.if_icmp .lt 8, 3)) ∧ (decode k_Cb_part 25 = .ok (.iload_n 3, 1))) ∧ ((decode k_Cb_part 26 = .ok (.iconst 3, 1)) ∧ (decode k_Cb_part 27 = .ok (.if_icmp .le 6, 3))))) := by decide +kernel
theorem D_Cb_part_1 : ((((decode k_Cb_part 30 = .ok (.bipush (-2), 2)) ∧ (decode k_Cb_part 32 = .ok (.ireturn, 1))) ∧ ((decode k_Cb_part 33 = .ok (.aload_n 0, 1)) ∧ (decode k_Cb_part 34 = .ok (.getfield 12, 3)))) ∧ (((decode k_Cb_part 37 = .ok (.getfield 112, 3)) ∧ (decode k_Cb_part 40 = .ok (.iload_n 1, 1))) ∧ ((decode k_Cb_part 41 = .ok (.aaload, 1)) ∧ (decode k_Cb_part 42 = .ok (.iload_n 2, 1))))) ∧ ((((decode k_Cb_part 43 = .ok (.iaload, 1)) ∧ (decode k_Cb_part 44 = .ok (.istore 4, 2))) ∧ ((decode k_Cb_part 46 = .ok (.aload_n 0, 1)) ∧ (decode k_Cb_part 47 = .ok (.getfield 12, 3)))) ∧ (((decode k_Cb_part 50 = .ok (.getfield 112, 3)) ∧ (decode k_Cb_part 53 = .ok (.iload_n 1, 1))) ∧ ((decode k_Cb_part 54 = .ok (.aaload, 1)) ∧ (decode k_Cb_part 55 = .ok (.iload_n 2, 1))))) := by decide +kernel
theorem D_Cb_part_2 : ((decode k_Cb_part 56 = .ok (.iload_n 3, 1)) ∧ (decode k_Cb_part 57 = .ok (.iastore, 1))) ∧ ((decode k_Cb_part 58 = .ok (.iload 4, 2)) ∧ (decode k_Cb_part 60 = .ok (.ireturn, 1))) := by decide +kernel
theorem D_Cb_candidate_0 : (((decode k_Cb_candidate 0 = .ok (.aload_n 0, 1)) ∧ (decode k_Cb_candidate 1 = .ok (.getfield 12, 3))) ∧ ((decode k_Cb_candidate 4 = .ok (.getfield 116, 3)) ∧ ((decode k_Cb_candidate 7 = .ok (.bipush 8, 2)) ∧ (decode k_Cb_candidate 9 = .ok (.if_icmp .ge 13, 3))))) ∧ (((decode k_Cb_candidate 12 = .ok (.aload_n 0, 1)) ∧ ((decode k_Cb_candidate 13 = .ok (.getfield 12, 3)) ∧ (decode k_Cb_candidate 16 = .ok (.invokevirtual 119, 3)))) ∧ ((decode k_Cb_candidate 19 = .ok (.goto 5, 3)) ∧ ((decode k_Cb_candidate 22 = .ok (.bipush (-4), 2)) ∧ (decode k_Cb_candidate 24 = .ok (.ireturn, 1))))) := by decide +kernel
theorem D_Cb_gives_0 : ((((decode k_Cb_gives 0 = .ok (.aload_n 0, 1)) ∧ (decode k_Cb_gives 1 = .ok (.getfield 12, 3))) ∧ ((decode k_Cb_gives 4 = .ok (.iload_n 1, 1)) ∧ (decode k_Cb_gives 5 = .ok (.invokevirtual 123, 3)))) ∧ (((decode k_Cb_gives 8 = .ok (.ifCond .eq 14, 3)) ∧ (decode k_Cb_gives 11 = .ok (.aload_n 0, 1))) ∧ ((decode k_Cb_gives 12 = .ok (.getfield 12, 3)) ∧ (decode k_Cb_gives 15 = .ok (.iload_n 2, 1))))) ∧ ((((decode k_Cb_gives 16 = .ok (.invokevirtual 95, 3)) ∧ (decode k_Cb_gives 19 = .ok (.ifCond .ne 5, 3))) ∧ ((decode k_Cb_gives 22 = .ok (.iconst (-1), 1)) ∧ (decode k_Cb_gives 23 = .ok (.ireturn, 1)))) ∧ (((decode k_Cb_gives 24 = .ok (.iload_n 3, 1)) ∧ (decode k_Cb_gives 25 = .ok (.iconst (-1), 1))) ∧ ((decode k_Cb_gives 26 = .ok (.if_icmp .eq 13, 3)) ∧ (decode k_Cb_gives 29 = .ok (.iload_n 3, 1))))) := by decide +kernel
theorem D_Cb_gives_1 : ((((decode k_Cb_gives 30 = .ok (.invokestatic 99, 3)) ∧ (decode k_Cb_gives 33 = .ok (.ifCond .ne 6, 3))) ∧ ((decode k_Cb_gives 36 = .ok (.bipush (-2), 2)) ∧ (decode k_Cb_gives 38 = .ok (.ireturn, 1)))) ∧ (((decode k_Cb_gives 39 = .ok (.aload_n 0, 1)) ∧ (decode k_Cb_gives 40 = .ok (.getfield 12, 3))) ∧ ((decode k_Cb_gives 43 = .ok (.getfield 126, 3)) ∧ (decode k_Cb_gives 46 = .ok (.iload_n 1, 1))))) ∧ ((((decode k_Cb_gives 47 = .ok (.aaload, 1)) ∧ (decode k_Cb_gives 48 = .ok (.iload_n 2, 1))) ∧ ((decode k_Cb_gives 49 = .ok (.iaload, 1)) ∧ (decode k_Cb_gives 50 = .ok (.istore 4, 2)))) ∧ (((decode k_Cb_gives 52 = .ok (.aload_n 0, 1)) ∧ (decode k_Cb_gives 53 = .ok (.getfield 12, 3))) ∧ ((decode k_Cb_gives 56 = .ok (.getfield 126, 3)) ∧ (decode k_Cb_gives 59 = .ok (.iload_n 1, 1))))) := by decide +kernel
theorem D_Cb_gives_2 : ((decode k_Cb_gives 60 = .ok (.aaload, 1)) ∧ ((decode k_Cb_gives 61 = .ok (.iload_n 2, 1)) ∧ (decode k_Cb_gives 62 = .ok (.iload_n 3, 1)))) ∧ (((decode k_Cb_gives 63 = .ok (.iastore, 1)) ∧ (decode k_Cb_gives 64 = .ok (.iload 4, 2))) ∧ ((decode k_Cb_gives 66 = .ok (.invokestatic 129, 3)) ∧ (decode k_Cb_gives 69 = .ok (.ireturn, 1)))) := by decide +kernel
theorem D_Cb_seat_0 : ((((decode k_Cb_seat 0 = .ok (.aload_n 0, 1)) ∧ (decode k_Cb_seat 1 = .ok (.getfield 12, 3))) ∧ ((decode k_Cb_seat 4 = .ok (.iload_n 1, 1)) ∧ (decode k_Cb_seat 5 = .ok (.invokevirtual 123, 3)))) ∧ (((decode k_Cb_seat 8 = .ok (.ifCond .ne 5, 3)) ∧ (decode k_Cb_seat 11 = .ok (.iconst (-1), 1))) ∧ ((decode k_Cb_seat 12 = .ok (.ireturn, 1)) ∧ (decode k_Cb_seat 13 = .ok (.iload_n 2, 1))))) ∧ ((((decode k_Cb_seat 14 = .ok (.iconst (-1), 1)) ∧ (decode k_Cb_seat 15 = .ok (.if_icmp .ne 15, 3))) ∧ ((decode k_Cb_seat 18 = .ok (.aload_n 0, 1)) ∧ (decode k_Cb_seat 19 = .ok (.getfield 12, 3)))) ∧ (((decode k_Cb_seat 22 = .ok (.iload_n 1, 1)) ∧ (decode k_Cb_seat 23 = .ok (.iconst (-1), 1))) ∧ ((decode k_Cb_seat 24 = .ok (.iconst (-1), 1)) ∧ (decode k_Cb_seat 25 = .ok (.invokevirtual 133, 3))))) := by decide +kernel
theorem D_Cb_seat_1 : ((((decode k_Cb_seat 28 = .ok (.iconst 1, 1)) ∧ (decode k_Cb_seat 29 = .ok (.ireturn, 1))) ∧ ((decode k_Cb_seat 30 = .ok (.iload_n 2, 1)) ∧ (decode k_Cb_seat 31 = .ok (.ifCond .lt 19, 3)))) ∧ (((decode k_Cb_seat 34 = .ok (.iload_n 2, 1)) ∧ (decode k_Cb_seat 35 = .ok (.bipush 10, 2))) ∧ ((decode k_Cb_seat 37 = .ok (.if_icmp .ge 13, 3)) ∧ (decode k_Cb_seat 40 = .ok (.iload_n 3, 1))))) ∧ ((((decode k_Cb_seat 41 = .ok (.ifCond .lt 9, 3)) ∧ (decode k_Cb_seat 44 = .ok (.iload_n 3, 1))) ∧ ((decode k_Cb_seat 45 = .ok (.bipush 10, 2)) ∧ (decode k_Cb_seat 47 = .ok (.if_icmp .lt 6, 3)))) ∧ (((decode k_Cb_seat 50 = .ok (.bipush (-2), 2)) ∧ (decode k_Cb_seat 52 = .ok (.ireturn, 1))) ∧ ((decode k_Cb_seat 53 = .ok (.aload_n 0, 1)) ∧ (decode k_Cb_seat 54 = .ok (.getfield 12, 3))))) := by decide +kernel
theorem D_Cb_seat_2 : ((((decode k_Cb_seat 57 = .ok (.iload_n 2, 1)) ∧ (decode k_Cb_seat 58 = .ok (.iload_n 3, 1))) ∧ ((decode k_Cb_seat 59 = .ok (.invokevirtual 137, 3)) ∧ (decode k_Cb_seat 62 = .ok (.istore 4, 2)))) ∧ (((decode k_Cb_seat 64 = .ok (.iload 4, 2)) ∧ (decode k_Cb_seat 66 = .ok (.ifCond .lt 12, 3))) ∧ ((decode k_Cb_seat 69 = .ok (.iload 4, 2)) ∧ (decode k_Cb_seat 71 = .ok (.iload_n 1, 1))))) ∧ ((((decode k_Cb_seat 72 = .ok (.if_icmp .eq 6, 3)) ∧ (decode k_Cb_seat 75 = .ok (.bipush (-3), 2))) ∧ ((decode k_Cb_seat 77 = .ok (.ireturn, 1)) ∧ (decode k_Cb_seat 78 = .ok (.aload_n 0, 1)))) ∧ (((decode k_Cb_seat 79 = .ok (.getfield 12, 3)) ∧ (decode k_Cb_seat 82 = .ok (.iload_n 1, 1))) ∧ ((decode k_Cb_seat 83 = .ok (.iload_n 2, 1)) ∧ (decode k_Cb_seat 84 = .ok (.iload_n 3, 1))))) := by decide +kernel
theorem D_Cb_seat_3 : (decode k_Cb_seat 85 = .ok (.invokevirtual 133, 3)) ∧ ((decode k_Cb_seat 88 = .ok (.iconst 1, 1)) ∧ (decode k_Cb_seat 89 = .ok (.ireturn, 1))) := by decide +kernel
theorem D_Cb_feed_0 : ((((decode k_Cb_feed 0 = .ok (.iload_n 1, 1)) ∧ (decode k_Cb_feed 1 = .ok (.ifCond .lt 9, 3))) ∧ ((decode k_Cb_feed 4 = .ok (.iload_n 1, 1)) ∧ (decode k_Cb_feed 5 = .ok (.bipush 127, 2)))) ∧ (((decode k_Cb_feed 7 = .ok (.if_icmp .le 6, 3)) ∧ (decode k_Cb_feed 10 = .ok (.bipush (-2), 2))) ∧ ((decode k_Cb_feed 12 = .ok (.ireturn, 1)) ∧ (decode k_Cb_feed 13 = .ok (.aload_n 0, 1))))) ∧ ((((decode k_Cb_feed 14 = .ok (.getfield 31, 3)) ∧ (decode k_Cb_feed 17 = .ok (.invokevirtual 141, 3))) ∧ ((decode k_Cb_feed 20 = .ok (.ifCond .eq 8, 3)) ∧ (decode k_Cb_feed 23 = .ok (.bipush (-4), 2)))) ∧ (((decode k_Cb_feed 25 = .ok (.goto 11, 3)) ∧ (decode k_Cb_feed 28 = .ok (.aload_n 0, 1))) ∧ ((decode k_Cb_feed 29 = .ok (.getfield 31, 3)) ∧ (decode k_Cb_feed 32 = .ok (.iload_n 1, 1))))) := by decide +kernel
theorem D_Cb_feed_1 : (decode k_Cb_feed 33 = .ok (.invokevirtual 145, 3)) ∧ (decode k_Cb_feed 36 = .ok (.ireturn, 1)) := by decide +kernel
theorem D_Cb_read_0 : ((((decode k_Cb_read 0 = .ok (.aload_n 0, 1)) ∧ (decode k_Cb_read 1 = .ok (.getfield 31, 3))) ∧ ((decode k_Cb_read 4 = .ok (.aload_n 0, 1)) ∧ (decode k_Cb_read 5 = .ok (.getfield 12, 3)))) ∧ (((decode k_Cb_read 8 = .ok (.invokevirtual 148, 3)) ∧ (decode k_Cb_read 11 = .ok (.istore_n 1, 1))) ∧ ((decode k_Cb_read 12 = .ok (.iload_n 1, 1)) ∧ (decode k_Cb_read 13 = .ok (.ifCond .le 14, 3))))) ∧ ((((decode k_Cb_read 16 = .ok (.aload_n 0, 1)) ∧ (decode k_Cb_read 17 = .ok (.getfield 31, 3))) ∧ ((decode k_Cb_read 20 = .ok (.aload_n 0, 1)) ∧ (decode k_Cb_read 21 = .ok (.getfield 12, 3)))) ∧ (((decode k_Cb_read 24 = .ok (.invokevirtual 152, 3)) ∧ (decode k_Cb_read 27 = .ok (.aload_n 0, 1))) ∧ ((decode k_Cb_read 28 = .ok (.getfield 31, 3)) ∧ (decode k_Cb_read 31 = .ok (.invokevirtual 156, 3))))) := by decide +kernel
theorem D_Cb_read_1 : (decode k_Cb_read 34 = .ok (.iload_n 1, 1)) ∧ (decode k_Cb_read 35 = .ok (.ireturn, 1)) := by decide +kernel
theorem D_Cb_use_0 : ((((decode k_Cb_use 0 = .ok (.iload_n 1, 1)) ∧ (decode k_Cb_use 1 = .ok (.ifCond .lt 9, 3))) ∧ ((decode k_Cb_use 4 = .ok (.iload_n 1, 1)) ∧ (decode k_Cb_use 5 = .ok (.bipush 6, 2)))) ∧ (((decode k_Cb_use 7 = .ok (.if_icmp .lt 5, 3)) ∧ (decode k_Cb_use 10 = .ok (.iconst (-1), 1))) ∧ ((decode k_Cb_use 11 = .ok (.ireturn, 1)) ∧ (decode k_Cb_use 12 = .ok (.iload_n 2, 1))))) ∧ ((((decode k_Cb_use 13 = .ok (.iload_n 1, 1)) ∧ (decode k_Cb_use 14 = .ok (.invokestatic 159, 3))) ∧ ((decode k_Cb_use 17 = .ok (.if_icmp .lt 11, 3)) ∧ (decode k_Cb_use 20 = .ok (.iload_n 2, 1)))) ∧ (((decode k_Cb_use 21 = .ok (.iload_n 1, 1)) ∧ (decode k_Cb_use 22 = .ok (.invokestatic 162, 3))) ∧ ((decode k_Cb_use 25 = .ok (.if_icmp .le 6, 3)) ∧ (decode k_Cb_use 28 = .ok (.bipush (-2), 2))))) := by decide +kernel
theorem D_Cb_use_1 : (((decode k_Cb_use 30 = .ok (.ireturn, 1)) ∧ ((decode k_Cb_use 31 = .ok (.aload_n 0, 1)) ∧ (decode k_Cb_use 32 = .ok (.getfield 12, 3)))) ∧ (((decode k_Cb_use 35 = .ok (.getfield 165, 3)) ∧ (decode k_Cb_use 38 = .ok (.iload_n 1, 1))) ∧ ((decode k_Cb_use 39 = .ok (.iaload, 1)) ∧ (decode k_Cb_use 40 = .ok (.istore_n 3, 1))))) ∧ ((((decode k_Cb_use 41 = .ok (.aload_n 0, 1)) ∧ (decode k_Cb_use 42 = .ok (.getfield 12, 3))) ∧ ((decode k_Cb_use 45 = .ok (.getfield 165, 3)) ∧ (decode k_Cb_use 48 = .ok (.iload_n 1, 1)))) ∧ (((decode k_Cb_use 49 = .ok (.iload_n 2, 1)) ∧ (decode k_Cb_use 50 = .ok (.iastore, 1))) ∧ ((decode k_Cb_use 51 = .ok (.iload_n 3, 1)) ∧ (decode k_Cb_use 52 = .ok (.ireturn, 1))))) := by decide +kernel
theorem D_Cb_answer_0 : ((((decode k_Cb_answer 0 = .ok (.aload_n 0, 1)) ∧ (decode k_Cb_answer 1 = .ok (.getfield 12, 3))) ∧ ((decode k_Cb_answer 4 = .ok (.iload_n 1, 1)) ∧ (decode k_Cb_answer 5 = .ok (.invokevirtual 123, 3)))) ∧ (((decode k_Cb_answer 8 = .ok (.ifCond .eq 14, 3)) ∧ (decode k_Cb_answer 11 = .ok (.aload_n 0, 1))) ∧ ((decode k_Cb_answer 12 = .ok (.getfield 12, 3)) ∧ (decode k_Cb_answer 15 = .ok (.iload_n 2, 1))))) ∧ ((((decode k_Cb_answer 16 = .ok (.invokevirtual 95, 3)) ∧ (decode k_Cb_answer 19 = .ok (.ifCond .ne 5, 3))) ∧ ((decode k_Cb_answer 22 = .ok (.iconst (-1), 1)) ∧ (decode k_Cb_answer 23 = .ok (.ireturn, 1)))) ∧ (((decode k_Cb_answer 24 = .ok (.aload_n 0, 1)) ∧ (decode k_Cb_answer 25 = .ok (.getfield 12, 3))) ∧ ((decode k_Cb_answer 28 = .ok (.getfield 126, 3)) ∧ (decode k_Cb_answer 31 = .ok (.iload_n 1, 1))))) := by decide +kernel
theorem D_Cb_answer_1 : ((decode k_Cb_answer 32 = .ok (.aaload, 1)) ∧ (decode k_Cb_answer 33 = .ok (.iload_n 2, 1))) ∧ ((decode k_Cb_answer 34 = .ok (.iaload, 1)) ∧ ((decode k_Cb_answer 35 = .ok (.invokestatic 129, 3)) ∧ (decode k_Cb_answer 38 = .ok (.ireturn, 1)))) := by decide +kernel
theorem D_Cb_of_0 : ((((decode k_Cb_of 0 = .ok (.aload_n 0, 1)) ∧ (decode k_Cb_of 1 = .ok (.getfield 12, 3))) ∧ ((decode k_Cb_of 4 = .ok (.iload_n 1, 1)) ∧ (decode k_Cb_of 5 = .ok (.invokevirtual 123, 3)))) ∧ (((decode k_Cb_of 8 = .ok (.ifCond .ne 5, 3)) ∧ (decode k_Cb_of 11 = .ok (.iconst (-1), 1))) ∧ ((decode k_Cb_of 12 = .ok (.ireturn, 1)) ∧ (decode k_Cb_of 13 = .ok (.iload_n 2, 1))))) ∧ ((((decode k_Cb_of 14 = .ok (.tableswitch 74 0 3 #[30, 39, 48, 61], 30)) ∧ (decode k_Cb_of 44 = .ok (.aload_n 0, 1))) ∧ ((decode k_Cb_of 45 = .ok (.getfield 12, 3)) ∧ (decode k_Cb_of 48 = .ok (.iload_n 1, 1)))) ∧ (((decode k_Cb_of 49 = .ok (.invokevirtual 168, 3)) ∧ (decode k_Cb_of 52 = .ok (.ireturn, 1))) ∧ ((decode k_Cb_of 53 = .ok (.aload_n 0, 1)) ∧ (decode k_Cb_of 54 = .ok (.getfield 12, 3))))) := by decide +kernel
theorem D_Cb_of_1 : ((((decode k_Cb_of 57 = .ok (.iload_n 1, 1)) ∧ (decode k_Cb_of 58 = .ok (.invokevirtual 171, 3))) ∧ ((decode k_Cb_of 61 = .ok (.ireturn, 1)) ∧ (decode k_Cb_of 62 = .ok (.aload_n 0, 1)))) ∧ (((decode k_Cb_of 63 = .ok (.getfield 12, 3)) ∧ (decode k_Cb_of 66 = .ok (.getfield 174, 3))) ∧ ((decode k_Cb_of 69 = .ok (.iload_n 1, 1)) ∧ (decode k_Cb_of 70 = .ok (.iaload, 1))))) ∧ ((((decode k_Cb_of 71 = .ok (.invokestatic 129, 3)) ∧ (decode k_Cb_of 74 = .ok (.ireturn, 1))) ∧ ((decode k_Cb_of 75 = .ok (.aload_n 0, 1)) ∧ (decode k_Cb_of 76 = .ok (.getfield 12, 3)))) ∧ (((decode k_Cb_of 79 = .ok (.getfield 177, 3)) ∧ (decode k_Cb_of 82 = .ok (.iload_n 1, 1))) ∧ ((decode k_Cb_of 83 = .ok (.iaload, 1)) ∧ (decode k_Cb_of 84 = .ok (.invokestatic 129, 3))))) := by decide +kernel
theorem D_Cb_of_2 : (decode k_Cb_of 87 = .ok (.ireturn, 1)) ∧ ((decode k_Cb_of 88 = .ok (.iconst (-1), 1)) ∧ (decode k_Cb_of 89 = .ok (.ireturn, 1))) := by decide +kernel
theorem D_Cb_itemOf_0 : ((((decode k_Cb_itemOf 0 = .ok (.aload_n 0, 1)) ∧ (decode k_Cb_itemOf 1 = .ok (.getfield 12, 3))) ∧ ((decode k_Cb_itemOf 4 = .ok (.iload_n 1, 1)) ∧ (decode k_Cb_itemOf 5 = .ok (.invokevirtual 95, 3)))) ∧ (((decode k_Cb_itemOf 8 = .ok (.ifCond .ne 5, 3)) ∧ (decode k_Cb_itemOf 11 = .ok (.iconst (-1), 1))) ∧ ((decode k_Cb_itemOf 12 = .ok (.ireturn, 1)) ∧ (decode k_Cb_itemOf 13 = .ok (.iload_n 2, 1))))) ∧ ((((decode k_Cb_itemOf 14 = .ok (.tableswitch 99 0 4 #[34, 44, 54, 63, 90], 34)) ∧ (decode k_Cb_itemOf 48 = .ok (.aload_n 0, 1))) ∧ ((decode k_Cb_itemOf 49 = .ok (.getfield 12, 3)) ∧ (decode k_Cb_itemOf 52 = .ok (.getfield 102, 3)))) ∧ (((decode k_Cb_itemOf 55 = .ok (.iload_n 1, 1)) ∧ (decode k_Cb_itemOf 56 = .ok (.iaload, 1))) ∧ ((decode k_Cb_itemOf 57 = .ok (.ireturn, 1)) ∧ (decode k_Cb_itemOf 58 = .ok (.aload_n 0, 1))))) := by decide +kernel
theorem D_Cb_itemOf_1 : ((((decode k_Cb_itemOf 59 = .ok (.getfield 12, 3)) ∧ (decode k_Cb_itemOf 62 = .ok (.getfield 109, 3))) ∧ ((decode k_Cb_itemOf 65 = .ok (.iload_n 1, 1)) ∧ (decode k_Cb_itemOf 66 = .ok (.iaload, 1)))) ∧ (((decode k_Cb_itemOf 67 = .ok (.ireturn, 1)) ∧ (decode k_Cb_itemOf 68 = .ok (.aload_n 0, 1))) ∧ ((decode k_Cb_itemOf 69 = .ok (.getfield 12, 3)) ∧ (decode k_Cb_itemOf 72 = .ok (.iload_n 1, 1))))) ∧ ((((decode k_Cb_itemOf 73 = .ok (.invokevirtual 180, 3)) ∧ (decode k_Cb_itemOf 76 = .ok (.ireturn, 1))) ∧ ((decode k_Cb_itemOf 77 = .ok (.aload_n 0, 1)) ∧ (decode k_Cb_itemOf 78 = .ok (.getfield 12, 3)))) ∧ (((decode k_Cb_itemOf 81 = .ok (.iload_n 1, 1)) ∧ (decode k_Cb_itemOf 82 = .ok (.invokevirtual 180, 3))) ∧ ((decode k_Cb_itemOf 85 = .ok (.aload_n 0, 1)) ∧ (decode k_Cb_itemOf 86 = .ok (.getfield 12, 3))))) := by decide +kernel
theorem D_Cb_itemOf_2 : ((((decode k_Cb_itemOf 89 = .ok (.iload_n 1, 1)) ∧ (decode k_Cb_itemOf 90 = .ok (.aload_n 0, 1))) ∧ ((decode k_Cb_itemOf 91 = .ok (.getfield 12, 3)) ∧ (decode k_Cb_itemOf 94 = .ok (.getfield 102, 3)))) ∧ (((decode k_Cb_itemOf 97 = .ok (.iload_n 1, 1)) ∧ (decode k_Cb_itemOf 98 = .ok (.iaload, 1))) ∧ ((decode k_Cb_itemOf 99 = .ok (.invokevirtual 183, 3)) ∧ (decode k_Cb_itemOf 102 = .ok (.isub, 1))))) ∧ ((((decode k_Cb_itemOf 103 = .ok (.ireturn, 1)) ∧ (decode k_Cb_itemOf 104 = .ok (.aload_n 0, 1))) ∧ ((decode k_Cb_itemOf 105 = .ok (.getfield 12, 3)) ∧ (decode k_Cb_itemOf 108 = .ok (.iload_n 1, 1)))) ∧ (((decode k_Cb_itemOf 109 = .ok (.invokevirtual 186, 3)) ∧ (decode k_Cb_itemOf 112 = .ok (.ireturn, 1))) ∧ ((decode k_Cb_itemOf 113 = .ok (.iconst (-1), 1)) ∧ (decode k_Cb_itemOf 114 = .ok (.ireturn, 1))))) := by decide +kernel
theorem D_Cb_taken_0 : ((((decode k_Cb_taken 0 = .ok (.aload_n 0, 1)) ∧ (decode k_Cb_taken 1 = .ok (.getfield 12, 3))) ∧ ((decode k_Cb_taken 4 = .ok (.iload_n 1, 1)) ∧ (decode k_Cb_taken 5 = .ok (.invokevirtual 95, 3)))) ∧ (((decode k_Cb_taken 8 = .ok (.ifCond .ne 5, 3)) ∧ (decode k_Cb_taken 11 = .ok (.iconst (-1), 1))) ∧ ((decode k_Cb_taken 12 = .ok (.ireturn, 1)) ∧ (decode k_Cb_taken 13 = .ok (.iload_n 2, 1))))) ∧ ((((decode k_Cb_taken 14 = .ok (.ifCond .lt 8, 3)) ∧ (decode k_Cb_taken 17 = .ok (.iload_n 2, 1))) ∧ ((decode k_Cb_taken 18 = .ok (.iconst 4, 1)) ∧ (decode k_Cb_taken 19 = .ok (.if_icmp .le 6, 3)))) ∧ (((decode k_Cb_taken 22 = .ok (.bipush (-2), 2)) ∧ (decode k_Cb_taken 24 = .ok (.ireturn, 1))) ∧ ((decode k_Cb_taken 25 = .ok (.aload_n 0, 1)) ∧ (decode k_Cb_taken 26 = .ok (.getfield 12, 3))))) := by decide +kernel
theorem D_Cb_taken_1 : (((decode k_Cb_taken 29 = .ok (.getfield 109, 3)) ∧ ((decode k_Cb_taken 32 = .ok (.iload_n 1, 1)) ∧ (decode k_Cb_taken 33 = .ok (.iaload, 1)))) ∧ ((decode k_Cb_taken 34 = .ok (.istore_n 3, 1)) ∧ ((decode k_Cb_taken 35 = .ok (.iload_n 3, 1)) ∧ (decode k_Cb_taken 36 = .ok (.iload_n 2, 1))))) ∧ (((decode k_Cb_taken 37 = .ok (.invokestatic 189, 3)) ∧ ((decode k_Cb_taken 40 = .ok (.ifCond .eq 7, 3)) ∧ (decode k_Cb_taken 43 = .ok (.iload_n 3, 1)))) ∧ ((decode k_Cb_taken 44 = .ok (.goto 5, 3)) ∧ ((decode k_Cb_taken 47 = .ok (.bipush (-12), 2)) ∧ (decode k_Cb_taken 49 = .ok (.ireturn, 1))))) := by decide +kernel
theorem D_Cb_share_0 : ((((decode k_Cb_share 0 = .ok (.aload_n 0, 1)) ∧ (decode k_Cb_share 1 = .ok (.getfield 12, 3))) ∧ ((decode k_Cb_share 4 = .ok (.iload_n 1, 1)) ∧ (decode k_Cb_share 5 = .ok (.invokevirtual 95, 3)))) ∧ (((decode k_Cb_share 8 = .ok (.ifCond .eq 16, 3)) ∧ (decode k_Cb_share 11 = .ok (.aload_n 0, 1))) ∧ ((decode k_Cb_share 12 = .ok (.getfield 12, 3)) ∧ (decode k_Cb_share 15 = .ok (.iload_n 3, 1))))) ∧ ((((decode k_Cb_share 16 = .ok (.iload 4, 2)) ∧ (decode k_Cb_share 18 = .ok (.invokevirtual 193, 3))) ∧ ((decode k_Cb_share 21 = .ok (.ifCond .ne 5, 3)) ∧ (decode k_Cb_share 24 = .ok (.iconst (-1), 1)))) ∧ (((decode k_Cb_share 25 = .ok (.ireturn, 1)) ∧ (decode k_Cb_share 26 = .ok (.iload_n 2, 1))) ∧ ((decode k_Cb_share 27 = .ok (.iconst (-1), 1)) ∧ (decode k_Cb_share 28 = .ok (.if_icmp .eq 13, 3))))) := by decide +kernel
theorem D_Cb_share_1 : ((((decode k_Cb_share 31 = .ok (.iload_n 2, 1)) ∧ (decode k_Cb_share 32 = .ok (.invokestatic 99, 3))) ∧ ((decode k_Cb_share 35 = .ok (.ifCond .ne 6, 3)) ∧ (decode k_Cb_share 38 = .ok (.bipush (-2), 2)))) ∧ (((decode k_Cb_share 40 = .ok (.ireturn, 1)) ∧ (decode k_Cb_share 41 = .ok (.aload_n 0, 1))) ∧ ((decode k_Cb_share 42 = .ok (.getfield 44, 3)) ∧ (decode k_Cb_share 45 = .ok (.aload_n 0, 1))))) ∧ ((((decode k_Cb_share 46 = .ok (.getfield 12, 3)) ∧ (decode k_Cb_share 49 = .ok (.iload_n 1, 1))) ∧ ((decode k_Cb_share 50 = .ok (.iload_n 3, 1)) ∧ (decode k_Cb_share 51 = .ok (.iload 4, 2)))) ∧ (((decode k_Cb_share 53 = .ok (.invokevirtual 196, 3)) ∧ (decode k_Cb_share 56 = .ok (.iload_n 2, 1))) ∧ ((decode k_Cb_share 57 = .ok (.iconst (-1), 1)) ∧ (decode k_Cb_share 58 = .ok (.if_icmp .ne 13, 3))))) := by decide +kernel
theorem D_Cb_share_2 : (((decode k_Cb_share 61 = .ok (.aload_n 0, 1)) ∧ (decode k_Cb_share 62 = .ok (.getfield 44, 3))) ∧ ((decode k_Cb_share 65 = .ok (.getfield 200, 3)) ∧ ((decode k_Cb_share 68 = .ok (.goto 12, 3)) ∧ (decode k_Cb_share 71 = .ok (.aload_n 0, 1))))) ∧ (((decode k_Cb_share 72 = .ok (.getfield 44, 3)) ∧ (decode k_Cb_share 75 = .ok (.getfield 203, 3))) ∧ ((decode k_Cb_share 78 = .ok (.iload_n 2, 1)) ∧ ((decode k_Cb_share 79 = .ok (.iaload, 1)) ∧ (decode k_Cb_share 80 = .ok (.ireturn, 1))))) := by decide +kernel
theorem D_Cb_alike_0 : (((decode k_Cb_alike 0 = .ok (.aload_n 0, 1)) ∧ ((decode k_Cb_alike 1 = .ok (.getfield 12, 3)) ∧ (decode k_Cb_alike 4 = .ok (.iload_n 1, 1)))) ∧ (((decode k_Cb_alike 5 = .ok (.iload_n 2, 1)) ∧ (decode k_Cb_alike 6 = .ok (.invokevirtual 193, 3))) ∧ ((decode k_Cb_alike 9 = .ok (.ifCond .eq 15, 3)) ∧ (decode k_Cb_alike 12 = .ok (.aload_n 0, 1))))) ∧ (((decode k_Cb_alike 13 = .ok (.getfield 12, 3)) ∧ ((decode k_Cb_alike 16 = .ok (.iload_n 1, 1)) ∧ (decode k_Cb_alike 17 = .ok (.iload_n 2, 1)))) ∧ (((decode k_Cb_alike 18 = .ok (.invokevirtual 206, 3)) ∧ (decode k_Cb_alike 21 = .ok (.goto 4, 3))) ∧ ((decode k_Cb_alike 24 = .ok (.iconst (-1), 1)) ∧ (decode k_Cb_alike 25 = .ok (.ireturn, 1))))) := by decide +kernel
theorem D_Cb_odds_0 : ((((decode k_Cb_odds 0 = .ok (.aload_n 0, 1)) ∧ (decode k_Cb_odds 1 = .ok (.getfield 12, 3))) ∧ ((decode k_Cb_odds 4 = .ok (.iload_n 1, 1)) ∧ (decode k_Cb_odds 5 = .ok (.iload_n 2, 1)))) ∧ (((decode k_Cb_odds 6 = .ok (.invokevirtual 193, 3)) ∧ (decode k_Cb_odds 9 = .ok (.ifCond .eq 18, 3))) ∧ ((decode k_Cb_odds 12 = .ok (.iload_n 3, 1)) ∧ (decode k_Cb_odds 13 = .ok (.invokestatic 209, 3))))) ∧ ((((decode k_Cb_odds 16 = .ok (.ifCond .eq 11, 3)) ∧ (decode k_Cb_odds 19 = .ok (.iload 4, 2))) ∧ ((decode k_Cb_odds 21 = .ok (.invokestatic 212, 3)) ∧ (decode k_Cb_odds 24 = .ok (.ifCond .ne 7, 3)))) ∧ (((decode k_Cb_odds 27 = .ok (.ldc2_w 215, 3)) ∧ (decode k_Cb_odds 30 = .ok (.lreturn, 1))) ∧ ((decode k_Cb_odds 31 = .ok (.aload_n 0, 1)) ∧ (decode k_Cb_odds 32 = .ok (.getfield 44, 3))))) := by decide +kernel
theorem D_Cb_odds_1 : (((decode k_Cb_odds 35 = .ok (.aload_n 0, 1)) ∧ ((decode k_Cb_odds 36 = .ok (.getfield 12, 3)) ∧ (decode k_Cb_odds 39 = .ok (.iload_n 1, 1)))) ∧ ((decode k_Cb_odds 40 = .ok (.iload_n 2, 1)) ∧ ((decode k_Cb_odds 41 = .ok (.iload_n 3, 1)) ∧ (decode k_Cb_odds 42 = .ok (.aload_n 0, 1))))) ∧ (((decode k_Cb_odds 43 = .ok (.getfield 51, 3)) ∧ ((decode k_Cb_odds 46 = .ok (.invokevirtual 217, 3)) ∧ (decode k_Cb_odds 49 = .ok (.aload_n 0, 1)))) ∧ (((decode k_Cb_odds 50 = .ok (.getfield 51, 3)) ∧ (decode k_Cb_odds 53 = .ok (.iload 4, 2))) ∧ ((decode k_Cb_odds 55 = .ok (.invokevirtual 221, 3)) ∧ (decode k_Cb_odds 58 = .ok (.lreturn, 1))))) := by decide +kernel
theorem D_Cb_just_0 : ((((decode k_Cb_just 0 = .ok (.aload_n 0, 1)) ∧ (decode k_Cb_just 1 = .ok (.getfield 12, 3))) ∧ ((decode k_Cb_just 4 = .ok (.iload_n 1, 1)) ∧ (decode k_Cb_just 5 = .ok (.iload_n 2, 1)))) ∧ (((decode k_Cb_just 6 = .ok (.invokevirtual 193, 3)) ∧ (decode k_Cb_just 9 = .ok (.ifCond .eq 30, 3))) ∧ ((decode k_Cb_just 12 = .ok (.iload_n 3, 1)) ∧ (decode k_Cb_just 13 = .ok (.invokestatic 209, 3))))) ∧ ((((decode k_Cb_just 16 = .ok (.ifCond .eq 23, 3)) ∧ (decode k_Cb_just 19 = .ok (.iload 4, 2))) ∧ ((decode k_Cb_just 21 = .ok (.ifCond .lt 18, 3)) ∧ (decode k_Cb_just 24 = .ok (.iload 4, 2)))) ∧ (((decode k_Cb_just 26 = .ok (.bipush 32, 2)) ∧ (decode k_Cb_just 28 = .ok (.if_icmp .gt 11, 3))) ∧ ((decode k_Cb_just 31 = .ok (.iload 5, 2)) ∧ (decode k_Cb_just 33 = .ok (.invokestatic 212, 3))))) := by decide +kernel
theorem D_Cb_just_1 : ((((decode k_Cb_just 36 = .ok (.ifCond .ne 7, 3)) ∧ (decode k_Cb_just 39 = .ok (.ldc2_w 215, 3))) ∧ ((decode k_Cb_just 42 = .ok (.lreturn, 1)) ∧ (decode k_Cb_just 43 = .ok (.aload_n 0, 1)))) ∧ (((decode k_Cb_just 44 = .ok (.getfield 44, 3)) ∧ (decode k_Cb_just 47 = .ok (.aload_n 0, 1))) ∧ ((decode k_Cb_just 48 = .ok (.getfield 12, 3)) ∧ (decode k_Cb_just 51 = .ok (.iload_n 1, 1))))) ∧ ((((decode k_Cb_just 52 = .ok (.iload_n 2, 1)) ∧ (decode k_Cb_just 53 = .ok (.iload_n 3, 1))) ∧ ((decode k_Cb_just 54 = .ok (.iload 4, 2)) ∧ (decode k_Cb_just 56 = .ok (.aload_n 0, 1)))) ∧ (((decode k_Cb_just 57 = .ok (.getfield 51, 3)) ∧ (decode k_Cb_just 60 = .ok (.invokevirtual 225, 3))) ∧ ((decode k_Cb_just 63 = .ok (.aload_n 0, 1)) ∧ (decode k_Cb_just 64 = .ok (.getfield 51, 3))))) := by decide +kernel
theorem D_Cb_just_2 : (decode k_Cb_just 67 = .ok (.iload 5, 2)) ∧ ((decode k_Cb_just 69 = .ok (.invokevirtual 221, 3)) ∧ (decode k_Cb_just 72 = .ok (.lreturn, 1))) := by decide +kernel
theorem D_Cb_source_0 : ((((decode k_Cb_source 0 = .ok (.aload_n 0, 1)) ∧ (decode k_Cb_source 1 = .ok (.getfield 12, 3))) ∧ ((decode k_Cb_source 4 = .ok (.iload_n 1, 1)) ∧ (decode k_Cb_source 5 = .ok (.iload_n 2, 1)))) ∧ (((decode k_Cb_source 6 = .ok (.invokevirtual 193, 3)) ∧ (decode k_Cb_source 9 = .ok (.ifCond .ne 5, 3))) ∧ ((decode k_Cb_source 12 = .ok (.iconst (-1), 1)) ∧ (decode k_Cb_source 13 = .ok (.ireturn, 1))))) ∧ ((((decode k_Cb_source 14 = .ok (.aload_n 0, 1)) ∧ (decode k_Cb_source 15 = .ok (.getfield 44, 3))) ∧ ((decode k_Cb_source 18 = .ok (.aload_n 0, 1)) ∧ (decode k_Cb_source 19 = .ok (.getfield 12, 3)))) ∧ (((decode k_Cb_source 22 = .ok (.iload_n 1, 1)) ∧ (decode k_Cb_source 23 = .ok (.iload_n 2, 1))) ∧ ((decode k_Cb_source 24 = .ok (.iconst 2, 1)) ∧ (decode k_Cb_source 25 = .ok (.aload_n 0, 1))))) := by decide +kernel
theorem D_Cb_source_1 : ((((decode k_Cb_source 26 = .ok (.getfield 51, 3)) ∧ (decode k_Cb_source 29 = .ok (.invokevirtual 217, 3))) ∧ ((decode k_Cb_source 32 = .ok (.aload_n 0, 1)) ∧ (decode k_Cb_source 33 = .ok (.getfield 44, 3)))) ∧ (((decode k_Cb_source 36 = .ok (.aload_n 0, 1)) ∧ (decode k_Cb_source 37 = .ok (.getfield 12, 3))) ∧ ((decode k_Cb_source 40 = .ok (.iload_n 2, 1)) ∧ (decode k_Cb_source 41 = .ok (.iload_n 1, 1))))) ∧ ((((decode k_Cb_source 42 = .ok (.iconst 2, 1)) ∧ (decode k_Cb_source 43 = .ok (.aload_n 0, 1))) ∧ ((decode k_Cb_source 44 = .ok (.getfield 55, 3)) ∧ (decode k_Cb_source 47 = .ok (.invokevirtual 217, 3)))) ∧ (((decode k_Cb_source 50 = .ok (.aload_n 0, 1)) ∧ (decode k_Cb_source 51 = .ok (.getfield 51, 3))) ∧ ((decode k_Cb_source 54 = .ok (.aload_n 0, 1)) ∧ (decode k_Cb_source 55 = .ok (.getfield 55, 3))))) := by decide +kernel
theorem D_Cb_source_2 : (((decode k_Cb_source 58 = .ok (.invokevirtual 229, 3)) ∧ ((decode k_Cb_source 61 = .ok (.istore_n 3, 1)) ∧ (decode k_Cb_source 62 = .ok (.iload_n 3, 1)))) ∧ ((decode k_Cb_source 63 = .ok (.ifCond .ne 6, 3)) ∧ ((decode k_Cb_source 66 = .ok (.bipush (-5), 2)) ∧ (decode k_Cb_source 68 = .ok (.ireturn, 1))))) ∧ (((decode k_Cb_source 69 = .ok (.iload_n 3, 1)) ∧ ((decode k_Cb_source 70 = .ok (.ifCond .ge 7, 3)) ∧ (decode k_Cb_source 73 = .ok (.iload_n 1, 1)))) ∧ ((decode k_Cb_source 74 = .ok (.goto 4, 3)) ∧ ((decode k_Cb_source 77 = .ok (.iload_n 2, 1)) ∧ (decode k_Cb_source 78 = .ok (.ireturn, 1))))) := by decide +kernel
theorem D_Cb_without_0 : ((((decode k_Cb_without 0 = .ok (.aload_n 0, 1)) ∧ (decode k_Cb_without 1 = .ok (.getfield 12, 3))) ∧ ((decode k_Cb_without 4 = .ok (.iload_n 1, 1)) ∧ (decode k_Cb_without 5 = .ok (.iload_n 2, 1)))) ∧ (((decode k_Cb_without 6 = .ok (.invokevirtual 193, 3)) ∧ (decode k_Cb_without 9 = .ok (.ifCond .eq 22, 3))) ∧ ((decode k_Cb_without 12 = .ok (.aload_n 0, 1)) ∧ (decode k_Cb_without 13 = .ok (.getfield 12, 3))))) ∧ ((((decode k_Cb_without 16 = .ok (.iload_n 3, 1)) ∧ (decode k_Cb_without 17 = .ok (.invokevirtual 95, 3))) ∧ ((decode k_Cb_without 20 = .ok (.ifCond .eq 11, 3)) ∧ (decode k_Cb_without 23 = .ok (.iload 4, 2)))) ∧ (((decode k_Cb_without 25 = .ok (.invokestatic 212, 3)) ∧ (decode k_Cb_without 28 = .ok (.ifCond .ne 7, 3))) ∧ ((decode k_Cb_without 31 = .ok (.ldc2_w 215, 3)) ∧ (decode k_Cb_without 34 = .ok (.lreturn, 1))))) := by decide +kernel
theorem D_Cb_without_1 : (((decode k_Cb_without 35 = .ok (.aload_n 0, 1)) ∧ ((decode k_Cb_without 36 = .ok (.getfield 44, 3)) ∧ (decode k_Cb_without 39 = .ok (.aload_n 0, 1)))) ∧ (((decode k_Cb_without 40 = .ok (.getfield 12, 3)) ∧ (decode k_Cb_without 43 = .ok (.iload_n 1, 1))) ∧ ((decode k_Cb_without 44 = .ok (.iload_n 2, 1)) ∧ (decode k_Cb_without 45 = .ok (.iload_n 3, 1))))) ∧ ((((decode k_Cb_without 46 = .ok (.aload_n 0, 1)) ∧ (decode k_Cb_without 47 = .ok (.getfield 51, 3))) ∧ ((decode k_Cb_without 50 = .ok (.invokevirtual 233, 3)) ∧ (decode k_Cb_without 53 = .ok (.aload_n 0, 1)))) ∧ (((decode k_Cb_without 54 = .ok (.getfield 51, 3)) ∧ (decode k_Cb_without 57 = .ok (.iload 4, 2))) ∧ ((decode k_Cb_without 59 = .ok (.invokevirtual 221, 3)) ∧ (decode k_Cb_without 62 = .ok (.lreturn, 1))))) := by decide +kernel
theorem D_Cb_key_0 : ((((decode k_Cb_key 0 = .ok (.aload_n 0, 1)) ∧ (decode k_Cb_key 1 = .ok (.getfield 12, 3))) ∧ ((decode k_Cb_key 4 = .ok (.iload_n 1, 1)) ∧ (decode k_Cb_key 5 = .ok (.iload_n 2, 1)))) ∧ (((decode k_Cb_key 6 = .ok (.invokevirtual 193, 3)) ∧ (decode k_Cb_key 9 = .ok (.ifCond .ne 5, 3))) ∧ ((decode k_Cb_key 12 = .ok (.iconst (-1), 1)) ∧ (decode k_Cb_key 13 = .ok (.ireturn, 1))))) ∧ ((((decode k_Cb_key 14 = .ok (.iconst 0, 1)) ∧ (decode k_Cb_key 15 = .ok (.istore_n 3, 1))) ∧ ((decode k_Cb_key 16 = .ok (.aload_n 0, 1)) ∧ (decode k_Cb_key 17 = .ok (.getfield 44, 3)))) ∧ (((decode k_Cb_key 20 = .ok (.aload_n 0, 1)) ∧ (decode k_Cb_key 21 = .ok (.getfield 12, 3))) ∧ ((decode k_Cb_key 24 = .ok (.iload_n 1, 1)) ∧ (decode k_Cb_key 25 = .ok (.iload_n 2, 1))))) := by decide +kernel
theorem D_Cb_key_1 : ((((decode k_Cb_key 26 = .ok (.iload_n 3, 1)) ∧ (decode k_Cb_key 27 = .ok (.aload_n 0, 1))) ∧ ((decode k_Cb_key 28 = .ok (.getfield 51, 3)) ∧ (decode k_Cb_key 31 = .ok (.invokevirtual 233, 3)))) ∧ (((decode k_Cb_key 34 = .ok (.iconst 1, 1)) ∧ (decode k_Cb_key 35 = .ok (.istore 4, 2))) ∧ ((decode k_Cb_key 37 = .ok (.iload 4, 2)) ∧ (decode k_Cb_key 39 = .ok (.aload_n 0, 1))))) ∧ ((((decode k_Cb_key 40 = .ok (.getfield 12, 3)) ∧ (decode k_Cb_key 43 = .ok (.getfield 87, 3))) ∧ ((decode k_Cb_key 46 = .ok (.if_icmp .ge 56, 3)) ∧ (decode k_Cb_key 49 = .ok (.aload_n 0, 1)))) ∧ (((decode k_Cb_key 50 = .ok (.getfield 44, 3)) ∧ (decode k_Cb_key 53 = .ok (.aload_n 0, 1))) ∧ ((decode k_Cb_key 54 = .ok (.getfield 12, 3)) ∧ (decode k_Cb_key 57 = .ok (.iload_n 1, 1))))) := by decide +kernel
theorem D_Cb_key_2 : ((((decode k_Cb_key 58 = .ok (.iload_n 2, 1)) ∧ (decode k_Cb_key 59 = .ok (.iload 4, 2))) ∧ ((decode k_Cb_key 61 = .ok (.aload_n 0, 1)) ∧ (decode k_Cb_key 62 = .ok (.getfield 55, 3)))) ∧ (((decode k_Cb_key 65 = .ok (.invokevirtual 233, 3)) ∧ (decode k_Cb_key 68 = .ok (.aload_n 0, 1))) ∧ ((decode k_Cb_key 69 = .ok (.getfield 55, 3)) ∧ (decode k_Cb_key 72 = .ok (.aload_n 0, 1))))) ∧ ((((decode k_Cb_key 73 = .ok (.getfield 51, 3)) ∧ (decode k_Cb_key 76 = .ok (.invokevirtual 229, 3))) ∧ ((decode k_Cb_key 79 = .ok (.ifCond .le 17, 3)) ∧ (decode k_Cb_key 82 = .ok (.iload 4, 2)))) ∧ (((decode k_Cb_key 84 = .ok (.istore_n 3, 1)) ∧ (decode k_Cb_key 85 = .ok (.aload_n 0, 1))) ∧ ((decode k_Cb_key 86 = .ok (.getfield 51, 3)) ∧ (decode k_Cb_key 89 = .ok (.aload_n 0, 1))))) := by decide +kernel
theorem D_Cb_key_3 : ((decode k_Cb_key 90 = .ok (.getfield 55, 3)) ∧ ((decode k_Cb_key 93 = .ok (.invokevirtual 236, 3)) ∧ (decode k_Cb_key 96 = .ok (.iinc 4 1, 3)))) ∧ ((decode k_Cb_key 99 = .ok (.goto (-62), 3)) ∧ ((decode k_Cb_key 102 = .ok (.iload_n 3, 1)) ∧ (decode k_Cb_key 103 = .ok (.ireturn, 1)))) := by decide +kernel
theorem D_Cb_pairs_0 : ((((decode k_Cb_pairs 0 = .ok (.iload_n 1, 1)) ∧ (decode k_Cb_pairs 1 = .ok (.tableswitch 103 0 4 #[35, 43, 55, 79, 91], 35))) ∧ ((decode k_Cb_pairs 36 = .ok (.aload_n 0, 1)) ∧ (decode k_Cb_pairs 37 = .ok (.getfield 12, 3)))) ∧ (((decode k_Cb_pairs 40 = .ok (.invokevirtual 240, 3)) ∧ (decode k_Cb_pairs 43 = .ok (.ireturn, 1))) ∧ ((decode k_Cb_pairs 44 = .ok (.aload_n 0, 1)) ∧ (decode k_Cb_pairs 45 = .ok (.invokevirtual 243, 3))))) ∧ ((((decode k_Cb_pairs 48 = .ok (.aload_n 0, 1)) ∧ (decode k_Cb_pairs 49 = .ok (.getfield 61, 3))) ∧ ((decode k_Cb_pairs 52 = .ok (.getfield 246, 3)) ∧ (decode k_Cb_pairs 55 = .ok (.ireturn, 1)))) ∧ (((decode k_Cb_pairs 56 = .ok (.iload_n 2, 1)) ∧ (decode k_Cb_pairs 57 = .ok (.ifCond .lt 9, 3))) ∧ ((decode k_Cb_pairs 60 = .ok (.iload_n 2, 1)) ∧ (decode k_Cb_pairs 61 = .ok (.bipush 10, 2))))) := by decide +kernel
theorem D_Cb_pairs_1 : ((((decode k_Cb_pairs 63 = .ok (.if_icmp .lt 8, 3)) ∧ (decode k_Cb_pairs 66 = .ok (.bipush (-2), 2))) ∧ ((decode k_Cb_pairs 68 = .ok (.goto 11, 3)) ∧ (decode k_Cb_pairs 71 = .ok (.aload_n 0, 1)))) ∧ (((decode k_Cb_pairs 72 = .ok (.getfield 12, 3)) ∧ (decode k_Cb_pairs 75 = .ok (.iload_n 2, 1))) ∧ ((decode k_Cb_pairs 76 = .ok (.invokevirtual 249, 3)) ∧ (decode k_Cb_pairs 79 = .ok (.ireturn, 1))))) ∧ ((((decode k_Cb_pairs 80 = .ok (.aload_n 0, 1)) ∧ (decode k_Cb_pairs 81 = .ok (.invokevirtual 252, 3))) ∧ ((decode k_Cb_pairs 84 = .ok (.aload_n 0, 1)) ∧ (decode k_Cb_pairs 85 = .ok (.getfield 68, 3)))) ∧ (((decode k_Cb_pairs 88 = .ok (.invokevirtual 255, 3)) ∧ (decode k_Cb_pairs 91 = .ok (.ireturn, 1))) ∧ ((decode k_Cb_pairs 92 = .ok (.aload_n 0, 1)) ∧ (decode k_Cb_pairs 93 = .ok (.invokevirtual 252, 3))))) := by decide +kernel
theorem D_Cb_pairs_2 : ((decode k_Cb_pairs 96 = .ok (.aload_n 0, 1)) ∧ ((decode k_Cb_pairs 97 = .ok (.getfield 68, 3)) ∧ (decode k_Cb_pairs 100 = .ok (.invokevirtual 258, 3)))) ∧ ((decode k_Cb_pairs 103 = .ok (.ireturn, 1)) ∧ ((decode k_Cb_pairs 104 = .ok (.iconst (-1), 1)) ∧ (decode k_Cb_pairs 105 = .ok (.ireturn, 1)))) := by decide +kernel
theorem D_Cb_pair_0 : ((((decode k_Cb_pair 0 = .ok (.iload_n 2, 1)) ∧ (decode k_Cb_pair 1 = .ok (.ifCond .lt 8, 3))) ∧ ((decode k_Cb_pair 4 = .ok (.iload_n 2, 1)) ∧ (decode k_Cb_pair 5 = .ok (.iconst 2, 1)))) ∧ (((decode k_Cb_pair 6 = .ok (.if_icmp .le 5, 3)) ∧ (decode k_Cb_pair 9 = .ok (.iconst (-1), 1))) ∧ ((decode k_Cb_pair 10 = .ok (.ireturn, 1)) ∧ (decode k_Cb_pair 11 = .ok (.aload_n 0, 1))))) ∧ ((((decode k_Cb_pair 12 = .ok (.invokevirtual 243, 3)) ∧ (decode k_Cb_pair 15 = .ok (.aload_n 0, 1))) ∧ ((decode k_Cb_pair 16 = .ok (.getfield 61, 3)) ∧ (decode k_Cb_pair 19 = .ok (.iload_n 1, 1)))) ∧ (((decode k_Cb_pair 20 = .ok (.invokevirtual 261, 3)) ∧ (decode k_Cb_pair 23 = .ok (.ifCond .ne 6, 3))) ∧ ((decode k_Cb_pair 26 = .ok (.bipush (-2), 2)) ∧ (decode k_Cb_pair 28 = .ok (.ireturn, 1))))) := by decide +kernel
theorem D_Cb_pair_1 : ((((decode k_Cb_pair 29 = .ok (.iload_n 2, 1)) ∧ (decode k_Cb_pair 30 = .ok (.iconst 2, 1))) ∧ ((decode k_Cb_pair 31 = .ok (.if_icmp .ne 20, 3)) ∧ (decode k_Cb_pair 34 = .ok (.iload_n 1, 1)))) ∧ (((decode k_Cb_pair 35 = .ok (.aload_n 0, 1)) ∧ (decode k_Cb_pair 36 = .ok (.getfield 61, 3))) ∧ ((decode k_Cb_pair 39 = .ok (.getfield 246, 3)) ∧ (decode k_Cb_pair 42 = .ok (.if_icmp .ge 7, 3))))) ∧ ((((decode k_Cb_pair 45 = .ok (.iconst 1, 1)) ∧ (decode k_Cb_pair 46 = .ok (.goto 4, 3))) ∧ ((decode k_Cb_pair 49 = .ok (.iconst 0, 1)) ∧ (decode k_Cb_pair 50 = .ok (.ireturn, 1)))) ∧ (((decode k_Cb_pair 51 = .ok (.iload_n 2, 1)) ∧ (decode k_Cb_pair 52 = .ok (.ifCond .ne 15, 3))) ∧ ((decode k_Cb_pair 55 = .ok (.aload_n 0, 1)) ∧ (decode k_Cb_pair 56 = .ok (.getfield 61, 3))))) := by decide +kernel
theorem D_Cb_pair_2 : (((decode k_Cb_pair 59 = .ok (.getfield 264, 3)) ∧ (decode k_Cb_pair 62 = .ok (.iload_n 1, 1))) ∧ ((decode k_Cb_pair 63 = .ok (.iaload, 1)) ∧ ((decode k_Cb_pair 64 = .ok (.goto 12, 3)) ∧ (decode k_Cb_pair 67 = .ok (.aload_n 0, 1))))) ∧ (((decode k_Cb_pair 68 = .ok (.getfield 61, 3)) ∧ (decode k_Cb_pair 71 = .ok (.getfield 267, 3))) ∧ ((decode k_Cb_pair 74 = .ok (.iload_n 1, 1)) ∧ ((decode k_Cb_pair 75 = .ok (.iaload, 1)) ∧ (decode k_Cb_pair 76 = .ok (.ireturn, 1))))) := by decide +kernel
theorem D_Cb_pairOdds_0 : ((((decode k_Cb_pairOdds 0 = .ok (.iload_n 2, 1)) ∧ (decode k_Cb_pairOdds 1 = .ok (.invokestatic 212, 3))) ∧ ((decode k_Cb_pairOdds 4 = .ok (.ifCond .ne 7, 3)) ∧ (decode k_Cb_pairOdds 7 = .ok (.ldc2_w 215, 3)))) ∧ (((decode k_Cb_pairOdds 10 = .ok (.lreturn, 1)) ∧ (decode k_Cb_pairOdds 11 = .ok (.aload_n 0, 1))) ∧ ((decode k_Cb_pairOdds 12 = .ok (.invokevirtual 243, 3)) ∧ (decode k_Cb_pairOdds 15 = .ok (.aload_n 0, 1))))) ∧ ((((decode k_Cb_pairOdds 16 = .ok (.getfield 61, 3)) ∧ (decode k_Cb_pairOdds 19 = .ok (.iload_n 1, 1))) ∧ ((decode k_Cb_pairOdds 20 = .ok (.invokevirtual 261, 3)) ∧ (decode k_Cb_pairOdds 23 = .ok (.ifCond .ne 7, 3)))) ∧ (((decode k_Cb_pairOdds 26 = .ok (.ldc2_w 215, 3)) ∧ (decode k_Cb_pairOdds 29 = .ok (.lreturn, 1))) ∧ ((decode k_Cb_pairOdds 30 = .ok (.iload_n 2, 1)) ∧ (decode k_Cb_pairOdds 31 = .ok (.ifCond .ne 15, 3))))) := by decide +kernel
theorem D_Cb_pairOdds_1 : (((decode k_Cb_pairOdds 34 = .ok (.aload_n 0, 1)) ∧ ((decode k_Cb_pairOdds 35 = .ok (.getfield 61, 3)) ∧ (decode k_Cb_pairOdds 38 = .ok (.getfield 270, 3)))) ∧ ((decode k_Cb_pairOdds 41 = .ok (.iload_n 1, 1)) ∧ ((decode k_Cb_pairOdds 42 = .ok (.laload, 1)) ∧ (decode k_Cb_pairOdds 43 = .ok (.goto 12, 3))))) ∧ (((decode k_Cb_pairOdds 46 = .ok (.aload_n 0, 1)) ∧ ((decode k_Cb_pairOdds 47 = .ok (.getfield 61, 3)) ∧ (decode k_Cb_pairOdds 50 = .ok (.getfield 274, 3)))) ∧ ((decode k_Cb_pairOdds 53 = .ok (.iload_n 1, 1)) ∧ ((decode k_Cb_pairOdds 54 = .ok (.laload, 1)) ∧ (decode k_Cb_pairOdds 55 = .ok (.lreturn, 1))))) := by decide +kernel
theorem D_Cb_rank_0 : ((((decode k_Cb_rank 0 = .ok (.aload_n 0, 1)) ∧ (decode k_Cb_rank 1 = .ok (.getfield 12, 3))) ∧ ((decode k_Cb_rank 4 = .ok (.iload_n 1, 1)) ∧ (decode k_Cb_rank 5 = .ok (.iload_n 2, 1)))) ∧ (((decode k_Cb_rank 6 = .ok (.invokevirtual 193, 3)) ∧ (decode k_Cb_rank 9 = .ok (.ifCond .ne 5, 3))) ∧ ((decode k_Cb_rank 12 = .ok (.iconst (-1), 1)) ∧ (decode k_Cb_rank 13 = .ok (.ireturn, 1))))) ∧ ((((decode k_Cb_rank 14 = .ok (.aload_n 0, 1)) ∧ (decode k_Cb_rank 15 = .ok (.invokevirtual 243, 3))) ∧ ((decode k_Cb_rank 18 = .ok (.aload_n 0, 1)) ∧ (decode k_Cb_rank 19 = .ok (.getfield 61, 3)))) ∧ (((decode k_Cb_rank 22 = .ok (.iload_n 1, 1)) ∧ (decode k_Cb_rank 23 = .ok (.iload_n 2, 1))) ∧ ((decode k_Cb_rank 24 = .ok (.invokevirtual 277, 3)) ∧ (decode k_Cb_rank 27 = .ok (.invokestatic 129, 3))))) := by decide +kernel
theorem D_Cb_rank_1 : decode k_Cb_rank 30 = .ok (.ireturn, 1) := by decide +kernel
theorem D_Cb_linked_0 : (((decode k_Cb_linked 0 = .ok (.aload_n 0, 1)) ∧ ((decode k_Cb_linked 1 = .ok (.getfield 12, 3)) ∧ (decode k_Cb_linked 4 = .ok (.iload_n 1, 1)))) ∧ (((decode k_Cb_linked 5 = .ok (.invokevirtual 123, 3)) ∧ (decode k_Cb_linked 8 = .ok (.ifCond .ne 5, 3))) ∧ ((decode k_Cb_linked 11 = .ok (.iconst (-1), 1)) ∧ (decode k_Cb_linked 12 = .ok (.ireturn, 1))))) ∧ ((((decode k_Cb_linked 13 = .ok (.aload_n 0, 1)) ∧ (decode k_Cb_linked 14 = .ok (.invokevirtual 252, 3))) ∧ ((decode k_Cb_linked 17 = .ok (.aload_n 0, 1)) ∧ (decode k_Cb_linked 18 = .ok (.getfield 68, 3)))) ∧ (((decode k_Cb_linked 21 = .ok (.getfield 280, 3)) ∧ (decode k_Cb_linked 24 = .ok (.iload_n 1, 1))) ∧ ((decode k_Cb_linked 25 = .ok (.iaload, 1)) ∧ (decode k_Cb_linked 26 = .ok (.ireturn, 1))))) := by decide +kernel
theorem D_Cb_chain_0 : (((decode k_Cb_chain 0 = .ok (.aload_n 0, 1)) ∧ ((decode k_Cb_chain 1 = .ok (.getfield 12, 3)) ∧ (decode k_Cb_chain 4 = .ok (.iload_n 1, 1)))) ∧ (((decode k_Cb_chain 5 = .ok (.invokevirtual 123, 3)) ∧ (decode k_Cb_chain 8 = .ok (.ifCond .ne 5, 3))) ∧ ((decode k_Cb_chain 11 = .ok (.iconst (-1), 1)) ∧ (decode k_Cb_chain 12 = .ok (.ireturn, 1))))) ∧ (((decode k_Cb_chain 13 = .ok (.aload_n 0, 1)) ∧ ((decode k_Cb_chain 14 = .ok (.invokevirtual 252, 3)) ∧ (decode k_Cb_chain 17 = .ok (.aload_n 0, 1)))) ∧ (((decode k_Cb_chain 18 = .ok (.getfield 68, 3)) ∧ (decode k_Cb_chain 21 = .ok (.iload_n 1, 1))) ∧ ((decode k_Cb_chain 22 = .ok (.invokevirtual 283, 3)) ∧ (decode k_Cb_chain 25 = .ok (.ireturn, 1))))) := by decide +kernel
theorem D_Cb_group_0 : (((decode k_Cb_group 0 = .ok (.iload_n 1, 1)) ∧ ((decode k_Cb_group 1 = .ok (.ifCond .ge 6, 3)) ∧ (decode k_Cb_group 4 = .ok (.bipush (-2), 2)))) ∧ ((decode k_Cb_group 6 = .ok (.ireturn, 1)) ∧ ((decode k_Cb_group 7 = .ok (.aload_n 0, 1)) ∧ (decode k_Cb_group 8 = .ok (.invokevirtual 252, 3))))) ∧ (((decode k_Cb_group 11 = .ok (.aload_n 0, 1)) ∧ ((decode k_Cb_group 12 = .ok (.getfield 68, 3)) ∧ (decode k_Cb_group 15 = .ok (.iload_n 1, 1)))) ∧ ((decode k_Cb_group 16 = .ok (.invokevirtual 286, 3)) ∧ ((decode k_Cb_group 19 = .ok (.invokestatic 129, 3)) ∧ (decode k_Cb_group 22 = .ok (.ireturn, 1))))) := by decide +kernel
theorem D_Cb_seated_0 : ((((decode k_Cb_seated 0 = .ok (.iload_n 1, 1)) ∧ (decode k_Cb_seated 1 = .ok (.iconst 1, 1))) ∧ ((decode k_Cb_seated 2 = .ok (.if_icmp .lt 16, 3)) ∧ (decode k_Cb_seated 5 = .ok (.iload_n 1, 1)))) ∧ (((decode k_Cb_seated 6 = .ok (.bipush 10, 2)) ∧ (decode k_Cb_seated 8 = .ok (.if_icmp .ge 10, 3))) ∧ ((decode k_Cb_seated 11 = .ok (.iload_n 2, 1)) ∧ (decode k_Cb_seated 12 = .ok (.invokestatic 212, 3))))) ∧ ((((decode k_Cb_seated 15 = .ok (.ifCond .ne 7, 3)) ∧ (decode k_Cb_seated 18 = .ok (.ldc2_w 215, 3))) ∧ ((decode k_Cb_seated 21 = .ok (.lreturn, 1)) ∧ (decode k_Cb_seated 22 = .ok (.aload_n 0, 1)))) ∧ (((decode k_Cb_seated 23 = .ok (.invokevirtual 252, 3)) ∧ (decode k_Cb_seated 26 = .ok (.aload_n 0, 1))) ∧ ((decode k_Cb_seated 27 = .ok (.getfield 75, 3)) ∧ (decode k_Cb_seated 30 = .ok (.aload_n 0, 1))))) := by decide +kernel
theorem D_Cb_seated_1 : (((decode k_Cb_seated 31 = .ok (.getfield 12, 3)) ∧ ((decode k_Cb_seated 34 = .ok (.aload_n 0, 1)) ∧ (decode k_Cb_seated 35 = .ok (.getfield 68, 3)))) ∧ ((decode k_Cb_seated 38 = .ok (.iload_n 1, 1)) ∧ ((decode k_Cb_seated 39 = .ok (.aload_n 0, 1)) ∧ (decode k_Cb_seated 40 = .ok (.getfield 51, 3))))) ∧ (((decode k_Cb_seated 43 = .ok (.invokevirtual 289, 3)) ∧ ((decode k_Cb_seated 46 = .ok (.aload_n 0, 1)) ∧ (decode k_Cb_seated 47 = .ok (.getfield 51, 3)))) ∧ ((decode k_Cb_seated 50 = .ok (.iload_n 2, 1)) ∧ ((decode k_Cb_seated 51 = .ok (.invokevirtual 221, 3)) ∧ (decode k_Cb_seated 54 = .ok (.lreturn, 1))))) := by decide +kernel
theorem D_Cb_drawn_0 : ((((decode k_Cb_drawn 0 = .ok (.aload_n 0, 1)) ∧ (decode k_Cb_drawn 1 = .ok (.getfield 12, 3))) ∧ ((decode k_Cb_drawn 4 = .ok (.iload_n 2, 1)) ∧ (decode k_Cb_drawn 5 = .ok (.iload_n 3, 1)))) ∧ (((decode k_Cb_drawn 6 = .ok (.invokevirtual 193, 3)) ∧ (decode k_Cb_drawn 9 = .ok (.ifCond .eq 24, 3))) ∧ ((decode k_Cb_drawn 12 = .ok (.aload_n 0, 1)) ∧ (decode k_Cb_drawn 13 = .ok (.getfield 82, 3))))) ∧ ((((decode k_Cb_drawn 16 = .ok (.aload_n 0, 1)) ∧ (decode k_Cb_drawn 17 = .ok (.getfield 12, 3))) ∧ ((decode k_Cb_drawn 20 = .ok (.aload_n 0, 1)) ∧ (decode k_Cb_drawn 21 = .ok (.getfield 44, 3)))) ∧ (((decode k_Cb_drawn 24 = .ok (.iload_n 1, 1)) ∧ (decode k_Cb_drawn 25 = .ok (.iload_n 2, 1))) ∧ ((decode k_Cb_drawn 26 = .ok (.iload_n 3, 1)) ∧ (decode k_Cb_drawn 27 = .ok (.invokevirtual 293, 3))))) := by decide +kernel
theorem D_Cb_drawn_1 : (decode k_Cb_drawn 30 = .ok (.goto 4, 3)) ∧ ((decode k_Cb_drawn 33 = .ok (.iconst (-1), 1)) ∧ (decode k_Cb_drawn 34 = .ok (.ireturn, 1))) := by decide +kernel
theorem D_Cb_chance_0 : ((((decode k_Cb_chance 0 = .ok (.aload_n 0, 1)) ∧ (decode k_Cb_chance 1 = .ok (.getfield 12, 3))) ∧ ((decode k_Cb_chance 4 = .ok (.iload_n 2, 1)) ∧ (decode k_Cb_chance 5 = .ok (.iload_n 3, 1)))) ∧ (((decode k_Cb_chance 6 = .ok (.invokevirtual 193, 3)) ∧ (decode k_Cb_chance 9 = .ok (.ifCond .eq 16, 3))) ∧ ((decode k_Cb_chance 12 = .ok (.iload 4, 2)) ∧ (decode k_Cb_chance 14 = .ok (.ifCond .lt 11, 3))))) ∧ ((((decode k_Cb_chance 17 = .ok (.iload 5, 2)) ∧ (decode k_Cb_chance 19 = .ok (.invokestatic 212, 3))) ∧ ((decode k_Cb_chance 22 = .ok (.ifCond .ne 7, 3)) ∧ (decode k_Cb_chance 25 = .ok (.ldc2_w 215, 3)))) ∧ (((decode k_Cb_chance 28 = .ok (.lreturn, 1)) ∧ (decode k_Cb_chance 29 = .ok (.iconst 0, 1))) ∧ ((decode k_Cb_chance 30 = .ok (.istore 6, 2)) ∧ (decode k_Cb_chance 32 = .ok (.iconst 0, 1))))) := by decide +kernel
theorem D_Cb_chance_1 : ((((decode k_Cb_chance 33 = .ok (.istore 7, 2)) ∧ (decode k_Cb_chance 35 = .ok (.iload 7, 2))) ∧ ((decode k_Cb_chance 37 = .ok (.bipush 6, 2)) ∧ (decode k_Cb_chance 39 = .ok (.if_icmp .ge 38, 3)))) ∧ (((decode k_Cb_chance 42 = .ok (.aload_n 0, 1)) ∧ (decode k_Cb_chance 43 = .ok (.getfield 82, 3))) ∧ ((decode k_Cb_chance 46 = .ok (.aload_n 0, 1)) ∧ (decode k_Cb_chance 47 = .ok (.getfield 12, 3))))) ∧ ((((decode k_Cb_chance 50 = .ok (.aload_n 0, 1)) ∧ (decode k_Cb_chance 51 = .ok (.getfield 44, 3))) ∧ ((decode k_Cb_chance 54 = .ok (.iload_n 1, 1)) ∧ (decode k_Cb_chance 55 = .ok (.iload 7, 2)))) ∧ (((decode k_Cb_chance 57 = .ok (.iadd, 1)) ∧ (decode k_Cb_chance 58 = .ok (.iload_n 2, 1))) ∧ ((decode k_Cb_chance 59 = .ok (.iload_n 3, 1)) ∧ (decode k_Cb_chance 60 = .ok (.invokevirtual 293, 3))))) := by decide +kernel
theorem D_Cb_chance_2 : ((((decode k_Cb_chance 63 = .ok (.iload 4, 2)) ∧ (decode k_Cb_chance 65 = .ok (.if_icmp .lt 6, 3))) ∧ ((decode k_Cb_chance 68 = .ok (.iinc 6 1, 3)) ∧ (decode k_Cb_chance 71 = .ok (.iinc 7 1, 3)))) ∧ (((decode k_Cb_chance 74 = .ok (.goto (-39), 3)) ∧ (decode k_Cb_chance 77 = .ok (.aload_n 0, 1))) ∧ ((decode k_Cb_chance 78 = .ok (.getfield 51, 3)) ∧ (decode k_Cb_chance 81 = .ok (.iload 6, 2))))) ∧ ((((decode k_Cb_chance 83 = .ok (.i2l, 1)) ∧ (decode k_Cb_chance 84 = .ok (.ldc2_w 296, 3))) ∧ ((decode k_Cb_chance 87 = .ok (.invokevirtual 298, 3)) ∧ (decode k_Cb_chance 90 = .ok (.aload_n 0, 1)))) ∧ (((decode k_Cb_chance 91 = .ok (.getfield 51, 3)) ∧ (decode k_Cb_chance 94 = .ok (.iload 5, 2))) ∧ ((decode k_Cb_chance 96 = .ok (.invokevirtual 221, 3)) ∧ (decode k_Cb_chance 99 = .ok (.lreturn, 1))))) := by decide +kernel
theorem D_Cb_see_0 : ((((decode k_Cb_see 0 = .ok (.iload_n 1, 1)) ∧ (decode k_Cb_see 1 = .ok (.iconst (-1), 1))) ∧ ((decode k_Cb_see 2 = .ok (.if_icmp .ne 13, 3)) ∧ (decode k_Cb_see 5 = .ok (.aload_n 0, 1)))) ∧ (((decode k_Cb_see 6 = .ok (.getfield 12, 3)) ∧ (decode k_Cb_see 9 = .ok (.iconst 0, 1))) ∧ ((decode k_Cb_see 10 = .ok (.putfield 302, 3)) ∧ (decode k_Cb_see 13 = .ok (.iconst 0, 1))))) ∧ ((((decode k_Cb_see 14 = .ok (.ireturn, 1)) ∧ (decode k_Cb_see 15 = .ok (.aload_n 0, 1))) ∧ ((decode k_Cb_see 16 = .ok (.getfield 12, 3)) ∧ (decode k_Cb_see 19 = .ok (.iload_n 1, 1)))) ∧ (((decode k_Cb_see 20 = .ok (.iload_n 2, 1)) ∧ (decode k_Cb_see 21 = .ok (.invokevirtual 193, 3))) ∧ ((decode k_Cb_see 24 = .ok (.ifCond .ne 5, 3)) ∧ (decode k_Cb_see 27 = .ok (.iconst (-1), 1))))) := by decide +kernel
theorem D_Cb_see_1 : (((decode k_Cb_see 28 = .ok (.ireturn, 1)) ∧ ((decode k_Cb_see 29 = .ok (.aload_n 0, 1)) ∧ (decode k_Cb_see 30 = .ok (.getfield 12, 3)))) ∧ (((decode k_Cb_see 33 = .ok (.getfield 302, 3)) ∧ (decode k_Cb_see 36 = .ok (.iconst 5, 1))) ∧ ((decode k_Cb_see 37 = .ok (.if_icmp .ge 16, 3)) ∧ (decode k_Cb_see 40 = .ok (.aload_n 0, 1))))) ∧ ((((decode k_Cb_see 41 = .ok (.getfield 12, 3)) ∧ (decode k_Cb_see 44 = .ok (.iload_n 1, 1))) ∧ ((decode k_Cb_see 45 = .ok (.iload_n 2, 1)) ∧ (decode k_Cb_see 46 = .ok (.iload_n 3, 1)))) ∧ (((decode k_Cb_see 47 = .ok (.invokevirtual 305, 3)) ∧ (decode k_Cb_see 50 = .ok (.goto 5, 3))) ∧ ((decode k_Cb_see 53 = .ok (.bipush (-4), 2)) ∧ (decode k_Cb_see 55 = .ok (.ireturn, 1))))) := by decide +kernel
theorem D_Cb_fits_0 : ((((decode k_Cb_fits 0 = .ok (.iload_n 1, 1)) ∧ (decode k_Cb_fits 1 = .ok (.ifCond .eq 10, 3))) ∧ ((decode k_Cb_fits 4 = .ok (.iload_n 1, 1)) ∧ (decode k_Cb_fits 5 = .ok (.iconst 1, 1)))) ∧ (((decode k_Cb_fits 6 = .ok (.if_icmp .eq 5, 3)) ∧ (decode k_Cb_fits 9 = .ok (.iconst (-1), 1))) ∧ ((decode k_Cb_fits 10 = .ok (.ireturn, 1)) ∧ (decode k_Cb_fits 11 = .ok (.iconst 0, 1))))) ∧ ((((decode k_Cb_fits 12 = .ok (.istore_n 2, 1)) ∧ (decode k_Cb_fits 13 = .ok (.bipush (-5), 2))) ∧ ((decode k_Cb_fits 15 = .ok (.istore_n 3, 1)) ∧ (decode k_Cb_fits 16 = .ok (.iconst 3, 1)))) ∧ (((decode k_Cb_fits 17 = .ok (.istore 4, 2)) ∧ (decode k_Cb_fits 19 = .ok (.iload 4, 2))) ∧ ((decode k_Cb_fits 21 = .ok (.ifCond .lt 46, 3)) ∧ (decode k_Cb_fits 24 = .ok (.aload_n 0, 1))))) := by decide +kernel
theorem D_Cb_fits_1 : ((((decode k_Cb_fits 25 = .ok (.getfield 61, 3)) ∧ (decode k_Cb_fits 28 = .ok (.aload_n 0, 1))) ∧ ((decode k_Cb_fits 29 = .ok (.getfield 12, 3)) ∧ (decode k_Cb_fits 32 = .ok (.aload_n 0, 1)))) ∧ (((decode k_Cb_fits 33 = .ok (.getfield 44, 3)) ∧ (decode k_Cb_fits 36 = .ok (.iload 4, 2))) ∧ ((decode k_Cb_fits 38 = .ok (.invokevirtual 309, 3)) ∧ (decode k_Cb_fits 41 = .ok (.aload_n 0, 1))))) ∧ ((((decode k_Cb_fits 42 = .ok (.getfield 61, 3)) ∧ (decode k_Cb_fits 45 = .ok (.aload_n 0, 1))) ∧ ((decode k_Cb_fits 46 = .ok (.getfield 12, 3)) ∧ (decode k_Cb_fits 49 = .ok (.invokevirtual 313, 3)))) ∧ (((decode k_Cb_fits 52 = .ok (.ifCond .eq 9, 3)) ∧ (decode k_Cb_fits 55 = .ok (.iinc 2 1, 3))) ∧ ((decode k_Cb_fits 58 = .ok (.iload 4, 2)) ∧ (decode k_Cb_fits 60 = .ok (.istore_n 3, 1))))) := by decide +kernel
theorem D_Cb_fits_2 : (((decode k_Cb_fits 61 = .ok (.iinc 4 (-1), 3)) ∧ (decode k_Cb_fits 64 = .ok (.goto (-45), 3))) ∧ ((decode k_Cb_fits 67 = .ok (.iload_n 1, 1)) ∧ (decode k_Cb_fits 68 = .ok (.ifCond .ne 7, 3)))) ∧ (((decode k_Cb_fits 71 = .ok (.iload_n 2, 1)) ∧ (decode k_Cb_fits 72 = .ok (.goto 4, 3))) ∧ ((decode k_Cb_fits 75 = .ok (.iload_n 3, 1)) ∧ (decode k_Cb_fits 76 = .ok (.ireturn, 1)))) := by decide +kernel
theorem D_Cb_mean_0 : ((((decode k_Cb_mean 0 = .ok (.aload_n 0, 1)) ∧ (decode k_Cb_mean 1 = .ok (.getfield 12, 3))) ∧ ((decode k_Cb_mean 4 = .ok (.invokevirtual 240, 3)) ∧ (decode k_Cb_mean 7 = .ok (.istore_n 2, 1)))) ∧ (((decode k_Cb_mean 8 = .ok (.iload_n 2, 1)) ∧ (decode k_Cb_mean 9 = .ok (.ifCond .eq 10, 3))) ∧ ((decode k_Cb_mean 12 = .ok (.iload_n 1, 1)) ∧ (decode k_Cb_mean 13 = .ok (.invokestatic 212, 3))))) ∧ ((((decode k_Cb_mean 16 = .ok (.ifCond .ne 7, 3)) ∧ (decode k_Cb_mean 19 = .ok (.ldc2_w 215, 3))) ∧ ((decode k_Cb_mean 22 = .ok (.lreturn, 1)) ∧ (decode k_Cb_mean 23 = .ok (.aload_n 0, 1)))) ∧ (((decode k_Cb_mean 24 = .ok (.getfield 51, 3)) ∧ (decode k_Cb_mean 27 = .ok (.aload_n 0, 1))) ∧ ((decode k_Cb_mean 28 = .ok (.getfield 12, 3)) ∧ (decode k_Cb_mean 31 = .ok (.invokevirtual 317, 3))))) := by decide +kernel
theorem D_Cb_mean_1 : (((decode k_Cb_mean 34 = .ok (.i2l, 1)) ∧ (decode k_Cb_mean 35 = .ok (.iload_n 2, 1))) ∧ ((decode k_Cb_mean 36 = .ok (.i2l, 1)) ∧ (decode k_Cb_mean 37 = .ok (.invokevirtual 298, 3)))) ∧ (((decode k_Cb_mean 40 = .ok (.aload_n 0, 1)) ∧ (decode k_Cb_mean 41 = .ok (.getfield 51, 3))) ∧ ((decode k_Cb_mean 44 = .ok (.iload_n 1, 1)) ∧ ((decode k_Cb_mean 45 = .ok (.invokevirtual 221, 3)) ∧ (decode k_Cb_mean 48 = .ok (.lreturn, 1))))) := by decide +kernel
theorem D_Cb_plan_0 : ((((decode k_Cb_plan 0 = .ok (.iload_n 1, 1)) ∧ (decode k_Cb_plan 1 = .ok (.iconst (-1), 1))) ∧ ((decode k_Cb_plan 2 = .ok (.if_icmp .ne 13, 3)) ∧ (decode k_Cb_plan 5 = .ok (.aload_n 0, 1)))) ∧ (((decode k_Cb_plan 6 = .ok (.getfield 12, 3)) ∧ (decode k_Cb_plan 9 = .ok (.iconst 0, 1))) ∧ ((decode k_Cb_plan 10 = .ok (.putfield 320, 3)) ∧ (decode k_Cb_plan 13 = .ok (.iconst 0, 1))))) ∧ ((((decode k_Cb_plan 14 = .ok (.ireturn, 1)) ∧ (decode k_Cb_plan 15 = .ok (.aload_n 0, 1))) ∧ ((decode k_Cb_plan 16 = .ok (.getfield 12, 3)) ∧ (decode k_Cb_plan 19 = .ok (.iload_n 1, 1)))) ∧ (((decode k_Cb_plan 20 = .ok (.iload_n 2, 1)) ∧ (decode k_Cb_plan 21 = .ok (.iload_n 3, 1))) ∧ ((decode k_Cb_plan 22 = .ok (.invokevirtual 323, 3)) ∧ (decode k_Cb_plan 25 = .ok (.ifCond .ne 5, 3))))) := by decide +kernel
theorem D_Cb_plan_1 : ((((decode k_Cb_plan 28 = .ok (.iconst (-1), 1)) ∧ (decode k_Cb_plan 29 = .ok (.ireturn, 1))) ∧ ((decode k_Cb_plan 30 = .ok (.iload_n 1, 1)) ∧ (decode k_Cb_plan 31 = .ok (.iconst 1, 1)))) ∧ (((decode k_Cb_plan 32 = .ok (.if_icmp .ne 10, 3)) ∧ (decode k_Cb_plan 35 = .ok (.iload_n 3, 1))) ∧ ((decode k_Cb_plan 36 = .ok (.invokestatic 99, 3)) ∧ (decode k_Cb_plan 39 = .ok (.ifCond .eq 15, 3))))) ∧ ((((decode k_Cb_plan 42 = .ok (.iload_n 1, 1)) ∧ (decode k_Cb_plan 43 = .ok (.iconst 2, 1))) ∧ ((decode k_Cb_plan 44 = .ok (.if_icmp .ne 13, 3)) ∧ (decode k_Cb_plan 47 = .ok (.iload_n 3, 1)))) ∧ (((decode k_Cb_plan 48 = .ok (.invokestatic 106, 3)) ∧ (decode k_Cb_plan 51 = .ok (.ifCond .ne 6, 3))) ∧ ((decode k_Cb_plan 54 = .ok (.bipush (-2), 2)) ∧ (decode k_Cb_plan 56 = .ok (.ireturn, 1))))) := by decide +kernel
theorem D_Cb_plan_2 : (((decode k_Cb_plan 57 = .ok (.aload_n 0, 1)) ∧ ((decode k_Cb_plan 58 = .ok (.getfield 12, 3)) ∧ (decode k_Cb_plan 61 = .ok (.getfield 320, 3)))) ∧ (((decode k_Cb_plan 64 = .ok (.bipush 8, 2)) ∧ (decode k_Cb_plan 66 = .ok (.if_icmp .ge 16, 3))) ∧ ((decode k_Cb_plan 69 = .ok (.aload_n 0, 1)) ∧ (decode k_Cb_plan 70 = .ok (.getfield 12, 3))))) ∧ (((decode k_Cb_plan 73 = .ok (.iload_n 1, 1)) ∧ ((decode k_Cb_plan 74 = .ok (.iload_n 2, 1)) ∧ (decode k_Cb_plan 75 = .ok (.iload_n 3, 1)))) ∧ (((decode k_Cb_plan 76 = .ok (.invokevirtual 327, 3)) ∧ (decode k_Cb_plan 79 = .ok (.goto 5, 3))) ∧ ((decode k_Cb_plan 82 = .ok (.bipush (-4), 2)) ∧ (decode k_Cb_plan 84 = .ok (.ireturn, 1))))) := by decide +kernel
theorem D_Cb_ends_0 : ((((decode k_Cb_ends 0 = .ok (.aload_n 0, 1)) ∧ (decode k_Cb_ends 1 = .ok (.getfield 21, 3))) ∧ ((decode k_Cb_ends 4 = .ok (.aload_n 0, 1)) ∧ (decode k_Cb_ends 5 = .ok (.getfield 12, 3)))) ∧ (((decode k_Cb_ends 8 = .ok (.invokevirtual 331, 3)) ∧ (decode k_Cb_ends 11 = .ok (.aload_n 0, 1))) ∧ ((decode k_Cb_ends 12 = .ok (.getfield 21, 3)) ∧ (decode k_Cb_ends 15 = .ok (.invokevirtual 333, 3))))) ∧ ((((decode k_Cb_ends 18 = .ok (.aload_n 0, 1)) ∧ (decode k_Cb_ends 19 = .ok (.getfield 61, 3))) ∧ ((decode k_Cb_ends 22 = .ok (.aload_n 0, 1)) ∧ (decode k_Cb_ends 23 = .ok (.getfield 21, 3)))) ∧ (((decode k_Cb_ends 26 = .ok (.aload_n 0, 1)) ∧ (decode k_Cb_ends 27 = .ok (.getfield 44, 3))) ∧ ((decode k_Cb_ends 30 = .ok (.aload_n 0, 1)) ∧ (decode k_Cb_ends 31 = .ok (.getfield 21, 3))))) := by decide +kernel
theorem D_Cb_ends_1 : (((decode k_Cb_ends 34 = .ok (.getfield 165, 3)) ∧ (decode k_Cb_ends 37 = .ok (.iconst 0, 1))) ∧ ((decode k_Cb_ends 38 = .ok (.iaload, 1)) ∧ (decode k_Cb_ends 39 = .ok (.invokevirtual 309, 3)))) ∧ (((decode k_Cb_ends 42 = .ok (.aload_n 0, 1)) ∧ (decode k_Cb_ends 43 = .ok (.getfield 61, 3))) ∧ ((decode k_Cb_ends 46 = .ok (.getfield 246, 3)) ∧ (decode k_Cb_ends 49 = .ok (.ireturn, 1)))) := by decide +kernel
theorem D_Cb_judge_0 : ((((decode k_Cb_judge 0 = .ok (.aload_n 0, 1)) ∧ (decode k_Cb_judge 1 = .ok (.getfield 12, 3))) ∧ ((decode k_Cb_judge 4 = .ok (.iload_n 1, 1)) ∧ (decode k_Cb_judge 5 = .ok (.invokevirtual 123, 3)))) ∧ (((decode k_Cb_judge 8 = .ok (.ifCond .eq 10, 3)) ∧ (decode k_Cb_judge 11 = .ok (.iload_n 2, 1))) ∧ ((decode k_Cb_judge 12 = .ok (.invokestatic 336, 3)) ∧ (decode k_Cb_judge 15 = .ok (.ifCond .ne 5, 3))))) ∧ ((((decode k_Cb_judge 18 = .ok (.iconst (-1), 1)) ∧ (decode k_Cb_judge 19 = .ok (.ireturn, 1))) ∧ ((decode k_Cb_judge 20 = .ok (.aload_n 0, 1)) ∧ (decode k_Cb_judge 21 = .ok (.getfield 37, 3)))) ∧ (((decode k_Cb_judge 24 = .ok (.iload_n 2, 1)) ∧ (decode k_Cb_judge 25 = .ok (.aaload, 1))) ∧ ((decode k_Cb_judge 26 = .ok (.astore 4, 2)) ∧ (decode k_Cb_judge 28 = .ok (.aload 4, 2))))) := by decide +kernel
theorem D_Cb_judge_1 : ((((decode k_Cb_judge 30 = .ok (.invokevirtual 339, 3)) ∧ (decode k_Cb_judge 33 = .ok (.ifCond .ne 14, 3))) ∧ ((decode k_Cb_judge 36 = .ok (.aload 4, 2)) ∧ (decode k_Cb_judge 38 = .ok (.getfield 342, 3)))) ∧ (((decode k_Cb_judge 41 = .ok (.ifCond .eq 6, 3)) ∧ (decode k_Cb_judge 44 = .ok (.bipush (-12), 2))) ∧ ((decode k_Cb_judge 46 = .ok (.ireturn, 1)) ∧ (decode k_Cb_judge 47 = .ok (.iconst 0, 1))))) ∧ ((((decode k_Cb_judge 48 = .ok (.istore 5, 2)) ∧ (decode k_Cb_judge 50 = .ok (.iload 5, 2))) ∧ ((decode k_Cb_judge 52 = .ok (.aload_n 0, 1)) ∧ (decode k_Cb_judge 53 = .ok (.getfield 12, 3)))) ∧ (((decode k_Cb_judge 56 = .ok (.getfield 87, 3)) ∧ (decode k_Cb_judge 59 = .ok (.if_icmp .ge 56, 3))) ∧ ((decode k_Cb_judge 62 = .ok (.aload 4, 2)) ∧ (decode k_Cb_judge 64 = .ok (.iload_n 3, 1))))) := by decide +kernel
theorem D_Cb_judge_2 : ((((decode k_Cb_judge 65 = .ok (.iload 5, 2)) ∧ (decode k_Cb_judge 67 = .ok (.invokevirtual 345, 3))) ∧ ((decode k_Cb_judge 70 = .ok (.ifCond .ne 9, 3)) ∧ (decode k_Cb_judge 73 = .ok (.bipush 100, 2)))) ∧ (((decode k_Cb_judge 75 = .ok (.iload 5, 2)) ∧ (decode k_Cb_judge 77 = .ok (.iadd, 1))) ∧ ((decode k_Cb_judge 78 = .ok (.ireturn, 1)) ∧ (decode k_Cb_judge 79 = .ok (.aload 4, 2))))) ∧ ((((decode k_Cb_judge 81 = .ok (.getfield 348, 3)) ∧ (decode k_Cb_judge 84 = .ok (.iload_n 3, 1))) ∧ ((decode k_Cb_judge 85 = .ok (.iload 5, 2)) ∧ (decode k_Cb_judge 87 = .ok (.iadd, 1)))) ∧ (((decode k_Cb_judge 88 = .ok (.laload, 1)) ∧ (decode k_Cb_judge 89 = .ok (.aload_n 0, 1))) ∧ ((decode k_Cb_judge 90 = .ok (.getfield 12, 3)) ∧ (decode k_Cb_judge 93 = .ok (.getfield 126, 3))))) := by decide +kernel
theorem D_Cb_judge_3 : (((decode k_Cb_judge 96 = .ok (.iload_n 1, 1)) ∧ ((decode k_Cb_judge 97 = .ok (.aaload, 1)) ∧ (decode k_Cb_judge 98 = .ok (.iload 5, 2)))) ∧ ((decode k_Cb_judge 100 = .ok (.iaload, 1)) ∧ ((decode k_Cb_judge 101 = .ok (.i2l, 1)) ∧ (decode k_Cb_judge 102 = .ok (.lcmp, 1))))) ∧ (((decode k_Cb_judge 103 = .ok (.ifCond .eq 6, 3)) ∧ ((decode k_Cb_judge 106 = .ok (.iload 5, 2)) ∧ (decode k_Cb_judge 108 = .ok (.ireturn, 1)))) ∧ (((decode k_Cb_judge 109 = .ok (.iinc 5 1, 3)) ∧ (decode k_Cb_judge 112 = .ok (.goto (-62), 3))) ∧ ((decode k_Cb_judge 115 = .ok (.bipush (-5), 2)) ∧ (decode k_Cb_judge 117 = .ok (.ireturn, 1))))) := by decide +kernel
theorem D_Cb_image_0 : (((decode k_Cb_image 0 = .ok (.aload_n 0, 1)) ∧ ((decode k_Cb_image 1 = .ok (.getfield 18, 3)) ∧ (decode k_Cb_image 4 = .ok (.aload_n 0, 1)))) ∧ ((decode k_Cb_image 5 = .ok (.getfield 12, 3)) ∧ ((decode k_Cb_image 8 = .ok (.invokevirtual 331, 3)) ∧ (decode k_Cb_image 11 = .ok (.aload_n 0, 1))))) ∧ (((decode k_Cb_image 12 = .ok (.iconst 1, 1)) ∧ ((decode k_Cb_image 13 = .ok (.putfield 24, 3)) ∧ (decode k_Cb_image 16 = .ok (.aload_n 0, 1)))) ∧ ((decode k_Cb_image 17 = .ok (.getfield 18, 3)) ∧ ((decode k_Cb_image 20 = .ok (.getfield 116, 3)) ∧ (decode k_Cb_image 23 = .ok (.ireturn, 1))))) := by decide +kernel
theorem D_Cb_undo_0 : (((decode k_Cb_undo 0 = .ok (.aload_n 0, 1)) ∧ ((decode k_Cb_undo 1 = .ok (.getfield 24, 3)) ∧ (decode k_Cb_undo 4 = .ok (.ifCond .ne 6, 3)))) ∧ (((decode k_Cb_undo 7 = .ok (.bipush (-3), 2)) ∧ (decode k_Cb_undo 9 = .ok (.ireturn, 1))) ∧ ((decode k_Cb_undo 10 = .ok (.aload_n 0, 1)) ∧ (decode k_Cb_undo 11 = .ok (.getfield 12, 3))))) ∧ (((decode k_Cb_undo 14 = .ok (.aload_n 0, 1)) ∧ ((decode k_Cb_undo 15 = .ok (.getfield 18, 3)) ∧ (decode k_Cb_undo 18 = .ok (.invokevirtual 331, 3)))) ∧ (((decode k_Cb_undo 21 = .ok (.aload_n 0, 1)) ∧ (decode k_Cb_undo 22 = .ok (.getfield 12, 3))) ∧ ((decode k_Cb_undo 25 = .ok (.getfield 116, 3)) ∧ (decode k_Cb_undo 28 = .ok (.ireturn, 1))))) := by decide +kernel
theorem D_Cb_count_0 : ((((decode k_Cb_count 0 = .ok (.iload_n 1, 1)) ∧ (decode k_Cb_count 1 = .ok (.tableswitch 87 0 5 #[39, 47, 55, 63, 71, 79], 39))) ∧ ((decode k_Cb_count 40 = .ok (.aload_n 0, 1)) ∧ (decode k_Cb_count 41 = .ok (.getfield 12, 3)))) ∧ (((decode k_Cb_count 44 = .ok (.getfield 87, 3)) ∧ (decode k_Cb_count 47 = .ok (.ireturn, 1))) ∧ ((decode k_Cb_count 48 = .ok (.aload_n 0, 1)) ∧ (decode k_Cb_count 49 = .ok (.getfield 12, 3))))) ∧ ((((decode k_Cb_count 52 = .ok (.getfield 116, 3)) ∧ (decode k_Cb_count 55 = .ok (.ireturn, 1))) ∧ ((decode k_Cb_count 56 = .ok (.aload_n 0, 1)) ∧ (decode k_Cb_count 57 = .ok (.getfield 12, 3)))) ∧ (((decode k_Cb_count 60 = .ok (.invokevirtual 350, 3)) ∧ (decode k_Cb_count 63 = .ok (.ireturn, 1))) ∧ ((decode k_Cb_count 64 = .ok (.aload_n 0, 1)) ∧ (decode k_Cb_count 65 = .ok (.getfield 12, 3))))) := by decide +kernel
theorem D_Cb_count_1 : ((((decode k_Cb_count 68 = .ok (.getfield 302, 3)) ∧ (decode k_Cb_count 71 = .ok (.ireturn, 1))) ∧ ((decode k_Cb_count 72 = .ok (.aload_n 0, 1)) ∧ (decode k_Cb_count 73 = .ok (.getfield 12, 3)))) ∧ (((decode k_Cb_count 76 = .ok (.getfield 320, 3)) ∧ (decode k_Cb_count 79 = .ok (.ireturn, 1))) ∧ ((decode k_Cb_count 80 = .ok (.aload_n 0, 1)) ∧ (decode k_Cb_count 81 = .ok (.getfield 31, 3))))) ∧ ((((decode k_Cb_count 84 = .ok (.getfield 353, 3)) ∧ (decode k_Cb_count 87 = .ok (.ireturn, 1))) ∧ ((decode k_Cb_count 88 = .ok (.iload_n 1, 1)) ∧ (decode k_Cb_count 89 = .ok (.bipush 6, 2)))) ∧ (((decode k_Cb_count 91 = .ok (.if_icmp .lt 24, 3)) ∧ (decode k_Cb_count 94 = .ok (.iload_n 1, 1))) ∧ ((decode k_Cb_count 95 = .ok (.bipush 12, 2)) ∧ (decode k_Cb_count 97 = .ok (.if_icmp .ge 18, 3))))) := by decide +kernel
theorem D_Cb_count_2 : (((decode k_Cb_count 100 = .ok (.aload_n 0, 1)) ∧ (decode k_Cb_count 101 = .ok (.getfield 12, 3))) ∧ ((decode k_Cb_count 104 = .ok (.getfield 165, 3)) ∧ ((decode k_Cb_count 107 = .ok (.iload_n 1, 1)) ∧ (decode k_Cb_count 108 = .ok (.bipush 6, 2))))) ∧ (((decode k_Cb_count 110 = .ok (.isub, 1)) ∧ (decode k_Cb_count 111 = .ok (.iaload, 1))) ∧ ((decode k_Cb_count 112 = .ok (.goto 5, 3)) ∧ ((decode k_Cb_count 115 = .ok (.bipush (-2), 2)) ∧ (decode k_Cb_count 117 = .ok (.ireturn, 1))))) := by decide +kernel
theorem D_Cb_tape_0 : ((((decode k_Cb_tape 0 = .ok (.iload_n 1, 1)) ∧ (decode k_Cb_tape 1 = .ok (.invokestatic 336, 3))) ∧ ((decode k_Cb_tape 4 = .ok (.ifCond .ne 5, 3)) ∧ (decode k_Cb_tape 7 = .ok (.iconst (-1), 1)))) ∧ (((decode k_Cb_tape 8 = .ok (.ireturn, 1)) ∧ (decode k_Cb_tape 9 = .ok (.iload_n 2, 1))) ∧ ((decode k_Cb_tape 10 = .ok (.iconst (-1), 1)) ∧ (decode k_Cb_tape 11 = .ok (.if_icmp .ne 16, 3))))) ∧ ((((decode k_Cb_tape 14 = .ok (.aload_n 0, 1)) ∧ (decode k_Cb_tape 15 = .ok (.getfield 37, 3))) ∧ ((decode k_Cb_tape 18 = .ok (.iload_n 1, 1)) ∧ (decode k_Cb_tape 19 = .ok (.aaload, 1)))) ∧ (((decode k_Cb_tape 20 = .ok (.iconst (-1), 1)) ∧ (decode k_Cb_tape 21 = .ok (.iconst 0, 1))) ∧ ((decode k_Cb_tape 22 = .ok (.invokevirtual 356, 3)) ∧ (decode k_Cb_tape 25 = .ok (.iconst 1, 1))))) := by decide +kernel
theorem D_Cb_tape_1 : ((((decode k_Cb_tape 26 = .ok (.ireturn, 1)) ∧ (decode k_Cb_tape 27 = .ok (.iload_n 2, 1))) ∧ ((decode k_Cb_tape 28 = .ok (.ifCond .lt 14, 3)) ∧ (decode k_Cb_tape 31 = .ok (.iload_n 2, 1)))) ∧ (((decode k_Cb_tape 32 = .ok (.iconst 4, 1)) ∧ (decode k_Cb_tape 33 = .ok (.if_icmp .gt 9, 3))) ∧ ((decode k_Cb_tape 36 = .ok (.iload_n 3, 1)) ∧ (decode k_Cb_tape 37 = .ok (.bipush 60, 2))))) ∧ ((((decode k_Cb_tape 39 = .ok (.if_icmp .le 6, 3)) ∧ (decode k_Cb_tape 42 = .ok (.bipush (-2), 2))) ∧ ((decode k_Cb_tape 44 = .ok (.ireturn, 1)) ∧ (decode k_Cb_tape 45 = .ok (.iload_n 3, 1)))) ∧ (((decode k_Cb_tape 46 = .ok (.ifCond .ge 6, 3)) ∧ (decode k_Cb_tape 49 = .ok (.bipush (-14), 2))) ∧ ((decode k_Cb_tape 51 = .ok (.ireturn, 1)) ∧ (decode k_Cb_tape 52 = .ok (.aload_n 0, 1))))) := by decide +kernel
theorem D_Cb_tape_2 : (((decode k_Cb_tape 53 = .ok (.getfield 37, 3)) ∧ (decode k_Cb_tape 56 = .ok (.iload_n 1, 1))) ∧ ((decode k_Cb_tape 57 = .ok (.aaload, 1)) ∧ (decode k_Cb_tape 58 = .ok (.iload_n 2, 1)))) ∧ (((decode k_Cb_tape 59 = .ok (.iload_n 3, 1)) ∧ (decode k_Cb_tape 60 = .ok (.invokevirtual 356, 3))) ∧ ((decode k_Cb_tape 63 = .ok (.iconst 1, 1)) ∧ (decode k_Cb_tape 64 = .ok (.ireturn, 1)))) := by decide +kernel
theorem D_Cb_item_0 : ((((decode k_Cb_item 0 = .ok (.iload_n 1, 1)) ∧ (decode k_Cb_item 1 = .ok (.invokestatic 336, 3))) ∧ ((decode k_Cb_item 4 = .ok (.ifCond .ne 5, 3)) ∧ (decode k_Cb_item 7 = .ok (.iconst (-1), 1)))) ∧ (((decode k_Cb_item 8 = .ok (.ireturn, 1)) ∧ (decode k_Cb_item 9 = .ok (.aload_n 0, 1))) ∧ ((decode k_Cb_item 10 = .ok (.getfield 37, 3)) ∧ (decode k_Cb_item 13 = .ok (.iload_n 1, 1))))) ∧ ((((decode k_Cb_item 14 = .ok (.aaload, 1)) ∧ (decode k_Cb_item 15 = .ok (.astore 5, 2))) ∧ ((decode k_Cb_item 17 = .ok (.aload 5, 2)) ∧ (decode k_Cb_item 19 = .ok (.invokevirtual 339, 3)))) ∧ (((decode k_Cb_item 22 = .ok (.ifCond .eq 6, 3)) ∧ (decode k_Cb_item 25 = .ok (.bipush (-11), 2))) ∧ ((decode k_Cb_item 27 = .ok (.ireturn, 1)) ∧ (decode k_Cb_item 28 = .ok (.aload 5, 2))))) := by decide +kernel
theorem D_Cb_item_1 : (((decode k_Cb_item 30 = .ok (.iload_n 2, 1)) ∧ ((decode k_Cb_item 31 = .ok (.invokevirtual 359, 3)) ∧ (decode k_Cb_item 34 = .ok (.ifCond .ne 6, 3)))) ∧ (((decode k_Cb_item 37 = .ok (.bipush (-13), 2)) ∧ (decode k_Cb_item 39 = .ok (.ireturn, 1))) ∧ ((decode k_Cb_item 40 = .ok (.aload 5, 2)) ∧ (decode k_Cb_item 42 = .ok (.getfield 348, 3))))) ∧ (((decode k_Cb_item 45 = .ok (.iload_n 2, 1)) ∧ ((decode k_Cb_item 46 = .ok (.aload 5, 2)) ∧ (decode k_Cb_item 48 = .ok (.lload_n 3, 1)))) ∧ (((decode k_Cb_item 49 = .ok (.invokevirtual 362, 3)) ∧ (decode k_Cb_item 52 = .ok (.lastore, 1))) ∧ ((decode k_Cb_item 53 = .ok (.iconst 1, 1)) ∧ (decode k_Cb_item 54 = .ok (.ireturn, 1))))) := by decide +kernel
theorem D_Cb_peek_0 : ((((decode k_Cb_peek 0 = .ok (.iload_n 1, 1)) ∧ (decode k_Cb_peek 1 = .ok (.invokestatic 336, 3))) ∧ ((decode k_Cb_peek 4 = .ok (.ifCond .eq 16, 3)) ∧ (decode k_Cb_peek 7 = .ok (.aload_n 0, 1)))) ∧ (((decode k_Cb_peek 8 = .ok (.getfield 37, 3)) ∧ (decode k_Cb_peek 11 = .ok (.iload_n 1, 1))) ∧ ((decode k_Cb_peek 12 = .ok (.aaload, 1)) ∧ (decode k_Cb_peek 13 = .ok (.iload_n 2, 1))))) ∧ ((((decode k_Cb_peek 14 = .ok (.invokevirtual 359, 3)) ∧ (decode k_Cb_peek 17 = .ok (.ifCond .ne 7, 3))) ∧ ((decode k_Cb_peek 20 = .ok (.ldc2_w 215, 3)) ∧ (decode k_Cb_peek 23 = .ok (.lreturn, 1)))) ∧ (((decode k_Cb_peek 24 = .ok (.aload_n 0, 1)) ∧ (decode k_Cb_peek 25 = .ok (.getfield 37, 3))) ∧ ((decode k_Cb_peek 28 = .ok (.iload_n 1, 1)) ∧ (decode k_Cb_peek 29 = .ok (.aaload, 1))))) := by decide +kernel
theorem D_Cb_peek_1 : ((decode k_Cb_peek 30 = .ok (.getfield 348, 3)) ∧ (decode k_Cb_peek 33 = .ok (.iload_n 2, 1))) ∧ ((decode k_Cb_peek 34 = .ok (.laload, 1)) ∧ (decode k_Cb_peek 35 = .ok (.lreturn, 1))) := by decide +kernel
theorem D_Cb_shift_0 : ((((decode k_Cb_shift 0 = .ok (.iload_n 1, 1)) ∧ (decode k_Cb_shift 1 = .ok (.invokestatic 336, 3))) ∧ ((decode k_Cb_shift 4 = .ok (.ifCond .eq 10, 3)) ∧ (decode k_Cb_shift 7 = .ok (.iload_n 3, 1)))) ∧ (((decode k_Cb_shift 8 = .ok (.invokestatic 336, 3)) ∧ (decode k_Cb_shift 11 = .ok (.ifCond .ne 5, 3))) ∧ ((decode k_Cb_shift 14 = .ok (.iconst (-1), 1)) ∧ (decode k_Cb_shift 15 = .ok (.ireturn, 1))))) ∧ ((((decode k_Cb_shift 16 = .ok (.aload_n 0, 1)) ∧ (decode k_Cb_shift 17 = .ok (.getfield 37, 3))) ∧ ((decode k_Cb_shift 20 = .ok (.iload_n 1, 1)) ∧ (decode k_Cb_shift 21 = .ok (.aaload, 1)))) ∧ (((decode k_Cb_shift 22 = .ok (.astore 6, 2)) ∧ (decode k_Cb_shift 24 = .ok (.aload_n 0, 1))) ∧ ((decode k_Cb_shift 25 = .ok (.getfield 37, 3)) ∧ (decode k_Cb_shift 28 = .ok (.iload_n 3, 1))))) := by decide +kernel
theorem D_Cb_shift_1 : ((((decode k_Cb_shift 29 = .ok (.aaload, 1)) ∧ (decode k_Cb_shift 30 = .ok (.astore 7, 2))) ∧ ((decode k_Cb_shift 32 = .ok (.aload 6, 2)) ∧ (decode k_Cb_shift 34 = .ok (.invokevirtual 339, 3)))) ∧ (((decode k_Cb_shift 37 = .ok (.ifCond .ne 11, 3)) ∧ (decode k_Cb_shift 40 = .ok (.aload 7, 2))) ∧ ((decode k_Cb_shift 42 = .ok (.invokevirtual 339, 3)) ∧ (decode k_Cb_shift 45 = .ok (.ifCond .eq 6, 3))))) ∧ ((((decode k_Cb_shift 48 = .ok (.bipush (-11), 2)) ∧ (decode k_Cb_shift 50 = .ok (.ireturn, 1))) ∧ ((decode k_Cb_shift 51 = .ok (.aload 6, 2)) ∧ (decode k_Cb_shift 53 = .ok (.getfield 342, 3)))) ∧ (((decode k_Cb_shift 56 = .ok (.aload 7, 2)) ∧ (decode k_Cb_shift 58 = .ok (.getfield 342, 3))) ∧ ((decode k_Cb_shift 61 = .ok (.if_icmp .eq 6, 3)) ∧ (decode k_Cb_shift 64 = .ok (.bipush (-12), 2))))) := by decide +kernel
theorem D_Cb_shift_2 : ((((decode k_Cb_shift 66 = .ok (.ireturn, 1)) ∧ (decode k_Cb_shift 67 = .ok (.aload 6, 2))) ∧ ((decode k_Cb_shift 69 = .ok (.iload_n 2, 1)) ∧ (decode k_Cb_shift 70 = .ok (.iload 5, 2)))) ∧ (((decode k_Cb_shift 72 = .ok (.invokevirtual 366, 3)) ∧ (decode k_Cb_shift 75 = .ok (.ifCond .eq 15, 3))) ∧ ((decode k_Cb_shift 78 = .ok (.aload 7, 2)) ∧ (decode k_Cb_shift 80 = .ok (.iload 4, 2))))) ∧ ((((decode k_Cb_shift 82 = .ok (.iload 5, 2)) ∧ (decode k_Cb_shift 84 = .ok (.invokevirtual 366, 3))) ∧ ((decode k_Cb_shift 87 = .ok (.ifCond .ne 6, 3)) ∧ (decode k_Cb_shift 90 = .ok (.bipush (-13), 2)))) ∧ (((decode k_Cb_shift 92 = .ok (.ireturn, 1)) ∧ (decode k_Cb_shift 93 = .ok (.aload 6, 2))) ∧ ((decode k_Cb_shift 95 = .ok (.getfield 348, 3)) ∧ (decode k_Cb_shift 98 = .ok (.iload_n 2, 1))))) := by decide +kernel
theorem D_Cb_shift_3 : ((decode k_Cb_shift 99 = .ok (.aload 7, 2)) ∧ ((decode k_Cb_shift 101 = .ok (.getfield 348, 3)) ∧ (decode k_Cb_shift 104 = .ok (.iload 4, 2)))) ∧ (((decode k_Cb_shift 106 = .ok (.iload 5, 2)) ∧ (decode k_Cb_shift 108 = .ok (.invokestatic 369, 3))) ∧ ((decode k_Cb_shift 111 = .ok (.iload 5, 2)) ∧ (decode k_Cb_shift 113 = .ok (.ireturn, 1)))) := by decide +kernel
theorem D_Cb_rankNow_0 : (((decode k_Cb_rankNow 0 = .ok (.aload_n 0, 1)) ∧ ((decode k_Cb_rankNow 1 = .ok (.getfield 61, 3)) ∧ (decode k_Cb_rankNow 4 = .ok (.aload_n 0, 1)))) ∧ ((decode k_Cb_rankNow 5 = .ok (.getfield 12, 3)) ∧ ((decode k_Cb_rankNow 8 = .ok (.aload_n 0, 1)) ∧ (decode k_Cb_rankNow 9 = .ok (.getfield 44, 3))))) ∧ (((decode k_Cb_rankNow 12 = .ok (.aload_n 0, 1)) ∧ ((decode k_Cb_rankNow 13 = .ok (.getfield 12, 3)) ∧ (decode k_Cb_rankNow 16 = .ok (.getfield 165, 3)))) ∧ (((decode k_Cb_rankNow 19 = .ok (.iconst 0, 1)) ∧ (decode k_Cb_rankNow 20 = .ok (.iaload, 1))) ∧ ((decode k_Cb_rankNow 21 = .ok (.invokevirtual 309, 3)) ∧ (decode k_Cb_rankNow 24 = .ok (.return_, 1))))) := by decide +kernel
theorem D_Cb_linkNow_0 : (((decode k_Cb_linkNow 0 = .ok (.aload_n 0, 1)) ∧ (decode k_Cb_linkNow 1 = .ok (.invokevirtual 243, 3))) ∧ ((decode k_Cb_linkNow 4 = .ok (.aload_n 0, 1)) ∧ (decode k_Cb_linkNow 5 = .ok (.getfield 68, 3)))) ∧ (((decode k_Cb_linkNow 8 = .ok (.aload_n 0, 1)) ∧ (decode k_Cb_linkNow 9 = .ok (.getfield 61, 3))) ∧ ((decode k_Cb_linkNow 12 = .ok (.invokevirtual 375, 3)) ∧ (decode k_Cb_linkNow 15 = .ok (.return_, 1)))) := by decide +kernel
theorem D_Cb_orNeither_0 : ((decode k_Cb_orNeither 0 = .ok (.iload_n 0, 1)) ∧ ((decode k_Cb_orNeither 1 = .ok (.ifCond .ge 8, 3)) ∧ (decode k_Cb_orNeither 4 = .ok (.bipush (-5), 2)))) ∧ ((decode k_Cb_orNeither 6 = .ok (.goto 4, 3)) ∧ ((decode k_Cb_orNeither 9 = .ok (.iload_n 0, 1)) ∧ (decode k_Cb_orNeither 10 = .ok (.ireturn, 1)))) := by decide +kernel
theorem D_Cb_isAnswer_0 : (((decode k_Cb_isAnswer 0 = .ok (.iload_n 0, 1)) ∧ (decode k_Cb_isAnswer 1 = .ok (.ifCond .lt 12, 3))) ∧ ((decode k_Cb_isAnswer 4 = .ok (.iload_n 0, 1)) ∧ (decode k_Cb_isAnswer 5 = .ok (.iconst 4, 1)))) ∧ (((decode k_Cb_isAnswer 6 = .ok (.if_icmp .ge 7, 3)) ∧ (decode k_Cb_isAnswer 9 = .ok (.iconst 1, 1))) ∧ ((decode k_Cb_isAnswer 10 = .ok (.goto 4, 3)) ∧ ((decode k_Cb_isAnswer 13 = .ok (.iconst 0, 1)) ∧ (decode k_Cb_isAnswer 14 = .ok (.ireturn, 1))))) := by decide +kernel
theorem D_Cb_isKind_0 : (((decode k_Cb_isKind 0 = .ok (.iload_n 0, 1)) ∧ (decode k_Cb_isKind 1 = .ok (.ifCond .lt 12, 3))) ∧ ((decode k_Cb_isKind 4 = .ok (.iload_n 0, 1)) ∧ (decode k_Cb_isKind 5 = .ok (.iconst 3, 1)))) ∧ (((decode k_Cb_isKind 6 = .ok (.if_icmp .gt 7, 3)) ∧ (decode k_Cb_isKind 9 = .ok (.iconst 1, 1))) ∧ ((decode k_Cb_isKind 10 = .ok (.goto 4, 3)) ∧ ((decode k_Cb_isKind 13 = .ok (.iconst 0, 1)) ∧ (decode k_Cb_isKind 14 = .ok (.ireturn, 1))))) := by decide +kernel
theorem D_Cb_isSupposition_0 : (((decode k_Cb_isSupposition 0 = .ok (.iload_n 0, 1)) ∧ (decode k_Cb_isSupposition 1 = .ok (.ifCond .lt 12, 3))) ∧ ((decode k_Cb_isSupposition 4 = .ok (.iload_n 0, 1)) ∧ (decode k_Cb_isSupposition 5 = .ok (.iconst 4, 1)))) ∧ (((decode k_Cb_isSupposition 6 = .ok (.if_icmp .ge 7, 3)) ∧ (decode k_Cb_isSupposition 9 = .ok (.iconst 1, 1))) ∧ ((decode k_Cb_isSupposition 10 = .ok (.goto 4, 3)) ∧ ((decode k_Cb_isSupposition 13 = .ok (.iconst 0, 1)) ∧ (decode k_Cb_isSupposition 14 = .ok (.ireturn, 1))))) := by decide +kernel
theorem D_Cb_isPart_0 : (((decode k_Cb_isPart 0 = .ok (.iload_n 0, 1)) ∧ (decode k_Cb_isPart 1 = .ok (.ifCond .eq 8, 3))) ∧ ((decode k_Cb_isPart 4 = .ok (.iload_n 0, 1)) ∧ (decode k_Cb_isPart 5 = .ok (.iconst 1, 1)))) ∧ (((decode k_Cb_isPart 6 = .ok (.if_icmp .ne 7, 3)) ∧ (decode k_Cb_isPart 9 = .ok (.iconst 1, 1))) ∧ ((decode k_Cb_isPart 10 = .ok (.goto 4, 3)) ∧ ((decode k_Cb_isPart 13 = .ok (.iconst 0, 1)) ∧ (decode k_Cb_isPart 14 = .ok (.ireturn, 1))))) := by decide +kernel
theorem D_Cb_isTape_0 : (((decode k_Cb_isTape 0 = .ok (.iload_n 0, 1)) ∧ (decode k_Cb_isTape 1 = .ok (.ifCond .lt 13, 3))) ∧ ((decode k_Cb_isTape 4 = .ok (.iload_n 0, 1)) ∧ (decode k_Cb_isTape 5 = .ok (.bipush 6, 2)))) ∧ (((decode k_Cb_isTape 7 = .ok (.if_icmp .ge 7, 3)) ∧ (decode k_Cb_isTape 10 = .ok (.iconst 1, 1))) ∧ ((decode k_Cb_isTape 11 = .ok (.goto 4, 3)) ∧ ((decode k_Cb_isTape 14 = .ok (.iconst 0, 1)) ∧ (decode k_Cb_isTape 15 = .ok (.ireturn, 1))))) := by decide +kernel
theorem D_Cb_isOfSort_0 : ((((decode k_Cb_isOfSort 0 = .ok (.iload_n 1, 1)) ∧ (decode k_Cb_isOfSort 1 = .ok (.tableswitch 75 0 3 #[31, 33, 48, 59], 31))) ∧ ((decode k_Cb_isOfSort 32 = .ok (.iconst 1, 1)) ∧ (decode k_Cb_isOfSort 33 = .ok (.ireturn, 1)))) ∧ (((decode k_Cb_isOfSort 34 = .ok (.iload_n 0, 1)) ∧ (decode k_Cb_isOfSort 35 = .ok (.ifCond .eq 8, 3))) ∧ ((decode k_Cb_isOfSort 38 = .ok (.iload_n 0, 1)) ∧ (decode k_Cb_isOfSort 39 = .ok (.iconst 1, 1))))) ∧ ((((decode k_Cb_isOfSort 40 = .ok (.if_icmp .ne 7, 3)) ∧ (decode k_Cb_isOfSort 43 = .ok (.iconst 1, 1))) ∧ ((decode k_Cb_isOfSort 44 = .ok (.goto 4, 3)) ∧ (decode k_Cb_isOfSort 47 = .ok (.iconst 0, 1)))) ∧ (((decode k_Cb_isOfSort 48 = .ok (.ireturn, 1)) ∧ (decode k_Cb_isOfSort 49 = .ok (.iload_n 0, 1))) ∧ ((decode k_Cb_isOfSort 50 = .ok (.iconst 1, 1)) ∧ (decode k_Cb_isOfSort 51 = .ok (.if_icmp .ne 7, 3))))) := by decide +kernel
theorem D_Cb_isOfSort_1 : ((((decode k_Cb_isOfSort 54 = .ok (.iconst 1, 1)) ∧ (decode k_Cb_isOfSort 55 = .ok (.goto 4, 3))) ∧ ((decode k_Cb_isOfSort 58 = .ok (.iconst 0, 1)) ∧ (decode k_Cb_isOfSort 59 = .ok (.ireturn, 1)))) ∧ (((decode k_Cb_isOfSort 60 = .ok (.iload_n 0, 1)) ∧ (decode k_Cb_isOfSort 61 = .ok (.iconst 2, 1))) ∧ ((decode k_Cb_isOfSort 62 = .ok (.if_icmp .eq 8, 3)) ∧ (decode k_Cb_isOfSort 65 = .ok (.iload_n 0, 1))))) ∧ ((((decode k_Cb_isOfSort 66 = .ok (.iconst 3, 1)) ∧ (decode k_Cb_isOfSort 67 = .ok (.if_icmp .ne 7, 3))) ∧ ((decode k_Cb_isOfSort 70 = .ok (.iconst 1, 1)) ∧ (decode k_Cb_isOfSort 71 = .ok (.goto 4, 3)))) ∧ (((decode k_Cb_isOfSort 74 = .ok (.iconst 0, 1)) ∧ (decode k_Cb_isOfSort 75 = .ok (.ireturn, 1))) ∧ ((decode k_Cb_isOfSort 76 = .ok (.iload_n 0, 1)) ∧ (decode k_Cb_isOfSort 77 = .ok (.iconst 3, 1))))) := by decide +kernel
theorem D_Cb_isOfSort_2 : ((decode k_Cb_isOfSort 78 = .ok (.if_icmp .ne 7, 3)) ∧ (decode k_Cb_isOfSort 81 = .ok (.iconst 1, 1))) ∧ ((decode k_Cb_isOfSort 82 = .ok (.goto 4, 3)) ∧ ((decode k_Cb_isOfSort 85 = .ok (.iconst 0, 1)) ∧ (decode k_Cb_isOfSort 86 = .ok (.ireturn, 1)))) := by decide +kernel
theorem D_Cb_leastUse_0 : (((decode k_Cb_leastUse 0 = .ok (.iload_n 0, 1)) ∧ (decode k_Cb_leastUse 1 = .ok (.iconst 2, 1))) ∧ ((decode k_Cb_leastUse 2 = .ok (.if_icmp .eq 8, 3)) ∧ ((decode k_Cb_leastUse 5 = .ok (.iload_n 0, 1)) ∧ (decode k_Cb_leastUse 6 = .ok (.iconst 5, 1))))) ∧ (((decode k_Cb_leastUse 7 = .ok (.if_icmp .ne 7, 3)) ∧ (decode k_Cb_leastUse 10 = .ok (.iconst 1, 1))) ∧ ((decode k_Cb_leastUse 11 = .ok (.goto 4, 3)) ∧ ((decode k_Cb_leastUse 14 = .ok (.iconst 0, 1)) ∧ (decode k_Cb_leastUse 15 = .ok (.ireturn, 1))))) := by decide +kernel
theorem D_Cb_mostUse_0 : (((decode k_Cb_mostUse 0 = .ok (.iload_n 0, 1)) ∧ ((decode k_Cb_mostUse 1 = .ok (.tableswitch 46 0 4 #[35, 35, 37, 41, 44], 35)) ∧ (decode k_Cb_mostUse 36 = .ok (.iconst 3, 1)))) ∧ ((decode k_Cb_mostUse 37 = .ok (.ireturn, 1)) ∧ ((decode k_Cb_mostUse 38 = .ok (.sipush 500, 3)) ∧ (decode k_Cb_mostUse 41 = .ok (.ireturn, 1))))) ∧ (((decode k_Cb_mostUse 42 = .ok (.bipush 9, 2)) ∧ ((decode k_Cb_mostUse 44 = .ok (.ireturn, 1)) ∧ (decode k_Cb_mostUse 45 = .ok (.iconst 2, 1)))) ∧ ((decode k_Cb_mostUse 46 = .ok (.ireturn, 1)) ∧ ((decode k_Cb_mostUse 47 = .ok (.iconst 4, 1)) ∧ (decode k_Cb_mostUse 48 = .ok (.ireturn, 1))))) := by decide +kernel
theorem D_Md_init_0 : ((((decode k_Md_init 0 = .ok (.aload_n 0, 1)) ∧ (decode k_Md_init 1 = .ok (.invokespecial 3, 3))) ∧ ((decode k_Md_init 4 = .ok (.aload_n 0, 1)) ∧ (decode k_Md_init 5 = .ok (.iconst 4, 1)))) ∧ (((decode k_Md_init 6 = .ok (.putfield 9, 3)) ∧ (decode k_Md_init 9 = .ok (.aload_n 0, 1))) ∧ ((decode k_Md_init 10 = .ok (.bipush 8, 2)) ∧ (decode k_Md_init 12 = .ok (.newarray .int, 2))))) ∧ ((((decode k_Md_init 14 = .ok (.putfield 15, 3)) ∧ (decode k_Md_init 17 = .ok (.aload_n 0, 1))) ∧ ((decode k_Md_init 18 = .ok (.bipush 8, 2)) ∧ (decode k_Md_init 20 = .ok (.newarray .int, 2)))) ∧ (((decode k_Md_init 22 = .ok (.putfield 19, 3)) ∧ (decode k_Md_init 25 = .ok (.aload_n 0, 1))) ∧ ((decode k_Md_init 26 = .ok (.bipush 32, 2)) ∧ (decode k_Md_init 28 = .ok (.newarray .int, 2))))) := by decide +kernel
theorem D_Md_init_1 : ((((decode k_Md_init 30 = .ok (.putfield 22, 3)) ∧ (decode k_Md_init 33 = .ok (.aload_n 0, 1))) ∧ ((decode k_Md_init 34 = .ok (.bipush 64, 2)) ∧ (decode k_Md_init 36 = .ok (.newarray .int, 2)))) ∧ (((decode k_Md_init 38 = .ok (.putfield 25, 3)) ∧ (decode k_Md_init 41 = .ok (.aload_n 0, 1))) ∧ ((decode k_Md_init 42 = .ok (.bipush 8, 2)) ∧ (decode k_Md_init 44 = .ok (.newarray .int, 2))))) ∧ ((((decode k_Md_init 46 = .ok (.putfield 28, 3)) ∧ (decode k_Md_init 49 = .ok (.aload_n 0, 1))) ∧ ((decode k_Md_init 50 = .ok (.bipush 8, 2)) ∧ (decode k_Md_init 52 = .ok (.newarray .int, 2)))) ∧ (((decode k_Md_init 54 = .ok (.putfield 31, 3)) ∧ (decode k_Md_init 57 = .ok (.aload_n 0, 1))) ∧ ((decode k_Md_init 58 = .ok (.bipush 6, 2)) ∧ (decode k_Md_init 60 = .ok (.newarray .int, 2))))) := by decide +kernel
theorem D_Md_init_2 : ((((decode k_Md_init 62 = .ok (.dup, 1)) ∧ (decode k_Md_init 63 = .ok (.iconst 0, 1))) ∧ ((decode k_Md_init 64 = .ok (.iconst 0, 1)) ∧ (decode k_Md_init 65 = .ok (.iastore, 1)))) ∧ (((decode k_Md_init 66 = .ok (.dup, 1)) ∧ (decode k_Md_init 67 = .ok (.iconst 1, 1))) ∧ ((decode k_Md_init 68 = .ok (.iconst 0, 1)) ∧ (decode k_Md_init 69 = .ok (.iastore, 1))))) ∧ ((((decode k_Md_init 70 = .ok (.dup, 1)) ∧ (decode k_Md_init 71 = .ok (.iconst 2, 1))) ∧ ((decode k_Md_init 72 = .ok (.bipush 50, 2)) ∧ (decode k_Md_init 74 = .ok (.iastore, 1)))) ∧ (((decode k_Md_init 75 = .ok (.dup, 1)) ∧ (decode k_Md_init 76 = .ok (.iconst 3, 1))) ∧ ((decode k_Md_init 77 = .ok (.iconst 0, 1)) ∧ (decode k_Md_init 78 = .ok (.iastore, 1))))) := by decide +kernel
theorem D_Md_init_3 : ((((decode k_Md_init 79 = .ok (.dup, 1)) ∧ (decode k_Md_init 80 = .ok (.iconst 4, 1))) ∧ ((decode k_Md_init 81 = .ok (.iconst 0, 1)) ∧ (decode k_Md_init 82 = .ok (.iastore, 1)))) ∧ (((decode k_Md_init 83 = .ok (.dup, 1)) ∧ (decode k_Md_init 84 = .ok (.iconst 5, 1))) ∧ ((decode k_Md_init 85 = .ok (.iconst 1, 1)) ∧ (decode k_Md_init 86 = .ok (.iastore, 1))))) ∧ ((((decode k_Md_init 87 = .ok (.putfield 34, 3)) ∧ (decode k_Md_init 90 = .ok (.aload_n 0, 1))) ∧ ((decode k_Md_init 91 = .ok (.iconst 5, 1)) ∧ (decode k_Md_init 92 = .ok (.newarray .int, 2)))) ∧ (((decode k_Md_init 94 = .ok (.putfield 37, 3)) ∧ (decode k_Md_init 97 = .ok (.aload_n 0, 1))) ∧ ((decode k_Md_init 98 = .ok (.iconst 5, 1)) ∧ (decode k_Md_init 99 = .ok (.newarray .int, 2))))) := by decide +kernel
theorem D_Md_init_4 : ((((decode k_Md_init 101 = .ok (.putfield 40, 3)) ∧ (decode k_Md_init 104 = .ok (.aload_n 0, 1))) ∧ ((decode k_Md_init 105 = .ok (.iconst 5, 1)) ∧ (decode k_Md_init 106 = .ok (.newarray .int, 2)))) ∧ (((decode k_Md_init 108 = .ok (.putfield 43, 3)) ∧ (decode k_Md_init 111 = .ok (.aload_n 0, 1))) ∧ ((decode k_Md_init 112 = .ok (.bipush 8, 2)) ∧ (decode k_Md_init 114 = .ok (.newarray .int, 2))))) ∧ ((((decode k_Md_init 116 = .ok (.putfield 46, 3)) ∧ (decode k_Md_init 119 = .ok (.aload_n 0, 1))) ∧ ((decode k_Md_init 120 = .ok (.bipush 8, 2)) ∧ (decode k_Md_init 122 = .ok (.newarray .int, 2)))) ∧ (((decode k_Md_init 124 = .ok (.putfield 49, 3)) ∧ (decode k_Md_init 127 = .ok (.aload_n 0, 1))) ∧ ((decode k_Md_init 128 = .ok (.bipush 8, 2)) ∧ (decode k_Md_init 130 = .ok (.newarray .int, 2))))) := by decide +kernel
theorem D_Md_init_5 : ((((decode k_Md_init 132 = .ok (.putfield 52, 3)) ∧ (decode k_Md_init 135 = .ok (.aload_n 0, 1))) ∧ ((decode k_Md_init 136 = .ok (.bipush 60, 2)) ∧ (decode k_Md_init 138 = .ok (.newarray .int, 2)))) ∧ (((decode k_Md_init 140 = .ok (.putfield 55, 3)) ∧ (decode k_Md_init 143 = .ok (.aload_n 0, 1))) ∧ ((decode k_Md_init 144 = .ok (.sipush 200, 3)) ∧ (decode k_Md_init 147 = .ok (.newarray .int, 2))))) ∧ ((((decode k_Md_init 149 = .ok (.putfield 58, 3)) ∧ (decode k_Md_init 152 = .ok (.aload_n 0, 1))) ∧ ((decode k_Md_init 153 = .ok (.bipush 33, 2)) ∧ (decode k_Md_init 155 = .ok (.newarray .long, 2)))) ∧ (((decode k_Md_init 157 = .ok (.putfield 61, 3)) ∧ (decode k_Md_init 160 = .ok (.aload_n 0, 1))) ∧ ((decode k_Md_init 161 = .ok (.bipush 33, 2)) ∧ (decode k_Md_init 163 = .ok (.newarray .long, 2))))) := by decide +kernel
theorem D_Md_init_6 : ((((decode k_Md_init 165 = .ok (.putfield 65, 3)) ∧ (decode k_Md_init 168 = .ok (.aload_n 0, 1))) ∧ ((decode k_Md_init 169 = .ok (.bipush 28, 2)) ∧ (decode k_Md_init 171 = .ok (.newarray .int, 2)))) ∧ (((decode k_Md_init 173 = .ok (.putfield 68, 3)) ∧ (decode k_Md_init 176 = .ok (.aload_n 0, 1))) ∧ ((decode k_Md_init 177 = .ok (.bipush 28, 2)) ∧ (decode k_Md_init 179 = .ok (.newarray .int, 2))))) ∧ ((((decode k_Md_init 181 = .ok (.putfield 71, 3)) ∧ (decode k_Md_init 184 = .ok (.aload_n 0, 1))) ∧ ((decode k_Md_init 185 = .ok (.bipush 28, 2)) ∧ (decode k_Md_init 187 = .ok (.newarray .long, 2)))) ∧ (((decode k_Md_init 189 = .ok (.putfield 74, 3)) ∧ (decode k_Md_init 192 = .ok (.aload_n 0, 1))) ∧ ((decode k_Md_init 193 = .ok (.bipush 28, 2)) ∧ (decode k_Md_init 195 = .ok (.newarray .long, 2))))) := by decide +kernel
theorem D_Md_init_7 : ((((decode k_Md_init 197 = .ok (.putfield 77, 3)) ∧ (decode k_Md_init 200 = .ok (.aload_n 0, 1))) ∧ ((decode k_Md_init 201 = .ok (.bipush 28, 2)) ∧ (decode k_Md_init 203 = .ok (.newarray .boolean, 2)))) ∧ (((decode k_Md_init 205 = .ok (.putfield 80, 3)) ∧ (decode k_Md_init 208 = .ok (.aload_n 0, 1))) ∧ ((decode k_Md_init 209 = .ok (.bipush 8, 2)) ∧ (decode k_Md_init 211 = .ok (.newarray .int, 2))))) ∧ ((((decode k_Md_init 213 = .ok (.putfield 84, 3)) ∧ (decode k_Md_init 216 = .ok (.aload_n 0, 1))) ∧ ((decode k_Md_init 217 = .ok (.bipush 6, 2)) ∧ (decode k_Md_init 219 = .ok (.newarray .int, 2)))) ∧ (((decode k_Md_init 221 = .ok (.putfield 87, 3)) ∧ (decode k_Md_init 224 = .ok (.aload_n 0, 1))) ∧ ((decode k_Md_init 225 = .ok (.bipush 6, 2)) ∧ (decode k_Md_init 227 = .ok (.newarray .int, 2))))) := by decide +kernel
theorem D_Md_init_8 : ((((decode k_Md_init 229 = .ok (.putfield 90, 3)) ∧ (decode k_Md_init 232 = .ok (.aload_n 0, 1))) ∧ ((decode k_Md_init 233 = .ok (.bipush 64, 2)) ∧ (decode k_Md_init 235 = .ok (.newarray .int, 2)))) ∧ (((decode k_Md_init 237 = .ok (.putfield 93, 3)) ∧ (decode k_Md_init 240 = .ok (.aload_n 0, 1))) ∧ ((decode k_Md_init 241 = .ok (.bipush 8, 2)) ∧ (decode k_Md_init 243 = .ok (.newarray .int, 2))))) ∧ ((((decode k_Md_init 245 = .ok (.putfield 96, 3)) ∧ (decode k_Md_init 248 = .ok (.aload_n 0, 1))) ∧ ((decode k_Md_init 249 = .ok (.bipush 8, 2)) ∧ (decode k_Md_init 251 = .ok (.newarray .int, 2)))) ∧ (((decode k_Md_init 253 = .ok (.putfield 99, 3)) ∧ (decode k_Md_init 256 = .ok (.aload_n 0, 1))) ∧ ((decode k_Md_init 257 = .ok (.bipush 6, 2)) ∧ (decode k_Md_init 259 = .ok (.bipush 60, 2))))) := by decide +kernel
theorem D_Md_init_9 : ((((decode k_Md_init 261 = .ok (.multianewarray 102 2, 4)) ∧ (decode k_Md_init 265 = .ok (.putfield 104, 3))) ∧ ((decode k_Md_init 268 = .ok (.aload_n 0, 1)) ∧ (decode k_Md_init 269 = .ok (.bipush 6, 2)))) ∧ (((decode k_Md_init 271 = .ok (.newarray .int, 2)) ∧ (decode k_Md_init 273 = .ok (.dup, 1))) ∧ ((decode k_Md_init 274 = .ok (.iconst 0, 1)) ∧ (decode k_Md_init 275 = .ok (.iconst (-1), 1))))) ∧ ((((decode k_Md_init 276 = .ok (.iastore, 1)) ∧ (decode k_Md_init 277 = .ok (.dup, 1))) ∧ ((decode k_Md_init 278 = .ok (.iconst 1, 1)) ∧ (decode k_Md_init 279 = .ok (.iconst (-1), 1)))) ∧ (((decode k_Md_init 280 = .ok (.iastore, 1)) ∧ (decode k_Md_init 281 = .ok (.dup, 1))) ∧ ((decode k_Md_init 282 = .ok (.iconst 2, 1)) ∧ (decode k_Md_init 283 = .ok (.iconst (-1), 1))))) := by decide +kernel
theorem D_Md_init_10 : ((((decode k_Md_init 284 = .ok (.iastore, 1)) ∧ (decode k_Md_init 285 = .ok (.dup, 1))) ∧ ((decode k_Md_init 286 = .ok (.iconst 3, 1)) ∧ (decode k_Md_init 287 = .ok (.iconst (-1), 1)))) ∧ (((decode k_Md_init 288 = .ok (.iastore, 1)) ∧ (decode k_Md_init 289 = .ok (.dup, 1))) ∧ ((decode k_Md_init 290 = .ok (.iconst 4, 1)) ∧ (decode k_Md_init 291 = .ok (.iconst (-1), 1))))) ∧ ((((decode k_Md_init 292 = .ok (.iastore, 1)) ∧ (decode k_Md_init 293 = .ok (.dup, 1))) ∧ ((decode k_Md_init 294 = .ok (.iconst 5, 1)) ∧ (decode k_Md_init 295 = .ok (.iconst (-1), 1)))) ∧ (((decode k_Md_init 296 = .ok (.iastore, 1)) ∧ (decode k_Md_init 297 = .ok (.putfield 107, 3))) ∧ ((decode k_Md_init 300 = .ok (.aload_n 0, 1)) ∧ (decode k_Md_init 301 = .ok (.bipush 6, 2))))) := by decide +kernel
theorem D_Md_init_11 : (((decode k_Md_init 303 = .ok (.newarray .int, 2)) ∧ (decode k_Md_init 305 = .ok (.putfield 110, 3))) ∧ ((decode k_Md_init 308 = .ok (.aload_n 0, 1)) ∧ (decode k_Md_init 309 = .ok (.bipush 60, 2)))) ∧ (((decode k_Md_init 311 = .ok (.newarray .long, 2)) ∧ (decode k_Md_init 313 = .ok (.putfield 113, 3))) ∧ ((decode k_Md_init 316 = .ok (.aload_n 0, 1)) ∧ ((decode k_Md_init 317 = .ok (.invokevirtual 116, 3)) ∧ (decode k_Md_init 320 = .ok (.return_, 1))))) := by decide +kernel
theorem D_Md_in_0 : (((decode k_Md_in 0 = .ok (.lload_n 0, 1)) ∧ ((decode k_Md_in 1 = .ok (.lload_n 2, 1)) ∧ (decode k_Md_in 2 = .ok (.lcmp, 1)))) ∧ ((decode k_Md_in 3 = .ok (.ifCond .lt 14, 3)) ∧ ((decode k_Md_in 6 = .ok (.lload_n 0, 1)) ∧ (decode k_Md_in 7 = .ok (.lload 4, 2))))) ∧ (((decode k_Md_in 9 = .ok (.lcmp, 1)) ∧ ((decode k_Md_in 10 = .ok (.ifCond .gt 7, 3)) ∧ (decode k_Md_in 13 = .ok (.iconst 1, 1)))) ∧ ((decode k_Md_in 14 = .ok (.goto 4, 3)) ∧ ((decode k_Md_in 17 = .ok (.iconst 0, 1)) ∧ (decode k_Md_in 18 = .ok (.ireturn, 1))))) := by decide +kernel
theorem D_Md_isItem_0 : (((decode k_Md_isItem 0 = .ok (.iload_n 1, 1)) ∧ (decode k_Md_isItem 1 = .ok (.i2l, 1))) ∧ ((decode k_Md_isItem 2 = .ok (.lconst 0, 1)) ∧ ((decode k_Md_isItem 3 = .ok (.aload_n 0, 1)) ∧ (decode k_Md_isItem 4 = .ok (.getfield 9, 3))))) ∧ (((decode k_Md_isItem 7 = .ok (.iconst 1, 1)) ∧ (decode k_Md_isItem 8 = .ok (.isub, 1))) ∧ ((decode k_Md_isItem 9 = .ok (.i2l, 1)) ∧ ((decode k_Md_isItem 10 = .ok (.invokestatic 119, 3)) ∧ (decode k_Md_isItem 13 = .ok (.ireturn, 1))))) := by decide +kernel
theorem D_Md_isOne_0 : (((decode k_Md_isOne 0 = .ok (.iload_n 1, 1)) ∧ (decode k_Md_isOne 1 = .ok (.i2l, 1))) ∧ ((decode k_Md_isOne 2 = .ok (.lconst 0, 1)) ∧ ((decode k_Md_isOne 3 = .ok (.aload_n 0, 1)) ∧ (decode k_Md_isOne 4 = .ok (.getfield 123, 3))))) ∧ (((decode k_Md_isOne 7 = .ok (.iconst 1, 1)) ∧ (decode k_Md_isOne 8 = .ok (.isub, 1))) ∧ ((decode k_Md_isOne 9 = .ok (.i2l, 1)) ∧ ((decode k_Md_isOne 10 = .ok (.invokestatic 119, 3)) ∧ (decode k_Md_isOne 13 = .ok (.ireturn, 1))))) := by decide +kernel
theorem D_Md_isTwo_0 : (((decode k_Md_isTwo 0 = .ok (.aload_n 0, 1)) ∧ ((decode k_Md_isTwo 1 = .ok (.iload_n 1, 1)) ∧ (decode k_Md_isTwo 2 = .ok (.invokevirtual 126, 3)))) ∧ (((decode k_Md_isTwo 5 = .ok (.ifCond .eq 20, 3)) ∧ (decode k_Md_isTwo 8 = .ok (.aload_n 0, 1))) ∧ ((decode k_Md_isTwo 9 = .ok (.iload_n 2, 1)) ∧ (decode k_Md_isTwo 10 = .ok (.invokevirtual 126, 3))))) ∧ ((((decode k_Md_isTwo 13 = .ok (.ifCond .eq 12, 3)) ∧ (decode k_Md_isTwo 16 = .ok (.iload_n 1, 1))) ∧ ((decode k_Md_isTwo 17 = .ok (.iload_n 2, 1)) ∧ (decode k_Md_isTwo 18 = .ok (.if_icmp .eq 7, 3)))) ∧ (((decode k_Md_isTwo 21 = .ok (.iconst 1, 1)) ∧ (decode k_Md_isTwo 22 = .ok (.goto 4, 3))) ∧ ((decode k_Md_isTwo 25 = .ok (.iconst 0, 1)) ∧ (decode k_Md_isTwo 26 = .ok (.ireturn, 1))))) := by decide +kernel
theorem D_Md_begins_0 : ((((decode k_Md_begins 0 = .ok (.aload_n 0, 1)) ∧ (decode k_Md_begins 1 = .ok (.iconst 0, 1))) ∧ ((decode k_Md_begins 2 = .ok (.putfield 123, 3)) ∧ (decode k_Md_begins 5 = .ok (.aload_n 0, 1)))) ∧ (((decode k_Md_begins 6 = .ok (.iconst 0, 1)) ∧ (decode k_Md_begins 7 = .ok (.putfield 130, 3))) ∧ ((decode k_Md_begins 10 = .ok (.aload_n 0, 1)) ∧ (decode k_Md_begins 11 = .ok (.iconst 0, 1))))) ∧ ((((decode k_Md_begins 12 = .ok (.putfield 133, 3)) ∧ (decode k_Md_begins 15 = .ok (.iconst 0, 1))) ∧ ((decode k_Md_begins 16 = .ok (.istore_n 1, 1)) ∧ (decode k_Md_begins 17 = .ok (.iload_n 1, 1)))) ∧ (((decode k_Md_begins 18 = .ok (.bipush 8, 2)) ∧ (decode k_Md_begins 20 = .ok (.if_icmp .ge 23, 3))) ∧ ((decode k_Md_begins 23 = .ok (.aload_n 0, 1)) ∧ (decode k_Md_begins 24 = .ok (.getfield 15, 3))))) := by decide +kernel
theorem D_Md_begins_1 : ((((decode k_Md_begins 27 = .ok (.iload_n 1, 1)) ∧ (decode k_Md_begins 28 = .ok (.iconst 0, 1))) ∧ ((decode k_Md_begins 29 = .ok (.iastore, 1)) ∧ (decode k_Md_begins 30 = .ok (.aload_n 0, 1)))) ∧ (((decode k_Md_begins 31 = .ok (.getfield 19, 3)) ∧ (decode k_Md_begins 34 = .ok (.iload_n 1, 1))) ∧ ((decode k_Md_begins 35 = .ok (.iconst 0, 1)) ∧ (decode k_Md_begins 36 = .ok (.iastore, 1))))) ∧ ((((decode k_Md_begins 37 = .ok (.iinc 1 1, 3)) ∧ (decode k_Md_begins 40 = .ok (.goto (-23), 3))) ∧ ((decode k_Md_begins 43 = .ok (.iconst 0, 1)) ∧ (decode k_Md_begins 44 = .ok (.istore_n 1, 1)))) ∧ (((decode k_Md_begins 45 = .ok (.iload_n 1, 1)) ∧ (decode k_Md_begins 46 = .ok (.bipush 32, 2))) ∧ ((decode k_Md_begins 48 = .ok (.if_icmp .ge 16, 3)) ∧ (decode k_Md_begins 51 = .ok (.aload_n 0, 1))))) := by decide +kernel
theorem D_Md_begins_2 : ((decode k_Md_begins 52 = .ok (.getfield 22, 3)) ∧ ((decode k_Md_begins 55 = .ok (.iload_n 1, 1)) ∧ (decode k_Md_begins 56 = .ok (.iconst 1, 1)))) ∧ (((decode k_Md_begins 57 = .ok (.iastore, 1)) ∧ (decode k_Md_begins 58 = .ok (.iinc 1 1, 3))) ∧ ((decode k_Md_begins 61 = .ok (.goto (-16), 3)) ∧ (decode k_Md_begins 64 = .ok (.return_, 1)))) := by decide +kernel
theorem D_Md_passes_0 : ((((decode k_Md_passes 0 = .ok (.aload_n 0, 1)) ∧ (decode k_Md_passes 1 = .ok (.getfield 136, 3))) ∧ ((decode k_Md_passes 4 = .ok (.ifCond .eq 7, 3)) ∧ (decode k_Md_passes 7 = .ok (.iload_n 1, 1)))) ∧ (((decode k_Md_passes 8 = .ok (.goto 12, 3)) ∧ (decode k_Md_passes 11 = .ok (.aload_n 0, 1))) ∧ ((decode k_Md_passes 12 = .ok (.getfield 58, 3)) ∧ (decode k_Md_passes 15 = .ok (.aload_n 0, 1))))) ∧ ((((decode k_Md_passes 16 = .ok (.getfield 140, 3)) ∧ (decode k_Md_passes 19 = .ok (.iaload, 1))) ∧ ((decode k_Md_passes 20 = .ok (.istore_n 2, 1)) ∧ (decode k_Md_passes 21 = .ok (.aload_n 0, 1)))) ∧ (((decode k_Md_passes 22 = .ok (.getfield 58, 3)) ∧ (decode k_Md_passes 25 = .ok (.aload_n 0, 1))) ∧ ((decode k_Md_passes 26 = .ok (.getfield 140, 3)) ∧ (decode k_Md_passes 29 = .ok (.iload_n 2, 1))))) := by decide +kernel
theorem D_Md_passes_1 : (((decode k_Md_passes 30 = .ok (.iastore, 1)) ∧ (decode k_Md_passes 31 = .ok (.aload_n 0, 1))) ∧ ((decode k_Md_passes 32 = .ok (.dup, 1)) ∧ (decode k_Md_passes 33 = .ok (.getfield 140, 3)))) ∧ (((decode k_Md_passes 36 = .ok (.iconst 1, 1)) ∧ (decode k_Md_passes 37 = .ok (.iadd, 1))) ∧ ((decode k_Md_passes 38 = .ok (.putfield 140, 3)) ∧ ((decode k_Md_passes 41 = .ok (.iload_n 2, 1)) ∧ (decode k_Md_passes 42 = .ok (.ireturn, 1))))) := by decide +kernel
theorem D_Md_passesRow_0 : ((((decode k_Md_passesRow 0 = .ok (.iconst 0, 1)) ∧ (decode k_Md_passesRow 1 = .ok (.istore_n 2, 1))) ∧ ((decode k_Md_passesRow 2 = .ok (.iload_n 2, 1)) ∧ (decode k_Md_passesRow 3 = .ok (.aload_n 1, 1)))) ∧ (((decode k_Md_passesRow 4 = .ok (.arraylength, 1)) ∧ (decode k_Md_passesRow 5 = .ok (.if_icmp .ge 19, 3))) ∧ ((decode k_Md_passesRow 8 = .ok (.aload_n 1, 1)) ∧ (decode k_Md_passesRow 9 = .ok (.iload_n 2, 1))))) ∧ ((((decode k_Md_passesRow 10 = .ok (.aload_n 0, 1)) ∧ (decode k_Md_passesRow 11 = .ok (.aload_n 1, 1))) ∧ ((decode k_Md_passesRow 12 = .ok (.iload_n 2, 1)) ∧ (decode k_Md_passesRow 13 = .ok (.iaload, 1)))) ∧ (((decode k_Md_passesRow 14 = .ok (.invokevirtual 143, 3)) ∧ (decode k_Md_passesRow 17 = .ok (.iastore, 1))) ∧ ((decode k_Md_passesRow 18 = .ok (.iinc 2 1, 3)) ∧ (decode k_Md_passesRow 21 = .ok (.goto (-19), 3))))) := by decide +kernel
theorem D_Md_passesRow_1 : decode k_Md_passesRow 24 = .ok (.return_, 1) := by decide +kernel
theorem D_Md_passesAll_0 : ((((decode k_Md_passesAll 0 = .ok (.aload_n 0, 1)) ∧ (decode k_Md_passesAll 1 = .ok (.iload_n 1, 1))) ∧ ((decode k_Md_passesAll 2 = .ok (.putfield 136, 3)) ∧ (decode k_Md_passesAll 5 = .ok (.aload_n 0, 1)))) ∧ (((decode k_Md_passesAll 6 = .ok (.iconst 0, 1)) ∧ (decode k_Md_passesAll 7 = .ok (.putfield 140, 3))) ∧ ((decode k_Md_passesAll 10 = .ok (.aload_n 0, 1)) ∧ (decode k_Md_passesAll 11 = .ok (.aload_n 0, 1))))) ∧ ((((decode k_Md_passesAll 12 = .ok (.aload_n 0, 1)) ∧ (decode k_Md_passesAll 13 = .ok (.getfield 9, 3))) ∧ ((decode k_Md_passesAll 16 = .ok (.invokevirtual 143, 3)) ∧ (decode k_Md_passesAll 19 = .ok (.putfield 9, 3)))) ∧ (((decode k_Md_passesAll 22 = .ok (.aload_n 0, 1)) ∧ (decode k_Md_passesAll 23 = .ok (.aload_n 0, 1))) ∧ ((decode k_Md_passesAll 24 = .ok (.aload_n 0, 1)) ∧ (decode k_Md_passesAll 25 = .ok (.getfield 123, 3))))) := by decide +kernel
theorem D_Md_passesAll_1 : ((((decode k_Md_passesAll 28 = .ok (.invokevirtual 143, 3)) ∧ (decode k_Md_passesAll 31 = .ok (.putfield 123, 3))) ∧ ((decode k_Md_passesAll 34 = .ok (.aload_n 0, 1)) ∧ (decode k_Md_passesAll 35 = .ok (.aload_n 0, 1)))) ∧ (((decode k_Md_passesAll 36 = .ok (.aload_n 0, 1)) ∧ (decode k_Md_passesAll 37 = .ok (.getfield 130, 3))) ∧ ((decode k_Md_passesAll 40 = .ok (.invokevirtual 143, 3)) ∧ (decode k_Md_passesAll 43 = .ok (.putfield 130, 3))))) ∧ ((((decode k_Md_passesAll 46 = .ok (.aload_n 0, 1)) ∧ (decode k_Md_passesAll 47 = .ok (.aload_n 0, 1))) ∧ ((decode k_Md_passesAll 48 = .ok (.aload_n 0, 1)) ∧ (decode k_Md_passesAll 49 = .ok (.getfield 133, 3)))) ∧ (((decode k_Md_passesAll 52 = .ok (.invokevirtual 143, 3)) ∧ (decode k_Md_passesAll 55 = .ok (.putfield 133, 3))) ∧ ((decode k_Md_passesAll 58 = .ok (.aload_n 0, 1)) ∧ (decode k_Md_passesAll 59 = .ok (.aload_n 0, 1))))) := by decide +kernel
theorem D_Md_passesAll_2 : ((((decode k_Md_passesAll 60 = .ok (.getfield 15, 3)) ∧ (decode k_Md_passesAll 63 = .ok (.invokevirtual 147, 3))) ∧ ((decode k_Md_passesAll 66 = .ok (.aload_n 0, 1)) ∧ (decode k_Md_passesAll 67 = .ok (.aload_n 0, 1)))) ∧ (((decode k_Md_passesAll 68 = .ok (.getfield 19, 3)) ∧ (decode k_Md_passesAll 71 = .ok (.invokevirtual 147, 3))) ∧ ((decode k_Md_passesAll 74 = .ok (.aload_n 0, 1)) ∧ (decode k_Md_passesAll 75 = .ok (.aload_n 0, 1))))) ∧ ((((decode k_Md_passesAll 76 = .ok (.getfield 22, 3)) ∧ (decode k_Md_passesAll 79 = .ok (.invokevirtual 147, 3))) ∧ ((decode k_Md_passesAll 82 = .ok (.aload_n 0, 1)) ∧ (decode k_Md_passesAll 83 = .ok (.aload_n 0, 1)))) ∧ (((decode k_Md_passesAll 84 = .ok (.getfield 25, 3)) ∧ (decode k_Md_passesAll 87 = .ok (.invokevirtual 147, 3))) ∧ ((decode k_Md_passesAll 90 = .ok (.aload_n 0, 1)) ∧ (decode k_Md_passesAll 91 = .ok (.aload_n 0, 1))))) := by decide +kernel
theorem D_Md_passesAll_3 : ((((decode k_Md_passesAll 92 = .ok (.getfield 28, 3)) ∧ (decode k_Md_passesAll 95 = .ok (.invokevirtual 147, 3))) ∧ ((decode k_Md_passesAll 98 = .ok (.aload_n 0, 1)) ∧ (decode k_Md_passesAll 99 = .ok (.aload_n 0, 1)))) ∧ (((decode k_Md_passesAll 100 = .ok (.getfield 31, 3)) ∧ (decode k_Md_passesAll 103 = .ok (.invokevirtual 147, 3))) ∧ ((decode k_Md_passesAll 106 = .ok (.aload_n 0, 1)) ∧ (decode k_Md_passesAll 107 = .ok (.aload_n 0, 1))))) ∧ ((((decode k_Md_passesAll 108 = .ok (.getfield 34, 3)) ∧ (decode k_Md_passesAll 111 = .ok (.invokevirtual 147, 3))) ∧ ((decode k_Md_passesAll 114 = .ok (.aload_n 0, 1)) ∧ (decode k_Md_passesAll 115 = .ok (.aload_n 0, 1)))) ∧ (((decode k_Md_passesAll 116 = .ok (.getfield 37, 3)) ∧ (decode k_Md_passesAll 119 = .ok (.invokevirtual 147, 3))) ∧ ((decode k_Md_passesAll 122 = .ok (.aload_n 0, 1)) ∧ (decode k_Md_passesAll 123 = .ok (.aload_n 0, 1))))) := by decide +kernel
theorem D_Md_passesAll_4 : ((((decode k_Md_passesAll 124 = .ok (.getfield 40, 3)) ∧ (decode k_Md_passesAll 127 = .ok (.invokevirtual 147, 3))) ∧ ((decode k_Md_passesAll 130 = .ok (.aload_n 0, 1)) ∧ (decode k_Md_passesAll 131 = .ok (.aload_n 0, 1)))) ∧ (((decode k_Md_passesAll 132 = .ok (.getfield 43, 3)) ∧ (decode k_Md_passesAll 135 = .ok (.invokevirtual 147, 3))) ∧ ((decode k_Md_passesAll 138 = .ok (.aload_n 0, 1)) ∧ (decode k_Md_passesAll 139 = .ok (.aload_n 0, 1))))) ∧ ((((decode k_Md_passesAll 140 = .ok (.getfield 46, 3)) ∧ (decode k_Md_passesAll 143 = .ok (.invokevirtual 147, 3))) ∧ ((decode k_Md_passesAll 146 = .ok (.aload_n 0, 1)) ∧ (decode k_Md_passesAll 147 = .ok (.aload_n 0, 1)))) ∧ (((decode k_Md_passesAll 148 = .ok (.getfield 49, 3)) ∧ (decode k_Md_passesAll 151 = .ok (.invokevirtual 147, 3))) ∧ ((decode k_Md_passesAll 154 = .ok (.aload_n 0, 1)) ∧ (decode k_Md_passesAll 155 = .ok (.aload_n 0, 1))))) := by decide +kernel
theorem D_Md_passesAll_5 : ((decode k_Md_passesAll 156 = .ok (.getfield 52, 3)) ∧ (decode k_Md_passesAll 159 = .ok (.invokevirtual 147, 3))) ∧ ((decode k_Md_passesAll 162 = .ok (.aload_n 0, 1)) ∧ ((decode k_Md_passesAll 163 = .ok (.getfield 123, 3)) ∧ (decode k_Md_passesAll 166 = .ok (.ireturn, 1)))) := by decide +kernel
theorem D_Md_image_0 : ((decode k_Md_image 0 = .ok (.aload_n 0, 1)) ∧ ((decode k_Md_image 1 = .ok (.iconst 1, 1)) ∧ (decode k_Md_image 2 = .ok (.putfield 151, 3)))) ∧ (((decode k_Md_image 5 = .ok (.aload_n 0, 1)) ∧ (decode k_Md_image 6 = .ok (.iconst 1, 1))) ∧ ((decode k_Md_image 7 = .ok (.invokevirtual 154, 3)) ∧ (decode k_Md_image 10 = .ok (.ireturn, 1)))) := by decide +kernel
theorem D_Md_undo_0 : (((decode k_Md_undo 0 = .ok (.aload_n 0, 1)) ∧ (decode k_Md_undo 1 = .ok (.getfield 151, 3))) ∧ ((decode k_Md_undo 4 = .ok (.ifCond .eq 11, 3)) ∧ (decode k_Md_undo 7 = .ok (.aload_n 0, 1)))) ∧ (((decode k_Md_undo 8 = .ok (.iconst 0, 1)) ∧ (decode k_Md_undo 9 = .ok (.invokevirtual 154, 3))) ∧ ((decode k_Md_undo 12 = .ok (.goto 5, 3)) ∧ ((decode k_Md_undo 15 = .ok (.bipush (-3), 2)) ∧ (decode k_Md_undo 17 = .ok (.ireturn, 1))))) := by decide +kernel
theorem D_Md_items_0 : ((((decode k_Md_items 0 = .ok (.iload_n 1, 1)) ∧ (decode k_Md_items 1 = .ok (.i2l, 1))) ∧ ((decode k_Md_items 2 = .ok (.lconst 1, 1)) ∧ (decode k_Md_items 3 = .ok (.ldc2_w 158, 3)))) ∧ (((decode k_Md_items 6 = .ok (.invokestatic 119, 3)) ∧ (decode k_Md_items 9 = .ok (.ifCond .ne 6, 3))) ∧ ((decode k_Md_items 12 = .ok (.bipush (-2), 2)) ∧ (decode k_Md_items 14 = .ok (.ireturn, 1))))) ∧ ((((decode k_Md_items 15 = .ok (.aload_n 0, 1)) ∧ (decode k_Md_items 16 = .ok (.getfield 9, 3))) ∧ ((decode k_Md_items 19 = .ok (.istore_n 2, 1)) ∧ (decode k_Md_items 20 = .ok (.aload_n 0, 1)))) ∧ (((decode k_Md_items 21 = .ok (.iload_n 1, 1)) ∧ (decode k_Md_items 22 = .ok (.putfield 9, 3))) ∧ ((decode k_Md_items 25 = .ok (.aload_n 0, 1)) ∧ (decode k_Md_items 26 = .ok (.invokevirtual 116, 3))))) := by decide +kernel
theorem D_Md_items_1 : (decode k_Md_items 29 = .ok (.iload_n 2, 1)) ∧ (decode k_Md_items 30 = .ok (.ireturn, 1)) := by decide +kernel
theorem D_Md_right_0 : ((((decode k_Md_right 0 = .ok (.aload_n 0, 1)) ∧ (decode k_Md_right 1 = .ok (.iload_n 1, 1))) ∧ ((decode k_Md_right 2 = .ok (.invokevirtual 160, 3)) ∧ (decode k_Md_right 5 = .ok (.ifCond .ne 5, 3)))) ∧ (((decode k_Md_right 8 = .ok (.iconst (-1), 1)) ∧ (decode k_Md_right 9 = .ok (.ireturn, 1))) ∧ ((decode k_Md_right 10 = .ok (.iload_n 2, 1)) ∧ (decode k_Md_right 11 = .ok (.i2l, 1))))) ∧ ((((decode k_Md_right 12 = .ok (.lconst 0, 1)) ∧ (decode k_Md_right 13 = .ok (.ldc2_w 163, 3))) ∧ ((decode k_Md_right 16 = .ok (.invokestatic 119, 3)) ∧ (decode k_Md_right 19 = .ok (.ifCond .ne 6, 3)))) ∧ (((decode k_Md_right 22 = .ok (.bipush (-2), 2)) ∧ (decode k_Md_right 24 = .ok (.ireturn, 1))) ∧ ((decode k_Md_right 25 = .ok (.aload_n 0, 1)) ∧ (decode k_Md_right 26 = .ok (.getfield 15, 3))))) := by decide +kernel
theorem D_Md_right_1 : (((decode k_Md_right 29 = .ok (.iload_n 1, 1)) ∧ (decode k_Md_right 30 = .ok (.iaload, 1))) ∧ ((decode k_Md_right 31 = .ok (.istore_n 3, 1)) ∧ ((decode k_Md_right 32 = .ok (.aload_n 0, 1)) ∧ (decode k_Md_right 33 = .ok (.getfield 15, 3))))) ∧ (((decode k_Md_right 36 = .ok (.iload_n 1, 1)) ∧ (decode k_Md_right 37 = .ok (.iload_n 2, 1))) ∧ ((decode k_Md_right 38 = .ok (.iastore, 1)) ∧ ((decode k_Md_right 39 = .ok (.iload_n 3, 1)) ∧ (decode k_Md_right 40 = .ok (.ireturn, 1))))) := by decide +kernel
theorem D_Md_model_0 : ((((decode k_Md_model 0 = .ok (.aload_n 0, 1)) ∧ (decode k_Md_model 1 = .ok (.iload_n 1, 1))) ∧ ((decode k_Md_model 2 = .ok (.invokevirtual 160, 3)) ∧ (decode k_Md_model 5 = .ok (.ifCond .ne 5, 3)))) ∧ (((decode k_Md_model 8 = .ok (.iconst (-1), 1)) ∧ (decode k_Md_model 9 = .ok (.ireturn, 1))) ∧ ((decode k_Md_model 10 = .ok (.iload_n 2, 1)) ∧ (decode k_Md_model 11 = .ok (.i2l, 1))))) ∧ ((((decode k_Md_model 12 = .ok (.lconst 0, 1)) ∧ (decode k_Md_model 13 = .ok (.ldc2_w 163, 3))) ∧ ((decode k_Md_model 16 = .ok (.invokestatic 119, 3)) ∧ (decode k_Md_model 19 = .ok (.ifCond .ne 6, 3)))) ∧ (((decode k_Md_model 22 = .ok (.bipush (-2), 2)) ∧ (decode k_Md_model 24 = .ok (.ireturn, 1))) ∧ ((decode k_Md_model 25 = .ok (.aload_n 0, 1)) ∧ (decode k_Md_model 26 = .ok (.getfield 19, 3))))) := by decide +kernel
theorem D_Md_model_1 : (((decode k_Md_model 29 = .ok (.iload_n 1, 1)) ∧ (decode k_Md_model 30 = .ok (.iaload, 1))) ∧ ((decode k_Md_model 31 = .ok (.istore_n 3, 1)) ∧ ((decode k_Md_model 32 = .ok (.aload_n 0, 1)) ∧ (decode k_Md_model 33 = .ok (.getfield 19, 3))))) ∧ (((decode k_Md_model 36 = .ok (.iload_n 1, 1)) ∧ (decode k_Md_model 37 = .ok (.iload_n 2, 1))) ∧ ((decode k_Md_model 38 = .ok (.iastore, 1)) ∧ ((decode k_Md_model 39 = .ok (.iload_n 3, 1)) ∧ (decode k_Md_model 40 = .ok (.ireturn, 1))))) := by decide +kernel
theorem D_Md_part_0 : ((((decode k_Md_part 0 = .ok (.aload_n 0, 1)) ∧ (decode k_Md_part 1 = .ok (.iload_n 1, 1))) ∧ ((decode k_Md_part 2 = .ok (.invokevirtual 160, 3)) ∧ (decode k_Md_part 5 = .ok (.ifCond .eq 15, 3)))) ∧ (((decode k_Md_part 8 = .ok (.iload_n 2, 1)) ∧ (decode k_Md_part 9 = .ok (.i2l, 1))) ∧ ((decode k_Md_part 10 = .ok (.lconst 0, 1)) ∧ (decode k_Md_part 11 = .ok (.ldc2_w 163, 3))))) ∧ ((((decode k_Md_part 14 = .ok (.invokestatic 119, 3)) ∧ (decode k_Md_part 17 = .ok (.ifCond .ne 5, 3))) ∧ ((decode k_Md_part 20 = .ok (.iconst (-1), 1)) ∧ (decode k_Md_part 21 = .ok (.ireturn, 1)))) ∧ (((decode k_Md_part 22 = .ok (.iload_n 3, 1)) ∧ (decode k_Md_part 23 = .ok (.i2l, 1))) ∧ ((decode k_Md_part 24 = .ok (.lconst 1, 1)) ∧ (decode k_Md_part 25 = .ok (.ldc2_w 163, 3))))) := by decide +kernel
theorem D_Md_part_1 : ((((decode k_Md_part 28 = .ok (.invokestatic 119, 3)) ∧ (decode k_Md_part 31 = .ok (.ifCond .ne 6, 3))) ∧ ((decode k_Md_part 34 = .ok (.bipush (-2), 2)) ∧ (decode k_Md_part 36 = .ok (.ireturn, 1)))) ∧ (((decode k_Md_part 37 = .ok (.aload_n 0, 1)) ∧ (decode k_Md_part 38 = .ok (.getfield 22, 3))) ∧ ((decode k_Md_part 41 = .ok (.iconst 4, 1)) ∧ (decode k_Md_part 42 = .ok (.iload_n 1, 1))))) ∧ ((((decode k_Md_part 43 = .ok (.imul, 1)) ∧ (decode k_Md_part 44 = .ok (.iload_n 2, 1))) ∧ ((decode k_Md_part 45 = .ok (.iadd, 1)) ∧ (decode k_Md_part 46 = .ok (.iaload, 1)))) ∧ (((decode k_Md_part 47 = .ok (.istore 4, 2)) ∧ (decode k_Md_part 49 = .ok (.aload_n 0, 1))) ∧ ((decode k_Md_part 50 = .ok (.getfield 22, 3)) ∧ (decode k_Md_part 53 = .ok (.iconst 4, 1))))) := by decide +kernel
theorem D_Md_part_2 : (((decode k_Md_part 54 = .ok (.iload_n 1, 1)) ∧ (decode k_Md_part 55 = .ok (.imul, 1))) ∧ ((decode k_Md_part 56 = .ok (.iload_n 2, 1)) ∧ (decode k_Md_part 57 = .ok (.iadd, 1)))) ∧ (((decode k_Md_part 58 = .ok (.iload_n 3, 1)) ∧ (decode k_Md_part 59 = .ok (.iastore, 1))) ∧ ((decode k_Md_part 60 = .ok (.iload 4, 2)) ∧ (decode k_Md_part 62 = .ok (.ireturn, 1)))) := by decide +kernel
theorem D_Md_candidate_0 : ((((decode k_Md_candidate 0 = .ok (.aload_n 0, 1)) ∧ (decode k_Md_candidate 1 = .ok (.getfield 123, 3))) ∧ ((decode k_Md_candidate 4 = .ok (.bipush 8, 2)) ∧ (decode k_Md_candidate 6 = .ok (.if_icmp .ne 6, 3)))) ∧ (((decode k_Md_candidate 9 = .ok (.bipush (-4), 2)) ∧ (decode k_Md_candidate 11 = .ok (.ireturn, 1))) ∧ ((decode k_Md_candidate 12 = .ok (.iconst 0, 1)) ∧ (decode k_Md_candidate 13 = .ok (.istore_n 1, 1))))) ∧ ((((decode k_Md_candidate 14 = .ok (.iload_n 1, 1)) ∧ (decode k_Md_candidate 15 = .ok (.bipush 8, 2))) ∧ ((decode k_Md_candidate 17 = .ok (.if_icmp .ge 24, 3)) ∧ (decode k_Md_candidate 20 = .ok (.aload_n 0, 1)))) ∧ (((decode k_Md_candidate 21 = .ok (.getfield 25, 3)) ∧ (decode k_Md_candidate 24 = .ok (.bipush 8, 2))) ∧ ((decode k_Md_candidate 26 = .ok (.aload_n 0, 1)) ∧ (decode k_Md_candidate 27 = .ok (.getfield 123, 3))))) := by decide +kernel
theorem D_Md_candidate_1 : ((((decode k_Md_candidate 30 = .ok (.imul, 1)) ∧ (decode k_Md_candidate 31 = .ok (.iload_n 1, 1))) ∧ ((decode k_Md_candidate 32 = .ok (.iadd, 1)) ∧ (decode k_Md_candidate 33 = .ok (.iconst (-1), 1)))) ∧ (((decode k_Md_candidate 34 = .ok (.iastore, 1)) ∧ (decode k_Md_candidate 35 = .ok (.iinc 1 1, 3))) ∧ ((decode k_Md_candidate 38 = .ok (.goto (-24), 3)) ∧ (decode k_Md_candidate 41 = .ok (.aload_n 0, 1))))) ∧ ((((decode k_Md_candidate 42 = .ok (.getfield 28, 3)) ∧ (decode k_Md_candidate 45 = .ok (.aload_n 0, 1))) ∧ ((decode k_Md_candidate 46 = .ok (.getfield 123, 3)) ∧ (decode k_Md_candidate 49 = .ok (.iconst (-1), 1)))) ∧ (((decode k_Md_candidate 50 = .ok (.iastore, 1)) ∧ (decode k_Md_candidate 51 = .ok (.aload_n 0, 1))) ∧ ((decode k_Md_candidate 52 = .ok (.getfield 31, 3)) ∧ (decode k_Md_candidate 55 = .ok (.aload_n 0, 1))))) := by decide +kernel
theorem D_Md_candidate_2 : (((decode k_Md_candidate 56 = .ok (.getfield 123, 3)) ∧ ((decode k_Md_candidate 59 = .ok (.iconst (-1), 1)) ∧ (decode k_Md_candidate 60 = .ok (.iastore, 1)))) ∧ (((decode k_Md_candidate 61 = .ok (.aload_n 0, 1)) ∧ (decode k_Md_candidate 62 = .ok (.dup, 1))) ∧ ((decode k_Md_candidate 63 = .ok (.getfield 123, 3)) ∧ (decode k_Md_candidate 66 = .ok (.iconst 1, 1))))) ∧ (((decode k_Md_candidate 67 = .ok (.iadd, 1)) ∧ ((decode k_Md_candidate 68 = .ok (.putfield 123, 3)) ∧ (decode k_Md_candidate 71 = .ok (.aload_n 0, 1)))) ∧ (((decode k_Md_candidate 72 = .ok (.getfield 123, 3)) ∧ (decode k_Md_candidate 75 = .ok (.iconst 1, 1))) ∧ ((decode k_Md_candidate 76 = .ok (.isub, 1)) ∧ (decode k_Md_candidate 77 = .ok (.ireturn, 1))))) := by decide +kernel
theorem D_Md_told_0 : ((decode k_Md_told 0 = .ok (.iload_n 0, 1)) ∧ ((decode k_Md_told 1 = .ok (.ifCond .ge 8, 3)) ∧ (decode k_Md_told 4 = .ok (.bipush (-5), 2)))) ∧ ((decode k_Md_told 6 = .ok (.goto 4, 3)) ∧ ((decode k_Md_told 9 = .ok (.iload_n 0, 1)) ∧ (decode k_Md_told 10 = .ok (.ireturn, 1)))) := by decide +kernel
theorem D_Md_gives_0 : ((((decode k_Md_gives 0 = .ok (.aload_n 0, 1)) ∧ (decode k_Md_gives 1 = .ok (.iload_n 1, 1))) ∧ ((decode k_Md_gives 2 = .ok (.invokevirtual 126, 3)) ∧ (decode k_Md_gives 5 = .ok (.ifCond .eq 11, 3)))) ∧ (((decode k_Md_gives 8 = .ok (.aload_n 0, 1)) ∧ (decode k_Md_gives 9 = .ok (.iload_n 2, 1))) ∧ ((decode k_Md_gives 10 = .ok (.invokevirtual 160, 3)) ∧ (decode k_Md_gives 13 = .ok (.ifCond .ne 5, 3))))) ∧ ((((decode k_Md_gives 16 = .ok (.iconst (-1), 1)) ∧ (decode k_Md_gives 17 = .ok (.ireturn, 1))) ∧ ((decode k_Md_gives 18 = .ok (.iload_n 3, 1)) ∧ (decode k_Md_gives 19 = .ok (.i2l, 1)))) ∧ (((decode k_Md_gives 20 = .ok (.ldc2_w 165, 3)) ∧ (decode k_Md_gives 23 = .ok (.ldc2_w 163, 3))) ∧ ((decode k_Md_gives 26 = .ok (.invokestatic 119, 3)) ∧ (decode k_Md_gives 29 = .ok (.ifCond .ne 6, 3))))) := by decide +kernel
theorem D_Md_gives_1 : ((((decode k_Md_gives 32 = .ok (.bipush (-2), 2)) ∧ (decode k_Md_gives 34 = .ok (.ireturn, 1))) ∧ ((decode k_Md_gives 35 = .ok (.aload_n 0, 1)) ∧ (decode k_Md_gives 36 = .ok (.getfield 25, 3)))) ∧ (((decode k_Md_gives 39 = .ok (.bipush 8, 2)) ∧ (decode k_Md_gives 41 = .ok (.iload_n 1, 1))) ∧ ((decode k_Md_gives 42 = .ok (.imul, 1)) ∧ (decode k_Md_gives 43 = .ok (.iload_n 2, 1))))) ∧ ((((decode k_Md_gives 44 = .ok (.iadd, 1)) ∧ (decode k_Md_gives 45 = .ok (.iaload, 1))) ∧ ((decode k_Md_gives 46 = .ok (.istore 4, 2)) ∧ (decode k_Md_gives 48 = .ok (.aload_n 0, 1)))) ∧ (((decode k_Md_gives 49 = .ok (.getfield 25, 3)) ∧ (decode k_Md_gives 52 = .ok (.bipush 8, 2))) ∧ ((decode k_Md_gives 54 = .ok (.iload_n 1, 1)) ∧ (decode k_Md_gives 55 = .ok (.imul, 1))))) := by decide +kernel
theorem D_Md_gives_2 : ((decode k_Md_gives 56 = .ok (.iload_n 2, 1)) ∧ ((decode k_Md_gives 57 = .ok (.iadd, 1)) ∧ (decode k_Md_gives 58 = .ok (.iload_n 3, 1)))) ∧ (((decode k_Md_gives 59 = .ok (.iastore, 1)) ∧ (decode k_Md_gives 60 = .ok (.iload 4, 2))) ∧ ((decode k_Md_gives 62 = .ok (.invokestatic 167, 3)) ∧ (decode k_Md_gives 65 = .ok (.ireturn, 1)))) := by decide +kernel
theorem D_Md_seat_0 : ((((decode k_Md_seat 0 = .ok (.aload_n 0, 1)) ∧ (decode k_Md_seat 1 = .ok (.iload_n 1, 1))) ∧ ((decode k_Md_seat 2 = .ok (.invokevirtual 126, 3)) ∧ (decode k_Md_seat 5 = .ok (.ifCond .ne 5, 3)))) ∧ (((decode k_Md_seat 8 = .ok (.iconst (-1), 1)) ∧ (decode k_Md_seat 9 = .ok (.ireturn, 1))) ∧ ((decode k_Md_seat 10 = .ok (.iload_n 2, 1)) ∧ (decode k_Md_seat 11 = .ok (.i2l, 1))))) ∧ ((((decode k_Md_seat 12 = .ok (.ldc2_w 165, 3)) ∧ (decode k_Md_seat 15 = .ok (.ldc2_w 170, 3))) ∧ ((decode k_Md_seat 18 = .ok (.invokestatic 119, 3)) ∧ (decode k_Md_seat 21 = .ok (.ifCond .eq 19, 3)))) ∧ (((decode k_Md_seat 24 = .ok (.iload_n 2, 1)) ∧ (decode k_Md_seat 25 = .ok (.ifCond .lt 18, 3))) ∧ ((decode k_Md_seat 28 = .ok (.iload_n 3, 1)) ∧ (decode k_Md_seat 29 = .ok (.i2l, 1))))) := by decide +kernel
theorem D_Md_seat_1 : ((((decode k_Md_seat 30 = .ok (.lconst 0, 1)) ∧ (decode k_Md_seat 31 = .ok (.ldc2_w 170, 3))) ∧ ((decode k_Md_seat 34 = .ok (.invokestatic 119, 3)) ∧ (decode k_Md_seat 37 = .ok (.ifCond .ne 6, 3)))) ∧ (((decode k_Md_seat 40 = .ok (.bipush (-2), 2)) ∧ (decode k_Md_seat 42 = .ok (.ireturn, 1))) ∧ ((decode k_Md_seat 43 = .ok (.iconst 0, 1)) ∧ (decode k_Md_seat 44 = .ok (.istore 4, 2))))) ∧ ((((decode k_Md_seat 46 = .ok (.iload 4, 2)) ∧ (decode k_Md_seat 48 = .ok (.aload_n 0, 1))) ∧ ((decode k_Md_seat 49 = .ok (.getfield 123, 3)) ∧ (decode k_Md_seat 52 = .ok (.if_icmp .ge 44, 3)))) ∧ (((decode k_Md_seat 55 = .ok (.iload 4, 2)) ∧ (decode k_Md_seat 57 = .ok (.iload_n 1, 1))) ∧ ((decode k_Md_seat 58 = .ok (.if_icmp .eq 32, 3)) ∧ (decode k_Md_seat 61 = .ok (.iload_n 2, 1))))) := by decide +kernel
theorem D_Md_seat_2 : ((((decode k_Md_seat 62 = .ok (.ifCond .lt 28, 3)) ∧ (decode k_Md_seat 65 = .ok (.aload_n 0, 1))) ∧ ((decode k_Md_seat 66 = .ok (.getfield 28, 3)) ∧ (decode k_Md_seat 69 = .ok (.iload 4, 2)))) ∧ (((decode k_Md_seat 71 = .ok (.iaload, 1)) ∧ (decode k_Md_seat 72 = .ok (.iload_n 2, 1))) ∧ ((decode k_Md_seat 73 = .ok (.if_icmp .ne 17, 3)) ∧ (decode k_Md_seat 76 = .ok (.aload_n 0, 1))))) ∧ ((((decode k_Md_seat 77 = .ok (.getfield 31, 3)) ∧ (decode k_Md_seat 80 = .ok (.iload 4, 2))) ∧ ((decode k_Md_seat 82 = .ok (.iaload, 1)) ∧ (decode k_Md_seat 83 = .ok (.iload_n 3, 1)))) ∧ (((decode k_Md_seat 84 = .ok (.if_icmp .ne 6, 3)) ∧ (decode k_Md_seat 87 = .ok (.bipush (-3), 2))) ∧ ((decode k_Md_seat 89 = .ok (.ireturn, 1)) ∧ (decode k_Md_seat 90 = .ok (.iinc 4 1, 3))))) := by decide +kernel
theorem D_Md_seat_3 : ((((decode k_Md_seat 93 = .ok (.goto (-47), 3)) ∧ (decode k_Md_seat 96 = .ok (.aload_n 0, 1))) ∧ ((decode k_Md_seat 97 = .ok (.getfield 28, 3)) ∧ (decode k_Md_seat 100 = .ok (.iload_n 1, 1)))) ∧ (((decode k_Md_seat 101 = .ok (.iload_n 2, 1)) ∧ (decode k_Md_seat 102 = .ok (.iastore, 1))) ∧ ((decode k_Md_seat 103 = .ok (.aload_n 0, 1)) ∧ (decode k_Md_seat 104 = .ok (.getfield 31, 3))))) ∧ ((((decode k_Md_seat 107 = .ok (.iload_n 1, 1)) ∧ (decode k_Md_seat 108 = .ok (.iload_n 2, 1))) ∧ ((decode k_Md_seat 109 = .ok (.ifCond .ge 7, 3)) ∧ (decode k_Md_seat 112 = .ok (.iconst (-1), 1)))) ∧ (((decode k_Md_seat 113 = .ok (.goto 4, 3)) ∧ (decode k_Md_seat 116 = .ok (.iload_n 3, 1))) ∧ ((decode k_Md_seat 117 = .ok (.iastore, 1)) ∧ (decode k_Md_seat 118 = .ok (.iconst 1, 1))))) := by decide +kernel
theorem D_Md_seat_4 : decode k_Md_seat 119 = .ok (.ireturn, 1) := by decide +kernel
theorem D_Md_here_0 : (((decode k_Md_here 0 = .ok (.aload_n 0, 1)) ∧ ((decode k_Md_here 1 = .ok (.getfield 172, 3)) ∧ (decode k_Md_here 4 = .ok (.aload_n 0, 1)))) ∧ ((decode k_Md_here 5 = .ok (.getfield 175, 3)) ∧ ((decode k_Md_here 8 = .ok (.if_icmp .ge 15, 3)) ∧ (decode k_Md_here 11 = .ok (.aload_n 0, 1))))) ∧ (((decode k_Md_here 12 = .ok (.getfield 55, 3)) ∧ ((decode k_Md_here 15 = .ok (.aload_n 0, 1)) ∧ (decode k_Md_here 16 = .ok (.getfield 172, 3)))) ∧ (((decode k_Md_here 19 = .ok (.iaload, 1)) ∧ (decode k_Md_here 20 = .ok (.goto 4, 3))) ∧ ((decode k_Md_here 23 = .ok (.iconst (-1), 1)) ∧ (decode k_Md_here 24 = .ok (.ireturn, 1))))) := by decide +kernel
theorem D_Md_clause_0 : ((((decode k_Md_clause 0 = .ok (.aload_n 0, 1)) ∧ (decode k_Md_clause 1 = .ok (.invokevirtual 178, 3))) ∧ ((decode k_Md_clause 4 = .ok (.bipush 48, 2)) ∧ (decode k_Md_clause 6 = .ok (.isub, 1)))) ∧ (((decode k_Md_clause 7 = .ok (.istore_n 2, 1)) ∧ (decode k_Md_clause 8 = .ok (.aload_n 0, 1))) ∧ ((decode k_Md_clause 9 = .ok (.iload_n 2, 1)) ∧ (decode k_Md_clause 10 = .ok (.invokevirtual 126, 3))))) ∧ ((((decode k_Md_clause 13 = .ok (.ifCond .ne 9, 3)) ∧ (decode k_Md_clause 16 = .ok (.aload_n 0, 1))) ∧ ((decode k_Md_clause 17 = .ok (.iconst 1, 1)) ∧ (decode k_Md_clause 18 = .ok (.putfield 182, 3)))) ∧ (((decode k_Md_clause 21 = .ok (.return_, 1)) ∧ (decode k_Md_clause 22 = .ok (.aload_n 0, 1))) ∧ ((decode k_Md_clause 23 = .ok (.dup, 1)) ∧ (decode k_Md_clause 24 = .ok (.getfield 172, 3))))) := by decide +kernel
theorem D_Md_clause_1 : ((((decode k_Md_clause 27 = .ok (.iconst 1, 1)) ∧ (decode k_Md_clause 28 = .ok (.iadd, 1))) ∧ ((decode k_Md_clause 29 = .ok (.putfield 172, 3)) ∧ (decode k_Md_clause 32 = .ok (.iconst 0, 1)))) ∧ (((decode k_Md_clause 33 = .ok (.istore_n 3, 1)) ∧ (decode k_Md_clause 34 = .ok (.iload_n 3, 1))) ∧ ((decode k_Md_clause 35 = .ok (.aload_n 0, 1)) ∧ (decode k_Md_clause 36 = .ok (.getfield 9, 3))))) ∧ ((((decode k_Md_clause 39 = .ok (.if_icmp .ge 80, 3)) ∧ (decode k_Md_clause 42 = .ok (.aload_n 0, 1))) ∧ ((decode k_Md_clause 43 = .ok (.invokevirtual 178, 3)) ∧ (decode k_Md_clause 46 = .ok (.bipush 45, 2)))) ∧ (((decode k_Md_clause 48 = .ok (.if_icmp .eq 20, 3)) ∧ (decode k_Md_clause 51 = .ok (.aload_n 0, 1))) ∧ ((decode k_Md_clause 52 = .ok (.invokevirtual 178, 3)) ∧ (decode k_Md_clause 55 = .ok (.i2l, 1))))) := by decide +kernel
theorem D_Md_clause_2 : ((((decode k_Md_clause 56 = .ok (.ldc2_w 185, 3)) ∧ (decode k_Md_clause 59 = .ok (.ldc2_w 187, 3))) ∧ ((decode k_Md_clause 62 = .ok (.invokestatic 119, 3)) ∧ (decode k_Md_clause 65 = .ok (.ifCond .eq 54, 3)))) ∧ (((decode k_Md_clause 68 = .ok (.iload_n 1, 1)) ∧ (decode k_Md_clause 69 = .ok (.ifCond .eq 34, 3))) ∧ ((decode k_Md_clause 72 = .ok (.aload_n 0, 1)) ∧ (decode k_Md_clause 73 = .ok (.getfield 25, 3))))) ∧ ((((decode k_Md_clause 76 = .ok (.bipush 8, 2)) ∧ (decode k_Md_clause 78 = .ok (.iload_n 2, 1))) ∧ ((decode k_Md_clause 79 = .ok (.imul, 1)) ∧ (decode k_Md_clause 80 = .ok (.iload_n 3, 1)))) ∧ (((decode k_Md_clause 81 = .ok (.iadd, 1)) ∧ (decode k_Md_clause 82 = .ok (.aload_n 0, 1))) ∧ ((decode k_Md_clause 83 = .ok (.invokevirtual 178, 3)) ∧ (decode k_Md_clause 86 = .ok (.bipush 45, 2))))) := by decide +kernel
theorem D_Md_clause_3 : ((((decode k_Md_clause 88 = .ok (.if_icmp .ne 7, 3)) ∧ (decode k_Md_clause 91 = .ok (.iconst (-1), 1))) ∧ ((decode k_Md_clause 92 = .ok (.goto 10, 3)) ∧ (decode k_Md_clause 95 = .ok (.aload_n 0, 1)))) ∧ (((decode k_Md_clause 96 = .ok (.invokevirtual 178, 3)) ∧ (decode k_Md_clause 99 = .ok (.bipush 97, 2))) ∧ ((decode k_Md_clause 101 = .ok (.isub, 1)) ∧ (decode k_Md_clause 102 = .ok (.iastore, 1))))) ∧ ((((decode k_Md_clause 103 = .ok (.iinc 3 1, 3)) ∧ (decode k_Md_clause 106 = .ok (.aload_n 0, 1))) ∧ ((decode k_Md_clause 107 = .ok (.dup, 1)) ∧ (decode k_Md_clause 108 = .ok (.getfield 172, 3)))) ∧ (((decode k_Md_clause 111 = .ok (.iconst 1, 1)) ∧ (decode k_Md_clause 112 = .ok (.iadd, 1))) ∧ ((decode k_Md_clause 113 = .ok (.putfield 172, 3)) ∧ (decode k_Md_clause 116 = .ok (.goto (-82), 3))))) := by decide +kernel
theorem D_Md_clause_4 : (((decode k_Md_clause 119 = .ok (.aload_n 0, 1)) ∧ ((decode k_Md_clause 120 = .ok (.iload_n 3, 1)) ∧ (decode k_Md_clause 121 = .ok (.ifCond .ne 7, 3)))) ∧ (((decode k_Md_clause 124 = .ok (.iconst 1, 1)) ∧ (decode k_Md_clause 125 = .ok (.goto 4, 3))) ∧ ((decode k_Md_clause 128 = .ok (.iconst 0, 1)) ∧ (decode k_Md_clause 129 = .ok (.putfield 182, 3))))) ∧ (((decode k_Md_clause 132 = .ok (.aload_n 0, 1)) ∧ ((decode k_Md_clause 133 = .ok (.dup, 1)) ∧ (decode k_Md_clause 134 = .ok (.getfield 189, 3)))) ∧ (((decode k_Md_clause 137 = .ok (.iconst 1, 1)) ∧ (decode k_Md_clause 138 = .ok (.iadd, 1))) ∧ ((decode k_Md_clause 139 = .ok (.putfield 189, 3)) ∧ (decode k_Md_clause 142 = .ok (.return_, 1))))) := by decide +kernel
theorem D_Md_goesThrough_0 : ((((decode k_Md_goesThrough 0 = .ok (.aload_n 0, 1)) ∧ (decode k_Md_goesThrough 1 = .ok (.iconst 0, 1))) ∧ ((decode k_Md_goesThrough 2 = .ok (.putfield 172, 3)) ∧ (decode k_Md_goesThrough 5 = .ok (.aload_n 0, 1)))) ∧ (((decode k_Md_goesThrough 6 = .ok (.iconst 0, 1)) ∧ (decode k_Md_goesThrough 7 = .ok (.putfield 189, 3))) ∧ ((decode k_Md_goesThrough 10 = .ok (.aload_n 0, 1)) ∧ (decode k_Md_goesThrough 11 = .ok (.iconst 0, 1))))) ∧ ((((decode k_Md_goesThrough 12 = .ok (.putfield 182, 3)) ∧ (decode k_Md_goesThrough 15 = .ok (.aload_n 0, 1))) ∧ ((decode k_Md_goesThrough 16 = .ok (.iload_n 1, 1)) ∧ (decode k_Md_goesThrough 17 = .ok (.invokevirtual 192, 3)))) ∧ (((decode k_Md_goesThrough 20 = .ok (.aload_n 0, 1)) ∧ (decode k_Md_goesThrough 21 = .ok (.getfield 182, 3))) ∧ ((decode k_Md_goesThrough 24 = .ok (.ifCond .ne 55, 3)) ∧ (decode k_Md_goesThrough 27 = .ok (.aload_n 0, 1))))) := by decide +kernel
theorem D_Md_goesThrough_1 : ((((decode k_Md_goesThrough 28 = .ok (.getfield 172, 3)) ∧ (decode k_Md_goesThrough 31 = .ok (.aload_n 0, 1))) ∧ ((decode k_Md_goesThrough 32 = .ok (.getfield 175, 3)) ∧ (decode k_Md_goesThrough 35 = .ok (.if_icmp .ge 44, 3)))) ∧ (((decode k_Md_goesThrough 38 = .ok (.aload_n 0, 1)) ∧ (decode k_Md_goesThrough 39 = .ok (.getfield 189, 3))) ∧ ((decode k_Md_goesThrough 42 = .ok (.iconst 4, 1)) ∧ (decode k_Md_goesThrough 43 = .ok (.if_icmp .eq 12, 3))))) ∧ ((((decode k_Md_goesThrough 46 = .ok (.aload_n 0, 1)) ∧ (decode k_Md_goesThrough 47 = .ok (.invokevirtual 178, 3))) ∧ ((decode k_Md_goesThrough 50 = .ok (.bipush 59, 2)) ∧ (decode k_Md_goesThrough 52 = .ok (.if_icmp .eq 9, 3)))) ∧ (((decode k_Md_goesThrough 55 = .ok (.aload_n 0, 1)) ∧ (decode k_Md_goesThrough 56 = .ok (.iconst 1, 1))) ∧ ((decode k_Md_goesThrough 57 = .ok (.putfield 182, 3)) ∧ (decode k_Md_goesThrough 60 = .ok (.return_, 1))))) := by decide +kernel
theorem D_Md_goesThrough_2 : (((decode k_Md_goesThrough 61 = .ok (.aload_n 0, 1)) ∧ (decode k_Md_goesThrough 62 = .ok (.dup, 1))) ∧ ((decode k_Md_goesThrough 63 = .ok (.getfield 172, 3)) ∧ ((decode k_Md_goesThrough 66 = .ok (.iconst 1, 1)) ∧ (decode k_Md_goesThrough 67 = .ok (.iadd, 1))))) ∧ (((decode k_Md_goesThrough 68 = .ok (.putfield 172, 3)) ∧ ((decode k_Md_goesThrough 71 = .ok (.aload_n 0, 1)) ∧ (decode k_Md_goesThrough 72 = .ok (.iload_n 1, 1)))) ∧ ((decode k_Md_goesThrough 73 = .ok (.invokevirtual 192, 3)) ∧ ((decode k_Md_goesThrough 76 = .ok (.goto (-56), 3)) ∧ (decode k_Md_goesThrough 79 = .ok (.return_, 1))))) := by decide +kernel
theorem D_Md_feed_0 : ((((decode k_Md_feed 0 = .ok (.iload_n 1, 1)) ∧ (decode k_Md_feed 1 = .ok (.i2l, 1))) ∧ ((decode k_Md_feed 2 = .ok (.lconst 0, 1)) ∧ (decode k_Md_feed 3 = .ok (.ldc2_w 196, 3)))) ∧ (((decode k_Md_feed 6 = .ok (.invokestatic 119, 3)) ∧ (decode k_Md_feed 9 = .ok (.ifCond .ne 6, 3))) ∧ ((decode k_Md_feed 12 = .ok (.bipush (-2), 2)) ∧ (decode k_Md_feed 14 = .ok (.ireturn, 1))))) ∧ ((((decode k_Md_feed 15 = .ok (.aload_n 0, 1)) ∧ (decode k_Md_feed 16 = .ok (.getfield 175, 3))) ∧ ((decode k_Md_feed 19 = .ok (.bipush 60, 2)) ∧ (decode k_Md_feed 21 = .ok (.if_icmp .ne 6, 3)))) ∧ (((decode k_Md_feed 24 = .ok (.bipush (-4), 2)) ∧ (decode k_Md_feed 26 = .ok (.ireturn, 1))) ∧ ((decode k_Md_feed 27 = .ok (.aload_n 0, 1)) ∧ (decode k_Md_feed 28 = .ok (.getfield 55, 3))))) := by decide +kernel
theorem D_Md_feed_1 : (((decode k_Md_feed 31 = .ok (.aload_n 0, 1)) ∧ ((decode k_Md_feed 32 = .ok (.getfield 175, 3)) ∧ (decode k_Md_feed 35 = .ok (.iload_n 1, 1)))) ∧ ((decode k_Md_feed 36 = .ok (.iastore, 1)) ∧ ((decode k_Md_feed 37 = .ok (.aload_n 0, 1)) ∧ (decode k_Md_feed 38 = .ok (.dup, 1))))) ∧ (((decode k_Md_feed 39 = .ok (.getfield 175, 3)) ∧ ((decode k_Md_feed 42 = .ok (.iconst 1, 1)) ∧ (decode k_Md_feed 43 = .ok (.iadd, 1)))) ∧ (((decode k_Md_feed 44 = .ok (.putfield 175, 3)) ∧ (decode k_Md_feed 47 = .ok (.aload_n 0, 1))) ∧ ((decode k_Md_feed 48 = .ok (.getfield 175, 3)) ∧ (decode k_Md_feed 51 = .ok (.ireturn, 1))))) := by decide +kernel
theorem D_Md_read_0 : ((((decode k_Md_read 0 = .ok (.aload_n 0, 1)) ∧ (decode k_Md_read 1 = .ok (.iconst 0, 1))) ∧ ((decode k_Md_read 2 = .ok (.invokevirtual 198, 3)) ∧ (decode k_Md_read 5 = .ok (.bipush (-10), 2)))) ∧ (((decode k_Md_read 7 = .ok (.aload_n 0, 1)) ∧ (decode k_Md_read 8 = .ok (.getfield 172, 3))) ∧ ((decode k_Md_read 11 = .ok (.isub, 1)) ∧ (decode k_Md_read 12 = .ok (.istore_n 1, 1))))) ∧ ((((decode k_Md_read 13 = .ok (.aload_n 0, 1)) ∧ (decode k_Md_read 14 = .ok (.getfield 182, 3))) ∧ ((decode k_Md_read 17 = .ok (.ifCond .ne 13, 3)) ∧ (decode k_Md_read 20 = .ok (.aload_n 0, 1)))) ∧ (((decode k_Md_read 21 = .ok (.iconst 1, 1)) ∧ (decode k_Md_read 22 = .ok (.invokevirtual 198, 3))) ∧ ((decode k_Md_read 25 = .ok (.aload_n 0, 1)) ∧ (decode k_Md_read 26 = .ok (.getfield 189, 3))))) := by decide +kernel
theorem D_Md_read_1 : ((decode k_Md_read 29 = .ok (.istore_n 1, 1)) ∧ ((decode k_Md_read 30 = .ok (.aload_n 0, 1)) ∧ (decode k_Md_read 31 = .ok (.iconst 0, 1)))) ∧ ((decode k_Md_read 32 = .ok (.putfield 175, 3)) ∧ ((decode k_Md_read 35 = .ok (.iload_n 1, 1)) ∧ (decode k_Md_read 36 = .ok (.ireturn, 1)))) := by decide +kernel
theorem D_Md_isUse_0 : ((((decode k_Md_isUse 0 = .ok (.iload_n 0, 1)) ∧ (decode k_Md_isUse 1 = .ok (.tableswitch 75 0 4 #[35, 35, 45, 55, 65], 35))) ∧ ((decode k_Md_isUse 36 = .ok (.iload_n 1, 1)) ∧ (decode k_Md_isUse 37 = .ok (.i2l, 1)))) ∧ (((decode k_Md_isUse 38 = .ok (.lconst 0, 1)) ∧ (decode k_Md_isUse 39 = .ok (.ldc2_w 163, 3))) ∧ ((decode k_Md_isUse 42 = .ok (.invokestatic 119, 3)) ∧ (decode k_Md_isUse 45 = .ok (.ireturn, 1))))) ∧ ((((decode k_Md_isUse 46 = .ok (.iload_n 1, 1)) ∧ (decode k_Md_isUse 47 = .ok (.i2l, 1))) ∧ ((decode k_Md_isUse 48 = .ok (.lconst 1, 1)) ∧ (decode k_Md_isUse 49 = .ok (.ldc2_w 201, 3)))) ∧ (((decode k_Md_isUse 52 = .ok (.invokestatic 119, 3)) ∧ (decode k_Md_isUse 55 = .ok (.ireturn, 1))) ∧ ((decode k_Md_isUse 56 = .ok (.iload_n 1, 1)) ∧ (decode k_Md_isUse 57 = .ok (.i2l, 1))))) := by decide +kernel
theorem D_Md_isUse_1 : ((((decode k_Md_isUse 58 = .ok (.lconst 0, 1)) ∧ (decode k_Md_isUse 59 = .ok (.ldc2_w 170, 3))) ∧ ((decode k_Md_isUse 62 = .ok (.invokestatic 119, 3)) ∧ (decode k_Md_isUse 65 = .ok (.ireturn, 1)))) ∧ (((decode k_Md_isUse 66 = .ok (.iload_n 1, 1)) ∧ (decode k_Md_isUse 67 = .ok (.i2l, 1))) ∧ ((decode k_Md_isUse 68 = .ok (.lconst 0, 1)) ∧ (decode k_Md_isUse 69 = .ok (.ldc2_w 203, 3))))) ∧ ((((decode k_Md_isUse 72 = .ok (.invokestatic 119, 3)) ∧ (decode k_Md_isUse 75 = .ok (.ireturn, 1))) ∧ ((decode k_Md_isUse 76 = .ok (.iload_n 1, 1)) ∧ (decode k_Md_isUse 77 = .ok (.i2l, 1)))) ∧ (((decode k_Md_isUse 78 = .ok (.lconst 1, 1)) ∧ (decode k_Md_isUse 79 = .ok (.ldc2_w 205, 3))) ∧ ((decode k_Md_isUse 82 = .ok (.invokestatic 119, 3)) ∧ (decode k_Md_isUse 85 = .ok (.ireturn, 1))))) := by decide +kernel
theorem D_Md_use_0 : ((((decode k_Md_use 0 = .ok (.iload_n 1, 1)) ∧ (decode k_Md_use 1 = .ok (.i2l, 1))) ∧ ((decode k_Md_use 2 = .ok (.lconst 0, 1)) ∧ (decode k_Md_use 3 = .ok (.ldc2_w 207, 3)))) ∧ (((decode k_Md_use 6 = .ok (.invokestatic 119, 3)) ∧ (decode k_Md_use 9 = .ok (.ifCond .ne 5, 3))) ∧ ((decode k_Md_use 12 = .ok (.iconst (-1), 1)) ∧ (decode k_Md_use 13 = .ok (.ireturn, 1))))) ∧ ((((decode k_Md_use 14 = .ok (.iload_n 1, 1)) ∧ (decode k_Md_use 15 = .ok (.iload_n 2, 1))) ∧ ((decode k_Md_use 16 = .ok (.invokestatic 209, 3)) ∧ (decode k_Md_use 19 = .ok (.ifCond .ne 6, 3)))) ∧ (((decode k_Md_use 22 = .ok (.bipush (-2), 2)) ∧ (decode k_Md_use 24 = .ok (.ireturn, 1))) ∧ ((decode k_Md_use 25 = .ok (.aload_n 0, 1)) ∧ (decode k_Md_use 26 = .ok (.getfield 34, 3))))) := by decide +kernel
theorem D_Md_use_1 : (((decode k_Md_use 29 = .ok (.iload_n 1, 1)) ∧ (decode k_Md_use 30 = .ok (.iaload, 1))) ∧ ((decode k_Md_use 31 = .ok (.istore_n 3, 1)) ∧ ((decode k_Md_use 32 = .ok (.aload_n 0, 1)) ∧ (decode k_Md_use 33 = .ok (.getfield 34, 3))))) ∧ (((decode k_Md_use 36 = .ok (.iload_n 1, 1)) ∧ (decode k_Md_use 37 = .ok (.iload_n 2, 1))) ∧ ((decode k_Md_use 38 = .ok (.iastore, 1)) ∧ ((decode k_Md_use 39 = .ok (.iload_n 3, 1)) ∧ (decode k_Md_use 40 = .ok (.ireturn, 1))))) := by decide +kernel
theorem D_Md_answer_0 : ((((decode k_Md_answer 0 = .ok (.aload_n 0, 1)) ∧ (decode k_Md_answer 1 = .ok (.iload_n 1, 1))) ∧ ((decode k_Md_answer 2 = .ok (.invokevirtual 126, 3)) ∧ (decode k_Md_answer 5 = .ok (.ifCond .eq 28, 3)))) ∧ (((decode k_Md_answer 8 = .ok (.aload_n 0, 1)) ∧ (decode k_Md_answer 9 = .ok (.iload_n 2, 1))) ∧ ((decode k_Md_answer 10 = .ok (.invokevirtual 160, 3)) ∧ (decode k_Md_answer 13 = .ok (.ifCond .eq 20, 3))))) ∧ ((((decode k_Md_answer 16 = .ok (.aload_n 0, 1)) ∧ (decode k_Md_answer 17 = .ok (.getfield 25, 3))) ∧ ((decode k_Md_answer 20 = .ok (.bipush 8, 2)) ∧ (decode k_Md_answer 22 = .ok (.iload_n 1, 1)))) ∧ (((decode k_Md_answer 23 = .ok (.imul, 1)) ∧ (decode k_Md_answer 24 = .ok (.iload_n 2, 1))) ∧ ((decode k_Md_answer 25 = .ok (.iadd, 1)) ∧ (decode k_Md_answer 26 = .ok (.iaload, 1))))) := by decide +kernel
theorem D_Md_answer_1 : ((decode k_Md_answer 27 = .ok (.invokestatic 167, 3)) ∧ (decode k_Md_answer 30 = .ok (.goto 4, 3))) ∧ ((decode k_Md_answer 33 = .ok (.iconst (-1), 1)) ∧ (decode k_Md_answer 34 = .ok (.ireturn, 1))) := by decide +kernel
theorem D_Md_gave_0 : ((((decode k_Md_gave 0 = .ok (.iconst 0, 1)) ∧ (decode k_Md_gave 1 = .ok (.istore_n 3, 1))) ∧ ((decode k_Md_gave 2 = .ok (.iconst 0, 1)) ∧ (decode k_Md_gave 3 = .ok (.istore 4, 2)))) ∧ (((decode k_Md_gave 5 = .ok (.iload 4, 2)) ∧ (decode k_Md_gave 7 = .ok (.aload_n 0, 1))) ∧ ((decode k_Md_gave 8 = .ok (.getfield 9, 3)) ∧ (decode k_Md_gave 11 = .ok (.if_icmp .ge 52, 3))))) ∧ ((((decode k_Md_gave 14 = .ok (.aload_n 0, 1)) ∧ (decode k_Md_gave 15 = .ok (.getfield 25, 3))) ∧ ((decode k_Md_gave 18 = .ok (.bipush 8, 2)) ∧ (decode k_Md_gave 20 = .ok (.iload_n 1, 1)))) ∧ (((decode k_Md_gave 21 = .ok (.imul, 1)) ∧ (decode k_Md_gave 22 = .ok (.iload 4, 2))) ∧ ((decode k_Md_gave 24 = .ok (.iadd, 1)) ∧ (decode k_Md_gave 25 = .ok (.iaload, 1))))) := by decide +kernel
theorem D_Md_gave_1 : ((((decode k_Md_gave 26 = .ok (.istore 5, 2)) ∧ (decode k_Md_gave 28 = .ok (.iload_n 3, 1))) ∧ ((decode k_Md_gave 29 = .ok (.iload 5, 2)) ∧ (decode k_Md_gave 31 = .ok (.ifCond .lt 23, 3)))) ∧ (((decode k_Md_gave 34 = .ok (.iload_n 2, 1)) ∧ (decode k_Md_gave 35 = .ok (.ifCond .eq 15, 3))) ∧ ((decode k_Md_gave 38 = .ok (.iload 5, 2)) ∧ (decode k_Md_gave 40 = .ok (.aload_n 0, 1))))) ∧ ((((decode k_Md_gave 41 = .ok (.getfield 15, 3)) ∧ (decode k_Md_gave 44 = .ok (.iload 4, 2))) ∧ ((decode k_Md_gave 46 = .ok (.iaload, 1)) ∧ (decode k_Md_gave 47 = .ok (.if_icmp .ne 7, 3)))) ∧ (((decode k_Md_gave 50 = .ok (.iconst 1, 1)) ∧ (decode k_Md_gave 51 = .ok (.goto 4, 3))) ∧ ((decode k_Md_gave 54 = .ok (.iconst 0, 1)) ∧ (decode k_Md_gave 55 = .ok (.iadd, 1))))) := by decide +kernel
theorem D_Md_gave_2 : ((decode k_Md_gave 56 = .ok (.istore_n 3, 1)) ∧ (decode k_Md_gave 57 = .ok (.iinc 4 1, 3))) ∧ ((decode k_Md_gave 60 = .ok (.goto (-55), 3)) ∧ ((decode k_Md_gave 63 = .ok (.iload_n 3, 1)) ∧ (decode k_Md_gave 64 = .ok (.ireturn, 1)))) := by decide +kernel
theorem D_Md_of_0 : ((((decode k_Md_of 0 = .ok (.aload_n 0, 1)) ∧ (decode k_Md_of 1 = .ok (.iload_n 1, 1))) ∧ ((decode k_Md_of 2 = .ok (.invokevirtual 126, 3)) ∧ (decode k_Md_of 5 = .ok (.ifCond .ne 5, 3)))) ∧ (((decode k_Md_of 8 = .ok (.iconst (-1), 1)) ∧ (decode k_Md_of 9 = .ok (.ireturn, 1))) ∧ ((decode k_Md_of 10 = .ok (.iload_n 2, 1)) ∧ (decode k_Md_of 11 = .ok (.tableswitch 63 0 3 #[29, 36, 43, 53], 29))))) ∧ ((((decode k_Md_of 40 = .ok (.aload_n 0, 1)) ∧ (decode k_Md_of 41 = .ok (.iload_n 1, 1))) ∧ ((decode k_Md_of 42 = .ok (.iconst 0, 1)) ∧ (decode k_Md_of 43 = .ok (.invokevirtual 213, 3)))) ∧ (((decode k_Md_of 46 = .ok (.ireturn, 1)) ∧ (decode k_Md_of 47 = .ok (.aload_n 0, 1))) ∧ ((decode k_Md_of 48 = .ok (.iload_n 1, 1)) ∧ (decode k_Md_of 49 = .ok (.iconst 1, 1))))) := by decide +kernel
theorem D_Md_of_1 : ((((decode k_Md_of 50 = .ok (.invokevirtual 213, 3)) ∧ (decode k_Md_of 53 = .ok (.ireturn, 1))) ∧ ((decode k_Md_of 54 = .ok (.aload_n 0, 1)) ∧ (decode k_Md_of 55 = .ok (.getfield 28, 3)))) ∧ (((decode k_Md_of 58 = .ok (.iload_n 1, 1)) ∧ (decode k_Md_of 59 = .ok (.iaload, 1))) ∧ ((decode k_Md_of 60 = .ok (.invokestatic 167, 3)) ∧ (decode k_Md_of 63 = .ok (.ireturn, 1))))) ∧ ((((decode k_Md_of 64 = .ok (.aload_n 0, 1)) ∧ (decode k_Md_of 65 = .ok (.getfield 31, 3))) ∧ ((decode k_Md_of 68 = .ok (.iload_n 1, 1)) ∧ (decode k_Md_of 69 = .ok (.iaload, 1)))) ∧ (((decode k_Md_of 70 = .ok (.invokestatic 167, 3)) ∧ (decode k_Md_of 73 = .ok (.ireturn, 1))) ∧ ((decode k_Md_of 74 = .ok (.iconst (-1), 1)) ∧ (decode k_Md_of 75 = .ok (.ireturn, 1))))) := by decide +kernel
theorem D_Md_gavers_0 : ((((decode k_Md_gavers 0 = .ok (.iconst 0, 1)) ∧ (decode k_Md_gavers 1 = .ok (.istore 5, 2))) ∧ ((decode k_Md_gavers 3 = .ok (.iconst 0, 1)) ∧ (decode k_Md_gavers 4 = .ok (.istore 6, 2)))) ∧ (((decode k_Md_gavers 6 = .ok (.iload 6, 2)) ∧ (decode k_Md_gavers 8 = .ok (.aload_n 0, 1))) ∧ ((decode k_Md_gavers 9 = .ok (.getfield 123, 3)) ∧ (decode k_Md_gavers 12 = .ok (.if_icmp .ge 48, 3))))) ∧ ((((decode k_Md_gavers 15 = .ok (.iload 5, 2)) ∧ (decode k_Md_gavers 17 = .ok (.iload 6, 2))) ∧ ((decode k_Md_gavers 19 = .ok (.iload_n 3, 1)) ∧ (decode k_Md_gavers 20 = .ok (.if_icmp .eq 30, 3)))) ∧ (((decode k_Md_gavers 23 = .ok (.iload 6, 2)) ∧ (decode k_Md_gavers 25 = .ok (.iload 4, 2))) ∧ ((decode k_Md_gavers 27 = .ok (.if_icmp .eq 23, 3)) ∧ (decode k_Md_gavers 30 = .ok (.aload_n 0, 1))))) := by decide +kernel
theorem D_Md_gavers_1 : ((((decode k_Md_gavers 31 = .ok (.getfield 25, 3)) ∧ (decode k_Md_gavers 34 = .ok (.bipush 8, 2))) ∧ ((decode k_Md_gavers 36 = .ok (.iload 6, 2)) ∧ (decode k_Md_gavers 38 = .ok (.imul, 1)))) ∧ (((decode k_Md_gavers 39 = .ok (.iload_n 1, 1)) ∧ (decode k_Md_gavers 40 = .ok (.iadd, 1))) ∧ ((decode k_Md_gavers 41 = .ok (.iaload, 1)) ∧ (decode k_Md_gavers 42 = .ok (.iload_n 2, 1))))) ∧ ((((decode k_Md_gavers 43 = .ok (.if_icmp .ne 7, 3)) ∧ (decode k_Md_gavers 46 = .ok (.iconst 1, 1))) ∧ ((decode k_Md_gavers 47 = .ok (.goto 4, 3)) ∧ (decode k_Md_gavers 50 = .ok (.iconst 0, 1)))) ∧ (((decode k_Md_gavers 51 = .ok (.iadd, 1)) ∧ (decode k_Md_gavers 52 = .ok (.istore 5, 2))) ∧ ((decode k_Md_gavers 54 = .ok (.iinc 6 1, 3)) ∧ (decode k_Md_gavers 57 = .ok (.goto (-51), 3))))) := by decide +kernel
theorem D_Md_gavers_2 : (decode k_Md_gavers 60 = .ok (.iload 5, 2)) ∧ (decode k_Md_gavers 62 = .ok (.ireturn, 1)) := by decide +kernel
theorem D_Md_givers_0 : (((decode k_Md_givers 0 = .ok (.aload_n 0, 1)) ∧ (decode k_Md_givers 1 = .ok (.getfield 123, 3))) ∧ ((decode k_Md_givers 4 = .ok (.aload_n 0, 1)) ∧ ((decode k_Md_givers 5 = .ok (.iload_n 1, 1)) ∧ (decode k_Md_givers 6 = .ok (.iconst (-1), 1))))) ∧ (((decode k_Md_givers 7 = .ok (.iconst (-1), 1)) ∧ (decode k_Md_givers 8 = .ok (.iconst (-1), 1))) ∧ ((decode k_Md_givers 9 = .ok (.invokevirtual 217, 3)) ∧ ((decode k_Md_givers 12 = .ok (.isub, 1)) ∧ (decode k_Md_givers 13 = .ok (.ireturn, 1))))) := by decide +kernel
theorem D_Md_likedWrong_0 : ((((decode k_Md_likedWrong 0 = .ok (.iconst (-1), 1)) ∧ (decode k_Md_likedWrong 1 = .ok (.istore_n 2, 1))) ∧ ((decode k_Md_likedWrong 2 = .ok (.iconst 3, 1)) ∧ (decode k_Md_likedWrong 3 = .ok (.istore_n 3, 1)))) ∧ (((decode k_Md_likedWrong 4 = .ok (.iload_n 3, 1)) ∧ (decode k_Md_likedWrong 5 = .ok (.ifCond .lt 44, 3))) ∧ ((decode k_Md_likedWrong 8 = .ok (.iload_n 3, 1)) ∧ (decode k_Md_likedWrong 9 = .ok (.aload_n 0, 1))))) ∧ ((((decode k_Md_likedWrong 10 = .ok (.getfield 15, 3)) ∧ (decode k_Md_likedWrong 13 = .ok (.iload_n 1, 1))) ∧ ((decode k_Md_likedWrong 14 = .ok (.iaload, 1)) ∧ (decode k_Md_likedWrong 15 = .ok (.if_icmp .eq 28, 3)))) ∧ (((decode k_Md_likedWrong 18 = .ok (.iload_n 2, 1)) ∧ (decode k_Md_likedWrong 19 = .ok (.ifCond .lt 22, 3))) ∧ ((decode k_Md_likedWrong 22 = .ok (.aload_n 0, 1)) ∧ (decode k_Md_likedWrong 23 = .ok (.iload_n 1, 1))))) := by decide +kernel
theorem D_Md_likedWrong_1 : ((((decode k_Md_likedWrong 24 = .ok (.iload_n 3, 1)) ∧ (decode k_Md_likedWrong 25 = .ok (.iconst (-1), 1))) ∧ ((decode k_Md_likedWrong 26 = .ok (.iconst (-1), 1)) ∧ (decode k_Md_likedWrong 27 = .ok (.invokevirtual 217, 3)))) ∧ (((decode k_Md_likedWrong 30 = .ok (.aload_n 0, 1)) ∧ (decode k_Md_likedWrong 31 = .ok (.iload_n 1, 1))) ∧ ((decode k_Md_likedWrong 32 = .ok (.iload_n 2, 1)) ∧ (decode k_Md_likedWrong 33 = .ok (.iconst (-1), 1))))) ∧ ((((decode k_Md_likedWrong 34 = .ok (.iconst (-1), 1)) ∧ (decode k_Md_likedWrong 35 = .ok (.invokevirtual 217, 3))) ∧ ((decode k_Md_likedWrong 38 = .ok (.if_icmp .lt 5, 3)) ∧ (decode k_Md_likedWrong 41 = .ok (.iload_n 3, 1)))) ∧ (((decode k_Md_likedWrong 42 = .ok (.istore_n 2, 1)) ∧ (decode k_Md_likedWrong 43 = .ok (.iinc 3 (-1), 3))) ∧ ((decode k_Md_likedWrong 46 = .ok (.goto (-42), 3)) ∧ (decode k_Md_likedWrong 49 = .ok (.iload_n 2, 1))))) := by decide +kernel
theorem D_Md_likedWrong_2 : decode k_Md_likedWrong 50 = .ok (.ireturn, 1) := by decide +kernel
theorem D_Md_itemOf_0 : ((((decode k_Md_itemOf 0 = .ok (.aload_n 0, 1)) ∧ (decode k_Md_itemOf 1 = .ok (.iload_n 1, 1))) ∧ ((decode k_Md_itemOf 2 = .ok (.invokevirtual 160, 3)) ∧ (decode k_Md_itemOf 5 = .ok (.ifCond .ne 5, 3)))) ∧ (((decode k_Md_itemOf 8 = .ok (.iconst (-1), 1)) ∧ (decode k_Md_itemOf 9 = .ok (.ireturn, 1))) ∧ ((decode k_Md_itemOf 10 = .ok (.iload_n 2, 1)) ∧ (decode k_Md_itemOf 11 = .ok (.tableswitch 79 0 4 #[33, 40, 47, 53, 73], 33))))) ∧ ((((decode k_Md_itemOf 44 = .ok (.aload_n 0, 1)) ∧ (decode k_Md_itemOf 45 = .ok (.getfield 15, 3))) ∧ ((decode k_Md_itemOf 48 = .ok (.iload_n 1, 1)) ∧ (decode k_Md_itemOf 49 = .ok (.iaload, 1)))) ∧ (((decode k_Md_itemOf 50 = .ok (.ireturn, 1)) ∧ (decode k_Md_itemOf 51 = .ok (.aload_n 0, 1))) ∧ ((decode k_Md_itemOf 52 = .ok (.getfield 19, 3)) ∧ (decode k_Md_itemOf 55 = .ok (.iload_n 1, 1))))) := by decide +kernel
theorem D_Md_itemOf_1 : ((((decode k_Md_itemOf 56 = .ok (.iaload, 1)) ∧ (decode k_Md_itemOf 57 = .ok (.ireturn, 1))) ∧ ((decode k_Md_itemOf 58 = .ok (.aload_n 0, 1)) ∧ (decode k_Md_itemOf 59 = .ok (.iload_n 1, 1)))) ∧ (((decode k_Md_itemOf 60 = .ok (.invokevirtual 221, 3)) ∧ (decode k_Md_itemOf 63 = .ok (.ireturn, 1))) ∧ ((decode k_Md_itemOf 64 = .ok (.aload_n 0, 1)) ∧ (decode k_Md_itemOf 65 = .ok (.iload_n 1, 1))))) ∧ ((((decode k_Md_itemOf 66 = .ok (.invokevirtual 221, 3)) ∧ (decode k_Md_itemOf 69 = .ok (.aload_n 0, 1))) ∧ ((decode k_Md_itemOf 70 = .ok (.iload_n 1, 1)) ∧ (decode k_Md_itemOf 71 = .ok (.aload_n 0, 1)))) ∧ (((decode k_Md_itemOf 72 = .ok (.getfield 15, 3)) ∧ (decode k_Md_itemOf 75 = .ok (.iload_n 1, 1))) ∧ ((decode k_Md_itemOf 76 = .ok (.iaload, 1)) ∧ (decode k_Md_itemOf 77 = .ok (.iconst (-1), 1))))) := by decide +kernel
theorem D_Md_itemOf_2 : (((decode k_Md_itemOf 78 = .ok (.iconst (-1), 1)) ∧ (decode k_Md_itemOf 79 = .ok (.invokevirtual 217, 3))) ∧ ((decode k_Md_itemOf 82 = .ok (.isub, 1)) ∧ ((decode k_Md_itemOf 83 = .ok (.ireturn, 1)) ∧ (decode k_Md_itemOf 84 = .ok (.aload_n 0, 1))))) ∧ (((decode k_Md_itemOf 85 = .ok (.iload_n 1, 1)) ∧ (decode k_Md_itemOf 86 = .ok (.invokevirtual 224, 3))) ∧ ((decode k_Md_itemOf 89 = .ok (.ireturn, 1)) ∧ ((decode k_Md_itemOf 90 = .ok (.iconst (-1), 1)) ∧ (decode k_Md_itemOf 91 = .ok (.ireturn, 1))))) := by decide +kernel
theorem D_Md_taken_0 : ((((decode k_Md_taken 0 = .ok (.aload_n 0, 1)) ∧ (decode k_Md_taken 1 = .ok (.iload_n 1, 1))) ∧ ((decode k_Md_taken 2 = .ok (.invokevirtual 160, 3)) ∧ (decode k_Md_taken 5 = .ok (.ifCond .ne 5, 3)))) ∧ (((decode k_Md_taken 8 = .ok (.iconst (-1), 1)) ∧ (decode k_Md_taken 9 = .ok (.ireturn, 1))) ∧ ((decode k_Md_taken 10 = .ok (.aload_n 0, 1)) ∧ (decode k_Md_taken 11 = .ok (.getfield 19, 3))))) ∧ ((((decode k_Md_taken 14 = .ok (.iload_n 1, 1)) ∧ (decode k_Md_taken 15 = .ok (.iaload, 1))) ∧ ((decode k_Md_taken 16 = .ok (.istore_n 3, 1)) ∧ (decode k_Md_taken 17 = .ok (.iload_n 2, 1)))) ∧ (((decode k_Md_taken 18 = .ok (.tableswitch 84 0 4 #[34, 36, 48, 60, 72], 34)) ∧ (decode k_Md_taken 52 = .ok (.iload_n 3, 1))) ∧ ((decode k_Md_taken 53 = .ok (.ireturn, 1)) ∧ (decode k_Md_taken 54 = .ok (.iload_n 3, 1))))) := by decide +kernel
theorem D_Md_taken_1 : ((((decode k_Md_taken 55 = .ok (.iconst 2, 1)) ∧ (decode k_Md_taken 56 = .ok (.if_icmp .ge 7, 3))) ∧ ((decode k_Md_taken 59 = .ok (.iload_n 3, 1)) ∧ (decode k_Md_taken 60 = .ok (.goto 5, 3)))) ∧ (((decode k_Md_taken 63 = .ok (.bipush (-12), 2)) ∧ (decode k_Md_taken 65 = .ok (.ireturn, 1))) ∧ ((decode k_Md_taken 66 = .ok (.iload_n 3, 1)) ∧ (decode k_Md_taken 67 = .ok (.iconst 1, 1))))) ∧ ((((decode k_Md_taken 68 = .ok (.if_icmp .ne 7, 3)) ∧ (decode k_Md_taken 71 = .ok (.iload_n 3, 1))) ∧ ((decode k_Md_taken 72 = .ok (.goto 5, 3)) ∧ (decode k_Md_taken 75 = .ok (.bipush (-12), 2)))) ∧ (((decode k_Md_taken 77 = .ok (.ireturn, 1)) ∧ (decode k_Md_taken 78 = .ok (.iload_n 3, 1))) ∧ ((decode k_Md_taken 79 = .ok (.iconst 1, 1)) ∧ (decode k_Md_taken 80 = .ok (.if_icmp .le 7, 3))))) := by decide +kernel
theorem D_Md_taken_2 : (((decode k_Md_taken 83 = .ok (.iload_n 3, 1)) ∧ ((decode k_Md_taken 84 = .ok (.goto 5, 3)) ∧ (decode k_Md_taken 87 = .ok (.bipush (-12), 2)))) ∧ ((decode k_Md_taken 89 = .ok (.ireturn, 1)) ∧ ((decode k_Md_taken 90 = .ok (.iload_n 3, 1)) ∧ (decode k_Md_taken 91 = .ok (.iconst 3, 1))))) ∧ (((decode k_Md_taken 92 = .ok (.if_icmp .ne 7, 3)) ∧ ((decode k_Md_taken 95 = .ok (.iload_n 3, 1)) ∧ (decode k_Md_taken 96 = .ok (.goto 5, 3)))) ∧ (((decode k_Md_taken 99 = .ok (.bipush (-12), 2)) ∧ (decode k_Md_taken 101 = .ok (.ireturn, 1))) ∧ ((decode k_Md_taken 102 = .ok (.bipush (-2), 2)) ∧ (decode k_Md_taken 104 = .ok (.ireturn, 1))))) := by decide +kernel
theorem D_Md_shareOf_0 : ((((decode k_Md_shareOf 0 = .ok (.aload_n 0, 1)) ∧ (decode k_Md_shareOf 1 = .ok (.getfield 19, 3))) ∧ ((decode k_Md_shareOf 4 = .ok (.iload_n 1, 1)) ∧ (decode k_Md_shareOf 5 = .ok (.iaload, 1)))) ∧ (((decode k_Md_shareOf 6 = .ok (.tableswitch 50 0 2 #[26, 28, 39], 26)) ∧ (decode k_Md_shareOf 32 = .ok (.iconst 1, 1))) ∧ ((decode k_Md_shareOf 33 = .ok (.ireturn, 1)) ∧ (decode k_Md_shareOf 34 = .ok (.aload_n 0, 1))))) ∧ ((((decode k_Md_shareOf 35 = .ok (.getfield 22, 3)) ∧ (decode k_Md_shareOf 38 = .ok (.iconst 4, 1))) ∧ ((decode k_Md_shareOf 39 = .ok (.iload_n 1, 1)) ∧ (decode k_Md_shareOf 40 = .ok (.imul, 1)))) ∧ (((decode k_Md_shareOf 41 = .ok (.iload_n 2, 1)) ∧ (decode k_Md_shareOf 42 = .ok (.iadd, 1))) ∧ ((decode k_Md_shareOf 43 = .ok (.iaload, 1)) ∧ (decode k_Md_shareOf 44 = .ok (.ireturn, 1))))) := by decide +kernel
theorem D_Md_shareOf_1 : ((((decode k_Md_shareOf 45 = .ok (.iconst 1, 1)) ∧ (decode k_Md_shareOf 46 = .ok (.aload_n 0, 1))) ∧ ((decode k_Md_shareOf 47 = .ok (.iload_n 1, 1)) ∧ (decode k_Md_shareOf 48 = .ok (.iload_n 2, 1)))) ∧ (((decode k_Md_shareOf 49 = .ok (.iconst (-1), 1)) ∧ (decode k_Md_shareOf 50 = .ok (.iconst (-1), 1))) ∧ ((decode k_Md_shareOf 51 = .ok (.invokevirtual 217, 3)) ∧ (decode k_Md_shareOf 54 = .ok (.iadd, 1))))) ∧ ((((decode k_Md_shareOf 55 = .ok (.ireturn, 1)) ∧ (decode k_Md_shareOf 56 = .ok (.iconst 1, 1))) ∧ ((decode k_Md_shareOf 57 = .ok (.aload_n 0, 1)) ∧ (decode k_Md_shareOf 58 = .ok (.iload_n 1, 1)))) ∧ (((decode k_Md_shareOf 59 = .ok (.iload_n 2, 1)) ∧ (decode k_Md_shareOf 60 = .ok (.iload_n 3, 1))) ∧ ((decode k_Md_shareOf 61 = .ok (.iload 4, 2)) ∧ (decode k_Md_shareOf 63 = .ok (.invokevirtual 217, 3))))) := by decide +kernel
theorem D_Md_shareOf_2 : (decode k_Md_shareOf 66 = .ok (.iadd, 1)) ∧ (decode k_Md_shareOf 67 = .ok (.ireturn, 1)) := by decide +kernel
theorem D_Md_sumBut_0 : ((((decode k_Md_sumBut 0 = .ok (.iconst 0, 1)) ∧ (decode k_Md_sumBut 1 = .ok (.istore 5, 2))) ∧ ((decode k_Md_sumBut 3 = .ok (.iconst 0, 1)) ∧ (decode k_Md_sumBut 4 = .ok (.istore 6, 2)))) ∧ (((decode k_Md_sumBut 6 = .ok (.iload 6, 2)) ∧ (decode k_Md_sumBut 8 = .ok (.iconst 4, 1))) ∧ ((decode k_Md_sumBut 9 = .ok (.if_icmp .ge 34, 3)) ∧ (decode k_Md_sumBut 12 = .ok (.iload 5, 2))))) ∧ ((((decode k_Md_sumBut 14 = .ok (.iload 6, 2)) ∧ (decode k_Md_sumBut 16 = .ok (.iload_n 2, 1))) ∧ ((decode k_Md_sumBut 17 = .ok (.if_icmp .ne 7, 3)) ∧ (decode k_Md_sumBut 20 = .ok (.iconst 0, 1)))) ∧ (((decode k_Md_sumBut 21 = .ok (.goto 13, 3)) ∧ (decode k_Md_sumBut 24 = .ok (.aload_n 0, 1))) ∧ ((decode k_Md_sumBut 25 = .ok (.iload_n 1, 1)) ∧ (decode k_Md_sumBut 26 = .ok (.iload 6, 2))))) := by decide +kernel
theorem D_Md_sumBut_1 : (((decode k_Md_sumBut 28 = .ok (.iload_n 3, 1)) ∧ (decode k_Md_sumBut 29 = .ok (.iload 4, 2))) ∧ ((decode k_Md_sumBut 31 = .ok (.invokevirtual 227, 3)) ∧ (decode k_Md_sumBut 34 = .ok (.iadd, 1)))) ∧ (((decode k_Md_sumBut 35 = .ok (.istore 5, 2)) ∧ (decode k_Md_sumBut 37 = .ok (.iinc 6 1, 3))) ∧ ((decode k_Md_sumBut 40 = .ok (.goto (-34), 3)) ∧ ((decode k_Md_sumBut 43 = .ok (.iload 5, 2)) ∧ (decode k_Md_sumBut 45 = .ok (.ireturn, 1))))) := by decide +kernel
theorem D_Md_share_0 : ((((decode k_Md_share 0 = .ok (.aload_n 0, 1)) ∧ (decode k_Md_share 1 = .ok (.iload_n 1, 1))) ∧ ((decode k_Md_share 2 = .ok (.invokevirtual 160, 3)) ∧ (decode k_Md_share 5 = .ok (.ifCond .eq 13, 3)))) ∧ (((decode k_Md_share 8 = .ok (.aload_n 0, 1)) ∧ (decode k_Md_share 9 = .ok (.iload_n 3, 1))) ∧ ((decode k_Md_share 10 = .ok (.iload 4, 2)) ∧ (decode k_Md_share 12 = .ok (.invokevirtual 230, 3))))) ∧ ((((decode k_Md_share 15 = .ok (.ifCond .ne 5, 3)) ∧ (decode k_Md_share 18 = .ok (.iconst (-1), 1))) ∧ ((decode k_Md_share 19 = .ok (.ireturn, 1)) ∧ (decode k_Md_share 20 = .ok (.iload_n 2, 1)))) ∧ (((decode k_Md_share 21 = .ok (.i2l, 1)) ∧ (decode k_Md_share 22 = .ok (.ldc2_w 165, 3))) ∧ ((decode k_Md_share 25 = .ok (.ldc2_w 163, 3)) ∧ (decode k_Md_share 28 = .ok (.invokestatic 119, 3))))) := by decide +kernel
theorem D_Md_share_1 : ((((decode k_Md_share 31 = .ok (.ifCond .ne 6, 3)) ∧ (decode k_Md_share 34 = .ok (.bipush (-2), 2))) ∧ ((decode k_Md_share 36 = .ok (.ireturn, 1)) ∧ (decode k_Md_share 37 = .ok (.iload_n 2, 1)))) ∧ (((decode k_Md_share 38 = .ok (.ifCond .ge 15, 3)) ∧ (decode k_Md_share 41 = .ok (.aload_n 0, 1))) ∧ ((decode k_Md_share 42 = .ok (.iload_n 1, 1)) ∧ (decode k_Md_share 43 = .ok (.iconst (-1), 1))))) ∧ ((((decode k_Md_share 44 = .ok (.iload_n 3, 1)) ∧ (decode k_Md_share 45 = .ok (.iload 4, 2))) ∧ ((decode k_Md_share 47 = .ok (.invokevirtual 233, 3)) ∧ (decode k_Md_share 50 = .ok (.goto 12, 3)))) ∧ (((decode k_Md_share 53 = .ok (.aload_n 0, 1)) ∧ (decode k_Md_share 54 = .ok (.iload_n 1, 1))) ∧ ((decode k_Md_share 55 = .ok (.iload_n 2, 1)) ∧ (decode k_Md_share 56 = .ok (.iload_n 3, 1))))) := by decide +kernel
theorem D_Md_share_2 : (decode k_Md_share 57 = .ok (.iload 4, 2)) ∧ ((decode k_Md_share 59 = .ok (.invokevirtual 227, 3)) ∧ (decode k_Md_share 62 = .ok (.ireturn, 1))) := by decide +kernel
theorem D_Md_worth_0 : ((((decode k_Md_worth 0 = .ok (.iload_n 2, 1)) ∧ (decode k_Md_worth 1 = .ok (.aload_n 0, 1))) ∧ ((decode k_Md_worth 2 = .ok (.getfield 15, 3)) ∧ (decode k_Md_worth 5 = .ok (.iload_n 1, 1)))) ∧ (((decode k_Md_worth 6 = .ok (.iaload, 1)) ∧ (decode k_Md_worth 7 = .ok (.if_icmp .ne 12, 3))) ∧ ((decode k_Md_worth 10 = .ok (.aload_n 0, 1)) ∧ (decode k_Md_worth 11 = .ok (.getfield 34, 3))))) ∧ ((((decode k_Md_worth 14 = .ok (.iconst 4, 1)) ∧ (decode k_Md_worth 15 = .ok (.iaload, 1))) ∧ ((decode k_Md_worth 16 = .ok (.goto 9, 3)) ∧ (decode k_Md_worth 19 = .ok (.aload_n 0, 1)))) ∧ (((decode k_Md_worth 20 = .ok (.getfield 34, 3)) ∧ (decode k_Md_worth 23 = .ok (.iconst 5, 1))) ∧ ((decode k_Md_worth 24 = .ok (.iaload, 1)) ∧ (decode k_Md_worth 25 = .ok (.ireturn, 1))))) := by decide +kernel
theorem D_Md_likeness_0 : ((((decode k_Md_likeness 0 = .ok (.iconst 0, 1)) ∧ (decode k_Md_likeness 1 = .ok (.istore 4, 2))) ∧ ((decode k_Md_likeness 3 = .ok (.iconst 0, 1)) ∧ (decode k_Md_likeness 4 = .ok (.istore 5, 2)))) ∧ (((decode k_Md_likeness 6 = .ok (.iload 5, 2)) ∧ (decode k_Md_likeness 8 = .ok (.aload_n 0, 1))) ∧ ((decode k_Md_likeness 9 = .ok (.getfield 9, 3)) ∧ (decode k_Md_likeness 12 = .ok (.if_icmp .ge 68, 3))))) ∧ ((((decode k_Md_likeness 15 = .ok (.aload_n 0, 1)) ∧ (decode k_Md_likeness 16 = .ok (.getfield 25, 3))) ∧ ((decode k_Md_likeness 19 = .ok (.bipush 8, 2)) ∧ (decode k_Md_likeness 21 = .ok (.iload_n 1, 1)))) ∧ (((decode k_Md_likeness 22 = .ok (.imul, 1)) ∧ (decode k_Md_likeness 23 = .ok (.iload 5, 2))) ∧ ((decode k_Md_likeness 25 = .ok (.iadd, 1)) ∧ (decode k_Md_likeness 26 = .ok (.iaload, 1))))) := by decide +kernel
theorem D_Md_likeness_1 : ((((decode k_Md_likeness 27 = .ok (.istore 6, 2)) ∧ (decode k_Md_likeness 29 = .ok (.iload 4, 2))) ∧ ((decode k_Md_likeness 31 = .ok (.iload 5, 2)) ∧ (decode k_Md_likeness 33 = .ok (.iload_n 3, 1)))) ∧ (((decode k_Md_likeness 34 = .ok (.if_icmp .eq 36, 3)) ∧ (decode k_Md_likeness 37 = .ok (.iload 6, 2))) ∧ ((decode k_Md_likeness 39 = .ok (.ifCond .lt 31, 3)) ∧ (decode k_Md_likeness 42 = .ok (.iload 6, 2))))) ∧ ((((decode k_Md_likeness 44 = .ok (.aload_n 0, 1)) ∧ (decode k_Md_likeness 45 = .ok (.getfield 25, 3))) ∧ ((decode k_Md_likeness 48 = .ok (.bipush 8, 2)) ∧ (decode k_Md_likeness 50 = .ok (.iload_n 2, 1)))) ∧ (((decode k_Md_likeness 51 = .ok (.imul, 1)) ∧ (decode k_Md_likeness 52 = .ok (.iload 5, 2))) ∧ ((decode k_Md_likeness 54 = .ok (.iadd, 1)) ∧ (decode k_Md_likeness 55 = .ok (.iaload, 1))))) := by decide +kernel
theorem D_Md_likeness_2 : (((decode k_Md_likeness 56 = .ok (.if_icmp .ne 14, 3)) ∧ ((decode k_Md_likeness 59 = .ok (.aload_n 0, 1)) ∧ (decode k_Md_likeness 60 = .ok (.iload 5, 2)))) ∧ ((decode k_Md_likeness 62 = .ok (.iload 6, 2)) ∧ ((decode k_Md_likeness 64 = .ok (.invokevirtual 236, 3)) ∧ (decode k_Md_likeness 67 = .ok (.goto 4, 3))))) ∧ (((decode k_Md_likeness 70 = .ok (.iconst 0, 1)) ∧ ((decode k_Md_likeness 71 = .ok (.iadd, 1)) ∧ (decode k_Md_likeness 72 = .ok (.istore 4, 2)))) ∧ (((decode k_Md_likeness 74 = .ok (.iinc 5 1, 3)) ∧ (decode k_Md_likeness 77 = .ok (.goto (-71), 3))) ∧ ((decode k_Md_likeness 80 = .ok (.iload 4, 2)) ∧ (decode k_Md_likeness 82 = .ok (.ireturn, 1))))) := by decide +kernel
theorem D_Md_alike_0 : (((decode k_Md_alike 0 = .ok (.aload_n 0, 1)) ∧ ((decode k_Md_alike 1 = .ok (.iload_n 1, 1)) ∧ (decode k_Md_alike 2 = .ok (.iload_n 2, 1)))) ∧ ((decode k_Md_alike 3 = .ok (.invokevirtual 230, 3)) ∧ ((decode k_Md_alike 6 = .ok (.ifCond .eq 13, 3)) ∧ (decode k_Md_alike 9 = .ok (.aload_n 0, 1))))) ∧ (((decode k_Md_alike 10 = .ok (.iload_n 1, 1)) ∧ ((decode k_Md_alike 11 = .ok (.iload_n 2, 1)) ∧ (decode k_Md_alike 12 = .ok (.iconst (-1), 1)))) ∧ (((decode k_Md_alike 13 = .ok (.invokevirtual 240, 3)) ∧ (decode k_Md_alike 16 = .ok (.goto 4, 3))) ∧ ((decode k_Md_alike 19 = .ok (.iconst (-1), 1)) ∧ (decode k_Md_alike 20 = .ok (.ireturn, 1))))) := by decide +kernel
theorem D_Md_adds_0 : ((((decode k_Md_adds 0 = .ok (.iload_n 3, 1)) ∧ (decode k_Md_adds 1 = .ok (.istore 4, 2))) ∧ ((decode k_Md_adds 3 = .ok (.iload 4, 2)) ∧ (decode k_Md_adds 5 = .ok (.bipush 33, 2)))) ∧ (((decode k_Md_adds 7 = .ok (.if_icmp .ge 30, 3)) ∧ (decode k_Md_adds 10 = .ok (.aload_n 0, 1))) ∧ ((decode k_Md_adds 11 = .ok (.getfield 61, 3)) ∧ (decode k_Md_adds 14 = .ok (.iload 4, 2))))) ∧ ((((decode k_Md_adds 16 = .ok (.dup2, 1)) ∧ (decode k_Md_adds 17 = .ok (.laload, 1))) ∧ ((decode k_Md_adds 18 = .ok (.lload_n 1, 1)) ∧ (decode k_Md_adds 19 = .ok (.aload_n 0, 1)))) ∧ (((decode k_Md_adds 20 = .ok (.getfield 65, 3)) ∧ (decode k_Md_adds 23 = .ok (.iload 4, 2))) ∧ ((decode k_Md_adds 25 = .ok (.iload_n 3, 1)) ∧ (decode k_Md_adds 26 = .ok (.isub, 1))))) := by decide +kernel
theorem D_Md_adds_1 : ((decode k_Md_adds 27 = .ok (.laload, 1)) ∧ ((decode k_Md_adds 28 = .ok (.lmul, 1)) ∧ (decode k_Md_adds 29 = .ok (.ladd, 1)))) ∧ (((decode k_Md_adds 30 = .ok (.lastore, 1)) ∧ (decode k_Md_adds 31 = .ok (.iinc 4 1, 3))) ∧ ((decode k_Md_adds 34 = .ok (.goto (-31), 3)) ∧ (decode k_Md_adds 37 = .ok (.return_, 1)))) := by decide +kernel
theorem D_Md_comes_0 : ((((decode k_Md_comes 0 = .ok (.aload_n 0, 1)) ∧ (decode k_Md_comes 1 = .ok (.getfield 25, 3))) ∧ ((decode k_Md_comes 4 = .ok (.bipush 8, 2)) ∧ (decode k_Md_comes 6 = .ok (.iload_n 2, 1)))) ∧ (((decode k_Md_comes 7 = .ok (.imul, 1)) ∧ (decode k_Md_comes 8 = .ok (.iload_n 1, 1))) ∧ ((decode k_Md_comes 9 = .ok (.iadd, 1)) ∧ (decode k_Md_comes 10 = .ok (.iaload, 1))))) ∧ ((((decode k_Md_comes 11 = .ok (.istore 5, 2)) ∧ (decode k_Md_comes 13 = .ok (.aload_n 0, 1))) ∧ ((decode k_Md_comes 14 = .ok (.getfield 25, 3)) ∧ (decode k_Md_comes 17 = .ok (.bipush 8, 2)))) ∧ (((decode k_Md_comes 19 = .ok (.iload_n 3, 1)) ∧ (decode k_Md_comes 20 = .ok (.imul, 1))) ∧ ((decode k_Md_comes 21 = .ok (.iload_n 1, 1)) ∧ (decode k_Md_comes 22 = .ok (.iadd, 1))))) := by decide +kernel
theorem D_Md_comes_1 : ((((decode k_Md_comes 23 = .ok (.iaload, 1)) ∧ (decode k_Md_comes 24 = .ok (.istore 6, 2))) ∧ ((decode k_Md_comes 26 = .ok (.aload_n 0, 1)) ∧ (decode k_Md_comes 27 = .ok (.getfield 15, 3)))) ∧ (((decode k_Md_comes 30 = .ok (.iload_n 1, 1)) ∧ (decode k_Md_comes 31 = .ok (.iaload, 1))) ∧ ((decode k_Md_comes 32 = .ok (.istore 7, 2)) ∧ (decode k_Md_comes 34 = .ok (.iload 5, 2))))) ∧ ((((decode k_Md_comes 36 = .ok (.ifCond .lt 8, 3)) ∧ (decode k_Md_comes 39 = .ok (.iload 6, 2))) ∧ ((decode k_Md_comes 41 = .ok (.ifCond .ge 4, 3)) ∧ (decode k_Md_comes 44 = .ok (.return_, 1)))) ∧ (((decode k_Md_comes 45 = .ok (.iconst 0, 1)) ∧ (decode k_Md_comes 46 = .ok (.istore 8, 2))) ∧ ((decode k_Md_comes 48 = .ok (.iload 8, 2)) ∧ (decode k_Md_comes 50 = .ok (.bipush 33, 2))))) := by decide +kernel
theorem D_Md_comes_2 : ((((decode k_Md_comes 52 = .ok (.if_icmp .ge 31, 3)) ∧ (decode k_Md_comes 55 = .ok (.aload_n 0, 1))) ∧ ((decode k_Md_comes 56 = .ok (.getfield 65, 3)) ∧ (decode k_Md_comes 59 = .ok (.iload 8, 2)))) ∧ (((decode k_Md_comes 61 = .ok (.aload_n 0, 1)) ∧ (decode k_Md_comes 62 = .ok (.getfield 61, 3))) ∧ ((decode k_Md_comes 65 = .ok (.iload 8, 2)) ∧ (decode k_Md_comes 67 = .ok (.laload, 1))))) ∧ ((((decode k_Md_comes 68 = .ok (.lastore, 1)) ∧ (decode k_Md_comes 69 = .ok (.aload_n 0, 1))) ∧ ((decode k_Md_comes 70 = .ok (.getfield 61, 3)) ∧ (decode k_Md_comes 73 = .ok (.iload 8, 2)))) ∧ (((decode k_Md_comes 75 = .ok (.lconst 0, 1)) ∧ (decode k_Md_comes 76 = .ok (.lastore, 1))) ∧ ((decode k_Md_comes 77 = .ok (.iinc 8 1, 3)) ∧ (decode k_Md_comes 80 = .ok (.goto (-32), 3))))) := by decide +kernel
theorem D_Md_comes_3 : ((((decode k_Md_comes 83 = .ok (.iload 4, 2)) ∧ (decode k_Md_comes 85 = .ok (.iconst 1, 1))) ∧ ((decode k_Md_comes 86 = .ok (.if_icmp .eq 9, 3)) ∧ (decode k_Md_comes 89 = .ok (.iload 4, 2)))) ∧ (((decode k_Md_comes 91 = .ok (.iconst 3, 1)) ∧ (decode k_Md_comes 92 = .ok (.if_icmp .ne 7, 3))) ∧ ((decode k_Md_comes 95 = .ok (.iconst 1, 1)) ∧ (decode k_Md_comes 96 = .ok (.goto 4, 3))))) ∧ ((((decode k_Md_comes 99 = .ok (.iconst 0, 1)) ∧ (decode k_Md_comes 100 = .ok (.istore 8, 2))) ∧ ((decode k_Md_comes 102 = .ok (.iload 8, 2)) ∧ (decode k_Md_comes 104 = .ok (.ifCond .eq 40, 3)))) ∧ (((decode k_Md_comes 107 = .ok (.iload 5, 2)) ∧ (decode k_Md_comes 109 = .ok (.iload 7, 2))) ∧ ((decode k_Md_comes 111 = .ok (.if_icmp .eq 10, 3)) ∧ (decode k_Md_comes 114 = .ok (.iload 6, 2))))) := by decide +kernel
theorem D_Md_comes_4 : ((((decode k_Md_comes 116 = .ok (.iload 7, 2)) ∧ (decode k_Md_comes 118 = .ok (.if_icmp .ne 26, 3))) ∧ ((decode k_Md_comes 121 = .ok (.aload_n 0, 1)) ∧ (decode k_Md_comes 122 = .ok (.lconst 1, 1)))) ∧ (((decode k_Md_comes 123 = .ok (.iload 5, 2)) ∧ (decode k_Md_comes 125 = .ok (.iload 6, 2))) ∧ ((decode k_Md_comes 127 = .ok (.if_icmp .ne 12, 3)) ∧ (decode k_Md_comes 130 = .ok (.aload_n 0, 1))))) ∧ ((((decode k_Md_comes 131 = .ok (.getfield 34, 3)) ∧ (decode k_Md_comes 134 = .ok (.iconst 4, 1))) ∧ ((decode k_Md_comes 135 = .ok (.iaload, 1)) ∧ (decode k_Md_comes 136 = .ok (.goto 4, 3)))) ∧ (((decode k_Md_comes 139 = .ok (.iconst 0, 1)) ∧ (decode k_Md_comes 140 = .ok (.invokevirtual 244, 3))) ∧ ((decode k_Md_comes 143 = .ok (.return_, 1)) ∧ (decode k_Md_comes 144 = .ok (.aload_n 0, 1))))) := by decide +kernel
theorem D_Md_comes_5 : ((((decode k_Md_comes 145 = .ok (.iload_n 1, 1)) ∧ (decode k_Md_comes 146 = .ok (.iload 8, 2))) ∧ ((decode k_Md_comes 148 = .ok (.ifCond .eq 8, 3)) ∧ (decode k_Md_comes 151 = .ok (.iload 7, 2)))) ∧ (((decode k_Md_comes 153 = .ok (.goto 4, 3)) ∧ (decode k_Md_comes 156 = .ok (.iconst (-1), 1))) ∧ ((decode k_Md_comes 157 = .ok (.iload_n 2, 1)) ∧ (decode k_Md_comes 158 = .ok (.iload_n 3, 1))))) ∧ ((((decode k_Md_comes 159 = .ok (.invokevirtual 233, 3)) ∧ (decode k_Md_comes 162 = .ok (.i2l, 1))) ∧ ((decode k_Md_comes 163 = .ok (.lstore 9, 2)) ∧ (decode k_Md_comes 165 = .ok (.iload 4, 2)))) ∧ (((decode k_Md_comes 167 = .ok (.iconst 2, 1)) ∧ (decode k_Md_comes 168 = .ok (.if_icmp .ge 11, 3))) ∧ ((decode k_Md_comes 171 = .ok (.lload 9, 2)) ∧ (decode k_Md_comes 173 = .ok (.lload 9, 2))))) := by decide +kernel
theorem D_Md_comes_6 : ((((decode k_Md_comes 175 = .ok (.lmul, 1)) ∧ (decode k_Md_comes 176 = .ok (.goto 5, 3))) ∧ ((decode k_Md_comes 179 = .ok (.lload 9, 2)) ∧ (decode k_Md_comes 181 = .ok (.lstore 11, 2)))) ∧ (((decode k_Md_comes 183 = .ok (.lload 11, 2)) ∧ (decode k_Md_comes 185 = .ok (.lstore 13, 2))) ∧ ((decode k_Md_comes 187 = .ok (.iconst 0, 1)) ∧ (decode k_Md_comes 188 = .ok (.istore 15, 2))))) ∧ ((((decode k_Md_comes 190 = .ok (.iload 15, 2)) ∧ (decode k_Md_comes 192 = .ok (.iconst 4, 1))) ∧ ((decode k_Md_comes 193 = .ok (.if_icmp .ge 100, 3)) ∧ (decode k_Md_comes 196 = .ok (.iload 8, 2)))) ∧ (((decode k_Md_comes 198 = .ok (.ifCond .eq 10, 3)) ∧ (decode k_Md_comes 201 = .ok (.iload 15, 2))) ∧ ((decode k_Md_comes 203 = .ok (.iload 7, 2)) ∧ (decode k_Md_comes 205 = .ok (.if_icmp .eq 20, 3))))) := by decide +kernel
theorem D_Md_comes_7 : ((((decode k_Md_comes 208 = .ok (.iload 4, 2)) ∧ (decode k_Md_comes 210 = .ok (.iconst 2, 1))) ∧ ((decode k_Md_comes 211 = .ok (.if_icmp .lt 10, 3)) ∧ (decode k_Md_comes 214 = .ok (.iload 15, 2)))) ∧ (((decode k_Md_comes 216 = .ok (.iload 5, 2)) ∧ (decode k_Md_comes 218 = .ok (.if_icmp .ne 7, 3))) ∧ ((decode k_Md_comes 221 = .ok (.iconst 1, 1)) ∧ (decode k_Md_comes 222 = .ok (.goto 4, 3))))) ∧ ((((decode k_Md_comes 225 = .ok (.iconst 0, 1)) ∧ (decode k_Md_comes 226 = .ok (.istore 16, 2))) ∧ ((decode k_Md_comes 228 = .ok (.iload 16, 2)) ∧ (decode k_Md_comes 230 = .ok (.ifCond .eq 16, 3)))) ∧ (((decode k_Md_comes 233 = .ok (.aload_n 0, 1)) ∧ (decode k_Md_comes 234 = .ok (.iload_n 1, 1))) ∧ ((decode k_Md_comes 235 = .ok (.iload 15, 2)) ∧ (decode k_Md_comes 237 = .ok (.iload_n 2, 1))))) := by decide +kernel
theorem D_Md_comes_8 : ((((decode k_Md_comes 238 = .ok (.iload_n 3, 1)) ∧ (decode k_Md_comes 239 = .ok (.invokevirtual 227, 3))) ∧ ((decode k_Md_comes 242 = .ok (.i2l, 1)) ∧ (decode k_Md_comes 243 = .ok (.goto 4, 3)))) ∧ (((decode k_Md_comes 246 = .ok (.lconst 0, 1)) ∧ (decode k_Md_comes 247 = .ok (.lstore 17, 2))) ∧ ((decode k_Md_comes 249 = .ok (.iload 4, 2)) ∧ (decode k_Md_comes 251 = .ok (.iconst 2, 1))))) ∧ ((((decode k_Md_comes 252 = .ok (.if_icmp .ge 11, 3)) ∧ (decode k_Md_comes 255 = .ok (.lload 17, 2))) ∧ ((decode k_Md_comes 257 = .ok (.lload 17, 2)) ∧ (decode k_Md_comes 259 = .ok (.lmul, 1)))) ∧ (((decode k_Md_comes 260 = .ok (.goto 5, 3)) ∧ (decode k_Md_comes 263 = .ok (.lload 17, 2))) ∧ ((decode k_Md_comes 265 = .ok (.lstore 19, 2)) ∧ (decode k_Md_comes 267 = .ok (.aload_n 0, 1))))) := by decide +kernel
theorem D_Md_comes_9 : ((((decode k_Md_comes 268 = .ok (.lload 19, 2)) ∧ (decode k_Md_comes 270 = .ok (.aload_n 0, 1))) ∧ ((decode k_Md_comes 271 = .ok (.iload_n 1, 1)) ∧ (decode k_Md_comes 272 = .ok (.iload 15, 2)))) ∧ (((decode k_Md_comes 274 = .ok (.invokevirtual 236, 3)) ∧ (decode k_Md_comes 277 = .ok (.invokevirtual 244, 3))) ∧ ((decode k_Md_comes 280 = .ok (.lload 13, 2)) ∧ (decode k_Md_comes 282 = .ok (.lload 19, 2))))) ∧ ((((decode k_Md_comes 284 = .ok (.lsub, 1)) ∧ (decode k_Md_comes 285 = .ok (.lstore 13, 2))) ∧ ((decode k_Md_comes 287 = .ok (.iinc 15 1, 3)) ∧ (decode k_Md_comes 290 = .ok (.goto (-100), 3)))) ∧ (((decode k_Md_comes 293 = .ok (.aload_n 0, 1)) ∧ (decode k_Md_comes 294 = .ok (.lload 13, 2))) ∧ ((decode k_Md_comes 296 = .ok (.iconst 0, 1)) ∧ (decode k_Md_comes 297 = .ok (.invokevirtual 244, 3))))) := by decide +kernel
theorem D_Md_comes_10 : ((decode k_Md_comes 300 = .ok (.aload_n 0, 1)) ∧ ((decode k_Md_comes 301 = .ok (.dup, 1)) ∧ (decode k_Md_comes 302 = .ok (.getfield 248, 3)))) ∧ (((decode k_Md_comes 305 = .ok (.lload 11, 2)) ∧ (decode k_Md_comes 307 = .ok (.lmul, 1))) ∧ ((decode k_Md_comes 308 = .ok (.putfield 248, 3)) ∧ (decode k_Md_comes 311 = .ok (.return_, 1)))) := by decide +kernel
theorem D_Md_spreads_0 : ((((decode k_Md_spreads 0 = .ok (.iconst 0, 1)) ∧ (decode k_Md_spreads 1 = .ok (.istore 5, 2))) ∧ ((decode k_Md_spreads 3 = .ok (.iload 5, 2)) ∧ (decode k_Md_spreads 5 = .ok (.bipush 33, 2)))) ∧ (((decode k_Md_spreads 7 = .ok (.if_icmp .ge 26, 3)) ∧ (decode k_Md_spreads 10 = .ok (.aload_n 0, 1))) ∧ ((decode k_Md_spreads 11 = .ok (.getfield 61, 3)) ∧ (decode k_Md_spreads 14 = .ok (.iload 5, 2))))) ∧ ((((decode k_Md_spreads 16 = .ok (.iload 5, 2)) ∧ (decode k_Md_spreads 18 = .ok (.ifCond .ne 7, 3))) ∧ ((decode k_Md_spreads 21 = .ok (.lconst 1, 1)) ∧ (decode k_Md_spreads 22 = .ok (.goto 4, 3)))) ∧ (((decode k_Md_spreads 25 = .ok (.lconst 0, 1)) ∧ (decode k_Md_spreads 26 = .ok (.lastore, 1))) ∧ ((decode k_Md_spreads 27 = .ok (.iinc 5 1, 3)) ∧ (decode k_Md_spreads 30 = .ok (.goto (-27), 3))))) := by decide +kernel
theorem D_Md_spreads_1 : ((((decode k_Md_spreads 33 = .ok (.aload_n 0, 1)) ∧ (decode k_Md_spreads 34 = .ok (.lconst 1, 1))) ∧ ((decode k_Md_spreads 35 = .ok (.putfield 248, 3)) ∧ (decode k_Md_spreads 38 = .ok (.iconst 0, 1)))) ∧ (((decode k_Md_spreads 39 = .ok (.istore 5, 2)) ∧ (decode k_Md_spreads 41 = .ok (.iload 5, 2))) ∧ ((decode k_Md_spreads 43 = .ok (.aload_n 0, 1)) ∧ (decode k_Md_spreads 44 = .ok (.getfield 9, 3))))) ∧ ((((decode k_Md_spreads 47 = .ok (.if_icmp .ge 25, 3)) ∧ (decode k_Md_spreads 50 = .ok (.iload 5, 2))) ∧ ((decode k_Md_spreads 52 = .ok (.iload 4, 2)) ∧ (decode k_Md_spreads 54 = .ok (.if_icmp .eq 12, 3)))) ∧ (((decode k_Md_spreads 57 = .ok (.aload_n 0, 1)) ∧ (decode k_Md_spreads 58 = .ok (.iload 5, 2))) ∧ ((decode k_Md_spreads 60 = .ok (.iload_n 1, 1)) ∧ (decode k_Md_spreads 61 = .ok (.iload_n 2, 1))))) := by decide +kernel
theorem D_Md_spreads_2 : ((decode k_Md_spreads 62 = .ok (.iload_n 3, 1)) ∧ (decode k_Md_spreads 63 = .ok (.invokevirtual 252, 3))) ∧ ((decode k_Md_spreads 66 = .ok (.iinc 5 1, 3)) ∧ ((decode k_Md_spreads 69 = .ok (.goto (-28), 3)) ∧ (decode k_Md_spreads 72 = .ok (.return_, 1)))) := by decide +kernel
theorem D_Md_asMuch_0 : ((((decode k_Md_asMuch 0 = .ok (.aload_n 0, 1)) ∧ (decode k_Md_asMuch 1 = .ok (.iload_n 1, 1))) ∧ ((decode k_Md_asMuch 2 = .ok (.iload_n 2, 1)) ∧ (decode k_Md_asMuch 3 = .ok (.iload_n 3, 1)))) ∧ (((decode k_Md_asMuch 4 = .ok (.iload 4, 2)) ∧ (decode k_Md_asMuch 6 = .ok (.invokevirtual 256, 3))) ∧ ((decode k_Md_asMuch 9 = .ok (.lconst 0, 1)) ∧ (decode k_Md_asMuch 10 = .ok (.lstore 5, 2))))) ∧ ((((decode k_Md_asMuch 12 = .ok (.aload_n 0, 1)) ∧ (decode k_Md_asMuch 13 = .ok (.iload_n 1, 1))) ∧ ((decode k_Md_asMuch 14 = .ok (.iload_n 2, 1)) ∧ (decode k_Md_asMuch 15 = .ok (.iload 4, 2)))) ∧ (((decode k_Md_asMuch 17 = .ok (.invokevirtual 240, 3)) ∧ (decode k_Md_asMuch 20 = .ok (.istore 7, 2))) ∧ ((decode k_Md_asMuch 22 = .ok (.iload 7, 2)) ∧ (decode k_Md_asMuch 24 = .ok (.bipush 33, 2))))) := by decide +kernel
theorem D_Md_asMuch_1 : (((decode k_Md_asMuch 26 = .ok (.if_icmp .ge 21, 3)) ∧ ((decode k_Md_asMuch 29 = .ok (.lload 5, 2)) ∧ (decode k_Md_asMuch 31 = .ok (.aload_n 0, 1)))) ∧ ((decode k_Md_asMuch 32 = .ok (.getfield 61, 3)) ∧ ((decode k_Md_asMuch 35 = .ok (.iload 7, 2)) ∧ (decode k_Md_asMuch 37 = .ok (.laload, 1))))) ∧ (((decode k_Md_asMuch 38 = .ok (.ladd, 1)) ∧ ((decode k_Md_asMuch 39 = .ok (.lstore 5, 2)) ∧ (decode k_Md_asMuch 41 = .ok (.iinc 7 1, 3)))) ∧ ((decode k_Md_asMuch 44 = .ok (.goto (-22), 3)) ∧ ((decode k_Md_asMuch 47 = .ok (.lload 5, 2)) ∧ (decode k_Md_asMuch 49 = .ok (.lreturn, 1))))) := by decide +kernel
theorem D_Md_lowest_0 : ((((decode k_Md_lowest 0 = .ok (.lload_n 0, 1)) ∧ (decode k_Md_lowest 1 = .ok (.lstore 5, 2))) ∧ ((decode k_Md_lowest 3 = .ok (.lload_n 2, 1)) ∧ (decode k_Md_lowest 4 = .ok (.lstore 7, 2)))) ∧ (((decode k_Md_lowest 6 = .ok (.lload 7, 2)) ∧ (decode k_Md_lowest 8 = .ok (.lconst 0, 1))) ∧ ((decode k_Md_lowest 9 = .ok (.lcmp, 1)) ∧ (decode k_Md_lowest 10 = .ok (.ifCond .eq 21, 3))))) ∧ ((((decode k_Md_lowest 13 = .ok (.lload 5, 2)) ∧ (decode k_Md_lowest 15 = .ok (.lload 7, 2))) ∧ ((decode k_Md_lowest 17 = .ok (.lrem, 1)) ∧ (decode k_Md_lowest 18 = .ok (.lstore 9, 2)))) ∧ (((decode k_Md_lowest 20 = .ok (.lload 7, 2)) ∧ (decode k_Md_lowest 22 = .ok (.lstore 5, 2))) ∧ ((decode k_Md_lowest 24 = .ok (.lload 9, 2)) ∧ (decode k_Md_lowest 26 = .ok (.lstore 7, 2))))) := by decide +kernel
theorem D_Md_lowest_1 : (((decode k_Md_lowest 28 = .ok (.goto (-22), 3)) ∧ (decode k_Md_lowest 31 = .ok (.iload 4, 2))) ∧ ((decode k_Md_lowest 33 = .ok (.ifCond .ne 7, 3)) ∧ (decode k_Md_lowest 36 = .ok (.lload_n 0, 1)))) ∧ (((decode k_Md_lowest 37 = .ok (.goto 4, 3)) ∧ (decode k_Md_lowest 40 = .ok (.lload_n 2, 1))) ∧ ((decode k_Md_lowest 41 = .ok (.lload 5, 2)) ∧ ((decode k_Md_lowest 43 = .ok (.ldiv, 1)) ∧ (decode k_Md_lowest 44 = .ok (.lreturn, 1))))) := by decide +kernel
theorem D_Md_odds_0 : ((((decode k_Md_odds 0 = .ok (.aload_n 0, 1)) ∧ (decode k_Md_odds 1 = .ok (.iload_n 1, 1))) ∧ ((decode k_Md_odds 2 = .ok (.iload_n 2, 1)) ∧ (decode k_Md_odds 3 = .ok (.invokevirtual 230, 3)))) ∧ (((decode k_Md_odds 6 = .ok (.ifCond .eq 26, 3)) ∧ (decode k_Md_odds 9 = .ok (.iload_n 3, 1))) ∧ ((decode k_Md_odds 10 = .ok (.i2l, 1)) ∧ (decode k_Md_odds 11 = .ok (.lconst 0, 1))))) ∧ ((((decode k_Md_odds 12 = .ok (.ldc2_w 163, 3)) ∧ (decode k_Md_odds 15 = .ok (.invokestatic 119, 3))) ∧ ((decode k_Md_odds 18 = .ok (.ifCond .eq 14, 3)) ∧ (decode k_Md_odds 21 = .ok (.iload 4, 2)))) ∧ (((decode k_Md_odds 23 = .ok (.i2l, 1)) ∧ (decode k_Md_odds 24 = .ok (.lconst 0, 1))) ∧ ((decode k_Md_odds 25 = .ok (.lconst 1, 1)) ∧ (decode k_Md_odds 26 = .ok (.invokestatic 119, 3))))) := by decide +kernel
theorem D_Md_odds_1 : ((((decode k_Md_odds 29 = .ok (.ifCond .ne 7, 3)) ∧ (decode k_Md_odds 32 = .ok (.ldc2_w 259, 3))) ∧ ((decode k_Md_odds 35 = .ok (.lreturn, 1)) ∧ (decode k_Md_odds 36 = .ok (.aload_n 0, 1)))) ∧ (((decode k_Md_odds 37 = .ok (.iload_n 1, 1)) ∧ (decode k_Md_odds 38 = .ok (.iload_n 2, 1))) ∧ ((decode k_Md_odds 39 = .ok (.iload_n 3, 1)) ∧ (decode k_Md_odds 40 = .ok (.iconst (-1), 1))))) ∧ ((((decode k_Md_odds 41 = .ok (.invokevirtual 261, 3)) ∧ (decode k_Md_odds 44 = .ok (.lstore 5, 2))) ∧ ((decode k_Md_odds 46 = .ok (.lload 5, 2)) ∧ (decode k_Md_odds 48 = .ok (.aload_n 0, 1)))) ∧ (((decode k_Md_odds 49 = .ok (.getfield 248, 3)) ∧ (decode k_Md_odds 52 = .ok (.iload 4, 2))) ∧ ((decode k_Md_odds 54 = .ok (.invokestatic 265, 3)) ∧ (decode k_Md_odds 57 = .ok (.lreturn, 1))))) := by decide +kernel
theorem D_Md_just_0 : ((((decode k_Md_just 0 = .ok (.aload_n 0, 1)) ∧ (decode k_Md_just 1 = .ok (.iload_n 1, 1))) ∧ ((decode k_Md_just 2 = .ok (.iload_n 2, 1)) ∧ (decode k_Md_just 3 = .ok (.invokevirtual 230, 3)))) ∧ (((decode k_Md_just 6 = .ok (.ifCond .eq 39, 3)) ∧ (decode k_Md_just 9 = .ok (.iload_n 3, 1))) ∧ ((decode k_Md_just 10 = .ok (.i2l, 1)) ∧ (decode k_Md_just 11 = .ok (.lconst 0, 1))))) ∧ ((((decode k_Md_just 12 = .ok (.ldc2_w 163, 3)) ∧ (decode k_Md_just 15 = .ok (.invokestatic 119, 3))) ∧ ((decode k_Md_just 18 = .ok (.ifCond .eq 27, 3)) ∧ (decode k_Md_just 21 = .ok (.iload 4, 2)))) ∧ (((decode k_Md_just 23 = .ok (.i2l, 1)) ∧ (decode k_Md_just 24 = .ok (.lconst 0, 1))) ∧ ((decode k_Md_just 25 = .ok (.ldc2_w 269, 3)) ∧ (decode k_Md_just 28 = .ok (.invokestatic 119, 3))))) := by decide +kernel
theorem D_Md_just_1 : ((((decode k_Md_just 31 = .ok (.ifCond .eq 14, 3)) ∧ (decode k_Md_just 34 = .ok (.iload 5, 2))) ∧ ((decode k_Md_just 36 = .ok (.i2l, 1)) ∧ (decode k_Md_just 37 = .ok (.lconst 0, 1)))) ∧ (((decode k_Md_just 38 = .ok (.lconst 1, 1)) ∧ (decode k_Md_just 39 = .ok (.invokestatic 119, 3))) ∧ ((decode k_Md_just 42 = .ok (.ifCond .ne 7, 3)) ∧ (decode k_Md_just 45 = .ok (.ldc2_w 259, 3))))) ∧ ((((decode k_Md_just 48 = .ok (.lreturn, 1)) ∧ (decode k_Md_just 49 = .ok (.aload_n 0, 1))) ∧ ((decode k_Md_just 50 = .ok (.iload_n 1, 1)) ∧ (decode k_Md_just 51 = .ok (.iload_n 2, 1)))) ∧ (((decode k_Md_just 52 = .ok (.iload_n 3, 1)) ∧ (decode k_Md_just 53 = .ok (.iconst (-1), 1))) ∧ ((decode k_Md_just 54 = .ok (.invokevirtual 256, 3)) ∧ (decode k_Md_just 57 = .ok (.aload_n 0, 1))))) := by decide +kernel
theorem D_Md_just_2 : (((decode k_Md_just 58 = .ok (.getfield 61, 3)) ∧ (decode k_Md_just 61 = .ok (.iload 4, 2))) ∧ ((decode k_Md_just 63 = .ok (.laload, 1)) ∧ (decode k_Md_just 64 = .ok (.aload_n 0, 1)))) ∧ (((decode k_Md_just 65 = .ok (.getfield 248, 3)) ∧ (decode k_Md_just 68 = .ok (.iload 5, 2))) ∧ ((decode k_Md_just 70 = .ok (.invokestatic 265, 3)) ∧ (decode k_Md_just 73 = .ok (.lreturn, 1)))) := by decide +kernel
theorem D_Md_compares_0 : ((((decode k_Md_compares 0 = .ok (.iconst 1, 1)) ∧ (decode k_Md_compares 1 = .ok (.istore 8, 2))) ∧ ((decode k_Md_compares 3 = .ok (.lload_n 0, 1)) ∧ (decode k_Md_compares 4 = .ok (.lstore 9, 2)))) ∧ (((decode k_Md_compares 6 = .ok (.lload_n 2, 1)) ∧ (decode k_Md_compares 7 = .ok (.lstore 11, 2))) ∧ ((decode k_Md_compares 9 = .ok (.lload 4, 2)) ∧ (decode k_Md_compares 11 = .ok (.lstore 13, 2))))) ∧ ((((decode k_Md_compares 13 = .ok (.lload 6, 2)) ∧ (decode k_Md_compares 15 = .ok (.lstore 15, 2))) ∧ ((decode k_Md_compares 17 = .ok (.lload 9, 2)) ∧ (decode k_Md_compares 19 = .ok (.lload 11, 2)))) ∧ (((decode k_Md_compares 21 = .ok (.ldiv, 1)) ∧ (decode k_Md_compares 22 = .ok (.lstore 17, 2))) ∧ ((decode k_Md_compares 24 = .ok (.lload 13, 2)) ∧ (decode k_Md_compares 26 = .ok (.lload 15, 2))))) := by decide +kernel
theorem D_Md_compares_1 : ((((decode k_Md_compares 28 = .ok (.ldiv, 1)) ∧ (decode k_Md_compares 29 = .ok (.lstore 19, 2))) ∧ ((decode k_Md_compares 31 = .ok (.lload 9, 2)) ∧ (decode k_Md_compares 33 = .ok (.lload 11, 2)))) ∧ (((decode k_Md_compares 35 = .ok (.lrem, 1)) ∧ (decode k_Md_compares 36 = .ok (.lstore 21, 2))) ∧ ((decode k_Md_compares 38 = .ok (.lload 13, 2)) ∧ (decode k_Md_compares 40 = .ok (.lload 15, 2))))) ∧ ((((decode k_Md_compares 42 = .ok (.lrem, 1)) ∧ (decode k_Md_compares 43 = .ok (.lstore 23, 2))) ∧ ((decode k_Md_compares 45 = .ok (.lload 17, 2)) ∧ (decode k_Md_compares 47 = .ok (.lload 19, 2)))) ∧ (((decode k_Md_compares 49 = .ok (.lcmp, 1)) ∧ (decode k_Md_compares 50 = .ok (.ifCond .eq 20, 3))) ∧ ((decode k_Md_compares 53 = .ok (.lload 17, 2)) ∧ (decode k_Md_compares 55 = .ok (.lload 19, 2))))) := by decide +kernel
theorem D_Md_compares_2 : ((((decode k_Md_compares 57 = .ok (.lcmp, 1)) ∧ (decode k_Md_compares 58 = .ok (.ifCond .ge 9, 3))) ∧ ((decode k_Md_compares 61 = .ok (.iload 8, 2)) ∧ (decode k_Md_compares 63 = .ok (.ineg, 1)))) ∧ (((decode k_Md_compares 64 = .ok (.goto 5, 3)) ∧ (decode k_Md_compares 67 = .ok (.iload 8, 2))) ∧ ((decode k_Md_compares 69 = .ok (.ireturn, 1)) ∧ (decode k_Md_compares 70 = .ok (.lload 21, 2))))) ∧ ((((decode k_Md_compares 72 = .ok (.lconst 0, 1)) ∧ (decode k_Md_compares 73 = .ok (.lcmp, 1))) ∧ ((decode k_Md_compares 74 = .ok (.ifCond .eq 10, 3)) ∧ (decode k_Md_compares 77 = .ok (.lload 23, 2)))) ∧ (((decode k_Md_compares 79 = .ok (.lconst 0, 1)) ∧ (decode k_Md_compares 80 = .ok (.lcmp, 1))) ∧ ((decode k_Md_compares 81 = .ok (.ifCond .ne 31, 3)) ∧ (decode k_Md_compares 84 = .ok (.lload 21, 2))))) := by decide +kernel
theorem D_Md_compares_3 : ((((decode k_Md_compares 86 = .ok (.lload 23, 2)) ∧ (decode k_Md_compares 88 = .ok (.lcmp, 1))) ∧ ((decode k_Md_compares 89 = .ok (.ifCond .ne 7, 3)) ∧ (decode k_Md_compares 92 = .ok (.iconst 0, 1)))) ∧ (((decode k_Md_compares 93 = .ok (.goto 18, 3)) ∧ (decode k_Md_compares 96 = .ok (.lload 21, 2))) ∧ ((decode k_Md_compares 98 = .ok (.lconst 0, 1)) ∧ (decode k_Md_compares 99 = .ok (.lcmp, 1))))) ∧ ((((decode k_Md_compares 100 = .ok (.ifCond .ne 9, 3)) ∧ (decode k_Md_compares 103 = .ok (.iload 8, 2))) ∧ ((decode k_Md_compares 105 = .ok (.ineg, 1)) ∧ (decode k_Md_compares 106 = .ok (.goto 5, 3)))) ∧ (((decode k_Md_compares 109 = .ok (.iload 8, 2)) ∧ (decode k_Md_compares 111 = .ok (.ireturn, 1))) ∧ ((decode k_Md_compares 112 = .ok (.lload 11, 2)) ∧ (decode k_Md_compares 114 = .ok (.lstore 9, 2))))) := by decide +kernel
theorem D_Md_compares_4 : (((decode k_Md_compares 116 = .ok (.lload 21, 2)) ∧ (decode k_Md_compares 118 = .ok (.lstore 11, 2))) ∧ ((decode k_Md_compares 120 = .ok (.lload 15, 2)) ∧ ((decode k_Md_compares 122 = .ok (.lstore 13, 2)) ∧ (decode k_Md_compares 124 = .ok (.lload 23, 2))))) ∧ (((decode k_Md_compares 126 = .ok (.lstore 15, 2)) ∧ (decode k_Md_compares 128 = .ok (.iload 8, 2))) ∧ ((decode k_Md_compares 130 = .ok (.ineg, 1)) ∧ ((decode k_Md_compares 131 = .ok (.istore 8, 2)) ∧ (decode k_Md_compares 133 = .ok (.goto (-116), 3))))) := by decide +kernel
theorem D_Md_source_0 : ((((decode k_Md_source 0 = .ok (.aload_n 0, 1)) ∧ (decode k_Md_source 1 = .ok (.iload_n 1, 1))) ∧ ((decode k_Md_source 2 = .ok (.iload_n 2, 1)) ∧ (decode k_Md_source 3 = .ok (.invokevirtual 230, 3)))) ∧ (((decode k_Md_source 6 = .ok (.ifCond .ne 5, 3)) ∧ (decode k_Md_source 9 = .ok (.iconst (-1), 1))) ∧ ((decode k_Md_source 10 = .ok (.ireturn, 1)) ∧ (decode k_Md_source 11 = .ok (.aload_n 0, 1))))) ∧ ((((decode k_Md_source 12 = .ok (.iload_n 1, 1)) ∧ (decode k_Md_source 13 = .ok (.iload_n 2, 1))) ∧ ((decode k_Md_source 14 = .ok (.iconst 2, 1)) ∧ (decode k_Md_source 15 = .ok (.iconst (-1), 1)))) ∧ (((decode k_Md_source 16 = .ok (.invokevirtual 261, 3)) ∧ (decode k_Md_source 19 = .ok (.lstore_n 3, 1))) ∧ ((decode k_Md_source 20 = .ok (.aload_n 0, 1)) ∧ (decode k_Md_source 21 = .ok (.getfield 248, 3))))) := by decide +kernel
theorem D_Md_source_1 : ((((decode k_Md_source 24 = .ok (.lstore 5, 2)) ∧ (decode k_Md_source 26 = .ok (.aload_n 0, 1))) ∧ ((decode k_Md_source 27 = .ok (.iload_n 2, 1)) ∧ (decode k_Md_source 28 = .ok (.iload_n 1, 1)))) ∧ (((decode k_Md_source 29 = .ok (.iconst 2, 1)) ∧ (decode k_Md_source 30 = .ok (.iconst (-1), 1))) ∧ ((decode k_Md_source 31 = .ok (.invokevirtual 261, 3)) ∧ (decode k_Md_source 34 = .ok (.lstore 7, 2))))) ∧ ((((decode k_Md_source 36 = .ok (.lload_n 3, 1)) ∧ (decode k_Md_source 37 = .ok (.lload 5, 2))) ∧ ((decode k_Md_source 39 = .ok (.lload 7, 2)) ∧ (decode k_Md_source 41 = .ok (.aload_n 0, 1)))) ∧ (((decode k_Md_source 42 = .ok (.getfield 248, 3)) ∧ (decode k_Md_source 45 = .ok (.invokestatic 271, 3))) ∧ ((decode k_Md_source 48 = .ok (.istore 9, 2)) ∧ (decode k_Md_source 50 = .ok (.iload 9, 2))))) := by decide +kernel
theorem D_Md_source_2 : (((decode k_Md_source 52 = .ok (.ifCond .ne 8, 3)) ∧ (decode k_Md_source 55 = .ok (.bipush (-5), 2))) ∧ ((decode k_Md_source 57 = .ok (.goto 13, 3)) ∧ (decode k_Md_source 60 = .ok (.iload 9, 2)))) ∧ (((decode k_Md_source 62 = .ok (.ifCond .ge 7, 3)) ∧ (decode k_Md_source 65 = .ok (.iload_n 1, 1))) ∧ ((decode k_Md_source 66 = .ok (.goto 4, 3)) ∧ ((decode k_Md_source 69 = .ok (.iload_n 2, 1)) ∧ (decode k_Md_source 70 = .ok (.ireturn, 1))))) := by decide +kernel
theorem D_Md_without_0 : ((((decode k_Md_without 0 = .ok (.aload_n 0, 1)) ∧ (decode k_Md_without 1 = .ok (.iload_n 1, 1))) ∧ ((decode k_Md_without 2 = .ok (.iload_n 2, 1)) ∧ (decode k_Md_without 3 = .ok (.invokevirtual 230, 3)))) ∧ (((decode k_Md_without 6 = .ok (.ifCond .eq 22, 3)) ∧ (decode k_Md_without 9 = .ok (.aload_n 0, 1))) ∧ ((decode k_Md_without 10 = .ok (.iload_n 3, 1)) ∧ (decode k_Md_without 11 = .ok (.invokevirtual 160, 3))))) ∧ ((((decode k_Md_without 14 = .ok (.ifCond .eq 14, 3)) ∧ (decode k_Md_without 17 = .ok (.iload 4, 2))) ∧ ((decode k_Md_without 19 = .ok (.i2l, 1)) ∧ (decode k_Md_without 20 = .ok (.lconst 0, 1)))) ∧ (((decode k_Md_without 21 = .ok (.lconst 1, 1)) ∧ (decode k_Md_without 22 = .ok (.invokestatic 119, 3))) ∧ ((decode k_Md_without 25 = .ok (.ifCond .ne 7, 3)) ∧ (decode k_Md_without 28 = .ok (.ldc2_w 259, 3))))) := by decide +kernel
theorem D_Md_without_1 : (((decode k_Md_without 31 = .ok (.lreturn, 1)) ∧ ((decode k_Md_without 32 = .ok (.aload_n 0, 1)) ∧ (decode k_Md_without 33 = .ok (.iload_n 1, 1)))) ∧ (((decode k_Md_without 34 = .ok (.iload_n 2, 1)) ∧ (decode k_Md_without 35 = .ok (.iconst 0, 1))) ∧ ((decode k_Md_without 36 = .ok (.iload_n 3, 1)) ∧ (decode k_Md_without 37 = .ok (.invokevirtual 261, 3))))) ∧ (((decode k_Md_without 40 = .ok (.lstore 5, 2)) ∧ ((decode k_Md_without 42 = .ok (.lload 5, 2)) ∧ (decode k_Md_without 44 = .ok (.aload_n 0, 1)))) ∧ (((decode k_Md_without 45 = .ok (.getfield 248, 3)) ∧ (decode k_Md_without 48 = .ok (.iload 4, 2))) ∧ ((decode k_Md_without 50 = .ok (.invokestatic 265, 3)) ∧ (decode k_Md_without 53 = .ok (.lreturn, 1))))) := by decide +kernel
theorem D_Md_key_0 : ((((decode k_Md_key 0 = .ok (.aload_n 0, 1)) ∧ (decode k_Md_key 1 = .ok (.iload_n 1, 1))) ∧ ((decode k_Md_key 2 = .ok (.iload_n 2, 1)) ∧ (decode k_Md_key 3 = .ok (.invokevirtual 230, 3)))) ∧ (((decode k_Md_key 6 = .ok (.ifCond .ne 5, 3)) ∧ (decode k_Md_key 9 = .ok (.iconst (-1), 1))) ∧ ((decode k_Md_key 10 = .ok (.ireturn, 1)) ∧ (decode k_Md_key 11 = .ok (.iconst 0, 1))))) ∧ ((((decode k_Md_key 12 = .ok (.istore_n 3, 1)) ∧ (decode k_Md_key 13 = .ok (.aload_n 0, 1))) ∧ ((decode k_Md_key 14 = .ok (.iload_n 1, 1)) ∧ (decode k_Md_key 15 = .ok (.iload_n 2, 1)))) ∧ (((decode k_Md_key 16 = .ok (.iconst 0, 1)) ∧ (decode k_Md_key 17 = .ok (.iconst 0, 1))) ∧ ((decode k_Md_key 18 = .ok (.invokevirtual 261, 3)) ∧ (decode k_Md_key 21 = .ok (.lstore 4, 2))))) := by decide +kernel
theorem D_Md_key_1 : ((((decode k_Md_key 23 = .ok (.aload_n 0, 1)) ∧ (decode k_Md_key 24 = .ok (.getfield 248, 3))) ∧ ((decode k_Md_key 27 = .ok (.lstore 6, 2)) ∧ (decode k_Md_key 29 = .ok (.iconst 1, 1)))) ∧ (((decode k_Md_key 30 = .ok (.istore 8, 2)) ∧ (decode k_Md_key 32 = .ok (.iload 8, 2))) ∧ ((decode k_Md_key 34 = .ok (.aload_n 0, 1)) ∧ (decode k_Md_key 35 = .ok (.getfield 9, 3))))) ∧ ((((decode k_Md_key 38 = .ok (.if_icmp .ge 49, 3)) ∧ (decode k_Md_key 41 = .ok (.aload_n 0, 1))) ∧ ((decode k_Md_key 42 = .ok (.iload_n 1, 1)) ∧ (decode k_Md_key 43 = .ok (.iload_n 2, 1)))) ∧ (((decode k_Md_key 44 = .ok (.iconst 0, 1)) ∧ (decode k_Md_key 45 = .ok (.iload 8, 2))) ∧ ((decode k_Md_key 47 = .ok (.invokevirtual 261, 3)) ∧ (decode k_Md_key 50 = .ok (.lstore 9, 2))))) := by decide +kernel
theorem D_Md_key_2 : ((((decode k_Md_key 52 = .ok (.lload 9, 2)) ∧ (decode k_Md_key 54 = .ok (.aload_n 0, 1))) ∧ ((decode k_Md_key 55 = .ok (.getfield 248, 3)) ∧ (decode k_Md_key 58 = .ok (.lload 4, 2)))) ∧ (((decode k_Md_key 60 = .ok (.lload 6, 2)) ∧ (decode k_Md_key 62 = .ok (.invokestatic 271, 3))) ∧ ((decode k_Md_key 65 = .ok (.ifCond .le 16, 3)) ∧ (decode k_Md_key 68 = .ok (.iload 8, 2))))) ∧ ((((decode k_Md_key 70 = .ok (.istore_n 3, 1)) ∧ (decode k_Md_key 71 = .ok (.lload 9, 2))) ∧ ((decode k_Md_key 73 = .ok (.lstore 4, 2)) ∧ (decode k_Md_key 75 = .ok (.aload_n 0, 1)))) ∧ (((decode k_Md_key 76 = .ok (.getfield 248, 3)) ∧ (decode k_Md_key 79 = .ok (.lstore 6, 2))) ∧ ((decode k_Md_key 81 = .ok (.iinc 8 1, 3)) ∧ (decode k_Md_key 84 = .ok (.goto (-52), 3))))) := by decide +kernel
theorem D_Md_key_3 : (decode k_Md_key 87 = .ok (.iload_n 3, 1)) ∧ (decode k_Md_key 88 = .ok (.ireturn, 1)) := by decide +kernel
theorem D_Md_isNear_0 : ((((decode k_Md_isNear 0 = .ok (.aload_n 0, 1)) ∧ (decode k_Md_isNear 1 = .ok (.getfield 28, 3))) ∧ ((decode k_Md_isNear 4 = .ok (.iload_n 1, 1)) ∧ (decode k_Md_isNear 5 = .ok (.iaload, 1)))) ∧ (((decode k_Md_isNear 6 = .ok (.ifCond .lt 56, 3)) ∧ (decode k_Md_isNear 9 = .ok (.aload_n 0, 1))) ∧ ((decode k_Md_isNear 10 = .ok (.getfield 28, 3)) ∧ (decode k_Md_isNear 13 = .ok (.iload_n 2, 1))))) ∧ ((((decode k_Md_isNear 14 = .ok (.iaload, 1)) ∧ (decode k_Md_isNear 15 = .ok (.ifCond .lt 47, 3))) ∧ ((decode k_Md_isNear 18 = .ok (.aload_n 0, 1)) ∧ (decode k_Md_isNear 19 = .ok (.getfield 28, 3)))) ∧ (((decode k_Md_isNear 22 = .ok (.iload_n 1, 1)) ∧ (decode k_Md_isNear 23 = .ok (.iaload, 1))) ∧ ((decode k_Md_isNear 24 = .ok (.aload_n 0, 1)) ∧ (decode k_Md_isNear 25 = .ok (.getfield 28, 3))))) := by decide +kernel
theorem D_Md_isNear_1 : ((((decode k_Md_isNear 28 = .ok (.iload_n 2, 1)) ∧ (decode k_Md_isNear 29 = .ok (.iaload, 1))) ∧ ((decode k_Md_isNear 30 = .ok (.isub, 1)) ∧ (decode k_Md_isNear 31 = .ok (.invokestatic 275, 3)))) ∧ (((decode k_Md_isNear 34 = .ok (.iload_n 3, 1)) ∧ (decode k_Md_isNear 35 = .ok (.if_icmp .gt 27, 3))) ∧ ((decode k_Md_isNear 38 = .ok (.aload_n 0, 1)) ∧ (decode k_Md_isNear 39 = .ok (.getfield 31, 3))))) ∧ ((((decode k_Md_isNear 42 = .ok (.iload_n 1, 1)) ∧ (decode k_Md_isNear 43 = .ok (.iaload, 1))) ∧ ((decode k_Md_isNear 44 = .ok (.aload_n 0, 1)) ∧ (decode k_Md_isNear 45 = .ok (.getfield 31, 3)))) ∧ (((decode k_Md_isNear 48 = .ok (.iload_n 2, 1)) ∧ (decode k_Md_isNear 49 = .ok (.iaload, 1))) ∧ ((decode k_Md_isNear 50 = .ok (.isub, 1)) ∧ (decode k_Md_isNear 51 = .ok (.invokestatic 275, 3))))) := by decide +kernel
theorem D_Md_isNear_2 : ((decode k_Md_isNear 54 = .ok (.iload_n 3, 1)) ∧ ((decode k_Md_isNear 55 = .ok (.if_icmp .gt 7, 3)) ∧ (decode k_Md_isNear 58 = .ok (.iconst 1, 1)))) ∧ ((decode k_Md_isNear 59 = .ok (.goto 4, 3)) ∧ ((decode k_Md_isNear 62 = .ok (.iconst 0, 1)) ∧ (decode k_Md_isNear 63 = .ok (.ireturn, 1)))) := by decide +kernel
theorem D_Md_puts_0 : ((((decode k_Md_puts 0 = .ok (.aload_n 0, 1)) ∧ (decode k_Md_puts 1 = .ok (.getfield 280, 3))) ∧ ((decode k_Md_puts 4 = .ok (.istore 7, 2)) ∧ (decode k_Md_puts 6 = .ok (.iload 7, 2)))) ∧ (((decode k_Md_puts 8 = .ok (.ifCond .le 100, 3)) ∧ (decode k_Md_puts 11 = .ok (.lload_n 3, 1))) ∧ ((decode k_Md_puts 12 = .ok (.lload 5, 2)) ∧ (decode k_Md_puts 14 = .ok (.aload_n 0, 1))))) ∧ ((((decode k_Md_puts 15 = .ok (.getfield 74, 3)) ∧ (decode k_Md_puts 18 = .ok (.iload 7, 2))) ∧ ((decode k_Md_puts 20 = .ok (.iconst 1, 1)) ∧ (decode k_Md_puts 21 = .ok (.isub, 1)))) ∧ (((decode k_Md_puts 22 = .ok (.laload, 1)) ∧ (decode k_Md_puts 23 = .ok (.aload_n 0, 1))) ∧ ((decode k_Md_puts 24 = .ok (.getfield 77, 3)) ∧ (decode k_Md_puts 27 = .ok (.iload 7, 2))))) := by decide +kernel
theorem D_Md_puts_1 : ((((decode k_Md_puts 29 = .ok (.iconst 1, 1)) ∧ (decode k_Md_puts 30 = .ok (.isub, 1))) ∧ ((decode k_Md_puts 31 = .ok (.laload, 1)) ∧ (decode k_Md_puts 32 = .ok (.invokestatic 271, 3)))) ∧ (((decode k_Md_puts 35 = .ok (.ifCond .ge 73, 3)) ∧ (decode k_Md_puts 38 = .ok (.aload_n 0, 1))) ∧ ((decode k_Md_puts 39 = .ok (.getfield 68, 3)) ∧ (decode k_Md_puts 42 = .ok (.iload 7, 2))))) ∧ ((((decode k_Md_puts 44 = .ok (.aload_n 0, 1)) ∧ (decode k_Md_puts 45 = .ok (.getfield 68, 3))) ∧ ((decode k_Md_puts 48 = .ok (.iload 7, 2)) ∧ (decode k_Md_puts 50 = .ok (.iconst 1, 1)))) ∧ (((decode k_Md_puts 51 = .ok (.isub, 1)) ∧ (decode k_Md_puts 52 = .ok (.iaload, 1))) ∧ ((decode k_Md_puts 53 = .ok (.iastore, 1)) ∧ (decode k_Md_puts 54 = .ok (.aload_n 0, 1))))) := by decide +kernel
theorem D_Md_puts_2 : ((((decode k_Md_puts 55 = .ok (.getfield 71, 3)) ∧ (decode k_Md_puts 58 = .ok (.iload 7, 2))) ∧ ((decode k_Md_puts 60 = .ok (.aload_n 0, 1)) ∧ (decode k_Md_puts 61 = .ok (.getfield 71, 3)))) ∧ (((decode k_Md_puts 64 = .ok (.iload 7, 2)) ∧ (decode k_Md_puts 66 = .ok (.iconst 1, 1))) ∧ ((decode k_Md_puts 67 = .ok (.isub, 1)) ∧ (decode k_Md_puts 68 = .ok (.iaload, 1))))) ∧ ((((decode k_Md_puts 69 = .ok (.iastore, 1)) ∧ (decode k_Md_puts 70 = .ok (.aload_n 0, 1))) ∧ ((decode k_Md_puts 71 = .ok (.getfield 74, 3)) ∧ (decode k_Md_puts 74 = .ok (.iload 7, 2)))) ∧ (((decode k_Md_puts 76 = .ok (.aload_n 0, 1)) ∧ (decode k_Md_puts 77 = .ok (.getfield 74, 3))) ∧ ((decode k_Md_puts 80 = .ok (.iload 7, 2)) ∧ (decode k_Md_puts 82 = .ok (.iconst 1, 1))))) := by decide +kernel
theorem D_Md_puts_3 : ((((decode k_Md_puts 83 = .ok (.isub, 1)) ∧ (decode k_Md_puts 84 = .ok (.laload, 1))) ∧ ((decode k_Md_puts 85 = .ok (.lastore, 1)) ∧ (decode k_Md_puts 86 = .ok (.aload_n 0, 1)))) ∧ (((decode k_Md_puts 87 = .ok (.getfield 77, 3)) ∧ (decode k_Md_puts 90 = .ok (.iload 7, 2))) ∧ ((decode k_Md_puts 92 = .ok (.aload_n 0, 1)) ∧ (decode k_Md_puts 93 = .ok (.getfield 77, 3))))) ∧ ((((decode k_Md_puts 96 = .ok (.iload 7, 2)) ∧ (decode k_Md_puts 98 = .ok (.iconst 1, 1))) ∧ ((decode k_Md_puts 99 = .ok (.isub, 1)) ∧ (decode k_Md_puts 100 = .ok (.laload, 1)))) ∧ (((decode k_Md_puts 101 = .ok (.lastore, 1)) ∧ (decode k_Md_puts 102 = .ok (.iinc 7 (-1), 3))) ∧ ((decode k_Md_puts 105 = .ok (.goto (-99), 3)) ∧ (decode k_Md_puts 108 = .ok (.aload_n 0, 1))))) := by decide +kernel
theorem D_Md_puts_4 : ((((decode k_Md_puts 109 = .ok (.getfield 68, 3)) ∧ (decode k_Md_puts 112 = .ok (.iload 7, 2))) ∧ ((decode k_Md_puts 114 = .ok (.iload_n 1, 1)) ∧ (decode k_Md_puts 115 = .ok (.iastore, 1)))) ∧ (((decode k_Md_puts 116 = .ok (.aload_n 0, 1)) ∧ (decode k_Md_puts 117 = .ok (.getfield 71, 3))) ∧ ((decode k_Md_puts 120 = .ok (.iload 7, 2)) ∧ (decode k_Md_puts 122 = .ok (.iload_n 2, 1))))) ∧ ((((decode k_Md_puts 123 = .ok (.iastore, 1)) ∧ (decode k_Md_puts 124 = .ok (.aload_n 0, 1))) ∧ ((decode k_Md_puts 125 = .ok (.getfield 74, 3)) ∧ (decode k_Md_puts 128 = .ok (.iload 7, 2)))) ∧ (((decode k_Md_puts 130 = .ok (.lload_n 3, 1)) ∧ (decode k_Md_puts 131 = .ok (.lastore, 1))) ∧ ((decode k_Md_puts 132 = .ok (.aload_n 0, 1)) ∧ (decode k_Md_puts 133 = .ok (.getfield 77, 3))))) := by decide +kernel
theorem D_Md_puts_5 : (((decode k_Md_puts 136 = .ok (.iload 7, 2)) ∧ (decode k_Md_puts 138 = .ok (.lload 5, 2))) ∧ ((decode k_Md_puts 140 = .ok (.lastore, 1)) ∧ ((decode k_Md_puts 141 = .ok (.aload_n 0, 1)) ∧ (decode k_Md_puts 142 = .ok (.dup, 1))))) ∧ (((decode k_Md_puts 143 = .ok (.getfield 280, 3)) ∧ (decode k_Md_puts 146 = .ok (.iconst 1, 1))) ∧ ((decode k_Md_puts 147 = .ok (.iadd, 1)) ∧ ((decode k_Md_puts 148 = .ok (.putfield 280, 3)) ∧ (decode k_Md_puts 151 = .ok (.return_, 1))))) := by decide +kernel
theorem D_Md_putsPair_0 : ((((decode k_Md_putsPair 0 = .ok (.aload_n 0, 1)) ∧ (decode k_Md_putsPair 1 = .ok (.iload_n 1, 1))) ∧ ((decode k_Md_putsPair 2 = .ok (.iload_n 2, 1)) ∧ (decode k_Md_putsPair 3 = .ok (.aload_n 0, 1)))) ∧ (((decode k_Md_putsPair 4 = .ok (.getfield 34, 3)) ∧ (decode k_Md_putsPair 7 = .ok (.iconst 0, 1))) ∧ ((decode k_Md_putsPair 8 = .ok (.iaload, 1)) ∧ (decode k_Md_putsPair 9 = .ok (.iconst (-1), 1))))) ∧ ((((decode k_Md_putsPair 10 = .ok (.invokevirtual 261, 3)) ∧ (decode k_Md_putsPair 13 = .ok (.lstore_n 3, 1))) ∧ ((decode k_Md_putsPair 14 = .ok (.aload_n 0, 1)) ∧ (decode k_Md_putsPair 15 = .ok (.getfield 248, 3)))) ∧ (((decode k_Md_putsPair 18 = .ok (.lstore 5, 2)) ∧ (decode k_Md_putsPair 20 = .ok (.aload_n 0, 1))) ∧ ((decode k_Md_putsPair 21 = .ok (.getfield 34, 3)) ∧ (decode k_Md_putsPair 24 = .ok (.iconst 0, 1))))) := by decide +kernel
theorem D_Md_putsPair_1 : ((((decode k_Md_putsPair 25 = .ok (.iaload, 1)) ∧ (decode k_Md_putsPair 26 = .ok (.iconst 1, 1))) ∧ ((decode k_Md_putsPair 27 = .ok (.if_icmp .le 42, 3)) ∧ (decode k_Md_putsPair 30 = .ok (.aload_n 0, 1)))) ∧ (((decode k_Md_putsPair 31 = .ok (.iload_n 2, 1)) ∧ (decode k_Md_putsPair 32 = .ok (.iload_n 1, 1))) ∧ ((decode k_Md_putsPair 33 = .ok (.aload_n 0, 1)) ∧ (decode k_Md_putsPair 34 = .ok (.getfield 34, 3))))) ∧ ((((decode k_Md_putsPair 37 = .ok (.iconst 0, 1)) ∧ (decode k_Md_putsPair 38 = .ok (.iaload, 1))) ∧ ((decode k_Md_putsPair 39 = .ok (.iconst (-1), 1)) ∧ (decode k_Md_putsPair 40 = .ok (.invokevirtual 261, 3)))) ∧ (((decode k_Md_putsPair 43 = .ok (.lstore 7, 2)) ∧ (decode k_Md_putsPair 45 = .ok (.lload 7, 2))) ∧ ((decode k_Md_putsPair 47 = .ok (.aload_n 0, 1)) ∧ (decode k_Md_putsPair 48 = .ok (.getfield 248, 3))))) := by decide +kernel
theorem D_Md_putsPair_2 : ((((decode k_Md_putsPair 51 = .ok (.lload_n 3, 1)) ∧ (decode k_Md_putsPair 52 = .ok (.lload 5, 2))) ∧ ((decode k_Md_putsPair 54 = .ok (.invokestatic 271, 3)) ∧ (decode k_Md_putsPair 57 = .ok (.ifCond .ge 12, 3)))) ∧ (((decode k_Md_putsPair 60 = .ok (.lload 7, 2)) ∧ (decode k_Md_putsPair 62 = .ok (.lstore_n 3, 1))) ∧ ((decode k_Md_putsPair 63 = .ok (.aload_n 0, 1)) ∧ (decode k_Md_putsPair 64 = .ok (.getfield 248, 3))))) ∧ ((((decode k_Md_putsPair 67 = .ok (.lstore 5, 2)) ∧ (decode k_Md_putsPair 69 = .ok (.aload_n 0, 1))) ∧ ((decode k_Md_putsPair 70 = .ok (.iload_n 1, 1)) ∧ (decode k_Md_putsPair 71 = .ok (.iload_n 2, 1)))) ∧ (((decode k_Md_putsPair 72 = .ok (.lload_n 3, 1)) ∧ (decode k_Md_putsPair 73 = .ok (.lload 5, 2))) ∧ ((decode k_Md_putsPair 75 = .ok (.invokevirtual 283, 3)) ∧ (decode k_Md_putsPair 78 = .ok (.return_, 1))))) := by decide +kernel
theorem D_Md_isLow_0 : ((((decode k_Md_isLow 0 = .ok (.aload_n 0, 1)) ∧ (decode k_Md_isLow 1 = .ok (.getfield 74, 3))) ∧ ((decode k_Md_isLow 4 = .ok (.iload_n 1, 1)) ∧ (decode k_Md_isLow 5 = .ok (.laload, 1)))) ∧ (((decode k_Md_isLow 6 = .ok (.aload_n 0, 1)) ∧ (decode k_Md_isLow 7 = .ok (.getfield 77, 3))) ∧ ((decode k_Md_isLow 10 = .ok (.iload_n 1, 1)) ∧ (decode k_Md_isLow 11 = .ok (.laload, 1))))) ∧ ((((decode k_Md_isLow 12 = .ok (.aload_n 0, 1)) ∧ (decode k_Md_isLow 13 = .ok (.getfield 34, 3))) ∧ ((decode k_Md_isLow 16 = .ok (.iconst 2, 1)) ∧ (decode k_Md_isLow 17 = .ok (.iaload, 1)))) ∧ (((decode k_Md_isLow 18 = .ok (.i2l, 1)) ∧ (decode k_Md_isLow 19 = .ok (.iload_n 3, 1))) ∧ ((decode k_Md_isLow 20 = .ok (.i2l, 1)) ∧ (decode k_Md_isLow 21 = .ok (.lmul, 1))))) := by decide +kernel
theorem D_Md_isLow_1 : (((decode k_Md_isLow 22 = .ok (.ldc2_w 287, 3)) ∧ (decode k_Md_isLow 25 = .ok (.iload_n 2, 1))) ∧ ((decode k_Md_isLow 26 = .ok (.i2l, 1)) ∧ ((decode k_Md_isLow 27 = .ok (.lmul, 1)) ∧ (decode k_Md_isLow 28 = .ok (.invokestatic 271, 3))))) ∧ (((decode k_Md_isLow 31 = .ok (.ifCond .gt 7, 3)) ∧ (decode k_Md_isLow 34 = .ok (.iconst 1, 1))) ∧ ((decode k_Md_isLow 35 = .ok (.goto 4, 3)) ∧ ((decode k_Md_isLow 38 = .ok (.iconst 0, 1)) ∧ (decode k_Md_isLow 39 = .ok (.ireturn, 1))))) := by decide +kernel
theorem D_Md_orders_0 : ((((decode k_Md_orders 0 = .ok (.aload_n 0, 1)) ∧ (decode k_Md_orders 1 = .ok (.iconst 0, 1))) ∧ ((decode k_Md_orders 2 = .ok (.putfield 280, 3)) ∧ (decode k_Md_orders 5 = .ok (.iconst 0, 1)))) ∧ (((decode k_Md_orders 6 = .ok (.istore_n 1, 1)) ∧ (decode k_Md_orders 7 = .ok (.iload_n 1, 1))) ∧ ((decode k_Md_orders 8 = .ok (.aload_n 0, 1)) ∧ (decode k_Md_orders 9 = .ok (.getfield 123, 3))))) ∧ ((((decode k_Md_orders 12 = .ok (.if_icmp .ge 57, 3)) ∧ (decode k_Md_orders 15 = .ok (.iload_n 1, 1))) ∧ ((decode k_Md_orders 16 = .ok (.iconst 1, 1)) ∧ (decode k_Md_orders 17 = .ok (.iadd, 1)))) ∧ (((decode k_Md_orders 18 = .ok (.istore_n 2, 1)) ∧ (decode k_Md_orders 19 = .ok (.iload_n 2, 1))) ∧ ((decode k_Md_orders 20 = .ok (.aload_n 0, 1)) ∧ (decode k_Md_orders 21 = .ok (.getfield 123, 3))))) := by decide +kernel
theorem D_Md_orders_1 : ((((decode k_Md_orders 24 = .ok (.if_icmp .ge 39, 3)) ∧ (decode k_Md_orders 27 = .ok (.aload_n 0, 1))) ∧ ((decode k_Md_orders 28 = .ok (.getfield 34, 3)) ∧ (decode k_Md_orders 31 = .ok (.iconst 3, 1)))) ∧ (((decode k_Md_orders 32 = .ok (.iaload, 1)) ∧ (decode k_Md_orders 33 = .ok (.ifCond .eq 18, 3))) ∧ ((decode k_Md_orders 36 = .ok (.aload_n 0, 1)) ∧ (decode k_Md_orders 37 = .ok (.iload_n 1, 1))))) ∧ ((((decode k_Md_orders 38 = .ok (.iload_n 2, 1)) ∧ (decode k_Md_orders 39 = .ok (.aload_n 0, 1))) ∧ ((decode k_Md_orders 40 = .ok (.getfield 34, 3)) ∧ (decode k_Md_orders 43 = .ok (.iconst 3, 1)))) ∧ (((decode k_Md_orders 44 = .ok (.iaload, 1)) ∧ (decode k_Md_orders 45 = .ok (.invokevirtual 289, 3))) ∧ ((decode k_Md_orders 48 = .ok (.ifCond .eq 9, 3)) ∧ (decode k_Md_orders 51 = .ok (.aload_n 0, 1))))) := by decide +kernel
theorem D_Md_orders_2 : ((((decode k_Md_orders 52 = .ok (.iload_n 1, 1)) ∧ (decode k_Md_orders 53 = .ok (.iload_n 2, 1))) ∧ ((decode k_Md_orders 54 = .ok (.invokevirtual 293, 3)) ∧ (decode k_Md_orders 57 = .ok (.iinc 2 1, 3)))) ∧ (((decode k_Md_orders 60 = .ok (.goto (-41), 3)) ∧ (decode k_Md_orders 63 = .ok (.iinc 1 1, 3))) ∧ ((decode k_Md_orders 66 = .ok (.goto (-59), 3)) ∧ (decode k_Md_orders 69 = .ok (.iconst 1, 1))))) ∧ ((((decode k_Md_orders 70 = .ok (.istore_n 1, 1)) ∧ (decode k_Md_orders 71 = .ok (.iconst 0, 1))) ∧ ((decode k_Md_orders 72 = .ok (.istore_n 2, 1)) ∧ (decode k_Md_orders 73 = .ok (.iload_n 2, 1)))) ∧ (((decode k_Md_orders 74 = .ok (.aload_n 0, 1)) ∧ (decode k_Md_orders 75 = .ok (.getfield 280, 3))) ∧ ((decode k_Md_orders 78 = .ok (.if_icmp .ge 73, 3)) ∧ (decode k_Md_orders 81 = .ok (.iload_n 1, 1))))) := by decide +kernel
theorem D_Md_orders_3 : ((((decode k_Md_orders 82 = .ok (.aload_n 0, 1)) ∧ (decode k_Md_orders 83 = .ok (.iload_n 2, 1))) ∧ ((decode k_Md_orders 84 = .ok (.aload_n 0, 1)) ∧ (decode k_Md_orders 85 = .ok (.getfield 280, 3)))) ∧ (((decode k_Md_orders 88 = .ok (.iload_n 2, 1)) ∧ (decode k_Md_orders 89 = .ok (.isub, 1))) ∧ ((decode k_Md_orders 90 = .ok (.iconst 1, 1)) ∧ (decode k_Md_orders 91 = .ok (.invokevirtual 297, 3))))) ∧ ((((decode k_Md_orders 94 = .ok (.iand, 1)) ∧ (decode k_Md_orders 95 = .ok (.istore_n 1, 1))) ∧ ((decode k_Md_orders 96 = .ok (.aload_n 0, 1)) ∧ (decode k_Md_orders 97 = .ok (.getfield 80, 3)))) ∧ (((decode k_Md_orders 100 = .ok (.iload_n 2, 1)) ∧ (decode k_Md_orders 101 = .ok (.aload_n 0, 1))) ∧ ((decode k_Md_orders 102 = .ok (.getfield 34, 3)) ∧ (decode k_Md_orders 105 = .ok (.iconst 1, 1))))) := by decide +kernel
theorem D_Md_orders_4 : ((((decode k_Md_orders 106 = .ok (.iaload, 1)) ∧ (decode k_Md_orders 107 = .ok (.ifCond .ne 13, 3))) ∧ ((decode k_Md_orders 110 = .ok (.aload_n 0, 1)) ∧ (decode k_Md_orders 111 = .ok (.iload_n 2, 1)))) ∧ (((decode k_Md_orders 112 = .ok (.iconst 1, 1)) ∧ (decode k_Md_orders 113 = .ok (.iconst 1, 1))) ∧ ((decode k_Md_orders 114 = .ok (.invokevirtual 297, 3)) ∧ (decode k_Md_orders 117 = .ok (.goto 27, 3))))) ∧ ((((decode k_Md_orders 120 = .ok (.aload_n 0, 1)) ∧ (decode k_Md_orders 121 = .ok (.getfield 34, 3))) ∧ ((decode k_Md_orders 124 = .ok (.iconst 1, 1)) ∧ (decode k_Md_orders 125 = .ok (.iaload, 1)))) ∧ (((decode k_Md_orders 126 = .ok (.iconst 1, 1)) ∧ (decode k_Md_orders 127 = .ok (.if_icmp .ne 16, 3))) ∧ ((decode k_Md_orders 130 = .ok (.aload_n 0, 1)) ∧ (decode k_Md_orders 131 = .ok (.iload_n 2, 1))))) := by decide +kernel
theorem D_Md_orders_5 : ((((decode k_Md_orders 132 = .ok (.aload_n 0, 1)) ∧ (decode k_Md_orders 133 = .ok (.getfield 280, 3))) ∧ ((decode k_Md_orders 136 = .ok (.iconst 1, 1)) ∧ (decode k_Md_orders 137 = .ok (.invokevirtual 297, 3)))) ∧ (((decode k_Md_orders 140 = .ok (.goto 4, 3)) ∧ (decode k_Md_orders 143 = .ok (.iload_n 1, 1))) ∧ ((decode k_Md_orders 144 = .ok (.bastore, 1)) ∧ (decode k_Md_orders 145 = .ok (.iinc 2 1, 3))))) ∧ ((((decode k_Md_orders 148 = .ok (.goto (-75), 3)) ∧ (decode k_Md_orders 151 = .ok (.aload_n 0, 1))) ∧ ((decode k_Md_orders 152 = .ok (.getfield 34, 3)) ∧ (decode k_Md_orders 155 = .ok (.iconst 1, 1)))) ∧ (((decode k_Md_orders 156 = .ok (.iaload, 1)) ∧ (decode k_Md_orders 157 = .ok (.iconst 3, 1))) ∧ ((decode k_Md_orders 158 = .ok (.if_icmp .ne 44, 3)) ∧ (decode k_Md_orders 161 = .ok (.iconst 0, 1))))) := by decide +kernel
theorem D_Md_orders_6 : ((((decode k_Md_orders 162 = .ok (.istore_n 1, 1)) ∧ (decode k_Md_orders 163 = .ok (.aload_n 0, 1))) ∧ ((decode k_Md_orders 164 = .ok (.getfield 280, 3)) ∧ (decode k_Md_orders 167 = .ok (.iconst 1, 1)))) ∧ (((decode k_Md_orders 168 = .ok (.isub, 1)) ∧ (decode k_Md_orders 169 = .ok (.istore_n 2, 1))) ∧ ((decode k_Md_orders 170 = .ok (.iload_n 2, 1)) ∧ (decode k_Md_orders 171 = .ok (.ifCond .lt 31, 3))))) ∧ ((((decode k_Md_orders 174 = .ok (.iload_n 1, 1)) ∧ (decode k_Md_orders 175 = .ok (.aload_n 0, 1))) ∧ ((decode k_Md_orders 176 = .ok (.iload_n 2, 1)) ∧ (decode k_Md_orders 177 = .ok (.aload_n 0, 1)))) ∧ (((decode k_Md_orders 178 = .ok (.getfield 280, 3)) ∧ (decode k_Md_orders 181 = .ok (.iload_n 2, 1))) ∧ ((decode k_Md_orders 182 = .ok (.iconst 1, 1)) ∧ (decode k_Md_orders 183 = .ok (.iadd, 1))))) := by decide +kernel
theorem D_Md_orders_7 : (((decode k_Md_orders 184 = .ok (.invokevirtual 297, 3)) ∧ (decode k_Md_orders 187 = .ok (.ior, 1))) ∧ ((decode k_Md_orders 188 = .ok (.istore_n 1, 1)) ∧ ((decode k_Md_orders 189 = .ok (.aload_n 0, 1)) ∧ (decode k_Md_orders 190 = .ok (.getfield 80, 3))))) ∧ (((decode k_Md_orders 193 = .ok (.iload_n 2, 1)) ∧ ((decode k_Md_orders 194 = .ok (.iload_n 1, 1)) ∧ (decode k_Md_orders 195 = .ok (.bastore, 1)))) ∧ ((decode k_Md_orders 196 = .ok (.iinc 2 (-1), 3)) ∧ ((decode k_Md_orders 199 = .ok (.goto (-29), 3)) ∧ (decode k_Md_orders 202 = .ok (.return_, 1))))) := by decide +kernel
theorem D_Md_suspects_0 : ((((decode k_Md_suspects 0 = .ok (.aload_n 0, 1)) ∧ (decode k_Md_suspects 1 = .ok (.invokevirtual 300, 3))) ∧ ((decode k_Md_suspects 4 = .ok (.iconst 0, 1)) ∧ (decode k_Md_suspects 5 = .ok (.istore_n 1, 1)))) ∧ (((decode k_Md_suspects 6 = .ok (.iconst 0, 1)) ∧ (decode k_Md_suspects 7 = .ok (.istore_n 2, 1))) ∧ ((decode k_Md_suspects 8 = .ok (.iload_n 2, 1)) ∧ (decode k_Md_suspects 9 = .ok (.aload_n 0, 1))))) ∧ ((((decode k_Md_suspects 10 = .ok (.getfield 280, 3)) ∧ (decode k_Md_suspects 13 = .ok (.if_icmp .ge 26, 3))) ∧ ((decode k_Md_suspects 16 = .ok (.iload_n 1, 1)) ∧ (decode k_Md_suspects 17 = .ok (.aload_n 0, 1)))) ∧ (((decode k_Md_suspects 18 = .ok (.getfield 80, 3)) ∧ (decode k_Md_suspects 21 = .ok (.iload_n 2, 1))) ∧ ((decode k_Md_suspects 22 = .ok (.baload, 1)) ∧ (decode k_Md_suspects 23 = .ok (.ifCond .eq 7, 3))))) := by decide +kernel
theorem D_Md_suspects_1 : (((decode k_Md_suspects 26 = .ok (.iconst 1, 1)) ∧ (decode k_Md_suspects 27 = .ok (.goto 4, 3))) ∧ ((decode k_Md_suspects 30 = .ok (.iconst 0, 1)) ∧ (decode k_Md_suspects 31 = .ok (.iadd, 1)))) ∧ (((decode k_Md_suspects 32 = .ok (.istore_n 1, 1)) ∧ (decode k_Md_suspects 33 = .ok (.iinc 2 1, 3))) ∧ ((decode k_Md_suspects 36 = .ok (.goto (-28), 3)) ∧ ((decode k_Md_suspects 39 = .ok (.iload_n 1, 1)) ∧ (decode k_Md_suspects 40 = .ok (.ireturn, 1))))) := by decide +kernel
theorem D_Md_near_0 : ((((decode k_Md_near 0 = .ok (.iconst 0, 1)) ∧ (decode k_Md_near 1 = .ok (.istore_n 2, 1))) ∧ ((decode k_Md_near 2 = .ok (.iconst 0, 1)) ∧ (decode k_Md_near 3 = .ok (.istore_n 3, 1)))) ∧ (((decode k_Md_near 4 = .ok (.iload_n 3, 1)) ∧ (decode k_Md_near 5 = .ok (.aload_n 0, 1))) ∧ ((decode k_Md_near 6 = .ok (.getfield 123, 3)) ∧ (decode k_Md_near 9 = .ok (.if_icmp .ge 48, 3))))) ∧ ((((decode k_Md_near 12 = .ok (.iload_n 3, 1)) ∧ (decode k_Md_near 13 = .ok (.iconst 1, 1))) ∧ ((decode k_Md_near 14 = .ok (.iadd, 1)) ∧ (decode k_Md_near 15 = .ok (.istore 4, 2)))) ∧ (((decode k_Md_near 17 = .ok (.iload 4, 2)) ∧ (decode k_Md_near 19 = .ok (.aload_n 0, 1))) ∧ ((decode k_Md_near 20 = .ok (.getfield 123, 3)) ∧ (decode k_Md_near 23 = .ok (.if_icmp .ge 28, 3))))) := by decide +kernel
theorem D_Md_near_1 : ((((decode k_Md_near 26 = .ok (.iload_n 2, 1)) ∧ (decode k_Md_near 27 = .ok (.aload_n 0, 1))) ∧ ((decode k_Md_near 28 = .ok (.iload_n 3, 1)) ∧ (decode k_Md_near 29 = .ok (.iload 4, 2)))) ∧ (((decode k_Md_near 31 = .ok (.iload_n 1, 1)) ∧ (decode k_Md_near 32 = .ok (.invokevirtual 289, 3))) ∧ ((decode k_Md_near 35 = .ok (.ifCond .eq 7, 3)) ∧ (decode k_Md_near 38 = .ok (.iconst 1, 1))))) ∧ ((((decode k_Md_near 39 = .ok (.goto 4, 3)) ∧ (decode k_Md_near 42 = .ok (.iconst 0, 1))) ∧ ((decode k_Md_near 43 = .ok (.iadd, 1)) ∧ (decode k_Md_near 44 = .ok (.istore_n 2, 1)))) ∧ (((decode k_Md_near 45 = .ok (.iinc 4 1, 3)) ∧ (decode k_Md_near 48 = .ok (.goto (-31), 3))) ∧ ((decode k_Md_near 51 = .ok (.iinc 3 1, 3)) ∧ (decode k_Md_near 54 = .ok (.goto (-50), 3))))) := by decide +kernel
theorem D_Md_near_2 : (decode k_Md_near 57 = .ok (.iload_n 2, 1)) ∧ (decode k_Md_near 58 = .ok (.ireturn, 1)) := by decide +kernel
theorem D_Md_binds_0 : ((((decode k_Md_binds 0 = .ok (.aload_n 0, 1)) ∧ (decode k_Md_binds 1 = .ok (.invokevirtual 300, 3))) ∧ ((decode k_Md_binds 4 = .ok (.iconst 0, 1)) ∧ (decode k_Md_binds 5 = .ok (.istore_n 1, 1)))) ∧ (((decode k_Md_binds 6 = .ok (.iload_n 1, 1)) ∧ (decode k_Md_binds 7 = .ok (.bipush 8, 2))) ∧ ((decode k_Md_binds 9 = .ok (.if_icmp .ge 16, 3)) ∧ (decode k_Md_binds 12 = .ok (.aload_n 0, 1))))) ∧ ((((decode k_Md_binds 13 = .ok (.getfield 84, 3)) ∧ (decode k_Md_binds 16 = .ok (.iload_n 1, 1))) ∧ ((decode k_Md_binds 17 = .ok (.iconst 0, 1)) ∧ (decode k_Md_binds 18 = .ok (.iastore, 1)))) ∧ (((decode k_Md_binds 19 = .ok (.iinc 1 1, 3)) ∧ (decode k_Md_binds 22 = .ok (.goto (-16), 3))) ∧ ((decode k_Md_binds 25 = .ok (.iconst 0, 1)) ∧ (decode k_Md_binds 26 = .ok (.istore_n 1, 1))))) := by decide +kernel
theorem D_Md_binds_1 : ((((decode k_Md_binds 27 = .ok (.iload_n 1, 1)) ∧ (decode k_Md_binds 28 = .ok (.aload_n 0, 1))) ∧ ((decode k_Md_binds 29 = .ok (.getfield 280, 3)) ∧ (decode k_Md_binds 32 = .ok (.if_icmp .ge 62, 3)))) ∧ (((decode k_Md_binds 35 = .ok (.aload_n 0, 1)) ∧ (decode k_Md_binds 36 = .ok (.getfield 80, 3))) ∧ ((decode k_Md_binds 39 = .ok (.iload_n 1, 1)) ∧ (decode k_Md_binds 40 = .ok (.baload, 1))))) ∧ ((((decode k_Md_binds 41 = .ok (.ifCond .eq 47, 3)) ∧ (decode k_Md_binds 44 = .ok (.aload_n 0, 1))) ∧ ((decode k_Md_binds 45 = .ok (.getfield 84, 3)) ∧ (decode k_Md_binds 48 = .ok (.aload_n 0, 1)))) ∧ (((decode k_Md_binds 49 = .ok (.getfield 68, 3)) ∧ (decode k_Md_binds 52 = .ok (.iload_n 1, 1))) ∧ ((decode k_Md_binds 53 = .ok (.iaload, 1)) ∧ (decode k_Md_binds 54 = .ok (.dup2, 1))))) := by decide +kernel
theorem D_Md_binds_2 : ((((decode k_Md_binds 55 = .ok (.iaload, 1)) ∧ (decode k_Md_binds 56 = .ok (.iconst 1, 1))) ∧ ((decode k_Md_binds 57 = .ok (.aload_n 0, 1)) ∧ (decode k_Md_binds 58 = .ok (.getfield 71, 3)))) ∧ (((decode k_Md_binds 61 = .ok (.iload_n 1, 1)) ∧ (decode k_Md_binds 62 = .ok (.iaload, 1))) ∧ ((decode k_Md_binds 63 = .ok (.ishl, 1)) ∧ (decode k_Md_binds 64 = .ok (.ior, 1))))) ∧ ((((decode k_Md_binds 65 = .ok (.iastore, 1)) ∧ (decode k_Md_binds 66 = .ok (.aload_n 0, 1))) ∧ ((decode k_Md_binds 67 = .ok (.getfield 84, 3)) ∧ (decode k_Md_binds 70 = .ok (.aload_n 0, 1)))) ∧ (((decode k_Md_binds 71 = .ok (.getfield 71, 3)) ∧ (decode k_Md_binds 74 = .ok (.iload_n 1, 1))) ∧ ((decode k_Md_binds 75 = .ok (.iaload, 1)) ∧ (decode k_Md_binds 76 = .ok (.dup2, 1))))) := by decide +kernel
theorem D_Md_binds_3 : (((decode k_Md_binds 77 = .ok (.iaload, 1)) ∧ ((decode k_Md_binds 78 = .ok (.iconst 1, 1)) ∧ (decode k_Md_binds 79 = .ok (.aload_n 0, 1)))) ∧ ((decode k_Md_binds 80 = .ok (.getfield 68, 3)) ∧ ((decode k_Md_binds 83 = .ok (.iload_n 1, 1)) ∧ (decode k_Md_binds 84 = .ok (.iaload, 1))))) ∧ (((decode k_Md_binds 85 = .ok (.ishl, 1)) ∧ ((decode k_Md_binds 86 = .ok (.ior, 1)) ∧ (decode k_Md_binds 87 = .ok (.iastore, 1)))) ∧ ((decode k_Md_binds 88 = .ok (.iinc 1 1, 3)) ∧ ((decode k_Md_binds 91 = .ok (.goto (-64), 3)) ∧ (decode k_Md_binds 94 = .ok (.return_, 1))))) := by decide +kernel
theorem D_Md_common_0 : ((((decode k_Md_common 0 = .ok (.iconst 1, 1)) ∧ (decode k_Md_common 1 = .ok (.aload_n 0, 1))) ∧ ((decode k_Md_common 2 = .ok (.getfield 123, 3)) ∧ (decode k_Md_common 5 = .ok (.ishl, 1)))) ∧ (((decode k_Md_common 6 = .ok (.iconst 1, 1)) ∧ (decode k_Md_common 7 = .ok (.isub, 1))) ∧ ((decode k_Md_common 8 = .ok (.istore_n 2, 1)) ∧ (decode k_Md_common 9 = .ok (.iconst 0, 1))))) ∧ ((((decode k_Md_common 10 = .ok (.istore_n 3, 1)) ∧ (decode k_Md_common 11 = .ok (.iload_n 3, 1))) ∧ ((decode k_Md_common 12 = .ok (.aload_n 0, 1)) ∧ (decode k_Md_common 13 = .ok (.getfield 123, 3)))) ∧ (((decode k_Md_common 16 = .ok (.if_icmp .ge 31, 3)) ∧ (decode k_Md_common 19 = .ok (.iload_n 2, 1))) ∧ ((decode k_Md_common 20 = .ok (.iload_n 1, 1)) ∧ (decode k_Md_common 21 = .ok (.iload_n 3, 1))))) := by decide +kernel
theorem D_Md_common_1 : ((((decode k_Md_common 22 = .ok (.ishr, 1)) ∧ (decode k_Md_common 23 = .ok (.iconst 1, 1))) ∧ ((decode k_Md_common 24 = .ok (.iand, 1)) ∧ (decode k_Md_common 25 = .ok (.iconst 1, 1)))) ∧ (((decode k_Md_common 26 = .ok (.if_icmp .ne 12, 3)) ∧ (decode k_Md_common 29 = .ok (.aload_n 0, 1))) ∧ ((decode k_Md_common 30 = .ok (.getfield 84, 3)) ∧ (decode k_Md_common 33 = .ok (.iload_n 3, 1))))) ∧ ((((decode k_Md_common 34 = .ok (.iaload, 1)) ∧ (decode k_Md_common 35 = .ok (.goto 4, 3))) ∧ ((decode k_Md_common 38 = .ok (.iconst (-1), 1)) ∧ (decode k_Md_common 39 = .ok (.iand, 1)))) ∧ (((decode k_Md_common 40 = .ok (.istore_n 2, 1)) ∧ (decode k_Md_common 41 = .ok (.iinc 3 1, 3))) ∧ ((decode k_Md_common 44 = .ok (.goto (-33), 3)) ∧ (decode k_Md_common 47 = .ok (.iload_n 2, 1))))) := by decide +kernel
theorem D_Md_common_2 : decode k_Md_common 48 = .ok (.ireturn, 1) := by decide +kernel
theorem D_Md_isGroup_0 : ((((decode k_Md_isGroup 0 = .ok (.iload_n 1, 1)) ∧ (decode k_Md_isGroup 1 = .ok (.iload_n 1, 1))) ∧ ((decode k_Md_isGroup 2 = .ok (.iconst 1, 1)) ∧ (decode k_Md_isGroup 3 = .ok (.isub, 1)))) ∧ (((decode k_Md_isGroup 4 = .ok (.iand, 1)) ∧ (decode k_Md_isGroup 5 = .ok (.ifCond .eq 11, 3))) ∧ ((decode k_Md_isGroup 8 = .ok (.aload_n 0, 1)) ∧ (decode k_Md_isGroup 9 = .ok (.iload_n 1, 1))))) ∧ ((((decode k_Md_isGroup 10 = .ok (.invokevirtual 303, 3)) ∧ (decode k_Md_isGroup 13 = .ok (.ifCond .eq 5, 3))) ∧ ((decode k_Md_isGroup 16 = .ok (.iconst 0, 1)) ∧ (decode k_Md_isGroup 17 = .ok (.ireturn, 1)))) ∧ (((decode k_Md_isGroup 18 = .ok (.iconst 0, 1)) ∧ (decode k_Md_isGroup 19 = .ok (.istore_n 2, 1))) ∧ ((decode k_Md_isGroup 20 = .ok (.iload_n 2, 1)) ∧ (decode k_Md_isGroup 21 = .ok (.aload_n 0, 1))))) := by decide +kernel
theorem D_Md_isGroup_1 : ((((decode k_Md_isGroup 22 = .ok (.getfield 123, 3)) ∧ (decode k_Md_isGroup 25 = .ok (.if_icmp .ge 39, 3))) ∧ ((decode k_Md_isGroup 28 = .ok (.iload_n 1, 1)) ∧ (decode k_Md_isGroup 29 = .ok (.iload_n 2, 1)))) ∧ (((decode k_Md_isGroup 30 = .ok (.ishr, 1)) ∧ (decode k_Md_isGroup 31 = .ok (.iconst 1, 1))) ∧ ((decode k_Md_isGroup 32 = .ok (.iand, 1)) ∧ (decode k_Md_isGroup 33 = .ok (.iconst 1, 1))))) ∧ ((((decode k_Md_isGroup 34 = .ok (.if_icmp .ne 24, 3)) ∧ (decode k_Md_isGroup 37 = .ok (.iload_n 1, 1))) ∧ ((decode k_Md_isGroup 38 = .ok (.aload_n 0, 1)) ∧ (decode k_Md_isGroup 39 = .ok (.getfield 84, 3)))) ∧ (((decode k_Md_isGroup 42 = .ok (.iload_n 2, 1)) ∧ (decode k_Md_isGroup 43 = .ok (.iaload, 1))) ∧ ((decode k_Md_isGroup 44 = .ok (.iconst (-1), 1)) ∧ (decode k_Md_isGroup 45 = .ok (.ixor, 1))))) := by decide +kernel
theorem D_Md_isGroup_2 : (((decode k_Md_isGroup 46 = .ok (.iand, 1)) ∧ ((decode k_Md_isGroup 47 = .ok (.iconst 1, 1)) ∧ (decode k_Md_isGroup 48 = .ok (.iload_n 2, 1)))) ∧ (((decode k_Md_isGroup 49 = .ok (.ishl, 1)) ∧ (decode k_Md_isGroup 50 = .ok (.iconst (-1), 1))) ∧ ((decode k_Md_isGroup 51 = .ok (.ixor, 1)) ∧ (decode k_Md_isGroup 52 = .ok (.iand, 1))))) ∧ (((decode k_Md_isGroup 53 = .ok (.ifCond .eq 5, 3)) ∧ ((decode k_Md_isGroup 56 = .ok (.iconst 0, 1)) ∧ (decode k_Md_isGroup 57 = .ok (.ireturn, 1)))) ∧ (((decode k_Md_isGroup 58 = .ok (.iinc 2 1, 3)) ∧ (decode k_Md_isGroup 61 = .ok (.goto (-41), 3))) ∧ ((decode k_Md_isGroup 64 = .ok (.iconst 1, 1)) ∧ (decode k_Md_isGroup 65 = .ok (.ireturn, 1))))) := by decide +kernel
theorem D_Md_grouped_0 : ((((decode k_Md_grouped 0 = .ok (.aload_n 0, 1)) ∧ (decode k_Md_grouped 1 = .ok (.invokevirtual 306, 3))) ∧ ((decode k_Md_grouped 4 = .ok (.iconst 0, 1)) ∧ (decode k_Md_grouped 5 = .ok (.istore_n 2, 1)))) ∧ (((decode k_Md_grouped 6 = .ok (.iconst 1, 1)) ∧ (decode k_Md_grouped 7 = .ok (.istore_n 3, 1))) ∧ ((decode k_Md_grouped 8 = .ok (.iload_n 3, 1)) ∧ (decode k_Md_grouped 9 = .ok (.iconst 1, 1))))) ∧ ((((decode k_Md_grouped 10 = .ok (.aload_n 0, 1)) ∧ (decode k_Md_grouped 11 = .ok (.getfield 123, 3))) ∧ ((decode k_Md_grouped 14 = .ok (.ishl, 1)) ∧ (decode k_Md_grouped 15 = .ok (.if_icmp .ge 27, 3)))) ∧ (((decode k_Md_grouped 18 = .ok (.aload_n 0, 1)) ∧ (decode k_Md_grouped 19 = .ok (.iload_n 3, 1))) ∧ ((decode k_Md_grouped 20 = .ok (.invokevirtual 309, 3)) ∧ (decode k_Md_grouped 23 = .ok (.ifCond .eq 13, 3))))) := by decide +kernel
theorem D_Md_grouped_1 : (((decode k_Md_grouped 26 = .ok (.iload_n 2, 1)) ∧ ((decode k_Md_grouped 27 = .ok (.iload_n 1, 1)) ∧ (decode k_Md_grouped 28 = .ok (.if_icmp .ne 5, 3)))) ∧ (((decode k_Md_grouped 31 = .ok (.iload_n 3, 1)) ∧ (decode k_Md_grouped 32 = .ok (.ireturn, 1))) ∧ ((decode k_Md_grouped 33 = .ok (.iinc 2 1, 3)) ∧ (decode k_Md_grouped 36 = .ok (.iinc 3 1, 3))))) ∧ (((decode k_Md_grouped 39 = .ok (.goto (-31), 3)) ∧ ((decode k_Md_grouped 42 = .ok (.iload_n 1, 1)) ∧ (decode k_Md_grouped 43 = .ok (.ifCond .ge 7, 3)))) ∧ (((decode k_Md_grouped 46 = .ok (.iload_n 2, 1)) ∧ (decode k_Md_grouped 47 = .ok (.goto 5, 3))) ∧ ((decode k_Md_grouped 50 = .ok (.bipush (-5), 2)) ∧ (decode k_Md_grouped 52 = .ok (.ireturn, 1))))) := by decide +kernel
theorem D_Md_greatest_0 : ((((decode k_Md_greatest 0 = .ok (.aload_n 0, 1)) ∧ (decode k_Md_greatest 1 = .ok (.invokevirtual 306, 3))) ∧ ((decode k_Md_greatest 4 = .ok (.iconst 0, 1)) ∧ (decode k_Md_greatest 5 = .ok (.istore_n 1, 1)))) ∧ (((decode k_Md_greatest 6 = .ok (.iconst 1, 1)) ∧ (decode k_Md_greatest 7 = .ok (.istore_n 2, 1))) ∧ ((decode k_Md_greatest 8 = .ok (.iload_n 2, 1)) ∧ (decode k_Md_greatest 9 = .ok (.iconst 1, 1))))) ∧ ((((decode k_Md_greatest 10 = .ok (.aload_n 0, 1)) ∧ (decode k_Md_greatest 11 = .ok (.getfield 123, 3))) ∧ ((decode k_Md_greatest 14 = .ok (.ishl, 1)) ∧ (decode k_Md_greatest 15 = .ok (.if_icmp .ge 26, 3)))) ∧ (((decode k_Md_greatest 18 = .ok (.aload_n 0, 1)) ∧ (decode k_Md_greatest 19 = .ok (.iload_n 2, 1))) ∧ ((decode k_Md_greatest 20 = .ok (.invokevirtual 309, 3)) ∧ (decode k_Md_greatest 23 = .ok (.ifCond .eq 12, 3))))) := by decide +kernel
theorem D_Md_greatest_1 : (((decode k_Md_greatest 26 = .ok (.iload_n 1, 1)) ∧ (decode k_Md_greatest 27 = .ok (.iload_n 2, 1))) ∧ ((decode k_Md_greatest 28 = .ok (.invokestatic 312, 3)) ∧ (decode k_Md_greatest 31 = .ok (.invokestatic 317, 3)))) ∧ (((decode k_Md_greatest 34 = .ok (.istore_n 1, 1)) ∧ (decode k_Md_greatest 35 = .ok (.iinc 2 1, 3))) ∧ ((decode k_Md_greatest 38 = .ok (.goto (-30), 3)) ∧ ((decode k_Md_greatest 41 = .ok (.iload_n 1, 1)) ∧ (decode k_Md_greatest 42 = .ok (.ireturn, 1))))) := by decide +kernel
theorem D_Md_pairs_0 : ((((decode k_Md_pairs 0 = .ok (.iload_n 1, 1)) ∧ (decode k_Md_pairs 1 = .ok (.i2l, 1))) ∧ ((decode k_Md_pairs 2 = .ok (.lconst 0, 1)) ∧ (decode k_Md_pairs 3 = .ok (.ldc2_w 205, 3)))) ∧ (((decode k_Md_pairs 6 = .ok (.invokestatic 119, 3)) ∧ (decode k_Md_pairs 9 = .ok (.ifCond .ne 5, 3))) ∧ ((decode k_Md_pairs 12 = .ok (.iconst (-1), 1)) ∧ (decode k_Md_pairs 13 = .ok (.ireturn, 1))))) ∧ ((((decode k_Md_pairs 14 = .ok (.iload_n 1, 1)) ∧ (decode k_Md_pairs 15 = .ok (.iconst 2, 1))) ∧ ((decode k_Md_pairs 16 = .ok (.if_icmp .ne 18, 3)) ∧ (decode k_Md_pairs 19 = .ok (.iload_n 2, 1)))) ∧ (((decode k_Md_pairs 20 = .ok (.i2l, 1)) ∧ (decode k_Md_pairs 21 = .ok (.lconst 0, 1))) ∧ ((decode k_Md_pairs 22 = .ok (.ldc2_w 170, 3)) ∧ (decode k_Md_pairs 25 = .ok (.invokestatic 119, 3))))) := by decide +kernel
theorem D_Md_pairs_1 : ((((decode k_Md_pairs 28 = .ok (.ifCond .ne 6, 3)) ∧ (decode k_Md_pairs 31 = .ok (.bipush (-2), 2))) ∧ ((decode k_Md_pairs 33 = .ok (.ireturn, 1)) ∧ (decode k_Md_pairs 34 = .ok (.iload_n 1, 1)))) ∧ (((decode k_Md_pairs 35 = .ok (.tableswitch 55 0 3 #[29, 38, 43, 49], 29)) ∧ (decode k_Md_pairs 64 = .ok (.aload_n 0, 1))) ∧ ((decode k_Md_pairs 65 = .ok (.invokevirtual 300, 3)) ∧ (decode k_Md_pairs 68 = .ok (.aload_n 0, 1))))) ∧ ((((decode k_Md_pairs 69 = .ok (.getfield 280, 3)) ∧ (decode k_Md_pairs 72 = .ok (.ireturn, 1))) ∧ ((decode k_Md_pairs 73 = .ok (.aload_n 0, 1)) ∧ (decode k_Md_pairs 74 = .ok (.invokevirtual 320, 3)))) ∧ (((decode k_Md_pairs 77 = .ok (.ireturn, 1)) ∧ (decode k_Md_pairs 78 = .ok (.aload_n 0, 1))) ∧ ((decode k_Md_pairs 79 = .ok (.iload_n 2, 1)) ∧ (decode k_Md_pairs 80 = .ok (.invokevirtual 323, 3))))) := by decide +kernel
theorem D_Md_pairs_2 : (((decode k_Md_pairs 83 = .ok (.ireturn, 1)) ∧ (decode k_Md_pairs 84 = .ok (.aload_n 0, 1))) ∧ ((decode k_Md_pairs 85 = .ok (.iconst (-1), 1)) ∧ (decode k_Md_pairs 86 = .ok (.invokevirtual 326, 3)))) ∧ (((decode k_Md_pairs 89 = .ok (.ireturn, 1)) ∧ (decode k_Md_pairs 90 = .ok (.aload_n 0, 1))) ∧ ((decode k_Md_pairs 91 = .ok (.invokevirtual 329, 3)) ∧ (decode k_Md_pairs 94 = .ok (.ireturn, 1)))) := by decide +kernel
theorem D_Md_pair_0 : ((((decode k_Md_pair 0 = .ok (.iload_n 2, 1)) ∧ (decode k_Md_pair 1 = .ok (.i2l, 1))) ∧ ((decode k_Md_pair 2 = .ok (.lconst 0, 1)) ∧ (decode k_Md_pair 3 = .ok (.ldc2_w 203, 3)))) ∧ (((decode k_Md_pair 6 = .ok (.invokestatic 119, 3)) ∧ (decode k_Md_pair 9 = .ok (.ifCond .ne 5, 3))) ∧ ((decode k_Md_pair 12 = .ok (.iconst (-1), 1)) ∧ (decode k_Md_pair 13 = .ok (.ireturn, 1))))) ∧ ((((decode k_Md_pair 14 = .ok (.aload_n 0, 1)) ∧ (decode k_Md_pair 15 = .ok (.invokevirtual 300, 3))) ∧ ((decode k_Md_pair 18 = .ok (.iload_n 1, 1)) ∧ (decode k_Md_pair 19 = .ok (.i2l, 1)))) ∧ (((decode k_Md_pair 20 = .ok (.lconst 0, 1)) ∧ (decode k_Md_pair 21 = .ok (.aload_n 0, 1))) ∧ ((decode k_Md_pair 22 = .ok (.getfield 280, 3)) ∧ (decode k_Md_pair 25 = .ok (.iconst 1, 1))))) := by decide +kernel
theorem D_Md_pair_1 : ((((decode k_Md_pair 26 = .ok (.isub, 1)) ∧ (decode k_Md_pair 27 = .ok (.i2l, 1))) ∧ ((decode k_Md_pair 28 = .ok (.invokestatic 119, 3)) ∧ (decode k_Md_pair 31 = .ok (.ifCond .ne 6, 3)))) ∧ (((decode k_Md_pair 34 = .ok (.bipush (-2), 2)) ∧ (decode k_Md_pair 36 = .ok (.ireturn, 1))) ∧ ((decode k_Md_pair 37 = .ok (.iload_n 2, 1)) ∧ (decode k_Md_pair 38 = .ok (.ifCond .ne 12, 3))))) ∧ ((((decode k_Md_pair 41 = .ok (.aload_n 0, 1)) ∧ (decode k_Md_pair 42 = .ok (.getfield 68, 3))) ∧ ((decode k_Md_pair 45 = .ok (.iload_n 1, 1)) ∧ (decode k_Md_pair 46 = .ok (.iaload, 1)))) ∧ (((decode k_Md_pair 47 = .ok (.goto 31, 3)) ∧ (decode k_Md_pair 50 = .ok (.iload_n 2, 1))) ∧ ((decode k_Md_pair 51 = .ok (.iconst 1, 1)) ∧ (decode k_Md_pair 52 = .ok (.if_icmp .ne 12, 3))))) := by decide +kernel
theorem D_Md_pair_2 : (((decode k_Md_pair 55 = .ok (.aload_n 0, 1)) ∧ ((decode k_Md_pair 56 = .ok (.getfield 71, 3)) ∧ (decode k_Md_pair 59 = .ok (.iload_n 1, 1)))) ∧ (((decode k_Md_pair 60 = .ok (.iaload, 1)) ∧ (decode k_Md_pair 61 = .ok (.goto 17, 3))) ∧ ((decode k_Md_pair 64 = .ok (.aload_n 0, 1)) ∧ (decode k_Md_pair 65 = .ok (.getfield 80, 3))))) ∧ (((decode k_Md_pair 68 = .ok (.iload_n 1, 1)) ∧ ((decode k_Md_pair 69 = .ok (.baload, 1)) ∧ (decode k_Md_pair 70 = .ok (.ifCond .eq 7, 3)))) ∧ (((decode k_Md_pair 73 = .ok (.iconst 1, 1)) ∧ (decode k_Md_pair 74 = .ok (.goto 4, 3))) ∧ ((decode k_Md_pair 77 = .ok (.iconst 0, 1)) ∧ (decode k_Md_pair 78 = .ok (.ireturn, 1))))) := by decide +kernel
theorem D_Md_pairOdds_0 : ((((decode k_Md_pairOdds 0 = .ok (.iload_n 2, 1)) ∧ (decode k_Md_pairOdds 1 = .ok (.i2l, 1))) ∧ ((decode k_Md_pairOdds 2 = .ok (.lconst 0, 1)) ∧ (decode k_Md_pairOdds 3 = .ok (.lconst 1, 1)))) ∧ (((decode k_Md_pairOdds 4 = .ok (.invokestatic 119, 3)) ∧ (decode k_Md_pairOdds 7 = .ok (.ifCond .ne 7, 3))) ∧ ((decode k_Md_pairOdds 10 = .ok (.ldc2_w 259, 3)) ∧ (decode k_Md_pairOdds 13 = .ok (.lreturn, 1))))) ∧ ((((decode k_Md_pairOdds 14 = .ok (.aload_n 0, 1)) ∧ (decode k_Md_pairOdds 15 = .ok (.invokevirtual 300, 3))) ∧ ((decode k_Md_pairOdds 18 = .ok (.iload_n 1, 1)) ∧ (decode k_Md_pairOdds 19 = .ok (.i2l, 1)))) ∧ (((decode k_Md_pairOdds 20 = .ok (.lconst 0, 1)) ∧ (decode k_Md_pairOdds 21 = .ok (.aload_n 0, 1))) ∧ ((decode k_Md_pairOdds 22 = .ok (.getfield 280, 3)) ∧ (decode k_Md_pairOdds 25 = .ok (.iconst 1, 1))))) := by decide +kernel
theorem D_Md_pairOdds_1 : ((((decode k_Md_pairOdds 26 = .ok (.isub, 1)) ∧ (decode k_Md_pairOdds 27 = .ok (.i2l, 1))) ∧ ((decode k_Md_pairOdds 28 = .ok (.invokestatic 119, 3)) ∧ (decode k_Md_pairOdds 31 = .ok (.ifCond .eq 22, 3)))) ∧ (((decode k_Md_pairOdds 34 = .ok (.aload_n 0, 1)) ∧ (decode k_Md_pairOdds 35 = .ok (.getfield 74, 3))) ∧ ((decode k_Md_pairOdds 38 = .ok (.iload_n 1, 1)) ∧ (decode k_Md_pairOdds 39 = .ok (.laload, 1))))) ∧ ((((decode k_Md_pairOdds 40 = .ok (.aload_n 0, 1)) ∧ (decode k_Md_pairOdds 41 = .ok (.getfield 77, 3))) ∧ ((decode k_Md_pairOdds 44 = .ok (.iload_n 1, 1)) ∧ (decode k_Md_pairOdds 45 = .ok (.laload, 1)))) ∧ (((decode k_Md_pairOdds 46 = .ok (.iload_n 2, 1)) ∧ (decode k_Md_pairOdds 47 = .ok (.invokestatic 265, 3))) ∧ ((decode k_Md_pairOdds 50 = .ok (.goto 6, 3)) ∧ (decode k_Md_pairOdds 53 = .ok (.ldc2_w 259, 3))))) := by decide +kernel
theorem D_Md_pairOdds_2 : decode k_Md_pairOdds 56 = .ok (.lreturn, 1) := by decide +kernel
theorem D_Md_ranked_0 : ((((decode k_Md_ranked 0 = .ok (.iconst 0, 1)) ∧ (decode k_Md_ranked 1 = .ok (.istore_n 3, 1))) ∧ ((decode k_Md_ranked 2 = .ok (.iload_n 3, 1)) ∧ (decode k_Md_ranked 3 = .ok (.aload_n 0, 1)))) ∧ (((decode k_Md_ranked 4 = .ok (.getfield 280, 3)) ∧ (decode k_Md_ranked 7 = .ok (.if_icmp .ge 39, 3))) ∧ ((decode k_Md_ranked 10 = .ok (.aload_n 0, 1)) ∧ (decode k_Md_ranked 11 = .ok (.getfield 68, 3))))) ∧ ((((decode k_Md_ranked 14 = .ok (.iload_n 3, 1)) ∧ (decode k_Md_ranked 15 = .ok (.iaload, 1))) ∧ ((decode k_Md_ranked 16 = .ok (.iload_n 1, 1)) ∧ (decode k_Md_ranked 17 = .ok (.iload_n 2, 1)))) ∧ (((decode k_Md_ranked 18 = .ok (.invokestatic 332, 3)) ∧ (decode k_Md_ranked 21 = .ok (.if_icmp .ne 19, 3))) ∧ ((decode k_Md_ranked 24 = .ok (.aload_n 0, 1)) ∧ (decode k_Md_ranked 25 = .ok (.getfield 71, 3))))) := by decide +kernel
theorem D_Md_ranked_1 : (((decode k_Md_ranked 28 = .ok (.iload_n 3, 1)) ∧ ((decode k_Md_ranked 29 = .ok (.iaload, 1)) ∧ (decode k_Md_ranked 30 = .ok (.iload_n 1, 1)))) ∧ ((decode k_Md_ranked 31 = .ok (.iload_n 2, 1)) ∧ ((decode k_Md_ranked 32 = .ok (.invokestatic 317, 3)) ∧ (decode k_Md_ranked 35 = .ok (.if_icmp .ne 5, 3))))) ∧ (((decode k_Md_ranked 38 = .ok (.iload_n 3, 1)) ∧ ((decode k_Md_ranked 39 = .ok (.ireturn, 1)) ∧ (decode k_Md_ranked 40 = .ok (.iinc 3 1, 3)))) ∧ ((decode k_Md_ranked 43 = .ok (.goto (-41), 3)) ∧ ((decode k_Md_ranked 46 = .ok (.bipush (-5), 2)) ∧ (decode k_Md_ranked 48 = .ok (.ireturn, 1))))) := by decide +kernel
theorem D_Md_rank_0 : (((decode k_Md_rank 0 = .ok (.aload_n 0, 1)) ∧ ((decode k_Md_rank 1 = .ok (.iload_n 1, 1)) ∧ (decode k_Md_rank 2 = .ok (.iload_n 2, 1)))) ∧ (((decode k_Md_rank 3 = .ok (.invokevirtual 230, 3)) ∧ (decode k_Md_rank 6 = .ok (.ifCond .ne 5, 3))) ∧ ((decode k_Md_rank 9 = .ok (.iconst (-1), 1)) ∧ (decode k_Md_rank 10 = .ok (.ireturn, 1))))) ∧ (((decode k_Md_rank 11 = .ok (.aload_n 0, 1)) ∧ ((decode k_Md_rank 12 = .ok (.invokevirtual 300, 3)) ∧ (decode k_Md_rank 15 = .ok (.aload_n 0, 1)))) ∧ (((decode k_Md_rank 16 = .ok (.iload_n 1, 1)) ∧ (decode k_Md_rank 17 = .ok (.iload_n 2, 1))) ∧ ((decode k_Md_rank 18 = .ok (.invokevirtual 335, 3)) ∧ (decode k_Md_rank 21 = .ok (.ireturn, 1))))) := by decide +kernel
theorem D_Md_linked_0 : (((decode k_Md_linked 0 = .ok (.aload_n 0, 1)) ∧ ((decode k_Md_linked 1 = .ok (.iload_n 1, 1)) ∧ (decode k_Md_linked 2 = .ok (.invokevirtual 126, 3)))) ∧ ((decode k_Md_linked 5 = .ok (.ifCond .ne 5, 3)) ∧ ((decode k_Md_linked 8 = .ok (.iconst (-1), 1)) ∧ (decode k_Md_linked 9 = .ok (.ireturn, 1))))) ∧ (((decode k_Md_linked 10 = .ok (.aload_n 0, 1)) ∧ ((decode k_Md_linked 11 = .ok (.invokevirtual 306, 3)) ∧ (decode k_Md_linked 14 = .ok (.aload_n 0, 1)))) ∧ (((decode k_Md_linked 15 = .ok (.getfield 84, 3)) ∧ (decode k_Md_linked 18 = .ok (.iload_n 1, 1))) ∧ ((decode k_Md_linked 19 = .ok (.iaload, 1)) ∧ (decode k_Md_linked 20 = .ok (.ireturn, 1))))) := by decide +kernel
theorem D_Md_chain_0 : ((((decode k_Md_chain 0 = .ok (.aload_n 0, 1)) ∧ (decode k_Md_chain 1 = .ok (.iload_n 1, 1))) ∧ ((decode k_Md_chain 2 = .ok (.invokevirtual 126, 3)) ∧ (decode k_Md_chain 5 = .ok (.ifCond .ne 5, 3)))) ∧ (((decode k_Md_chain 8 = .ok (.iconst (-1), 1)) ∧ (decode k_Md_chain 9 = .ok (.ireturn, 1))) ∧ ((decode k_Md_chain 10 = .ok (.aload_n 0, 1)) ∧ (decode k_Md_chain 11 = .ok (.invokevirtual 306, 3))))) ∧ ((((decode k_Md_chain 14 = .ok (.iconst 1, 1)) ∧ (decode k_Md_chain 15 = .ok (.iload_n 1, 1))) ∧ ((decode k_Md_chain 16 = .ok (.ishl, 1)) ∧ (decode k_Md_chain 17 = .ok (.istore_n 2, 1)))) ∧ (((decode k_Md_chain 18 = .ok (.iconst 0, 1)) ∧ (decode k_Md_chain 19 = .ok (.istore_n 3, 1))) ∧ ((decode k_Md_chain 20 = .ok (.iload_n 2, 1)) ∧ (decode k_Md_chain 21 = .ok (.iload_n 3, 1))))) := by decide +kernel
theorem D_Md_chain_1 : ((((decode k_Md_chain 22 = .ok (.if_icmp .eq 50, 3)) ∧ (decode k_Md_chain 25 = .ok (.iload_n 2, 1))) ∧ ((decode k_Md_chain 26 = .ok (.istore_n 3, 1)) ∧ (decode k_Md_chain 27 = .ok (.iconst 0, 1)))) ∧ (((decode k_Md_chain 28 = .ok (.istore 4, 2)) ∧ (decode k_Md_chain 30 = .ok (.iload 4, 2))) ∧ ((decode k_Md_chain 32 = .ok (.aload_n 0, 1)) ∧ (decode k_Md_chain 33 = .ok (.getfield 123, 3))))) ∧ ((((decode k_Md_chain 36 = .ok (.if_icmp .ge 33, 3)) ∧ (decode k_Md_chain 39 = .ok (.iload_n 2, 1))) ∧ ((decode k_Md_chain 40 = .ok (.iload_n 2, 1)) ∧ (decode k_Md_chain 41 = .ok (.iload 4, 2)))) ∧ (((decode k_Md_chain 43 = .ok (.ishr, 1)) ∧ (decode k_Md_chain 44 = .ok (.iconst 1, 1))) ∧ ((decode k_Md_chain 45 = .ok (.iand, 1)) ∧ (decode k_Md_chain 46 = .ok (.iconst 1, 1))))) := by decide +kernel
theorem D_Md_chain_2 : (((decode k_Md_chain 47 = .ok (.if_icmp .ne 13, 3)) ∧ ((decode k_Md_chain 50 = .ok (.aload_n 0, 1)) ∧ (decode k_Md_chain 51 = .ok (.getfield 84, 3)))) ∧ (((decode k_Md_chain 54 = .ok (.iload 4, 2)) ∧ (decode k_Md_chain 56 = .ok (.iaload, 1))) ∧ ((decode k_Md_chain 57 = .ok (.goto 4, 3)) ∧ (decode k_Md_chain 60 = .ok (.iconst 0, 1))))) ∧ (((decode k_Md_chain 61 = .ok (.ior, 1)) ∧ ((decode k_Md_chain 62 = .ok (.istore_n 2, 1)) ∧ (decode k_Md_chain 63 = .ok (.iinc 4 1, 3)))) ∧ (((decode k_Md_chain 66 = .ok (.goto (-36), 3)) ∧ (decode k_Md_chain 69 = .ok (.goto (-49), 3))) ∧ ((decode k_Md_chain 72 = .ok (.iload_n 2, 1)) ∧ (decode k_Md_chain 73 = .ok (.ireturn, 1))))) := by decide +kernel
theorem D_Md_group_0 : (((decode k_Md_group 0 = .ok (.iload_n 1, 1)) ∧ (decode k_Md_group 1 = .ok (.ifCond .ge 8, 3))) ∧ ((decode k_Md_group 4 = .ok (.bipush (-2), 2)) ∧ (decode k_Md_group 6 = .ok (.goto 8, 3)))) ∧ (((decode k_Md_group 9 = .ok (.aload_n 0, 1)) ∧ (decode k_Md_group 10 = .ok (.iload_n 1, 1))) ∧ ((decode k_Md_group 11 = .ok (.invokevirtual 326, 3)) ∧ (decode k_Md_group 14 = .ok (.ireturn, 1)))) := by decide +kernel
theorem D_Md_nearNow_0 : ((((decode k_Md_nearNow 0 = .ok (.iconst 0, 1)) ∧ (decode k_Md_nearNow 1 = .ok (.istore_n 2, 1))) ∧ ((decode k_Md_nearNow 2 = .ok (.iconst 0, 1)) ∧ (decode k_Md_nearNow 3 = .ok (.istore_n 3, 1)))) ∧ (((decode k_Md_nearNow 4 = .ok (.iload_n 3, 1)) ∧ (decode k_Md_nearNow 5 = .ok (.aload_n 0, 1))) ∧ ((decode k_Md_nearNow 6 = .ok (.getfield 280, 3)) ∧ (decode k_Md_nearNow 9 = .ok (.if_icmp .ge 92, 3))))) ∧ ((((decode k_Md_nearNow 12 = .ok (.aload_n 0, 1)) ∧ (decode k_Md_nearNow 13 = .ok (.aload_n 0, 1))) ∧ ((decode k_Md_nearNow 14 = .ok (.getfield 68, 3)) ∧ (decode k_Md_nearNow 17 = .ok (.iload_n 3, 1)))) ∧ (((decode k_Md_nearNow 18 = .ok (.iaload, 1)) ∧ (decode k_Md_nearNow 19 = .ok (.invokevirtual 338, 3))) ∧ ((decode k_Md_nearNow 22 = .ok (.istore 4, 2)) ∧ (decode k_Md_nearNow 24 = .ok (.aload_n 0, 1))))) := by decide +kernel
theorem D_Md_nearNow_1 : ((((decode k_Md_nearNow 25 = .ok (.aload_n 0, 1)) ∧ (decode k_Md_nearNow 26 = .ok (.getfield 71, 3))) ∧ ((decode k_Md_nearNow 29 = .ok (.iload_n 3, 1)) ∧ (decode k_Md_nearNow 30 = .ok (.iaload, 1)))) ∧ (((decode k_Md_nearNow 31 = .ok (.invokevirtual 338, 3)) ∧ (decode k_Md_nearNow 34 = .ok (.istore 5, 2))) ∧ ((decode k_Md_nearNow 36 = .ok (.iload_n 2, 1)) ∧ (decode k_Md_nearNow 37 = .ok (.aload_n 0, 1))))) ∧ ((((decode k_Md_nearNow 38 = .ok (.getfield 80, 3)) ∧ (decode k_Md_nearNow 41 = .ok (.iload_n 3, 1))) ∧ ((decode k_Md_nearNow 42 = .ok (.baload, 1)) ∧ (decode k_Md_nearNow 43 = .ok (.ifCond .eq 49, 3)))) ∧ (((decode k_Md_nearNow 46 = .ok (.iload 4, 2)) ∧ (decode k_Md_nearNow 48 = .ok (.ifCond .lt 44, 3))) ∧ ((decode k_Md_nearNow 51 = .ok (.iload 5, 2)) ∧ (decode k_Md_nearNow 53 = .ok (.ifCond .lt 39, 3))))) := by decide +kernel
theorem D_Md_nearNow_2 : ((((decode k_Md_nearNow 56 = .ok (.aload_n 0, 1)) ∧ (decode k_Md_nearNow 57 = .ok (.aload_n 0, 1))) ∧ ((decode k_Md_nearNow 58 = .ok (.getfield 87, 3)) ∧ (decode k_Md_nearNow 61 = .ok (.aload_n 0, 1)))) ∧ (((decode k_Md_nearNow 62 = .ok (.getfield 90, 3)) ∧ (decode k_Md_nearNow 65 = .ok (.iload 4, 2))) ∧ ((decode k_Md_nearNow 67 = .ok (.iaload, 1)) ∧ (decode k_Md_nearNow 68 = .ok (.iaload, 1))))) ∧ ((((decode k_Md_nearNow 69 = .ok (.aload_n 0, 1)) ∧ (decode k_Md_nearNow 70 = .ok (.getfield 87, 3))) ∧ ((decode k_Md_nearNow 73 = .ok (.aload_n 0, 1)) ∧ (decode k_Md_nearNow 74 = .ok (.getfield 90, 3)))) ∧ (((decode k_Md_nearNow 77 = .ok (.iload 5, 2)) ∧ (decode k_Md_nearNow 79 = .ok (.iaload, 1))) ∧ ((decode k_Md_nearNow 80 = .ok (.iaload, 1)) ∧ (decode k_Md_nearNow 81 = .ok (.iload_n 1, 1))))) := by decide +kernel
theorem D_Md_nearNow_3 : (((decode k_Md_nearNow 82 = .ok (.invokevirtual 289, 3)) ∧ (decode k_Md_nearNow 85 = .ok (.ifCond .eq 7, 3))) ∧ ((decode k_Md_nearNow 88 = .ok (.iconst 1, 1)) ∧ ((decode k_Md_nearNow 89 = .ok (.goto 4, 3)) ∧ (decode k_Md_nearNow 92 = .ok (.iconst 0, 1))))) ∧ (((decode k_Md_nearNow 93 = .ok (.iadd, 1)) ∧ ((decode k_Md_nearNow 94 = .ok (.istore_n 2, 1)) ∧ (decode k_Md_nearNow 95 = .ok (.iinc 3 1, 3)))) ∧ ((decode k_Md_nearNow 98 = .ok (.goto (-94), 3)) ∧ ((decode k_Md_nearNow 101 = .ok (.iload_n 2, 1)) ∧ (decode k_Md_nearNow 102 = .ok (.ireturn, 1))))) := by decide +kernel
theorem D_Md_placeOf_0 : ((((decode k_Md_placeOf 0 = .ok (.iconst 0, 1)) ∧ (decode k_Md_placeOf 1 = .ok (.istore_n 2, 1))) ∧ ((decode k_Md_placeOf 2 = .ok (.iload_n 2, 1)) ∧ (decode k_Md_placeOf 3 = .ok (.aload_n 0, 1)))) ∧ (((decode k_Md_placeOf 4 = .ok (.getfield 341, 3)) ∧ (decode k_Md_placeOf 7 = .ok (.if_icmp .ge 21, 3))) ∧ ((decode k_Md_placeOf 10 = .ok (.aload_n 0, 1)) ∧ (decode k_Md_placeOf 11 = .ok (.getfield 87, 3))))) ∧ ((((decode k_Md_placeOf 14 = .ok (.iload_n 2, 1)) ∧ (decode k_Md_placeOf 15 = .ok (.iaload, 1))) ∧ ((decode k_Md_placeOf 16 = .ok (.iload_n 1, 1)) ∧ (decode k_Md_placeOf 17 = .ok (.if_icmp .ne 5, 3)))) ∧ (((decode k_Md_placeOf 20 = .ok (.iload_n 2, 1)) ∧ (decode k_Md_placeOf 21 = .ok (.ireturn, 1))) ∧ ((decode k_Md_placeOf 22 = .ok (.iinc 2 1, 3)) ∧ (decode k_Md_placeOf 25 = .ok (.goto (-23), 3))))) := by decide +kernel
theorem D_Md_placeOf_1 : (decode k_Md_placeOf 28 = .ok (.iconst (-1), 1)) ∧ (decode k_Md_placeOf 29 = .ok (.ireturn, 1)) := by decide +kernel
theorem D_Md_turns_0 : ((((decode k_Md_turns 0 = .ok (.aload_n 0, 1)) ∧ (decode k_Md_turns 1 = .ok (.getfield 341, 3))) ∧ ((decode k_Md_turns 4 = .ok (.iconst 2, 1)) ∧ (decode k_Md_turns 5 = .ok (.isub, 1)))) ∧ (((decode k_Md_turns 6 = .ok (.istore_n 1, 1)) ∧ (decode k_Md_turns 7 = .ok (.iload_n 1, 1))) ∧ ((decode k_Md_turns 8 = .ok (.ifCond .lt 26, 3)) ∧ (decode k_Md_turns 11 = .ok (.aload_n 0, 1))))) ∧ ((((decode k_Md_turns 12 = .ok (.getfield 90, 3)) ∧ (decode k_Md_turns 15 = .ok (.iload_n 1, 1))) ∧ ((decode k_Md_turns 16 = .ok (.iaload, 1)) ∧ (decode k_Md_turns 17 = .ok (.aload_n 0, 1)))) ∧ (((decode k_Md_turns 18 = .ok (.getfield 90, 3)) ∧ (decode k_Md_turns 21 = .ok (.iload_n 1, 1))) ∧ ((decode k_Md_turns 22 = .ok (.iconst 1, 1)) ∧ (decode k_Md_turns 23 = .ok (.iadd, 1))))) := by decide +kernel
theorem D_Md_turns_1 : ((((decode k_Md_turns 24 = .ok (.iaload, 1)) ∧ (decode k_Md_turns 25 = .ok (.if_icmp .le 9, 3))) ∧ ((decode k_Md_turns 28 = .ok (.iinc 1 (-1), 3)) ∧ (decode k_Md_turns 31 = .ok (.goto (-24), 3)))) ∧ (((decode k_Md_turns 34 = .ok (.iload_n 1, 1)) ∧ (decode k_Md_turns 35 = .ok (.ifCond .ge 5, 3))) ∧ ((decode k_Md_turns 38 = .ok (.iconst 0, 1)) ∧ (decode k_Md_turns 39 = .ok (.ireturn, 1))))) ∧ ((((decode k_Md_turns 40 = .ok (.aload_n 0, 1)) ∧ (decode k_Md_turns 41 = .ok (.getfield 341, 3))) ∧ ((decode k_Md_turns 44 = .ok (.iconst 1, 1)) ∧ (decode k_Md_turns 45 = .ok (.isub, 1)))) ∧ (((decode k_Md_turns 46 = .ok (.istore_n 2, 1)) ∧ (decode k_Md_turns 47 = .ok (.aload_n 0, 1))) ∧ ((decode k_Md_turns 48 = .ok (.getfield 90, 3)) ∧ (decode k_Md_turns 51 = .ok (.iload_n 2, 1))))) := by decide +kernel
theorem D_Md_turns_2 : ((((decode k_Md_turns 52 = .ok (.iaload, 1)) ∧ (decode k_Md_turns 53 = .ok (.aload_n 0, 1))) ∧ ((decode k_Md_turns 54 = .ok (.getfield 90, 3)) ∧ (decode k_Md_turns 57 = .ok (.iload_n 1, 1)))) ∧ (((decode k_Md_turns 58 = .ok (.iaload, 1)) ∧ (decode k_Md_turns 59 = .ok (.if_icmp .ge 9, 3))) ∧ ((decode k_Md_turns 62 = .ok (.iinc 2 (-1), 3)) ∧ (decode k_Md_turns 65 = .ok (.goto (-18), 3))))) ∧ ((((decode k_Md_turns 68 = .ok (.aload_n 0, 1)) ∧ (decode k_Md_turns 69 = .ok (.iload_n 1, 1))) ∧ ((decode k_Md_turns 70 = .ok (.iload_n 2, 1)) ∧ (decode k_Md_turns 71 = .ok (.invokevirtual 344, 3)))) ∧ (((decode k_Md_turns 74 = .ok (.aload_n 0, 1)) ∧ (decode k_Md_turns 75 = .ok (.getfield 341, 3))) ∧ ((decode k_Md_turns 78 = .ok (.iconst 1, 1)) ∧ (decode k_Md_turns 79 = .ok (.isub, 1))))) := by decide +kernel
theorem D_Md_turns_3 : ((((decode k_Md_turns 80 = .ok (.istore_n 3, 1)) ∧ (decode k_Md_turns 81 = .ok (.iload_n 1, 1))) ∧ ((decode k_Md_turns 82 = .ok (.iconst 1, 1)) ∧ (decode k_Md_turns 83 = .ok (.iadd, 1)))) ∧ (((decode k_Md_turns 84 = .ok (.istore 4, 2)) ∧ (decode k_Md_turns 86 = .ok (.iload 4, 2))) ∧ ((decode k_Md_turns 88 = .ok (.iload_n 3, 1)) ∧ (decode k_Md_turns 89 = .ok (.if_icmp .ge 19, 3))))) ∧ ((((decode k_Md_turns 92 = .ok (.aload_n 0, 1)) ∧ (decode k_Md_turns 93 = .ok (.iload 4, 2))) ∧ ((decode k_Md_turns 95 = .ok (.iload_n 3, 1)) ∧ (decode k_Md_turns 96 = .ok (.invokevirtual 344, 3)))) ∧ (((decode k_Md_turns 99 = .ok (.iinc 3 (-1), 3)) ∧ (decode k_Md_turns 102 = .ok (.iinc 4 1, 3))) ∧ ((decode k_Md_turns 105 = .ok (.goto (-19), 3)) ∧ (decode k_Md_turns 108 = .ok (.iconst 1, 1))))) := by decide +kernel
theorem D_Md_turns_4 : decode k_Md_turns 109 = .ok (.ireturn, 1) := by decide +kernel
theorem D_Md_exchange_0 : ((((decode k_Md_exchange 0 = .ok (.aload_n 0, 1)) ∧ (decode k_Md_exchange 1 = .ok (.getfield 90, 3))) ∧ ((decode k_Md_exchange 4 = .ok (.iload_n 1, 1)) ∧ (decode k_Md_exchange 5 = .ok (.iaload, 1)))) ∧ (((decode k_Md_exchange 6 = .ok (.istore_n 3, 1)) ∧ (decode k_Md_exchange 7 = .ok (.aload_n 0, 1))) ∧ ((decode k_Md_exchange 8 = .ok (.getfield 90, 3)) ∧ (decode k_Md_exchange 11 = .ok (.iload_n 1, 1))))) ∧ ((((decode k_Md_exchange 12 = .ok (.aload_n 0, 1)) ∧ (decode k_Md_exchange 13 = .ok (.getfield 90, 3))) ∧ ((decode k_Md_exchange 16 = .ok (.iload_n 2, 1)) ∧ (decode k_Md_exchange 17 = .ok (.iaload, 1)))) ∧ (((decode k_Md_exchange 18 = .ok (.iastore, 1)) ∧ (decode k_Md_exchange 19 = .ok (.aload_n 0, 1))) ∧ ((decode k_Md_exchange 20 = .ok (.getfield 90, 3)) ∧ (decode k_Md_exchange 23 = .ok (.iload_n 2, 1))))) := by decide +kernel
theorem D_Md_exchange_1 : (decode k_Md_exchange 24 = .ok (.iload_n 3, 1)) ∧ ((decode k_Md_exchange 25 = .ok (.iastore, 1)) ∧ (decode k_Md_exchange 26 = .ok (.return_, 1))) := by decide +kernel
theorem D_Md_seated_0 : ((((decode k_Md_seated 0 = .ok (.iload_n 1, 1)) ∧ (decode k_Md_seated 1 = .ok (.i2l, 1))) ∧ ((decode k_Md_seated 2 = .ok (.lconst 1, 1)) ∧ (decode k_Md_seated 3 = .ok (.ldc2_w 170, 3)))) ∧ (((decode k_Md_seated 6 = .ok (.invokestatic 119, 3)) ∧ (decode k_Md_seated 9 = .ok (.ifCond .eq 13, 3))) ∧ ((decode k_Md_seated 12 = .ok (.iload_n 2, 1)) ∧ (decode k_Md_seated 13 = .ok (.i2l, 1))))) ∧ ((((decode k_Md_seated 14 = .ok (.lconst 0, 1)) ∧ (decode k_Md_seated 15 = .ok (.lconst 1, 1))) ∧ ((decode k_Md_seated 16 = .ok (.invokestatic 119, 3)) ∧ (decode k_Md_seated 19 = .ok (.ifCond .ne 7, 3)))) ∧ (((decode k_Md_seated 22 = .ok (.ldc2_w 259, 3)) ∧ (decode k_Md_seated 25 = .ok (.lreturn, 1))) ∧ ((decode k_Md_seated 26 = .ok (.aload_n 0, 1)) ∧ (decode k_Md_seated 27 = .ok (.invokevirtual 300, 3))))) := by decide +kernel
theorem D_Md_seated_1 : ((((decode k_Md_seated 30 = .ok (.aload_n 0, 1)) ∧ (decode k_Md_seated 31 = .ok (.iconst 0, 1))) ∧ ((decode k_Md_seated 32 = .ok (.putfield 341, 3)) ∧ (decode k_Md_seated 35 = .ok (.iconst 0, 1)))) ∧ (((decode k_Md_seated 36 = .ok (.istore_n 3, 1)) ∧ (decode k_Md_seated 37 = .ok (.iload_n 3, 1))) ∧ ((decode k_Md_seated 38 = .ok (.aload_n 0, 1)) ∧ (decode k_Md_seated 39 = .ok (.getfield 123, 3))))) ∧ ((((decode k_Md_seated 42 = .ok (.if_icmp .ge 60, 3)) ∧ (decode k_Md_seated 45 = .ok (.aload_n 0, 1))) ∧ ((decode k_Md_seated 46 = .ok (.getfield 341, 3)) ∧ (decode k_Md_seated 49 = .ok (.bipush 6, 2)))) ∧ (((decode k_Md_seated 51 = .ok (.if_icmp .ge 51, 3)) ∧ (decode k_Md_seated 54 = .ok (.aload_n 0, 1))) ∧ ((decode k_Md_seated 55 = .ok (.getfield 28, 3)) ∧ (decode k_Md_seated 58 = .ok (.iload_n 3, 1))))) := by decide +kernel
theorem D_Md_seated_2 : ((((decode k_Md_seated 59 = .ok (.iaload, 1)) ∧ (decode k_Md_seated 60 = .ok (.ifCond .lt 36, 3))) ∧ ((decode k_Md_seated 63 = .ok (.aload_n 0, 1)) ∧ (decode k_Md_seated 64 = .ok (.getfield 87, 3)))) ∧ (((decode k_Md_seated 67 = .ok (.aload_n 0, 1)) ∧ (decode k_Md_seated 68 = .ok (.getfield 341, 3))) ∧ ((decode k_Md_seated 71 = .ok (.iload_n 3, 1)) ∧ (decode k_Md_seated 72 = .ok (.iastore, 1))))) ∧ ((((decode k_Md_seated 73 = .ok (.aload_n 0, 1)) ∧ (decode k_Md_seated 74 = .ok (.getfield 90, 3))) ∧ ((decode k_Md_seated 77 = .ok (.aload_n 0, 1)) ∧ (decode k_Md_seated 78 = .ok (.getfield 341, 3)))) ∧ (((decode k_Md_seated 81 = .ok (.aload_n 0, 1)) ∧ (decode k_Md_seated 82 = .ok (.getfield 341, 3))) ∧ ((decode k_Md_seated 85 = .ok (.iastore, 1)) ∧ (decode k_Md_seated 86 = .ok (.aload_n 0, 1))))) := by decide +kernel
theorem D_Md_seated_3 : ((((decode k_Md_seated 87 = .ok (.dup, 1)) ∧ (decode k_Md_seated 88 = .ok (.getfield 341, 3))) ∧ ((decode k_Md_seated 91 = .ok (.iconst 1, 1)) ∧ (decode k_Md_seated 92 = .ok (.iadd, 1)))) ∧ (((decode k_Md_seated 93 = .ok (.putfield 341, 3)) ∧ (decode k_Md_seated 96 = .ok (.iinc 3 1, 3))) ∧ ((decode k_Md_seated 99 = .ok (.goto (-62), 3)) ∧ (decode k_Md_seated 102 = .ok (.aload_n 0, 1))))) ∧ ((((decode k_Md_seated 103 = .ok (.iload_n 1, 1)) ∧ (decode k_Md_seated 104 = .ok (.invokevirtual 347, 3))) ∧ ((decode k_Md_seated 107 = .ok (.istore_n 3, 1)) ∧ (decode k_Md_seated 108 = .ok (.lconst 1, 1)))) ∧ (((decode k_Md_seated 109 = .ok (.lstore 4, 2)) ∧ (decode k_Md_seated 111 = .ok (.lconst 1, 1))) ∧ ((decode k_Md_seated 112 = .ok (.lstore 6, 2)) ∧ (decode k_Md_seated 114 = .ok (.aload_n 0, 1))))) := by decide +kernel
theorem D_Md_seated_4 : ((((decode k_Md_seated 115 = .ok (.invokevirtual 350, 3)) ∧ (decode k_Md_seated 118 = .ok (.ifCond .eq 31, 3))) ∧ ((decode k_Md_seated 121 = .ok (.lload 4, 2)) ∧ (decode k_Md_seated 123 = .ok (.lconst 1, 1)))) ∧ (((decode k_Md_seated 124 = .ok (.ladd, 1)) ∧ (decode k_Md_seated 125 = .ok (.lstore 4, 2))) ∧ ((decode k_Md_seated 127 = .ok (.lload 6, 2)) ∧ (decode k_Md_seated 129 = .ok (.aload_n 0, 1))))) ∧ ((((decode k_Md_seated 130 = .ok (.iload_n 1, 1)) ∧ (decode k_Md_seated 131 = .ok (.invokevirtual 347, 3))) ∧ ((decode k_Md_seated 134 = .ok (.iload_n 3, 1)) ∧ (decode k_Md_seated 135 = .ok (.if_icmp .lt 7, 3)))) ∧ (((decode k_Md_seated 138 = .ok (.lconst 1, 1)) ∧ (decode k_Md_seated 139 = .ok (.goto 4, 3))) ∧ ((decode k_Md_seated 142 = .ok (.lconst 0, 1)) ∧ (decode k_Md_seated 143 = .ok (.ladd, 1))))) := by decide +kernel
theorem D_Md_seated_5 : ((decode k_Md_seated 144 = .ok (.lstore 6, 2)) ∧ ((decode k_Md_seated 146 = .ok (.goto (-32), 3)) ∧ (decode k_Md_seated 149 = .ok (.lload 6, 2)))) ∧ (((decode k_Md_seated 151 = .ok (.lload 4, 2)) ∧ (decode k_Md_seated 153 = .ok (.iload_n 2, 1))) ∧ ((decode k_Md_seated 154 = .ok (.invokestatic 265, 3)) ∧ (decode k_Md_seated 157 = .ok (.lreturn, 1)))) := by decide +kernel
theorem D_Md_draw_0 : (((decode k_Md_draw 0 = .ok (.aload_n 0, 1)) ∧ ((decode k_Md_draw 1 = .ok (.aload_n 0, 1)) ∧ (decode k_Md_draw 2 = .ok (.getfield 354, 3)))) ∧ (((decode k_Md_draw 5 = .ok (.ldc_w 357, 3)) ∧ (decode k_Md_draw 8 = .ok (.imul, 1))) ∧ ((decode k_Md_draw 9 = .ok (.sipush 12345, 3)) ∧ (decode k_Md_draw 12 = .ok (.iadd, 1))))) ∧ ((((decode k_Md_draw 13 = .ok (.putfield 354, 3)) ∧ (decode k_Md_draw 16 = .ok (.aload_n 0, 1))) ∧ ((decode k_Md_draw 17 = .ok (.getfield 354, 3)) ∧ (decode k_Md_draw 20 = .ok (.bipush 9, 2)))) ∧ (((decode k_Md_draw 22 = .ok (.iushr, 1)) ∧ (decode k_Md_draw 23 = .ok (.iload_n 1, 1))) ∧ ((decode k_Md_draw 24 = .ok (.irem, 1)) ∧ (decode k_Md_draw 25 = .ok (.ireturn, 1))))) := by decide +kernel
theorem D_Md_answersAnew_0 : ((((decode k_Md_answersAnew 0 = .ok (.aload_n 0, 1)) ∧ (decode k_Md_answersAnew 1 = .ok (.aload_n 0, 1))) ∧ ((decode k_Md_answersAnew 2 = .ok (.iload_n 1, 1)) ∧ (decode k_Md_answersAnew 3 = .ok (.iconst (-1), 1)))) ∧ (((decode k_Md_answersAnew 4 = .ok (.iload_n 2, 1)) ∧ (decode k_Md_answersAnew 5 = .ok (.iload_n 3, 1))) ∧ ((decode k_Md_answersAnew 6 = .ok (.invokevirtual 233, 3)) ∧ (decode k_Md_answersAnew 9 = .ok (.invokevirtual 358, 3))))) ∧ ((((decode k_Md_answersAnew 12 = .ok (.istore 4, 2)) ∧ (decode k_Md_answersAnew 14 = .ok (.iconst 0, 1))) ∧ ((decode k_Md_answersAnew 15 = .ok (.istore 5, 2)) ∧ (decode k_Md_answersAnew 17 = .ok (.iload 4, 2)))) ∧ (((decode k_Md_answersAnew 19 = .ok (.aload_n 0, 1)) ∧ (decode k_Md_answersAnew 20 = .ok (.iload_n 1, 1))) ∧ ((decode k_Md_answersAnew 21 = .ok (.iload 5, 2)) ∧ (decode k_Md_answersAnew 23 = .ok (.iload_n 2, 1))))) := by decide +kernel
theorem D_Md_answersAnew_1 : ((((decode k_Md_answersAnew 24 = .ok (.iload_n 3, 1)) ∧ (decode k_Md_answersAnew 25 = .ok (.invokevirtual 227, 3))) ∧ ((decode k_Md_answersAnew 28 = .ok (.if_icmp .lt 23, 3)) ∧ (decode k_Md_answersAnew 31 = .ok (.iload 4, 2)))) ∧ (((decode k_Md_answersAnew 33 = .ok (.aload_n 0, 1)) ∧ (decode k_Md_answersAnew 34 = .ok (.iload_n 1, 1))) ∧ ((decode k_Md_answersAnew 35 = .ok (.iload 5, 2)) ∧ (decode k_Md_answersAnew 37 = .ok (.iload_n 2, 1))))) ∧ ((((decode k_Md_answersAnew 38 = .ok (.iload_n 3, 1)) ∧ (decode k_Md_answersAnew 39 = .ok (.invokevirtual 227, 3))) ∧ ((decode k_Md_answersAnew 42 = .ok (.isub, 1)) ∧ (decode k_Md_answersAnew 43 = .ok (.istore 4, 2)))) ∧ (((decode k_Md_answersAnew 45 = .ok (.iinc 5 1, 3)) ∧ (decode k_Md_answersAnew 48 = .ok (.goto (-31), 3))) ∧ ((decode k_Md_answersAnew 51 = .ok (.iload 5, 2)) ∧ (decode k_Md_answersAnew 53 = .ok (.ireturn, 1))))) := by decide +kernel
theorem D_Md_drawnBy_0 : ((((decode k_Md_drawnBy 0 = .ok (.aload_n 0, 1)) ∧ (decode k_Md_drawnBy 1 = .ok (.iload_n 1, 1))) ∧ ((decode k_Md_drawnBy 2 = .ok (.putfield 354, 3)) ∧ (decode k_Md_drawnBy 5 = .ok (.iconst 0, 1)))) ∧ (((decode k_Md_drawnBy 6 = .ok (.istore 4, 2)) ∧ (decode k_Md_drawnBy 8 = .ok (.iconst 0, 1))) ∧ ((decode k_Md_drawnBy 9 = .ok (.istore 5, 2)) ∧ (decode k_Md_drawnBy 11 = .ok (.iload 5, 2))))) ∧ ((((decode k_Md_drawnBy 13 = .ok (.aload_n 0, 1)) ∧ (decode k_Md_drawnBy 14 = .ok (.getfield 9, 3))) ∧ ((decode k_Md_drawnBy 17 = .ok (.if_icmp .ge 83, 3)) ∧ (decode k_Md_drawnBy 20 = .ok (.aload_n 0, 1)))) ∧ (((decode k_Md_drawnBy 21 = .ok (.getfield 25, 3)) ∧ (decode k_Md_drawnBy 24 = .ok (.bipush 8, 2))) ∧ ((decode k_Md_drawnBy 26 = .ok (.iload_n 2, 1)) ∧ (decode k_Md_drawnBy 27 = .ok (.imul, 1))))) := by decide +kernel
theorem D_Md_drawnBy_1 : ((((decode k_Md_drawnBy 28 = .ok (.iload 5, 2)) ∧ (decode k_Md_drawnBy 30 = .ok (.iadd, 1))) ∧ ((decode k_Md_drawnBy 31 = .ok (.iaload, 1)) ∧ (decode k_Md_drawnBy 32 = .ok (.ifCond .lt 62, 3)))) ∧ (((decode k_Md_drawnBy 35 = .ok (.aload_n 0, 1)) ∧ (decode k_Md_drawnBy 36 = .ok (.getfield 25, 3))) ∧ ((decode k_Md_drawnBy 39 = .ok (.bipush 8, 2)) ∧ (decode k_Md_drawnBy 41 = .ok (.iload_n 3, 1))))) ∧ ((((decode k_Md_drawnBy 42 = .ok (.imul, 1)) ∧ (decode k_Md_drawnBy 43 = .ok (.iload 5, 2))) ∧ ((decode k_Md_drawnBy 45 = .ok (.iadd, 1)) ∧ (decode k_Md_drawnBy 46 = .ok (.iaload, 1)))) ∧ (((decode k_Md_drawnBy 47 = .ok (.ifCond .lt 47, 3)) ∧ (decode k_Md_drawnBy 50 = .ok (.aload_n 0, 1))) ∧ ((decode k_Md_drawnBy 51 = .ok (.iload 5, 2)) ∧ (decode k_Md_drawnBy 53 = .ok (.iload_n 2, 1))))) := by decide +kernel
theorem D_Md_drawnBy_2 : ((((decode k_Md_drawnBy 54 = .ok (.iload_n 3, 1)) ∧ (decode k_Md_drawnBy 55 = .ok (.invokevirtual 361, 3))) ∧ ((decode k_Md_drawnBy 58 = .ok (.istore 6, 2)) ∧ (decode k_Md_drawnBy 60 = .ok (.aload_n 0, 1)))) ∧ (((decode k_Md_drawnBy 61 = .ok (.iload 5, 2)) ∧ (decode k_Md_drawnBy 63 = .ok (.iload_n 2, 1))) ∧ ((decode k_Md_drawnBy 64 = .ok (.iload_n 3, 1)) ∧ (decode k_Md_drawnBy 65 = .ok (.invokevirtual 361, 3))))) ∧ ((((decode k_Md_drawnBy 68 = .ok (.istore 7, 2)) ∧ (decode k_Md_drawnBy 70 = .ok (.iload 4, 2))) ∧ ((decode k_Md_drawnBy 72 = .ok (.iload 6, 2)) ∧ (decode k_Md_drawnBy 74 = .ok (.iload 7, 2)))) ∧ (((decode k_Md_drawnBy 76 = .ok (.if_icmp .ne 14, 3)) ∧ (decode k_Md_drawnBy 79 = .ok (.aload_n 0, 1))) ∧ ((decode k_Md_drawnBy 80 = .ok (.iload 5, 2)) ∧ (decode k_Md_drawnBy 82 = .ok (.iload 6, 2))))) := by decide +kernel
theorem D_Md_drawnBy_3 : (((decode k_Md_drawnBy 84 = .ok (.invokevirtual 236, 3)) ∧ (decode k_Md_drawnBy 87 = .ok (.goto 4, 3))) ∧ ((decode k_Md_drawnBy 90 = .ok (.iconst 0, 1)) ∧ (decode k_Md_drawnBy 91 = .ok (.iadd, 1)))) ∧ (((decode k_Md_drawnBy 92 = .ok (.istore 4, 2)) ∧ (decode k_Md_drawnBy 94 = .ok (.iinc 5 1, 3))) ∧ ((decode k_Md_drawnBy 97 = .ok (.goto (-86), 3)) ∧ ((decode k_Md_drawnBy 100 = .ok (.iload 4, 2)) ∧ (decode k_Md_drawnBy 102 = .ok (.ireturn, 1))))) := by decide +kernel
theorem D_Md_drawn_0 : (((decode k_Md_drawn 0 = .ok (.aload_n 0, 1)) ∧ ((decode k_Md_drawn 1 = .ok (.iload_n 2, 1)) ∧ (decode k_Md_drawn 2 = .ok (.iload_n 3, 1)))) ∧ ((decode k_Md_drawn 3 = .ok (.invokevirtual 230, 3)) ∧ ((decode k_Md_drawn 6 = .ok (.ifCond .eq 13, 3)) ∧ (decode k_Md_drawn 9 = .ok (.aload_n 0, 1))))) ∧ (((decode k_Md_drawn 10 = .ok (.iload_n 1, 1)) ∧ ((decode k_Md_drawn 11 = .ok (.iload_n 2, 1)) ∧ (decode k_Md_drawn 12 = .ok (.iload_n 3, 1)))) ∧ (((decode k_Md_drawn 13 = .ok (.invokevirtual 364, 3)) ∧ (decode k_Md_drawn 16 = .ok (.goto 4, 3))) ∧ ((decode k_Md_drawn 19 = .ok (.iconst (-1), 1)) ∧ (decode k_Md_drawn 20 = .ok (.ireturn, 1))))) := by decide +kernel
theorem D_Md_chance_0 : ((((decode k_Md_chance 0 = .ok (.aload_n 0, 1)) ∧ (decode k_Md_chance 1 = .ok (.iload_n 2, 1))) ∧ ((decode k_Md_chance 2 = .ok (.iload_n 3, 1)) ∧ (decode k_Md_chance 3 = .ok (.invokevirtual 230, 3)))) ∧ (((decode k_Md_chance 6 = .ok (.ifCond .eq 19, 3)) ∧ (decode k_Md_chance 9 = .ok (.iload 4, 2))) ∧ ((decode k_Md_chance 11 = .ok (.ifCond .lt 14, 3)) ∧ (decode k_Md_chance 14 = .ok (.iload 5, 2))))) ∧ ((((decode k_Md_chance 16 = .ok (.i2l, 1)) ∧ (decode k_Md_chance 17 = .ok (.lconst 0, 1))) ∧ ((decode k_Md_chance 18 = .ok (.lconst 1, 1)) ∧ (decode k_Md_chance 19 = .ok (.invokestatic 119, 3)))) ∧ (((decode k_Md_chance 22 = .ok (.ifCond .ne 7, 3)) ∧ (decode k_Md_chance 25 = .ok (.ldc2_w 259, 3))) ∧ ((decode k_Md_chance 28 = .ok (.lreturn, 1)) ∧ (decode k_Md_chance 29 = .ok (.iconst 0, 1))))) := by decide +kernel
theorem D_Md_chance_1 : ((((decode k_Md_chance 30 = .ok (.istore 6, 2)) ∧ (decode k_Md_chance 32 = .ok (.iconst 0, 1))) ∧ ((decode k_Md_chance 33 = .ok (.istore 7, 2)) ∧ (decode k_Md_chance 35 = .ok (.iload 7, 2)))) ∧ (((decode k_Md_chance 37 = .ok (.bipush 6, 2)) ∧ (decode k_Md_chance 39 = .ok (.if_icmp .ge 34, 3))) ∧ ((decode k_Md_chance 42 = .ok (.iload 6, 2)) ∧ (decode k_Md_chance 44 = .ok (.aload_n 0, 1))))) ∧ ((((decode k_Md_chance 45 = .ok (.iload_n 1, 1)) ∧ (decode k_Md_chance 46 = .ok (.iload 7, 2))) ∧ ((decode k_Md_chance 48 = .ok (.iadd, 1)) ∧ (decode k_Md_chance 49 = .ok (.iload_n 2, 1)))) ∧ (((decode k_Md_chance 50 = .ok (.iload_n 3, 1)) ∧ (decode k_Md_chance 51 = .ok (.invokevirtual 364, 3))) ∧ ((decode k_Md_chance 54 = .ok (.iload 4, 2)) ∧ (decode k_Md_chance 56 = .ok (.if_icmp .lt 7, 3))))) := by decide +kernel
theorem D_Md_chance_2 : (((decode k_Md_chance 59 = .ok (.iconst 1, 1)) ∧ ((decode k_Md_chance 60 = .ok (.goto 4, 3)) ∧ (decode k_Md_chance 63 = .ok (.iconst 0, 1)))) ∧ ((decode k_Md_chance 64 = .ok (.iadd, 1)) ∧ ((decode k_Md_chance 65 = .ok (.istore 6, 2)) ∧ (decode k_Md_chance 67 = .ok (.iinc 7 1, 3))))) ∧ (((decode k_Md_chance 70 = .ok (.goto (-35), 3)) ∧ ((decode k_Md_chance 73 = .ok (.iload 6, 2)) ∧ (decode k_Md_chance 75 = .ok (.i2l, 1)))) ∧ (((decode k_Md_chance 76 = .ok (.ldc2_w 367, 3)) ∧ (decode k_Md_chance 79 = .ok (.iload 5, 2))) ∧ ((decode k_Md_chance 81 = .ok (.invokestatic 265, 3)) ∧ (decode k_Md_chance 84 = .ok (.lreturn, 1))))) := by decide +kernel
theorem D_Md_see_0 : ((((decode k_Md_see 0 = .ok (.iload_n 1, 1)) ∧ (decode k_Md_see 1 = .ok (.iconst (-1), 1))) ∧ ((decode k_Md_see 2 = .ok (.if_icmp .ne 10, 3)) ∧ (decode k_Md_see 5 = .ok (.aload_n 0, 1)))) ∧ (((decode k_Md_see 6 = .ok (.iconst 0, 1)) ∧ (decode k_Md_see 7 = .ok (.putfield 130, 3))) ∧ ((decode k_Md_see 10 = .ok (.iconst 0, 1)) ∧ (decode k_Md_see 11 = .ok (.ireturn, 1))))) ∧ ((((decode k_Md_see 12 = .ok (.aload_n 0, 1)) ∧ (decode k_Md_see 13 = .ok (.iload_n 1, 1))) ∧ ((decode k_Md_see 14 = .ok (.iload_n 2, 1)) ∧ (decode k_Md_see 15 = .ok (.invokevirtual 230, 3)))) ∧ (((decode k_Md_see 18 = .ok (.ifCond .ne 5, 3)) ∧ (decode k_Md_see 21 = .ok (.iconst (-1), 1))) ∧ ((decode k_Md_see 22 = .ok (.ireturn, 1)) ∧ (decode k_Md_see 23 = .ok (.aload_n 0, 1))))) := by decide +kernel
theorem D_Md_see_1 : ((((decode k_Md_see 24 = .ok (.getfield 130, 3)) ∧ (decode k_Md_see 27 = .ok (.iconst 5, 1))) ∧ ((decode k_Md_see 28 = .ok (.if_icmp .ne 6, 3)) ∧ (decode k_Md_see 31 = .ok (.bipush (-4), 2)))) ∧ (((decode k_Md_see 33 = .ok (.ireturn, 1)) ∧ (decode k_Md_see 34 = .ok (.aload_n 0, 1))) ∧ ((decode k_Md_see 35 = .ok (.getfield 37, 3)) ∧ (decode k_Md_see 38 = .ok (.aload_n 0, 1))))) ∧ ((((decode k_Md_see 39 = .ok (.getfield 130, 3)) ∧ (decode k_Md_see 42 = .ok (.iload_n 1, 1))) ∧ ((decode k_Md_see 43 = .ok (.iastore, 1)) ∧ (decode k_Md_see 44 = .ok (.aload_n 0, 1)))) ∧ (((decode k_Md_see 45 = .ok (.getfield 40, 3)) ∧ (decode k_Md_see 48 = .ok (.aload_n 0, 1))) ∧ ((decode k_Md_see 49 = .ok (.getfield 130, 3)) ∧ (decode k_Md_see 52 = .ok (.iload_n 2, 1))))) := by decide +kernel
theorem D_Md_see_2 : ((((decode k_Md_see 53 = .ok (.iastore, 1)) ∧ (decode k_Md_see 54 = .ok (.aload_n 0, 1))) ∧ ((decode k_Md_see 55 = .ok (.getfield 43, 3)) ∧ (decode k_Md_see 58 = .ok (.aload_n 0, 1)))) ∧ (((decode k_Md_see 59 = .ok (.getfield 130, 3)) ∧ (decode k_Md_see 62 = .ok (.iload_n 3, 1))) ∧ ((decode k_Md_see 63 = .ok (.ifCond .eq 7, 3)) ∧ (decode k_Md_see 66 = .ok (.iconst 1, 1))))) ∧ ((((decode k_Md_see 67 = .ok (.goto 4, 3)) ∧ (decode k_Md_see 70 = .ok (.iconst 0, 1))) ∧ ((decode k_Md_see 71 = .ok (.iastore, 1)) ∧ (decode k_Md_see 72 = .ok (.aload_n 0, 1)))) ∧ (((decode k_Md_see 73 = .ok (.dup, 1)) ∧ (decode k_Md_see 74 = .ok (.getfield 130, 3))) ∧ ((decode k_Md_see 77 = .ok (.iconst 1, 1)) ∧ (decode k_Md_see 78 = .ok (.iadd, 1))))) := by decide +kernel
theorem D_Md_see_3 : ((decode k_Md_see 79 = .ok (.putfield 130, 3)) ∧ (decode k_Md_see 82 = .ok (.aload_n 0, 1))) ∧ ((decode k_Md_see 83 = .ok (.getfield 130, 3)) ∧ (decode k_Md_see 86 = .ok (.ireturn, 1))) := by decide +kernel
theorem D_Md_isAllSeen_0 : ((((decode k_Md_isAllSeen 0 = .ok (.aload_n 0, 1)) ∧ (decode k_Md_isAllSeen 1 = .ok (.invokevirtual 300, 3))) ∧ ((decode k_Md_isAllSeen 4 = .ok (.iconst 0, 1)) ∧ (decode k_Md_isAllSeen 5 = .ok (.istore_n 1, 1)))) ∧ (((decode k_Md_isAllSeen 6 = .ok (.iload_n 1, 1)) ∧ (decode k_Md_isAllSeen 7 = .ok (.aload_n 0, 1))) ∧ ((decode k_Md_isAllSeen 8 = .ok (.getfield 130, 3)) ∧ (decode k_Md_isAllSeen 11 = .ok (.if_icmp .ge 64, 3))))) ∧ ((((decode k_Md_isAllSeen 14 = .ok (.aload_n 0, 1)) ∧ (decode k_Md_isAllSeen 15 = .ok (.aload_n 0, 1))) ∧ ((decode k_Md_isAllSeen 16 = .ok (.getfield 37, 3)) ∧ (decode k_Md_isAllSeen 19 = .ok (.iload_n 1, 1)))) ∧ (((decode k_Md_isAllSeen 20 = .ok (.iaload, 1)) ∧ (decode k_Md_isAllSeen 21 = .ok (.aload_n 0, 1))) ∧ ((decode k_Md_isAllSeen 22 = .ok (.getfield 40, 3)) ∧ (decode k_Md_isAllSeen 25 = .ok (.iload_n 1, 1))))) := by decide +kernel
theorem D_Md_isAllSeen_1 : ((((decode k_Md_isAllSeen 26 = .ok (.iaload, 1)) ∧ (decode k_Md_isAllSeen 27 = .ok (.invokevirtual 335, 3))) ∧ ((decode k_Md_isAllSeen 30 = .ok (.istore_n 2, 1)) ∧ (decode k_Md_isAllSeen 31 = .ok (.iload_n 2, 1)))) ∧ (((decode k_Md_isAllSeen 32 = .ok (.ifCond .lt 16, 3)) ∧ (decode k_Md_isAllSeen 35 = .ok (.aload_n 0, 1))) ∧ ((decode k_Md_isAllSeen 36 = .ok (.getfield 80, 3)) ∧ (decode k_Md_isAllSeen 39 = .ok (.iload_n 2, 1))))) ∧ ((((decode k_Md_isAllSeen 40 = .ok (.baload, 1)) ∧ (decode k_Md_isAllSeen 41 = .ok (.ifCond .eq 7, 3))) ∧ ((decode k_Md_isAllSeen 44 = .ok (.iconst 1, 1)) ∧ (decode k_Md_isAllSeen 45 = .ok (.goto 4, 3)))) ∧ (((decode k_Md_isAllSeen 48 = .ok (.iconst 0, 1)) ∧ (decode k_Md_isAllSeen 49 = .ok (.aload_n 0, 1))) ∧ ((decode k_Md_isAllSeen 50 = .ok (.getfield 43, 3)) ∧ (decode k_Md_isAllSeen 53 = .ok (.iload_n 1, 1))))) := by decide +kernel
theorem D_Md_isAllSeen_2 : (((decode k_Md_isAllSeen 54 = .ok (.iaload, 1)) ∧ ((decode k_Md_isAllSeen 55 = .ok (.iconst 1, 1)) ∧ (decode k_Md_isAllSeen 56 = .ok (.if_icmp .ne 7, 3)))) ∧ ((decode k_Md_isAllSeen 59 = .ok (.iconst 1, 1)) ∧ ((decode k_Md_isAllSeen 60 = .ok (.goto 4, 3)) ∧ (decode k_Md_isAllSeen 63 = .ok (.iconst 0, 1))))) ∧ (((decode k_Md_isAllSeen 64 = .ok (.if_icmp .eq 5, 3)) ∧ ((decode k_Md_isAllSeen 67 = .ok (.iconst 0, 1)) ∧ (decode k_Md_isAllSeen 68 = .ok (.ireturn, 1)))) ∧ (((decode k_Md_isAllSeen 69 = .ok (.iinc 1 1, 3)) ∧ (decode k_Md_isAllSeen 72 = .ok (.goto (-66), 3))) ∧ ((decode k_Md_isAllSeen 75 = .ok (.iconst 1, 1)) ∧ (decode k_Md_isAllSeen 76 = .ok (.ireturn, 1))))) := by decide +kernel
theorem D_Md_fits_0 : ((((decode k_Md_fits 0 = .ok (.iload_n 1, 1)) ∧ (decode k_Md_fits 1 = .ok (.i2l, 1))) ∧ ((decode k_Md_fits 2 = .ok (.lconst 0, 1)) ∧ (decode k_Md_fits 3 = .ok (.lconst 1, 1)))) ∧ (((decode k_Md_fits 4 = .ok (.invokestatic 119, 3)) ∧ (decode k_Md_fits 7 = .ok (.ifCond .ne 5, 3))) ∧ ((decode k_Md_fits 10 = .ok (.iconst (-1), 1)) ∧ (decode k_Md_fits 11 = .ok (.ireturn, 1))))) ∧ ((((decode k_Md_fits 12 = .ok (.aload_n 0, 1)) ∧ (decode k_Md_fits 13 = .ok (.getfield 34, 3))) ∧ ((decode k_Md_fits 16 = .ok (.iconst 0, 1)) ∧ (decode k_Md_fits 17 = .ok (.iaload, 1)))) ∧ (((decode k_Md_fits 18 = .ok (.istore_n 2, 1)) ∧ (decode k_Md_fits 19 = .ok (.iconst 0, 1))) ∧ ((decode k_Md_fits 20 = .ok (.istore_n 3, 1)) ∧ (decode k_Md_fits 21 = .ok (.bipush (-5), 2))))) := by decide +kernel
theorem D_Md_fits_1 : ((((decode k_Md_fits 23 = .ok (.istore 4, 2)) ∧ (decode k_Md_fits 25 = .ok (.iconst 3, 1))) ∧ ((decode k_Md_fits 26 = .ok (.istore 5, 2)) ∧ (decode k_Md_fits 28 = .ok (.iload 5, 2)))) ∧ (((decode k_Md_fits 30 = .ok (.ifCond .lt 31, 3)) ∧ (decode k_Md_fits 33 = .ok (.aload_n 0, 1))) ∧ ((decode k_Md_fits 34 = .ok (.getfield 34, 3)) ∧ (decode k_Md_fits 37 = .ok (.iconst 0, 1))))) ∧ ((((decode k_Md_fits 38 = .ok (.iload 5, 2)) ∧ (decode k_Md_fits 40 = .ok (.iastore, 1))) ∧ ((decode k_Md_fits 41 = .ok (.aload_n 0, 1)) ∧ (decode k_Md_fits 42 = .ok (.invokevirtual 369, 3)))) ∧ (((decode k_Md_fits 45 = .ok (.ifCond .eq 10, 3)) ∧ (decode k_Md_fits 48 = .ok (.iinc 3 1, 3))) ∧ ((decode k_Md_fits 51 = .ok (.iload 5, 2)) ∧ (decode k_Md_fits 53 = .ok (.istore 4, 2))))) := by decide +kernel
theorem D_Md_fits_2 : (((decode k_Md_fits 55 = .ok (.iinc 5 (-1), 3)) ∧ ((decode k_Md_fits 58 = .ok (.goto (-30), 3)) ∧ (decode k_Md_fits 61 = .ok (.aload_n 0, 1)))) ∧ ((decode k_Md_fits 62 = .ok (.getfield 34, 3)) ∧ ((decode k_Md_fits 65 = .ok (.iconst 0, 1)) ∧ (decode k_Md_fits 66 = .ok (.iload_n 2, 1))))) ∧ (((decode k_Md_fits 67 = .ok (.iastore, 1)) ∧ ((decode k_Md_fits 68 = .ok (.iload_n 1, 1)) ∧ (decode k_Md_fits 69 = .ok (.ifCond .ne 7, 3)))) ∧ (((decode k_Md_fits 72 = .ok (.iload_n 3, 1)) ∧ (decode k_Md_fits 73 = .ok (.goto 5, 3))) ∧ ((decode k_Md_fits 76 = .ok (.iload 4, 2)) ∧ (decode k_Md_fits 78 = .ok (.ireturn, 1))))) := by decide +kernel
theorem D_Md_mean_0 : ((((decode k_Md_mean 0 = .ok (.aload_n 0, 1)) ∧ (decode k_Md_mean 1 = .ok (.invokevirtual 300, 3))) ∧ ((decode k_Md_mean 4 = .ok (.iload_n 1, 1)) ∧ (decode k_Md_mean 5 = .ok (.i2l, 1)))) ∧ (((decode k_Md_mean 6 = .ok (.lconst 0, 1)) ∧ (decode k_Md_mean 7 = .ok (.lconst 1, 1))) ∧ ((decode k_Md_mean 8 = .ok (.invokestatic 119, 3)) ∧ (decode k_Md_mean 11 = .ok (.ifCond .eq 10, 3))))) ∧ ((((decode k_Md_mean 14 = .ok (.aload_n 0, 1)) ∧ (decode k_Md_mean 15 = .ok (.getfield 280, 3))) ∧ ((decode k_Md_mean 18 = .ok (.ifCond .ne 7, 3)) ∧ (decode k_Md_mean 21 = .ok (.ldc2_w 259, 3)))) ∧ (((decode k_Md_mean 24 = .ok (.lreturn, 1)) ∧ (decode k_Md_mean 25 = .ok (.lconst 0, 1))) ∧ ((decode k_Md_mean 26 = .ok (.lstore_n 2, 1)) ∧ (decode k_Md_mean 27 = .ok (.iconst 0, 1))))) := by decide +kernel
theorem D_Md_mean_1 : ((((decode k_Md_mean 28 = .ok (.istore 4, 2)) ∧ (decode k_Md_mean 30 = .ok (.iload 4, 2))) ∧ ((decode k_Md_mean 32 = .ok (.aload_n 0, 1)) ∧ (decode k_Md_mean 33 = .ok (.getfield 280, 3)))) ∧ (((decode k_Md_mean 36 = .ok (.if_icmp .ge 32, 3)) ∧ (decode k_Md_mean 39 = .ok (.lload_n 2, 1))) ∧ ((decode k_Md_mean 40 = .ok (.aload_n 0, 1)) ∧ (decode k_Md_mean 41 = .ok (.aload_n 0, 1))))) ∧ ((((decode k_Md_mean 42 = .ok (.getfield 68, 3)) ∧ (decode k_Md_mean 45 = .ok (.iload 4, 2))) ∧ ((decode k_Md_mean 47 = .ok (.iaload, 1)) ∧ (decode k_Md_mean 48 = .ok (.aload_n 0, 1)))) ∧ (((decode k_Md_mean 49 = .ok (.getfield 71, 3)) ∧ (decode k_Md_mean 52 = .ok (.iload 4, 2))) ∧ ((decode k_Md_mean 54 = .ok (.iaload, 1)) ∧ (decode k_Md_mean 55 = .ok (.iconst (-1), 1))))) := by decide +kernel
theorem D_Md_mean_2 : (((decode k_Md_mean 56 = .ok (.invokevirtual 240, 3)) ∧ ((decode k_Md_mean 59 = .ok (.i2l, 1)) ∧ (decode k_Md_mean 60 = .ok (.ladd, 1)))) ∧ ((decode k_Md_mean 61 = .ok (.lstore_n 2, 1)) ∧ ((decode k_Md_mean 62 = .ok (.iinc 4 1, 3)) ∧ (decode k_Md_mean 65 = .ok (.goto (-35), 3))))) ∧ (((decode k_Md_mean 68 = .ok (.lload_n 2, 1)) ∧ ((decode k_Md_mean 69 = .ok (.aload_n 0, 1)) ∧ (decode k_Md_mean 70 = .ok (.getfield 280, 3)))) ∧ (((decode k_Md_mean 73 = .ok (.i2l, 1)) ∧ (decode k_Md_mean 74 = .ok (.iload_n 1, 1))) ∧ ((decode k_Md_mean 75 = .ok (.invokestatic 265, 3)) ∧ (decode k_Md_mean 78 = .ok (.lreturn, 1))))) := by decide +kernel
theorem D_Md_plan_0 : ((((decode k_Md_plan 0 = .ok (.iload_n 1, 1)) ∧ (decode k_Md_plan 1 = .ok (.iconst (-1), 1))) ∧ ((decode k_Md_plan 2 = .ok (.if_icmp .ne 10, 3)) ∧ (decode k_Md_plan 5 = .ok (.aload_n 0, 1)))) ∧ (((decode k_Md_plan 6 = .ok (.iconst 0, 1)) ∧ (decode k_Md_plan 7 = .ok (.putfield 133, 3))) ∧ ((decode k_Md_plan 10 = .ok (.iconst 0, 1)) ∧ (decode k_Md_plan 11 = .ok (.ireturn, 1))))) ∧ ((((decode k_Md_plan 12 = .ok (.iload_n 1, 1)) ∧ (decode k_Md_plan 13 = .ok (.i2l, 1))) ∧ ((decode k_Md_plan 14 = .ok (.lconst 0, 1)) ∧ (decode k_Md_plan 15 = .ok (.ldc2_w 163, 3)))) ∧ (((decode k_Md_plan 18 = .ok (.invokestatic 119, 3)) ∧ (decode k_Md_plan 21 = .ok (.ifCond .eq 43, 3))) ∧ ((decode k_Md_plan 24 = .ok (.iload_n 1, 1)) ∧ (decode k_Md_plan 25 = .ok (.ifCond .ne 14, 3))))) := by decide +kernel
theorem D_Md_plan_1 : ((((decode k_Md_plan 28 = .ok (.aload_n 0, 1)) ∧ (decode k_Md_plan 29 = .ok (.iload_n 2, 1))) ∧ ((decode k_Md_plan 30 = .ok (.invokevirtual 126, 3)) ∧ (decode k_Md_plan 33 = .ok (.ifCond .eq 31, 3)))) ∧ (((decode k_Md_plan 36 = .ok (.goto 30, 3)) ∧ (decode k_Md_plan 39 = .ok (.iload_n 1, 1))) ∧ ((decode k_Md_plan 40 = .ok (.iconst 3, 1)) ∧ (decode k_Md_plan 41 = .ok (.if_icmp .ne 15, 3))))) ∧ ((((decode k_Md_plan 44 = .ok (.aload_n 0, 1)) ∧ (decode k_Md_plan 45 = .ok (.iload_n 2, 1))) ∧ ((decode k_Md_plan 46 = .ok (.iload_n 3, 1)) ∧ (decode k_Md_plan 47 = .ok (.invokevirtual 230, 3)))) ∧ (((decode k_Md_plan 50 = .ok (.ifCond .eq 14, 3)) ∧ (decode k_Md_plan 53 = .ok (.goto 13, 3))) ∧ ((decode k_Md_plan 56 = .ok (.aload_n 0, 1)) ∧ (decode k_Md_plan 57 = .ok (.iload_n 2, 1))))) := by decide +kernel
theorem D_Md_plan_2 : ((((decode k_Md_plan 58 = .ok (.invokevirtual 160, 3)) ∧ (decode k_Md_plan 61 = .ok (.ifCond .ne 5, 3))) ∧ ((decode k_Md_plan 64 = .ok (.iconst (-1), 1)) ∧ (decode k_Md_plan 65 = .ok (.ireturn, 1)))) ∧ (((decode k_Md_plan 66 = .ok (.iload_n 1, 1)) ∧ (decode k_Md_plan 67 = .ok (.iconst 1, 1))) ∧ ((decode k_Md_plan 68 = .ok (.if_icmp .eq 8, 3)) ∧ (decode k_Md_plan 71 = .ok (.iload_n 1, 1))))) ∧ ((((decode k_Md_plan 72 = .ok (.iconst 2, 1)) ∧ (decode k_Md_plan 73 = .ok (.if_icmp .ne 18, 3))) ∧ ((decode k_Md_plan 76 = .ok (.iload_n 3, 1)) ∧ (decode k_Md_plan 77 = .ok (.i2l, 1)))) ∧ (((decode k_Md_plan 78 = .ok (.lconst 0, 1)) ∧ (decode k_Md_plan 79 = .ok (.ldc2_w 163, 3))) ∧ ((decode k_Md_plan 82 = .ok (.invokestatic 119, 3)) ∧ (decode k_Md_plan 85 = .ok (.ifCond .ne 6, 3))))) := by decide +kernel
theorem D_Md_plan_3 : ((((decode k_Md_plan 88 = .ok (.bipush (-2), 2)) ∧ (decode k_Md_plan 90 = .ok (.ireturn, 1))) ∧ ((decode k_Md_plan 91 = .ok (.aload_n 0, 1)) ∧ (decode k_Md_plan 92 = .ok (.getfield 133, 3)))) ∧ (((decode k_Md_plan 95 = .ok (.bipush 8, 2)) ∧ (decode k_Md_plan 97 = .ok (.if_icmp .ne 6, 3))) ∧ ((decode k_Md_plan 100 = .ok (.bipush (-4), 2)) ∧ (decode k_Md_plan 102 = .ok (.ireturn, 1))))) ∧ ((((decode k_Md_plan 103 = .ok (.aload_n 0, 1)) ∧ (decode k_Md_plan 104 = .ok (.getfield 46, 3))) ∧ ((decode k_Md_plan 107 = .ok (.aload_n 0, 1)) ∧ (decode k_Md_plan 108 = .ok (.getfield 133, 3)))) ∧ (((decode k_Md_plan 111 = .ok (.iload_n 1, 1)) ∧ (decode k_Md_plan 112 = .ok (.iastore, 1))) ∧ ((decode k_Md_plan 113 = .ok (.aload_n 0, 1)) ∧ (decode k_Md_plan 114 = .ok (.getfield 49, 3))))) := by decide +kernel
theorem D_Md_plan_4 : ((((decode k_Md_plan 117 = .ok (.aload_n 0, 1)) ∧ (decode k_Md_plan 118 = .ok (.getfield 133, 3))) ∧ ((decode k_Md_plan 121 = .ok (.iload_n 2, 1)) ∧ (decode k_Md_plan 122 = .ok (.iastore, 1)))) ∧ (((decode k_Md_plan 123 = .ok (.aload_n 0, 1)) ∧ (decode k_Md_plan 124 = .ok (.getfield 52, 3))) ∧ ((decode k_Md_plan 127 = .ok (.aload_n 0, 1)) ∧ (decode k_Md_plan 128 = .ok (.getfield 133, 3))))) ∧ ((((decode k_Md_plan 131 = .ok (.iload_n 3, 1)) ∧ (decode k_Md_plan 132 = .ok (.iastore, 1))) ∧ ((decode k_Md_plan 133 = .ok (.aload_n 0, 1)) ∧ (decode k_Md_plan 134 = .ok (.dup, 1)))) ∧ (((decode k_Md_plan 135 = .ok (.getfield 133, 3)) ∧ (decode k_Md_plan 138 = .ok (.iconst 1, 1))) ∧ ((decode k_Md_plan 139 = .ok (.iadd, 1)) ∧ (decode k_Md_plan 140 = .ok (.putfield 133, 3))))) := by decide +kernel
theorem D_Md_plan_5 : (decode k_Md_plan 143 = .ok (.aload_n 0, 1)) ∧ ((decode k_Md_plan 144 = .ok (.getfield 133, 3)) ∧ (decode k_Md_plan 147 = .ok (.ireturn, 1))) := by decide +kernel
theorem D_Md_copies_0 : (((decode k_Md_copies 0 = .ok (.iconst 0, 1)) ∧ ((decode k_Md_copies 1 = .ok (.istore_n 2, 1)) ∧ (decode k_Md_copies 2 = .ok (.iload_n 2, 1)))) ∧ (((decode k_Md_copies 3 = .ok (.aload_n 0, 1)) ∧ (decode k_Md_copies 4 = .ok (.arraylength, 1))) ∧ ((decode k_Md_copies 5 = .ok (.if_icmp .ge 15, 3)) ∧ (decode k_Md_copies 8 = .ok (.aload_n 1, 1))))) ∧ ((((decode k_Md_copies 9 = .ok (.iload_n 2, 1)) ∧ (decode k_Md_copies 10 = .ok (.aload_n 0, 1))) ∧ ((decode k_Md_copies 11 = .ok (.iload_n 2, 1)) ∧ (decode k_Md_copies 12 = .ok (.iaload, 1)))) ∧ (((decode k_Md_copies 13 = .ok (.iastore, 1)) ∧ (decode k_Md_copies 14 = .ok (.iinc 2 1, 3))) ∧ ((decode k_Md_copies 17 = .ok (.goto (-15), 3)) ∧ (decode k_Md_copies 20 = .ok (.return_, 1))))) := by decide +kernel
theorem D_Md_goes_0 : ((((decode k_Md_goes 0 = .ok (.iload_n 1, 1)) ∧ (decode k_Md_goes 1 = .ok (.lookupswitch 47 #[(1, 27), (2, 37)], 27))) ∧ ((decode k_Md_goes 28 = .ok (.aload_n 0, 1)) ∧ (decode k_Md_goes 29 = .ok (.getfield 15, 3)))) ∧ (((decode k_Md_goes 32 = .ok (.iload_n 2, 1)) ∧ (decode k_Md_goes 33 = .ok (.iload_n 3, 1))) ∧ ((decode k_Md_goes 34 = .ok (.iastore, 1)) ∧ (decode k_Md_goes 35 = .ok (.goto 61, 3))))) ∧ ((((decode k_Md_goes 38 = .ok (.aload_n 0, 1)) ∧ (decode k_Md_goes 39 = .ok (.getfield 19, 3))) ∧ ((decode k_Md_goes 42 = .ok (.iload_n 2, 1)) ∧ (decode k_Md_goes 43 = .ok (.iload_n 3, 1)))) ∧ (((decode k_Md_goes 44 = .ok (.iastore, 1)) ∧ (decode k_Md_goes 45 = .ok (.goto 51, 3))) ∧ ((decode k_Md_goes 48 = .ok (.iconst 0, 1)) ∧ (decode k_Md_goes 49 = .ok (.istore 4, 2))))) := by decide +kernel
theorem D_Md_goes_1 : ((((decode k_Md_goes 51 = .ok (.iload 4, 2)) ∧ (decode k_Md_goes 53 = .ok (.bipush 8, 2))) ∧ ((decode k_Md_goes 55 = .ok (.if_icmp .ge 41, 3)) ∧ (decode k_Md_goes 58 = .ok (.aload_n 0, 1)))) ∧ (((decode k_Md_goes 59 = .ok (.getfield 25, 3)) ∧ (decode k_Md_goes 62 = .ok (.bipush 8, 2))) ∧ ((decode k_Md_goes 64 = .ok (.iload_n 2, 1)) ∧ (decode k_Md_goes 65 = .ok (.imul, 1))))) ∧ ((((decode k_Md_goes 66 = .ok (.iload 4, 2)) ∧ (decode k_Md_goes 68 = .ok (.iadd, 1))) ∧ ((decode k_Md_goes 69 = .ok (.iload_n 1, 1)) ∧ (decode k_Md_goes 70 = .ok (.ifCond .ne 7, 3)))) ∧ (((decode k_Md_goes 73 = .ok (.iconst (-1), 1)) ∧ (decode k_Md_goes 74 = .ok (.goto 15, 3))) ∧ ((decode k_Md_goes 77 = .ok (.aload_n 0, 1)) ∧ (decode k_Md_goes 78 = .ok (.getfield 25, 3))))) := by decide +kernel
theorem D_Md_goes_2 : (((decode k_Md_goes 81 = .ok (.bipush 8, 2)) ∧ (decode k_Md_goes 83 = .ok (.iload_n 3, 1))) ∧ ((decode k_Md_goes 84 = .ok (.imul, 1)) ∧ ((decode k_Md_goes 85 = .ok (.iload 4, 2)) ∧ (decode k_Md_goes 87 = .ok (.iadd, 1))))) ∧ (((decode k_Md_goes 88 = .ok (.iaload, 1)) ∧ (decode k_Md_goes 89 = .ok (.iastore, 1))) ∧ ((decode k_Md_goes 90 = .ok (.iinc 4 1, 3)) ∧ ((decode k_Md_goes 93 = .ok (.goto (-42), 3)) ∧ (decode k_Md_goes 96 = .ok (.return_, 1))))) := by decide +kernel
theorem D_Md_ends_0 : ((((decode k_Md_ends 0 = .ok (.aload_n 0, 1)) ∧ (decode k_Md_ends 1 = .ok (.getfield 25, 3))) ∧ ((decode k_Md_ends 4 = .ok (.aload_n 0, 1)) ∧ (decode k_Md_ends 5 = .ok (.getfield 93, 3)))) ∧ (((decode k_Md_ends 8 = .ok (.invokestatic 372, 3)) ∧ (decode k_Md_ends 11 = .ok (.aload_n 0, 1))) ∧ ((decode k_Md_ends 12 = .ok (.getfield 15, 3)) ∧ (decode k_Md_ends 15 = .ok (.aload_n 0, 1))))) ∧ ((((decode k_Md_ends 16 = .ok (.getfield 96, 3)) ∧ (decode k_Md_ends 19 = .ok (.invokestatic 372, 3))) ∧ ((decode k_Md_ends 22 = .ok (.aload_n 0, 1)) ∧ (decode k_Md_ends 23 = .ok (.getfield 19, 3)))) ∧ (((decode k_Md_ends 26 = .ok (.aload_n 0, 1)) ∧ (decode k_Md_ends 27 = .ok (.getfield 99, 3))) ∧ ((decode k_Md_ends 30 = .ok (.invokestatic 372, 3)) ∧ (decode k_Md_ends 33 = .ok (.iconst 0, 1))))) := by decide +kernel
theorem D_Md_ends_1 : ((((decode k_Md_ends 34 = .ok (.istore_n 1, 1)) ∧ (decode k_Md_ends 35 = .ok (.iload_n 1, 1))) ∧ ((decode k_Md_ends 36 = .ok (.aload_n 0, 1)) ∧ (decode k_Md_ends 37 = .ok (.getfield 133, 3)))) ∧ (((decode k_Md_ends 40 = .ok (.if_icmp .ge 31, 3)) ∧ (decode k_Md_ends 43 = .ok (.aload_n 0, 1))) ∧ ((decode k_Md_ends 44 = .ok (.aload_n 0, 1)) ∧ (decode k_Md_ends 45 = .ok (.getfield 46, 3))))) ∧ ((((decode k_Md_ends 48 = .ok (.iload_n 1, 1)) ∧ (decode k_Md_ends 49 = .ok (.iaload, 1))) ∧ ((decode k_Md_ends 50 = .ok (.aload_n 0, 1)) ∧ (decode k_Md_ends 51 = .ok (.getfield 49, 3)))) ∧ (((decode k_Md_ends 54 = .ok (.iload_n 1, 1)) ∧ (decode k_Md_ends 55 = .ok (.iaload, 1))) ∧ ((decode k_Md_ends 56 = .ok (.aload_n 0, 1)) ∧ (decode k_Md_ends 57 = .ok (.getfield 52, 3))))) := by decide +kernel
theorem D_Md_ends_2 : ((((decode k_Md_ends 60 = .ok (.iload_n 1, 1)) ∧ (decode k_Md_ends 61 = .ok (.iaload, 1))) ∧ ((decode k_Md_ends 62 = .ok (.invokevirtual 376, 3)) ∧ (decode k_Md_ends 65 = .ok (.iinc 1 1, 3)))) ∧ (((decode k_Md_ends 68 = .ok (.goto (-33), 3)) ∧ (decode k_Md_ends 71 = .ok (.aload_n 0, 1))) ∧ ((decode k_Md_ends 72 = .ok (.invokevirtual 320, 3)) ∧ (decode k_Md_ends 75 = .ok (.istore_n 1, 1))))) ∧ ((((decode k_Md_ends 76 = .ok (.aload_n 0, 1)) ∧ (decode k_Md_ends 77 = .ok (.getfield 93, 3))) ∧ ((decode k_Md_ends 80 = .ok (.aload_n 0, 1)) ∧ (decode k_Md_ends 81 = .ok (.getfield 25, 3)))) ∧ (((decode k_Md_ends 84 = .ok (.invokestatic 372, 3)) ∧ (decode k_Md_ends 87 = .ok (.aload_n 0, 1))) ∧ ((decode k_Md_ends 88 = .ok (.getfield 96, 3)) ∧ (decode k_Md_ends 91 = .ok (.aload_n 0, 1))))) := by decide +kernel
theorem D_Md_ends_3 : (((decode k_Md_ends 92 = .ok (.getfield 15, 3)) ∧ (decode k_Md_ends 95 = .ok (.invokestatic 372, 3))) ∧ ((decode k_Md_ends 98 = .ok (.aload_n 0, 1)) ∧ (decode k_Md_ends 99 = .ok (.getfield 99, 3)))) ∧ (((decode k_Md_ends 102 = .ok (.aload_n 0, 1)) ∧ (decode k_Md_ends 103 = .ok (.getfield 19, 3))) ∧ ((decode k_Md_ends 106 = .ok (.invokestatic 372, 3)) ∧ ((decode k_Md_ends 109 = .ok (.iload_n 1, 1)) ∧ (decode k_Md_ends 110 = .ok (.ireturn, 1))))) := by decide +kernel
theorem D_Md_isTape_0 : ((decode k_Md_isTape 0 = .ok (.iload_n 0, 1)) ∧ ((decode k_Md_isTape 1 = .ok (.i2l, 1)) ∧ (decode k_Md_isTape 2 = .ok (.lconst 0, 1)))) ∧ ((decode k_Md_isTape 3 = .ok (.ldc2_w 207, 3)) ∧ ((decode k_Md_isTape 6 = .ok (.invokestatic 119, 3)) ∧ (decode k_Md_isTape 9 = .ok (.ireturn, 1)))) := by decide +kernel
theorem D_Md_judge_0 : ((((decode k_Md_judge 0 = .ok (.aload_n 0, 1)) ∧ (decode k_Md_judge 1 = .ok (.iload_n 1, 1))) ∧ ((decode k_Md_judge 2 = .ok (.invokevirtual 126, 3)) ∧ (decode k_Md_judge 5 = .ok (.ifCond .eq 10, 3)))) ∧ (((decode k_Md_judge 8 = .ok (.iload_n 2, 1)) ∧ (decode k_Md_judge 9 = .ok (.invokestatic 380, 3))) ∧ ((decode k_Md_judge 12 = .ok (.ifCond .ne 5, 3)) ∧ (decode k_Md_judge 15 = .ok (.iconst (-1), 1))))) ∧ ((((decode k_Md_judge 16 = .ok (.ireturn, 1)) ∧ (decode k_Md_judge 17 = .ok (.aload_n 0, 1))) ∧ ((decode k_Md_judge 18 = .ok (.getfield 107, 3)) ∧ (decode k_Md_judge 21 = .ok (.iload_n 2, 1)))) ∧ (((decode k_Md_judge 22 = .ok (.iaload, 1)) ∧ (decode k_Md_judge 23 = .ok (.ifCond .le 6, 3))) ∧ ((decode k_Md_judge 26 = .ok (.bipush (-12), 2)) ∧ (decode k_Md_judge 28 = .ok (.ireturn, 1))))) := by decide +kernel
theorem D_Md_judge_1 : ((((decode k_Md_judge 29 = .ok (.iconst 0, 1)) ∧ (decode k_Md_judge 30 = .ok (.istore 4, 2))) ∧ ((decode k_Md_judge 32 = .ok (.iload 4, 2)) ∧ (decode k_Md_judge 34 = .ok (.aload_n 0, 1)))) ∧ (((decode k_Md_judge 35 = .ok (.getfield 9, 3)) ∧ (decode k_Md_judge 38 = .ok (.if_icmp .ge 63, 3))) ∧ ((decode k_Md_judge 41 = .ok (.iload_n 3, 1)) ∧ (decode k_Md_judge 42 = .ok (.ifCond .lt 16, 3))))) ∧ ((((decode k_Md_judge 45 = .ok (.iload_n 3, 1)) ∧ (decode k_Md_judge 46 = .ok (.aload_n 0, 1))) ∧ ((decode k_Md_judge 47 = .ok (.getfield 110, 3)) ∧ (decode k_Md_judge 50 = .ok (.iload_n 2, 1)))) ∧ (((decode k_Md_judge 51 = .ok (.iaload, 1)) ∧ (decode k_Md_judge 52 = .ok (.iload 4, 2))) ∧ ((decode k_Md_judge 54 = .ok (.isub, 1)) ∧ (decode k_Md_judge 55 = .ok (.if_icmp .lt 9, 3))))) := by decide +kernel
theorem D_Md_judge_2 : ((((decode k_Md_judge 58 = .ok (.bipush 100, 2)) ∧ (decode k_Md_judge 60 = .ok (.iload 4, 2))) ∧ ((decode k_Md_judge 62 = .ok (.iadd, 1)) ∧ (decode k_Md_judge 63 = .ok (.ireturn, 1)))) ∧ (((decode k_Md_judge 64 = .ok (.aload_n 0, 1)) ∧ (decode k_Md_judge 65 = .ok (.getfield 104, 3))) ∧ ((decode k_Md_judge 68 = .ok (.iload_n 2, 1)) ∧ (decode k_Md_judge 69 = .ok (.aaload, 1))))) ∧ ((((decode k_Md_judge 70 = .ok (.iload_n 3, 1)) ∧ (decode k_Md_judge 71 = .ok (.iload 4, 2))) ∧ ((decode k_Md_judge 73 = .ok (.iadd, 1)) ∧ (decode k_Md_judge 74 = .ok (.laload, 1)))) ∧ (((decode k_Md_judge 75 = .ok (.aload_n 0, 1)) ∧ (decode k_Md_judge 76 = .ok (.getfield 25, 3))) ∧ ((decode k_Md_judge 79 = .ok (.bipush 8, 2)) ∧ (decode k_Md_judge 81 = .ok (.iload_n 1, 1))))) := by decide +kernel
theorem D_Md_judge_3 : (((decode k_Md_judge 82 = .ok (.imul, 1)) ∧ ((decode k_Md_judge 83 = .ok (.iload 4, 2)) ∧ (decode k_Md_judge 85 = .ok (.iadd, 1)))) ∧ ((decode k_Md_judge 86 = .ok (.iaload, 1)) ∧ ((decode k_Md_judge 87 = .ok (.i2l, 1)) ∧ (decode k_Md_judge 88 = .ok (.lcmp, 1))))) ∧ (((decode k_Md_judge 89 = .ok (.ifCond .eq 6, 3)) ∧ ((decode k_Md_judge 92 = .ok (.iload 4, 2)) ∧ (decode k_Md_judge 94 = .ok (.ireturn, 1)))) ∧ (((decode k_Md_judge 95 = .ok (.iinc 4 1, 3)) ∧ (decode k_Md_judge 98 = .ok (.goto (-66), 3))) ∧ ((decode k_Md_judge 101 = .ok (.bipush (-5), 2)) ∧ (decode k_Md_judge 103 = .ok (.ireturn, 1))))) := by decide +kernel
theorem D_Md_seatedOnes_0 : ((((decode k_Md_seatedOnes 0 = .ok (.iconst 0, 1)) ∧ (decode k_Md_seatedOnes 1 = .ok (.istore_n 1, 1))) ∧ ((decode k_Md_seatedOnes 2 = .ok (.iconst 0, 1)) ∧ (decode k_Md_seatedOnes 3 = .ok (.istore_n 2, 1)))) ∧ (((decode k_Md_seatedOnes 4 = .ok (.iload_n 2, 1)) ∧ (decode k_Md_seatedOnes 5 = .ok (.aload_n 0, 1))) ∧ ((decode k_Md_seatedOnes 6 = .ok (.getfield 123, 3)) ∧ (decode k_Md_seatedOnes 9 = .ok (.if_icmp .ge 26, 3))))) ∧ ((((decode k_Md_seatedOnes 12 = .ok (.iload_n 1, 1)) ∧ (decode k_Md_seatedOnes 13 = .ok (.aload_n 0, 1))) ∧ ((decode k_Md_seatedOnes 14 = .ok (.getfield 28, 3)) ∧ (decode k_Md_seatedOnes 17 = .ok (.iload_n 2, 1)))) ∧ (((decode k_Md_seatedOnes 18 = .ok (.iaload, 1)) ∧ (decode k_Md_seatedOnes 19 = .ok (.ifCond .lt 7, 3))) ∧ ((decode k_Md_seatedOnes 22 = .ok (.iconst 1, 1)) ∧ (decode k_Md_seatedOnes 23 = .ok (.goto 4, 3))))) := by decide +kernel
theorem D_Md_seatedOnes_1 : ((decode k_Md_seatedOnes 26 = .ok (.iconst 0, 1)) ∧ ((decode k_Md_seatedOnes 27 = .ok (.iadd, 1)) ∧ (decode k_Md_seatedOnes 28 = .ok (.istore_n 1, 1)))) ∧ (((decode k_Md_seatedOnes 29 = .ok (.iinc 2 1, 3)) ∧ (decode k_Md_seatedOnes 32 = .ok (.goto (-28), 3))) ∧ ((decode k_Md_seatedOnes 35 = .ok (.iload_n 1, 1)) ∧ (decode k_Md_seatedOnes 36 = .ok (.ireturn, 1)))) := by decide +kernel
theorem D_Md_count_0 : ((((decode k_Md_count 0 = .ok (.iload_n 1, 1)) ∧ (decode k_Md_count 1 = .ok (.tableswitch 69 0 5 #[39, 44, 49, 54, 59, 64], 39))) ∧ ((decode k_Md_count 40 = .ok (.aload_n 0, 1)) ∧ (decode k_Md_count 41 = .ok (.getfield 9, 3)))) ∧ (((decode k_Md_count 44 = .ok (.ireturn, 1)) ∧ (decode k_Md_count 45 = .ok (.aload_n 0, 1))) ∧ ((decode k_Md_count 46 = .ok (.getfield 123, 3)) ∧ (decode k_Md_count 49 = .ok (.ireturn, 1))))) ∧ ((((decode k_Md_count 50 = .ok (.aload_n 0, 1)) ∧ (decode k_Md_count 51 = .ok (.invokevirtual 383, 3))) ∧ ((decode k_Md_count 54 = .ok (.ireturn, 1)) ∧ (decode k_Md_count 55 = .ok (.aload_n 0, 1)))) ∧ (((decode k_Md_count 56 = .ok (.getfield 130, 3)) ∧ (decode k_Md_count 59 = .ok (.ireturn, 1))) ∧ ((decode k_Md_count 60 = .ok (.aload_n 0, 1)) ∧ (decode k_Md_count 61 = .ok (.getfield 133, 3))))) := by decide +kernel
theorem D_Md_count_1 : ((((decode k_Md_count 64 = .ok (.ireturn, 1)) ∧ (decode k_Md_count 65 = .ok (.aload_n 0, 1))) ∧ ((decode k_Md_count 66 = .ok (.getfield 175, 3)) ∧ (decode k_Md_count 69 = .ok (.ireturn, 1)))) ∧ (((decode k_Md_count 70 = .ok (.iload_n 1, 1)) ∧ (decode k_Md_count 71 = .ok (.i2l, 1))) ∧ ((decode k_Md_count 72 = .ok (.ldc2_w 367, 3)) ∧ (decode k_Md_count 75 = .ok (.ldc2_w 386, 3))))) ∧ ((((decode k_Md_count 78 = .ok (.invokestatic 119, 3)) ∧ (decode k_Md_count 81 = .ok (.ifCond .eq 15, 3))) ∧ ((decode k_Md_count 84 = .ok (.aload_n 0, 1)) ∧ (decode k_Md_count 85 = .ok (.getfield 34, 3)))) ∧ (((decode k_Md_count 88 = .ok (.iload_n 1, 1)) ∧ (decode k_Md_count 89 = .ok (.bipush 6, 2))) ∧ ((decode k_Md_count 91 = .ok (.isub, 1)) ∧ (decode k_Md_count 92 = .ok (.iaload, 1))))) := by decide +kernel
theorem D_Md_count_2 : (decode k_Md_count 93 = .ok (.goto 5, 3)) ∧ ((decode k_Md_count 96 = .ok (.bipush (-2), 2)) ∧ (decode k_Md_count 98 = .ok (.ireturn, 1))) := by decide +kernel
theorem D_Md_tape_0 : ((((decode k_Md_tape 0 = .ok (.iload_n 1, 1)) ∧ (decode k_Md_tape 1 = .ok (.invokestatic 380, 3))) ∧ ((decode k_Md_tape 4 = .ok (.ifCond .ne 5, 3)) ∧ (decode k_Md_tape 7 = .ok (.iconst (-1), 1)))) ∧ (((decode k_Md_tape 8 = .ok (.ireturn, 1)) ∧ (decode k_Md_tape 9 = .ok (.iload_n 2, 1))) ∧ ((decode k_Md_tape 10 = .ok (.i2l, 1)) ∧ (decode k_Md_tape 11 = .ok (.ldc2_w 165, 3))))) ∧ ((((decode k_Md_tape 14 = .ok (.ldc2_w 205, 3)) ∧ (decode k_Md_tape 17 = .ok (.invokestatic 119, 3))) ∧ ((decode k_Md_tape 20 = .ok (.ifCond .eq 13, 3)) ∧ (decode k_Md_tape 23 = .ok (.iload_n 2, 1)))) ∧ (((decode k_Md_tape 24 = .ok (.ifCond .lt 12, 3)) ∧ (decode k_Md_tape 27 = .ok (.iload_n 3, 1))) ∧ ((decode k_Md_tape 28 = .ok (.bipush 60, 2)) ∧ (decode k_Md_tape 30 = .ok (.if_icmp .le 6, 3))))) := by decide +kernel
theorem D_Md_tape_1 : ((((decode k_Md_tape 33 = .ok (.bipush (-2), 2)) ∧ (decode k_Md_tape 35 = .ok (.ireturn, 1))) ∧ ((decode k_Md_tape 36 = .ok (.iload_n 2, 1)) ∧ (decode k_Md_tape 37 = .ok (.ifCond .lt 10, 3)))) ∧ (((decode k_Md_tape 40 = .ok (.iload_n 3, 1)) ∧ (decode k_Md_tape 41 = .ok (.ifCond .ge 6, 3))) ∧ ((decode k_Md_tape 44 = .ok (.bipush (-14), 2)) ∧ (decode k_Md_tape 46 = .ok (.ireturn, 1))))) ∧ ((((decode k_Md_tape 47 = .ok (.aload_n 0, 1)) ∧ (decode k_Md_tape 48 = .ok (.getfield 107, 3))) ∧ ((decode k_Md_tape 51 = .ok (.iload_n 1, 1)) ∧ (decode k_Md_tape 52 = .ok (.iload_n 2, 1)))) ∧ (((decode k_Md_tape 53 = .ok (.iastore, 1)) ∧ (decode k_Md_tape 54 = .ok (.aload_n 0, 1))) ∧ ((decode k_Md_tape 55 = .ok (.getfield 110, 3)) ∧ (decode k_Md_tape 58 = .ok (.iload_n 1, 1))))) := by decide +kernel
theorem D_Md_tape_2 : ((((decode k_Md_tape 59 = .ok (.iload_n 2, 1)) ∧ (decode k_Md_tape 60 = .ok (.ifCond .ge 7, 3))) ∧ ((decode k_Md_tape 63 = .ok (.iconst 0, 1)) ∧ (decode k_Md_tape 64 = .ok (.goto 4, 3)))) ∧ (((decode k_Md_tape 67 = .ok (.iload_n 3, 1)) ∧ (decode k_Md_tape 68 = .ok (.iastore, 1))) ∧ ((decode k_Md_tape 69 = .ok (.iconst 0, 1)) ∧ (decode k_Md_tape 70 = .ok (.istore 4, 2))))) ∧ ((((decode k_Md_tape 72 = .ok (.iload 4, 2)) ∧ (decode k_Md_tape 74 = .ok (.bipush 60, 2))) ∧ ((decode k_Md_tape 76 = .ok (.if_icmp .ge 19, 3)) ∧ (decode k_Md_tape 79 = .ok (.aload_n 0, 1)))) ∧ (((decode k_Md_tape 80 = .ok (.getfield 104, 3)) ∧ (decode k_Md_tape 83 = .ok (.iload_n 1, 1))) ∧ ((decode k_Md_tape 84 = .ok (.aaload, 1)) ∧ (decode k_Md_tape 85 = .ok (.iload 4, 2))))) := by decide +kernel
theorem D_Md_tape_3 : ((decode k_Md_tape 87 = .ok (.lconst 0, 1)) ∧ ((decode k_Md_tape 88 = .ok (.lastore, 1)) ∧ (decode k_Md_tape 89 = .ok (.iinc 4 1, 3)))) ∧ ((decode k_Md_tape 92 = .ok (.goto (-20), 3)) ∧ ((decode k_Md_tape 95 = .ok (.iconst 1, 1)) ∧ (decode k_Md_tape 96 = .ok (.ireturn, 1)))) := by decide +kernel
theorem D_Md_fit_0 : ((((decode k_Md_fit 0 = .ok (.iload_n 0, 1)) ∧ (decode k_Md_fit 1 = .ok (.tableswitch 47 0 3 #[31, 36, 41, 45], 31))) ∧ ((decode k_Md_fit 32 = .ok (.lload_n 1, 1)) ∧ (decode k_Md_fit 33 = .ok (.l2i, 1)))) ∧ (((decode k_Md_fit 34 = .ok (.i2b, 1)) ∧ (decode k_Md_fit 35 = .ok (.i2l, 1))) ∧ ((decode k_Md_fit 36 = .ok (.lreturn, 1)) ∧ (decode k_Md_fit 37 = .ok (.lload_n 1, 1))))) ∧ ((((decode k_Md_fit 38 = .ok (.l2i, 1)) ∧ (decode k_Md_fit 39 = .ok (.i2s, 1))) ∧ ((decode k_Md_fit 40 = .ok (.i2l, 1)) ∧ (decode k_Md_fit 41 = .ok (.lreturn, 1)))) ∧ (((decode k_Md_fit 42 = .ok (.lload_n 1, 1)) ∧ (decode k_Md_fit 43 = .ok (.l2i, 1))) ∧ ((decode k_Md_fit 44 = .ok (.i2l, 1)) ∧ (decode k_Md_fit 45 = .ok (.lreturn, 1))))) := by decide +kernel
theorem D_Md_fit_1 : (((decode k_Md_fit 46 = .ok (.lload_n 1, 1)) ∧ (decode k_Md_fit 47 = .ok (.lreturn, 1))) ∧ ((decode k_Md_fit 48 = .ok (.lload_n 1, 1)) ∧ ((decode k_Md_fit 49 = .ok (.lconst 0, 1)) ∧ (decode k_Md_fit 50 = .ok (.lcmp, 1))))) ∧ (((decode k_Md_fit 51 = .ok (.ifCond .eq 7, 3)) ∧ (decode k_Md_fit 54 = .ok (.lconst 1, 1))) ∧ ((decode k_Md_fit 55 = .ok (.goto 4, 3)) ∧ ((decode k_Md_fit 58 = .ok (.lconst 0, 1)) ∧ (decode k_Md_fit 59 = .ok (.lreturn, 1))))) := by decide +kernel
theorem D_Md_item_0 : ((((decode k_Md_item 0 = .ok (.iload_n 1, 1)) ∧ (decode k_Md_item 1 = .ok (.invokestatic 380, 3))) ∧ ((decode k_Md_item 4 = .ok (.ifCond .ne 5, 3)) ∧ (decode k_Md_item 7 = .ok (.iconst (-1), 1)))) ∧ (((decode k_Md_item 8 = .ok (.ireturn, 1)) ∧ (decode k_Md_item 9 = .ok (.aload_n 0, 1))) ∧ ((decode k_Md_item 10 = .ok (.getfield 107, 3)) ∧ (decode k_Md_item 13 = .ok (.iload_n 1, 1))))) ∧ ((((decode k_Md_item 14 = .ok (.iaload, 1)) ∧ (decode k_Md_item 15 = .ok (.ifCond .ge 6, 3))) ∧ ((decode k_Md_item 18 = .ok (.bipush (-11), 2)) ∧ (decode k_Md_item 20 = .ok (.ireturn, 1)))) ∧ (((decode k_Md_item 21 = .ok (.iload_n 2, 1)) ∧ (decode k_Md_item 22 = .ok (.i2l, 1))) ∧ ((decode k_Md_item 23 = .ok (.lconst 0, 1)) ∧ (decode k_Md_item 24 = .ok (.aload_n 0, 1))))) := by decide +kernel
theorem D_Md_item_1 : ((((decode k_Md_item 25 = .ok (.getfield 110, 3)) ∧ (decode k_Md_item 28 = .ok (.iload_n 1, 1))) ∧ ((decode k_Md_item 29 = .ok (.iaload, 1)) ∧ (decode k_Md_item 30 = .ok (.iconst 1, 1)))) ∧ (((decode k_Md_item 31 = .ok (.isub, 1)) ∧ (decode k_Md_item 32 = .ok (.i2l, 1))) ∧ ((decode k_Md_item 33 = .ok (.invokestatic 119, 3)) ∧ (decode k_Md_item 36 = .ok (.ifCond .ne 6, 3))))) ∧ ((((decode k_Md_item 39 = .ok (.bipush (-13), 2)) ∧ (decode k_Md_item 41 = .ok (.ireturn, 1))) ∧ ((decode k_Md_item 42 = .ok (.aload_n 0, 1)) ∧ (decode k_Md_item 43 = .ok (.getfield 104, 3)))) ∧ (((decode k_Md_item 46 = .ok (.iload_n 1, 1)) ∧ (decode k_Md_item 47 = .ok (.aaload, 1))) ∧ ((decode k_Md_item 48 = .ok (.iload_n 2, 1)) ∧ (decode k_Md_item 49 = .ok (.aload_n 0, 1))))) := by decide +kernel
theorem D_Md_item_2 : (((decode k_Md_item 50 = .ok (.getfield 107, 3)) ∧ (decode k_Md_item 53 = .ok (.iload_n 1, 1))) ∧ ((decode k_Md_item 54 = .ok (.iaload, 1)) ∧ (decode k_Md_item 55 = .ok (.lload_n 3, 1)))) ∧ (((decode k_Md_item 56 = .ok (.invokestatic 388, 3)) ∧ (decode k_Md_item 59 = .ok (.lastore, 1))) ∧ ((decode k_Md_item 60 = .ok (.iconst 1, 1)) ∧ (decode k_Md_item 61 = .ok (.ireturn, 1)))) := by decide +kernel
theorem D_Md_peek_0 : ((((decode k_Md_peek 0 = .ok (.iload_n 1, 1)) ∧ (decode k_Md_peek 1 = .ok (.invokestatic 380, 3))) ∧ ((decode k_Md_peek 4 = .ok (.ifCond .eq 41, 3)) ∧ (decode k_Md_peek 7 = .ok (.aload_n 0, 1)))) ∧ (((decode k_Md_peek 8 = .ok (.getfield 107, 3)) ∧ (decode k_Md_peek 11 = .ok (.iload_n 1, 1))) ∧ ((decode k_Md_peek 12 = .ok (.iaload, 1)) ∧ (decode k_Md_peek 13 = .ok (.ifCond .lt 32, 3))))) ∧ ((((decode k_Md_peek 16 = .ok (.iload_n 2, 1)) ∧ (decode k_Md_peek 17 = .ok (.i2l, 1))) ∧ ((decode k_Md_peek 18 = .ok (.lconst 0, 1)) ∧ (decode k_Md_peek 19 = .ok (.aload_n 0, 1)))) ∧ (((decode k_Md_peek 20 = .ok (.getfield 110, 3)) ∧ (decode k_Md_peek 23 = .ok (.iload_n 1, 1))) ∧ ((decode k_Md_peek 24 = .ok (.iaload, 1)) ∧ (decode k_Md_peek 25 = .ok (.iconst 1, 1))))) := by decide +kernel
theorem D_Md_peek_1 : (((decode k_Md_peek 26 = .ok (.isub, 1)) ∧ ((decode k_Md_peek 27 = .ok (.i2l, 1)) ∧ (decode k_Md_peek 28 = .ok (.invokestatic 119, 3)))) ∧ ((decode k_Md_peek 31 = .ok (.ifCond .eq 14, 3)) ∧ ((decode k_Md_peek 34 = .ok (.aload_n 0, 1)) ∧ (decode k_Md_peek 35 = .ok (.getfield 104, 3))))) ∧ (((decode k_Md_peek 38 = .ok (.iload_n 1, 1)) ∧ ((decode k_Md_peek 39 = .ok (.aaload, 1)) ∧ (decode k_Md_peek 40 = .ok (.iload_n 2, 1)))) ∧ (((decode k_Md_peek 41 = .ok (.laload, 1)) ∧ (decode k_Md_peek 42 = .ok (.goto 6, 3))) ∧ ((decode k_Md_peek 45 = .ok (.ldc2_w 259, 3)) ∧ (decode k_Md_peek 48 = .ok (.lreturn, 1))))) := by decide +kernel
theorem D_Md_shift_0 : ((((decode k_Md_shift 0 = .ok (.iload_n 1, 1)) ∧ (decode k_Md_shift 1 = .ok (.invokestatic 380, 3))) ∧ ((decode k_Md_shift 4 = .ok (.ifCond .eq 10, 3)) ∧ (decode k_Md_shift 7 = .ok (.iload_n 3, 1)))) ∧ (((decode k_Md_shift 8 = .ok (.invokestatic 380, 3)) ∧ (decode k_Md_shift 11 = .ok (.ifCond .ne 5, 3))) ∧ ((decode k_Md_shift 14 = .ok (.iconst (-1), 1)) ∧ (decode k_Md_shift 15 = .ok (.ireturn, 1))))) ∧ ((((decode k_Md_shift 16 = .ok (.aload_n 0, 1)) ∧ (decode k_Md_shift 17 = .ok (.getfield 107, 3))) ∧ ((decode k_Md_shift 20 = .ok (.iload_n 1, 1)) ∧ (decode k_Md_shift 21 = .ok (.iaload, 1)))) ∧ (((decode k_Md_shift 22 = .ok (.ifCond .lt 12, 3)) ∧ (decode k_Md_shift 25 = .ok (.aload_n 0, 1))) ∧ ((decode k_Md_shift 26 = .ok (.getfield 107, 3)) ∧ (decode k_Md_shift 29 = .ok (.iload_n 3, 1))))) := by decide +kernel
theorem D_Md_shift_1 : ((((decode k_Md_shift 30 = .ok (.iaload, 1)) ∧ (decode k_Md_shift 31 = .ok (.ifCond .ge 6, 3))) ∧ ((decode k_Md_shift 34 = .ok (.bipush (-11), 2)) ∧ (decode k_Md_shift 36 = .ok (.ireturn, 1)))) ∧ (((decode k_Md_shift 37 = .ok (.aload_n 0, 1)) ∧ (decode k_Md_shift 38 = .ok (.getfield 107, 3))) ∧ ((decode k_Md_shift 41 = .ok (.iload_n 1, 1)) ∧ (decode k_Md_shift 42 = .ok (.iaload, 1))))) ∧ ((((decode k_Md_shift 43 = .ok (.aload_n 0, 1)) ∧ (decode k_Md_shift 44 = .ok (.getfield 107, 3))) ∧ ((decode k_Md_shift 47 = .ok (.iload_n 3, 1)) ∧ (decode k_Md_shift 48 = .ok (.iaload, 1)))) ∧ (((decode k_Md_shift 49 = .ok (.if_icmp .eq 6, 3)) ∧ (decode k_Md_shift 52 = .ok (.bipush (-12), 2))) ∧ ((decode k_Md_shift 54 = .ok (.ireturn, 1)) ∧ (decode k_Md_shift 55 = .ok (.iload 5, 2))))) := by decide +kernel
theorem D_Md_shift_2 : ((((decode k_Md_shift 57 = .ok (.ifCond .lt 61, 3)) ∧ (decode k_Md_shift 60 = .ok (.iload_n 2, 1))) ∧ ((decode k_Md_shift 61 = .ok (.ifCond .lt 57, 3)) ∧ (decode k_Md_shift 64 = .ok (.iload 4, 2)))) ∧ (((decode k_Md_shift 66 = .ok (.ifCond .lt 52, 3)) ∧ (decode k_Md_shift 69 = .ok (.iload 5, 2))) ∧ ((decode k_Md_shift 71 = .ok (.aload_n 0, 1)) ∧ (decode k_Md_shift 72 = .ok (.getfield 110, 3))))) ∧ ((((decode k_Md_shift 75 = .ok (.iload_n 1, 1)) ∧ (decode k_Md_shift 76 = .ok (.iaload, 1))) ∧ ((decode k_Md_shift 77 = .ok (.if_icmp .gt 41, 3)) ∧ (decode k_Md_shift 80 = .ok (.iload 5, 2)))) ∧ (((decode k_Md_shift 82 = .ok (.aload_n 0, 1)) ∧ (decode k_Md_shift 83 = .ok (.getfield 110, 3))) ∧ ((decode k_Md_shift 86 = .ok (.iload_n 3, 1)) ∧ (decode k_Md_shift 87 = .ok (.iaload, 1))))) := by decide +kernel
theorem D_Md_shift_3 : ((((decode k_Md_shift 88 = .ok (.if_icmp .gt 30, 3)) ∧ (decode k_Md_shift 91 = .ok (.iload_n 2, 1))) ∧ ((decode k_Md_shift 92 = .ok (.aload_n 0, 1)) ∧ (decode k_Md_shift 93 = .ok (.getfield 110, 3)))) ∧ (((decode k_Md_shift 96 = .ok (.iload_n 1, 1)) ∧ (decode k_Md_shift 97 = .ok (.iaload, 1))) ∧ ((decode k_Md_shift 98 = .ok (.iload 5, 2)) ∧ (decode k_Md_shift 100 = .ok (.isub, 1))))) ∧ ((((decode k_Md_shift 101 = .ok (.if_icmp .gt 17, 3)) ∧ (decode k_Md_shift 104 = .ok (.iload 4, 2))) ∧ ((decode k_Md_shift 106 = .ok (.aload_n 0, 1)) ∧ (decode k_Md_shift 107 = .ok (.getfield 110, 3)))) ∧ (((decode k_Md_shift 110 = .ok (.iload_n 3, 1)) ∧ (decode k_Md_shift 111 = .ok (.iaload, 1))) ∧ ((decode k_Md_shift 112 = .ok (.iload 5, 2)) ∧ (decode k_Md_shift 114 = .ok (.isub, 1))))) := by decide +kernel
theorem D_Md_shift_4 : ((((decode k_Md_shift 115 = .ok (.if_icmp .le 6, 3)) ∧ (decode k_Md_shift 118 = .ok (.bipush (-13), 2))) ∧ ((decode k_Md_shift 120 = .ok (.ireturn, 1)) ∧ (decode k_Md_shift 121 = .ok (.iconst 0, 1)))) ∧ (((decode k_Md_shift 122 = .ok (.istore 6, 2)) ∧ (decode k_Md_shift 124 = .ok (.iload 6, 2))) ∧ ((decode k_Md_shift 126 = .ok (.iload 5, 2)) ∧ (decode k_Md_shift 128 = .ok (.if_icmp .ge 27, 3))))) ∧ ((((decode k_Md_shift 131 = .ok (.aload_n 0, 1)) ∧ (decode k_Md_shift 132 = .ok (.getfield 113, 3))) ∧ ((decode k_Md_shift 135 = .ok (.iload 6, 2)) ∧ (decode k_Md_shift 137 = .ok (.aload_n 0, 1)))) ∧ (((decode k_Md_shift 138 = .ok (.getfield 104, 3)) ∧ (decode k_Md_shift 141 = .ok (.iload_n 1, 1))) ∧ ((decode k_Md_shift 142 = .ok (.aaload, 1)) ∧ (decode k_Md_shift 143 = .ok (.iload_n 2, 1))))) := by decide +kernel
theorem D_Md_shift_5 : ((((decode k_Md_shift 144 = .ok (.iload 6, 2)) ∧ (decode k_Md_shift 146 = .ok (.iadd, 1))) ∧ ((decode k_Md_shift 147 = .ok (.laload, 1)) ∧ (decode k_Md_shift 148 = .ok (.lastore, 1)))) ∧ (((decode k_Md_shift 149 = .ok (.iinc 6 1, 3)) ∧ (decode k_Md_shift 152 = .ok (.goto (-28), 3))) ∧ ((decode k_Md_shift 155 = .ok (.iconst 0, 1)) ∧ (decode k_Md_shift 156 = .ok (.istore 6, 2))))) ∧ ((((decode k_Md_shift 158 = .ok (.iload 6, 2)) ∧ (decode k_Md_shift 160 = .ok (.iload 5, 2))) ∧ ((decode k_Md_shift 162 = .ok (.if_icmp .ge 28, 3)) ∧ (decode k_Md_shift 165 = .ok (.aload_n 0, 1)))) ∧ (((decode k_Md_shift 166 = .ok (.getfield 104, 3)) ∧ (decode k_Md_shift 169 = .ok (.iload_n 3, 1))) ∧ ((decode k_Md_shift 170 = .ok (.aaload, 1)) ∧ (decode k_Md_shift 171 = .ok (.iload 4, 2))))) := by decide +kernel
theorem D_Md_shift_6 : (((decode k_Md_shift 173 = .ok (.iload 6, 2)) ∧ (decode k_Md_shift 175 = .ok (.iadd, 1))) ∧ ((decode k_Md_shift 176 = .ok (.aload_n 0, 1)) ∧ ((decode k_Md_shift 177 = .ok (.getfield 113, 3)) ∧ (decode k_Md_shift 180 = .ok (.iload 6, 2))))) ∧ (((decode k_Md_shift 182 = .ok (.laload, 1)) ∧ ((decode k_Md_shift 183 = .ok (.lastore, 1)) ∧ (decode k_Md_shift 184 = .ok (.iinc 6 1, 3)))) ∧ ((decode k_Md_shift 187 = .ok (.goto (-29), 3)) ∧ ((decode k_Md_shift 190 = .ok (.iload 5, 2)) ∧ (decode k_Md_shift 192 = .ok (.ireturn, 1))))) := by decide +kernel
theorem D_Draws_init_0 : ((decode k_Draws_init 0 = .ok (.aload_n 0, 1)) ∧ ((decode k_Draws_init 1 = .ok (.invokespecial 3, 3)) ∧ (decode k_Draws_init 4 = .ok (.aload_n 0, 1)))) ∧ ((decode k_Draws_init 5 = .ok (.iconst 0, 1)) ∧ ((decode k_Draws_init 6 = .ok (.putfield 9, 3)) ∧ (decode k_Draws_init 9 = .ok (.return_, 1)))) := by decide +kernel
theorem D_Draws_likeness_0 : ((((decode k_Draws_likeness 0 = .ok (.aload_n 0, 1)) ∧ (decode k_Draws_likeness 1 = .ok (.iload_n 3, 1))) ∧ ((decode k_Draws_likeness 2 = .ok (.putfield 9, 3)) ∧ (decode k_Draws_likeness 5 = .ok (.iconst 0, 1)))) ∧ (((decode k_Draws_likeness 6 = .ok (.istore 6, 2)) ∧ (decode k_Draws_likeness 8 = .ok (.iconst 0, 1))) ∧ ((decode k_Draws_likeness 9 = .ok (.istore 7, 2)) ∧ (decode k_Draws_likeness 11 = .ok (.iload 7, 2))))) ∧ ((((decode k_Draws_likeness 13 = .ok (.aload_n 1, 1)) ∧ (decode k_Draws_likeness 14 = .ok (.getfield 15, 3))) ∧ ((decode k_Draws_likeness 17 = .ok (.if_icmp .ge 67, 3)) ∧ (decode k_Draws_likeness 20 = .ok (.aload_n 1, 1)))) ∧ (((decode k_Draws_likeness 21 = .ok (.iload 7, 2)) ∧ (decode k_Draws_likeness 23 = .ok (.iload 4, 2))) ∧ ((decode k_Draws_likeness 25 = .ok (.iload 5, 2)) ∧ (decode k_Draws_likeness 27 = .ok (.invokevirtual 20, 3))))) := by decide +kernel
theorem D_Draws_likeness_1 : ((((decode k_Draws_likeness 30 = .ok (.ifCond .eq 48, 3)) ∧ (decode k_Draws_likeness 33 = .ok (.aload_n 2, 1))) ∧ ((decode k_Draws_likeness 34 = .ok (.aload_n 1, 1)) ∧ (decode k_Draws_likeness 35 = .ok (.iload 7, 2)))) ∧ (((decode k_Draws_likeness 37 = .ok (.iload 4, 2)) ∧ (decode k_Draws_likeness 39 = .ok (.iload 5, 2))) ∧ ((decode k_Draws_likeness 41 = .ok (.invokevirtual 24, 3)) ∧ (decode k_Draws_likeness 44 = .ok (.aload_n 0, 1))))) ∧ ((((decode k_Draws_likeness 45 = .ok (.aload_n 2, 1)) ∧ (decode k_Draws_likeness 46 = .ok (.invokevirtual 30, 3))) ∧ ((decode k_Draws_likeness 49 = .ok (.istore 8, 2)) ∧ (decode k_Draws_likeness 51 = .ok (.aload_n 0, 1)))) ∧ (((decode k_Draws_likeness 52 = .ok (.aload_n 2, 1)) ∧ (decode k_Draws_likeness 53 = .ok (.invokevirtual 30, 3))) ∧ ((decode k_Draws_likeness 56 = .ok (.istore 9, 2)) ∧ (decode k_Draws_likeness 58 = .ok (.iload 8, 2))))) := by decide +kernel
theorem D_Draws_likeness_2 : (((decode k_Draws_likeness 60 = .ok (.iload 9, 2)) ∧ ((decode k_Draws_likeness 62 = .ok (.if_icmp .ne 16, 3)) ∧ (decode k_Draws_likeness 65 = .ok (.iload 6, 2)))) ∧ ((decode k_Draws_likeness 67 = .ok (.aload_n 1, 1)) ∧ ((decode k_Draws_likeness 68 = .ok (.iload 7, 2)) ∧ (decode k_Draws_likeness 70 = .ok (.iload 8, 2))))) ∧ (((decode k_Draws_likeness 72 = .ok (.invokevirtual 34, 3)) ∧ ((decode k_Draws_likeness 75 = .ok (.iadd, 1)) ∧ (decode k_Draws_likeness 76 = .ok (.istore 6, 2)))) ∧ (((decode k_Draws_likeness 78 = .ok (.iinc 7 1, 3)) ∧ (decode k_Draws_likeness 81 = .ok (.goto (-70), 3))) ∧ ((decode k_Draws_likeness 84 = .ok (.iload 6, 2)) ∧ (decode k_Draws_likeness 86 = .ok (.ireturn, 1))))) := by decide +kernel
theorem D_Draws_anAnswer_0 : ((((decode k_Draws_anAnswer 0 = .ok (.aload_n 0, 1)) ∧ (decode k_Draws_anAnswer 1 = .ok (.aload_n 1, 1))) ∧ ((decode k_Draws_anAnswer 2 = .ok (.getfield 38, 3)) ∧ (decode k_Draws_anAnswer 5 = .ok (.invokevirtual 41, 3)))) ∧ (((decode k_Draws_anAnswer 8 = .ok (.istore_n 2, 1)) ∧ (decode k_Draws_anAnswer 9 = .ok (.iconst 0, 1))) ∧ ((decode k_Draws_anAnswer 10 = .ok (.istore_n 3, 1)) ∧ (decode k_Draws_anAnswer 11 = .ok (.iconst 0, 1))))) ∧ ((((decode k_Draws_anAnswer 12 = .ok (.istore 4, 2)) ∧ (decode k_Draws_anAnswer 14 = .ok (.iload 4, 2))) ∧ ((decode k_Draws_anAnswer 16 = .ok (.iconst 4, 1)) ∧ (decode k_Draws_anAnswer 17 = .ok (.if_icmp .ge 27, 3)))) ∧ (((decode k_Draws_anAnswer 20 = .ok (.iload_n 3, 1)) ∧ (decode k_Draws_anAnswer 21 = .ok (.aload_n 1, 1))) ∧ ((decode k_Draws_anAnswer 22 = .ok (.getfield 45, 3)) ∧ (decode k_Draws_anAnswer 25 = .ok (.iload 4, 2))))) := by decide +kernel
theorem D_Draws_anAnswer_1 : (((decode k_Draws_anAnswer 27 = .ok (.iaload, 1)) ∧ ((decode k_Draws_anAnswer 28 = .ok (.iadd, 1)) ∧ (decode k_Draws_anAnswer 29 = .ok (.istore_n 3, 1)))) ∧ ((decode k_Draws_anAnswer 30 = .ok (.iload_n 3, 1)) ∧ ((decode k_Draws_anAnswer 31 = .ok (.iload_n 2, 1)) ∧ (decode k_Draws_anAnswer 32 = .ok (.if_icmp .le 6, 3))))) ∧ (((decode k_Draws_anAnswer 35 = .ok (.iload 4, 2)) ∧ ((decode k_Draws_anAnswer 37 = .ok (.ireturn, 1)) ∧ (decode k_Draws_anAnswer 38 = .ok (.iinc 4 1, 3)))) ∧ ((decode k_Draws_anAnswer 41 = .ok (.goto (-27), 3)) ∧ ((decode k_Draws_anAnswer 44 = .ok (.iconst 3, 1)) ∧ (decode k_Draws_anAnswer 45 = .ok (.ireturn, 1))))) := by decide +kernel
theorem D_Draws_below_0 : ((((decode k_Draws_below 0 = .ok (.aload_n 0, 1)) ∧ (decode k_Draws_below 1 = .ok (.aload_n 0, 1))) ∧ ((decode k_Draws_below 2 = .ok (.getfield 9, 3)) ∧ (decode k_Draws_below 5 = .ok (.ldc 49, 2)))) ∧ (((decode k_Draws_below 7 = .ok (.imul, 1)) ∧ (decode k_Draws_below 8 = .ok (.sipush 12345, 3))) ∧ ((decode k_Draws_below 11 = .ok (.iadd, 1)) ∧ (decode k_Draws_below 12 = .ok (.putfield 9, 3))))) ∧ ((((decode k_Draws_below 15 = .ok (.iload_n 1, 1)) ∧ (decode k_Draws_below 16 = .ok (.ifCond .le 15, 3))) ∧ ((decode k_Draws_below 19 = .ok (.aload_n 0, 1)) ∧ (decode k_Draws_below 20 = .ok (.getfield 9, 3)))) ∧ (((decode k_Draws_below 23 = .ok (.bipush 9, 2)) ∧ (decode k_Draws_below 25 = .ok (.iushr, 1))) ∧ ((decode k_Draws_below 26 = .ok (.iload_n 1, 1)) ∧ (decode k_Draws_below 27 = .ok (.irem, 1))))) := by decide +kernel
theorem D_Draws_below_1 : (decode k_Draws_below 28 = .ok (.goto 4, 3)) ∧ ((decode k_Draws_below 31 = .ok (.iconst 0, 1)) ∧ (decode k_Draws_below 32 = .ok (.ireturn, 1))) := by decide +kernel
theorem D_Exam_init_0 : ((((decode k_Exam_init 0 = .ok (.aload_n 0, 1)) ∧ (decode k_Exam_init 1 = .ok (.invokespecial 3, 3))) ∧ ((decode k_Exam_init 4 = .ok (.aload_n 0, 1)) ∧ (decode k_Exam_init 5 = .ok (.iconst 0, 1)))) ∧ (((decode k_Exam_init 6 = .ok (.putfield 9, 3)) ∧ (decode k_Exam_init 9 = .ok (.aload_n 0, 1))) ∧ ((decode k_Exam_init 10 = .ok (.iconst 0, 1)) ∧ (decode k_Exam_init 11 = .ok (.putfield 15, 3))))) ∧ ((((decode k_Exam_init 14 = .ok (.aload_n 0, 1)) ∧ (decode k_Exam_init 15 = .ok (.iconst 0, 1))) ∧ ((decode k_Exam_init 16 = .ok (.putfield 18, 3)) ∧ (decode k_Exam_init 19 = .ok (.aload_n 0, 1)))) ∧ (((decode k_Exam_init 20 = .ok (.iconst 0, 1)) ∧ (decode k_Exam_init 21 = .ok (.putfield 21, 3))) ∧ ((decode k_Exam_init 24 = .ok (.aload_n 0, 1)) ∧ (decode k_Exam_init 25 = .ok (.bipush 8, 2))))) := by decide +kernel
theorem D_Exam_init_1 : ((((decode k_Exam_init 27 = .ok (.newarray .int, 2)) ∧ (decode k_Exam_init 29 = .ok (.putfield 24, 3))) ∧ ((decode k_Exam_init 32 = .ok (.aload_n 0, 1)) ∧ (decode k_Exam_init 33 = .ok (.bipush 8, 2)))) ∧ (((decode k_Exam_init 35 = .ok (.newarray .int, 2)) ∧ (decode k_Exam_init 37 = .ok (.putfield 28, 3))) ∧ ((decode k_Exam_init 40 = .ok (.aload_n 0, 1)) ∧ (decode k_Exam_init 41 = .ok (.bipush 8, 2))))) ∧ ((((decode k_Exam_init 43 = .ok (.iconst 4, 1)) ∧ (decode k_Exam_init 44 = .ok (.multianewarray 31 2, 4))) ∧ ((decode k_Exam_init 48 = .ok (.putfield 33, 3)) ∧ (decode k_Exam_init 51 = .ok (.aload_n 0, 1)))) ∧ (((decode k_Exam_init 52 = .ok (.bipush 8, 2)) ∧ (decode k_Exam_init 54 = .ok (.bipush 8, 2))) ∧ ((decode k_Exam_init 56 = .ok (.multianewarray 31 2, 4)) ∧ (decode k_Exam_init 60 = .ok (.putfield 36, 3))))) := by decide +kernel
theorem D_Exam_init_2 : ((((decode k_Exam_init 63 = .ok (.aload_n 0, 1)) ∧ (decode k_Exam_init 64 = .ok (.bipush 8, 2))) ∧ ((decode k_Exam_init 66 = .ok (.newarray .int, 2)) ∧ (decode k_Exam_init 68 = .ok (.putfield 39, 3)))) ∧ (((decode k_Exam_init 71 = .ok (.aload_n 0, 1)) ∧ (decode k_Exam_init 72 = .ok (.bipush 8, 2))) ∧ ((decode k_Exam_init 74 = .ok (.newarray .int, 2)) ∧ (decode k_Exam_init 76 = .ok (.putfield 42, 3))))) ∧ ((((decode k_Exam_init 79 = .ok (.aload_n 0, 1)) ∧ (decode k_Exam_init 80 = .ok (.bipush 6, 2))) ∧ ((decode k_Exam_init 82 = .ok (.newarray .int, 2)) ∧ (decode k_Exam_init 84 = .ok (.putfield 45, 3)))) ∧ (((decode k_Exam_init 87 = .ok (.aload_n 0, 1)) ∧ (decode k_Exam_init 88 = .ok (.iconst 5, 1))) ∧ ((decode k_Exam_init 89 = .ok (.newarray .int, 2)) ∧ (decode k_Exam_init 91 = .ok (.putfield 48, 3))))) := by decide +kernel
theorem D_Exam_init_3 : ((((decode k_Exam_init 94 = .ok (.aload_n 0, 1)) ∧ (decode k_Exam_init 95 = .ok (.iconst 5, 1))) ∧ ((decode k_Exam_init 96 = .ok (.newarray .int, 2)) ∧ (decode k_Exam_init 98 = .ok (.putfield 51, 3)))) ∧ (((decode k_Exam_init 101 = .ok (.aload_n 0, 1)) ∧ (decode k_Exam_init 102 = .ok (.iconst 5, 1))) ∧ ((decode k_Exam_init 103 = .ok (.newarray .boolean, 2)) ∧ (decode k_Exam_init 105 = .ok (.putfield 54, 3))))) ∧ ((((decode k_Exam_init 108 = .ok (.aload_n 0, 1)) ∧ (decode k_Exam_init 109 = .ok (.bipush 8, 2))) ∧ ((decode k_Exam_init 111 = .ok (.newarray .int, 2)) ∧ (decode k_Exam_init 113 = .ok (.putfield 58, 3)))) ∧ (((decode k_Exam_init 116 = .ok (.aload_n 0, 1)) ∧ (decode k_Exam_init 117 = .ok (.bipush 8, 2))) ∧ ((decode k_Exam_init 119 = .ok (.newarray .int, 2)) ∧ (decode k_Exam_init 121 = .ok (.putfield 61, 3))))) := by decide +kernel
theorem D_Exam_init_4 : ((((decode k_Exam_init 124 = .ok (.aload_n 0, 1)) ∧ (decode k_Exam_init 125 = .ok (.bipush 8, 2))) ∧ ((decode k_Exam_init 127 = .ok (.newarray .int, 2)) ∧ (decode k_Exam_init 129 = .ok (.putfield 64, 3)))) ∧ (((decode k_Exam_init 132 = .ok (.aload_n 0, 1)) ∧ (decode k_Exam_init 133 = .ok (.getfield 45, 3))) ∧ ((decode k_Exam_init 136 = .ok (.iconst 2, 1)) ∧ (decode k_Exam_init 137 = .ok (.bipush 50, 2))))) ∧ ((((decode k_Exam_init 139 = .ok (.iastore, 1)) ∧ (decode k_Exam_init 140 = .ok (.aload_n 0, 1))) ∧ ((decode k_Exam_init 141 = .ok (.getfield 45, 3)) ∧ (decode k_Exam_init 144 = .ok (.iconst 5, 1)))) ∧ (((decode k_Exam_init 145 = .ok (.iconst 1, 1)) ∧ (decode k_Exam_init 146 = .ok (.iastore, 1))) ∧ ((decode k_Exam_init 147 = .ok (.aload_n 0, 1)) ∧ (decode k_Exam_init 148 = .ok (.iconst 4, 1))))) := by decide +kernel
theorem D_Exam_init_5 : (decode k_Exam_init 149 = .ok (.invokevirtual 67, 3)) ∧ (decode k_Exam_init 152 = .ok (.return_, 1)) := by decide +kernel
theorem D_Exam_begin_0 : ((((decode k_Exam_begin 0 = .ok (.aload_n 0, 1)) ∧ (decode k_Exam_begin 1 = .ok (.iload_n 1, 1))) ∧ ((decode k_Exam_begin 2 = .ok (.putfield 9, 3)) ∧ (decode k_Exam_begin 5 = .ok (.aload_n 0, 1)))) ∧ (((decode k_Exam_begin 6 = .ok (.iconst 0, 1)) ∧ (decode k_Exam_begin 7 = .ok (.putfield 15, 3))) ∧ ((decode k_Exam_begin 10 = .ok (.aload_n 0, 1)) ∧ (decode k_Exam_begin 11 = .ok (.iconst 0, 1))))) ∧ ((((decode k_Exam_begin 12 = .ok (.putfield 18, 3)) ∧ (decode k_Exam_begin 15 = .ok (.aload_n 0, 1))) ∧ ((decode k_Exam_begin 16 = .ok (.iconst 0, 1)) ∧ (decode k_Exam_begin 17 = .ok (.putfield 21, 3)))) ∧ (((decode k_Exam_begin 20 = .ok (.iconst 0, 1)) ∧ (decode k_Exam_begin 21 = .ok (.istore_n 2, 1))) ∧ ((decode k_Exam_begin 22 = .ok (.iload_n 2, 1)) ∧ (decode k_Exam_begin 23 = .ok (.bipush 8, 2))))) := by decide +kernel
theorem D_Exam_begin_1 : ((((decode k_Exam_begin 25 = .ok (.if_icmp .ge 45, 3)) ∧ (decode k_Exam_begin 28 = .ok (.aload_n 0, 1))) ∧ ((decode k_Exam_begin 29 = .ok (.getfield 24, 3)) ∧ (decode k_Exam_begin 32 = .ok (.iload_n 2, 1)))) ∧ (((decode k_Exam_begin 33 = .ok (.iconst 0, 1)) ∧ (decode k_Exam_begin 34 = .ok (.iastore, 1))) ∧ ((decode k_Exam_begin 35 = .ok (.aload_n 0, 1)) ∧ (decode k_Exam_begin 36 = .ok (.getfield 28, 3))))) ∧ ((((decode k_Exam_begin 39 = .ok (.iload_n 2, 1)) ∧ (decode k_Exam_begin 40 = .ok (.iconst 0, 1))) ∧ ((decode k_Exam_begin 41 = .ok (.iastore, 1)) ∧ (decode k_Exam_begin 42 = .ok (.iconst 0, 1)))) ∧ (((decode k_Exam_begin 43 = .ok (.istore_n 3, 1)) ∧ (decode k_Exam_begin 44 = .ok (.iload_n 3, 1))) ∧ ((decode k_Exam_begin 45 = .ok (.iconst 4, 1)) ∧ (decode k_Exam_begin 46 = .ok (.if_icmp .ge 18, 3))))) := by decide +kernel
theorem D_Exam_begin_2 : ((((decode k_Exam_begin 49 = .ok (.aload_n 0, 1)) ∧ (decode k_Exam_begin 50 = .ok (.getfield 33, 3))) ∧ ((decode k_Exam_begin 53 = .ok (.iload_n 2, 1)) ∧ (decode k_Exam_begin 54 = .ok (.aaload, 1)))) ∧ (((decode k_Exam_begin 55 = .ok (.iload_n 3, 1)) ∧ (decode k_Exam_begin 56 = .ok (.iconst 1, 1))) ∧ ((decode k_Exam_begin 57 = .ok (.iastore, 1)) ∧ (decode k_Exam_begin 58 = .ok (.iinc 3 1, 3))))) ∧ ((((decode k_Exam_begin 61 = .ok (.goto (-17), 3)) ∧ (decode k_Exam_begin 64 = .ok (.iinc 2 1, 3))) ∧ ((decode k_Exam_begin 67 = .ok (.goto (-45), 3)) ∧ (decode k_Exam_begin 70 = .ok (.iconst 0, 1)))) ∧ (((decode k_Exam_begin 71 = .ok (.istore_n 2, 1)) ∧ (decode k_Exam_begin 72 = .ok (.iload_n 2, 1))) ∧ ((decode k_Exam_begin 73 = .ok (.bipush 8, 2)) ∧ (decode k_Exam_begin 75 = .ok (.if_icmp .ge 21, 3))))) := by decide +kernel
theorem D_Exam_begin_3 : (((decode k_Exam_begin 78 = .ok (.aload_n 0, 1)) ∧ (decode k_Exam_begin 79 = .ok (.iload_n 2, 1))) ∧ ((decode k_Exam_begin 80 = .ok (.invokevirtual 71, 3)) ∧ ((decode k_Exam_begin 83 = .ok (.aload_n 0, 1)) ∧ (decode k_Exam_begin 84 = .ok (.iload_n 2, 1))))) ∧ (((decode k_Exam_begin 85 = .ok (.iconst (-1), 1)) ∧ ((decode k_Exam_begin 86 = .ok (.iconst (-1), 1)) ∧ (decode k_Exam_begin 87 = .ok (.invokevirtual 74, 3)))) ∧ ((decode k_Exam_begin 90 = .ok (.iinc 2 1, 3)) ∧ ((decode k_Exam_begin 93 = .ok (.goto (-21), 3)) ∧ (decode k_Exam_begin 96 = .ok (.return_, 1))))) := by decide +kernel
theorem D_Exam_copy_0 : ((((decode k_Exam_copy 0 = .ok (.aload_n 0, 1)) ∧ (decode k_Exam_copy 1 = .ok (.aload_n 1, 1))) ∧ ((decode k_Exam_copy 2 = .ok (.getfield 9, 3)) ∧ (decode k_Exam_copy 5 = .ok (.putfield 9, 3)))) ∧ (((decode k_Exam_copy 8 = .ok (.aload_n 0, 1)) ∧ (decode k_Exam_copy 9 = .ok (.aload_n 1, 1))) ∧ ((decode k_Exam_copy 10 = .ok (.getfield 15, 3)) ∧ (decode k_Exam_copy 13 = .ok (.putfield 15, 3))))) ∧ ((((decode k_Exam_copy 16 = .ok (.aload_n 0, 1)) ∧ (decode k_Exam_copy 17 = .ok (.aload_n 1, 1))) ∧ ((decode k_Exam_copy 18 = .ok (.getfield 18, 3)) ∧ (decode k_Exam_copy 21 = .ok (.putfield 18, 3)))) ∧ (((decode k_Exam_copy 24 = .ok (.aload_n 0, 1)) ∧ (decode k_Exam_copy 25 = .ok (.aload_n 1, 1))) ∧ ((decode k_Exam_copy 26 = .ok (.getfield 21, 3)) ∧ (decode k_Exam_copy 29 = .ok (.putfield 21, 3))))) := by decide +kernel
theorem D_Exam_copy_1 : ((((decode k_Exam_copy 32 = .ok (.aload_n 1, 1)) ∧ (decode k_Exam_copy 33 = .ok (.getfield 24, 3))) ∧ ((decode k_Exam_copy 36 = .ok (.iconst 0, 1)) ∧ (decode k_Exam_copy 37 = .ok (.aload_n 0, 1)))) ∧ (((decode k_Exam_copy 38 = .ok (.getfield 24, 3)) ∧ (decode k_Exam_copy 41 = .ok (.iconst 0, 1))) ∧ ((decode k_Exam_copy 42 = .ok (.bipush 8, 2)) ∧ (decode k_Exam_copy 44 = .ok (.invokestatic 78, 3))))) ∧ ((((decode k_Exam_copy 47 = .ok (.aload_n 1, 1)) ∧ (decode k_Exam_copy 48 = .ok (.getfield 28, 3))) ∧ ((decode k_Exam_copy 51 = .ok (.iconst 0, 1)) ∧ (decode k_Exam_copy 52 = .ok (.aload_n 0, 1)))) ∧ (((decode k_Exam_copy 53 = .ok (.getfield 28, 3)) ∧ (decode k_Exam_copy 56 = .ok (.iconst 0, 1))) ∧ ((decode k_Exam_copy 57 = .ok (.bipush 8, 2)) ∧ (decode k_Exam_copy 59 = .ok (.invokestatic 78, 3))))) := by decide +kernel
theorem D_Exam_copy_2 : ((((decode k_Exam_copy 62 = .ok (.iconst 0, 1)) ∧ (decode k_Exam_copy 63 = .ok (.istore_n 2, 1))) ∧ ((decode k_Exam_copy 64 = .ok (.iload_n 2, 1)) ∧ (decode k_Exam_copy 65 = .ok (.bipush 8, 2)))) ∧ (((decode k_Exam_copy 67 = .ok (.if_icmp .ge 27, 3)) ∧ (decode k_Exam_copy 70 = .ok (.aload_n 1, 1))) ∧ ((decode k_Exam_copy 71 = .ok (.getfield 33, 3)) ∧ (decode k_Exam_copy 74 = .ok (.iload_n 2, 1))))) ∧ ((((decode k_Exam_copy 75 = .ok (.aaload, 1)) ∧ (decode k_Exam_copy 76 = .ok (.iconst 0, 1))) ∧ ((decode k_Exam_copy 77 = .ok (.aload_n 0, 1)) ∧ (decode k_Exam_copy 78 = .ok (.getfield 33, 3)))) ∧ (((decode k_Exam_copy 81 = .ok (.iload_n 2, 1)) ∧ (decode k_Exam_copy 82 = .ok (.aaload, 1))) ∧ ((decode k_Exam_copy 83 = .ok (.iconst 0, 1)) ∧ (decode k_Exam_copy 84 = .ok (.iconst 4, 1))))) := by decide +kernel
theorem D_Exam_copy_3 : ((((decode k_Exam_copy 85 = .ok (.invokestatic 78, 3)) ∧ (decode k_Exam_copy 88 = .ok (.iinc 2 1, 3))) ∧ ((decode k_Exam_copy 91 = .ok (.goto (-27), 3)) ∧ (decode k_Exam_copy 94 = .ok (.iconst 0, 1)))) ∧ (((decode k_Exam_copy 95 = .ok (.istore_n 2, 1)) ∧ (decode k_Exam_copy 96 = .ok (.iload_n 2, 1))) ∧ ((decode k_Exam_copy 97 = .ok (.bipush 8, 2)) ∧ (decode k_Exam_copy 99 = .ok (.if_icmp .ge 28, 3))))) ∧ ((((decode k_Exam_copy 102 = .ok (.aload_n 1, 1)) ∧ (decode k_Exam_copy 103 = .ok (.getfield 36, 3))) ∧ ((decode k_Exam_copy 106 = .ok (.iload_n 2, 1)) ∧ (decode k_Exam_copy 107 = .ok (.aaload, 1)))) ∧ (((decode k_Exam_copy 108 = .ok (.iconst 0, 1)) ∧ (decode k_Exam_copy 109 = .ok (.aload_n 0, 1))) ∧ ((decode k_Exam_copy 110 = .ok (.getfield 36, 3)) ∧ (decode k_Exam_copy 113 = .ok (.iload_n 2, 1))))) := by decide +kernel
theorem D_Exam_copy_4 : ((((decode k_Exam_copy 114 = .ok (.aaload, 1)) ∧ (decode k_Exam_copy 115 = .ok (.iconst 0, 1))) ∧ ((decode k_Exam_copy 116 = .ok (.bipush 8, 2)) ∧ (decode k_Exam_copy 118 = .ok (.invokestatic 78, 3)))) ∧ (((decode k_Exam_copy 121 = .ok (.iinc 2 1, 3)) ∧ (decode k_Exam_copy 124 = .ok (.goto (-28), 3))) ∧ ((decode k_Exam_copy 127 = .ok (.aload_n 1, 1)) ∧ (decode k_Exam_copy 128 = .ok (.getfield 39, 3))))) ∧ ((((decode k_Exam_copy 131 = .ok (.iconst 0, 1)) ∧ (decode k_Exam_copy 132 = .ok (.aload_n 0, 1))) ∧ ((decode k_Exam_copy 133 = .ok (.getfield 39, 3)) ∧ (decode k_Exam_copy 136 = .ok (.iconst 0, 1)))) ∧ (((decode k_Exam_copy 137 = .ok (.bipush 8, 2)) ∧ (decode k_Exam_copy 139 = .ok (.invokestatic 78, 3))) ∧ ((decode k_Exam_copy 142 = .ok (.aload_n 1, 1)) ∧ (decode k_Exam_copy 143 = .ok (.getfield 42, 3))))) := by decide +kernel
theorem D_Exam_copy_5 : ((((decode k_Exam_copy 146 = .ok (.iconst 0, 1)) ∧ (decode k_Exam_copy 147 = .ok (.aload_n 0, 1))) ∧ ((decode k_Exam_copy 148 = .ok (.getfield 42, 3)) ∧ (decode k_Exam_copy 151 = .ok (.iconst 0, 1)))) ∧ (((decode k_Exam_copy 152 = .ok (.bipush 8, 2)) ∧ (decode k_Exam_copy 154 = .ok (.invokestatic 78, 3))) ∧ ((decode k_Exam_copy 157 = .ok (.aload_n 1, 1)) ∧ (decode k_Exam_copy 158 = .ok (.getfield 45, 3))))) ∧ ((((decode k_Exam_copy 161 = .ok (.iconst 0, 1)) ∧ (decode k_Exam_copy 162 = .ok (.aload_n 0, 1))) ∧ ((decode k_Exam_copy 163 = .ok (.getfield 45, 3)) ∧ (decode k_Exam_copy 166 = .ok (.iconst 0, 1)))) ∧ (((decode k_Exam_copy 167 = .ok (.bipush 6, 2)) ∧ (decode k_Exam_copy 169 = .ok (.invokestatic 78, 3))) ∧ ((decode k_Exam_copy 172 = .ok (.aload_n 1, 1)) ∧ (decode k_Exam_copy 173 = .ok (.getfield 48, 3))))) := by decide +kernel
theorem D_Exam_copy_6 : ((((decode k_Exam_copy 176 = .ok (.iconst 0, 1)) ∧ (decode k_Exam_copy 177 = .ok (.aload_n 0, 1))) ∧ ((decode k_Exam_copy 178 = .ok (.getfield 48, 3)) ∧ (decode k_Exam_copy 181 = .ok (.iconst 0, 1)))) ∧ (((decode k_Exam_copy 182 = .ok (.iconst 5, 1)) ∧ (decode k_Exam_copy 183 = .ok (.invokestatic 78, 3))) ∧ ((decode k_Exam_copy 186 = .ok (.aload_n 1, 1)) ∧ (decode k_Exam_copy 187 = .ok (.getfield 51, 3))))) ∧ ((((decode k_Exam_copy 190 = .ok (.iconst 0, 1)) ∧ (decode k_Exam_copy 191 = .ok (.aload_n 0, 1))) ∧ ((decode k_Exam_copy 192 = .ok (.getfield 51, 3)) ∧ (decode k_Exam_copy 195 = .ok (.iconst 0, 1)))) ∧ (((decode k_Exam_copy 196 = .ok (.iconst 5, 1)) ∧ (decode k_Exam_copy 197 = .ok (.invokestatic 78, 3))) ∧ ((decode k_Exam_copy 200 = .ok (.aload_n 1, 1)) ∧ (decode k_Exam_copy 201 = .ok (.getfield 54, 3))))) := by decide +kernel
theorem D_Exam_copy_7 : ((((decode k_Exam_copy 204 = .ok (.iconst 0, 1)) ∧ (decode k_Exam_copy 205 = .ok (.aload_n 0, 1))) ∧ ((decode k_Exam_copy 206 = .ok (.getfield 54, 3)) ∧ (decode k_Exam_copy 209 = .ok (.iconst 0, 1)))) ∧ (((decode k_Exam_copy 210 = .ok (.iconst 5, 1)) ∧ (decode k_Exam_copy 211 = .ok (.invokestatic 78, 3))) ∧ ((decode k_Exam_copy 214 = .ok (.aload_n 1, 1)) ∧ (decode k_Exam_copy 215 = .ok (.getfield 58, 3))))) ∧ ((((decode k_Exam_copy 218 = .ok (.iconst 0, 1)) ∧ (decode k_Exam_copy 219 = .ok (.aload_n 0, 1))) ∧ ((decode k_Exam_copy 220 = .ok (.getfield 58, 3)) ∧ (decode k_Exam_copy 223 = .ok (.iconst 0, 1)))) ∧ (((decode k_Exam_copy 224 = .ok (.bipush 8, 2)) ∧ (decode k_Exam_copy 226 = .ok (.invokestatic 78, 3))) ∧ ((decode k_Exam_copy 229 = .ok (.aload_n 1, 1)) ∧ (decode k_Exam_copy 230 = .ok (.getfield 61, 3))))) := by decide +kernel
theorem D_Exam_copy_8 : (((decode k_Exam_copy 233 = .ok (.iconst 0, 1)) ∧ ((decode k_Exam_copy 234 = .ok (.aload_n 0, 1)) ∧ (decode k_Exam_copy 235 = .ok (.getfield 61, 3)))) ∧ (((decode k_Exam_copy 238 = .ok (.iconst 0, 1)) ∧ (decode k_Exam_copy 239 = .ok (.bipush 8, 2))) ∧ ((decode k_Exam_copy 241 = .ok (.invokestatic 78, 3)) ∧ (decode k_Exam_copy 244 = .ok (.aload_n 1, 1))))) ∧ ((((decode k_Exam_copy 245 = .ok (.getfield 64, 3)) ∧ (decode k_Exam_copy 248 = .ok (.iconst 0, 1))) ∧ ((decode k_Exam_copy 249 = .ok (.aload_n 0, 1)) ∧ (decode k_Exam_copy 250 = .ok (.getfield 64, 3)))) ∧ (((decode k_Exam_copy 253 = .ok (.iconst 0, 1)) ∧ (decode k_Exam_copy 254 = .ok (.bipush 8, 2))) ∧ ((decode k_Exam_copy 256 = .ok (.invokestatic 78, 3)) ∧ (decode k_Exam_copy 259 = .ok (.return_, 1))))) := by decide +kernel
theorem D_Exam_hasItem_0 : (((decode k_Exam_hasItem 0 = .ok (.iload_n 1, 1)) ∧ (decode k_Exam_hasItem 1 = .ok (.ifCond .lt 15, 3))) ∧ ((decode k_Exam_hasItem 4 = .ok (.iload_n 1, 1)) ∧ ((decode k_Exam_hasItem 5 = .ok (.aload_n 0, 1)) ∧ (decode k_Exam_hasItem 6 = .ok (.getfield 9, 3))))) ∧ (((decode k_Exam_hasItem 9 = .ok (.if_icmp .ge 7, 3)) ∧ (decode k_Exam_hasItem 12 = .ok (.iconst 1, 1))) ∧ ((decode k_Exam_hasItem 13 = .ok (.goto 4, 3)) ∧ ((decode k_Exam_hasItem 16 = .ok (.iconst 0, 1)) ∧ (decode k_Exam_hasItem 17 = .ok (.ireturn, 1))))) := by decide +kernel
theorem D_Exam_hasCandidate_0 : (((decode k_Exam_hasCandidate 0 = .ok (.iload_n 1, 1)) ∧ (decode k_Exam_hasCandidate 1 = .ok (.ifCond .lt 15, 3))) ∧ ((decode k_Exam_hasCandidate 4 = .ok (.iload_n 1, 1)) ∧ ((decode k_Exam_hasCandidate 5 = .ok (.aload_n 0, 1)) ∧ (decode k_Exam_hasCandidate 6 = .ok (.getfield 15, 3))))) ∧ (((decode k_Exam_hasCandidate 9 = .ok (.if_icmp .ge 7, 3)) ∧ (decode k_Exam_hasCandidate 12 = .ok (.iconst 1, 1))) ∧ ((decode k_Exam_hasCandidate 13 = .ok (.goto 4, 3)) ∧ ((decode k_Exam_hasCandidate 16 = .ok (.iconst 0, 1)) ∧ (decode k_Exam_hasCandidate 17 = .ok (.ireturn, 1))))) := by decide +kernel
theorem D_Exam_hasTwo_0 : (((decode k_Exam_hasTwo 0 = .ok (.aload_n 0, 1)) ∧ ((decode k_Exam_hasTwo 1 = .ok (.iload_n 1, 1)) ∧ (decode k_Exam_hasTwo 2 = .ok (.invokevirtual 84, 3)))) ∧ (((decode k_Exam_hasTwo 5 = .ok (.ifCond .eq 20, 3)) ∧ (decode k_Exam_hasTwo 8 = .ok (.aload_n 0, 1))) ∧ ((decode k_Exam_hasTwo 9 = .ok (.iload_n 2, 1)) ∧ (decode k_Exam_hasTwo 10 = .ok (.invokevirtual 84, 3))))) ∧ ((((decode k_Exam_hasTwo 13 = .ok (.ifCond .eq 12, 3)) ∧ (decode k_Exam_hasTwo 16 = .ok (.iload_n 1, 1))) ∧ ((decode k_Exam_hasTwo 17 = .ok (.iload_n 2, 1)) ∧ (decode k_Exam_hasTwo 18 = .ok (.if_icmp .eq 7, 3)))) ∧ (((decode k_Exam_hasTwo 21 = .ok (.iconst 1, 1)) ∧ (decode k_Exam_hasTwo 22 = .ok (.goto 4, 3))) ∧ ((decode k_Exam_hasTwo 25 = .ok (.iconst 0, 1)) ∧ (decode k_Exam_hasTwo 26 = .ok (.ireturn, 1))))) := by decide +kernel
theorem D_Exam_comes_0 : (((decode k_Exam_comes 0 = .ok (.aload_n 0, 1)) ∧ (decode k_Exam_comes 1 = .ok (.dup, 1))) ∧ ((decode k_Exam_comes 2 = .ok (.getfield 15, 3)) ∧ ((decode k_Exam_comes 5 = .ok (.iconst 1, 1)) ∧ (decode k_Exam_comes 6 = .ok (.iadd, 1))))) ∧ (((decode k_Exam_comes 7 = .ok (.putfield 15, 3)) ∧ ((decode k_Exam_comes 10 = .ok (.aload_n 0, 1)) ∧ (decode k_Exam_comes 11 = .ok (.getfield 15, 3)))) ∧ ((decode k_Exam_comes 14 = .ok (.iconst 1, 1)) ∧ ((decode k_Exam_comes 15 = .ok (.isub, 1)) ∧ (decode k_Exam_comes 16 = .ok (.ireturn, 1))))) := by decide +kernel
theorem D_Exam_leaveBlank_0 : (((decode k_Exam_leaveBlank 0 = .ok (.iconst 0, 1)) ∧ ((decode k_Exam_leaveBlank 1 = .ok (.istore_n 2, 1)) ∧ (decode k_Exam_leaveBlank 2 = .ok (.iload_n 2, 1)))) ∧ (((decode k_Exam_leaveBlank 3 = .ok (.bipush 8, 2)) ∧ (decode k_Exam_leaveBlank 5 = .ok (.if_icmp .ge 18, 3))) ∧ ((decode k_Exam_leaveBlank 8 = .ok (.aload_n 0, 1)) ∧ (decode k_Exam_leaveBlank 9 = .ok (.getfield 36, 3))))) ∧ ((((decode k_Exam_leaveBlank 12 = .ok (.iload_n 1, 1)) ∧ (decode k_Exam_leaveBlank 13 = .ok (.aaload, 1))) ∧ ((decode k_Exam_leaveBlank 14 = .ok (.iload_n 2, 1)) ∧ (decode k_Exam_leaveBlank 15 = .ok (.iconst (-1), 1)))) ∧ (((decode k_Exam_leaveBlank 16 = .ok (.iastore, 1)) ∧ (decode k_Exam_leaveBlank 17 = .ok (.iinc 2 1, 3))) ∧ ((decode k_Exam_leaveBlank 20 = .ok (.goto (-18), 3)) ∧ (decode k_Exam_leaveBlank 23 = .ok (.return_, 1))))) := by decide +kernel
theorem D_Exam_sits_0 : (((decode k_Exam_sits 0 = .ok (.aload_n 0, 1)) ∧ (decode k_Exam_sits 1 = .ok (.getfield 39, 3))) ∧ ((decode k_Exam_sits 4 = .ok (.iload_n 1, 1)) ∧ ((decode k_Exam_sits 5 = .ok (.iload_n 2, 1)) ∧ (decode k_Exam_sits 6 = .ok (.iastore, 1))))) ∧ (((decode k_Exam_sits 7 = .ok (.aload_n 0, 1)) ∧ ((decode k_Exam_sits 8 = .ok (.getfield 42, 3)) ∧ (decode k_Exam_sits 11 = .ok (.iload_n 1, 1)))) ∧ ((decode k_Exam_sits 12 = .ok (.iload_n 3, 1)) ∧ ((decode k_Exam_sits 13 = .ok (.iastore, 1)) ∧ (decode k_Exam_sits 14 = .ok (.return_, 1))))) := by decide +kernel
theorem D_Exam_hasSeat_0 : (((decode k_Exam_hasSeat 0 = .ok (.aload_n 0, 1)) ∧ (decode k_Exam_hasSeat 1 = .ok (.getfield 39, 3))) ∧ ((decode k_Exam_hasSeat 4 = .ok (.iload_n 1, 1)) ∧ (decode k_Exam_hasSeat 5 = .ok (.iaload, 1)))) ∧ (((decode k_Exam_hasSeat 6 = .ok (.ifCond .lt 7, 3)) ∧ (decode k_Exam_hasSeat 9 = .ok (.iconst 1, 1))) ∧ ((decode k_Exam_hasSeat 10 = .ok (.goto 4, 3)) ∧ ((decode k_Exam_hasSeat 13 = .ok (.iconst 0, 1)) ∧ (decode k_Exam_hasSeat 14 = .ok (.ireturn, 1))))) := by decide +kernel
theorem D_Exam_whoSits_0 : ((((decode k_Exam_whoSits 0 = .ok (.iconst 0, 1)) ∧ (decode k_Exam_whoSits 1 = .ok (.istore_n 3, 1))) ∧ ((decode k_Exam_whoSits 2 = .ok (.iload_n 3, 1)) ∧ (decode k_Exam_whoSits 3 = .ok (.aload_n 0, 1)))) ∧ (((decode k_Exam_whoSits 4 = .ok (.getfield 15, 3)) ∧ (decode k_Exam_whoSits 7 = .ok (.if_icmp .ge 31, 3))) ∧ ((decode k_Exam_whoSits 10 = .ok (.aload_n 0, 1)) ∧ (decode k_Exam_whoSits 11 = .ok (.getfield 39, 3))))) ∧ ((((decode k_Exam_whoSits 14 = .ok (.iload_n 3, 1)) ∧ (decode k_Exam_whoSits 15 = .ok (.iaload, 1))) ∧ ((decode k_Exam_whoSits 16 = .ok (.iload_n 1, 1)) ∧ (decode k_Exam_whoSits 17 = .ok (.if_icmp .ne 15, 3)))) ∧ (((decode k_Exam_whoSits 20 = .ok (.aload_n 0, 1)) ∧ (decode k_Exam_whoSits 21 = .ok (.getfield 42, 3))) ∧ ((decode k_Exam_whoSits 24 = .ok (.iload_n 3, 1)) ∧ (decode k_Exam_whoSits 25 = .ok (.iaload, 1))))) := by decide +kernel
theorem D_Exam_whoSits_1 : (((decode k_Exam_whoSits 26 = .ok (.iload_n 2, 1)) ∧ (decode k_Exam_whoSits 27 = .ok (.if_icmp .ne 5, 3))) ∧ ((decode k_Exam_whoSits 30 = .ok (.iload_n 3, 1)) ∧ (decode k_Exam_whoSits 31 = .ok (.ireturn, 1)))) ∧ (((decode k_Exam_whoSits 32 = .ok (.iinc 3 1, 3)) ∧ (decode k_Exam_whoSits 35 = .ok (.goto (-33), 3))) ∧ ((decode k_Exam_whoSits 38 = .ok (.iconst (-1), 1)) ∧ (decode k_Exam_whoSits 39 = .ok (.ireturn, 1)))) := by decide +kernel
theorem D_Exam_seatedOnes_0 : ((((decode k_Exam_seatedOnes 0 = .ok (.iconst 0, 1)) ∧ (decode k_Exam_seatedOnes 1 = .ok (.istore_n 1, 1))) ∧ ((decode k_Exam_seatedOnes 2 = .ok (.iconst 0, 1)) ∧ (decode k_Exam_seatedOnes 3 = .ok (.istore_n 2, 1)))) ∧ (((decode k_Exam_seatedOnes 4 = .ok (.iload_n 2, 1)) ∧ (decode k_Exam_seatedOnes 5 = .ok (.aload_n 0, 1))) ∧ ((decode k_Exam_seatedOnes 6 = .ok (.getfield 15, 3)) ∧ (decode k_Exam_seatedOnes 9 = .ok (.if_icmp .ge 20, 3))))) ∧ ((((decode k_Exam_seatedOnes 12 = .ok (.aload_n 0, 1)) ∧ (decode k_Exam_seatedOnes 13 = .ok (.iload_n 2, 1))) ∧ ((decode k_Exam_seatedOnes 14 = .ok (.invokevirtual 88, 3)) ∧ (decode k_Exam_seatedOnes 17 = .ok (.ifCond .eq 6, 3)))) ∧ (((decode k_Exam_seatedOnes 20 = .ok (.iinc 1 1, 3)) ∧ (decode k_Exam_seatedOnes 23 = .ok (.iinc 2 1, 3))) ∧ ((decode k_Exam_seatedOnes 26 = .ok (.goto (-22), 3)) ∧ (decode k_Exam_seatedOnes 29 = .ok (.iload_n 1, 1))))) := by decide +kernel
theorem D_Exam_seatedOnes_1 : decode k_Exam_seatedOnes 30 = .ok (.ireturn, 1) := by decide +kernel
theorem D_Exam_answersOf_0 : ((((decode k_Exam_answersOf 0 = .ok (.iconst 0, 1)) ∧ (decode k_Exam_answersOf 1 = .ok (.istore_n 2, 1))) ∧ ((decode k_Exam_answersOf 2 = .ok (.iconst 0, 1)) ∧ (decode k_Exam_answersOf 3 = .ok (.istore_n 3, 1)))) ∧ (((decode k_Exam_answersOf 4 = .ok (.iload_n 3, 1)) ∧ (decode k_Exam_answersOf 5 = .ok (.aload_n 0, 1))) ∧ ((decode k_Exam_answersOf 6 = .ok (.getfield 9, 3)) ∧ (decode k_Exam_answersOf 9 = .ok (.if_icmp .ge 23, 3))))) ∧ ((((decode k_Exam_answersOf 12 = .ok (.aload_n 0, 1)) ∧ (decode k_Exam_answersOf 13 = .ok (.getfield 36, 3))) ∧ ((decode k_Exam_answersOf 16 = .ok (.iload_n 1, 1)) ∧ (decode k_Exam_answersOf 17 = .ok (.aaload, 1)))) ∧ (((decode k_Exam_answersOf 18 = .ok (.iload_n 3, 1)) ∧ (decode k_Exam_answersOf 19 = .ok (.iaload, 1))) ∧ ((decode k_Exam_answersOf 20 = .ok (.ifCond .lt 6, 3)) ∧ (decode k_Exam_answersOf 23 = .ok (.iinc 2 1, 3))))) := by decide +kernel
theorem D_Exam_answersOf_1 : ((decode k_Exam_answersOf 26 = .ok (.iinc 3 1, 3)) ∧ (decode k_Exam_answersOf 29 = .ok (.goto (-25), 3))) ∧ ((decode k_Exam_answersOf 32 = .ok (.iload_n 2, 1)) ∧ (decode k_Exam_answersOf 33 = .ok (.ireturn, 1))) := by decide +kernel
theorem D_Exam_rightOnesOf_0 : ((((decode k_Exam_rightOnesOf 0 = .ok (.iconst 0, 1)) ∧ (decode k_Exam_rightOnesOf 1 = .ok (.istore_n 2, 1))) ∧ ((decode k_Exam_rightOnesOf 2 = .ok (.iconst 0, 1)) ∧ (decode k_Exam_rightOnesOf 3 = .ok (.istore_n 3, 1)))) ∧ (((decode k_Exam_rightOnesOf 4 = .ok (.iload_n 3, 1)) ∧ (decode k_Exam_rightOnesOf 5 = .ok (.aload_n 0, 1))) ∧ ((decode k_Exam_rightOnesOf 6 = .ok (.getfield 9, 3)) ∧ (decode k_Exam_rightOnesOf 9 = .ok (.if_icmp .ge 29, 3))))) ∧ ((((decode k_Exam_rightOnesOf 12 = .ok (.aload_n 0, 1)) ∧ (decode k_Exam_rightOnesOf 13 = .ok (.getfield 36, 3))) ∧ ((decode k_Exam_rightOnesOf 16 = .ok (.iload_n 1, 1)) ∧ (decode k_Exam_rightOnesOf 17 = .ok (.aaload, 1)))) ∧ (((decode k_Exam_rightOnesOf 18 = .ok (.iload_n 3, 1)) ∧ (decode k_Exam_rightOnesOf 19 = .ok (.iaload, 1))) ∧ ((decode k_Exam_rightOnesOf 20 = .ok (.aload_n 0, 1)) ∧ (decode k_Exam_rightOnesOf 21 = .ok (.getfield 24, 3))))) := by decide +kernel
theorem D_Exam_rightOnesOf_1 : (((decode k_Exam_rightOnesOf 24 = .ok (.iload_n 3, 1)) ∧ (decode k_Exam_rightOnesOf 25 = .ok (.iaload, 1))) ∧ ((decode k_Exam_rightOnesOf 26 = .ok (.if_icmp .ne 6, 3)) ∧ (decode k_Exam_rightOnesOf 29 = .ok (.iinc 2 1, 3)))) ∧ (((decode k_Exam_rightOnesOf 32 = .ok (.iinc 3 1, 3)) ∧ (decode k_Exam_rightOnesOf 35 = .ok (.goto (-31), 3))) ∧ ((decode k_Exam_rightOnesOf 38 = .ok (.iload_n 2, 1)) ∧ (decode k_Exam_rightOnesOf 39 = .ok (.ireturn, 1)))) := by decide +kernel
theorem D_Exam_howMany_0 : ((((decode k_Exam_howMany 0 = .ok (.iconst 0, 1)) ∧ (decode k_Exam_howMany 1 = .ok (.istore_n 3, 1))) ∧ ((decode k_Exam_howMany 2 = .ok (.iconst 0, 1)) ∧ (decode k_Exam_howMany 3 = .ok (.istore 4, 2)))) ∧ (((decode k_Exam_howMany 5 = .ok (.iload 4, 2)) ∧ (decode k_Exam_howMany 7 = .ok (.aload_n 0, 1))) ∧ ((decode k_Exam_howMany 8 = .ok (.getfield 15, 3)) ∧ (decode k_Exam_howMany 11 = .ok (.if_icmp .ge 25, 3))))) ∧ ((((decode k_Exam_howMany 14 = .ok (.aload_n 0, 1)) ∧ (decode k_Exam_howMany 15 = .ok (.getfield 36, 3))) ∧ ((decode k_Exam_howMany 18 = .ok (.iload 4, 2)) ∧ (decode k_Exam_howMany 20 = .ok (.aaload, 1)))) ∧ (((decode k_Exam_howMany 21 = .ok (.iload_n 1, 1)) ∧ (decode k_Exam_howMany 22 = .ok (.iaload, 1))) ∧ ((decode k_Exam_howMany 23 = .ok (.iload_n 2, 1)) ∧ (decode k_Exam_howMany 24 = .ok (.if_icmp .ne 6, 3))))) := by decide +kernel
theorem D_Exam_howMany_1 : ((decode k_Exam_howMany 27 = .ok (.iinc 3 1, 3)) ∧ (decode k_Exam_howMany 30 = .ok (.iinc 4 1, 3))) ∧ ((decode k_Exam_howMany 33 = .ok (.goto (-28), 3)) ∧ ((decode k_Exam_howMany 36 = .ok (.iload_n 3, 1)) ∧ (decode k_Exam_howMany 37 = .ok (.ireturn, 1)))) := by decide +kernel
theorem D_Exam_answersTo_0 : (((decode k_Exam_answersTo 0 = .ok (.aload_n 0, 1)) ∧ (decode k_Exam_answersTo 1 = .ok (.getfield 15, 3))) ∧ ((decode k_Exam_answersTo 4 = .ok (.aload_n 0, 1)) ∧ (decode k_Exam_answersTo 5 = .ok (.iload_n 1, 1)))) ∧ (((decode k_Exam_answersTo 6 = .ok (.iconst (-1), 1)) ∧ (decode k_Exam_answersTo 7 = .ok (.invokevirtual 91, 3))) ∧ ((decode k_Exam_answersTo 10 = .ok (.isub, 1)) ∧ (decode k_Exam_answersTo 11 = .ok (.ireturn, 1)))) := by decide +kernel
theorem D_Exam_favouriteMistake_0 : ((((decode k_Exam_favouriteMistake 0 = .ok (.iconst (-1), 1)) ∧ (decode k_Exam_favouriteMistake 1 = .ok (.istore_n 2, 1))) ∧ ((decode k_Exam_favouriteMistake 2 = .ok (.iconst (-1), 1)) ∧ (decode k_Exam_favouriteMistake 3 = .ok (.istore_n 3, 1)))) ∧ (((decode k_Exam_favouriteMistake 4 = .ok (.iconst 0, 1)) ∧ (decode k_Exam_favouriteMistake 5 = .ok (.istore 4, 2))) ∧ ((decode k_Exam_favouriteMistake 7 = .ok (.iload 4, 2)) ∧ (decode k_Exam_favouriteMistake 9 = .ok (.iconst 4, 1))))) ∧ ((((decode k_Exam_favouriteMistake 10 = .ok (.if_icmp .ge 41, 3)) ∧ (decode k_Exam_favouriteMistake 13 = .ok (.aload_n 0, 1))) ∧ ((decode k_Exam_favouriteMistake 14 = .ok (.iload_n 1, 1)) ∧ (decode k_Exam_favouriteMistake 15 = .ok (.iload 4, 2)))) ∧ (((decode k_Exam_favouriteMistake 17 = .ok (.invokevirtual 91, 3)) ∧ (decode k_Exam_favouriteMistake 20 = .ok (.istore 5, 2))) ∧ ((decode k_Exam_favouriteMistake 22 = .ok (.iload 4, 2)) ∧ (decode k_Exam_favouriteMistake 24 = .ok (.aload_n 0, 1))))) := by decide +kernel
theorem D_Exam_favouriteMistake_1 : (((decode k_Exam_favouriteMistake 25 = .ok (.getfield 24, 3)) ∧ ((decode k_Exam_favouriteMistake 28 = .ok (.iload_n 1, 1)) ∧ (decode k_Exam_favouriteMistake 29 = .ok (.iaload, 1)))) ∧ (((decode k_Exam_favouriteMistake 30 = .ok (.if_icmp .eq 15, 3)) ∧ (decode k_Exam_favouriteMistake 33 = .ok (.iload 5, 2))) ∧ ((decode k_Exam_favouriteMistake 35 = .ok (.iload_n 3, 1)) ∧ (decode k_Exam_favouriteMistake 36 = .ok (.if_icmp .le 9, 3))))) ∧ ((((decode k_Exam_favouriteMistake 39 = .ok (.iload 4, 2)) ∧ (decode k_Exam_favouriteMistake 41 = .ok (.istore_n 2, 1))) ∧ ((decode k_Exam_favouriteMistake 42 = .ok (.iload 5, 2)) ∧ (decode k_Exam_favouriteMistake 44 = .ok (.istore_n 3, 1)))) ∧ (((decode k_Exam_favouriteMistake 45 = .ok (.iinc 4 1, 3)) ∧ (decode k_Exam_favouriteMistake 48 = .ok (.goto (-41), 3))) ∧ ((decode k_Exam_favouriteMistake 51 = .ok (.iload_n 2, 1)) ∧ (decode k_Exam_favouriteMistake 52 = .ok (.ireturn, 1))))) := by decide +kernel
theorem D_Exam_bothGave_0 : ((((decode k_Exam_bothGave 0 = .ok (.aload_n 0, 1)) ∧ (decode k_Exam_bothGave 1 = .ok (.getfield 36, 3))) ∧ ((decode k_Exam_bothGave 4 = .ok (.iload_n 2, 1)) ∧ (decode k_Exam_bothGave 5 = .ok (.aaload, 1)))) ∧ (((decode k_Exam_bothGave 6 = .ok (.iload_n 1, 1)) ∧ (decode k_Exam_bothGave 7 = .ok (.iaload, 1))) ∧ ((decode k_Exam_bothGave 8 = .ok (.ifCond .lt 18, 3)) ∧ (decode k_Exam_bothGave 11 = .ok (.aload_n 0, 1))))) ∧ ((((decode k_Exam_bothGave 12 = .ok (.getfield 36, 3)) ∧ (decode k_Exam_bothGave 15 = .ok (.iload_n 3, 1))) ∧ ((decode k_Exam_bothGave 16 = .ok (.aaload, 1)) ∧ (decode k_Exam_bothGave 17 = .ok (.iload_n 1, 1)))) ∧ (((decode k_Exam_bothGave 18 = .ok (.iaload, 1)) ∧ (decode k_Exam_bothGave 19 = .ok (.ifCond .lt 7, 3))) ∧ ((decode k_Exam_bothGave 22 = .ok (.iconst 1, 1)) ∧ (decode k_Exam_bothGave 23 = .ok (.goto 4, 3))))) := by decide +kernel
theorem D_Exam_bothGave_1 : (decode k_Exam_bothGave 26 = .ok (.iconst 0, 1)) ∧ (decode k_Exam_bothGave 27 = .ok (.ireturn, 1)) := by decide +kernel
theorem D_Exam_worth_0 : ((((decode k_Exam_worth 0 = .ok (.iload_n 2, 1)) ∧ (decode k_Exam_worth 1 = .ok (.aload_n 0, 1))) ∧ ((decode k_Exam_worth 2 = .ok (.getfield 24, 3)) ∧ (decode k_Exam_worth 5 = .ok (.iload_n 1, 1)))) ∧ (((decode k_Exam_worth 6 = .ok (.iaload, 1)) ∧ (decode k_Exam_worth 7 = .ok (.if_icmp .ne 12, 3))) ∧ ((decode k_Exam_worth 10 = .ok (.aload_n 0, 1)) ∧ (decode k_Exam_worth 11 = .ok (.getfield 45, 3))))) ∧ ((((decode k_Exam_worth 14 = .ok (.iconst 4, 1)) ∧ (decode k_Exam_worth 15 = .ok (.iaload, 1))) ∧ ((decode k_Exam_worth 16 = .ok (.goto 9, 3)) ∧ (decode k_Exam_worth 19 = .ok (.aload_n 0, 1)))) ∧ (((decode k_Exam_worth 20 = .ok (.getfield 45, 3)) ∧ (decode k_Exam_worth 23 = .ok (.iconst 5, 1))) ∧ ((decode k_Exam_worth 24 = .ok (.iaload, 1)) ∧ (decode k_Exam_worth 25 = .ok (.ireturn, 1))))) := by decide +kernel
theorem D_Exam_likenessAt_0 : ((((decode k_Exam_likenessAt 0 = .ok (.aload_n 0, 1)) ∧ (decode k_Exam_likenessAt 1 = .ok (.getfield 36, 3))) ∧ ((decode k_Exam_likenessAt 4 = .ok (.iload_n 2, 1)) ∧ (decode k_Exam_likenessAt 5 = .ok (.aaload, 1)))) ∧ (((decode k_Exam_likenessAt 6 = .ok (.iload_n 1, 1)) ∧ (decode k_Exam_likenessAt 7 = .ok (.iaload, 1))) ∧ ((decode k_Exam_likenessAt 8 = .ok (.istore 4, 2)) ∧ (decode k_Exam_likenessAt 10 = .ok (.iload 4, 2))))) ∧ ((((decode k_Exam_likenessAt 12 = .ok (.ifCond .lt 26, 3)) ∧ (decode k_Exam_likenessAt 15 = .ok (.iload 4, 2))) ∧ ((decode k_Exam_likenessAt 17 = .ok (.aload_n 0, 1)) ∧ (decode k_Exam_likenessAt 18 = .ok (.getfield 36, 3)))) ∧ (((decode k_Exam_likenessAt 21 = .ok (.iload_n 3, 1)) ∧ (decode k_Exam_likenessAt 22 = .ok (.aaload, 1))) ∧ ((decode k_Exam_likenessAt 23 = .ok (.iload_n 1, 1)) ∧ (decode k_Exam_likenessAt 24 = .ok (.iaload, 1))))) := by decide +kernel
theorem D_Exam_likenessAt_1 : (((decode k_Exam_likenessAt 25 = .ok (.if_icmp .ne 13, 3)) ∧ (decode k_Exam_likenessAt 28 = .ok (.aload_n 0, 1))) ∧ ((decode k_Exam_likenessAt 29 = .ok (.iload_n 1, 1)) ∧ (decode k_Exam_likenessAt 30 = .ok (.iload 4, 2)))) ∧ (((decode k_Exam_likenessAt 32 = .ok (.invokevirtual 95, 3)) ∧ (decode k_Exam_likenessAt 35 = .ok (.goto 4, 3))) ∧ ((decode k_Exam_likenessAt 38 = .ok (.iconst 0, 1)) ∧ (decode k_Exam_likenessAt 39 = .ok (.ireturn, 1)))) := by decide +kernel
theorem D_Exam_likeness_0 : ((((decode k_Exam_likeness 0 = .ok (.iconst 0, 1)) ∧ (decode k_Exam_likeness 1 = .ok (.istore_n 3, 1))) ∧ ((decode k_Exam_likeness 2 = .ok (.iconst 0, 1)) ∧ (decode k_Exam_likeness 3 = .ok (.istore 4, 2)))) ∧ (((decode k_Exam_likeness 5 = .ok (.iload 4, 2)) ∧ (decode k_Exam_likeness 7 = .ok (.aload_n 0, 1))) ∧ ((decode k_Exam_likeness 8 = .ok (.getfield 9, 3)) ∧ (decode k_Exam_likeness 11 = .ok (.if_icmp .ge 20, 3))))) ∧ ((((decode k_Exam_likeness 14 = .ok (.iload_n 3, 1)) ∧ (decode k_Exam_likeness 15 = .ok (.aload_n 0, 1))) ∧ ((decode k_Exam_likeness 16 = .ok (.iload 4, 2)) ∧ (decode k_Exam_likeness 18 = .ok (.iload_n 1, 1)))) ∧ (((decode k_Exam_likeness 19 = .ok (.iload_n 2, 1)) ∧ (decode k_Exam_likeness 20 = .ok (.invokevirtual 98, 3))) ∧ ((decode k_Exam_likeness 23 = .ok (.iadd, 1)) ∧ (decode k_Exam_likeness 24 = .ok (.istore_n 3, 1))))) := by decide +kernel
theorem D_Exam_likeness_1 : ((decode k_Exam_likeness 25 = .ok (.iinc 4 1, 3)) ∧ (decode k_Exam_likeness 28 = .ok (.goto (-23), 3))) ∧ ((decode k_Exam_likeness 31 = .ok (.iload_n 3, 1)) ∧ (decode k_Exam_likeness 32 = .ok (.ireturn, 1))) := by decide +kernel
theorem D_Exam_near_0 : ((((decode k_Exam_near 0 = .ok (.aload_n 0, 1)) ∧ (decode k_Exam_near 1 = .ok (.iload_n 1, 1))) ∧ ((decode k_Exam_near 2 = .ok (.invokevirtual 88, 3)) ∧ (decode k_Exam_near 5 = .ok (.ifCond .eq 55, 3)))) ∧ (((decode k_Exam_near 8 = .ok (.aload_n 0, 1)) ∧ (decode k_Exam_near 9 = .ok (.iload_n 2, 1))) ∧ ((decode k_Exam_near 10 = .ok (.invokevirtual 88, 3)) ∧ (decode k_Exam_near 13 = .ok (.ifCond .eq 47, 3))))) ∧ ((((decode k_Exam_near 16 = .ok (.aload_n 0, 1)) ∧ (decode k_Exam_near 17 = .ok (.getfield 39, 3))) ∧ ((decode k_Exam_near 20 = .ok (.iload_n 1, 1)) ∧ (decode k_Exam_near 21 = .ok (.iaload, 1)))) ∧ (((decode k_Exam_near 22 = .ok (.aload_n 0, 1)) ∧ (decode k_Exam_near 23 = .ok (.getfield 39, 3))) ∧ ((decode k_Exam_near 26 = .ok (.iload_n 2, 1)) ∧ (decode k_Exam_near 27 = .ok (.iaload, 1))))) := by decide +kernel
theorem D_Exam_near_1 : ((((decode k_Exam_near 28 = .ok (.isub, 1)) ∧ (decode k_Exam_near 29 = .ok (.invokestatic 102, 3))) ∧ ((decode k_Exam_near 32 = .ok (.iload_n 3, 1)) ∧ (decode k_Exam_near 33 = .ok (.if_icmp .gt 27, 3)))) ∧ (((decode k_Exam_near 36 = .ok (.aload_n 0, 1)) ∧ (decode k_Exam_near 37 = .ok (.getfield 42, 3))) ∧ ((decode k_Exam_near 40 = .ok (.iload_n 1, 1)) ∧ (decode k_Exam_near 41 = .ok (.iaload, 1))))) ∧ ((((decode k_Exam_near 42 = .ok (.aload_n 0, 1)) ∧ (decode k_Exam_near 43 = .ok (.getfield 42, 3))) ∧ ((decode k_Exam_near 46 = .ok (.iload_n 2, 1)) ∧ (decode k_Exam_near 47 = .ok (.iaload, 1)))) ∧ (((decode k_Exam_near 48 = .ok (.isub, 1)) ∧ (decode k_Exam_near 49 = .ok (.invokestatic 102, 3))) ∧ ((decode k_Exam_near 52 = .ok (.iload_n 3, 1)) ∧ (decode k_Exam_near 53 = .ok (.if_icmp .gt 7, 3))))) := by decide +kernel
theorem D_Exam_near_2 : ((decode k_Exam_near 56 = .ok (.iconst 1, 1)) ∧ (decode k_Exam_near 57 = .ok (.goto 4, 3))) ∧ ((decode k_Exam_near 60 = .ok (.iconst 0, 1)) ∧ (decode k_Exam_near 61 = .ok (.ireturn, 1))) := by decide +kernel
theorem D_Exam_nearOnes_0 : ((((decode k_Exam_nearOnes 0 = .ok (.iconst 0, 1)) ∧ (decode k_Exam_nearOnes 1 = .ok (.istore_n 2, 1))) ∧ ((decode k_Exam_nearOnes 2 = .ok (.iconst 0, 1)) ∧ (decode k_Exam_nearOnes 3 = .ok (.istore_n 3, 1)))) ∧ (((decode k_Exam_nearOnes 4 = .ok (.iload_n 3, 1)) ∧ (decode k_Exam_nearOnes 5 = .ok (.aload_n 0, 1))) ∧ ((decode k_Exam_nearOnes 6 = .ok (.getfield 15, 3)) ∧ (decode k_Exam_nearOnes 9 = .ok (.if_icmp .ge 43, 3))))) ∧ ((((decode k_Exam_nearOnes 12 = .ok (.iload_n 3, 1)) ∧ (decode k_Exam_nearOnes 13 = .ok (.iconst 1, 1))) ∧ ((decode k_Exam_nearOnes 14 = .ok (.iadd, 1)) ∧ (decode k_Exam_nearOnes 15 = .ok (.istore 4, 2)))) ∧ (((decode k_Exam_nearOnes 17 = .ok (.iload 4, 2)) ∧ (decode k_Exam_nearOnes 19 = .ok (.aload_n 0, 1))) ∧ ((decode k_Exam_nearOnes 20 = .ok (.getfield 15, 3)) ∧ (decode k_Exam_nearOnes 23 = .ok (.if_icmp .ge 23, 3))))) := by decide +kernel
theorem D_Exam_nearOnes_1 : (((decode k_Exam_nearOnes 26 = .ok (.aload_n 0, 1)) ∧ ((decode k_Exam_nearOnes 27 = .ok (.iload_n 3, 1)) ∧ (decode k_Exam_nearOnes 28 = .ok (.iload 4, 2)))) ∧ ((decode k_Exam_nearOnes 30 = .ok (.iload_n 1, 1)) ∧ ((decode k_Exam_nearOnes 31 = .ok (.invokevirtual 108, 3)) ∧ (decode k_Exam_nearOnes 34 = .ok (.ifCond .eq 6, 3))))) ∧ (((decode k_Exam_nearOnes 37 = .ok (.iinc 2 1, 3)) ∧ ((decode k_Exam_nearOnes 40 = .ok (.iinc 4 1, 3)) ∧ (decode k_Exam_nearOnes 43 = .ok (.goto (-26), 3)))) ∧ (((decode k_Exam_nearOnes 46 = .ok (.iinc 3 1, 3)) ∧ (decode k_Exam_nearOnes 49 = .ok (.goto (-45), 3))) ∧ ((decode k_Exam_nearOnes 52 = .ok (.iload_n 2, 1)) ∧ (decode k_Exam_nearOnes 53 = .ok (.ireturn, 1))))) := by decide +kernel
theorem D_Exam_inReach_0 : ((((decode k_Exam_inReach 0 = .ok (.aload_n 0, 1)) ∧ (decode k_Exam_inReach 1 = .ok (.getfield 45, 3))) ∧ ((decode k_Exam_inReach 4 = .ok (.iconst 3, 1)) ∧ (decode k_Exam_inReach 5 = .ok (.iaload, 1)))) ∧ (((decode k_Exam_inReach 6 = .ok (.ifCond .eq 18, 3)) ∧ (decode k_Exam_inReach 9 = .ok (.aload_n 0, 1))) ∧ ((decode k_Exam_inReach 10 = .ok (.iload_n 1, 1)) ∧ (decode k_Exam_inReach 11 = .ok (.iload_n 2, 1))))) ∧ ((((decode k_Exam_inReach 12 = .ok (.aload_n 0, 1)) ∧ (decode k_Exam_inReach 13 = .ok (.getfield 45, 3))) ∧ ((decode k_Exam_inReach 16 = .ok (.iconst 3, 1)) ∧ (decode k_Exam_inReach 17 = .ok (.iaload, 1)))) ∧ (((decode k_Exam_inReach 18 = .ok (.invokevirtual 108, 3)) ∧ (decode k_Exam_inReach 21 = .ok (.ifCond .eq 7, 3))) ∧ ((decode k_Exam_inReach 24 = .ok (.iconst 1, 1)) ∧ (decode k_Exam_inReach 25 = .ok (.goto 4, 3))))) := by decide +kernel
theorem D_Exam_inReach_1 : (decode k_Exam_inReach 28 = .ok (.iconst 0, 1)) ∧ (decode k_Exam_inReach 29 = .ok (.ireturn, 1)) := by decide +kernel
theorem D_Exam_pairsInReach_0 : ((((decode k_Exam_pairsInReach 0 = .ok (.aload_n 0, 1)) ∧ (decode k_Exam_pairsInReach 1 = .ok (.getfield 45, 3))) ∧ ((decode k_Exam_pairsInReach 4 = .ok (.iconst 3, 1)) ∧ (decode k_Exam_pairsInReach 5 = .ok (.iaload, 1)))) ∧ (((decode k_Exam_pairsInReach 6 = .ok (.ifCond .ne 19, 3)) ∧ (decode k_Exam_pairsInReach 9 = .ok (.aload_n 0, 1))) ∧ ((decode k_Exam_pairsInReach 10 = .ok (.getfield 15, 3)) ∧ (decode k_Exam_pairsInReach 13 = .ok (.aload_n 0, 1))))) ∧ ((((decode k_Exam_pairsInReach 14 = .ok (.getfield 15, 3)) ∧ (decode k_Exam_pairsInReach 17 = .ok (.iconst 1, 1))) ∧ ((decode k_Exam_pairsInReach 18 = .ok (.isub, 1)) ∧ (decode k_Exam_pairsInReach 19 = .ok (.imul, 1)))) ∧ (((decode k_Exam_pairsInReach 20 = .ok (.iconst 2, 1)) ∧ (decode k_Exam_pairsInReach 21 = .ok (.idiv, 1))) ∧ ((decode k_Exam_pairsInReach 22 = .ok (.goto 13, 3)) ∧ (decode k_Exam_pairsInReach 25 = .ok (.aload_n 0, 1))))) := by decide +kernel
theorem D_Exam_pairsInReach_1 : ((decode k_Exam_pairsInReach 26 = .ok (.aload_n 0, 1)) ∧ ((decode k_Exam_pairsInReach 27 = .ok (.getfield 45, 3)) ∧ (decode k_Exam_pairsInReach 30 = .ok (.iconst 3, 1)))) ∧ ((decode k_Exam_pairsInReach 31 = .ok (.iaload, 1)) ∧ ((decode k_Exam_pairsInReach 32 = .ok (.invokevirtual 112, 3)) ∧ (decode k_Exam_pairsInReach 35 = .ok (.ireturn, 1)))) := by decide +kernel
theorem D_Exam_likenessInReach_0 : ((((decode k_Exam_likenessInReach 0 = .ok (.iconst 0, 1)) ∧ (decode k_Exam_likenessInReach 1 = .ok (.istore_n 1, 1))) ∧ ((decode k_Exam_likenessInReach 2 = .ok (.iconst 0, 1)) ∧ (decode k_Exam_likenessInReach 3 = .ok (.istore_n 2, 1)))) ∧ (((decode k_Exam_likenessInReach 4 = .ok (.iload_n 2, 1)) ∧ (decode k_Exam_likenessInReach 5 = .ok (.aload_n 0, 1))) ∧ ((decode k_Exam_likenessInReach 6 = .ok (.getfield 15, 3)) ∧ (decode k_Exam_likenessInReach 9 = .ok (.if_icmp .ge 45, 3))))) ∧ ((((decode k_Exam_likenessInReach 12 = .ok (.iload_n 2, 1)) ∧ (decode k_Exam_likenessInReach 13 = .ok (.iconst 1, 1))) ∧ ((decode k_Exam_likenessInReach 14 = .ok (.iadd, 1)) ∧ (decode k_Exam_likenessInReach 15 = .ok (.istore_n 3, 1)))) ∧ (((decode k_Exam_likenessInReach 16 = .ok (.iload_n 3, 1)) ∧ (decode k_Exam_likenessInReach 17 = .ok (.aload_n 0, 1))) ∧ ((decode k_Exam_likenessInReach 18 = .ok (.getfield 15, 3)) ∧ (decode k_Exam_likenessInReach 21 = .ok (.if_icmp .ge 27, 3))))) := by decide +kernel
theorem D_Exam_likenessInReach_1 : ((((decode k_Exam_likenessInReach 24 = .ok (.aload_n 0, 1)) ∧ (decode k_Exam_likenessInReach 25 = .ok (.iload_n 2, 1))) ∧ ((decode k_Exam_likenessInReach 26 = .ok (.iload_n 3, 1)) ∧ (decode k_Exam_likenessInReach 27 = .ok (.invokevirtual 115, 3)))) ∧ (((decode k_Exam_likenessInReach 30 = .ok (.ifCond .eq 12, 3)) ∧ (decode k_Exam_likenessInReach 33 = .ok (.iload_n 1, 1))) ∧ ((decode k_Exam_likenessInReach 34 = .ok (.aload_n 0, 1)) ∧ (decode k_Exam_likenessInReach 35 = .ok (.iload_n 2, 1))))) ∧ ((((decode k_Exam_likenessInReach 36 = .ok (.iload_n 3, 1)) ∧ (decode k_Exam_likenessInReach 37 = .ok (.invokevirtual 119, 3))) ∧ ((decode k_Exam_likenessInReach 40 = .ok (.iadd, 1)) ∧ (decode k_Exam_likenessInReach 41 = .ok (.istore_n 1, 1)))) ∧ (((decode k_Exam_likenessInReach 42 = .ok (.iinc 3 1, 3)) ∧ (decode k_Exam_likenessInReach 45 = .ok (.goto (-29), 3))) ∧ ((decode k_Exam_likenessInReach 48 = .ok (.iinc 2 1, 3)) ∧ (decode k_Exam_likenessInReach 51 = .ok (.goto (-47), 3))))) := by decide +kernel
theorem D_Exam_likenessInReach_2 : (decode k_Exam_likenessInReach 54 = .ok (.iload_n 1, 1)) ∧ (decode k_Exam_likenessInReach 55 = .ok (.ireturn, 1)) := by decide +kernel
theorem D_Exam_sees_0 : ((((decode k_Exam_sees 0 = .ok (.aload_n 0, 1)) ∧ (decode k_Exam_sees 1 = .ok (.getfield 48, 3))) ∧ ((decode k_Exam_sees 4 = .ok (.aload_n 0, 1)) ∧ (decode k_Exam_sees 5 = .ok (.getfield 18, 3)))) ∧ (((decode k_Exam_sees 8 = .ok (.iload_n 1, 1)) ∧ (decode k_Exam_sees 9 = .ok (.iastore, 1))) ∧ ((decode k_Exam_sees 10 = .ok (.aload_n 0, 1)) ∧ (decode k_Exam_sees 11 = .ok (.getfield 51, 3))))) ∧ ((((decode k_Exam_sees 14 = .ok (.aload_n 0, 1)) ∧ (decode k_Exam_sees 15 = .ok (.getfield 18, 3))) ∧ ((decode k_Exam_sees 18 = .ok (.iload_n 2, 1)) ∧ (decode k_Exam_sees 19 = .ok (.iastore, 1)))) ∧ (((decode k_Exam_sees 20 = .ok (.aload_n 0, 1)) ∧ (decode k_Exam_sees 21 = .ok (.getfield 54, 3))) ∧ ((decode k_Exam_sees 24 = .ok (.aload_n 0, 1)) ∧ (decode k_Exam_sees 25 = .ok (.getfield 18, 3))))) := by decide +kernel
theorem D_Exam_sees_1 : (((decode k_Exam_sees 28 = .ok (.iload_n 3, 1)) ∧ (decode k_Exam_sees 29 = .ok (.bastore, 1))) ∧ ((decode k_Exam_sees 30 = .ok (.aload_n 0, 1)) ∧ ((decode k_Exam_sees 31 = .ok (.dup, 1)) ∧ (decode k_Exam_sees 32 = .ok (.getfield 18, 3))))) ∧ (((decode k_Exam_sees 35 = .ok (.iconst 1, 1)) ∧ ((decode k_Exam_sees 36 = .ok (.iadd, 1)) ∧ (decode k_Exam_sees 37 = .ok (.putfield 18, 3)))) ∧ ((decode k_Exam_sees 40 = .ok (.aload_n 0, 1)) ∧ ((decode k_Exam_sees 41 = .ok (.getfield 18, 3)) ∧ (decode k_Exam_sees 44 = .ok (.ireturn, 1))))) := by decide +kernel
theorem D_Exam_canPlan_0 : ((((decode k_Exam_canPlan 0 = .ok (.iload_n 1, 1)) ∧ (decode k_Exam_canPlan 1 = .ok (.tableswitch 50 0 3 #[31, 37, 37, 43], 31))) ∧ ((decode k_Exam_canPlan 32 = .ok (.aload_n 0, 1)) ∧ (decode k_Exam_canPlan 33 = .ok (.iload_n 2, 1)))) ∧ (((decode k_Exam_canPlan 34 = .ok (.invokevirtual 84, 3)) ∧ (decode k_Exam_canPlan 37 = .ok (.ireturn, 1))) ∧ ((decode k_Exam_canPlan 38 = .ok (.aload_n 0, 1)) ∧ (decode k_Exam_canPlan 39 = .ok (.iload_n 2, 1))))) ∧ ((((decode k_Exam_canPlan 40 = .ok (.invokevirtual 122, 3)) ∧ (decode k_Exam_canPlan 43 = .ok (.ireturn, 1))) ∧ ((decode k_Exam_canPlan 44 = .ok (.aload_n 0, 1)) ∧ (decode k_Exam_canPlan 45 = .ok (.iload_n 2, 1)))) ∧ (((decode k_Exam_canPlan 46 = .ok (.iload_n 3, 1)) ∧ (decode k_Exam_canPlan 47 = .ok (.invokevirtual 125, 3))) ∧ ((decode k_Exam_canPlan 50 = .ok (.ireturn, 1)) ∧ (decode k_Exam_canPlan 51 = .ok (.iconst 0, 1))))) := by decide +kernel
theorem D_Exam_canPlan_1 : decode k_Exam_canPlan 52 = .ok (.ireturn, 1) := by decide +kernel
theorem D_Exam_plans_0 : ((((decode k_Exam_plans 0 = .ok (.aload_n 0, 1)) ∧ (decode k_Exam_plans 1 = .ok (.getfield 58, 3))) ∧ ((decode k_Exam_plans 4 = .ok (.aload_n 0, 1)) ∧ (decode k_Exam_plans 5 = .ok (.getfield 21, 3)))) ∧ (((decode k_Exam_plans 8 = .ok (.iload_n 1, 1)) ∧ (decode k_Exam_plans 9 = .ok (.iastore, 1))) ∧ ((decode k_Exam_plans 10 = .ok (.aload_n 0, 1)) ∧ (decode k_Exam_plans 11 = .ok (.getfield 61, 3))))) ∧ ((((decode k_Exam_plans 14 = .ok (.aload_n 0, 1)) ∧ (decode k_Exam_plans 15 = .ok (.getfield 21, 3))) ∧ ((decode k_Exam_plans 18 = .ok (.iload_n 2, 1)) ∧ (decode k_Exam_plans 19 = .ok (.iastore, 1)))) ∧ (((decode k_Exam_plans 20 = .ok (.aload_n 0, 1)) ∧ (decode k_Exam_plans 21 = .ok (.getfield 64, 3))) ∧ ((decode k_Exam_plans 24 = .ok (.aload_n 0, 1)) ∧ (decode k_Exam_plans 25 = .ok (.getfield 21, 3))))) := by decide +kernel
theorem D_Exam_plans_1 : (((decode k_Exam_plans 28 = .ok (.iload_n 3, 1)) ∧ (decode k_Exam_plans 29 = .ok (.iastore, 1))) ∧ ((decode k_Exam_plans 30 = .ok (.aload_n 0, 1)) ∧ ((decode k_Exam_plans 31 = .ok (.dup, 1)) ∧ (decode k_Exam_plans 32 = .ok (.getfield 21, 3))))) ∧ (((decode k_Exam_plans 35 = .ok (.iconst 1, 1)) ∧ ((decode k_Exam_plans 36 = .ok (.iadd, 1)) ∧ (decode k_Exam_plans 37 = .ok (.putfield 21, 3)))) ∧ ((decode k_Exam_plans 40 = .ok (.aload_n 0, 1)) ∧ ((decode k_Exam_plans 41 = .ok (.getfield 21, 3)) ∧ (decode k_Exam_plans 44 = .ok (.ireturn, 1))))) := by decide +kernel
theorem D_Exam_followPlan_0 : ((((decode k_Exam_followPlan 0 = .ok (.iconst 0, 1)) ∧ (decode k_Exam_followPlan 1 = .ok (.istore_n 1, 1))) ∧ ((decode k_Exam_followPlan 2 = .ok (.iload_n 1, 1)) ∧ (decode k_Exam_followPlan 3 = .ok (.aload_n 0, 1)))) ∧ (((decode k_Exam_followPlan 4 = .ok (.getfield 21, 3)) ∧ (decode k_Exam_followPlan 7 = .ok (.if_icmp .ge 31, 3))) ∧ ((decode k_Exam_followPlan 10 = .ok (.aload_n 0, 1)) ∧ (decode k_Exam_followPlan 11 = .ok (.aload_n 0, 1))))) ∧ ((((decode k_Exam_followPlan 12 = .ok (.getfield 58, 3)) ∧ (decode k_Exam_followPlan 15 = .ok (.iload_n 1, 1))) ∧ ((decode k_Exam_followPlan 16 = .ok (.iaload, 1)) ∧ (decode k_Exam_followPlan 17 = .ok (.aload_n 0, 1)))) ∧ (((decode k_Exam_followPlan 18 = .ok (.getfield 61, 3)) ∧ (decode k_Exam_followPlan 21 = .ok (.iload_n 1, 1))) ∧ ((decode k_Exam_followPlan 22 = .ok (.iaload, 1)) ∧ (decode k_Exam_followPlan 23 = .ok (.aload_n 0, 1))))) := by decide +kernel
theorem D_Exam_followPlan_1 : ((decode k_Exam_followPlan 24 = .ok (.getfield 64, 3)) ∧ ((decode k_Exam_followPlan 27 = .ok (.iload_n 1, 1)) ∧ (decode k_Exam_followPlan 28 = .ok (.iaload, 1)))) ∧ (((decode k_Exam_followPlan 29 = .ok (.invokevirtual 128, 3)) ∧ (decode k_Exam_followPlan 32 = .ok (.iinc 1 1, 3))) ∧ ((decode k_Exam_followPlan 35 = .ok (.goto (-33), 3)) ∧ (decode k_Exam_followPlan 38 = .ok (.return_, 1)))) := by decide +kernel
theorem D_Exam_follow_0 : ((((decode k_Exam_follow 0 = .ok (.aload_n 0, 1)) ∧ (decode k_Exam_follow 1 = .ok (.iload_n 1, 1))) ∧ ((decode k_Exam_follow 2 = .ok (.iload_n 2, 1)) ∧ (decode k_Exam_follow 3 = .ok (.iload_n 3, 1)))) ∧ (((decode k_Exam_follow 4 = .ok (.invokevirtual 131, 3)) ∧ (decode k_Exam_follow 7 = .ok (.ifCond .ne 4, 3))) ∧ ((decode k_Exam_follow 10 = .ok (.return_, 1)) ∧ (decode k_Exam_follow 11 = .ok (.iload_n 1, 1))))) ∧ ((((decode k_Exam_follow 12 = .ok (.tableswitch 56 0 2 #[28, 36, 46], 28)) ∧ (decode k_Exam_follow 40 = .ok (.aload_n 0, 1))) ∧ ((decode k_Exam_follow 41 = .ok (.iload_n 2, 1)) ∧ (decode k_Exam_follow 42 = .ok (.invokevirtual 71, 3)))) ∧ (((decode k_Exam_follow 45 = .ok (.goto 42, 3)) ∧ (decode k_Exam_follow 48 = .ok (.aload_n 0, 1))) ∧ ((decode k_Exam_follow 49 = .ok (.getfield 24, 3)) ∧ (decode k_Exam_follow 52 = .ok (.iload_n 2, 1))))) := by decide +kernel
theorem D_Exam_follow_1 : ((((decode k_Exam_follow 53 = .ok (.iload_n 3, 1)) ∧ (decode k_Exam_follow 54 = .ok (.iastore, 1))) ∧ ((decode k_Exam_follow 55 = .ok (.goto 32, 3)) ∧ (decode k_Exam_follow 58 = .ok (.aload_n 0, 1)))) ∧ (((decode k_Exam_follow 59 = .ok (.getfield 28, 3)) ∧ (decode k_Exam_follow 62 = .ok (.iload_n 2, 1))) ∧ ((decode k_Exam_follow 63 = .ok (.iload_n 3, 1)) ∧ (decode k_Exam_follow 64 = .ok (.iastore, 1))))) ∧ ((((decode k_Exam_follow 65 = .ok (.goto 22, 3)) ∧ (decode k_Exam_follow 68 = .ok (.aload_n 0, 1))) ∧ ((decode k_Exam_follow 69 = .ok (.getfield 36, 3)) ∧ (decode k_Exam_follow 72 = .ok (.iload_n 3, 1)))) ∧ (((decode k_Exam_follow 73 = .ok (.aaload, 1)) ∧ (decode k_Exam_follow 74 = .ok (.iconst 0, 1))) ∧ ((decode k_Exam_follow 75 = .ok (.aload_n 0, 1)) ∧ (decode k_Exam_follow 76 = .ok (.getfield 36, 3))))) := by decide +kernel
theorem D_Exam_follow_2 : ((decode k_Exam_follow 79 = .ok (.iload_n 2, 1)) ∧ ((decode k_Exam_follow 80 = .ok (.aaload, 1)) ∧ (decode k_Exam_follow 81 = .ok (.iconst 0, 1)))) ∧ ((decode k_Exam_follow 82 = .ok (.bipush 8, 2)) ∧ ((decode k_Exam_follow 84 = .ok (.invokestatic 78, 3)) ∧ (decode k_Exam_follow 87 = .ok (.return_, 1)))) := by decide +kernel
theorem D_Links_init_0 : ((decode k_Links_init 0 = .ok (.aload_n 0, 1)) ∧ ((decode k_Links_init 1 = .ok (.invokespecial 3, 3)) ∧ (decode k_Links_init 4 = .ok (.aload_n 0, 1)))) ∧ (((decode k_Links_init 5 = .ok (.bipush 8, 2)) ∧ (decode k_Links_init 7 = .ok (.newarray .int, 2))) ∧ ((decode k_Links_init 9 = .ok (.putfield 9, 3)) ∧ (decode k_Links_init 12 = .ok (.return_, 1)))) := by decide +kernel
theorem D_Links_take_0 : ((((decode k_Links_take 0 = .ok (.iconst 0, 1)) ∧ (decode k_Links_take 1 = .ok (.istore_n 2, 1))) ∧ ((decode k_Links_take 2 = .ok (.iload_n 2, 1)) ∧ (decode k_Links_take 3 = .ok (.bipush 8, 2)))) ∧ (((decode k_Links_take 5 = .ok (.if_icmp .ge 16, 3)) ∧ (decode k_Links_take 8 = .ok (.aload_n 0, 1))) ∧ ((decode k_Links_take 9 = .ok (.getfield 9, 3)) ∧ (decode k_Links_take 12 = .ok (.iload_n 2, 1))))) ∧ ((((decode k_Links_take 13 = .ok (.iconst 0, 1)) ∧ (decode k_Links_take 14 = .ok (.iastore, 1))) ∧ ((decode k_Links_take 15 = .ok (.iinc 2 1, 3)) ∧ (decode k_Links_take 18 = .ok (.goto (-16), 3)))) ∧ (((decode k_Links_take 21 = .ok (.iconst 0, 1)) ∧ (decode k_Links_take 22 = .ok (.istore_n 2, 1))) ∧ ((decode k_Links_take 23 = .ok (.iload_n 2, 1)) ∧ (decode k_Links_take 24 = .ok (.aload_n 1, 1))))) := by decide +kernel
theorem D_Links_take_1 : ((((decode k_Links_take 25 = .ok (.getfield 15, 3)) ∧ (decode k_Links_take 28 = .ok (.if_icmp .ge 50, 3))) ∧ ((decode k_Links_take 31 = .ok (.aload_n 1, 1)) ∧ (decode k_Links_take 32 = .ok (.getfield 21, 3)))) ∧ (((decode k_Links_take 35 = .ok (.iload_n 2, 1)) ∧ (decode k_Links_take 36 = .ok (.iaload, 1))) ∧ ((decode k_Links_take 37 = .ok (.istore_n 3, 1)) ∧ (decode k_Links_take 38 = .ok (.aload_n 1, 1))))) ∧ ((((decode k_Links_take 39 = .ok (.getfield 24, 3)) ∧ (decode k_Links_take 42 = .ok (.iload_n 2, 1))) ∧ ((decode k_Links_take 43 = .ok (.iaload, 1)) ∧ (decode k_Links_take 44 = .ok (.istore 4, 2)))) ∧ (((decode k_Links_take 46 = .ok (.aload_n 0, 1)) ∧ (decode k_Links_take 47 = .ok (.getfield 9, 3))) ∧ ((decode k_Links_take 50 = .ok (.iload_n 3, 1)) ∧ (decode k_Links_take 51 = .ok (.dup2, 1))))) := by decide +kernel
theorem D_Links_take_2 : ((((decode k_Links_take 52 = .ok (.iaload, 1)) ∧ (decode k_Links_take 53 = .ok (.iconst 1, 1))) ∧ ((decode k_Links_take 54 = .ok (.iload 4, 2)) ∧ (decode k_Links_take 56 = .ok (.ishl, 1)))) ∧ (((decode k_Links_take 57 = .ok (.ior, 1)) ∧ (decode k_Links_take 58 = .ok (.iastore, 1))) ∧ ((decode k_Links_take 59 = .ok (.aload_n 0, 1)) ∧ (decode k_Links_take 60 = .ok (.getfield 9, 3))))) ∧ ((((decode k_Links_take 63 = .ok (.iload 4, 2)) ∧ (decode k_Links_take 65 = .ok (.dup2, 1))) ∧ ((decode k_Links_take 66 = .ok (.iaload, 1)) ∧ (decode k_Links_take 67 = .ok (.iconst 1, 1)))) ∧ (((decode k_Links_take 68 = .ok (.iload_n 3, 1)) ∧ (decode k_Links_take 69 = .ok (.ishl, 1))) ∧ ((decode k_Links_take 70 = .ok (.ior, 1)) ∧ (decode k_Links_take 71 = .ok (.iastore, 1))))) := by decide +kernel
theorem D_Links_take_3 : (decode k_Links_take 72 = .ok (.iinc 2 1, 3)) ∧ ((decode k_Links_take 75 = .ok (.goto (-52), 3)) ∧ (decode k_Links_take 78 = .ok (.return_, 1))) := by decide +kernel
theorem D_Links_areSuspect_0 : (((decode k_Links_areSuspect 0 = .ok (.aload_n 0, 1)) ∧ ((decode k_Links_areSuspect 1 = .ok (.getfield 9, 3)) ∧ (decode k_Links_areSuspect 4 = .ok (.iload_n 1, 1)))) ∧ ((decode k_Links_areSuspect 5 = .ok (.iaload, 1)) ∧ ((decode k_Links_areSuspect 6 = .ok (.iload_n 2, 1)) ∧ (decode k_Links_areSuspect 7 = .ok (.ishr, 1))))) ∧ (((decode k_Links_areSuspect 8 = .ok (.iconst 1, 1)) ∧ ((decode k_Links_areSuspect 9 = .ok (.iand, 1)) ∧ (decode k_Links_areSuspect 10 = .ok (.ifCond .eq 7, 3)))) ∧ (((decode k_Links_areSuspect 13 = .ok (.iconst 1, 1)) ∧ (decode k_Links_areSuspect 14 = .ok (.goto 4, 3))) ∧ ((decode k_Links_areSuspect 17 = .ok (.iconst 0, 1)) ∧ (decode k_Links_areSuspect 18 = .ok (.ireturn, 1))))) := by decide +kernel
theorem D_Links_reachedFrom_0 : ((((decode k_Links_reachedFrom 0 = .ok (.iconst 1, 1)) ∧ (decode k_Links_reachedFrom 1 = .ok (.iload_n 1, 1))) ∧ ((decode k_Links_reachedFrom 2 = .ok (.ishl, 1)) ∧ (decode k_Links_reachedFrom 3 = .ok (.istore_n 2, 1)))) ∧ (((decode k_Links_reachedFrom 4 = .ok (.iconst 0, 1)) ∧ (decode k_Links_reachedFrom 5 = .ok (.istore_n 3, 1))) ∧ ((decode k_Links_reachedFrom 6 = .ok (.iload_n 3, 1)) ∧ (decode k_Links_reachedFrom 7 = .ok (.bipush 8, 2))))) ∧ ((((decode k_Links_reachedFrom 9 = .ok (.if_icmp .ge 44, 3)) ∧ (decode k_Links_reachedFrom 12 = .ok (.iconst 0, 1))) ∧ ((decode k_Links_reachedFrom 13 = .ok (.istore 4, 2)) ∧ (decode k_Links_reachedFrom 15 = .ok (.iload 4, 2)))) ∧ (((decode k_Links_reachedFrom 17 = .ok (.bipush 8, 2)) ∧ (decode k_Links_reachedFrom 19 = .ok (.if_icmp .ge 28, 3))) ∧ ((decode k_Links_reachedFrom 22 = .ok (.iload_n 2, 1)) ∧ (decode k_Links_reachedFrom 23 = .ok (.iload 4, 2))))) := by decide +kernel
theorem D_Links_reachedFrom_1 : ((((decode k_Links_reachedFrom 25 = .ok (.ishr, 1)) ∧ (decode k_Links_reachedFrom 26 = .ok (.iconst 1, 1))) ∧ ((decode k_Links_reachedFrom 27 = .ok (.iand, 1)) ∧ (decode k_Links_reachedFrom 28 = .ok (.ifCond .eq 13, 3)))) ∧ (((decode k_Links_reachedFrom 31 = .ok (.iload_n 2, 1)) ∧ (decode k_Links_reachedFrom 32 = .ok (.aload_n 0, 1))) ∧ ((decode k_Links_reachedFrom 33 = .ok (.getfield 9, 3)) ∧ (decode k_Links_reachedFrom 36 = .ok (.iload 4, 2))))) ∧ ((((decode k_Links_reachedFrom 38 = .ok (.iaload, 1)) ∧ (decode k_Links_reachedFrom 39 = .ok (.ior, 1))) ∧ ((decode k_Links_reachedFrom 40 = .ok (.istore_n 2, 1)) ∧ (decode k_Links_reachedFrom 41 = .ok (.iinc 4 1, 3)))) ∧ (((decode k_Links_reachedFrom 44 = .ok (.goto (-29), 3)) ∧ (decode k_Links_reachedFrom 47 = .ok (.iinc 3 1, 3))) ∧ ((decode k_Links_reachedFrom 50 = .ok (.goto (-44), 3)) ∧ (decode k_Links_reachedFrom 53 = .ok (.iload_n 2, 1))))) := by decide +kernel
theorem D_Links_reachedFrom_2 : decode k_Links_reachedFrom 54 = .ok (.ireturn, 1) := by decide +kernel
theorem D_Links_groups_0 : ((((decode k_Links_groups 0 = .ok (.iconst 0, 1)) ∧ (decode k_Links_groups 1 = .ok (.istore_n 1, 1))) ∧ ((decode k_Links_groups 2 = .ok (.iconst 1, 1)) ∧ (decode k_Links_groups 3 = .ok (.istore_n 2, 1)))) ∧ (((decode k_Links_groups 4 = .ok (.iload_n 2, 1)) ∧ (decode k_Links_groups 5 = .ok (.sipush 256, 3))) ∧ ((decode k_Links_groups 8 = .ok (.if_icmp .ge 20, 3)) ∧ (decode k_Links_groups 11 = .ok (.aload_n 0, 1))))) ∧ ((((decode k_Links_groups 12 = .ok (.iload_n 2, 1)) ∧ (decode k_Links_groups 13 = .ok (.invokevirtual 27, 3))) ∧ ((decode k_Links_groups 16 = .ok (.ifCond .eq 6, 3)) ∧ (decode k_Links_groups 19 = .ok (.iinc 1 1, 3)))) ∧ (((decode k_Links_groups 22 = .ok (.iinc 2 1, 3)) ∧ (decode k_Links_groups 25 = .ok (.goto (-21), 3))) ∧ ((decode k_Links_groups 28 = .ok (.iload_n 1, 1)) ∧ (decode k_Links_groups 29 = .ok (.ireturn, 1))))) := by decide +kernel
theorem D_Links_greatest_0 : ((((decode k_Links_greatest 0 = .ok (.iconst 0, 1)) ∧ (decode k_Links_greatest 1 = .ok (.istore_n 1, 1))) ∧ ((decode k_Links_greatest 2 = .ok (.iconst 1, 1)) ∧ (decode k_Links_greatest 3 = .ok (.istore_n 2, 1)))) ∧ (((decode k_Links_greatest 4 = .ok (.iload_n 2, 1)) ∧ (decode k_Links_greatest 5 = .ok (.sipush 256, 3))) ∧ ((decode k_Links_greatest 8 = .ok (.if_icmp .ge 26, 3)) ∧ (decode k_Links_greatest 11 = .ok (.aload_n 0, 1))))) ∧ ((((decode k_Links_greatest 12 = .ok (.iload_n 2, 1)) ∧ (decode k_Links_greatest 13 = .ok (.invokevirtual 27, 3))) ∧ ((decode k_Links_greatest 16 = .ok (.ifCond .eq 12, 3)) ∧ (decode k_Links_greatest 19 = .ok (.iload_n 1, 1)))) ∧ (((decode k_Links_greatest 20 = .ok (.iload_n 2, 1)) ∧ (decode k_Links_greatest 21 = .ok (.invokestatic 31, 3))) ∧ ((decode k_Links_greatest 24 = .ok (.invokestatic 37, 3)) ∧ (decode k_Links_greatest 27 = .ok (.istore_n 1, 1))))) := by decide +kernel
theorem D_Links_greatest_1 : ((decode k_Links_greatest 28 = .ok (.iinc 2 1, 3)) ∧ (decode k_Links_greatest 31 = .ok (.goto (-27), 3))) ∧ ((decode k_Links_greatest 34 = .ok (.iload_n 1, 1)) ∧ (decode k_Links_greatest 35 = .ok (.ireturn, 1))) := by decide +kernel
theorem D_Links_groupAt_0 : ((((decode k_Links_groupAt 0 = .ok (.iconst 0, 1)) ∧ (decode k_Links_groupAt 1 = .ok (.istore_n 2, 1))) ∧ ((decode k_Links_groupAt 2 = .ok (.iconst 1, 1)) ∧ (decode k_Links_groupAt 3 = .ok (.istore_n 3, 1)))) ∧ (((decode k_Links_groupAt 4 = .ok (.iload_n 3, 1)) ∧ (decode k_Links_groupAt 5 = .ok (.sipush 256, 3))) ∧ ((decode k_Links_groupAt 8 = .ok (.if_icmp .ge 27, 3)) ∧ (decode k_Links_groupAt 11 = .ok (.aload_n 0, 1))))) ∧ ((((decode k_Links_groupAt 12 = .ok (.iload_n 3, 1)) ∧ (decode k_Links_groupAt 13 = .ok (.invokevirtual 27, 3))) ∧ ((decode k_Links_groupAt 16 = .ok (.ifCond .eq 13, 3)) ∧ (decode k_Links_groupAt 19 = .ok (.iload_n 2, 1)))) ∧ (((decode k_Links_groupAt 20 = .ok (.iload_n 1, 1)) ∧ (decode k_Links_groupAt 21 = .ok (.if_icmp .ne 5, 3))) ∧ ((decode k_Links_groupAt 24 = .ok (.iload_n 3, 1)) ∧ (decode k_Links_groupAt 25 = .ok (.ireturn, 1))))) := by decide +kernel
theorem D_Links_groupAt_1 : ((decode k_Links_groupAt 26 = .ok (.iinc 2 1, 3)) ∧ (decode k_Links_groupAt 29 = .ok (.iinc 3 1, 3))) ∧ ((decode k_Links_groupAt 32 = .ok (.goto (-28), 3)) ∧ ((decode k_Links_groupAt 35 = .ok (.iconst (-1), 1)) ∧ (decode k_Links_groupAt 36 = .ok (.ireturn, 1)))) := by decide +kernel
theorem D_Links_isGroup_0 : ((((decode k_Links_isGroup 0 = .ok (.iload_n 1, 1)) ∧ (decode k_Links_isGroup 1 = .ok (.invokestatic 31, 3))) ∧ ((decode k_Links_isGroup 4 = .ok (.iconst 2, 1)) ∧ (decode k_Links_isGroup 5 = .ok (.if_icmp .ge 5, 3)))) ∧ (((decode k_Links_isGroup 8 = .ok (.iconst 0, 1)) ∧ (decode k_Links_isGroup 9 = .ok (.ireturn, 1))) ∧ ((decode k_Links_isGroup 10 = .ok (.sipush 255, 3)) ∧ (decode k_Links_isGroup 13 = .ok (.istore_n 2, 1))))) ∧ ((((decode k_Links_isGroup 14 = .ok (.iconst 0, 1)) ∧ (decode k_Links_isGroup 15 = .ok (.istore_n 3, 1))) ∧ ((decode k_Links_isGroup 16 = .ok (.iload_n 3, 1)) ∧ (decode k_Links_isGroup 17 = .ok (.bipush 8, 2)))) ∧ (((decode k_Links_isGroup 19 = .ok (.if_icmp .ge 44, 3)) ∧ (decode k_Links_isGroup 22 = .ok (.iload_n 1, 1))) ∧ ((decode k_Links_isGroup 23 = .ok (.iload_n 3, 1)) ∧ (decode k_Links_isGroup 24 = .ok (.ishr, 1))))) := by decide +kernel
theorem D_Links_isGroup_1 : ((((decode k_Links_isGroup 25 = .ok (.iconst 1, 1)) ∧ (decode k_Links_isGroup 26 = .ok (.iand, 1))) ∧ ((decode k_Links_isGroup 27 = .ok (.ifCond .eq 30, 3)) ∧ (decode k_Links_isGroup 30 = .ok (.iload_n 1, 1)))) ∧ (((decode k_Links_isGroup 31 = .ok (.aload_n 0, 1)) ∧ (decode k_Links_isGroup 32 = .ok (.getfield 9, 3))) ∧ ((decode k_Links_isGroup 35 = .ok (.iload_n 3, 1)) ∧ (decode k_Links_isGroup 36 = .ok (.iaload, 1))))) ∧ ((((decode k_Links_isGroup 37 = .ok (.iconst (-1), 1)) ∧ (decode k_Links_isGroup 38 = .ok (.ixor, 1))) ∧ ((decode k_Links_isGroup 39 = .ok (.iand, 1)) ∧ (decode k_Links_isGroup 40 = .ok (.iconst 1, 1)))) ∧ (((decode k_Links_isGroup 41 = .ok (.iload_n 3, 1)) ∧ (decode k_Links_isGroup 42 = .ok (.ishl, 1))) ∧ ((decode k_Links_isGroup 43 = .ok (.if_icmp .eq 5, 3)) ∧ (decode k_Links_isGroup 46 = .ok (.iconst 0, 1))))) := by decide +kernel
theorem D_Links_isGroup_2 : ((((decode k_Links_isGroup 47 = .ok (.ireturn, 1)) ∧ (decode k_Links_isGroup 48 = .ok (.iload_n 2, 1))) ∧ ((decode k_Links_isGroup 49 = .ok (.aload_n 0, 1)) ∧ (decode k_Links_isGroup 50 = .ok (.getfield 9, 3)))) ∧ (((decode k_Links_isGroup 53 = .ok (.iload_n 3, 1)) ∧ (decode k_Links_isGroup 54 = .ok (.iaload, 1))) ∧ ((decode k_Links_isGroup 55 = .ok (.iand, 1)) ∧ (decode k_Links_isGroup 56 = .ok (.istore_n 2, 1))))) ∧ ((((decode k_Links_isGroup 57 = .ok (.iinc 3 1, 3)) ∧ (decode k_Links_isGroup 60 = .ok (.goto (-44), 3))) ∧ ((decode k_Links_isGroup 63 = .ok (.iload_n 2, 1)) ∧ (decode k_Links_isGroup 64 = .ok (.ifCond .ne 7, 3)))) ∧ (((decode k_Links_isGroup 67 = .ok (.iconst 1, 1)) ∧ (decode k_Links_isGroup 68 = .ok (.goto 4, 3))) ∧ ((decode k_Links_isGroup 71 = .ok (.iconst 0, 1)) ∧ (decode k_Links_isGroup 72 = .ok (.ireturn, 1))))) := by decide +kernel
theorem D_Odds_init_0 : ((((decode k_Odds_init 0 = .ok (.aload_n 0, 1)) ∧ (decode k_Odds_init 1 = .ok (.invokespecial 3, 3))) ∧ ((decode k_Odds_init 4 = .ok (.aload_n 0, 1)) ∧ (decode k_Odds_init 5 = .ok (.iconst 4, 1)))) ∧ (((decode k_Odds_init 6 = .ok (.newarray .int, 2)) ∧ (decode k_Odds_init 8 = .ok (.putfield 9, 3))) ∧ ((decode k_Odds_init 11 = .ok (.aload_n 0, 1)) ∧ (decode k_Odds_init 12 = .ok (.iconst 0, 1))))) ∧ ((((decode k_Odds_init 13 = .ok (.putfield 15, 3)) ∧ (decode k_Odds_init 16 = .ok (.aload_n 0, 1))) ∧ ((decode k_Odds_init 17 = .ok (.bipush 33, 2)) ∧ (decode k_Odds_init 19 = .ok (.newarray .long, 2)))) ∧ (((decode k_Odds_init 21 = .ok (.putfield 19, 3)) ∧ (decode k_Odds_init 24 = .ok (.aload_n 0, 1))) ∧ ((decode k_Odds_init 25 = .ok (.lconst 1, 1)) ∧ (decode k_Odds_init 26 = .ok (.putfield 23, 3))))) := by decide +kernel
theorem D_Odds_init_1 : (((decode k_Odds_init 29 = .ok (.aload_n 0, 1)) ∧ ((decode k_Odds_init 30 = .ok (.iconst 0, 1)) ∧ (decode k_Odds_init 31 = .ok (.putfield 27, 3)))) ∧ ((decode k_Odds_init 34 = .ok (.aload_n 0, 1)) ∧ ((decode k_Odds_init 35 = .ok (.lconst 0, 1)) ∧ (decode k_Odds_init 36 = .ok (.putfield 30, 3))))) ∧ (((decode k_Odds_init 39 = .ok (.aload_n 0, 1)) ∧ ((decode k_Odds_init 40 = .ok (.lconst 0, 1)) ∧ (decode k_Odds_init 41 = .ok (.putfield 33, 3)))) ∧ (((decode k_Odds_init 44 = .ok (.aload_n 0, 1)) ∧ (decode k_Odds_init 45 = .ok (.lconst 1, 1))) ∧ ((decode k_Odds_init 46 = .ok (.putfield 36, 3)) ∧ (decode k_Odds_init 49 = .ok (.return_, 1))))) := by decide +kernel
theorem D_Odds_asGreat_0 : (((decode k_Odds_asGreat 0 = .ok (.aload_n 0, 1)) ∧ (decode k_Odds_asGreat 1 = .ok (.aload_n 1, 1))) ∧ ((decode k_Odds_asGreat 2 = .ok (.iload_n 2, 1)) ∧ ((decode k_Odds_asGreat 3 = .ok (.iload_n 3, 1)) ∧ (decode k_Odds_asGreat 4 = .ok (.iload 4, 2))))) ∧ (((decode k_Odds_asGreat 6 = .ok (.iconst (-1), 1)) ∧ ((decode k_Odds_asGreat 7 = .ok (.invokevirtual 39, 3)) ∧ (decode k_Odds_asGreat 10 = .ok (.aload_n 0, 1)))) ∧ ((decode k_Odds_asGreat 11 = .ok (.aload 5, 2)) ∧ ((decode k_Odds_asGreat 13 = .ok (.invokevirtual 43, 3)) ∧ (decode k_Odds_asGreat 16 = .ok (.return_, 1))))) := by decide +kernel
theorem D_Odds_asGreatWithout_0 : (((decode k_Odds_asGreatWithout 0 = .ok (.aload_n 0, 1)) ∧ (decode k_Odds_asGreatWithout 1 = .ok (.aload_n 1, 1))) ∧ ((decode k_Odds_asGreatWithout 2 = .ok (.iload_n 2, 1)) ∧ ((decode k_Odds_asGreatWithout 3 = .ok (.iload_n 3, 1)) ∧ (decode k_Odds_asGreatWithout 4 = .ok (.iconst 0, 1))))) ∧ (((decode k_Odds_asGreatWithout 5 = .ok (.iload 4, 2)) ∧ ((decode k_Odds_asGreatWithout 7 = .ok (.invokevirtual 39, 3)) ∧ (decode k_Odds_asGreatWithout 10 = .ok (.aload_n 0, 1)))) ∧ ((decode k_Odds_asGreatWithout 11 = .ok (.aload 5, 2)) ∧ ((decode k_Odds_asGreatWithout 13 = .ok (.invokevirtual 43, 3)) ∧ (decode k_Odds_asGreatWithout 16 = .ok (.return_, 1))))) := by decide +kernel
theorem D_Odds_exactly_0 : ((((decode k_Odds_exactly 0 = .ok (.aload_n 0, 1)) ∧ (decode k_Odds_exactly 1 = .ok (.aload_n 1, 1))) ∧ ((decode k_Odds_exactly 2 = .ok (.iload_n 2, 1)) ∧ (decode k_Odds_exactly 3 = .ok (.iload_n 3, 1)))) ∧ (((decode k_Odds_exactly 4 = .ok (.iload 4, 2)) ∧ (decode k_Odds_exactly 6 = .ok (.iconst (-1), 1))) ∧ ((decode k_Odds_exactly 7 = .ok (.invokevirtual 39, 3)) ∧ (decode k_Odds_exactly 10 = .ok (.aload 6, 2))))) ∧ ((((decode k_Odds_exactly 12 = .ok (.aload_n 0, 1)) ∧ (decode k_Odds_exactly 13 = .ok (.getfield 19, 3))) ∧ ((decode k_Odds_exactly 16 = .ok (.iload 5, 2)) ∧ (decode k_Odds_exactly 18 = .ok (.laload, 1)))) ∧ (((decode k_Odds_exactly 19 = .ok (.aload_n 0, 1)) ∧ (decode k_Odds_exactly 20 = .ok (.getfield 23, 3))) ∧ ((decode k_Odds_exactly 23 = .ok (.invokevirtual 47, 3)) ∧ (decode k_Odds_exactly 26 = .ok (.return_, 1))))) := by decide +kernel
theorem D_Odds_takeShares_0 : ((((decode k_Odds_takeShares 0 = .ok (.aload_n 1, 1)) ∧ (decode k_Odds_takeShares 1 = .ok (.getfield 53, 3))) ∧ ((decode k_Odds_takeShares 4 = .ok (.iload_n 2, 1)) ∧ (decode k_Odds_takeShares 5 = .ok (.iaload, 1)))) ∧ (((decode k_Odds_takeShares 6 = .ok (.istore 5, 2)) ∧ (decode k_Odds_takeShares 8 = .ok (.iconst 0, 1))) ∧ ((decode k_Odds_takeShares 9 = .ok (.istore 6, 2)) ∧ (decode k_Odds_takeShares 11 = .ok (.iload 6, 2))))) ∧ ((((decode k_Odds_takeShares 13 = .ok (.iconst 4, 1)) ∧ (decode k_Odds_takeShares 14 = .ok (.if_icmp .ge 35, 3))) ∧ ((decode k_Odds_takeShares 17 = .ok (.aload_n 0, 1)) ∧ (decode k_Odds_takeShares 18 = .ok (.getfield 9, 3)))) ∧ (((decode k_Odds_takeShares 21 = .ok (.iload 6, 2)) ∧ (decode k_Odds_takeShares 23 = .ok (.iload 5, 2))) ∧ ((decode k_Odds_takeShares 25 = .ok (.iconst 1, 1)) ∧ (decode k_Odds_takeShares 26 = .ok (.if_icmp .ne 15, 3))))) := by decide +kernel
theorem D_Odds_takeShares_1 : ((((decode k_Odds_takeShares 29 = .ok (.aload_n 1, 1)) ∧ (decode k_Odds_takeShares 30 = .ok (.getfield 58, 3))) ∧ ((decode k_Odds_takeShares 33 = .ok (.iload_n 2, 1)) ∧ (decode k_Odds_takeShares 34 = .ok (.aaload, 1)))) ∧ (((decode k_Odds_takeShares 35 = .ok (.iload 6, 2)) ∧ (decode k_Odds_takeShares 37 = .ok (.iaload, 1))) ∧ ((decode k_Odds_takeShares 38 = .ok (.goto 4, 3)) ∧ (decode k_Odds_takeShares 41 = .ok (.iconst 1, 1))))) ∧ ((((decode k_Odds_takeShares 42 = .ok (.iastore, 1)) ∧ (decode k_Odds_takeShares 43 = .ok (.iinc 6 1, 3))) ∧ ((decode k_Odds_takeShares 46 = .ok (.goto (-35), 3)) ∧ (decode k_Odds_takeShares 49 = .ok (.iload 5, 2)))) ∧ (((decode k_Odds_takeShares 51 = .ok (.iconst 2, 1)) ∧ (decode k_Odds_takeShares 52 = .ok (.if_icmp .eq 9, 3))) ∧ ((decode k_Odds_takeShares 55 = .ok (.iload 5, 2)) ∧ (decode k_Odds_takeShares 57 = .ok (.iconst 3, 1))))) := by decide +kernel
theorem D_Odds_takeShares_2 : ((((decode k_Odds_takeShares 58 = .ok (.if_icmp .ne 32, 3)) ∧ (decode k_Odds_takeShares 61 = .ok (.aload_n 0, 1))) ∧ ((decode k_Odds_takeShares 62 = .ok (.aload_n 1, 1)) ∧ (decode k_Odds_takeShares 63 = .ok (.iload_n 2, 1)))) ∧ (((decode k_Odds_takeShares 64 = .ok (.iload 5, 2)) ∧ (decode k_Odds_takeShares 66 = .ok (.iconst 3, 1))) ∧ ((decode k_Odds_takeShares 67 = .ok (.if_icmp .ne 7, 3)) ∧ (decode k_Odds_takeShares 70 = .ok (.iload_n 3, 1))))) ∧ ((((decode k_Odds_takeShares 71 = .ok (.goto 4, 3)) ∧ (decode k_Odds_takeShares 74 = .ok (.iconst (-1), 1))) ∧ ((decode k_Odds_takeShares 75 = .ok (.iload 5, 2)) ∧ (decode k_Odds_takeShares 77 = .ok (.iconst 3, 1)))) ∧ (((decode k_Odds_takeShares 78 = .ok (.if_icmp .ne 8, 3)) ∧ (decode k_Odds_takeShares 81 = .ok (.iload 4, 2))) ∧ ((decode k_Odds_takeShares 83 = .ok (.goto 4, 3)) ∧ (decode k_Odds_takeShares 86 = .ok (.iconst (-1), 1))))) := by decide +kernel
theorem D_Odds_takeShares_3 : ((((decode k_Odds_takeShares 87 = .ok (.invokevirtual 62, 3)) ∧ (decode k_Odds_takeShares 90 = .ok (.aload_n 0, 1))) ∧ ((decode k_Odds_takeShares 91 = .ok (.iconst 0, 1)) ∧ (decode k_Odds_takeShares 92 = .ok (.putfield 15, 3)))) ∧ (((decode k_Odds_takeShares 95 = .ok (.iconst 0, 1)) ∧ (decode k_Odds_takeShares 96 = .ok (.istore 6, 2))) ∧ ((decode k_Odds_takeShares 98 = .ok (.iload 6, 2)) ∧ (decode k_Odds_takeShares 100 = .ok (.iconst 4, 1))))) ∧ ((((decode k_Odds_takeShares 101 = .ok (.if_icmp .ge 25, 3)) ∧ (decode k_Odds_takeShares 104 = .ok (.aload_n 0, 1))) ∧ ((decode k_Odds_takeShares 105 = .ok (.dup, 1)) ∧ (decode k_Odds_takeShares 106 = .ok (.getfield 15, 3)))) ∧ (((decode k_Odds_takeShares 109 = .ok (.aload_n 0, 1)) ∧ (decode k_Odds_takeShares 110 = .ok (.getfield 9, 3))) ∧ ((decode k_Odds_takeShares 113 = .ok (.iload 6, 2)) ∧ (decode k_Odds_takeShares 115 = .ok (.iaload, 1))))) := by decide +kernel
theorem D_Odds_takeShares_4 : ((decode k_Odds_takeShares 116 = .ok (.iadd, 1)) ∧ (decode k_Odds_takeShares 117 = .ok (.putfield 15, 3))) ∧ ((decode k_Odds_takeShares 120 = .ok (.iinc 6 1, 3)) ∧ ((decode k_Odds_takeShares 123 = .ok (.goto (-25), 3)) ∧ (decode k_Odds_takeShares 126 = .ok (.return_, 1)))) := by decide +kernel
theorem D_Odds_learn_0 : ((((decode k_Odds_learn 0 = .ok (.iconst 0, 1)) ∧ (decode k_Odds_learn 1 = .ok (.istore 5, 2))) ∧ ((decode k_Odds_learn 3 = .ok (.iload 5, 2)) ∧ (decode k_Odds_learn 5 = .ok (.aload_n 1, 1)))) ∧ (((decode k_Odds_learn 6 = .ok (.getfield 66, 3)) ∧ (decode k_Odds_learn 9 = .ok (.if_icmp .ge 49, 3))) ∧ ((decode k_Odds_learn 12 = .ok (.aload_n 1, 1)) ∧ (decode k_Odds_learn 13 = .ok (.getfield 69, 3))))) ∧ ((((decode k_Odds_learn 16 = .ok (.iload 5, 2)) ∧ (decode k_Odds_learn 18 = .ok (.aaload, 1))) ∧ ((decode k_Odds_learn 19 = .ok (.iload_n 2, 1)) ∧ (decode k_Odds_learn 20 = .ok (.iaload, 1)))) ∧ (((decode k_Odds_learn 21 = .ok (.istore 6, 2)) ∧ (decode k_Odds_learn 23 = .ok (.iload 6, 2))) ∧ ((decode k_Odds_learn 25 = .ok (.ifCond .lt 27, 3)) ∧ (decode k_Odds_learn 28 = .ok (.iload 5, 2))))) := by decide +kernel
theorem D_Odds_learn_1 : ((((decode k_Odds_learn 30 = .ok (.iload_n 3, 1)) ∧ (decode k_Odds_learn 31 = .ok (.if_icmp .eq 21, 3))) ∧ ((decode k_Odds_learn 34 = .ok (.iload 5, 2)) ∧ (decode k_Odds_learn 36 = .ok (.iload 4, 2)))) ∧ (((decode k_Odds_learn 38 = .ok (.if_icmp .eq 14, 3)) ∧ (decode k_Odds_learn 41 = .ok (.aload_n 0, 1))) ∧ ((decode k_Odds_learn 42 = .ok (.getfield 9, 3)) ∧ (decode k_Odds_learn 45 = .ok (.iload 6, 2))))) ∧ ((((decode k_Odds_learn 47 = .ok (.dup2, 1)) ∧ (decode k_Odds_learn 48 = .ok (.iaload, 1))) ∧ ((decode k_Odds_learn 49 = .ok (.iconst 1, 1)) ∧ (decode k_Odds_learn 50 = .ok (.iadd, 1)))) ∧ (((decode k_Odds_learn 51 = .ok (.iastore, 1)) ∧ (decode k_Odds_learn 52 = .ok (.iinc 5 1, 3))) ∧ ((decode k_Odds_learn 55 = .ok (.goto (-52), 3)) ∧ (decode k_Odds_learn 58 = .ok (.return_, 1))))) := by decide +kernel
theorem D_Odds_putTail_0 : ((((decode k_Odds_putTail 0 = .ok (.lconst 0, 1)) ∧ (decode k_Odds_putTail 1 = .ok (.lstore_n 2, 1))) ∧ ((decode k_Odds_putTail 2 = .ok (.aload_n 0, 1)) ∧ (decode k_Odds_putTail 3 = .ok (.getfield 27, 3)))) ∧ (((decode k_Odds_putTail 6 = .ok (.istore 4, 2)) ∧ (decode k_Odds_putTail 8 = .ok (.iload 4, 2))) ∧ ((decode k_Odds_putTail 10 = .ok (.bipush 32, 2)) ∧ (decode k_Odds_putTail 12 = .ok (.if_icmp .gt 19, 3))))) ∧ ((((decode k_Odds_putTail 15 = .ok (.lload_n 2, 1)) ∧ (decode k_Odds_putTail 16 = .ok (.aload_n 0, 1))) ∧ ((decode k_Odds_putTail 17 = .ok (.getfield 19, 3)) ∧ (decode k_Odds_putTail 20 = .ok (.iload 4, 2)))) ∧ (((decode k_Odds_putTail 22 = .ok (.laload, 1)) ∧ (decode k_Odds_putTail 23 = .ok (.ladd, 1))) ∧ ((decode k_Odds_putTail 24 = .ok (.lstore_n 2, 1)) ∧ (decode k_Odds_putTail 25 = .ok (.iinc 4 1, 3))))) := by decide +kernel
theorem D_Odds_putTail_1 : ((decode k_Odds_putTail 28 = .ok (.goto (-20), 3)) ∧ ((decode k_Odds_putTail 31 = .ok (.aload_n 1, 1)) ∧ (decode k_Odds_putTail 32 = .ok (.lload_n 2, 1)))) ∧ (((decode k_Odds_putTail 33 = .ok (.aload_n 0, 1)) ∧ (decode k_Odds_putTail 34 = .ok (.getfield 23, 3))) ∧ ((decode k_Odds_putTail 37 = .ok (.invokevirtual 47, 3)) ∧ (decode k_Odds_putTail 40 = .ok (.return_, 1)))) := by decide +kernel
theorem D_Odds_spread_0 : ((((decode k_Odds_spread 0 = .ok (.iconst 1, 1)) ∧ (decode k_Odds_spread 1 = .ok (.istore 6, 2))) ∧ ((decode k_Odds_spread 3 = .ok (.iload 6, 2)) ∧ (decode k_Odds_spread 5 = .ok (.bipush 32, 2)))) ∧ (((decode k_Odds_spread 7 = .ok (.if_icmp .gt 17, 3)) ∧ (decode k_Odds_spread 10 = .ok (.aload_n 0, 1))) ∧ ((decode k_Odds_spread 11 = .ok (.getfield 19, 3)) ∧ (decode k_Odds_spread 14 = .ok (.iload 6, 2))))) ∧ ((((decode k_Odds_spread 16 = .ok (.lconst 0, 1)) ∧ (decode k_Odds_spread 17 = .ok (.lastore, 1))) ∧ ((decode k_Odds_spread 18 = .ok (.iinc 6 1, 3)) ∧ (decode k_Odds_spread 21 = .ok (.goto (-18), 3)))) ∧ (((decode k_Odds_spread 24 = .ok (.aload_n 0, 1)) ∧ (decode k_Odds_spread 25 = .ok (.getfield 19, 3))) ∧ ((decode k_Odds_spread 28 = .ok (.iconst 0, 1)) ∧ (decode k_Odds_spread 29 = .ok (.lconst 1, 1))))) := by decide +kernel
theorem D_Odds_spread_1 : ((((decode k_Odds_spread 30 = .ok (.lastore, 1)) ∧ (decode k_Odds_spread 31 = .ok (.aload_n 0, 1))) ∧ ((decode k_Odds_spread 32 = .ok (.lconst 1, 1)) ∧ (decode k_Odds_spread 33 = .ok (.putfield 23, 3)))) ∧ (((decode k_Odds_spread 36 = .ok (.aload_n 0, 1)) ∧ (decode k_Odds_spread 37 = .ok (.iconst 0, 1))) ∧ ((decode k_Odds_spread 38 = .ok (.putfield 27, 3)) ∧ (decode k_Odds_spread 41 = .ok (.aload_n 1, 1))))) ∧ ((((decode k_Odds_spread 42 = .ok (.getfield 72, 3)) ∧ (decode k_Odds_spread 45 = .ok (.iconst 4, 1))) ∧ ((decode k_Odds_spread 46 = .ok (.iaload, 1)) ∧ (decode k_Odds_spread 47 = .ok (.istore 6, 2)))) ∧ (((decode k_Odds_spread 49 = .ok (.aload_n 1, 1)) ∧ (decode k_Odds_spread 50 = .ok (.getfield 72, 3))) ∧ ((decode k_Odds_spread 53 = .ok (.iconst 5, 1)) ∧ (decode k_Odds_spread 54 = .ok (.iaload, 1))))) := by decide +kernel
theorem D_Odds_spread_2 : ((((decode k_Odds_spread 55 = .ok (.istore 7, 2)) ∧ (decode k_Odds_spread 57 = .ok (.iconst 0, 1))) ∧ ((decode k_Odds_spread 58 = .ok (.istore 8, 2)) ∧ (decode k_Odds_spread 60 = .ok (.iconst 0, 1)))) ∧ (((decode k_Odds_spread 61 = .ok (.istore 9, 2)) ∧ (decode k_Odds_spread 63 = .ok (.iload 9, 2))) ∧ ((decode k_Odds_spread 65 = .ok (.aload_n 1, 1)) ∧ (decode k_Odds_spread 66 = .ok (.getfield 75, 3))))) ∧ ((((decode k_Odds_spread 69 = .ok (.if_icmp .ge 82, 3)) ∧ (decode k_Odds_spread 72 = .ok (.iload 9, 2))) ∧ ((decode k_Odds_spread 74 = .ok (.iload 5, 2)) ∧ (decode k_Odds_spread 76 = .ok (.if_icmp .eq 69, 3)))) ∧ (((decode k_Odds_spread 79 = .ok (.aload_n 1, 1)) ∧ (decode k_Odds_spread 80 = .ok (.iload 9, 2))) ∧ ((decode k_Odds_spread 82 = .ok (.iload_n 2, 1)) ∧ (decode k_Odds_spread 83 = .ok (.iload_n 3, 1))))) := by decide +kernel
theorem D_Odds_spread_3 : ((((decode k_Odds_spread 84 = .ok (.invokevirtual 78, 3)) ∧ (decode k_Odds_spread 87 = .ok (.ifCond .eq 58, 3))) ∧ ((decode k_Odds_spread 90 = .ok (.aload_n 0, 1)) ∧ (decode k_Odds_spread 91 = .ok (.aload_n 1, 1)))) ∧ (((decode k_Odds_spread 92 = .ok (.iload 9, 2)) ∧ (decode k_Odds_spread 94 = .ok (.iload_n 2, 1))) ∧ ((decode k_Odds_spread 95 = .ok (.iload_n 3, 1)) ∧ (decode k_Odds_spread 96 = .ok (.iload 4, 2))))) ∧ ((((decode k_Odds_spread 98 = .ok (.invokevirtual 82, 3)) ∧ (decode k_Odds_spread 101 = .ok (.iload 8, 2))) ∧ ((decode k_Odds_spread 103 = .ok (.iload 6, 2)) ∧ (decode k_Odds_spread 105 = .ok (.iload 7, 2)))) ∧ (((decode k_Odds_spread 107 = .ok (.invokestatic 85, 3)) ∧ (decode k_Odds_spread 110 = .ok (.iadd, 1))) ∧ ((decode k_Odds_spread 111 = .ok (.bipush 32, 2)) ∧ (decode k_Odds_spread 113 = .ok (.invokestatic 91, 3))))) := by decide +kernel
theorem D_Odds_spread_4 : ((((decode k_Odds_spread 116 = .ok (.istore 8, 2)) ∧ (decode k_Odds_spread 118 = .ok (.aload_n 0, 1))) ∧ ((decode k_Odds_spread 119 = .ok (.iload 8, 2)) ∧ (decode k_Odds_spread 121 = .ok (.iload 6, 2)))) ∧ (((decode k_Odds_spread 123 = .ok (.iload 7, 2)) ∧ (decode k_Odds_spread 125 = .ok (.invokevirtual 94, 3))) ∧ ((decode k_Odds_spread 128 = .ok (.aload_n 0, 1)) ∧ (decode k_Odds_spread 129 = .ok (.dup, 1))))) ∧ ((((decode k_Odds_spread 130 = .ok (.getfield 27, 3)) ∧ (decode k_Odds_spread 133 = .ok (.aload_n 1, 1))) ∧ ((decode k_Odds_spread 134 = .ok (.iload 9, 2)) ∧ (decode k_Odds_spread 136 = .ok (.iload_n 2, 1)))) ∧ (((decode k_Odds_spread 137 = .ok (.iload_n 3, 1)) ∧ (decode k_Odds_spread 138 = .ok (.invokevirtual 98, 3))) ∧ ((decode k_Odds_spread 141 = .ok (.iadd, 1)) ∧ (decode k_Odds_spread 142 = .ok (.putfield 27, 3))))) := by decide +kernel
theorem D_Odds_spread_5 : (decode k_Odds_spread 145 = .ok (.iinc 9 1, 3)) ∧ ((decode k_Odds_spread 148 = .ok (.goto (-85), 3)) ∧ (decode k_Odds_spread 151 = .ok (.return_, 1))) := by decide +kernel
theorem D_Odds_addItem_0 : ((((decode k_Odds_addItem 0 = .ok (.aload_n 0, 1)) ∧ (decode k_Odds_addItem 1 = .ok (.getfield 36, 3))) ∧ ((decode k_Odds_addItem 4 = .ok (.aload_n 0, 1)) ∧ (decode k_Odds_addItem 5 = .ok (.getfield 30, 3)))) ∧ (((decode k_Odds_addItem 8 = .ok (.lsub, 1)) ∧ (decode k_Odds_addItem 9 = .ok (.aload_n 0, 1))) ∧ ((decode k_Odds_addItem 10 = .ok (.getfield 33, 3)) ∧ (decode k_Odds_addItem 13 = .ok (.lsub, 1))))) ∧ ((((decode k_Odds_addItem 14 = .ok (.lstore 4, 2)) ∧ (decode k_Odds_addItem 16 = .ok (.iload_n 1, 1))) ∧ ((decode k_Odds_addItem 17 = .ok (.istore 6, 2)) ∧ (decode k_Odds_addItem 19 = .ok (.iload 6, 2)))) ∧ (((decode k_Odds_addItem 21 = .ok (.ifCond .lt 80, 3)) ∧ (decode k_Odds_addItem 24 = .ok (.aload_n 0, 1))) ∧ ((decode k_Odds_addItem 25 = .ok (.getfield 19, 3)) ∧ (decode k_Odds_addItem 28 = .ok (.iload 6, 2))))) := by decide +kernel
theorem D_Odds_addItem_1 : ((((decode k_Odds_addItem 30 = .ok (.laload, 1)) ∧ (decode k_Odds_addItem 31 = .ok (.lload 4, 2))) ∧ ((decode k_Odds_addItem 33 = .ok (.lmul, 1)) ∧ (decode k_Odds_addItem 34 = .ok (.lstore 7, 2)))) ∧ (((decode k_Odds_addItem 36 = .ok (.iload 6, 2)) ∧ (decode k_Odds_addItem 38 = .ok (.iload_n 2, 1))) ∧ ((decode k_Odds_addItem 39 = .ok (.if_icmp .lt 22, 3)) ∧ (decode k_Odds_addItem 42 = .ok (.lload 7, 2))))) ∧ ((((decode k_Odds_addItem 44 = .ok (.aload_n 0, 1)) ∧ (decode k_Odds_addItem 45 = .ok (.getfield 19, 3))) ∧ ((decode k_Odds_addItem 48 = .ok (.iload 6, 2)) ∧ (decode k_Odds_addItem 50 = .ok (.iload_n 2, 1)))) ∧ (((decode k_Odds_addItem 51 = .ok (.isub, 1)) ∧ (decode k_Odds_addItem 52 = .ok (.laload, 1))) ∧ ((decode k_Odds_addItem 53 = .ok (.aload_n 0, 1)) ∧ (decode k_Odds_addItem 54 = .ok (.getfield 30, 3))))) := by decide +kernel
theorem D_Odds_addItem_2 : ((((decode k_Odds_addItem 57 = .ok (.lmul, 1)) ∧ (decode k_Odds_addItem 58 = .ok (.ladd, 1))) ∧ ((decode k_Odds_addItem 59 = .ok (.lstore 7, 2)) ∧ (decode k_Odds_addItem 61 = .ok (.iload 6, 2)))) ∧ (((decode k_Odds_addItem 63 = .ok (.iload_n 3, 1)) ∧ (decode k_Odds_addItem 64 = .ok (.if_icmp .lt 22, 3))) ∧ ((decode k_Odds_addItem 67 = .ok (.lload 7, 2)) ∧ (decode k_Odds_addItem 69 = .ok (.aload_n 0, 1))))) ∧ ((((decode k_Odds_addItem 70 = .ok (.getfield 19, 3)) ∧ (decode k_Odds_addItem 73 = .ok (.iload 6, 2))) ∧ ((decode k_Odds_addItem 75 = .ok (.iload_n 3, 1)) ∧ (decode k_Odds_addItem 76 = .ok (.isub, 1)))) ∧ (((decode k_Odds_addItem 77 = .ok (.laload, 1)) ∧ (decode k_Odds_addItem 78 = .ok (.aload_n 0, 1))) ∧ ((decode k_Odds_addItem 79 = .ok (.getfield 33, 3)) ∧ (decode k_Odds_addItem 82 = .ok (.lmul, 1))))) := by decide +kernel
theorem D_Odds_addItem_3 : ((((decode k_Odds_addItem 83 = .ok (.ladd, 1)) ∧ (decode k_Odds_addItem 84 = .ok (.lstore 7, 2))) ∧ ((decode k_Odds_addItem 86 = .ok (.aload_n 0, 1)) ∧ (decode k_Odds_addItem 87 = .ok (.getfield 19, 3)))) ∧ (((decode k_Odds_addItem 90 = .ok (.iload 6, 2)) ∧ (decode k_Odds_addItem 92 = .ok (.lload 7, 2))) ∧ ((decode k_Odds_addItem 94 = .ok (.lastore, 1)) ∧ (decode k_Odds_addItem 95 = .ok (.iinc 6 (-1), 3))))) ∧ ((((decode k_Odds_addItem 98 = .ok (.goto (-79), 3)) ∧ (decode k_Odds_addItem 101 = .ok (.aload_n 0, 1))) ∧ ((decode k_Odds_addItem 102 = .ok (.dup, 1)) ∧ (decode k_Odds_addItem 103 = .ok (.getfield 23, 3)))) ∧ (((decode k_Odds_addItem 106 = .ok (.aload_n 0, 1)) ∧ (decode k_Odds_addItem 107 = .ok (.getfield 36, 3))) ∧ ((decode k_Odds_addItem 110 = .ok (.lmul, 1)) ∧ (decode k_Odds_addItem 111 = .ok (.putfield 23, 3))))) := by decide +kernel
theorem D_Odds_addItem_4 : decode k_Odds_addItem 114 = .ok (.return_, 1) := by decide +kernel
theorem D_Odds_weigh_0 : ((((decode k_Odds_weigh 0 = .ok (.aload_n 0, 1)) ∧ (decode k_Odds_weigh 1 = .ok (.aload_n 1, 1))) ∧ ((decode k_Odds_weigh 2 = .ok (.iload_n 2, 1)) ∧ (decode k_Odds_weigh 3 = .ok (.iload_n 3, 1)))) ∧ (((decode k_Odds_weigh 4 = .ok (.iload 4, 2)) ∧ (decode k_Odds_weigh 6 = .ok (.invokevirtual 102, 3))) ∧ ((decode k_Odds_weigh 9 = .ok (.aload_n 1, 1)) ∧ (decode k_Odds_weigh 10 = .ok (.getfield 105, 3))))) ∧ ((((decode k_Odds_weigh 13 = .ok (.iload_n 2, 1)) ∧ (decode k_Odds_weigh 14 = .ok (.iaload, 1))) ∧ ((decode k_Odds_weigh 15 = .ok (.istore 6, 2)) ∧ (decode k_Odds_weigh 17 = .ok (.aload_n 1, 1)))) ∧ (((decode k_Odds_weigh 18 = .ok (.getfield 69, 3)) ∧ (decode k_Odds_weigh 21 = .ok (.iload_n 3, 1))) ∧ ((decode k_Odds_weigh 22 = .ok (.aaload, 1)) ∧ (decode k_Odds_weigh 23 = .ok (.iload_n 2, 1))))) := by decide +kernel
theorem D_Odds_weigh_1 : ((((decode k_Odds_weigh 24 = .ok (.iaload, 1)) ∧ (decode k_Odds_weigh 25 = .ok (.istore 7, 2))) ∧ ((decode k_Odds_weigh 27 = .ok (.aload_n 1, 1)) ∧ (decode k_Odds_weigh 28 = .ok (.getfield 69, 3)))) ∧ (((decode k_Odds_weigh 31 = .ok (.iload 4, 2)) ∧ (decode k_Odds_weigh 33 = .ok (.aaload, 1))) ∧ ((decode k_Odds_weigh 34 = .ok (.iload_n 2, 1)) ∧ (decode k_Odds_weigh 35 = .ok (.iaload, 1))))) ∧ ((((decode k_Odds_weigh 36 = .ok (.iload 6, 2)) ∧ (decode k_Odds_weigh 38 = .ok (.if_icmp .ne 7, 3))) ∧ ((decode k_Odds_weigh 41 = .ok (.iconst 1, 1)) ∧ (decode k_Odds_weigh 42 = .ok (.goto 4, 3)))) ∧ (((decode k_Odds_weigh 45 = .ok (.iconst 0, 1)) ∧ (decode k_Odds_weigh 46 = .ok (.istore 8, 2))) ∧ ((decode k_Odds_weigh 48 = .ok (.iload 5, 2)) ∧ (decode k_Odds_weigh 50 = .ok (.tableswitch 140 0 2 #[26, 67, 90], 26))))) := by decide +kernel
theorem D_Odds_weigh_2 : ((((decode k_Odds_weigh 76 = .ok (.aload_n 0, 1)) ∧ (decode k_Odds_weigh 77 = .ok (.aload_n 0, 1))) ∧ ((decode k_Odds_weigh 78 = .ok (.getfield 9, 3)) ∧ (decode k_Odds_weigh 81 = .ok (.iload 6, 2)))) ∧ (((decode k_Odds_weigh 83 = .ok (.iaload, 1)) ∧ (decode k_Odds_weigh 84 = .ok (.i2l, 1))) ∧ ((decode k_Odds_weigh 85 = .ok (.aload_n 0, 1)) ∧ (decode k_Odds_weigh 86 = .ok (.getfield 9, 3))))) ∧ ((((decode k_Odds_weigh 89 = .ok (.iload 6, 2)) ∧ (decode k_Odds_weigh 91 = .ok (.iaload, 1))) ∧ ((decode k_Odds_weigh 92 = .ok (.i2l, 1)) ∧ (decode k_Odds_weigh 93 = .ok (.lmul, 1)))) ∧ (((decode k_Odds_weigh 94 = .ok (.aload_n 0, 1)) ∧ (decode k_Odds_weigh 95 = .ok (.iload 6, 2))) ∧ ((decode k_Odds_weigh 97 = .ok (.invokevirtual 108, 3)) ∧ (decode k_Odds_weigh 100 = .ok (.aload_n 0, 1))))) := by decide +kernel
theorem D_Odds_weigh_3 : ((((decode k_Odds_weigh 101 = .ok (.getfield 15, 3)) ∧ (decode k_Odds_weigh 104 = .ok (.i2l, 1))) ∧ ((decode k_Odds_weigh 105 = .ok (.aload_n 0, 1)) ∧ (decode k_Odds_weigh 106 = .ok (.getfield 15, 3)))) ∧ (((decode k_Odds_weigh 109 = .ok (.i2l, 1)) ∧ (decode k_Odds_weigh 110 = .ok (.lmul, 1))) ∧ ((decode k_Odds_weigh 111 = .ok (.invokevirtual 112, 3)) ∧ (decode k_Odds_weigh 114 = .ok (.goto 86, 3))))) ∧ ((((decode k_Odds_weigh 117 = .ok (.aload_n 0, 1)) ∧ (decode k_Odds_weigh 118 = .ok (.iload 6, 2))) ∧ ((decode k_Odds_weigh 120 = .ok (.iload 7, 2)) ∧ (decode k_Odds_weigh 122 = .ok (.iload 6, 2)))) ∧ (((decode k_Odds_weigh 124 = .ok (.if_icmp .ne 7, 3)) ∧ (decode k_Odds_weigh 127 = .ok (.iconst 1, 1))) ∧ ((decode k_Odds_weigh 128 = .ok (.goto 4, 3)) ∧ (decode k_Odds_weigh 131 = .ok (.iconst 0, 1))))) := by decide +kernel
theorem D_Odds_weigh_4 : ((((decode k_Odds_weigh 132 = .ok (.iload 8, 2)) ∧ (decode k_Odds_weigh 134 = .ok (.invokevirtual 115, 3))) ∧ ((decode k_Odds_weigh 137 = .ok (.goto 63, 3)) ∧ (decode k_Odds_weigh 140 = .ok (.aload_n 0, 1)))) ∧ (((decode k_Odds_weigh 141 = .ok (.iload 7, 2)) ∧ (decode k_Odds_weigh 143 = .ok (.iload 6, 2))) ∧ ((decode k_Odds_weigh 145 = .ok (.if_icmp .ne 14, 3)) ∧ (decode k_Odds_weigh 148 = .ok (.aload_n 0, 1))))) ∧ ((((decode k_Odds_weigh 149 = .ok (.getfield 9, 3)) ∧ (decode k_Odds_weigh 152 = .ok (.iload 6, 2))) ∧ ((decode k_Odds_weigh 154 = .ok (.iaload, 1)) ∧ (decode k_Odds_weigh 155 = .ok (.i2l, 1)))) ∧ (((decode k_Odds_weigh 156 = .ok (.goto 4, 3)) ∧ (decode k_Odds_weigh 159 = .ok (.lconst 0, 1))) ∧ ((decode k_Odds_weigh 160 = .ok (.iload 7, 2)) ∧ (decode k_Odds_weigh 162 = .ok (.iload 6, 2))))) := by decide +kernel
theorem D_Odds_weigh_5 : ((((decode k_Odds_weigh 164 = .ok (.if_icmp .ne 7, 3)) ∧ (decode k_Odds_weigh 167 = .ok (.lconst 0, 1))) ∧ ((decode k_Odds_weigh 168 = .ok (.goto 11, 3)) ∧ (decode k_Odds_weigh 171 = .ok (.aload_n 0, 1)))) ∧ (((decode k_Odds_weigh 172 = .ok (.getfield 9, 3)) ∧ (decode k_Odds_weigh 175 = .ok (.iload 7, 2))) ∧ ((decode k_Odds_weigh 177 = .ok (.iaload, 1)) ∧ (decode k_Odds_weigh 178 = .ok (.i2l, 1))))) ∧ ((((decode k_Odds_weigh 179 = .ok (.aload_n 0, 1)) ∧ (decode k_Odds_weigh 180 = .ok (.getfield 15, 3))) ∧ ((decode k_Odds_weigh 183 = .ok (.i2l, 1)) ∧ (decode k_Odds_weigh 184 = .ok (.invokevirtual 112, 3)))) ∧ (((decode k_Odds_weigh 187 = .ok (.goto 13, 3)) ∧ (decode k_Odds_weigh 190 = .ok (.aload_n 0, 1))) ∧ ((decode k_Odds_weigh 191 = .ok (.iload 6, 2)) ∧ (decode k_Odds_weigh 193 = .ok (.iload 7, 2))))) := by decide +kernel
theorem D_Odds_weigh_6 : (decode k_Odds_weigh 195 = .ok (.iload 8, 2)) ∧ ((decode k_Odds_weigh 197 = .ok (.invokevirtual 119, 3)) ∧ (decode k_Odds_weigh 200 = .ok (.return_, 1))) := by decide +kernel
theorem D_Odds_weighGiven_0 : ((((decode k_Odds_weighGiven 0 = .ok (.iload_n 2, 1)) ∧ (decode k_Odds_weighGiven 1 = .ok (.ifCond .ne 7, 3))) ∧ ((decode k_Odds_weighGiven 4 = .ok (.iload_n 3, 1)) ∧ (decode k_Odds_weighGiven 5 = .ok (.ifCond .eq 25, 3)))) ∧ (((decode k_Odds_weighGiven 8 = .ok (.aload_n 0, 1)) ∧ (decode k_Odds_weighGiven 9 = .ok (.iload_n 2, 1))) ∧ ((decode k_Odds_weighGiven 10 = .ok (.ifCond .eq 11, 3)) ∧ (decode k_Odds_weighGiven 13 = .ok (.iload_n 3, 1))))) ∧ ((((decode k_Odds_weighGiven 14 = .ok (.ifCond .eq 7, 3)) ∧ (decode k_Odds_weighGiven 17 = .ok (.lconst 1, 1))) ∧ ((decode k_Odds_weighGiven 18 = .ok (.goto 4, 3)) ∧ (decode k_Odds_weighGiven 21 = .ok (.lconst 0, 1)))) ∧ (((decode k_Odds_weighGiven 22 = .ok (.lconst 0, 1)) ∧ (decode k_Odds_weighGiven 23 = .ok (.lconst 1, 1))) ∧ ((decode k_Odds_weighGiven 24 = .ok (.invokevirtual 112, 3)) ∧ (decode k_Odds_weighGiven 27 = .ok (.goto 32, 3))))) := by decide +kernel
theorem D_Odds_weighGiven_1 : ((((decode k_Odds_weighGiven 30 = .ok (.aload_n 0, 1)) ∧ (decode k_Odds_weighGiven 31 = .ok (.getfield 15, 3))) ∧ ((decode k_Odds_weighGiven 34 = .ok (.aload_n 0, 1)) ∧ (decode k_Odds_weighGiven 35 = .ok (.getfield 9, 3)))) ∧ (((decode k_Odds_weighGiven 38 = .ok (.iload_n 1, 1)) ∧ (decode k_Odds_weighGiven 39 = .ok (.iaload, 1))) ∧ ((decode k_Odds_weighGiven 40 = .ok (.isub, 1)) ∧ (decode k_Odds_weighGiven 41 = .ok (.i2l, 1))))) ∧ ((((decode k_Odds_weighGiven 42 = .ok (.lstore 4, 2)) ∧ (decode k_Odds_weighGiven 44 = .ok (.aload_n 0, 1))) ∧ ((decode k_Odds_weighGiven 45 = .ok (.lconst 0, 1)) ∧ (decode k_Odds_weighGiven 46 = .ok (.aload_n 0, 1)))) ∧ (((decode k_Odds_weighGiven 47 = .ok (.iload_n 1, 1)) ∧ (decode k_Odds_weighGiven 48 = .ok (.invokevirtual 108, 3))) ∧ ((decode k_Odds_weighGiven 51 = .ok (.lload 4, 2)) ∧ (decode k_Odds_weighGiven 53 = .ok (.lload 4, 2))))) := by decide +kernel
theorem D_Odds_weighGiven_2 : (decode k_Odds_weighGiven 55 = .ok (.lmul, 1)) ∧ ((decode k_Odds_weighGiven 56 = .ok (.invokevirtual 112, 3)) ∧ (decode k_Odds_weighGiven 59 = .ok (.return_, 1))) := by decide +kernel
theorem D_Odds_weighBound_0 : ((((decode k_Odds_weighBound 0 = .ok (.iload_n 2, 1)) ∧ (decode k_Odds_weighBound 1 = .ok (.iload_n 1, 1))) ∧ ((decode k_Odds_weighBound 2 = .ok (.if_icmp .eq 7, 3)) ∧ (decode k_Odds_weighBound 5 = .ok (.iload_n 3, 1)))) ∧ (((decode k_Odds_weighBound 6 = .ok (.ifCond .eq 26, 3)) ∧ (decode k_Odds_weighBound 9 = .ok (.aload_n 0, 1))) ∧ ((decode k_Odds_weighBound 10 = .ok (.iload_n 2, 1)) ∧ (decode k_Odds_weighBound 11 = .ok (.iload_n 1, 1))))) ∧ ((((decode k_Odds_weighBound 12 = .ok (.if_icmp .ne 11, 3)) ∧ (decode k_Odds_weighBound 15 = .ok (.iload_n 3, 1))) ∧ ((decode k_Odds_weighBound 16 = .ok (.ifCond .eq 7, 3)) ∧ (decode k_Odds_weighBound 19 = .ok (.lconst 1, 1)))) ∧ (((decode k_Odds_weighBound 20 = .ok (.goto 4, 3)) ∧ (decode k_Odds_weighBound 23 = .ok (.lconst 0, 1))) ∧ ((decode k_Odds_weighBound 24 = .ok (.lconst 0, 1)) ∧ (decode k_Odds_weighBound 25 = .ok (.lconst 1, 1))))) := by decide +kernel
theorem D_Odds_weighBound_1 : ((((decode k_Odds_weighBound 26 = .ok (.invokevirtual 112, 3)) ∧ (decode k_Odds_weighBound 29 = .ok (.goto 27, 3))) ∧ ((decode k_Odds_weighBound 32 = .ok (.aload_n 0, 1)) ∧ (decode k_Odds_weighBound 33 = .ok (.lconst 0, 1)))) ∧ (((decode k_Odds_weighBound 34 = .ok (.aload_n 0, 1)) ∧ (decode k_Odds_weighBound 35 = .ok (.getfield 9, 3))) ∧ ((decode k_Odds_weighBound 38 = .ok (.iload_n 2, 1)) ∧ (decode k_Odds_weighBound 39 = .ok (.iaload, 1))))) ∧ ((((decode k_Odds_weighBound 40 = .ok (.i2l, 1)) ∧ (decode k_Odds_weighBound 41 = .ok (.aload_n 0, 1))) ∧ ((decode k_Odds_weighBound 42 = .ok (.getfield 15, 3)) ∧ (decode k_Odds_weighBound 45 = .ok (.aload_n 0, 1)))) ∧ (((decode k_Odds_weighBound 46 = .ok (.getfield 9, 3)) ∧ (decode k_Odds_weighBound 49 = .ok (.iload_n 1, 1))) ∧ ((decode k_Odds_weighBound 50 = .ok (.iaload, 1)) ∧ (decode k_Odds_weighBound 51 = .ok (.isub, 1))))) := by decide +kernel
theorem D_Odds_weighBound_2 : (decode k_Odds_weighBound 52 = .ok (.i2l, 1)) ∧ ((decode k_Odds_weighBound 53 = .ok (.invokevirtual 112, 3)) ∧ (decode k_Odds_weighBound 56 = .ok (.return_, 1))) := by decide +kernel
theorem D_Odds_put_0 : (((decode k_Odds_put 0 = .ok (.aload_n 0, 1)) ∧ (decode k_Odds_put 1 = .ok (.lload_n 1, 1))) ∧ ((decode k_Odds_put 2 = .ok (.putfield 30, 3)) ∧ ((decode k_Odds_put 5 = .ok (.aload_n 0, 1)) ∧ (decode k_Odds_put 6 = .ok (.lload_n 3, 1))))) ∧ (((decode k_Odds_put 7 = .ok (.putfield 33, 3)) ∧ (decode k_Odds_put 10 = .ok (.aload_n 0, 1))) ∧ ((decode k_Odds_put 11 = .ok (.lload 5, 2)) ∧ ((decode k_Odds_put 13 = .ok (.putfield 36, 3)) ∧ (decode k_Odds_put 16 = .ok (.return_, 1))))) := by decide +kernel
theorem D_Odds_wrongSquares_0 : ((((decode k_Odds_wrongSquares 0 = .ok (.lconst 0, 1)) ∧ (decode k_Odds_wrongSquares 1 = .ok (.lstore_n 2, 1))) ∧ ((decode k_Odds_wrongSquares 2 = .ok (.iconst 0, 1)) ∧ (decode k_Odds_wrongSquares 3 = .ok (.istore 4, 2)))) ∧ (((decode k_Odds_wrongSquares 5 = .ok (.iload 4, 2)) ∧ (decode k_Odds_wrongSquares 7 = .ok (.iconst 4, 1))) ∧ ((decode k_Odds_wrongSquares 8 = .ok (.if_icmp .ge 35, 3)) ∧ (decode k_Odds_wrongSquares 11 = .ok (.iload 4, 2))))) ∧ ((((decode k_Odds_wrongSquares 13 = .ok (.iload_n 1, 1)) ∧ (decode k_Odds_wrongSquares 14 = .ok (.if_icmp .eq 23, 3))) ∧ ((decode k_Odds_wrongSquares 17 = .ok (.lload_n 2, 1)) ∧ (decode k_Odds_wrongSquares 18 = .ok (.aload_n 0, 1)))) ∧ (((decode k_Odds_wrongSquares 19 = .ok (.getfield 9, 3)) ∧ (decode k_Odds_wrongSquares 22 = .ok (.iload 4, 2))) ∧ ((decode k_Odds_wrongSquares 24 = .ok (.iaload, 1)) ∧ (decode k_Odds_wrongSquares 25 = .ok (.i2l, 1))))) := by decide +kernel
theorem D_Odds_wrongSquares_1 : (((decode k_Odds_wrongSquares 26 = .ok (.aload_n 0, 1)) ∧ ((decode k_Odds_wrongSquares 27 = .ok (.getfield 9, 3)) ∧ (decode k_Odds_wrongSquares 30 = .ok (.iload 4, 2)))) ∧ ((decode k_Odds_wrongSquares 32 = .ok (.iaload, 1)) ∧ ((decode k_Odds_wrongSquares 33 = .ok (.i2l, 1)) ∧ (decode k_Odds_wrongSquares 34 = .ok (.lmul, 1))))) ∧ (((decode k_Odds_wrongSquares 35 = .ok (.ladd, 1)) ∧ ((decode k_Odds_wrongSquares 36 = .ok (.lstore_n 2, 1)) ∧ (decode k_Odds_wrongSquares 37 = .ok (.iinc 4 1, 3)))) ∧ ((decode k_Odds_wrongSquares 40 = .ok (.goto (-35), 3)) ∧ ((decode k_Odds_wrongSquares 43 = .ok (.lload_n 2, 1)) ∧ (decode k_Odds_wrongSquares 44 = .ok (.lreturn, 1))))) := by decide +kernel
theorem D_Ranking_init_0 : ((((decode k_Ranking_init 0 = .ok (.aload_n 0, 1)) ∧ (decode k_Ranking_init 1 = .ok (.invokespecial 3, 3))) ∧ ((decode k_Ranking_init 4 = .ok (.aload_n 0, 1)) ∧ (decode k_Ranking_init 5 = .ok (.iconst 0, 1)))) ∧ (((decode k_Ranking_init 6 = .ok (.putfield 9, 3)) ∧ (decode k_Ranking_init 9 = .ok (.aload_n 0, 1))) ∧ ((decode k_Ranking_init 10 = .ok (.iconst 0, 1)) ∧ (decode k_Ranking_init 11 = .ok (.putfield 15, 3))))) ∧ ((((decode k_Ranking_init 14 = .ok (.aload_n 0, 1)) ∧ (decode k_Ranking_init 15 = .ok (.bipush 28, 2))) ∧ ((decode k_Ranking_init 17 = .ok (.newarray .int, 2)) ∧ (decode k_Ranking_init 19 = .ok (.putfield 18, 3)))) ∧ (((decode k_Ranking_init 22 = .ok (.aload_n 0, 1)) ∧ (decode k_Ranking_init 23 = .ok (.bipush 28, 2))) ∧ ((decode k_Ranking_init 25 = .ok (.newarray .int, 2)) ∧ (decode k_Ranking_init 27 = .ok (.putfield 22, 3))))) := by decide +kernel
theorem D_Ranking_init_1 : ((((decode k_Ranking_init 30 = .ok (.aload_n 0, 1)) ∧ (decode k_Ranking_init 31 = .ok (.bipush 28, 2))) ∧ ((decode k_Ranking_init 33 = .ok (.newarray .long, 2)) ∧ (decode k_Ranking_init 35 = .ok (.putfield 25, 3)))) ∧ (((decode k_Ranking_init 38 = .ok (.aload_n 0, 1)) ∧ (decode k_Ranking_init 39 = .ok (.bipush 28, 2))) ∧ ((decode k_Ranking_init 41 = .ok (.newarray .long, 2)) ∧ (decode k_Ranking_init 43 = .ok (.putfield 29, 3))))) ∧ ((((decode k_Ranking_init 46 = .ok (.aload_n 0, 1)) ∧ (decode k_Ranking_init 47 = .ok (.new 32, 3))) ∧ ((decode k_Ranking_init 50 = .ok (.dup, 1)) ∧ (decode k_Ranking_init 51 = .ok (.invokespecial 34, 3)))) ∧ (((decode k_Ranking_init 54 = .ok (.putfield 35, 3)) ∧ (decode k_Ranking_init 57 = .ok (.aload_n 0, 1))) ∧ ((decode k_Ranking_init 58 = .ok (.new 32, 3)) ∧ (decode k_Ranking_init 61 = .ok (.dup, 1))))) := by decide +kernel
theorem D_Ranking_init_2 : (decode k_Ranking_init 62 = .ok (.invokespecial 34, 3)) ∧ ((decode k_Ranking_init 65 = .ok (.putfield 39, 3)) ∧ (decode k_Ranking_init 68 = .ok (.return_, 1))) := by decide +kernel
theorem D_Ranking_has_0 : (((decode k_Ranking_has 0 = .ok (.iload_n 1, 1)) ∧ (decode k_Ranking_has 1 = .ok (.ifCond .lt 15, 3))) ∧ ((decode k_Ranking_has 4 = .ok (.iload_n 1, 1)) ∧ ((decode k_Ranking_has 5 = .ok (.aload_n 0, 1)) ∧ (decode k_Ranking_has 6 = .ok (.getfield 9, 3))))) ∧ (((decode k_Ranking_has 9 = .ok (.if_icmp .ge 7, 3)) ∧ (decode k_Ranking_has 12 = .ok (.iconst 1, 1))) ∧ ((decode k_Ranking_has 13 = .ok (.goto 4, 3)) ∧ ((decode k_Ranking_has 16 = .ok (.iconst 0, 1)) ∧ (decode k_Ranking_has 17 = .ok (.ireturn, 1))))) := by decide +kernel
theorem D_Ranking_order_0 : ((((decode k_Ranking_order 0 = .ok (.aload_n 0, 1)) ∧ (decode k_Ranking_order 1 = .ok (.iconst 0, 1))) ∧ ((decode k_Ranking_order 2 = .ok (.putfield 9, 3)) ∧ (decode k_Ranking_order 5 = .ok (.iconst 0, 1)))) ∧ (((decode k_Ranking_order 6 = .ok (.istore 4, 2)) ∧ (decode k_Ranking_order 8 = .ok (.iload 4, 2))) ∧ ((decode k_Ranking_order 10 = .ok (.aload_n 1, 1)) ∧ (decode k_Ranking_order 11 = .ok (.getfield 42, 3))))) ∧ ((((decode k_Ranking_order 14 = .ok (.if_icmp .ge 69, 3)) ∧ (decode k_Ranking_order 17 = .ok (.iload 4, 2))) ∧ ((decode k_Ranking_order 19 = .ok (.iconst 1, 1)) ∧ (decode k_Ranking_order 20 = .ok (.iadd, 1)))) ∧ (((decode k_Ranking_order 21 = .ok (.istore 5, 2)) ∧ (decode k_Ranking_order 23 = .ok (.iload 5, 2))) ∧ ((decode k_Ranking_order 25 = .ok (.aload_n 1, 1)) ∧ (decode k_Ranking_order 26 = .ok (.getfield 42, 3))))) := by decide +kernel
theorem D_Ranking_order_1 : ((((decode k_Ranking_order 29 = .ok (.if_icmp .ge 48, 3)) ∧ (decode k_Ranking_order 32 = .ok (.aload_n 1, 1))) ∧ ((decode k_Ranking_order 33 = .ok (.iload 4, 2)) ∧ (decode k_Ranking_order 35 = .ok (.iload 5, 2)))) ∧ (((decode k_Ranking_order 37 = .ok (.invokevirtual 47, 3)) ∧ (decode k_Ranking_order 40 = .ok (.ifCond .eq 31, 3))) ∧ ((decode k_Ranking_order 43 = .ok (.aload_n 0, 1)) ∧ (decode k_Ranking_order 44 = .ok (.getfield 9, 3))))) ∧ ((((decode k_Ranking_order 47 = .ok (.bipush 28, 2)) ∧ (decode k_Ranking_order 49 = .ok (.if_icmp .ge 22, 3))) ∧ ((decode k_Ranking_order 52 = .ok (.aload_n 0, 1)) ∧ (decode k_Ranking_order 53 = .ok (.aload_n 1, 1)))) ∧ (((decode k_Ranking_order 54 = .ok (.aload_n 2, 1)) ∧ (decode k_Ranking_order 55 = .ok (.iload 4, 2))) ∧ ((decode k_Ranking_order 57 = .ok (.iload 5, 2)) ∧ (decode k_Ranking_order 59 = .ok (.iload_n 3, 1))))) := by decide +kernel
theorem D_Ranking_order_2 : ((((decode k_Ranking_order 60 = .ok (.invokevirtual 51, 3)) ∧ (decode k_Ranking_order 63 = .ok (.aload_n 0, 1))) ∧ ((decode k_Ranking_order 64 = .ok (.iload 4, 2)) ∧ (decode k_Ranking_order 66 = .ok (.iload 5, 2)))) ∧ (((decode k_Ranking_order 68 = .ok (.invokevirtual 55, 3)) ∧ (decode k_Ranking_order 71 = .ok (.iinc 5 1, 3))) ∧ ((decode k_Ranking_order 74 = .ok (.goto (-51), 3)) ∧ (decode k_Ranking_order 77 = .ok (.iinc 4 1, 3))))) ∧ ((((decode k_Ranking_order 80 = .ok (.goto (-72), 3)) ∧ (decode k_Ranking_order 83 = .ok (.aload_n 0, 1))) ∧ ((decode k_Ranking_order 84 = .ok (.aload_n 0, 1)) ∧ (decode k_Ranking_order 85 = .ok (.aload_n 1, 1)))) ∧ (((decode k_Ranking_order 86 = .ok (.getfield 59, 3)) ∧ (decode k_Ranking_order 89 = .ok (.iconst 1, 1))) ∧ ((decode k_Ranking_order 90 = .ok (.iaload, 1)) ∧ (decode k_Ranking_order 91 = .ok (.aload_n 1, 1))))) := by decide +kernel
theorem D_Ranking_order_3 : ((decode k_Ranking_order 92 = .ok (.getfield 59, 3)) ∧ ((decode k_Ranking_order 95 = .ok (.iconst 2, 1)) ∧ (decode k_Ranking_order 96 = .ok (.iaload, 1)))) ∧ ((decode k_Ranking_order 97 = .ok (.invokevirtual 62, 3)) ∧ ((decode k_Ranking_order 100 = .ok (.putfield 15, 3)) ∧ (decode k_Ranking_order 103 = .ok (.return_, 1)))) := by decide +kernel
theorem D_Ranking_placeOf_0 : ((((decode k_Ranking_placeOf 0 = .ok (.iload_n 1, 1)) ∧ (decode k_Ranking_placeOf 1 = .ok (.iload_n 2, 1))) ∧ ((decode k_Ranking_placeOf 2 = .ok (.invokestatic 66, 3)) ∧ (decode k_Ranking_placeOf 5 = .ok (.istore_n 3, 1)))) ∧ (((decode k_Ranking_placeOf 6 = .ok (.iload_n 1, 1)) ∧ (decode k_Ranking_placeOf 7 = .ok (.iload_n 2, 1))) ∧ ((decode k_Ranking_placeOf 8 = .ok (.invokestatic 71, 3)) ∧ (decode k_Ranking_placeOf 11 = .ok (.istore 4, 2))))) ∧ ((((decode k_Ranking_placeOf 13 = .ok (.iconst 0, 1)) ∧ (decode k_Ranking_placeOf 14 = .ok (.istore 5, 2))) ∧ ((decode k_Ranking_placeOf 16 = .ok (.iload 5, 2)) ∧ (decode k_Ranking_placeOf 18 = .ok (.aload_n 0, 1)))) ∧ (((decode k_Ranking_placeOf 19 = .ok (.getfield 9, 3)) ∧ (decode k_Ranking_placeOf 22 = .ok (.if_icmp .ge 35, 3))) ∧ ((decode k_Ranking_placeOf 25 = .ok (.aload_n 0, 1)) ∧ (decode k_Ranking_placeOf 26 = .ok (.getfield 18, 3))))) := by decide +kernel
theorem D_Ranking_placeOf_1 : ((((decode k_Ranking_placeOf 29 = .ok (.iload 5, 2)) ∧ (decode k_Ranking_placeOf 31 = .ok (.iaload, 1))) ∧ ((decode k_Ranking_placeOf 32 = .ok (.iload_n 3, 1)) ∧ (decode k_Ranking_placeOf 33 = .ok (.if_icmp .ne 18, 3)))) ∧ (((decode k_Ranking_placeOf 36 = .ok (.aload_n 0, 1)) ∧ (decode k_Ranking_placeOf 37 = .ok (.getfield 22, 3))) ∧ ((decode k_Ranking_placeOf 40 = .ok (.iload 5, 2)) ∧ (decode k_Ranking_placeOf 42 = .ok (.iaload, 1))))) ∧ ((((decode k_Ranking_placeOf 43 = .ok (.iload 4, 2)) ∧ (decode k_Ranking_placeOf 45 = .ok (.if_icmp .ne 6, 3))) ∧ ((decode k_Ranking_placeOf 48 = .ok (.iload 5, 2)) ∧ (decode k_Ranking_placeOf 50 = .ok (.ireturn, 1)))) ∧ (((decode k_Ranking_placeOf 51 = .ok (.iinc 5 1, 3)) ∧ (decode k_Ranking_placeOf 54 = .ok (.goto (-38), 3))) ∧ ((decode k_Ranking_placeOf 57 = .ok (.iconst (-1), 1)) ∧ (decode k_Ranking_placeOf 58 = .ok (.ireturn, 1))))) := by decide +kernel
theorem D_Ranking_agrees_0 : ((((decode k_Ranking_agrees 0 = .ok (.iconst 0, 1)) ∧ (decode k_Ranking_agrees 1 = .ok (.istore_n 2, 1))) ∧ ((decode k_Ranking_agrees 2 = .ok (.iload_n 2, 1)) ∧ (decode k_Ranking_agrees 3 = .ok (.aload_n 1, 1)))) ∧ (((decode k_Ranking_agrees 4 = .ok (.getfield 74, 3)) ∧ (decode k_Ranking_agrees 7 = .ok (.if_icmp .ge 58, 3))) ∧ ((decode k_Ranking_agrees 10 = .ok (.aload_n 0, 1)) ∧ (decode k_Ranking_agrees 11 = .ok (.aload_n 1, 1))))) ∧ ((((decode k_Ranking_agrees 12 = .ok (.getfield 77, 3)) ∧ (decode k_Ranking_agrees 15 = .ok (.iload_n 2, 1))) ∧ ((decode k_Ranking_agrees 16 = .ok (.iaload, 1)) ∧ (decode k_Ranking_agrees 17 = .ok (.aload_n 1, 1)))) ∧ (((decode k_Ranking_agrees 18 = .ok (.getfield 80, 3)) ∧ (decode k_Ranking_agrees 21 = .ok (.iload_n 2, 1))) ∧ ((decode k_Ranking_agrees 22 = .ok (.iaload, 1)) ∧ (decode k_Ranking_agrees 23 = .ok (.invokevirtual 83, 3))))) := by decide +kernel
theorem D_Ranking_agrees_1 : ((((decode k_Ranking_agrees 26 = .ok (.istore_n 3, 1)) ∧ (decode k_Ranking_agrees 27 = .ok (.iload_n 3, 1))) ∧ ((decode k_Ranking_agrees 28 = .ok (.ifCond .lt 15, 3)) ∧ (decode k_Ranking_agrees 31 = .ok (.iload_n 3, 1)))) ∧ (((decode k_Ranking_agrees 32 = .ok (.aload_n 0, 1)) ∧ (decode k_Ranking_agrees 33 = .ok (.getfield 15, 3))) ∧ ((decode k_Ranking_agrees 36 = .ok (.if_icmp .ge 7, 3)) ∧ (decode k_Ranking_agrees 39 = .ok (.iconst 1, 1))))) ∧ ((((decode k_Ranking_agrees 40 = .ok (.goto 4, 3)) ∧ (decode k_Ranking_agrees 43 = .ok (.iconst 0, 1))) ∧ ((decode k_Ranking_agrees 44 = .ok (.istore 4, 2)) ∧ (decode k_Ranking_agrees 46 = .ok (.iload 4, 2)))) ∧ (((decode k_Ranking_agrees 48 = .ok (.aload_n 1, 1)) ∧ (decode k_Ranking_agrees 49 = .ok (.getfield 86, 3))) ∧ ((decode k_Ranking_agrees 52 = .ok (.iload_n 2, 1)) ∧ (decode k_Ranking_agrees 53 = .ok (.baload, 1))))) := by decide +kernel
theorem D_Ranking_agrees_2 : ((decode k_Ranking_agrees 54 = .ok (.if_icmp .eq 5, 3)) ∧ ((decode k_Ranking_agrees 57 = .ok (.iconst 0, 1)) ∧ (decode k_Ranking_agrees 58 = .ok (.ireturn, 1)))) ∧ (((decode k_Ranking_agrees 59 = .ok (.iinc 2 1, 3)) ∧ (decode k_Ranking_agrees 62 = .ok (.goto (-60), 3))) ∧ ((decode k_Ranking_agrees 65 = .ok (.iconst 1, 1)) ∧ (decode k_Ranking_agrees 66 = .ok (.ireturn, 1)))) := by decide +kernel
theorem D_Ranking_weighPair_0 : ((((decode k_Ranking_weighPair 0 = .ok (.aload_n 2, 1)) ∧ (decode k_Ranking_weighPair 1 = .ok (.aload_n 1, 1))) ∧ ((decode k_Ranking_weighPair 2 = .ok (.iload_n 3, 1)) ∧ (decode k_Ranking_weighPair 3 = .ok (.iload 4, 2)))) ∧ (((decode k_Ranking_weighPair 5 = .ok (.iload 5, 2)) ∧ (decode k_Ranking_weighPair 7 = .ok (.aload_n 0, 1))) ∧ ((decode k_Ranking_weighPair 8 = .ok (.getfield 35, 3)) ∧ (decode k_Ranking_weighPair 11 = .ok (.invokevirtual 90, 3))))) ∧ ((((decode k_Ranking_weighPair 14 = .ok (.iload 5, 2)) ∧ (decode k_Ranking_weighPair 16 = .ok (.iconst 2, 1))) ∧ ((decode k_Ranking_weighPair 17 = .ok (.if_icmp .eq 9, 3)) ∧ (decode k_Ranking_weighPair 20 = .ok (.iload 5, 2)))) ∧ (((decode k_Ranking_weighPair 22 = .ok (.iconst 3, 1)) ∧ (decode k_Ranking_weighPair 23 = .ok (.if_icmp .ne 42, 3))) ∧ ((decode k_Ranking_weighPair 26 = .ok (.aload_n 2, 1)) ∧ (decode k_Ranking_weighPair 27 = .ok (.aload_n 1, 1))))) := by decide +kernel
theorem D_Ranking_weighPair_1 : ((((decode k_Ranking_weighPair 28 = .ok (.iload 4, 2)) ∧ (decode k_Ranking_weighPair 30 = .ok (.iload_n 3, 1))) ∧ ((decode k_Ranking_weighPair 31 = .ok (.iload 5, 2)) ∧ (decode k_Ranking_weighPair 33 = .ok (.aload_n 0, 1)))) ∧ (((decode k_Ranking_weighPair 34 = .ok (.getfield 39, 3)) ∧ (decode k_Ranking_weighPair 37 = .ok (.invokevirtual 90, 3))) ∧ ((decode k_Ranking_weighPair 40 = .ok (.aload_n 0, 1)) ∧ (decode k_Ranking_weighPair 41 = .ok (.getfield 39, 3))))) ∧ ((((decode k_Ranking_weighPair 44 = .ok (.aload_n 0, 1)) ∧ (decode k_Ranking_weighPair 45 = .ok (.getfield 35, 3))) ∧ ((decode k_Ranking_weighPair 48 = .ok (.invokevirtual 96, 3)) ∧ (decode k_Ranking_weighPair 51 = .ok (.ifCond .ge 14, 3)))) ∧ (((decode k_Ranking_weighPair 54 = .ok (.aload_n 0, 1)) ∧ (decode k_Ranking_weighPair 55 = .ok (.getfield 35, 3))) ∧ ((decode k_Ranking_weighPair 58 = .ok (.aload_n 0, 1)) ∧ (decode k_Ranking_weighPair 59 = .ok (.getfield 39, 3))))) := by decide +kernel
theorem D_Ranking_weighPair_2 : (decode k_Ranking_weighPair 62 = .ok (.invokevirtual 100, 3)) ∧ (decode k_Ranking_weighPair 65 = .ok (.return_, 1)) := by decide +kernel
theorem D_Ranking_insert_0 : ((((decode k_Ranking_insert 0 = .ok (.aload_n 0, 1)) ∧ (decode k_Ranking_insert 1 = .ok (.getfield 9, 3))) ∧ ((decode k_Ranking_insert 4 = .ok (.istore_n 3, 1)) ∧ (decode k_Ranking_insert 5 = .ok (.iload_n 3, 1)))) ∧ (((decode k_Ranking_insert 6 = .ok (.ifCond .le 103, 3)) ∧ (decode k_Ranking_insert 9 = .ok (.aload_n 0, 1))) ∧ ((decode k_Ranking_insert 10 = .ok (.getfield 35, 3)) ∧ (decode k_Ranking_insert 13 = .ok (.iconst 0, 1))))) ∧ ((((decode k_Ranking_insert 14 = .ok (.invokevirtual 104, 3)) ∧ (decode k_Ranking_insert 17 = .ok (.aload_n 0, 1))) ∧ ((decode k_Ranking_insert 18 = .ok (.getfield 35, 3)) ∧ (decode k_Ranking_insert 21 = .ok (.iconst 1, 1)))) ∧ (((decode k_Ranking_insert 22 = .ok (.invokevirtual 104, 3)) ∧ (decode k_Ranking_insert 25 = .ok (.aload_n 0, 1))) ∧ ((decode k_Ranking_insert 26 = .ok (.getfield 25, 3)) ∧ (decode k_Ranking_insert 29 = .ok (.iload_n 3, 1))))) := by decide +kernel
theorem D_Ranking_insert_1 : ((((decode k_Ranking_insert 30 = .ok (.iconst 1, 1)) ∧ (decode k_Ranking_insert 31 = .ok (.isub, 1))) ∧ ((decode k_Ranking_insert 32 = .ok (.laload, 1)) ∧ (decode k_Ranking_insert 33 = .ok (.aload_n 0, 1)))) ∧ (((decode k_Ranking_insert 34 = .ok (.getfield 29, 3)) ∧ (decode k_Ranking_insert 37 = .ok (.iload_n 3, 1))) ∧ ((decode k_Ranking_insert 38 = .ok (.iconst 1, 1)) ∧ (decode k_Ranking_insert 39 = .ok (.isub, 1))))) ∧ ((((decode k_Ranking_insert 40 = .ok (.laload, 1)) ∧ (decode k_Ranking_insert 41 = .ok (.invokestatic 108, 3))) ∧ ((decode k_Ranking_insert 44 = .ok (.ifCond .ge 65, 3)) ∧ (decode k_Ranking_insert 47 = .ok (.aload_n 0, 1)))) ∧ (((decode k_Ranking_insert 48 = .ok (.getfield 18, 3)) ∧ (decode k_Ranking_insert 51 = .ok (.iload_n 3, 1))) ∧ ((decode k_Ranking_insert 52 = .ok (.aload_n 0, 1)) ∧ (decode k_Ranking_insert 53 = .ok (.getfield 18, 3))))) := by decide +kernel
theorem D_Ranking_insert_2 : ((((decode k_Ranking_insert 56 = .ok (.iload_n 3, 1)) ∧ (decode k_Ranking_insert 57 = .ok (.iconst 1, 1))) ∧ ((decode k_Ranking_insert 58 = .ok (.isub, 1)) ∧ (decode k_Ranking_insert 59 = .ok (.iaload, 1)))) ∧ (((decode k_Ranking_insert 60 = .ok (.iastore, 1)) ∧ (decode k_Ranking_insert 61 = .ok (.aload_n 0, 1))) ∧ ((decode k_Ranking_insert 62 = .ok (.getfield 22, 3)) ∧ (decode k_Ranking_insert 65 = .ok (.iload_n 3, 1))))) ∧ ((((decode k_Ranking_insert 66 = .ok (.aload_n 0, 1)) ∧ (decode k_Ranking_insert 67 = .ok (.getfield 22, 3))) ∧ ((decode k_Ranking_insert 70 = .ok (.iload_n 3, 1)) ∧ (decode k_Ranking_insert 71 = .ok (.iconst 1, 1)))) ∧ (((decode k_Ranking_insert 72 = .ok (.isub, 1)) ∧ (decode k_Ranking_insert 73 = .ok (.iaload, 1))) ∧ ((decode k_Ranking_insert 74 = .ok (.iastore, 1)) ∧ (decode k_Ranking_insert 75 = .ok (.aload_n 0, 1))))) := by decide +kernel
theorem D_Ranking_insert_3 : ((((decode k_Ranking_insert 76 = .ok (.getfield 25, 3)) ∧ (decode k_Ranking_insert 79 = .ok (.iload_n 3, 1))) ∧ ((decode k_Ranking_insert 80 = .ok (.aload_n 0, 1)) ∧ (decode k_Ranking_insert 81 = .ok (.getfield 25, 3)))) ∧ (((decode k_Ranking_insert 84 = .ok (.iload_n 3, 1)) ∧ (decode k_Ranking_insert 85 = .ok (.iconst 1, 1))) ∧ ((decode k_Ranking_insert 86 = .ok (.isub, 1)) ∧ (decode k_Ranking_insert 87 = .ok (.laload, 1))))) ∧ ((((decode k_Ranking_insert 88 = .ok (.lastore, 1)) ∧ (decode k_Ranking_insert 89 = .ok (.aload_n 0, 1))) ∧ ((decode k_Ranking_insert 90 = .ok (.getfield 29, 3)) ∧ (decode k_Ranking_insert 93 = .ok (.iload_n 3, 1)))) ∧ (((decode k_Ranking_insert 94 = .ok (.aload_n 0, 1)) ∧ (decode k_Ranking_insert 95 = .ok (.getfield 29, 3))) ∧ ((decode k_Ranking_insert 98 = .ok (.iload_n 3, 1)) ∧ (decode k_Ranking_insert 99 = .ok (.iconst 1, 1))))) := by decide +kernel
theorem D_Ranking_insert_4 : ((((decode k_Ranking_insert 100 = .ok (.isub, 1)) ∧ (decode k_Ranking_insert 101 = .ok (.laload, 1))) ∧ ((decode k_Ranking_insert 102 = .ok (.lastore, 1)) ∧ (decode k_Ranking_insert 103 = .ok (.iinc 3 (-1), 3)))) ∧ (((decode k_Ranking_insert 106 = .ok (.goto (-101), 3)) ∧ (decode k_Ranking_insert 109 = .ok (.aload_n 0, 1))) ∧ ((decode k_Ranking_insert 110 = .ok (.getfield 18, 3)) ∧ (decode k_Ranking_insert 113 = .ok (.iload_n 3, 1))))) ∧ ((((decode k_Ranking_insert 114 = .ok (.iload_n 1, 1)) ∧ (decode k_Ranking_insert 115 = .ok (.iastore, 1))) ∧ ((decode k_Ranking_insert 116 = .ok (.aload_n 0, 1)) ∧ (decode k_Ranking_insert 117 = .ok (.getfield 22, 3)))) ∧ (((decode k_Ranking_insert 120 = .ok (.iload_n 3, 1)) ∧ (decode k_Ranking_insert 121 = .ok (.iload_n 2, 1))) ∧ ((decode k_Ranking_insert 122 = .ok (.iastore, 1)) ∧ (decode k_Ranking_insert 123 = .ok (.aload_n 0, 1))))) := by decide +kernel
theorem D_Ranking_insert_5 : ((((decode k_Ranking_insert 124 = .ok (.getfield 25, 3)) ∧ (decode k_Ranking_insert 127 = .ok (.iload_n 3, 1))) ∧ ((decode k_Ranking_insert 128 = .ok (.aload_n 0, 1)) ∧ (decode k_Ranking_insert 129 = .ok (.getfield 35, 3)))) ∧ (((decode k_Ranking_insert 132 = .ok (.iconst 0, 1)) ∧ (decode k_Ranking_insert 133 = .ok (.invokevirtual 104, 3))) ∧ ((decode k_Ranking_insert 136 = .ok (.lastore, 1)) ∧ (decode k_Ranking_insert 137 = .ok (.aload_n 0, 1))))) ∧ ((((decode k_Ranking_insert 138 = .ok (.getfield 29, 3)) ∧ (decode k_Ranking_insert 141 = .ok (.iload_n 3, 1))) ∧ ((decode k_Ranking_insert 142 = .ok (.aload_n 0, 1)) ∧ (decode k_Ranking_insert 143 = .ok (.getfield 35, 3)))) ∧ (((decode k_Ranking_insert 146 = .ok (.iconst 1, 1)) ∧ (decode k_Ranking_insert 147 = .ok (.invokevirtual 104, 3))) ∧ ((decode k_Ranking_insert 150 = .ok (.lastore, 1)) ∧ (decode k_Ranking_insert 151 = .ok (.aload_n 0, 1))))) := by decide +kernel
theorem D_Ranking_insert_6 : ((decode k_Ranking_insert 152 = .ok (.dup, 1)) ∧ ((decode k_Ranking_insert 153 = .ok (.getfield 9, 3)) ∧ (decode k_Ranking_insert 156 = .ok (.iconst 1, 1)))) ∧ ((decode k_Ranking_insert 157 = .ok (.iadd, 1)) ∧ ((decode k_Ranking_insert 158 = .ok (.putfield 9, 3)) ∧ (decode k_Ranking_insert 161 = .ok (.return_, 1)))) := by decide +kernel
theorem D_Ranking_countSuspects_0 : ((((decode k_Ranking_countSuspects 0 = .ok (.iload_n 1, 1)) ∧ (decode k_Ranking_countSuspects 1 = .ok (.iconst 3, 1))) ∧ ((decode k_Ranking_countSuspects 2 = .ok (.if_icmp .ne 32, 3)) ∧ (decode k_Ranking_countSuspects 5 = .ok (.aload_n 0, 1)))) ∧ (((decode k_Ranking_countSuspects 6 = .ok (.getfield 9, 3)) ∧ (decode k_Ranking_countSuspects 9 = .ok (.istore_n 3, 1))) ∧ ((decode k_Ranking_countSuspects 10 = .ok (.iload_n 3, 1)) ∧ (decode k_Ranking_countSuspects 11 = .ok (.ifCond .le 21, 3))))) ∧ ((((decode k_Ranking_countSuspects 14 = .ok (.aload_n 0, 1)) ∧ (decode k_Ranking_countSuspects 15 = .ok (.iload_n 3, 1))) ∧ ((decode k_Ranking_countSuspects 16 = .ok (.iconst 1, 1)) ∧ (decode k_Ranking_countSuspects 17 = .ok (.isub, 1)))) ∧ (((decode k_Ranking_countSuspects 18 = .ok (.iload_n 1, 1)) ∧ (decode k_Ranking_countSuspects 19 = .ok (.iload_n 2, 1))) ∧ ((decode k_Ranking_countSuspects 20 = .ok (.invokevirtual 112, 3)) ∧ (decode k_Ranking_countSuspects 23 = .ok (.ifCond .ne 9, 3))))) := by decide +kernel
theorem D_Ranking_countSuspects_1 : ((((decode k_Ranking_countSuspects 26 = .ok (.iinc 3 (-1), 3)) ∧ (decode k_Ranking_countSuspects 29 = .ok (.goto (-19), 3))) ∧ ((decode k_Ranking_countSuspects 32 = .ok (.iload_n 3, 1)) ∧ (decode k_Ranking_countSuspects 33 = .ok (.ireturn, 1)))) ∧ (((decode k_Ranking_countSuspects 34 = .ok (.iconst 0, 1)) ∧ (decode k_Ranking_countSuspects 35 = .ok (.istore_n 3, 1))) ∧ ((decode k_Ranking_countSuspects 36 = .ok (.iload_n 3, 1)) ∧ (decode k_Ranking_countSuspects 37 = .ok (.aload_n 0, 1))))) ∧ ((((decode k_Ranking_countSuspects 38 = .ok (.getfield 9, 3)) ∧ (decode k_Ranking_countSuspects 41 = .ok (.if_icmp .ge 19, 3))) ∧ ((decode k_Ranking_countSuspects 44 = .ok (.aload_n 0, 1)) ∧ (decode k_Ranking_countSuspects 45 = .ok (.iload_n 3, 1)))) ∧ (((decode k_Ranking_countSuspects 46 = .ok (.iload_n 1, 1)) ∧ (decode k_Ranking_countSuspects 47 = .ok (.iload_n 2, 1))) ∧ ((decode k_Ranking_countSuspects 48 = .ok (.invokevirtual 112, 3)) ∧ (decode k_Ranking_countSuspects 51 = .ok (.ifCond .eq 9, 3))))) := by decide +kernel
theorem D_Ranking_countSuspects_2 : ((decode k_Ranking_countSuspects 54 = .ok (.iinc 3 1, 3)) ∧ (decode k_Ranking_countSuspects 57 = .ok (.goto (-21), 3))) ∧ ((decode k_Ranking_countSuspects 60 = .ok (.iload_n 3, 1)) ∧ (decode k_Ranking_countSuspects 61 = .ok (.ireturn, 1))) := by decide +kernel
theorem D_Ranking_holds_0 : ((((decode k_Ranking_holds 0 = .ok (.iconst 1, 1)) ∧ (decode k_Ranking_holds 1 = .ok (.istore 4, 2))) ∧ ((decode k_Ranking_holds 3 = .ok (.iconst 1, 1)) ∧ (decode k_Ranking_holds 4 = .ok (.istore 5, 2)))) ∧ (((decode k_Ranking_holds 6 = .ok (.iload_n 2, 1)) ∧ (decode k_Ranking_holds 7 = .ok (.tableswitch 48 0 2 #[25, 28, 37], 25))) ∧ ((decode k_Ranking_holds 32 = .ok (.goto 34, 3)) ∧ (decode k_Ranking_holds 35 = .ok (.aload_n 0, 1))))) ∧ ((((decode k_Ranking_holds 36 = .ok (.getfield 9, 3)) ∧ (decode k_Ranking_holds 39 = .ok (.istore 4, 2))) ∧ ((decode k_Ranking_holds 41 = .ok (.goto 25, 3)) ∧ (decode k_Ranking_holds 44 = .ok (.aload_n 0, 1)))) ∧ (((decode k_Ranking_holds 45 = .ok (.getfield 9, 3)) ∧ (decode k_Ranking_holds 48 = .ok (.iload_n 1, 1))) ∧ ((decode k_Ranking_holds 49 = .ok (.isub, 1)) ∧ (decode k_Ranking_holds 50 = .ok (.istore 4, 2))))) := by decide +kernel
theorem D_Ranking_holds_1 : ((((decode k_Ranking_holds 52 = .ok (.goto 14, 3)) ∧ (decode k_Ranking_holds 55 = .ok (.aload_n 0, 1))) ∧ ((decode k_Ranking_holds 56 = .ok (.getfield 9, 3)) ∧ (decode k_Ranking_holds 59 = .ok (.istore 4, 2)))) ∧ (((decode k_Ranking_holds 61 = .ok (.iload_n 1, 1)) ∧ (decode k_Ranking_holds 62 = .ok (.iconst 1, 1))) ∧ ((decode k_Ranking_holds 63 = .ok (.iadd, 1)) ∧ (decode k_Ranking_holds 64 = .ok (.istore 5, 2))))) ∧ ((((decode k_Ranking_holds 66 = .ok (.aload_n 0, 1)) ∧ (decode k_Ranking_holds 67 = .ok (.getfield 25, 3))) ∧ ((decode k_Ranking_holds 70 = .ok (.iload_n 1, 1)) ∧ (decode k_Ranking_holds 71 = .ok (.laload, 1)))) ∧ (((decode k_Ranking_holds 72 = .ok (.aload_n 0, 1)) ∧ (decode k_Ranking_holds 73 = .ok (.getfield 29, 3))) ∧ ((decode k_Ranking_holds 76 = .ok (.iload_n 1, 1)) ∧ (decode k_Ranking_holds 77 = .ok (.laload, 1))))) := by decide +kernel
theorem D_Ranking_holds_2 : (((decode k_Ranking_holds 78 = .ok (.iload_n 3, 1)) ∧ ((decode k_Ranking_holds 79 = .ok (.i2l, 1)) ∧ (decode k_Ranking_holds 80 = .ok (.iload 5, 2)))) ∧ (((decode k_Ranking_holds 82 = .ok (.i2l, 1)) ∧ (decode k_Ranking_holds 83 = .ok (.lmul, 1))) ∧ ((decode k_Ranking_holds 84 = .ok (.ldc2_w 116, 3)) ∧ (decode k_Ranking_holds 87 = .ok (.iload 4, 2))))) ∧ ((((decode k_Ranking_holds 89 = .ok (.i2l, 1)) ∧ (decode k_Ranking_holds 90 = .ok (.lmul, 1))) ∧ ((decode k_Ranking_holds 91 = .ok (.invokestatic 108, 3)) ∧ (decode k_Ranking_holds 94 = .ok (.ifCond .gt 7, 3)))) ∧ (((decode k_Ranking_holds 97 = .ok (.iconst 1, 1)) ∧ (decode k_Ranking_holds 98 = .ok (.goto 4, 3))) ∧ ((decode k_Ranking_holds 101 = .ok (.iconst 0, 1)) ∧ (decode k_Ranking_holds 102 = .ok (.ireturn, 1))))) := by decide +kernel
theorem D_Ratio_init_0 : (((decode k_Ratio_init 0 = .ok (.aload_n 0, 1)) ∧ (decode k_Ratio_init 1 = .ok (.invokespecial 1, 3))) ∧ ((decode k_Ratio_init 4 = .ok (.aload_n 0, 1)) ∧ (decode k_Ratio_init 5 = .ok (.lconst 0, 1)))) ∧ (((decode k_Ratio_init 6 = .ok (.putfield 7, 3)) ∧ (decode k_Ratio_init 9 = .ok (.aload_n 0, 1))) ∧ ((decode k_Ratio_init 10 = .ok (.lconst 1, 1)) ∧ ((decode k_Ratio_init 11 = .ok (.putfield 13, 3)) ∧ (decode k_Ratio_init 14 = .ok (.return_, 1))))) := by decide +kernel
theorem D_Ratio_put_0 : ((((decode k_Ratio_put 0 = .ok (.lload_n 1, 1)) ∧ (decode k_Ratio_put 1 = .ok (.lload_n 3, 1))) ∧ ((decode k_Ratio_put 2 = .ok (.invokestatic 16, 3)) ∧ (decode k_Ratio_put 5 = .ok (.lstore 5, 2)))) ∧ (((decode k_Ratio_put 7 = .ok (.lload 5, 2)) ∧ (decode k_Ratio_put 9 = .ok (.lconst 0, 1))) ∧ ((decode k_Ratio_put 10 = .ok (.lcmp, 1)) ∧ (decode k_Ratio_put 11 = .ok (.ifCond .le 19, 3))))) ∧ ((((decode k_Ratio_put 14 = .ok (.aload_n 0, 1)) ∧ (decode k_Ratio_put 15 = .ok (.lload_n 1, 1))) ∧ ((decode k_Ratio_put 16 = .ok (.lload 5, 2)) ∧ (decode k_Ratio_put 18 = .ok (.ldiv, 1)))) ∧ (((decode k_Ratio_put 19 = .ok (.putfield 7, 3)) ∧ (decode k_Ratio_put 22 = .ok (.aload_n 0, 1))) ∧ ((decode k_Ratio_put 23 = .ok (.lload_n 3, 1)) ∧ (decode k_Ratio_put 24 = .ok (.lload 5, 2))))) := by decide +kernel
theorem D_Ratio_put_1 : (decode k_Ratio_put 26 = .ok (.ldiv, 1)) ∧ ((decode k_Ratio_put 27 = .ok (.putfield 13, 3)) ∧ (decode k_Ratio_put 30 = .ok (.return_, 1))) := by decide +kernel
theorem D_Ratio_copy_0 : (((decode k_Ratio_copy 0 = .ok (.aload_n 0, 1)) ∧ (decode k_Ratio_copy 1 = .ok (.aload_n 1, 1))) ∧ ((decode k_Ratio_copy 2 = .ok (.getfield 7, 3)) ∧ (decode k_Ratio_copy 5 = .ok (.putfield 7, 3)))) ∧ (((decode k_Ratio_copy 8 = .ok (.aload_n 0, 1)) ∧ (decode k_Ratio_copy 9 = .ok (.aload_n 1, 1))) ∧ ((decode k_Ratio_copy 10 = .ok (.getfield 13, 3)) ∧ ((decode k_Ratio_copy 13 = .ok (.putfield 13, 3)) ∧ (decode k_Ratio_copy 16 = .ok (.return_, 1))))) := by decide +kernel
theorem D_Ratio_half_0 : (((decode k_Ratio_half 0 = .ok (.iload_n 1, 1)) ∧ (decode k_Ratio_half 1 = .ok (.ifCond .ne 10, 3))) ∧ ((decode k_Ratio_half 4 = .ok (.aload_n 0, 1)) ∧ (decode k_Ratio_half 5 = .ok (.getfield 7, 3)))) ∧ (((decode k_Ratio_half 8 = .ok (.goto 7, 3)) ∧ (decode k_Ratio_half 11 = .ok (.aload_n 0, 1))) ∧ ((decode k_Ratio_half 12 = .ok (.getfield 13, 3)) ∧ (decode k_Ratio_half 15 = .ok (.lreturn, 1)))) := by decide +kernel
theorem D_Ratio_against_0 : (((decode k_Ratio_against 0 = .ok (.aload_n 0, 1)) ∧ (decode k_Ratio_against 1 = .ok (.getfield 7, 3))) ∧ ((decode k_Ratio_against 4 = .ok (.aload_n 0, 1)) ∧ ((decode k_Ratio_against 5 = .ok (.getfield 13, 3)) ∧ (decode k_Ratio_against 8 = .ok (.aload_n 1, 1))))) ∧ (((decode k_Ratio_against 9 = .ok (.getfield 7, 3)) ∧ (decode k_Ratio_against 12 = .ok (.aload_n 1, 1))) ∧ ((decode k_Ratio_against 13 = .ok (.getfield 13, 3)) ∧ ((decode k_Ratio_against 16 = .ok (.invokestatic 20, 3)) ∧ (decode k_Ratio_against 19 = .ok (.ireturn, 1))))) := by decide +kernel
theorem D_Ratio_commonDivisor_0 : ((((decode k_Ratio_commonDivisor 0 = .ok (.iconst 0, 1)) ∧ (decode k_Ratio_commonDivisor 1 = .ok (.istore 4, 2))) ∧ ((decode k_Ratio_commonDivisor 3 = .ok (.iload 4, 2)) ∧ (decode k_Ratio_commonDivisor 5 = .ok (.sipush 1000, 3)))) ∧ (((decode k_Ratio_commonDivisor 8 = .ok (.if_icmp .ge 25, 3)) ∧ (decode k_Ratio_commonDivisor 11 = .ok (.lload_n 2, 1))) ∧ ((decode k_Ratio_commonDivisor 12 = .ok (.lconst 0, 1)) ∧ (decode k_Ratio_commonDivisor 13 = .ok (.lcmp, 1))))) ∧ ((((decode k_Ratio_commonDivisor 14 = .ok (.ifCond .eq 19, 3)) ∧ (decode k_Ratio_commonDivisor 17 = .ok (.lload_n 0, 1))) ∧ ((decode k_Ratio_commonDivisor 18 = .ok (.lload_n 2, 1)) ∧ (decode k_Ratio_commonDivisor 19 = .ok (.lrem, 1)))) ∧ (((decode k_Ratio_commonDivisor 20 = .ok (.lstore 5, 2)) ∧ (decode k_Ratio_commonDivisor 22 = .ok (.lload_n 2, 1))) ∧ ((decode k_Ratio_commonDivisor 23 = .ok (.lstore_n 0, 1)) ∧ (decode k_Ratio_commonDivisor 24 = .ok (.lload 5, 2))))) := by decide +kernel
theorem D_Ratio_commonDivisor_1 : ((decode k_Ratio_commonDivisor 26 = .ok (.lstore_n 2, 1)) ∧ (decode k_Ratio_commonDivisor 27 = .ok (.iinc 4 1, 3))) ∧ ((decode k_Ratio_commonDivisor 30 = .ok (.goto (-27), 3)) ∧ ((decode k_Ratio_commonDivisor 33 = .ok (.lload_n 0, 1)) ∧ (decode k_Ratio_commonDivisor 34 = .ok (.lreturn, 1)))) := by decide +kernel
theorem D_Ratio_compare_0 : ((((decode k_Ratio_compare 0 = .ok (.iconst 1, 1)) ∧ (decode k_Ratio_compare 1 = .ok (.istore 8, 2))) ∧ ((decode k_Ratio_compare 3 = .ok (.iconst 0, 1)) ∧ (decode k_Ratio_compare 4 = .ok (.istore 9, 2)))) ∧ (((decode k_Ratio_compare 6 = .ok (.iload 9, 2)) ∧ (decode k_Ratio_compare 8 = .ok (.sipush 1000, 3))) ∧ ((decode k_Ratio_compare 11 = .ok (.if_icmp .ge 95, 3)) ∧ (decode k_Ratio_compare 14 = .ok (.lload_n 2, 1))))) ∧ ((((decode k_Ratio_compare 15 = .ok (.lconst 0, 1)) ∧ (decode k_Ratio_compare 16 = .ok (.lcmp, 1))) ∧ ((decode k_Ratio_compare 17 = .ok (.ifCond .eq 89, 3)) ∧ (decode k_Ratio_compare 20 = .ok (.lload 6, 2)))) ∧ (((decode k_Ratio_compare 22 = .ok (.lconst 0, 1)) ∧ (decode k_Ratio_compare 23 = .ok (.lcmp, 1))) ∧ ((decode k_Ratio_compare 24 = .ok (.ifCond .eq 82, 3)) ∧ (decode k_Ratio_compare 27 = .ok (.lload_n 0, 1))))) := by decide +kernel
theorem D_Ratio_compare_1 : ((((decode k_Ratio_compare 28 = .ok (.lload_n 2, 1)) ∧ (decode k_Ratio_compare 29 = .ok (.ldiv, 1))) ∧ ((decode k_Ratio_compare 30 = .ok (.lstore 10, 2)) ∧ (decode k_Ratio_compare 32 = .ok (.lload 4, 2)))) ∧ (((decode k_Ratio_compare 34 = .ok (.lload 6, 2)) ∧ (decode k_Ratio_compare 36 = .ok (.ldiv, 1))) ∧ ((decode k_Ratio_compare 37 = .ok (.lstore 12, 2)) ∧ (decode k_Ratio_compare 39 = .ok (.lload 10, 2))))) ∧ ((((decode k_Ratio_compare 41 = .ok (.lload 12, 2)) ∧ (decode k_Ratio_compare 43 = .ok (.lcmp, 1))) ∧ ((decode k_Ratio_compare 44 = .ok (.ifCond .eq 20, 3)) ∧ (decode k_Ratio_compare 47 = .ok (.lload 10, 2)))) ∧ (((decode k_Ratio_compare 49 = .ok (.lload 12, 2)) ∧ (decode k_Ratio_compare 51 = .ok (.lcmp, 1))) ∧ ((decode k_Ratio_compare 52 = .ok (.ifCond .ge 9, 3)) ∧ (decode k_Ratio_compare 55 = .ok (.iload 8, 2))))) := by decide +kernel
theorem D_Ratio_compare_2 : ((((decode k_Ratio_compare 57 = .ok (.ineg, 1)) ∧ (decode k_Ratio_compare 58 = .ok (.goto 5, 3))) ∧ ((decode k_Ratio_compare 61 = .ok (.iload 8, 2)) ∧ (decode k_Ratio_compare 63 = .ok (.ireturn, 1)))) ∧ (((decode k_Ratio_compare 64 = .ok (.lload_n 0, 1)) ∧ (decode k_Ratio_compare 65 = .ok (.lload 10, 2))) ∧ ((decode k_Ratio_compare 67 = .ok (.lload_n 2, 1)) ∧ (decode k_Ratio_compare 68 = .ok (.lmul, 1))))) ∧ ((((decode k_Ratio_compare 69 = .ok (.lsub, 1)) ∧ (decode k_Ratio_compare 70 = .ok (.lstore 14, 2))) ∧ ((decode k_Ratio_compare 72 = .ok (.lload 4, 2)) ∧ (decode k_Ratio_compare 74 = .ok (.lload 12, 2)))) ∧ (((decode k_Ratio_compare 76 = .ok (.lload 6, 2)) ∧ (decode k_Ratio_compare 78 = .ok (.lmul, 1))) ∧ ((decode k_Ratio_compare 79 = .ok (.lsub, 1)) ∧ (decode k_Ratio_compare 80 = .ok (.lstore 16, 2))))) := by decide +kernel
theorem D_Ratio_compare_3 : ((((decode k_Ratio_compare 82 = .ok (.lload_n 2, 1)) ∧ (decode k_Ratio_compare 83 = .ok (.lstore_n 0, 1))) ∧ ((decode k_Ratio_compare 84 = .ok (.lload 14, 2)) ∧ (decode k_Ratio_compare 86 = .ok (.lstore_n 2, 1)))) ∧ (((decode k_Ratio_compare 87 = .ok (.lload 6, 2)) ∧ (decode k_Ratio_compare 89 = .ok (.lstore 4, 2))) ∧ ((decode k_Ratio_compare 91 = .ok (.lload 16, 2)) ∧ (decode k_Ratio_compare 93 = .ok (.lstore 6, 2))))) ∧ ((((decode k_Ratio_compare 95 = .ok (.iload 8, 2)) ∧ (decode k_Ratio_compare 97 = .ok (.ineg, 1))) ∧ ((decode k_Ratio_compare 98 = .ok (.istore 8, 2)) ∧ (decode k_Ratio_compare 100 = .ok (.iinc 9 1, 3)))) ∧ (((decode k_Ratio_compare 103 = .ok (.goto (-97), 3)) ∧ (decode k_Ratio_compare 106 = .ok (.lload_n 2, 1))) ∧ ((decode k_Ratio_compare 107 = .ok (.lconst 0, 1)) ∧ (decode k_Ratio_compare 108 = .ok (.lcmp, 1))))) := by decide +kernel
theorem D_Ratio_compare_4 : ((((decode k_Ratio_compare 109 = .ok (.ifCond .ne 12, 3)) ∧ (decode k_Ratio_compare 112 = .ok (.lload 6, 2))) ∧ ((decode k_Ratio_compare 114 = .ok (.lconst 0, 1)) ∧ (decode k_Ratio_compare 115 = .ok (.lcmp, 1)))) ∧ (((decode k_Ratio_compare 116 = .ok (.ifCond .ne 5, 3)) ∧ (decode k_Ratio_compare 119 = .ok (.iconst 0, 1))) ∧ ((decode k_Ratio_compare 120 = .ok (.ireturn, 1)) ∧ (decode k_Ratio_compare 121 = .ok (.lload_n 2, 1))))) ∧ ((((decode k_Ratio_compare 122 = .ok (.lconst 0, 1)) ∧ (decode k_Ratio_compare 123 = .ok (.lcmp, 1))) ∧ ((decode k_Ratio_compare 124 = .ok (.ifCond .ne 8, 3)) ∧ (decode k_Ratio_compare 127 = .ok (.iload 8, 2)))) ∧ (((decode k_Ratio_compare 129 = .ok (.goto 6, 3)) ∧ (decode k_Ratio_compare 132 = .ok (.iload 8, 2))) ∧ ((decode k_Ratio_compare 134 = .ok (.ineg, 1)) ∧ (decode k_Ratio_compare 135 = .ok (.ireturn, 1))))) := by decide +kernel
theorem D_Seating_init_0 : ((((decode k_Seating_init 0 = .ok (.aload_n 0, 1)) ∧ (decode k_Seating_init 1 = .ok (.invokespecial 1, 3))) ∧ ((decode k_Seating_init 4 = .ok (.aload_n 0, 1)) ∧ (decode k_Seating_init 5 = .ok (.iconst 0, 1)))) ∧ (((decode k_Seating_init 6 = .ok (.putfield 7, 3)) ∧ (decode k_Seating_init 9 = .ok (.aload_n 0, 1))) ∧ ((decode k_Seating_init 10 = .ok (.bipush 6, 2)) ∧ (decode k_Seating_init 12 = .ok (.newarray .int, 2))))) ∧ ((((decode k_Seating_init 14 = .ok (.putfield 13, 3)) ∧ (decode k_Seating_init 17 = .ok (.aload_n 0, 1))) ∧ ((decode k_Seating_init 18 = .ok (.bipush 6, 2)) ∧ (decode k_Seating_init 20 = .ok (.newarray .int, 2)))) ∧ (((decode k_Seating_init 22 = .ok (.putfield 17, 3)) ∧ (decode k_Seating_init 25 = .ok (.aload_n 0, 1))) ∧ ((decode k_Seating_init 26 = .ok (.bipush 6, 2)) ∧ (decode k_Seating_init 28 = .ok (.newarray .int, 2))))) := by decide +kernel
theorem D_Seating_init_1 : ((decode k_Seating_init 30 = .ok (.putfield 20, 3)) ∧ ((decode k_Seating_init 33 = .ok (.aload_n 0, 1)) ∧ (decode k_Seating_init 34 = .ok (.bipush 6, 2)))) ∧ ((decode k_Seating_init 36 = .ok (.newarray .int, 2)) ∧ ((decode k_Seating_init 38 = .ok (.putfield 23, 3)) ∧ (decode k_Seating_init 41 = .ok (.return_, 1)))) := by decide +kernel
theorem D_Seating_ways_0 : ((((decode k_Seating_ways 0 = .ok (.aload_n 0, 1)) ∧ (decode k_Seating_ways 1 = .ok (.aload_n 1, 1))) ∧ ((decode k_Seating_ways 2 = .ok (.invokevirtual 26, 3)) ∧ (decode k_Seating_ways 5 = .ok (.aload_n 0, 1)))) ∧ (((decode k_Seating_ways 6 = .ok (.aload_n 1, 1)) ∧ (decode k_Seating_ways 7 = .ok (.aload_n 2, 1))) ∧ ((decode k_Seating_ways 8 = .ok (.iload_n 3, 1)) ∧ (decode k_Seating_ways 9 = .ok (.invokevirtual 30, 3))))) ∧ ((((decode k_Seating_ways 12 = .ok (.aload_n 0, 1)) ∧ (decode k_Seating_ways 13 = .ok (.invokevirtual 34, 3))) ∧ ((decode k_Seating_ways 16 = .ok (.istore 5, 2)) ∧ (decode k_Seating_ways 18 = .ok (.iconst 0, 1)))) ∧ (((decode k_Seating_ways 19 = .ok (.istore 6, 2)) ∧ (decode k_Seating_ways 21 = .ok (.iconst 0, 1))) ∧ ((decode k_Seating_ways 22 = .ok (.istore 7, 2)) ∧ (decode k_Seating_ways 24 = .ok (.iconst 1, 1))))) := by decide +kernel
theorem D_Seating_ways_1 : ((((decode k_Seating_ways 25 = .ok (.istore 8, 2)) ∧ (decode k_Seating_ways 27 = .ok (.iload 8, 2))) ∧ ((decode k_Seating_ways 29 = .ok (.ifCond .eq 35, 3)) ∧ (decode k_Seating_ways 32 = .ok (.iload 6, 2)))) ∧ (((decode k_Seating_ways 34 = .ok (.sipush 720, 3)) ∧ (decode k_Seating_ways 37 = .ok (.if_icmp .ge 27, 3))) ∧ ((decode k_Seating_ways 40 = .ok (.iinc 6 1, 3)) ∧ (decode k_Seating_ways 43 = .ok (.aload_n 0, 1))))) ∧ ((((decode k_Seating_ways 44 = .ok (.invokevirtual 34, 3)) ∧ (decode k_Seating_ways 47 = .ok (.iload 5, 2))) ∧ ((decode k_Seating_ways 49 = .ok (.if_icmp .lt 6, 3)) ∧ (decode k_Seating_ways 52 = .ok (.iinc 7 1, 3)))) ∧ (((decode k_Seating_ways 55 = .ok (.aload_n 0, 1)) ∧ (decode k_Seating_ways 56 = .ok (.invokevirtual 38, 3))) ∧ ((decode k_Seating_ways 59 = .ok (.istore 8, 2)) ∧ (decode k_Seating_ways 61 = .ok (.goto (-34), 3))))) := by decide +kernel
theorem D_Seating_ways_2 : ((decode k_Seating_ways 64 = .ok (.aload 4, 2)) ∧ ((decode k_Seating_ways 66 = .ok (.iload 7, 2)) ∧ (decode k_Seating_ways 68 = .ok (.i2l, 1)))) ∧ (((decode k_Seating_ways 69 = .ok (.iload 6, 2)) ∧ (decode k_Seating_ways 71 = .ok (.i2l, 1))) ∧ ((decode k_Seating_ways 72 = .ok (.invokevirtual 42, 3)) ∧ (decode k_Seating_ways 75 = .ok (.return_, 1)))) := by decide +kernel
theorem D_Seating_gather_0 : ((((decode k_Seating_gather 0 = .ok (.aload_n 0, 1)) ∧ (decode k_Seating_gather 1 = .ok (.iconst 0, 1))) ∧ ((decode k_Seating_gather 2 = .ok (.putfield 7, 3)) ∧ (decode k_Seating_gather 5 = .ok (.iconst 0, 1)))) ∧ (((decode k_Seating_gather 6 = .ok (.istore_n 2, 1)) ∧ (decode k_Seating_gather 7 = .ok (.iload_n 2, 1))) ∧ ((decode k_Seating_gather 8 = .ok (.aload_n 1, 1)) ∧ (decode k_Seating_gather 9 = .ok (.getfield 48, 3))))) ∧ ((((decode k_Seating_gather 12 = .ok (.if_icmp .ge 59, 3)) ∧ (decode k_Seating_gather 15 = .ok (.aload_n 1, 1))) ∧ ((decode k_Seating_gather 16 = .ok (.iload_n 2, 1)) ∧ (decode k_Seating_gather 17 = .ok (.invokevirtual 53, 3)))) ∧ (((decode k_Seating_gather 20 = .ok (.ifCond .eq 45, 3)) ∧ (decode k_Seating_gather 23 = .ok (.aload_n 0, 1))) ∧ ((decode k_Seating_gather 24 = .ok (.getfield 7, 3)) ∧ (decode k_Seating_gather 27 = .ok (.bipush 6, 2))))) := by decide +kernel
theorem D_Seating_gather_1 : ((((decode k_Seating_gather 29 = .ok (.if_icmp .ge 36, 3)) ∧ (decode k_Seating_gather 32 = .ok (.aload_n 0, 1))) ∧ ((decode k_Seating_gather 33 = .ok (.getfield 13, 3)) ∧ (decode k_Seating_gather 36 = .ok (.aload_n 0, 1)))) ∧ (((decode k_Seating_gather 37 = .ok (.getfield 7, 3)) ∧ (decode k_Seating_gather 40 = .ok (.iload_n 2, 1))) ∧ ((decode k_Seating_gather 41 = .ok (.iastore, 1)) ∧ (decode k_Seating_gather 42 = .ok (.aload_n 0, 1))))) ∧ ((((decode k_Seating_gather 43 = .ok (.getfield 17, 3)) ∧ (decode k_Seating_gather 46 = .ok (.aload_n 0, 1))) ∧ ((decode k_Seating_gather 47 = .ok (.getfield 7, 3)) ∧ (decode k_Seating_gather 50 = .ok (.aload_n 0, 1)))) ∧ (((decode k_Seating_gather 51 = .ok (.getfield 7, 3)) ∧ (decode k_Seating_gather 54 = .ok (.iastore, 1))) ∧ ((decode k_Seating_gather 55 = .ok (.aload_n 0, 1)) ∧ (decode k_Seating_gather 56 = .ok (.dup, 1))))) := by decide +kernel
theorem D_Seating_gather_2 : ((decode k_Seating_gather 57 = .ok (.getfield 7, 3)) ∧ ((decode k_Seating_gather 60 = .ok (.iconst 1, 1)) ∧ (decode k_Seating_gather 61 = .ok (.iadd, 1)))) ∧ (((decode k_Seating_gather 62 = .ok (.putfield 7, 3)) ∧ (decode k_Seating_gather 65 = .ok (.iinc 2 1, 3))) ∧ ((decode k_Seating_gather 68 = .ok (.goto (-61), 3)) ∧ (decode k_Seating_gather 71 = .ok (.return_, 1)))) := by decide +kernel
theorem D_Seating_relate_0 : ((((decode k_Seating_relate 0 = .ok (.iconst 0, 1)) ∧ (decode k_Seating_relate 1 = .ok (.istore 4, 2))) ∧ ((decode k_Seating_relate 3 = .ok (.iload 4, 2)) ∧ (decode k_Seating_relate 5 = .ok (.aload_n 0, 1)))) ∧ (((decode k_Seating_relate 6 = .ok (.getfield 7, 3)) ∧ (decode k_Seating_relate 9 = .ok (.if_icmp .ge 128, 3))) ∧ ((decode k_Seating_relate 12 = .ok (.aload_n 0, 1)) ∧ (decode k_Seating_relate 13 = .ok (.getfield 20, 3))))) ∧ ((((decode k_Seating_relate 16 = .ok (.iload 4, 2)) ∧ (decode k_Seating_relate 18 = .ok (.iconst 0, 1))) ∧ ((decode k_Seating_relate 19 = .ok (.iastore, 1)) ∧ (decode k_Seating_relate 20 = .ok (.aload_n 0, 1)))) ∧ (((decode k_Seating_relate 21 = .ok (.getfield 23, 3)) ∧ (decode k_Seating_relate 24 = .ok (.iload 4, 2))) ∧ ((decode k_Seating_relate 26 = .ok (.iconst 0, 1)) ∧ (decode k_Seating_relate 27 = .ok (.iastore, 1))))) := by decide +kernel
theorem D_Seating_relate_1 : ((((decode k_Seating_relate 28 = .ok (.iconst 0, 1)) ∧ (decode k_Seating_relate 29 = .ok (.istore 5, 2))) ∧ ((decode k_Seating_relate 31 = .ok (.iload 5, 2)) ∧ (decode k_Seating_relate 33 = .ok (.aload_n 0, 1)))) ∧ (((decode k_Seating_relate 34 = .ok (.getfield 7, 3)) ∧ (decode k_Seating_relate 37 = .ok (.if_icmp .ge 94, 3))) ∧ ((decode k_Seating_relate 40 = .ok (.iload 5, 2)) ∧ (decode k_Seating_relate 42 = .ok (.iload 4, 2))))) ∧ ((((decode k_Seating_relate 44 = .ok (.if_icmp .eq 39, 3)) ∧ (decode k_Seating_relate 47 = .ok (.aload_n 1, 1))) ∧ ((decode k_Seating_relate 48 = .ok (.aload_n 0, 1)) ∧ (decode k_Seating_relate 49 = .ok (.getfield 13, 3)))) ∧ (((decode k_Seating_relate 52 = .ok (.iload 4, 2)) ∧ (decode k_Seating_relate 54 = .ok (.iaload, 1))) ∧ ((decode k_Seating_relate 55 = .ok (.aload_n 0, 1)) ∧ (decode k_Seating_relate 56 = .ok (.getfield 13, 3))))) := by decide +kernel
theorem D_Seating_relate_2 : ((((decode k_Seating_relate 59 = .ok (.iload 5, 2)) ∧ (decode k_Seating_relate 61 = .ok (.iaload, 1))) ∧ ((decode k_Seating_relate 62 = .ok (.iload_n 3, 1)) ∧ (decode k_Seating_relate 63 = .ok (.invokevirtual 57, 3)))) ∧ (((decode k_Seating_relate 66 = .ok (.ifCond .eq 17, 3)) ∧ (decode k_Seating_relate 69 = .ok (.aload_n 0, 1))) ∧ ((decode k_Seating_relate 70 = .ok (.getfield 20, 3)) ∧ (decode k_Seating_relate 73 = .ok (.iload 4, 2))))) ∧ ((((decode k_Seating_relate 75 = .ok (.dup2, 1)) ∧ (decode k_Seating_relate 76 = .ok (.iaload, 1))) ∧ ((decode k_Seating_relate 77 = .ok (.iconst 1, 1)) ∧ (decode k_Seating_relate 78 = .ok (.iload 5, 2)))) ∧ (((decode k_Seating_relate 80 = .ok (.ishl, 1)) ∧ (decode k_Seating_relate 81 = .ok (.ior, 1))) ∧ ((decode k_Seating_relate 82 = .ok (.iastore, 1)) ∧ (decode k_Seating_relate 83 = .ok (.iload 5, 2))))) := by decide +kernel
theorem D_Seating_relate_3 : ((((decode k_Seating_relate 85 = .ok (.iload 4, 2)) ∧ (decode k_Seating_relate 87 = .ok (.if_icmp .eq 38, 3))) ∧ ((decode k_Seating_relate 90 = .ok (.aload_n 2, 1)) ∧ (decode k_Seating_relate 91 = .ok (.aload_n 0, 1)))) ∧ (((decode k_Seating_relate 92 = .ok (.getfield 13, 3)) ∧ (decode k_Seating_relate 95 = .ok (.iload 4, 2))) ∧ ((decode k_Seating_relate 97 = .ok (.iaload, 1)) ∧ (decode k_Seating_relate 98 = .ok (.aload_n 0, 1))))) ∧ ((((decode k_Seating_relate 99 = .ok (.getfield 13, 3)) ∧ (decode k_Seating_relate 102 = .ok (.iload 5, 2))) ∧ ((decode k_Seating_relate 104 = .ok (.iaload, 1)) ∧ (decode k_Seating_relate 105 = .ok (.invokevirtual 61, 3)))) ∧ (((decode k_Seating_relate 108 = .ok (.ifCond .eq 17, 3)) ∧ (decode k_Seating_relate 111 = .ok (.aload_n 0, 1))) ∧ ((decode k_Seating_relate 112 = .ok (.getfield 23, 3)) ∧ (decode k_Seating_relate 115 = .ok (.iload 4, 2))))) := by decide +kernel
theorem D_Seating_relate_4 : (((decode k_Seating_relate 117 = .ok (.dup2, 1)) ∧ ((decode k_Seating_relate 118 = .ok (.iaload, 1)) ∧ (decode k_Seating_relate 119 = .ok (.iconst 1, 1)))) ∧ ((decode k_Seating_relate 120 = .ok (.iload 5, 2)) ∧ ((decode k_Seating_relate 122 = .ok (.ishl, 1)) ∧ (decode k_Seating_relate 123 = .ok (.ior, 1))))) ∧ (((decode k_Seating_relate 124 = .ok (.iastore, 1)) ∧ ((decode k_Seating_relate 125 = .ok (.iinc 5 1, 3)) ∧ (decode k_Seating_relate 128 = .ok (.goto (-97), 3)))) ∧ ((decode k_Seating_relate 131 = .ok (.iinc 4 1, 3)) ∧ ((decode k_Seating_relate 134 = .ok (.goto (-131), 3)) ∧ (decode k_Seating_relate 137 = .ok (.return_, 1))))) := by decide +kernel
theorem D_Seating_nearSuspects_0 : ((((decode k_Seating_nearSuspects 0 = .ok (.iconst 0, 1)) ∧ (decode k_Seating_nearSuspects 1 = .ok (.istore_n 1, 1))) ∧ ((decode k_Seating_nearSuspects 2 = .ok (.iconst 0, 1)) ∧ (decode k_Seating_nearSuspects 3 = .ok (.istore_n 2, 1)))) ∧ (((decode k_Seating_nearSuspects 4 = .ok (.iload_n 2, 1)) ∧ (decode k_Seating_nearSuspects 5 = .ok (.aload_n 0, 1))) ∧ ((decode k_Seating_nearSuspects 6 = .ok (.getfield 7, 3)) ∧ (decode k_Seating_nearSuspects 9 = .ok (.if_icmp .ge 66, 3))))) ∧ ((((decode k_Seating_nearSuspects 12 = .ok (.iload_n 2, 1)) ∧ (decode k_Seating_nearSuspects 13 = .ok (.iconst 1, 1))) ∧ ((decode k_Seating_nearSuspects 14 = .ok (.iadd, 1)) ∧ (decode k_Seating_nearSuspects 15 = .ok (.istore_n 3, 1)))) ∧ (((decode k_Seating_nearSuspects 16 = .ok (.iload_n 3, 1)) ∧ (decode k_Seating_nearSuspects 17 = .ok (.aload_n 0, 1))) ∧ ((decode k_Seating_nearSuspects 18 = .ok (.getfield 7, 3)) ∧ (decode k_Seating_nearSuspects 21 = .ok (.if_icmp .ge 48, 3))))) := by decide +kernel
theorem D_Seating_nearSuspects_1 : ((((decode k_Seating_nearSuspects 24 = .ok (.aload_n 0, 1)) ∧ (decode k_Seating_nearSuspects 25 = .ok (.getfield 23, 3))) ∧ ((decode k_Seating_nearSuspects 28 = .ok (.iload_n 2, 1)) ∧ (decode k_Seating_nearSuspects 29 = .ok (.iaload, 1)))) ∧ (((decode k_Seating_nearSuspects 30 = .ok (.iload_n 3, 1)) ∧ (decode k_Seating_nearSuspects 31 = .ok (.ishr, 1))) ∧ ((decode k_Seating_nearSuspects 32 = .ok (.iconst 1, 1)) ∧ (decode k_Seating_nearSuspects 33 = .ok (.iand, 1))))) ∧ ((((decode k_Seating_nearSuspects 34 = .ok (.ifCond .eq 29, 3)) ∧ (decode k_Seating_nearSuspects 37 = .ok (.aload_n 0, 1))) ∧ ((decode k_Seating_nearSuspects 38 = .ok (.getfield 20, 3)) ∧ (decode k_Seating_nearSuspects 41 = .ok (.aload_n 0, 1)))) ∧ (((decode k_Seating_nearSuspects 42 = .ok (.getfield 17, 3)) ∧ (decode k_Seating_nearSuspects 45 = .ok (.iload_n 2, 1))) ∧ ((decode k_Seating_nearSuspects 46 = .ok (.iaload, 1)) ∧ (decode k_Seating_nearSuspects 47 = .ok (.iaload, 1))))) := by decide +kernel
theorem D_Seating_nearSuspects_2 : (((decode k_Seating_nearSuspects 48 = .ok (.aload_n 0, 1)) ∧ ((decode k_Seating_nearSuspects 49 = .ok (.getfield 17, 3)) ∧ (decode k_Seating_nearSuspects 52 = .ok (.iload_n 3, 1)))) ∧ (((decode k_Seating_nearSuspects 53 = .ok (.iaload, 1)) ∧ (decode k_Seating_nearSuspects 54 = .ok (.ishr, 1))) ∧ ((decode k_Seating_nearSuspects 55 = .ok (.iconst 1, 1)) ∧ (decode k_Seating_nearSuspects 56 = .ok (.iand, 1))))) ∧ ((((decode k_Seating_nearSuspects 57 = .ok (.ifCond .eq 6, 3)) ∧ (decode k_Seating_nearSuspects 60 = .ok (.iinc 1 1, 3))) ∧ ((decode k_Seating_nearSuspects 63 = .ok (.iinc 3 1, 3)) ∧ (decode k_Seating_nearSuspects 66 = .ok (.goto (-50), 3)))) ∧ (((decode k_Seating_nearSuspects 69 = .ok (.iinc 2 1, 3)) ∧ (decode k_Seating_nearSuspects 72 = .ok (.goto (-68), 3))) ∧ ((decode k_Seating_nearSuspects 75 = .ok (.iload_n 1, 1)) ∧ (decode k_Seating_nearSuspects 76 = .ok (.ireturn, 1))))) := by decide +kernel
theorem D_Seating_nextWay_0 : ((((decode k_Seating_nextWay 0 = .ok (.aload_n 0, 1)) ∧ (decode k_Seating_nextWay 1 = .ok (.getfield 7, 3))) ∧ ((decode k_Seating_nextWay 4 = .ok (.iconst 2, 1)) ∧ (decode k_Seating_nextWay 5 = .ok (.isub, 1)))) ∧ (((decode k_Seating_nextWay 6 = .ok (.istore_n 1, 1)) ∧ (decode k_Seating_nextWay 7 = .ok (.iload_n 1, 1))) ∧ ((decode k_Seating_nextWay 8 = .ok (.ifCond .lt 26, 3)) ∧ (decode k_Seating_nextWay 11 = .ok (.aload_n 0, 1))))) ∧ ((((decode k_Seating_nextWay 12 = .ok (.getfield 17, 3)) ∧ (decode k_Seating_nextWay 15 = .ok (.iload_n 1, 1))) ∧ ((decode k_Seating_nextWay 16 = .ok (.iaload, 1)) ∧ (decode k_Seating_nextWay 17 = .ok (.aload_n 0, 1)))) ∧ (((decode k_Seating_nextWay 18 = .ok (.getfield 17, 3)) ∧ (decode k_Seating_nextWay 21 = .ok (.iload_n 1, 1))) ∧ ((decode k_Seating_nextWay 22 = .ok (.iconst 1, 1)) ∧ (decode k_Seating_nextWay 23 = .ok (.iadd, 1))))) := by decide +kernel
theorem D_Seating_nextWay_1 : ((((decode k_Seating_nextWay 24 = .ok (.iaload, 1)) ∧ (decode k_Seating_nextWay 25 = .ok (.if_icmp .le 9, 3))) ∧ ((decode k_Seating_nextWay 28 = .ok (.iinc 1 (-1), 3)) ∧ (decode k_Seating_nextWay 31 = .ok (.goto (-24), 3)))) ∧ (((decode k_Seating_nextWay 34 = .ok (.iload_n 1, 1)) ∧ (decode k_Seating_nextWay 35 = .ok (.ifCond .ge 5, 3))) ∧ ((decode k_Seating_nextWay 38 = .ok (.iconst 0, 1)) ∧ (decode k_Seating_nextWay 39 = .ok (.ireturn, 1))))) ∧ ((((decode k_Seating_nextWay 40 = .ok (.aload_n 0, 1)) ∧ (decode k_Seating_nextWay 41 = .ok (.getfield 7, 3))) ∧ ((decode k_Seating_nextWay 44 = .ok (.iconst 1, 1)) ∧ (decode k_Seating_nextWay 45 = .ok (.isub, 1)))) ∧ (((decode k_Seating_nextWay 46 = .ok (.istore_n 2, 1)) ∧ (decode k_Seating_nextWay 47 = .ok (.iload_n 2, 1))) ∧ ((decode k_Seating_nextWay 48 = .ok (.iload_n 1, 1)) ∧ (decode k_Seating_nextWay 49 = .ok (.if_icmp .le 24, 3))))) := by decide +kernel
theorem D_Seating_nextWay_2 : ((((decode k_Seating_nextWay 52 = .ok (.aload_n 0, 1)) ∧ (decode k_Seating_nextWay 53 = .ok (.getfield 17, 3))) ∧ ((decode k_Seating_nextWay 56 = .ok (.iload_n 2, 1)) ∧ (decode k_Seating_nextWay 57 = .ok (.iaload, 1)))) ∧ (((decode k_Seating_nextWay 58 = .ok (.aload_n 0, 1)) ∧ (decode k_Seating_nextWay 59 = .ok (.getfield 17, 3))) ∧ ((decode k_Seating_nextWay 62 = .ok (.iload_n 1, 1)) ∧ (decode k_Seating_nextWay 63 = .ok (.iaload, 1))))) ∧ ((((decode k_Seating_nextWay 64 = .ok (.if_icmp .ge 9, 3)) ∧ (decode k_Seating_nextWay 67 = .ok (.iinc 2 (-1), 3))) ∧ ((decode k_Seating_nextWay 70 = .ok (.goto (-23), 3)) ∧ (decode k_Seating_nextWay 73 = .ok (.aload_n 0, 1)))) ∧ (((decode k_Seating_nextWay 74 = .ok (.iload_n 1, 1)) ∧ (decode k_Seating_nextWay 75 = .ok (.iload_n 2, 1))) ∧ ((decode k_Seating_nextWay 76 = .ok (.invokevirtual 67, 3)) ∧ (decode k_Seating_nextWay 79 = .ok (.iload_n 1, 1))))) := by decide +kernel
theorem D_Seating_nextWay_3 : ((((decode k_Seating_nextWay 80 = .ok (.iconst 1, 1)) ∧ (decode k_Seating_nextWay 81 = .ok (.iadd, 1))) ∧ ((decode k_Seating_nextWay 82 = .ok (.istore_n 3, 1)) ∧ (decode k_Seating_nextWay 83 = .ok (.aload_n 0, 1)))) ∧ (((decode k_Seating_nextWay 84 = .ok (.getfield 7, 3)) ∧ (decode k_Seating_nextWay 87 = .ok (.iconst 1, 1))) ∧ ((decode k_Seating_nextWay 88 = .ok (.isub, 1)) ∧ (decode k_Seating_nextWay 89 = .ok (.istore 4, 2))))) ∧ ((((decode k_Seating_nextWay 91 = .ok (.iload_n 3, 1)) ∧ (decode k_Seating_nextWay 92 = .ok (.iload 4, 2))) ∧ ((decode k_Seating_nextWay 94 = .ok (.if_icmp .ge 19, 3)) ∧ (decode k_Seating_nextWay 97 = .ok (.aload_n 0, 1)))) ∧ (((decode k_Seating_nextWay 98 = .ok (.iload_n 3, 1)) ∧ (decode k_Seating_nextWay 99 = .ok (.iload 4, 2))) ∧ ((decode k_Seating_nextWay 101 = .ok (.invokevirtual 67, 3)) ∧ (decode k_Seating_nextWay 104 = .ok (.iinc 3 1, 3))))) := by decide +kernel
theorem D_Seating_nextWay_4 : ((decode k_Seating_nextWay 107 = .ok (.iinc 4 (-1), 3)) ∧ (decode k_Seating_nextWay 110 = .ok (.goto (-19), 3))) ∧ ((decode k_Seating_nextWay 113 = .ok (.iconst 1, 1)) ∧ (decode k_Seating_nextWay 114 = .ok (.ireturn, 1))) := by decide +kernel
theorem D_Seating_swap_0 : ((((decode k_Seating_swap 0 = .ok (.aload_n 0, 1)) ∧ (decode k_Seating_swap 1 = .ok (.getfield 17, 3))) ∧ ((decode k_Seating_swap 4 = .ok (.iload_n 1, 1)) ∧ (decode k_Seating_swap 5 = .ok (.iaload, 1)))) ∧ (((decode k_Seating_swap 6 = .ok (.istore_n 3, 1)) ∧ (decode k_Seating_swap 7 = .ok (.aload_n 0, 1))) ∧ ((decode k_Seating_swap 8 = .ok (.getfield 17, 3)) ∧ (decode k_Seating_swap 11 = .ok (.iload_n 1, 1))))) ∧ ((((decode k_Seating_swap 12 = .ok (.aload_n 0, 1)) ∧ (decode k_Seating_swap 13 = .ok (.getfield 17, 3))) ∧ ((decode k_Seating_swap 16 = .ok (.iload_n 2, 1)) ∧ (decode k_Seating_swap 17 = .ok (.iaload, 1)))) ∧ (((decode k_Seating_swap 18 = .ok (.iastore, 1)) ∧ (decode k_Seating_swap 19 = .ok (.aload_n 0, 1))) ∧ ((decode k_Seating_swap 20 = .ok (.getfield 17, 3)) ∧ (decode k_Seating_swap 23 = .ok (.iload_n 2, 1))))) := by decide +kernel
theorem D_Seating_swap_1 : (decode k_Seating_swap 24 = .ok (.iload_n 3, 1)) ∧ ((decode k_Seating_swap 25 = .ok (.iastore, 1)) ∧ (decode k_Seating_swap 26 = .ok (.return_, 1))) := by decide +kernel
theorem D_Tape_init_0 : (((decode k_Tape_init 0 = .ok (.aload_n 0, 1)) ∧ ((decode k_Tape_init 1 = .ok (.invokespecial 1, 3)) ∧ (decode k_Tape_init 4 = .ok (.aload_n 0, 1)))) ∧ ((decode k_Tape_init 5 = .ok (.iconst (-1), 1)) ∧ ((decode k_Tape_init 6 = .ok (.putfield 9, 3)) ∧ (decode k_Tape_init 9 = .ok (.aload_n 0, 1))))) ∧ (((decode k_Tape_init 10 = .ok (.iconst 0, 1)) ∧ ((decode k_Tape_init 11 = .ok (.putfield 13, 3)) ∧ (decode k_Tape_init 14 = .ok (.aload_n 0, 1)))) ∧ (((decode k_Tape_init 15 = .ok (.bipush 60, 2)) ∧ (decode k_Tape_init 17 = .ok (.newarray .long, 2))) ∧ ((decode k_Tape_init 19 = .ok (.putfield 16, 3)) ∧ (decode k_Tape_init 22 = .ok (.return_, 1))))) := by decide +kernel
theorem D_Tape_begin_0 : ((((decode k_Tape_begin 0 = .ok (.aload_n 0, 1)) ∧ (decode k_Tape_begin 1 = .ok (.iload_n 1, 1))) ∧ ((decode k_Tape_begin 2 = .ok (.putfield 9, 3)) ∧ (decode k_Tape_begin 5 = .ok (.aload_n 0, 1)))) ∧ (((decode k_Tape_begin 6 = .ok (.iload_n 2, 1)) ∧ (decode k_Tape_begin 7 = .ok (.putfield 13, 3))) ∧ ((decode k_Tape_begin 10 = .ok (.iconst 0, 1)) ∧ (decode k_Tape_begin 11 = .ok (.istore_n 3, 1))))) ∧ ((((decode k_Tape_begin 12 = .ok (.iload_n 3, 1)) ∧ (decode k_Tape_begin 13 = .ok (.bipush 60, 2))) ∧ ((decode k_Tape_begin 15 = .ok (.if_icmp .ge 16, 3)) ∧ (decode k_Tape_begin 18 = .ok (.aload_n 0, 1)))) ∧ (((decode k_Tape_begin 19 = .ok (.getfield 16, 3)) ∧ (decode k_Tape_begin 22 = .ok (.iload_n 3, 1))) ∧ ((decode k_Tape_begin 23 = .ok (.lconst 0, 1)) ∧ (decode k_Tape_begin 24 = .ok (.lastore, 1))))) := by decide +kernel
theorem D_Tape_begin_1 : (decode k_Tape_begin 25 = .ok (.iinc 3 1, 3)) ∧ ((decode k_Tape_begin 28 = .ok (.goto (-16), 3)) ∧ (decode k_Tape_begin 31 = .ok (.return_, 1))) := by decide +kernel
theorem D_Tape_holdsNothing_0 : (((decode k_Tape_holdsNothing 0 = .ok (.aload_n 0, 1)) ∧ (decode k_Tape_holdsNothing 1 = .ok (.getfield 9, 3))) ∧ ((decode k_Tape_holdsNothing 4 = .ok (.iconst (-1), 1)) ∧ (decode k_Tape_holdsNothing 5 = .ok (.if_icmp .ne 7, 3)))) ∧ (((decode k_Tape_holdsNothing 8 = .ok (.iconst 1, 1)) ∧ (decode k_Tape_holdsNothing 9 = .ok (.goto 4, 3))) ∧ ((decode k_Tape_holdsNothing 12 = .ok (.iconst 0, 1)) ∧ (decode k_Tape_holdsNothing 13 = .ok (.ireturn, 1)))) := by decide +kernel
theorem D_Tape_hasPlace_0 : (((decode k_Tape_hasPlace 0 = .ok (.iload_n 1, 1)) ∧ (decode k_Tape_hasPlace 1 = .ok (.ifCond .lt 15, 3))) ∧ ((decode k_Tape_hasPlace 4 = .ok (.iload_n 1, 1)) ∧ ((decode k_Tape_hasPlace 5 = .ok (.aload_n 0, 1)) ∧ (decode k_Tape_hasPlace 6 = .ok (.getfield 13, 3))))) ∧ (((decode k_Tape_hasPlace 9 = .ok (.if_icmp .ge 7, 3)) ∧ (decode k_Tape_hasPlace 12 = .ok (.iconst 1, 1))) ∧ ((decode k_Tape_hasPlace 13 = .ok (.goto 4, 3)) ∧ ((decode k_Tape_hasPlace 16 = .ok (.iconst 0, 1)) ∧ (decode k_Tape_hasPlace 17 = .ok (.ireturn, 1))))) := by decide +kernel
theorem D_Tape_hasPlaceBehind_0 : (((decode k_Tape_hasPlaceBehind 0 = .ok (.iload_n 1, 1)) ∧ ((decode k_Tape_hasPlaceBehind 1 = .ok (.ifCond .lt 17, 3)) ∧ (decode k_Tape_hasPlaceBehind 4 = .ok (.iload_n 1, 1)))) ∧ ((decode k_Tape_hasPlaceBehind 5 = .ok (.aload_n 0, 1)) ∧ ((decode k_Tape_hasPlaceBehind 6 = .ok (.getfield 13, 3)) ∧ (decode k_Tape_hasPlaceBehind 9 = .ok (.iload_n 2, 1))))) ∧ (((decode k_Tape_hasPlaceBehind 10 = .ok (.isub, 1)) ∧ ((decode k_Tape_hasPlaceBehind 11 = .ok (.if_icmp .ge 7, 3)) ∧ (decode k_Tape_hasPlaceBehind 14 = .ok (.iconst 1, 1)))) ∧ ((decode k_Tape_hasPlaceBehind 15 = .ok (.goto 4, 3)) ∧ ((decode k_Tape_hasPlaceBehind 18 = .ok (.iconst 0, 1)) ∧ (decode k_Tape_hasPlaceBehind 19 = .ok (.ireturn, 1))))) := by decide +kernel
theorem D_Tape_hasStretch_0 : ((((decode k_Tape_hasStretch 0 = .ok (.iload_n 2, 1)) ∧ (decode k_Tape_hasStretch 1 = .ok (.ifCond .lt 29, 3))) ∧ ((decode k_Tape_hasStretch 4 = .ok (.iload_n 2, 1)) ∧ (decode k_Tape_hasStretch 5 = .ok (.aload_n 0, 1)))) ∧ (((decode k_Tape_hasStretch 6 = .ok (.getfield 13, 3)) ∧ (decode k_Tape_hasStretch 9 = .ok (.if_icmp .gt 21, 3))) ∧ ((decode k_Tape_hasStretch 12 = .ok (.iload_n 1, 1)) ∧ (decode k_Tape_hasStretch 13 = .ok (.ifCond .lt 17, 3))))) ∧ ((((decode k_Tape_hasStretch 16 = .ok (.iload_n 1, 1)) ∧ (decode k_Tape_hasStretch 17 = .ok (.aload_n 0, 1))) ∧ ((decode k_Tape_hasStretch 18 = .ok (.getfield 13, 3)) ∧ (decode k_Tape_hasStretch 21 = .ok (.iload_n 2, 1)))) ∧ (((decode k_Tape_hasStretch 22 = .ok (.isub, 1)) ∧ (decode k_Tape_hasStretch 23 = .ok (.if_icmp .gt 7, 3))) ∧ ((decode k_Tape_hasStretch 26 = .ok (.iconst 1, 1)) ∧ (decode k_Tape_hasStretch 27 = .ok (.goto 4, 3))))) := by decide +kernel
theorem D_Tape_hasStretch_1 : (decode k_Tape_hasStretch 30 = .ok (.iconst 0, 1)) ∧ (decode k_Tape_hasStretch 31 = .ok (.ireturn, 1)) := by decide +kernel
theorem D_Tape_fitted_0 : ((((decode k_Tape_fitted 0 = .ok (.aload_n 0, 1)) ∧ (decode k_Tape_fitted 1 = .ok (.getfield 9, 3))) ∧ ((decode k_Tape_fitted 4 = .ok (.tableswitch 48 0 3 #[32, 37, 42, 46], 32)) ∧ (decode k_Tape_fitted 36 = .ok (.lload_n 1, 1)))) ∧ (((decode k_Tape_fitted 37 = .ok (.l2i, 1)) ∧ (decode k_Tape_fitted 38 = .ok (.i2b, 1))) ∧ ((decode k_Tape_fitted 39 = .ok (.i2l, 1)) ∧ (decode k_Tape_fitted 40 = .ok (.lreturn, 1))))) ∧ ((((decode k_Tape_fitted 41 = .ok (.lload_n 1, 1)) ∧ (decode k_Tape_fitted 42 = .ok (.l2i, 1))) ∧ ((decode k_Tape_fitted 43 = .ok (.i2s, 1)) ∧ (decode k_Tape_fitted 44 = .ok (.i2l, 1)))) ∧ (((decode k_Tape_fitted 45 = .ok (.lreturn, 1)) ∧ (decode k_Tape_fitted 46 = .ok (.lload_n 1, 1))) ∧ ((decode k_Tape_fitted 47 = .ok (.l2i, 1)) ∧ (decode k_Tape_fitted 48 = .ok (.i2l, 1))))) := by decide +kernel
theorem D_Tape_fitted_1 : (((decode k_Tape_fitted 49 = .ok (.lreturn, 1)) ∧ (decode k_Tape_fitted 50 = .ok (.lload_n 1, 1))) ∧ ((decode k_Tape_fitted 51 = .ok (.lreturn, 1)) ∧ ((decode k_Tape_fitted 52 = .ok (.lload_n 1, 1)) ∧ (decode k_Tape_fitted 53 = .ok (.lconst 0, 1))))) ∧ (((decode k_Tape_fitted 54 = .ok (.lcmp, 1)) ∧ ((decode k_Tape_fitted 55 = .ok (.ifCond .eq 7, 3)) ∧ (decode k_Tape_fitted 58 = .ok (.lconst 1, 1)))) ∧ ((decode k_Tape_fitted 59 = .ok (.goto 4, 3)) ∧ ((decode k_Tape_fitted 62 = .ok (.lconst 0, 1)) ∧ (decode k_Tape_fitted 63 = .ok (.lreturn, 1))))) := by decide +kernel
theorem D_Text_init_0 : (((decode k_Text_init 0 = .ok (.aload_n 0, 1)) ∧ (decode k_Text_init 1 = .ok (.invokespecial 3, 3))) ∧ ((decode k_Text_init 4 = .ok (.aload_n 0, 1)) ∧ ((decode k_Text_init 5 = .ok (.iconst 0, 1)) ∧ (decode k_Text_init 6 = .ok (.putfield 9, 3))))) ∧ (((decode k_Text_init 9 = .ok (.aload_n 0, 1)) ∧ (decode k_Text_init 10 = .ok (.bipush 60, 2))) ∧ ((decode k_Text_init 12 = .ok (.newarray .int, 2)) ∧ ((decode k_Text_init 14 = .ok (.putfield 15, 3)) ∧ (decode k_Text_init 17 = .ok (.return_, 1))))) := by decide +kernel
theorem D_Text_isFull_0 : (((decode k_Text_isFull 0 = .ok (.aload_n 0, 1)) ∧ (decode k_Text_isFull 1 = .ok (.getfield 9, 3))) ∧ ((decode k_Text_isFull 4 = .ok (.bipush 60, 2)) ∧ (decode k_Text_isFull 6 = .ok (.if_icmp .lt 7, 3)))) ∧ (((decode k_Text_isFull 9 = .ok (.iconst 1, 1)) ∧ (decode k_Text_isFull 10 = .ok (.goto 4, 3))) ∧ ((decode k_Text_isFull 13 = .ok (.iconst 0, 1)) ∧ (decode k_Text_isFull 14 = .ok (.ireturn, 1)))) := by decide +kernel
theorem D_Text_append_0 : (((decode k_Text_append 0 = .ok (.aload_n 0, 1)) ∧ ((decode k_Text_append 1 = .ok (.getfield 15, 3)) ∧ (decode k_Text_append 4 = .ok (.aload_n 0, 1)))) ∧ (((decode k_Text_append 5 = .ok (.getfield 9, 3)) ∧ (decode k_Text_append 8 = .ok (.iload_n 1, 1))) ∧ ((decode k_Text_append 9 = .ok (.iastore, 1)) ∧ (decode k_Text_append 10 = .ok (.aload_n 0, 1))))) ∧ ((((decode k_Text_append 11 = .ok (.dup, 1)) ∧ (decode k_Text_append 12 = .ok (.getfield 9, 3))) ∧ ((decode k_Text_append 15 = .ok (.iconst 1, 1)) ∧ (decode k_Text_append 16 = .ok (.iadd, 1)))) ∧ (((decode k_Text_append 17 = .ok (.putfield 9, 3)) ∧ (decode k_Text_append 20 = .ok (.aload_n 0, 1))) ∧ ((decode k_Text_append 21 = .ok (.getfield 9, 3)) ∧ (decode k_Text_append 24 = .ok (.ireturn, 1))))) := by decide +kernel
theorem D_Text_empty_0 : ((decode k_Text_empty 0 = .ok (.aload_n 0, 1)) ∧ (decode k_Text_empty 1 = .ok (.iconst 0, 1))) ∧ ((decode k_Text_empty 2 = .ok (.putfield 9, 3)) ∧ (decode k_Text_empty 5 = .ok (.return_, 1))) := by decide +kernel
theorem D_Text_examine_0 : ((((decode k_Text_examine 0 = .ok (.iconst 0, 1)) ∧ (decode k_Text_examine 1 = .ok (.istore_n 2, 1))) ∧ ((decode k_Text_examine 2 = .ok (.iconst (-1), 1)) ∧ (decode k_Text_examine 3 = .ok (.istore_n 3, 1)))) ∧ (((decode k_Text_examine 4 = .ok (.iconst 0, 1)) ∧ (decode k_Text_examine 5 = .ok (.istore 4, 2))) ∧ ((decode k_Text_examine 7 = .ok (.iload 4, 2)) ∧ (decode k_Text_examine 9 = .ok (.aload_n 0, 1))))) ∧ ((((decode k_Text_examine 10 = .ok (.getfield 9, 3)) ∧ (decode k_Text_examine 13 = .ok (.if_icmp .ge 96, 3))) ∧ ((decode k_Text_examine 16 = .ok (.aload_n 0, 1)) ∧ (decode k_Text_examine 17 = .ok (.getfield 15, 3)))) ∧ (((decode k_Text_examine 20 = .ok (.iload 4, 2)) ∧ (decode k_Text_examine 22 = .ok (.iaload, 1))) ∧ ((decode k_Text_examine 23 = .ok (.istore 5, 2)) ∧ (decode k_Text_examine 25 = .ok (.iload_n 3, 1))))) := by decide +kernel
theorem D_Text_examine_1 : ((((decode k_Text_examine 26 = .ok (.iconst (-1), 1)) ∧ (decode k_Text_examine 27 = .ok (.if_icmp .ne 23, 3))) ∧ ((decode k_Text_examine 30 = .ok (.aload_n 1, 1)) ∧ (decode k_Text_examine 31 = .ok (.iload 5, 2)))) ∧ (((decode k_Text_examine 33 = .ok (.bipush 48, 2)) ∧ (decode k_Text_examine 35 = .ok (.isub, 1))) ∧ ((decode k_Text_examine 36 = .ok (.invokevirtual 19, 3)) ∧ (decode k_Text_examine 39 = .ok (.ifCond .eq 11, 3))))) ∧ ((((decode k_Text_examine 42 = .ok (.iconst 0, 1)) ∧ (decode k_Text_examine 43 = .ok (.istore_n 3, 1))) ∧ ((decode k_Text_examine 44 = .ok (.iinc 2 1, 3)) ∧ (decode k_Text_examine 47 = .ok (.goto 56, 3)))) ∧ (((decode k_Text_examine 50 = .ok (.iload_n 3, 1)) ∧ (decode k_Text_examine 51 = .ok (.ifCond .lt 25, 3))) ∧ ((decode k_Text_examine 54 = .ok (.iload_n 3, 1)) ∧ (decode k_Text_examine 55 = .ok (.aload_n 1, 1))))) := by decide +kernel
theorem D_Text_examine_2 : ((((decode k_Text_examine 56 = .ok (.getfield 25, 3)) ∧ (decode k_Text_examine 59 = .ok (.if_icmp .ge 17, 3))) ∧ ((decode k_Text_examine 62 = .ok (.iload 5, 2)) ∧ (decode k_Text_examine 64 = .ok (.invokestatic 28, 3)))) ∧ (((decode k_Text_examine 67 = .ok (.ifCond .eq 9, 3)) ∧ (decode k_Text_examine 70 = .ok (.iinc 3 1, 3))) ∧ ((decode k_Text_examine 73 = .ok (.goto 30, 3)) ∧ (decode k_Text_examine 76 = .ok (.iload_n 3, 1))))) ∧ ((((decode k_Text_examine 77 = .ok (.ifCond .le 20, 3)) ∧ (decode k_Text_examine 80 = .ok (.iload 5, 2))) ∧ ((decode k_Text_examine 82 = .ok (.bipush 59, 2)) ∧ (decode k_Text_examine 84 = .ok (.if_icmp .ne 13, 3)))) ∧ (((decode k_Text_examine 87 = .ok (.iload_n 2, 1)) ∧ (decode k_Text_examine 88 = .ok (.iconst 4, 1))) ∧ ((decode k_Text_examine 89 = .ok (.if_icmp .ge 8, 3)) ∧ (decode k_Text_examine 92 = .ok (.iconst (-1), 1))))) := by decide +kernel
theorem D_Text_examine_3 : ((((decode k_Text_examine 93 = .ok (.istore_n 3, 1)) ∧ (decode k_Text_examine 94 = .ok (.goto 9, 3))) ∧ ((decode k_Text_examine 97 = .ok (.bipush (-10), 2)) ∧ (decode k_Text_examine 99 = .ok (.iload 4, 2)))) ∧ (((decode k_Text_examine 101 = .ok (.isub, 1)) ∧ (decode k_Text_examine 102 = .ok (.ireturn, 1))) ∧ ((decode k_Text_examine 103 = .ok (.iinc 4 1, 3)) ∧ (decode k_Text_examine 106 = .ok (.goto (-99), 3))))) ∧ ((((decode k_Text_examine 109 = .ok (.iload_n 3, 1)) ∧ (decode k_Text_examine 110 = .ok (.ifCond .le 7, 3))) ∧ ((decode k_Text_examine 113 = .ok (.iload_n 2, 1)) ∧ (decode k_Text_examine 114 = .ok (.goto 10, 3)))) ∧ (((decode k_Text_examine 117 = .ok (.bipush (-10), 2)) ∧ (decode k_Text_examine 119 = .ok (.aload_n 0, 1))) ∧ ((decode k_Text_examine 120 = .ok (.getfield 9, 3)) ∧ (decode k_Text_examine 123 = .ok (.isub, 1))))) := by decide +kernel
theorem D_Text_examine_4 : decode k_Text_examine 124 = .ok (.ireturn, 1) := by decide +kernel
theorem D_Text_tell_0 : ((((decode k_Text_tell 0 = .ok (.iconst (-1), 1)) ∧ (decode k_Text_tell 1 = .ok (.istore_n 2, 1))) ∧ ((decode k_Text_tell 2 = .ok (.iconst 0, 1)) ∧ (decode k_Text_tell 3 = .ok (.istore_n 3, 1)))) ∧ (((decode k_Text_tell 4 = .ok (.iconst 0, 1)) ∧ (decode k_Text_tell 5 = .ok (.istore 4, 2))) ∧ ((decode k_Text_tell 7 = .ok (.iload 4, 2)) ∧ (decode k_Text_tell 9 = .ok (.aload_n 0, 1))))) ∧ ((((decode k_Text_tell 10 = .ok (.getfield 9, 3)) ∧ (decode k_Text_tell 13 = .ok (.if_icmp .ge 89, 3))) ∧ ((decode k_Text_tell 16 = .ok (.aload_n 0, 1)) ∧ (decode k_Text_tell 17 = .ok (.getfield 15, 3)))) ∧ (((decode k_Text_tell 20 = .ok (.iload 4, 2)) ∧ (decode k_Text_tell 22 = .ok (.iaload, 1))) ∧ ((decode k_Text_tell 23 = .ok (.istore 5, 2)) ∧ (decode k_Text_tell 25 = .ok (.iload 5, 2))))) := by decide +kernel
theorem D_Text_tell_1 : ((((decode k_Text_tell 27 = .ok (.bipush 59, 2)) ∧ (decode k_Text_tell 29 = .ok (.if_icmp .ne 8, 3))) ∧ ((decode k_Text_tell 32 = .ok (.iconst (-1), 1)) ∧ (decode k_Text_tell 33 = .ok (.istore_n 2, 1)))) ∧ (((decode k_Text_tell 34 = .ok (.goto 62, 3)) ∧ (decode k_Text_tell 37 = .ok (.iload_n 2, 1))) ∧ ((decode k_Text_tell 38 = .ok (.iconst (-1), 1)) ∧ (decode k_Text_tell 39 = .ok (.if_icmp .ne 14, 3))))) ∧ ((((decode k_Text_tell 42 = .ok (.iload 5, 2)) ∧ (decode k_Text_tell 44 = .ok (.bipush 48, 2))) ∧ ((decode k_Text_tell 46 = .ok (.isub, 1)) ∧ (decode k_Text_tell 47 = .ok (.istore_n 2, 1)))) ∧ (((decode k_Text_tell 48 = .ok (.iconst 0, 1)) ∧ (decode k_Text_tell 49 = .ok (.istore_n 3, 1))) ∧ ((decode k_Text_tell 50 = .ok (.goto 46, 3)) ∧ (decode k_Text_tell 53 = .ok (.aload_n 1, 1))))) := by decide +kernel
theorem D_Text_tell_2 : ((((decode k_Text_tell 54 = .ok (.iload_n 2, 1)) ∧ (decode k_Text_tell 55 = .ok (.invokevirtual 19, 3))) ∧ ((decode k_Text_tell 58 = .ok (.ifCond .eq 38, 3)) ∧ (decode k_Text_tell 61 = .ok (.aload_n 1, 1)))) ∧ (((decode k_Text_tell 62 = .ok (.iload_n 3, 1)) ∧ (decode k_Text_tell 63 = .ok (.invokevirtual 31, 3))) ∧ ((decode k_Text_tell 66 = .ok (.ifCond .eq 30, 3)) ∧ (decode k_Text_tell 69 = .ok (.aload_n 1, 1))))) ∧ ((((decode k_Text_tell 70 = .ok (.getfield 34, 3)) ∧ (decode k_Text_tell 73 = .ok (.iload_n 2, 1))) ∧ ((decode k_Text_tell 74 = .ok (.aaload, 1)) ∧ (decode k_Text_tell 75 = .ok (.iload_n 3, 1)))) ∧ (((decode k_Text_tell 76 = .ok (.iload 5, 2)) ∧ (decode k_Text_tell 78 = .ok (.bipush 45, 2))) ∧ ((decode k_Text_tell 80 = .ok (.if_icmp .ne 7, 3)) ∧ (decode k_Text_tell 83 = .ok (.iconst (-1), 1))))) := by decide +kernel
theorem D_Text_tell_3 : (((decode k_Text_tell 84 = .ok (.goto 8, 3)) ∧ (decode k_Text_tell 87 = .ok (.iload 5, 2))) ∧ ((decode k_Text_tell 89 = .ok (.bipush 97, 2)) ∧ (decode k_Text_tell 91 = .ok (.isub, 1)))) ∧ (((decode k_Text_tell 92 = .ok (.iastore, 1)) ∧ (decode k_Text_tell 93 = .ok (.iinc 3 1, 3))) ∧ ((decode k_Text_tell 96 = .ok (.iinc 4 1, 3)) ∧ ((decode k_Text_tell 99 = .ok (.goto (-92), 3)) ∧ (decode k_Text_tell 102 = .ok (.return_, 1))))) := by decide +kernel
theorem D_Text_isLetter_0 : (((decode k_Text_isLetter 0 = .ok (.iload_n 0, 1)) ∧ ((decode k_Text_isLetter 1 = .ok (.bipush 45, 2)) ∧ (decode k_Text_isLetter 3 = .ok (.if_icmp .eq 15, 3)))) ∧ ((decode k_Text_isLetter 6 = .ok (.iload_n 0, 1)) ∧ ((decode k_Text_isLetter 7 = .ok (.bipush 97, 2)) ∧ (decode k_Text_isLetter 9 = .ok (.if_icmp .lt 13, 3))))) ∧ (((decode k_Text_isLetter 12 = .ok (.iload_n 0, 1)) ∧ ((decode k_Text_isLetter 13 = .ok (.bipush 100, 2)) ∧ (decode k_Text_isLetter 15 = .ok (.if_icmp .gt 7, 3)))) ∧ (((decode k_Text_isLetter 18 = .ok (.iconst 1, 1)) ∧ (decode k_Text_isLetter 19 = .ok (.goto 4, 3))) ∧ ((decode k_Text_isLetter 22 = .ok (.iconst 0, 1)) ∧ (decode k_Text_isLetter 23 = .ok (.ireturn, 1))))) := by decide +kernel
theorem D_Jint_bitCount_0 : ((((decode k_Jint_bitCount 0 = .ok (.iload_n 0, 1)) ∧ (decode k_Jint_bitCount 1 = .ok (.iload_n 0, 1))) ∧ ((decode k_Jint_bitCount 2 = .ok (.iconst 1, 1)) ∧ (decode k_Jint_bitCount 3 = .ok (.iushr, 1)))) ∧ (((decode k_Jint_bitCount 4 = .ok (.ldc_w 265, 3)) ∧ (decode k_Jint_bitCount 7 = .ok (.iand, 1))) ∧ ((decode k_Jint_bitCount 8 = .ok (.isub, 1)) ∧ (decode k_Jint_bitCount 9 = .ok (.istore_n 0, 1))))) ∧ ((((decode k_Jint_bitCount 10 = .ok (.iload_n 0, 1)) ∧ (decode k_Jint_bitCount 11 = .ok (.ldc_w 266, 3))) ∧ ((decode k_Jint_bitCount 14 = .ok (.iand, 1)) ∧ (decode k_Jint_bitCount 15 = .ok (.iload_n 0, 1)))) ∧ (((decode k_Jint_bitCount 16 = .ok (.iconst 2, 1)) ∧ (decode k_Jint_bitCount 17 = .ok (.iushr, 1))) ∧ ((decode k_Jint_bitCount 18 = .ok (.ldc_w 266, 3)) ∧ (decode k_Jint_bitCount 21 = .ok (.iand, 1))))) := by decide +kernel
theorem D_Jint_bitCount_1 : ((((decode k_Jint_bitCount 22 = .ok (.iadd, 1)) ∧ (decode k_Jint_bitCount 23 = .ok (.istore_n 0, 1))) ∧ ((decode k_Jint_bitCount 24 = .ok (.iload_n 0, 1)) ∧ (decode k_Jint_bitCount 25 = .ok (.iload_n 0, 1)))) ∧ (((decode k_Jint_bitCount 26 = .ok (.iconst 4, 1)) ∧ (decode k_Jint_bitCount 27 = .ok (.iushr, 1))) ∧ ((decode k_Jint_bitCount 28 = .ok (.iadd, 1)) ∧ (decode k_Jint_bitCount 29 = .ok (.ldc_w 267, 3))))) ∧ ((((decode k_Jint_bitCount 32 = .ok (.iand, 1)) ∧ (decode k_Jint_bitCount 33 = .ok (.istore_n 0, 1))) ∧ ((decode k_Jint_bitCount 34 = .ok (.iload_n 0, 1)) ∧ (decode k_Jint_bitCount 35 = .ok (.iload_n 0, 1)))) ∧ (((decode k_Jint_bitCount 36 = .ok (.bipush 8, 2)) ∧ (decode k_Jint_bitCount 38 = .ok (.iushr, 1))) ∧ ((decode k_Jint_bitCount 39 = .ok (.iadd, 1)) ∧ (decode k_Jint_bitCount 40 = .ok (.istore_n 0, 1))))) := by decide +kernel
theorem D_Jint_bitCount_2 : (((decode k_Jint_bitCount 41 = .ok (.iload_n 0, 1)) ∧ (decode k_Jint_bitCount 42 = .ok (.iload_n 0, 1))) ∧ ((decode k_Jint_bitCount 43 = .ok (.bipush 16, 2)) ∧ ((decode k_Jint_bitCount 45 = .ok (.iushr, 1)) ∧ (decode k_Jint_bitCount 46 = .ok (.iadd, 1))))) ∧ (((decode k_Jint_bitCount 47 = .ok (.istore_n 0, 1)) ∧ (decode k_Jint_bitCount 48 = .ok (.iload_n 0, 1))) ∧ ((decode k_Jint_bitCount 49 = .ok (.bipush 63, 2)) ∧ ((decode k_Jint_bitCount 51 = .ok (.iand, 1)) ∧ (decode k_Jint_bitCount 52 = .ok (.ireturn, 1))))) := by decide +kernel
end
