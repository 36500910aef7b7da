-- ===== PART A: goes FIRST, ahead of the names: the tables' words, and 'selects' of the private methods out of them =====
/-- a private method of a class that the tables say can be made, by its rows of tables_1 -/
def lw_okq (q : MethodName × Nat) : Prop := (q.1.cls ≠ "java/lang/invoke/MethodHandle" ∧ q.1.cls ≠ "java/lang/invoke/VarHandle") ∧ Cond.instantiable q.1.cls q.2 ∈ tables_1 ∧ Cond.privateMethod q.1 ∈ tables_1 ∧ Cond.instanceMethod q.1 ∈ tables_1
theorem lw_p0 : lw_okq (⟨"CopyBench$Odds", "learn", "(LCopyBench$Exam;III)V"⟩, 9) := ⟨⟨by decide +kernel, by decide +kernel⟩, List.mem_of_getElem? (i := 142) (by decide +kernel), List.mem_of_getElem? (i := 486) (by decide +kernel), List.mem_of_getElem? (i := 487) (by decide +kernel)⟩
theorem lw_p1 : lw_okq (⟨"CopyBench$Odds", "weigh", "(LCopyBench$Exam;IIII)V"⟩, 9) := ⟨⟨by decide +kernel, by decide +kernel⟩, List.mem_of_getElem? (i := 142) (by decide +kernel), List.mem_of_getElem? (i := 526) (by decide +kernel), List.mem_of_getElem? (i := 527) (by decide +kernel)⟩
theorem lw_p2 : lw_okq (⟨"CopyBench$Odds", "put", "(JJJ)V"⟩, 9) := ⟨⟨by decide +kernel, by decide +kernel⟩, List.mem_of_getElem? (i := 142) (by decide +kernel), List.mem_of_getElem? (i := 530) (by decide +kernel), List.mem_of_getElem? (i := 531) (by decide +kernel)⟩
theorem lw_p3 : lw_okq (⟨"CopyBench$Odds", "addItem", "(III)V"⟩, 9) := ⟨⟨by decide +kernel, by decide +kernel⟩, List.mem_of_getElem? (i := 142) (by decide +kernel), List.mem_of_getElem? (i := 540) (by decide +kernel), List.mem_of_getElem? (i := 541) (by decide +kernel)⟩
theorem lw_p4 : lw_okq (⟨"CopyBench", "rankNow", "()V"⟩, 13) := ⟨⟨by decide +kernel, by decide +kernel⟩, List.mem_of_getElem? (i := 16) (by decide +kernel), List.mem_of_getElem? (i := 614) (by decide +kernel), List.mem_of_getElem? (i := 615) (by decide +kernel)⟩
theorem lw_p5 : lw_okq (⟨"CopyBench$Ranking", "weighPair", "(LCopyBench$Exam;LCopyBench$Odds;III)V"⟩, 8) := ⟨⟨by decide +kernel, by decide +kernel⟩, List.mem_of_getElem? (i := 194) (by decide +kernel), List.mem_of_getElem? (i := 626) (by decide +kernel), List.mem_of_getElem? (i := 627) (by decide +kernel)⟩
theorem lw_p6 : lw_okq (⟨"CopyBench$Ranking", "insert", "(II)V"⟩, 8) := ⟨⟨by decide +kernel, by decide +kernel⟩, List.mem_of_getElem? (i := 194) (by decide +kernel), List.mem_of_getElem? (i := 634) (by decide +kernel), List.mem_of_getElem? (i := 635) (by decide +kernel)⟩
theorem lw_p7 : lw_okq (⟨"CopyBench$Ranking", "countSuspects", "(II)I"⟩, 8) := ⟨⟨by decide +kernel, by decide +kernel⟩, List.mem_of_getElem? (i := 194) (by decide +kernel), List.mem_of_getElem? (i := 640) (by decide +kernel), List.mem_of_getElem? (i := 641) (by decide +kernel)⟩
theorem lw_p8 : lw_okq (⟨"CopyBench$Ranking", "holds", "(III)Z"⟩, 8) := ⟨⟨by decide +kernel, by decide +kernel⟩, List.mem_of_getElem? (i := 194) (by decide +kernel), List.mem_of_getElem? (i := 644) (by decide +kernel), List.mem_of_getElem? (i := 645) (by decide +kernel)⟩
theorem lw_p9 : lw_okq (⟨"CopyBench", "linkNow", "()V"⟩, 13) := ⟨⟨by decide +kernel, by decide +kernel⟩, List.mem_of_getElem? (i := 16) (by decide +kernel), List.mem_of_getElem? (i := 650) (by decide +kernel), List.mem_of_getElem? (i := 651) (by decide +kernel)⟩
theorem lw_p10 : lw_okq (⟨"CopyBench$Links", "isGroup", "(I)Z"⟩, 1) := ⟨⟨by decide +kernel, by decide +kernel⟩, List.mem_of_getElem? (i := 235) (by decide +kernel), List.mem_of_getElem? (i := 662) (by decide +kernel), List.mem_of_getElem? (i := 663) (by decide +kernel)⟩
theorem lw_p11 : lw_okq (⟨"CopyBench$Seating", "gather", "(LCopyBench$Exam;)V"⟩, 5) := ⟨⟨by decide +kernel, by decide +kernel⟩, List.mem_of_getElem? (i := 246) (by decide +kernel), List.mem_of_getElem? (i := 727) (by decide +kernel), List.mem_of_getElem? (i := 728) (by decide +kernel)⟩
theorem lw_p12 : lw_okq (⟨"CopyBench$Seating", "relate", "(LCopyBench$Exam;LCopyBench$Links;I)V"⟩, 5) := ⟨⟨by decide +kernel, by decide +kernel⟩, List.mem_of_getElem? (i := 246) (by decide +kernel), List.mem_of_getElem? (i := 732) (by decide +kernel), List.mem_of_getElem? (i := 733) (by decide +kernel)⟩
theorem lw_p13 : lw_okq (⟨"CopyBench$Seating", "nearSuspects", "()I"⟩, 5) := ⟨⟨by decide +kernel, by decide +kernel⟩, List.mem_of_getElem? (i := 246) (by decide +kernel), List.mem_of_getElem? (i := 741) (by decide +kernel), List.mem_of_getElem? (i := 742) (by decide +kernel)⟩
theorem lw_p14 : lw_okq (⟨"CopyBench$Seating", "nextWay", "()Z"⟩, 5) := ⟨⟨by decide +kernel, by decide +kernel⟩, List.mem_of_getElem? (i := 246) (by decide +kernel), List.mem_of_getElem? (i := 745) (by decide +kernel), List.mem_of_getElem? (i := 746) (by decide +kernel)⟩
theorem lw_p15 : lw_okq (⟨"CopyBench$Seating", "swap", "(II)V"⟩, 5) := ⟨⟨by decide +kernel, by decide +kernel⟩, List.mem_of_getElem? (i := 246) (by decide +kernel), List.mem_of_getElem? (i := 749) (by decide +kernel), List.mem_of_getElem? (i := 750) (by decide +kernel)⟩
def lw_privs_1 : List (MethodName × Nat) := [(⟨"CopyBench$Odds", "learn", "(LCopyBench$Exam;III)V"⟩, 9), (⟨"CopyBench$Odds", "weigh", "(LCopyBench$Exam;IIII)V"⟩, 9), (⟨"CopyBench$Odds", "put", "(JJJ)V"⟩, 9), (⟨"CopyBench$Odds", "addItem", "(III)V"⟩, 9), (⟨"CopyBench", "rankNow", "()V"⟩, 13), (⟨"CopyBench$Ranking", "weighPair", "(LCopyBench$Exam;LCopyBench$Odds;III)V"⟩, 8), (⟨"CopyBench$Ranking", "insert", "(II)V"⟩, 8), (⟨"CopyBench$Ranking", "countSuspects", "(II)I"⟩, 8), (⟨"CopyBench$Ranking", "holds", "(III)Z"⟩, 8), (⟨"CopyBench", "linkNow", "()V"⟩, 13), (⟨"CopyBench$Links", "isGroup", "(I)Z"⟩, 1), (⟨"CopyBench$Seating", "gather", "(LCopyBench$Exam;)V"⟩, 5), (⟨"CopyBench$Seating", "relate", "(LCopyBench$Exam;LCopyBench$Links;I)V"⟩, 5), (⟨"CopyBench$Seating", "nearSuspects", "()I"⟩, 5), (⟨"CopyBench$Seating", "nextWay", "()Z"⟩, 5), (⟨"CopyBench$Seating", "swap", "(II)V"⟩, 5)]
theorem lw_r1 : ∀ q ∈ lw_privs_1, lw_okq q := List.forall_mem_cons.mpr ⟨lw_p0, List.forall_mem_cons.mpr ⟨lw_p1, List.forall_mem_cons.mpr ⟨lw_p2, List.forall_mem_cons.mpr ⟨lw_p3, List.forall_mem_cons.mpr ⟨lw_p4, List.forall_mem_cons.mpr ⟨lw_p5, List.forall_mem_cons.mpr ⟨lw_p6, List.forall_mem_cons.mpr ⟨lw_p7, List.forall_mem_cons.mpr ⟨lw_p8, List.forall_mem_cons.mpr ⟨lw_p9, List.forall_mem_cons.mpr ⟨lw_p10, List.forall_mem_cons.mpr ⟨lw_p11, List.forall_mem_cons.mpr ⟨lw_p12, List.forall_mem_cons.mpr ⟨lw_p13, List.forall_mem_cons.mpr ⟨lw_p14, List.forall_mem_cons.mpr ⟨lw_p15, fun _ h => absurd h List.not_mem_nil⟩⟩⟩⟩⟩⟩⟩⟩⟩⟩⟩⟩⟩⟩⟩⟩
theorem lw_p16 : lw_okq (⟨"CopyBench$Draws", "anAnswer", "(LCopyBench$Odds;)I"⟩, 1) := ⟨⟨by decide +kernel, by decide +kernel⟩, List.mem_of_getElem? (i := 268) (by decide +kernel), List.mem_of_getElem? (i := 764) (by decide +kernel), List.mem_of_getElem? (i := 765) (by decide +kernel)⟩
theorem lw_p17 : lw_okq (⟨"CopyBench$Draws", "below", "(I)I"⟩, 1) := ⟨⟨by decide +kernel, by decide +kernel⟩, List.mem_of_getElem? (i := 268) (by decide +kernel), List.mem_of_getElem? (i := 768) (by decide +kernel), List.mem_of_getElem? (i := 769) (by decide +kernel)⟩
theorem lw_p18 : lw_okq (⟨"CopyBench$Exam", "follow", "(III)V"⟩, 17) := ⟨⟨by decide +kernel, by decide +kernel⟩, List.mem_of_getElem? (i := 24) (by decide +kernel), List.mem_of_getElem? (i := 836) (by decide +kernel), List.mem_of_getElem? (i := 837) (by decide +kernel)⟩
theorem lw_p19 : lw_okq (⟨"CopyBenchModel", "begins", "()V"⟩, 47) := ⟨⟨by decide +kernel, by decide +kernel⟩, List.mem_of_getElem? (i := 905) (by decide +kernel), List.mem_of_getElem? (i := 913) (by decide +kernel), List.mem_of_getElem? (i := 914) (by decide +kernel)⟩
theorem lw_p20 : lw_okq (⟨"CopyBenchModel", "passesAll", "(Z)I"⟩, 47) := ⟨⟨by decide +kernel, by decide +kernel⟩, List.mem_of_getElem? (i := 905) (by decide +kernel), List.mem_of_getElem? (i := 1063) (by decide +kernel), List.mem_of_getElem? (i := 1064) (by decide +kernel)⟩
theorem lw_p21 : lw_okq (⟨"CopyBenchModel", "passes", "(I)I"⟩, 47) := ⟨⟨by decide +kernel, by decide +kernel⟩, List.mem_of_getElem? (i := 905) (by decide +kernel), List.mem_of_getElem? (i := 1067) (by decide +kernel), List.mem_of_getElem? (i := 1068) (by decide +kernel)⟩
theorem lw_p22 : lw_okq (⟨"CopyBenchModel", "passesRow", "([I)V"⟩, 47) := ⟨⟨by decide +kernel, by decide +kernel⟩, List.mem_of_getElem? (i := 905) (by decide +kernel), List.mem_of_getElem? (i := 1071) (by decide +kernel), List.mem_of_getElem? (i := 1072) (by decide +kernel)⟩
theorem lw_p23 : lw_okq (⟨"CopyBenchModel", "isItem", "(I)Z"⟩, 47) := ⟨⟨by decide +kernel, by decide +kernel⟩, List.mem_of_getElem? (i := 905) (by decide +kernel), List.mem_of_getElem? (i := 1091) (by decide +kernel), List.mem_of_getElem? (i := 1092) (by decide +kernel)⟩
theorem lw_p24 : lw_okq (⟨"CopyBenchModel", "isOne", "(I)Z"⟩, 47) := ⟨⟨by decide +kernel, by decide +kernel⟩, List.mem_of_getElem? (i := 905) (by decide +kernel), List.mem_of_getElem? (i := 1112) (by decide +kernel), List.mem_of_getElem? (i := 1113) (by decide +kernel)⟩
theorem lw_p25 : lw_okq (⟨"CopyBenchModel", "goesThrough", "(Z)V"⟩, 47) := ⟨⟨by decide +kernel, by decide +kernel⟩, List.mem_of_getElem? (i := 905) (by decide +kernel), List.mem_of_getElem? (i := 1134) (by decide +kernel), List.mem_of_getElem? (i := 1135) (by decide +kernel)⟩
theorem lw_p26 : lw_okq (⟨"CopyBenchModel", "clause", "(Z)V"⟩, 47) := ⟨⟨by decide +kernel, by decide +kernel⟩, List.mem_of_getElem? (i := 905) (by decide +kernel), List.mem_of_getElem? (i := 1138) (by decide +kernel), List.mem_of_getElem? (i := 1139) (by decide +kernel)⟩
theorem lw_p27 : lw_okq (⟨"CopyBenchModel", "here", "()I"⟩, 47) := ⟨⟨by decide +kernel, by decide +kernel⟩, List.mem_of_getElem? (i := 905) (by decide +kernel), List.mem_of_getElem? (i := 1142) (by decide +kernel), List.mem_of_getElem? (i := 1143) (by decide +kernel)⟩
theorem lw_p28 : lw_okq (⟨"CopyBenchModel", "gave", "(IZ)I"⟩, 47) := ⟨⟨by decide +kernel, by decide +kernel⟩, List.mem_of_getElem? (i := 905) (by decide +kernel), List.mem_of_getElem? (i := 1167) (by decide +kernel), List.mem_of_getElem? (i := 1168) (by decide +kernel)⟩
theorem lw_p29 : lw_okq (⟨"CopyBenchModel", "givers", "(I)I"⟩, 47) := ⟨⟨by decide +kernel, by decide +kernel⟩, List.mem_of_getElem? (i := 905) (by decide +kernel), List.mem_of_getElem? (i := 1175) (by decide +kernel), List.mem_of_getElem? (i := 1176) (by decide +kernel)⟩
theorem lw_p30 : lw_okq (⟨"CopyBenchModel", "gavers", "(IIII)I"⟩, 47) := ⟨⟨by decide +kernel, by decide +kernel⟩, List.mem_of_getElem? (i := 905) (by decide +kernel), List.mem_of_getElem? (i := 1179) (by decide +kernel), List.mem_of_getElem? (i := 1180) (by decide +kernel)⟩
theorem lw_p31 : lw_okq (⟨"CopyBenchModel", "likedWrong", "(I)I"⟩, 47) := ⟨⟨by decide +kernel, by decide +kernel⟩, List.mem_of_getElem? (i := 905) (by decide +kernel), List.mem_of_getElem? (i := 1183) (by decide +kernel), List.mem_of_getElem? (i := 1184) (by decide +kernel)⟩
def lw_privs_2 : List (MethodName × Nat) := [(⟨"CopyBench$Draws", "anAnswer", "(LCopyBench$Odds;)I"⟩, 1), (⟨"CopyBench$Draws", "below", "(I)I"⟩, 1), (⟨"CopyBench$Exam", "follow", "(III)V"⟩, 17), (⟨"CopyBenchModel", "begins", "()V"⟩, 47), (⟨"CopyBenchModel", "passesAll", "(Z)I"⟩, 47), (⟨"CopyBenchModel", "passes", "(I)I"⟩, 47), (⟨"CopyBenchModel", "passesRow", "([I)V"⟩, 47), (⟨"CopyBenchModel", "isItem", "(I)Z"⟩, 47), (⟨"CopyBenchModel", "isOne", "(I)Z"⟩, 47), (⟨"CopyBenchModel", "goesThrough", "(Z)V"⟩, 47), (⟨"CopyBenchModel", "clause", "(Z)V"⟩, 47), (⟨"CopyBenchModel", "here", "()I"⟩, 47), (⟨"CopyBenchModel", "gave", "(IZ)I"⟩, 47), (⟨"CopyBenchModel", "givers", "(I)I"⟩, 47), (⟨"CopyBenchModel", "gavers", "(IIII)I"⟩, 47), (⟨"CopyBenchModel", "likedWrong", "(I)I"⟩, 47)]
theorem lw_r2 : ∀ q ∈ lw_privs_2, lw_okq q := List.forall_mem_cons.mpr ⟨lw_p16, List.forall_mem_cons.mpr ⟨lw_p17, List.forall_mem_cons.mpr ⟨lw_p18, List.forall_mem_cons.mpr ⟨lw_p19, List.forall_mem_cons.mpr ⟨lw_p20, List.forall_mem_cons.mpr ⟨lw_p21, List.forall_mem_cons.mpr ⟨lw_p22, List.forall_mem_cons.mpr ⟨lw_p23, List.forall_mem_cons.mpr ⟨lw_p24, List.forall_mem_cons.mpr ⟨lw_p25, List.forall_mem_cons.mpr ⟨lw_p26, List.forall_mem_cons.mpr ⟨lw_p27, List.forall_mem_cons.mpr ⟨lw_p28, List.forall_mem_cons.mpr ⟨lw_p29, List.forall_mem_cons.mpr ⟨lw_p30, List.forall_mem_cons.mpr ⟨lw_p31, fun _ h => absurd h List.not_mem_nil⟩⟩⟩⟩⟩⟩⟩⟩⟩⟩⟩⟩⟩⟩⟩⟩
theorem lw_p32 : lw_okq (⟨"CopyBenchModel", "isTwo", "(II)Z"⟩, 47) := ⟨⟨by decide +kernel, by decide +kernel⟩, List.mem_of_getElem? (i := 905) (by decide +kernel), List.mem_of_getElem? (i := 1195) (by decide +kernel), List.mem_of_getElem? (i := 1196) (by decide +kernel)⟩
theorem lw_p33 : lw_okq (⟨"CopyBenchModel", "sumBut", "(IIII)I"⟩, 47) := ⟨⟨by decide +kernel, by decide +kernel⟩, List.mem_of_getElem? (i := 905) (by decide +kernel), List.mem_of_getElem? (i := 1199) (by decide +kernel), List.mem_of_getElem? (i := 1200) (by decide +kernel)⟩
theorem lw_p34 : lw_okq (⟨"CopyBenchModel", "shareOf", "(IIII)I"⟩, 47) := ⟨⟨by decide +kernel, by decide +kernel⟩, List.mem_of_getElem? (i := 905) (by decide +kernel), List.mem_of_getElem? (i := 1203) (by decide +kernel), List.mem_of_getElem? (i := 1204) (by decide +kernel)⟩
theorem lw_p35 : lw_okq (⟨"CopyBenchModel", "likeness", "(III)I"⟩, 47) := ⟨⟨by decide +kernel, by decide +kernel⟩, List.mem_of_getElem? (i := 905) (by decide +kernel), List.mem_of_getElem? (i := 1211) (by decide +kernel), List.mem_of_getElem? (i := 1212) (by decide +kernel)⟩
theorem lw_p36 : lw_okq (⟨"CopyBenchModel", "worth", "(II)I"⟩, 47) := ⟨⟨by decide +kernel, by decide +kernel⟩, List.mem_of_getElem? (i := 905) (by decide +kernel), List.mem_of_getElem? (i := 1215) (by decide +kernel), List.mem_of_getElem? (i := 1216) (by decide +kernel)⟩
theorem lw_p37 : lw_okq (⟨"CopyBenchModel", "asMuch", "(IIII)J"⟩, 47) := ⟨⟨by decide +kernel, by decide +kernel⟩, List.mem_of_getElem? (i := 905) (by decide +kernel), List.mem_of_getElem? (i := 1224) (by decide +kernel), List.mem_of_getElem? (i := 1225) (by decide +kernel)⟩
theorem lw_p38 : lw_okq (⟨"CopyBenchModel", "spreads", "(IIII)V"⟩, 47) := ⟨⟨by decide +kernel, by decide +kernel⟩, List.mem_of_getElem? (i := 905) (by decide +kernel), List.mem_of_getElem? (i := 1228) (by decide +kernel), List.mem_of_getElem? (i := 1229) (by decide +kernel)⟩
theorem lw_p39 : lw_okq (⟨"CopyBenchModel", "comes", "(IIII)V"⟩, 47) := ⟨⟨by decide +kernel, by decide +kernel⟩, List.mem_of_getElem? (i := 905) (by decide +kernel), List.mem_of_getElem? (i := 1232) (by decide +kernel), List.mem_of_getElem? (i := 1233) (by decide +kernel)⟩
theorem lw_p40 : lw_okq (⟨"CopyBenchModel", "adds", "(JI)V"⟩, 47) := ⟨⟨by decide +kernel, by decide +kernel⟩, List.mem_of_getElem? (i := 905) (by decide +kernel), List.mem_of_getElem? (i := 1236) (by decide +kernel), List.mem_of_getElem? (i := 1237) (by decide +kernel)⟩
theorem lw_p41 : lw_okq (⟨"CopyBenchModel", "orders", "()V"⟩, 47) := ⟨⟨by decide +kernel, by decide +kernel⟩, List.mem_of_getElem? (i := 905) (by decide +kernel), List.mem_of_getElem? (i := 1267) (by decide +kernel), List.mem_of_getElem? (i := 1268) (by decide +kernel)⟩
theorem lw_p42 : lw_okq (⟨"CopyBenchModel", "isNear", "(III)Z"⟩, 47) := ⟨⟨by decide +kernel, by decide +kernel⟩, List.mem_of_getElem? (i := 905) (by decide +kernel), List.mem_of_getElem? (i := 1271) (by decide +kernel), List.mem_of_getElem? (i := 1272) (by decide +kernel)⟩
theorem lw_p43 : lw_okq (⟨"CopyBenchModel", "putsPair", "(II)V"⟩, 47) := ⟨⟨by decide +kernel, by decide +kernel⟩, List.mem_of_getElem? (i := 905) (by decide +kernel), List.mem_of_getElem? (i := 1276) (by decide +kernel), List.mem_of_getElem? (i := 1277) (by decide +kernel)⟩
theorem lw_p44 : lw_okq (⟨"CopyBenchModel", "puts", "(IIJJ)V"⟩, 47) := ⟨⟨by decide +kernel, by decide +kernel⟩, List.mem_of_getElem? (i := 905) (by decide +kernel), List.mem_of_getElem? (i := 1280) (by decide +kernel), List.mem_of_getElem? (i := 1281) (by decide +kernel)⟩
theorem lw_p45 : lw_okq (⟨"CopyBenchModel", "isLow", "(III)Z"⟩, 47) := ⟨⟨by decide +kernel, by decide +kernel⟩, List.mem_of_getElem? (i := 905) (by decide +kernel), List.mem_of_getElem? (i := 1284) (by decide +kernel), List.mem_of_getElem? (i := 1285) (by decide +kernel)⟩
theorem lw_p46 : lw_okq (⟨"CopyBenchModel", "suspects", "()I"⟩, 47) := ⟨⟨by decide +kernel, by decide +kernel⟩, List.mem_of_getElem? (i := 905) (by decide +kernel), List.mem_of_getElem? (i := 1289) (by decide +kernel), List.mem_of_getElem? (i := 1290) (by decide +kernel)⟩
theorem lw_p47 : lw_okq (⟨"CopyBenchModel", "near", "(I)I"⟩, 47) := ⟨⟨by decide +kernel, by decide +kernel⟩, List.mem_of_getElem? (i := 905) (by decide +kernel), List.mem_of_getElem? (i := 1293) (by decide +kernel), List.mem_of_getElem? (i := 1294) (by decide +kernel)⟩
def lw_privs_3 : List (MethodName × Nat) := [(⟨"CopyBenchModel", "isTwo", "(II)Z"⟩, 47), (⟨"CopyBenchModel", "sumBut", "(IIII)I"⟩, 47), (⟨"CopyBenchModel", "shareOf", "(IIII)I"⟩, 47), (⟨"CopyBenchModel", "likeness", "(III)I"⟩, 47), (⟨"CopyBenchModel", "worth", "(II)I"⟩, 47), (⟨"CopyBenchModel", "asMuch", "(IIII)J"⟩, 47), (⟨"CopyBenchModel", "spreads", "(IIII)V"⟩, 47), (⟨"CopyBenchModel", "comes", "(IIII)V"⟩, 47), (⟨"CopyBenchModel", "adds", "(JI)V"⟩, 47), (⟨"CopyBenchModel", "orders", "()V"⟩, 47), (⟨"CopyBenchModel", "isNear", "(III)Z"⟩, 47), (⟨"CopyBenchModel", "putsPair", "(II)V"⟩, 47), (⟨"CopyBenchModel", "puts", "(IIJJ)V"⟩, 47), (⟨"CopyBenchModel", "isLow", "(III)Z"⟩, 47), (⟨"CopyBenchModel", "suspects", "()I"⟩, 47), (⟨"CopyBenchModel", "near", "(I)I"⟩, 47)]
theorem lw_r3 : ∀ q ∈ lw_privs_3, lw_okq q := List.forall_mem_cons.mpr ⟨lw_p32, List.forall_mem_cons.mpr ⟨lw_p33, List.forall_mem_cons.mpr ⟨lw_p34, List.forall_mem_cons.mpr ⟨lw_p35, List.forall_mem_cons.mpr ⟨lw_p36, List.forall_mem_cons.mpr ⟨lw_p37, List.forall_mem_cons.mpr ⟨lw_p38, List.forall_mem_cons.mpr ⟨lw_p39, List.forall_mem_cons.mpr ⟨lw_p40, List.forall_mem_cons.mpr ⟨lw_p41, List.forall_mem_cons.mpr ⟨lw_p42, List.forall_mem_cons.mpr ⟨lw_p43, List.forall_mem_cons.mpr ⟨lw_p44, List.forall_mem_cons.mpr ⟨lw_p45, List.forall_mem_cons.mpr ⟨lw_p46, List.forall_mem_cons.mpr ⟨lw_p47, fun _ h => absurd h List.not_mem_nil⟩⟩⟩⟩⟩⟩⟩⟩⟩⟩⟩⟩⟩⟩⟩⟩
theorem lw_p48 : lw_okq (⟨"CopyBenchModel", "grouped", "(I)I"⟩, 47) := ⟨⟨by decide +kernel, by decide +kernel⟩, List.mem_of_getElem? (i := 905) (by decide +kernel), List.mem_of_getElem? (i := 1297) (by decide +kernel), List.mem_of_getElem? (i := 1298) (by decide +kernel)⟩
theorem lw_p49 : lw_okq (⟨"CopyBenchModel", "binds", "()V"⟩, 47) := ⟨⟨by decide +kernel, by decide +kernel⟩, List.mem_of_getElem? (i := 905) (by decide +kernel), List.mem_of_getElem? (i := 1301) (by decide +kernel), List.mem_of_getElem? (i := 1302) (by decide +kernel)⟩
theorem lw_p50 : lw_okq (⟨"CopyBenchModel", "isGroup", "(I)Z"⟩, 47) := ⟨⟨by decide +kernel, by decide +kernel⟩, List.mem_of_getElem? (i := 905) (by decide +kernel), List.mem_of_getElem? (i := 1305) (by decide +kernel), List.mem_of_getElem? (i := 1306) (by decide +kernel)⟩
theorem lw_p51 : lw_okq (⟨"CopyBenchModel", "common", "(I)I"⟩, 47) := ⟨⟨by decide +kernel, by decide +kernel⟩, List.mem_of_getElem? (i := 905) (by decide +kernel), List.mem_of_getElem? (i := 1309) (by decide +kernel), List.mem_of_getElem? (i := 1310) (by decide +kernel)⟩
theorem lw_p52 : lw_okq (⟨"CopyBenchModel", "greatest", "()I"⟩, 47) := ⟨⟨by decide +kernel, by decide +kernel⟩, List.mem_of_getElem? (i := 905) (by decide +kernel), List.mem_of_getElem? (i := 1313) (by decide +kernel), List.mem_of_getElem? (i := 1314) (by decide +kernel)⟩
theorem lw_p53 : lw_okq (⟨"CopyBenchModel", "ranked", "(II)I"⟩, 47) := ⟨⟨by decide +kernel, by decide +kernel⟩, List.mem_of_getElem? (i := 905) (by decide +kernel), List.mem_of_getElem? (i := 1331) (by decide +kernel), List.mem_of_getElem? (i := 1332) (by decide +kernel)⟩
theorem lw_p54 : lw_okq (⟨"CopyBenchModel", "nearNow", "(I)I"⟩, 47) := ⟨⟨by decide +kernel, by decide +kernel⟩, List.mem_of_getElem? (i := 905) (by decide +kernel), List.mem_of_getElem? (i := 1352) (by decide +kernel), List.mem_of_getElem? (i := 1353) (by decide +kernel)⟩
theorem lw_p55 : lw_okq (⟨"CopyBenchModel", "placeOf", "(I)I"⟩, 47) := ⟨⟨by decide +kernel, by decide +kernel⟩, List.mem_of_getElem? (i := 905) (by decide +kernel), List.mem_of_getElem? (i := 1356) (by decide +kernel), List.mem_of_getElem? (i := 1357) (by decide +kernel)⟩
theorem lw_p56 : lw_okq (⟨"CopyBenchModel", "turns", "()Z"⟩, 47) := ⟨⟨by decide +kernel, by decide +kernel⟩, List.mem_of_getElem? (i := 905) (by decide +kernel), List.mem_of_getElem? (i := 1360) (by decide +kernel), List.mem_of_getElem? (i := 1361) (by decide +kernel)⟩
theorem lw_p57 : lw_okq (⟨"CopyBenchModel", "exchange", "(II)V"⟩, 47) := ⟨⟨by decide +kernel, by decide +kernel⟩, List.mem_of_getElem? (i := 905) (by decide +kernel), List.mem_of_getElem? (i := 1364) (by decide +kernel), List.mem_of_getElem? (i := 1365) (by decide +kernel)⟩
theorem lw_p58 : lw_okq (⟨"CopyBenchModel", "drawnBy", "(III)I"⟩, 47) := ⟨⟨by decide +kernel, by decide +kernel⟩, List.mem_of_getElem? (i := 905) (by decide +kernel), List.mem_of_getElem? (i := 1372) (by decide +kernel), List.mem_of_getElem? (i := 1373) (by decide +kernel)⟩
theorem lw_p59 : lw_okq (⟨"CopyBenchModel", "answersAnew", "(III)I"⟩, 47) := ⟨⟨by decide +kernel, by decide +kernel⟩, List.mem_of_getElem? (i := 905) (by decide +kernel), List.mem_of_getElem? (i := 1376) (by decide +kernel), List.mem_of_getElem? (i := 1377) (by decide +kernel)⟩
theorem lw_p60 : lw_okq (⟨"CopyBenchModel", "draw", "(I)I"⟩, 47) := ⟨⟨by decide +kernel, by decide +kernel⟩, List.mem_of_getElem? (i := 905) (by decide +kernel), List.mem_of_getElem? (i := 1380) (by decide +kernel), List.mem_of_getElem? (i := 1381) (by decide +kernel)⟩
theorem lw_p61 : lw_okq (⟨"CopyBenchModel", "isAllSeen", "()Z"⟩, 47) := ⟨⟨by decide +kernel, by decide +kernel⟩, List.mem_of_getElem? (i := 905) (by decide +kernel), List.mem_of_getElem? (i := 1398) (by decide +kernel), List.mem_of_getElem? (i := 1399) (by decide +kernel)⟩
theorem lw_p62 : lw_okq (⟨"CopyBenchModel", "goes", "(III)V"⟩, 47) := ⟨⟨by decide +kernel, by decide +kernel⟩, List.mem_of_getElem? (i := 905) (by decide +kernel), List.mem_of_getElem? (i := 1417) (by decide +kernel), List.mem_of_getElem? (i := 1418) (by decide +kernel)⟩
theorem lw_p63 : lw_okq (⟨"CopyBenchModel", "seatedOnes", "()I"⟩, 47) := ⟨⟨by decide +kernel, by decide +kernel⟩, List.mem_of_getElem? (i := 905) (by decide +kernel), List.mem_of_getElem? (i := 1432) (by decide +kernel), List.mem_of_getElem? (i := 1433) (by decide +kernel)⟩
def lw_privs_4 : List (MethodName × Nat) := [(⟨"CopyBenchModel", "grouped", "(I)I"⟩, 47), (⟨"CopyBenchModel", "binds", "()V"⟩, 47), (⟨"CopyBenchModel", "isGroup", "(I)Z"⟩, 47), (⟨"CopyBenchModel", "common", "(I)I"⟩, 47), (⟨"CopyBenchModel", "greatest", "()I"⟩, 47), (⟨"CopyBenchModel", "ranked", "(II)I"⟩, 47), (⟨"CopyBenchModel", "nearNow", "(I)I"⟩, 47), (⟨"CopyBenchModel", "placeOf", "(I)I"⟩, 47), (⟨"CopyBenchModel", "turns", "()Z"⟩, 47), (⟨"CopyBenchModel", "exchange", "(II)V"⟩, 47), (⟨"CopyBenchModel", "drawnBy", "(III)I"⟩, 47), (⟨"CopyBenchModel", "answersAnew", "(III)I"⟩, 47), (⟨"CopyBenchModel", "draw", "(I)I"⟩, 47), (⟨"CopyBenchModel", "isAllSeen", "()Z"⟩, 47), (⟨"CopyBenchModel", "goes", "(III)V"⟩, 47), (⟨"CopyBenchModel", "seatedOnes", "()I"⟩, 47)]
theorem lw_r4 : ∀ q ∈ lw_privs_4, lw_okq q := List.forall_mem_cons.mpr ⟨lw_p48, List.forall_mem_cons.mpr ⟨lw_p49, List.forall_mem_cons.mpr ⟨lw_p50, List.forall_mem_cons.mpr ⟨lw_p51, List.forall_mem_cons.mpr ⟨lw_p52, List.forall_mem_cons.mpr ⟨lw_p53, List.forall_mem_cons.mpr ⟨lw_p54, List.forall_mem_cons.mpr ⟨lw_p55, List.forall_mem_cons.mpr ⟨lw_p56, List.forall_mem_cons.mpr ⟨lw_p57, List.forall_mem_cons.mpr ⟨lw_p58, List.forall_mem_cons.mpr ⟨lw_p59, List.forall_mem_cons.mpr ⟨lw_p60, List.forall_mem_cons.mpr ⟨lw_p61, List.forall_mem_cons.mpr ⟨lw_p62, List.forall_mem_cons.mpr ⟨lw_p63, fun _ h => absurd h List.not_mem_nil⟩⟩⟩⟩⟩⟩⟩⟩⟩⟩⟩⟩⟩⟩⟩⟩
def lw_privs : List (MethodName × Nat) := lw_privs_1 ++ (lw_privs_2 ++ (lw_privs_3 ++ (lw_privs_4)))
def lw_tbl : List Cond := k2_sels lw_privs ++ tables_1
theorem lw_privs_ok : ∀ q ∈ lw_privs, lw_okq q := by
  show ∀ q ∈ lw_privs_1 ++ (lw_privs_2 ++ (lw_privs_3 ++ (lw_privs_4))), lw_okq q
  exact List.forall_mem_append.mpr ⟨lw_r1, List.forall_mem_append.mpr ⟨lw_r2, List.forall_mem_append.mpr ⟨lw_r3, lw_r4⟩⟩⟩

def gd : List Cond := lw_tbl.filter goodWord
theorem gd_in {w : Cond} (h : w ∈ gd) : w ∈ lw_tbl := (List.mem_filter.mp h).1
theorem gd_good {ws : List Cond} (h : ∀ w ∈ ws, w ∈ gd) : GoodIn gd ws := fun w hw => ⟨h w hw, good_of_word (List.mem_filter.mp (h w hw)).2⟩
theorem tb_t {w : Cond} (h : w ∈ tables_1) : w ∈ lw_tbl := List.mem_append_right _ h
theorem tt_1 {w : Cond} {i : Nat} (h0 : tables_1_1[i]? = some w) : w ∈ lw_tbl := by
  have h := List.mem_of_getElem? h0
  exact tb_t (List.mem_append_left _ h)
theorem tb_1 {w : Cond} {i : Nat} (h0 : tables_1_1[i]? = some w) (hg : goodWord w = true) : w ∈ gd := List.mem_filter.mpr ⟨tt_1 h0, hg⟩
theorem tt_2 {w : Cond} {i : Nat} (h0 : tables_1_2[i]? = some w) : w ∈ lw_tbl := by
  have h := List.mem_of_getElem? h0
  exact tb_t (List.mem_append_right _ (List.mem_append_left _ h))
theorem tb_2 {w : Cond} {i : Nat} (h0 : tables_1_2[i]? = some w) (hg : goodWord w = true) : w ∈ gd := List.mem_filter.mpr ⟨tt_2 h0, hg⟩
theorem tt_3 {w : Cond} {i : Nat} (h0 : tables_1_3[i]? = some w) : w ∈ lw_tbl := by
  have h := List.mem_of_getElem? h0
  exact tb_t (List.mem_append_right _ (List.mem_append_right _ (List.mem_append_left _ h)))
theorem tb_3 {w : Cond} {i : Nat} (h0 : tables_1_3[i]? = some w) (hg : goodWord w = true) : w ∈ gd := List.mem_filter.mpr ⟨tt_3 h0, hg⟩
theorem tt_4 {w : Cond} {i : Nat} (h0 : tables_1_4[i]? = some w) : w ∈ lw_tbl := by
  have h := List.mem_of_getElem? h0
  exact tb_t (List.mem_append_right _ (List.mem_append_right _ (List.mem_append_right _ (List.mem_append_left _ h))))
theorem tb_4 {w : Cond} {i : Nat} (h0 : tables_1_4[i]? = some w) (hg : goodWord w = true) : w ∈ gd := List.mem_filter.mpr ⟨tt_4 h0, hg⟩
theorem tt_5 {w : Cond} {i : Nat} (h0 : tables_1_5[i]? = some w) : w ∈ lw_tbl := by
  have h := List.mem_of_getElem? h0
  exact tb_t (List.mem_append_right _ (List.mem_append_right _ (List.mem_append_right _ (List.mem_append_right _ (List.mem_append_left _ h)))))
theorem tb_5 {w : Cond} {i : Nat} (h0 : tables_1_5[i]? = some w) (hg : goodWord w = true) : w ∈ gd := List.mem_filter.mpr ⟨tt_5 h0, hg⟩
theorem tt_6 {w : Cond} {i : Nat} (h0 : tables_1_6[i]? = some w) : w ∈ lw_tbl := by
  have h := List.mem_of_getElem? h0
  exact tb_t (List.mem_append_right _ (List.mem_append_right _ (List.mem_append_right _ (List.mem_append_right _ (List.mem_append_right _ (List.mem_append_left _ h))))))
theorem tb_6 {w : Cond} {i : Nat} (h0 : tables_1_6[i]? = some w) (hg : goodWord w = true) : w ∈ gd := List.mem_filter.mpr ⟨tt_6 h0, hg⟩
theorem tt_7 {w : Cond} {i : Nat} (h0 : tables_1_7[i]? = some w) : w ∈ lw_tbl := by
  have h := List.mem_of_getElem? h0
  exact tb_t (List.mem_append_right _ (List.mem_append_right _ (List.mem_append_right _ (List.mem_append_right _ (List.mem_append_right _ (List.mem_append_right _ (h)))))))
theorem tb_7 {w : Cond} {i : Nat} (h0 : tables_1_7[i]? = some w) (hg : goodWord w = true) : w ∈ gd := List.mem_filter.mpr ⟨tt_7 h0, hg⟩
def R_Draws : String := "CopyBench$Draws"
def F_Draws : u_T := fun k => match k with
  | _ => ("CopyBench$Draws", "seed", "I", false)
def t_Draws : Nat → FieldType := fun k => match k with
  | _ => .int
theorem n_Draws : ∀ a, a < 1 → ∀ b, b < 1 → a ≠ b → (F_Draws a).2.1 ≠ (F_Draws b).2.1 := by decide +kernel
theorem t_Draws_ok : ∀ k, k < 1 → parseFieldDescriptor (F_Draws k).2.2.1 = some (t_Draws k) := by decide +kernel
theorem i_Draws : ∀ w ∈ u_ws R_Draws F_Draws 1, w ∈ gd := by
  have h1 : ∀ w ∈ u_ws R_Draws F_Draws 1, w ∈ lw_tbl := by decide +kernel
  have h2 : (u_ws R_Draws F_Draws 1).all goodWord = true := by decide +kernel
  exact fun w hw => List.mem_filter.mpr ⟨h1 w hw, List.all_eq_true.mp h2 w hw⟩
def R_Exam : String := "CopyBench$Exam"
def F_Exam : u_T := fun k => match k with
  | 0 => ("CopyBench$Exam", "items", "I", false)
  | 1 => ("CopyBench$Exam", "come", "I", false)
  | 2 => ("CopyBench$Exam", "seen", "I", false)
  | 3 => ("CopyBench$Exam", "planned", "I", false)
  | 4 => ("CopyBench$Exam", "key", "[I", true)
  | 5 => ("CopyBench$Exam", "kind", "[I", true)
  | 6 => ("CopyBench$Exam", "parts", "[[I", true)
  | 7 => ("CopyBench$Exam", "given", "[[I", true)
  | 8 => ("CopyBench$Exam", "row", "[I", true)
  | 9 => ("CopyBench$Exam", "place", "[I", true)
  | 10 => ("CopyBench$Exam", "used", "[I", true)
  | 11 => ("CopyBench$Exam", "seenX", "[I", true)
  | 12 => ("CopyBench$Exam", "seenY", "[I", true)
  | 13 => ("CopyBench$Exam", "seenIs", "[Z", true)
  | 14 => ("CopyBench$Exam", "planWhat", "[I", true)
  | 15 => ("CopyBench$Exam", "planK", "[I", true)
  | _ => ("CopyBench$Exam", "planV", "[I", true)
def t_Exam : Nat → FieldType := fun k => match k with
  | 0 => .int
  | 1 => .int
  | 2 => .int
  | 3 => .int
  | 4 => .array .int
  | 5 => .array .int
  | 6 => .array (.array .int)
  | 7 => .array (.array .int)
  | 8 => .array .int
  | 9 => .array .int
  | 10 => .array .int
  | 11 => .array .int
  | 12 => .array .int
  | 13 => .array .boolean
  | 14 => .array .int
  | 15 => .array .int
  | _ => .array .int
theorem n_Exam : ∀ a, a < 17 → ∀ b, b < 17 → a ≠ b → (F_Exam a).2.1 ≠ (F_Exam b).2.1 := by decide +kernel
theorem t_Exam_ok : ∀ k, k < 17 → parseFieldDescriptor (F_Exam k).2.2.1 = some (t_Exam k) := by decide +kernel
theorem i_Exam : ∀ w ∈ u_ws R_Exam F_Exam 17, w ∈ gd := by
  have h1 : ∀ w ∈ u_ws R_Exam F_Exam 17, w ∈ lw_tbl := by decide +kernel
  have h2 : (u_ws R_Exam F_Exam 17).all goodWord = true := by decide +kernel
  exact fun w hw => List.mem_filter.mpr ⟨h1 w hw, List.all_eq_true.mp h2 w hw⟩
def R_Links : String := "CopyBench$Links"
def F_Links : u_T := fun k => match k with
  | _ => ("CopyBench$Links", "suspectWith", "[I", true)
def t_Links : Nat → FieldType := fun k => match k with
  | _ => .array .int
theorem n_Links : ∀ a, a < 1 → ∀ b, b < 1 → a ≠ b → (F_Links a).2.1 ≠ (F_Links b).2.1 := by decide +kernel
theorem t_Links_ok : ∀ k, k < 1 → parseFieldDescriptor (F_Links k).2.2.1 = some (t_Links k) := by decide +kernel
theorem i_Links : ∀ w ∈ u_ws R_Links F_Links 1, w ∈ gd := by
  have h1 : ∀ w ∈ u_ws R_Links F_Links 1, w ∈ lw_tbl := by decide +kernel
  have h2 : (u_ws R_Links F_Links 1).all goodWord = true := by decide +kernel
  exact fun w hw => List.mem_filter.mpr ⟨h1 w hw, List.all_eq_true.mp h2 w hw⟩
def R_Odds : String := "CopyBench$Odds"
def F_Odds : u_T := fun k => match k with
  | 0 => ("CopyBench$Odds", "shares", "[I", true)
  | 1 => ("CopyBench$Odds", "sum", "I", false)
  | 2 => ("CopyBench$Odds", "squares", "J", false)
  | 3 => ("CopyBench$Odds", "ways", "[J", true)
  | 4 => ("CopyBench$Odds", "allWays", "J", false)
  | 5 => ("CopyBench$Odds", "likeness", "I", false)
  | 6 => ("CopyBench$Odds", "alikeRight", "J", false)
  | 7 => ("CopyBench$Odds", "alikeWrong", "J", false)
  | _ => ("CopyBench$Odds", "any", "J", false)
def t_Odds : Nat → FieldType := fun k => match k with
  | 0 => .array .int
  | 1 => .int
  | 2 => .long
  | 3 => .array .long
  | 4 => .long
  | 5 => .int
  | 6 => .long
  | 7 => .long
  | _ => .long
theorem n_Odds : ∀ a, a < 9 → ∀ b, b < 9 → a ≠ b → (F_Odds a).2.1 ≠ (F_Odds b).2.1 := by decide +kernel
theorem t_Odds_ok : ∀ k, k < 9 → parseFieldDescriptor (F_Odds k).2.2.1 = some (t_Odds k) := by decide +kernel
theorem i_Odds : ∀ w ∈ u_ws R_Odds F_Odds 9, w ∈ gd := by
  have h1 : ∀ w ∈ u_ws R_Odds F_Odds 9, w ∈ lw_tbl := by decide +kernel
  have h2 : (u_ws R_Odds F_Odds 9).all goodWord = true := by decide +kernel
  exact fun w hw => List.mem_filter.mpr ⟨h1 w hw, List.all_eq_true.mp h2 w hw⟩
def R_Ranking : String := "CopyBench$Ranking"
def F_Ranking : u_T := fun k => match k with
  | 0 => ("CopyBench$Ranking", "size", "I", false)
  | 1 => ("CopyBench$Ranking", "suspects", "I", false)
  | 2 => ("CopyBench$Ranking", "lower", "[I", true)
  | 3 => ("CopyBench$Ranking", "upper", "[I", true)
  | 4 => ("CopyBench$Ranking", "above", "[J", true)
  | 5 => ("CopyBench$Ranking", "below", "[J", true)
  | 6 => ("CopyBench$Ranking", "one", "LCopyBench$Ratio;", true)
  | _ => ("CopyBench$Ranking", "turned", "LCopyBench$Ratio;", true)
def t_Ranking : Nat → FieldType := fun k => match k with
  | 0 => .int
  | 1 => .int
  | 2 => .array .int
  | 3 => .array .int
  | 4 => .array .long
  | 5 => .array .long
  | 6 => .object "CopyBench$Ratio"
  | _ => .object "CopyBench$Ratio"
theorem n_Ranking : ∀ a, a < 8 → ∀ b, b < 8 → a ≠ b → (F_Ranking a).2.1 ≠ (F_Ranking b).2.1 := by decide +kernel
theorem t_Ranking_ok : ∀ k, k < 8 → parseFieldDescriptor (F_Ranking k).2.2.1 = some (t_Ranking k) := by decide +kernel
theorem i_Ranking : ∀ w ∈ u_ws R_Ranking F_Ranking 8, w ∈ gd := by
  have h1 : ∀ w ∈ u_ws R_Ranking F_Ranking 8, w ∈ lw_tbl := by decide +kernel
  have h2 : (u_ws R_Ranking F_Ranking 8).all goodWord = true := by decide +kernel
  exact fun w hw => List.mem_filter.mpr ⟨h1 w hw, List.all_eq_true.mp h2 w hw⟩
def R_Ratio : String := "CopyBench$Ratio"
def F_Ratio : u_T := fun k => match k with
  | 0 => ("CopyBench$Ratio", "above", "J", false)
  | _ => ("CopyBench$Ratio", "below", "J", false)
def t_Ratio : Nat → FieldType := fun k => match k with
  | 0 => .long
  | _ => .long
theorem n_Ratio : ∀ a, a < 2 → ∀ b, b < 2 → a ≠ b → (F_Ratio a).2.1 ≠ (F_Ratio b).2.1 := by decide +kernel
theorem t_Ratio_ok : ∀ k, k < 2 → parseFieldDescriptor (F_Ratio k).2.2.1 = some (t_Ratio k) := by decide +kernel
theorem i_Ratio : ∀ w ∈ u_ws R_Ratio F_Ratio 2, w ∈ gd := by
  have h1 : ∀ w ∈ u_ws R_Ratio F_Ratio 2, w ∈ lw_tbl := by decide +kernel
  have h2 : (u_ws R_Ratio F_Ratio 2).all goodWord = true := by decide +kernel
  exact fun w hw => List.mem_filter.mpr ⟨h1 w hw, List.all_eq_true.mp h2 w hw⟩
def R_Seating : String := "CopyBench$Seating"
def F_Seating : u_T := fun k => match k with
  | 0 => ("CopyBench$Seating", "size", "I", false)
  | 1 => ("CopyBench$Seating", "who", "[I", true)
  | 2 => ("CopyBench$Seating", "seatOf", "[I", true)
  | 3 => ("CopyBench$Seating", "nearTo", "[I", true)
  | _ => ("CopyBench$Seating", "suspectWith", "[I", true)
def t_Seating : Nat → FieldType := fun k => match k with
  | 0 => .int
  | 1 => .array .int
  | 2 => .array .int
  | 3 => .array .int
  | _ => .array .int
theorem n_Seating : ∀ a, a < 5 → ∀ b, b < 5 → a ≠ b → (F_Seating a).2.1 ≠ (F_Seating b).2.1 := by decide +kernel
theorem t_Seating_ok : ∀ k, k < 5 → parseFieldDescriptor (F_Seating k).2.2.1 = some (t_Seating k) := by decide +kernel
theorem i_Seating : ∀ w ∈ u_ws R_Seating F_Seating 5, w ∈ gd := by
  have h1 : ∀ w ∈ u_ws R_Seating F_Seating 5, w ∈ lw_tbl := by decide +kernel
  have h2 : (u_ws R_Seating F_Seating 5).all goodWord = true := by decide +kernel
  exact fun w hw => List.mem_filter.mpr ⟨h1 w hw, List.all_eq_true.mp h2 w hw⟩
def R_Tape : String := "CopyBench$Tape"
def F_Tape : u_T := fun k => match k with
  | 0 => ("CopyBench$Tape", "sort", "I", false)
  | 1 => ("CopyBench$Tape", "size", "I", false)
  | _ => ("CopyBench$Tape", "row", "[J", true)
def t_Tape : Nat → FieldType := fun k => match k with
  | 0 => .int
  | 1 => .int
  | _ => .array .long
theorem n_Tape : ∀ a, a < 3 → ∀ b, b < 3 → a ≠ b → (F_Tape a).2.1 ≠ (F_Tape b).2.1 := by decide +kernel
theorem t_Tape_ok : ∀ k, k < 3 → parseFieldDescriptor (F_Tape k).2.2.1 = some (t_Tape k) := by decide +kernel
theorem i_Tape : ∀ w ∈ u_ws R_Tape F_Tape 3, w ∈ gd := by
  have h1 : ∀ w ∈ u_ws R_Tape F_Tape 3, w ∈ lw_tbl := by decide +kernel
  have h2 : (u_ws R_Tape F_Tape 3).all goodWord = true := by decide +kernel
  exact fun w hw => List.mem_filter.mpr ⟨h1 w hw, List.all_eq_true.mp h2 w hw⟩
def R_Text : String := "CopyBench$Text"
def F_Text : u_T := fun k => match k with
  | 0 => ("CopyBench$Text", "size", "I", false)
  | _ => ("CopyBench$Text", "signs", "[I", true)
def t_Text : Nat → FieldType := fun k => match k with
  | 0 => .int
  | _ => .array .int
theorem n_Text : ∀ a, a < 2 → ∀ b, b < 2 → a ≠ b → (F_Text a).2.1 ≠ (F_Text b).2.1 := by decide +kernel
theorem t_Text_ok : ∀ k, k < 2 → parseFieldDescriptor (F_Text k).2.2.1 = some (t_Text k) := by decide +kernel
theorem i_Text : ∀ w ∈ u_ws R_Text F_Text 2, w ∈ gd := by
  have h1 : ∀ w ∈ u_ws R_Text F_Text 2, w ∈ lw_tbl := by decide +kernel
  have h2 : (u_ws R_Text F_Text 2).all goodWord = true := by decide +kernel
  exact fun w hw => List.mem_filter.mpr ⟨h1 w hw, List.all_eq_true.mp h2 w hw⟩
def R_Cb : String := "CopyBench"
def F_Cb : u_T := fun k => match k with
  | 0 => ("CopyBench", "now", "LCopyBench$Exam;", true)
  | 1 => ("CopyBench", "kept", "LCopyBench$Exam;", true)
  | 2 => ("CopyBench", "trial", "LCopyBench$Exam;", true)
  | 3 => ("CopyBench", "imageTaken", "Z", false)
  | 4 => ("CopyBench", "text", "LCopyBench$Text;", true)
  | 5 => ("CopyBench", "tapes", "[LCopyBench$Tape;", true)
  | 6 => ("CopyBench", "odds", "LCopyBench$Odds;", true)
  | 7 => ("CopyBench", "first", "LCopyBench$Ratio;", true)
  | 8 => ("CopyBench", "second", "LCopyBench$Ratio;", true)
  | 9 => ("CopyBench", "ranking", "LCopyBench$Ranking;", true)
  | 10 => ("CopyBench", "links", "LCopyBench$Links;", true)
  | 11 => ("CopyBench", "seating", "LCopyBench$Seating;", true)
  | _ => ("CopyBench", "draws", "LCopyBench$Draws;", true)
def t_Cb : Nat → FieldType := fun k => match k with
  | 0 => .object "CopyBench$Exam"
  | 1 => .object "CopyBench$Exam"
  | 2 => .object "CopyBench$Exam"
  | 3 => .boolean
  | 4 => .object "CopyBench$Text"
  | 5 => .array (.object "CopyBench$Tape")
  | 6 => .object "CopyBench$Odds"
  | 7 => .object "CopyBench$Ratio"
  | 8 => .object "CopyBench$Ratio"
  | 9 => .object "CopyBench$Ranking"
  | 10 => .object "CopyBench$Links"
  | 11 => .object "CopyBench$Seating"
  | _ => .object "CopyBench$Draws"
theorem n_Cb : ∀ a, a < 13 → ∀ b, b < 13 → a ≠ b → (F_Cb a).2.1 ≠ (F_Cb b).2.1 := by decide +kernel
theorem t_Cb_ok : ∀ k, k < 13 → parseFieldDescriptor (F_Cb k).2.2.1 = some (t_Cb k) := by decide +kernel
theorem i_Cb : ∀ w ∈ u_ws R_Cb F_Cb 13, w ∈ gd := by
  have h1 : ∀ w ∈ u_ws R_Cb F_Cb 13, w ∈ lw_tbl := by decide +kernel
  have h2 : (u_ws R_Cb F_Cb 13).all goodWord = true := by decide +kernel
  exact fun w hw => List.mem_filter.mpr ⟨h1 w hw, List.all_eq_true.mp h2 w hw⟩
def R_Md : String := "CopyBenchModel"
def F_Md : u_T := fun k => match k with
  | 0 => ("CopyBenchModel", "n", "I", false)
  | 1 => ("CopyBenchModel", "many", "I", false)
  | 2 => ("CopyBenchModel", "right", "[I", true)
  | 3 => ("CopyBenchModel", "kind", "[I", true)
  | 4 => ("CopyBenchModel", "parts", "[I", true)
  | 5 => ("CopyBenchModel", "given", "[I", true)
  | 6 => ("CopyBenchModel", "row", "[I", true)
  | 7 => ("CopyBenchModel", "place", "[I", true)
  | 8 => ("CopyBenchModel", "used", "[I", true)
  | 9 => ("CopyBenchModel", "seenX", "[I", true)
  | 10 => ("CopyBenchModel", "seenY", "[I", true)
  | 11 => ("CopyBenchModel", "seenIs", "[I", true)
  | 12 => ("CopyBenchModel", "planWhat", "[I", true)
  | 13 => ("CopyBenchModel", "planK", "[I", true)
  | 14 => ("CopyBenchModel", "planV", "[I", true)
  | 15 => ("CopyBenchModel", "seen", "I", false)
  | 16 => ("CopyBenchModel", "plans", "I", false)
  | 17 => ("CopyBenchModel", "text", "[I", true)
  | 18 => ("CopyBenchModel", "texted", "I", false)
  | 19 => ("CopyBenchModel", "imaged", "[I", true)
  | 20 => ("CopyBenchModel", "isKept", "Z", false)
  | 21 => ("CopyBenchModel", "spot", "I", false)
  | 22 => ("CopyBenchModel", "keeps", "Z", false)
  | 23 => ("CopyBenchModel", "at", "I", false)
  | 24 => ("CopyBenchModel", "isFaulty", "Z", false)
  | 25 => ("CopyBenchModel", "whole", "I", false)
  | 26 => ("CopyBenchModel", "ways", "[J", true)
  | 27 => ("CopyBenchModel", "before", "[J", true)
  | 28 => ("CopyBenchModel", "below", "J", false)
  | 29 => ("CopyBenchModel", "pairs", "I", false)
  | 30 => ("CopyBenchModel", "pairX", "[I", true)
  | 31 => ("CopyBenchModel", "pairY", "[I", true)
  | 32 => ("CopyBenchModel", "above", "[J", true)
  | 33 => ("CopyBenchModel", "under", "[J", true)
  | 34 => ("CopyBenchModel", "isSuspect", "[Z", true)
  | 35 => ("CopyBenchModel", "links", "[I", true)
  | 36 => ("CopyBenchModel", "sits", "[I", true)
  | 37 => ("CopyBenchModel", "seatOf", "[I", true)
  | 38 => ("CopyBenchModel", "sitters", "I", false)
  | 39 => ("CopyBenchModel", "seedNow", "I", false)
  | 40 => ("CopyBenchModel", "givenWas", "[I", true)
  | 41 => ("CopyBenchModel", "rightWas", "[I", true)
  | 42 => ("CopyBenchModel", "kindWas", "[I", true)
  | 43 => ("CopyBenchModel", "tapes", "[[J", true)
  | 44 => ("CopyBenchModel", "tapeSort", "[I", true)
  | 45 => ("CopyBenchModel", "tapeSize", "[I", true)
  | _ => ("CopyBenchModel", "moved", "[J", true)
def t_Md : Nat → FieldType := fun k => match k with
  | 0 => .int
  | 1 => .int
  | 2 => .array .int
  | 3 => .array .int
  | 4 => .array .int
  | 5 => .array .int
  | 6 => .array .int
  | 7 => .array .int
  | 8 => .array .int
  | 9 => .array .int
  | 10 => .array .int
  | 11 => .array .int
  | 12 => .array .int
  | 13 => .array .int
  | 14 => .array .int
  | 15 => .int
  | 16 => .int
  | 17 => .array .int
  | 18 => .int
  | 19 => .array .int
  | 20 => .boolean
  | 21 => .int
  | 22 => .boolean
  | 23 => .int
  | 24 => .boolean
  | 25 => .int
  | 26 => .array .long
  | 27 => .array .long
  | 28 => .long
  | 29 => .int
  | 30 => .array .int
  | 31 => .array .int
  | 32 => .array .long
  | 33 => .array .long
  | 34 => .array .boolean
  | 35 => .array .int
  | 36 => .array .int
  | 37 => .array .int
  | 38 => .int
  | 39 => .int
  | 40 => .array .int
  | 41 => .array .int
  | 42 => .array .int
  | 43 => .array (.array .long)
  | 44 => .array .int
  | 45 => .array .int
  | _ => .array .long
theorem n_Md : ∀ a, a < 47 → ∀ b, b < 47 → a ≠ b → (F_Md a).2.1 ≠ (F_Md b).2.1 := by decide +kernel
theorem t_Md_ok : ∀ k, k < 47 → parseFieldDescriptor (F_Md k).2.2.1 = some (t_Md k) := by decide +kernel
theorem i_Md : ∀ w ∈ u_ws R_Md F_Md 47, w ∈ gd := by
  have h1 : ∀ w ∈ u_ws R_Md F_Md 47, w ∈ lw_tbl := by decide +kernel
  have h2 : (u_ws R_Md F_Md 47).all goodWord = true := by decide +kernel
  exact fun w hw => List.mem_filter.mpr ⟨h1 w hw, List.all_eq_true.mp h2 w hw⟩
def R_law : String := "CopyBenchLaw"
def CL : List vw_C := [(R_Draws, F_Draws, 1), (R_Exam, F_Exam, 17), (R_Links, F_Links, 1), (R_Odds, F_Odds, 9), (R_Ranking, F_Ranking, 8), (R_Ratio, F_Ratio, 2), (R_Seating, F_Seating, 5), (R_Tape, F_Tape, 3), (R_Text, F_Text, 2), (R_Cb, F_Cb, 13), (R_Md, F_Md, 47)]
abbrev k_Cb_init : ByteArray := prog_1_method_1_code
def y_Cb_init : MethodName := ⟨"CopyBench", "<init>", "()V"⟩
theorem co_Cb_init : Cond.code y_Cb_init k_Cb_init 2 (Option.none : Option FieldType) ∈ gd := tb_1 (i := 19) rfl rfl
theorem im_Cb_init : Cond.instanceMethod y_Cb_init ∈ gd := tb_1 (i := 18) rfl rfl
abbrev k_Cb_items : ByteArray := prog_1_method_2_code
def y_Cb_items : MethodName := ⟨"CopyBench", "items", "(I)I"⟩
theorem co_Cb_items : Cond.code y_Cb_items k_Cb_items 3 (Option.some FieldType.int) ∈ gd := tb_2 (i := 97) rfl rfl
theorem im_Cb_items : Cond.instanceMethod y_Cb_items ∈ gd := tb_2 (i := 95) rfl rfl
theorem se_Cb_items : Cond.selects "CopyBench" y_Cb_items y_Cb_items ∈ gd := tb_2 (i := 96) rfl rfl
abbrev k_Cb_right : ByteArray := prog_1_method_3_code
def y_Cb_right : MethodName := ⟨"CopyBench", "right", "(II)I"⟩
theorem co_Cb_right : Cond.code y_Cb_right k_Cb_right 4 (Option.some FieldType.int) ∈ gd := tb_2 (i := 102) rfl rfl
theorem im_Cb_right : Cond.instanceMethod y_Cb_right ∈ gd := tb_2 (i := 100) rfl rfl
theorem se_Cb_right : Cond.selects "CopyBench" y_Cb_right y_Cb_right ∈ gd := tb_2 (i := 101) rfl rfl
abbrev k_Cb_model : ByteArray := prog_1_method_4_code
def y_Cb_model : MethodName := ⟨"CopyBench", "model", "(II)I"⟩
theorem co_Cb_model : Cond.code y_Cb_model k_Cb_model 4 (Option.some FieldType.int) ∈ gd := tb_2 (i := 113) rfl rfl
theorem im_Cb_model : Cond.instanceMethod y_Cb_model ∈ gd := tb_2 (i := 111) rfl rfl
theorem se_Cb_model : Cond.selects "CopyBench" y_Cb_model y_Cb_model ∈ gd := tb_2 (i := 112) rfl rfl
abbrev k_Cb_part : ByteArray := prog_1_method_5_code
def y_Cb_part : MethodName := ⟨"CopyBench", "part", "(III)I"⟩
theorem co_Cb_part : Cond.code y_Cb_part k_Cb_part 5 (Option.some FieldType.int) ∈ gd := tb_2 (i := 120) rfl rfl
theorem im_Cb_part : Cond.instanceMethod y_Cb_part ∈ gd := tb_2 (i := 118) rfl rfl
theorem se_Cb_part : Cond.selects "CopyBench" y_Cb_part y_Cb_part ∈ gd := tb_2 (i := 119) rfl rfl
abbrev k_Cb_candidate : ByteArray := prog_1_method_6_code
def y_Cb_candidate : MethodName := ⟨"CopyBench", "candidate", "()I"⟩
theorem co_Cb_candidate : Cond.code y_Cb_candidate k_Cb_candidate 1 (Option.some FieldType.int) ∈ gd := tb_2 (i := 124) rfl rfl
theorem im_Cb_candidate : Cond.instanceMethod y_Cb_candidate ∈ gd := tb_2 (i := 122) rfl rfl
theorem se_Cb_candidate : Cond.selects "CopyBench" y_Cb_candidate y_Cb_candidate ∈ gd := tb_2 (i := 123) rfl rfl
abbrev k_Cb_gives : ByteArray := prog_1_method_7_code
def y_Cb_gives : MethodName := ⟨"CopyBench", "gives", "(III)I"⟩
theorem co_Cb_gives : Cond.code y_Cb_gives k_Cb_gives 5 (Option.some FieldType.int) ∈ gd := tb_2 (i := 132) rfl rfl
theorem im_Cb_gives : Cond.instanceMethod y_Cb_gives ∈ gd := tb_2 (i := 130) rfl rfl
theorem se_Cb_gives : Cond.selects "CopyBench" y_Cb_gives y_Cb_gives ∈ gd := tb_2 (i := 131) rfl rfl
abbrev k_Cb_seat : ByteArray := prog_1_method_8_code
def y_Cb_seat : MethodName := ⟨"CopyBench", "seat", "(III)I"⟩
theorem co_Cb_seat : Cond.code y_Cb_seat k_Cb_seat 5 (Option.some FieldType.int) ∈ gd := tb_2 (i := 143) rfl rfl
theorem im_Cb_seat : Cond.instanceMethod y_Cb_seat ∈ gd := tb_2 (i := 141) rfl rfl
theorem se_Cb_seat : Cond.selects "CopyBench" y_Cb_seat y_Cb_seat ∈ gd := tb_2 (i := 142) rfl rfl
abbrev k_Cb_feed : ByteArray := prog_1_method_9_code
def y_Cb_feed : MethodName := ⟨"CopyBench", "feed", "(I)I"⟩
theorem co_Cb_feed : Cond.code y_Cb_feed k_Cb_feed 2 (Option.some FieldType.int) ∈ gd := tb_2 (i := 152) rfl rfl
theorem im_Cb_feed : Cond.instanceMethod y_Cb_feed ∈ gd := tb_2 (i := 150) rfl rfl
theorem se_Cb_feed : Cond.selects "CopyBench" y_Cb_feed y_Cb_feed ∈ gd := tb_2 (i := 151) rfl rfl
abbrev k_Cb_read : ByteArray := prog_1_method_10_code
def y_Cb_read : MethodName := ⟨"CopyBench", "read", "()I"⟩
theorem co_Cb_read : Cond.code y_Cb_read k_Cb_read 2 (Option.some FieldType.int) ∈ gd := tb_2 (i := 164) rfl rfl
theorem im_Cb_read : Cond.instanceMethod y_Cb_read ∈ gd := tb_2 (i := 162) rfl rfl
theorem se_Cb_read : Cond.selects "CopyBench" y_Cb_read y_Cb_read ∈ gd := tb_2 (i := 163) rfl rfl
abbrev k_Cb_use : ByteArray := prog_1_method_11_code
def y_Cb_use : MethodName := ⟨"CopyBench", "use", "(II)I"⟩
theorem co_Cb_use : Cond.code y_Cb_use k_Cb_use 4 (Option.some FieldType.int) ∈ gd := tb_2 (i := 185) rfl rfl
theorem im_Cb_use : Cond.instanceMethod y_Cb_use ∈ gd := tb_2 (i := 183) rfl rfl
theorem se_Cb_use : Cond.selects "CopyBench" y_Cb_use y_Cb_use ∈ gd := tb_2 (i := 184) rfl rfl
abbrev k_Cb_answer : ByteArray := prog_1_method_12_code
def y_Cb_answer : MethodName := ⟨"CopyBench", "answer", "(II)I"⟩
theorem co_Cb_answer : Cond.code y_Cb_answer k_Cb_answer 3 (Option.some FieldType.int) ∈ gd := tb_2 (i := 195) rfl rfl
theorem im_Cb_answer : Cond.instanceMethod y_Cb_answer ∈ gd := tb_2 (i := 193) rfl rfl
theorem se_Cb_answer : Cond.selects "CopyBench" y_Cb_answer y_Cb_answer ∈ gd := tb_2 (i := 194) rfl rfl
abbrev k_Cb_of : ByteArray := prog_1_method_13_code
def y_Cb_of : MethodName := ⟨"CopyBench", "of", "(II)I"⟩
theorem co_Cb_of : Cond.code y_Cb_of k_Cb_of 3 (Option.some FieldType.int) ∈ gd := tb_2 (i := 199) rfl rfl
theorem im_Cb_of : Cond.instanceMethod y_Cb_of ∈ gd := tb_2 (i := 197) rfl rfl
theorem se_Cb_of : Cond.selects "CopyBench" y_Cb_of y_Cb_of ∈ gd := tb_2 (i := 198) rfl rfl
abbrev k_Cb_itemOf : ByteArray := prog_1_method_14_code
def y_Cb_itemOf : MethodName := ⟨"CopyBench", "itemOf", "(II)I"⟩
theorem co_Cb_itemOf : Cond.code y_Cb_itemOf k_Cb_itemOf 3 (Option.some FieldType.int) ∈ gd := tb_2 (i := 211) rfl rfl
theorem im_Cb_itemOf : Cond.instanceMethod y_Cb_itemOf ∈ gd := tb_2 (i := 209) rfl rfl
theorem se_Cb_itemOf : Cond.selects "CopyBench" y_Cb_itemOf y_Cb_itemOf ∈ gd := tb_2 (i := 210) rfl rfl
abbrev k_Cb_taken : ByteArray := prog_1_method_15_code
def y_Cb_taken : MethodName := ⟨"CopyBench", "taken", "(II)I"⟩
theorem co_Cb_taken : Cond.code y_Cb_taken k_Cb_taken 4 (Option.some FieldType.int) ∈ gd := tb_2 (i := 228) rfl rfl
theorem im_Cb_taken : Cond.instanceMethod y_Cb_taken ∈ gd := tb_2 (i := 226) rfl rfl
theorem se_Cb_taken : Cond.selects "CopyBench" y_Cb_taken y_Cb_taken ∈ gd := tb_2 (i := 227) rfl rfl
abbrev k_Cb_share : ByteArray := prog_1_method_16_code
def y_Cb_share : MethodName := ⟨"CopyBench", "share", "(IIII)I"⟩
theorem co_Cb_share : Cond.code y_Cb_share k_Cb_share 5 (Option.some FieldType.int) ∈ gd := tb_2 (i := 235) rfl rfl
theorem im_Cb_share : Cond.instanceMethod y_Cb_share ∈ gd := tb_2 (i := 233) rfl rfl
theorem se_Cb_share : Cond.selects "CopyBench" y_Cb_share y_Cb_share ∈ gd := tb_2 (i := 234) rfl rfl
abbrev k_Cb_alike : ByteArray := prog_1_method_17_code
def y_Cb_alike : MethodName := ⟨"CopyBench", "alike", "(II)I"⟩
theorem co_Cb_alike : Cond.code y_Cb_alike k_Cb_alike 3 (Option.some FieldType.int) ∈ gd := tb_3 (i := 12) rfl rfl
theorem im_Cb_alike : Cond.instanceMethod y_Cb_alike ∈ gd := tb_3 (i := 10) rfl rfl
theorem se_Cb_alike : Cond.selects "CopyBench" y_Cb_alike y_Cb_alike ∈ gd := tb_3 (i := 11) rfl rfl
abbrev k_Cb_odds : ByteArray := prog_1_method_18_code
def y_Cb_odds : MethodName := ⟨"CopyBench", "odds", "(IIII)J"⟩
theorem co_Cb_odds : Cond.code y_Cb_odds k_Cb_odds 5 (Option.some FieldType.long) ∈ gd := tb_3 (i := 28) rfl rfl
theorem im_Cb_odds : Cond.instanceMethod y_Cb_odds ∈ gd := tb_3 (i := 26) rfl rfl
theorem se_Cb_odds : Cond.selects "CopyBench" y_Cb_odds y_Cb_odds ∈ gd := tb_3 (i := 27) rfl rfl
abbrev k_Cb_just : ByteArray := prog_1_method_19_code
def y_Cb_just : MethodName := ⟨"CopyBench", "just", "(IIIII)J"⟩
theorem co_Cb_just : Cond.code y_Cb_just k_Cb_just 6 (Option.some FieldType.long) ∈ gd := tb_3 (i := 82) rfl rfl
theorem im_Cb_just : Cond.instanceMethod y_Cb_just ∈ gd := tb_3 (i := 80) rfl rfl
theorem se_Cb_just : Cond.selects "CopyBench" y_Cb_just y_Cb_just ∈ gd := tb_3 (i := 81) rfl rfl
abbrev k_Cb_source : ByteArray := prog_1_method_20_code
def y_Cb_source : MethodName := ⟨"CopyBench", "source", "(II)I"⟩
theorem co_Cb_source : Cond.code y_Cb_source k_Cb_source 4 (Option.some FieldType.int) ∈ gd := tb_3 (i := 90) rfl rfl
theorem im_Cb_source : Cond.instanceMethod y_Cb_source ∈ gd := tb_3 (i := 88) rfl rfl
theorem se_Cb_source : Cond.selects "CopyBench" y_Cb_source y_Cb_source ∈ gd := tb_3 (i := 89) rfl rfl
abbrev k_Cb_without : ByteArray := prog_1_method_21_code
def y_Cb_without : MethodName := ⟨"CopyBench", "without", "(IIII)J"⟩
theorem co_Cb_without : Cond.code y_Cb_without k_Cb_without 5 (Option.some FieldType.long) ∈ gd := tb_3 (i := 101) rfl rfl
theorem im_Cb_without : Cond.instanceMethod y_Cb_without ∈ gd := tb_3 (i := 99) rfl rfl
theorem se_Cb_without : Cond.selects "CopyBench" y_Cb_without y_Cb_without ∈ gd := tb_3 (i := 100) rfl rfl
abbrev k_Cb_key : ByteArray := prog_1_method_22_code
def y_Cb_key : MethodName := ⟨"CopyBench", "key", "(II)I"⟩
theorem co_Cb_key : Cond.code y_Cb_key k_Cb_key 5 (Option.some FieldType.int) ∈ gd := tb_3 (i := 105) rfl rfl
theorem im_Cb_key : Cond.instanceMethod y_Cb_key ∈ gd := tb_3 (i := 103) rfl rfl
theorem se_Cb_key : Cond.selects "CopyBench" y_Cb_key y_Cb_key ∈ gd := tb_3 (i := 104) rfl rfl
abbrev k_Cb_pairs : ByteArray := prog_1_method_23_code
def y_Cb_pairs : MethodName := ⟨"CopyBench", "pairs", "(II)I"⟩
theorem co_Cb_pairs : Cond.code y_Cb_pairs k_Cb_pairs 3 (Option.some FieldType.int) ∈ gd := tb_3 (i := 113) rfl rfl
theorem im_Cb_pairs : Cond.instanceMethod y_Cb_pairs ∈ gd := tb_3 (i := 111) rfl rfl
theorem se_Cb_pairs : Cond.selects "CopyBench" y_Cb_pairs y_Cb_pairs ∈ gd := tb_3 (i := 112) rfl rfl
abbrev k_Cb_pair : ByteArray := prog_1_method_24_code
def y_Cb_pair : MethodName := ⟨"CopyBench", "pair", "(II)I"⟩
theorem co_Cb_pair : Cond.code y_Cb_pair k_Cb_pair 3 (Option.some FieldType.int) ∈ gd := tb_3 (i := 199) rfl rfl
theorem im_Cb_pair : Cond.instanceMethod y_Cb_pair ∈ gd := tb_3 (i := 197) rfl rfl
theorem se_Cb_pair : Cond.selects "CopyBench" y_Cb_pair y_Cb_pair ∈ gd := tb_3 (i := 198) rfl rfl
abbrev k_Cb_pairOdds : ByteArray := prog_1_method_25_code
def y_Cb_pairOdds : MethodName := ⟨"CopyBench", "pairOdds", "(II)J"⟩
theorem co_Cb_pairOdds : Cond.code y_Cb_pairOdds k_Cb_pairOdds 3 (Option.some FieldType.long) ∈ gd := tb_3 (i := 207) rfl rfl
theorem im_Cb_pairOdds : Cond.instanceMethod y_Cb_pairOdds ∈ gd := tb_3 (i := 205) rfl rfl
theorem se_Cb_pairOdds : Cond.selects "CopyBench" y_Cb_pairOdds y_Cb_pairOdds ∈ gd := tb_3 (i := 206) rfl rfl
abbrev k_Cb_rank : ByteArray := prog_1_method_26_code
def y_Cb_rank : MethodName := ⟨"CopyBench", "rank", "(II)I"⟩
theorem co_Cb_rank : Cond.code y_Cb_rank k_Cb_rank 3 (Option.some FieldType.int) ∈ gd := tb_3 (i := 211) rfl rfl
theorem im_Cb_rank : Cond.instanceMethod y_Cb_rank ∈ gd := tb_3 (i := 209) rfl rfl
theorem se_Cb_rank : Cond.selects "CopyBench" y_Cb_rank y_Cb_rank ∈ gd := tb_3 (i := 210) rfl rfl
abbrev k_Cb_linked : ByteArray := prog_1_method_27_code
def y_Cb_linked : MethodName := ⟨"CopyBench", "linked", "(I)I"⟩
theorem co_Cb_linked : Cond.code y_Cb_linked k_Cb_linked 2 (Option.some FieldType.int) ∈ gd := tb_3 (i := 221) rfl rfl
theorem im_Cb_linked : Cond.instanceMethod y_Cb_linked ∈ gd := tb_3 (i := 219) rfl rfl
theorem se_Cb_linked : Cond.selects "CopyBench" y_Cb_linked y_Cb_linked ∈ gd := tb_3 (i := 220) rfl rfl
abbrev k_Cb_chain : ByteArray := prog_1_method_28_code
def y_Cb_chain : MethodName := ⟨"CopyBench", "chain", "(I)I"⟩
theorem co_Cb_chain : Cond.code y_Cb_chain k_Cb_chain 2 (Option.some FieldType.int) ∈ gd := tb_3 (i := 225) rfl rfl
theorem im_Cb_chain : Cond.instanceMethod y_Cb_chain ∈ gd := tb_3 (i := 223) rfl rfl
theorem se_Cb_chain : Cond.selects "CopyBench" y_Cb_chain y_Cb_chain ∈ gd := tb_3 (i := 224) rfl rfl
abbrev k_Cb_group : ByteArray := prog_1_method_29_code
def y_Cb_group : MethodName := ⟨"CopyBench", "group", "(I)I"⟩
theorem co_Cb_group : Cond.code y_Cb_group k_Cb_group 2 (Option.some FieldType.int) ∈ gd := tb_3 (i := 233) rfl rfl
theorem im_Cb_group : Cond.instanceMethod y_Cb_group ∈ gd := tb_3 (i := 231) rfl rfl
theorem se_Cb_group : Cond.selects "CopyBench" y_Cb_group y_Cb_group ∈ gd := tb_3 (i := 232) rfl rfl
abbrev k_Cb_seated : ByteArray := prog_1_method_30_code
def y_Cb_seated : MethodName := ⟨"CopyBench", "seated", "(II)J"⟩
theorem co_Cb_seated : Cond.code y_Cb_seated k_Cb_seated 3 (Option.some FieldType.long) ∈ gd := tb_4 (i := 1) rfl rfl
theorem im_Cb_seated : Cond.instanceMethod y_Cb_seated ∈ gd := tb_3 (i := 239) rfl rfl
theorem se_Cb_seated : Cond.selects "CopyBench" y_Cb_seated y_Cb_seated ∈ gd := tb_4 (i := 0) rfl rfl
abbrev k_Cb_drawn : ByteArray := prog_1_method_31_code
def y_Cb_drawn : MethodName := ⟨"CopyBench", "drawn", "(III)I"⟩
theorem co_Cb_drawn : Cond.code y_Cb_drawn k_Cb_drawn 4 (Option.some FieldType.int) ∈ gd := tb_4 (i := 36) rfl rfl
theorem im_Cb_drawn : Cond.instanceMethod y_Cb_drawn ∈ gd := tb_4 (i := 34) rfl rfl
theorem se_Cb_drawn : Cond.selects "CopyBench" y_Cb_drawn y_Cb_drawn ∈ gd := tb_4 (i := 35) rfl rfl
abbrev k_Cb_chance : ByteArray := prog_1_method_32_code
def y_Cb_chance : MethodName := ⟨"CopyBench", "chance", "(IIIII)J"⟩
theorem co_Cb_chance : Cond.code y_Cb_chance k_Cb_chance 8 (Option.some FieldType.long) ∈ gd := tb_4 (i := 56) rfl rfl
theorem im_Cb_chance : Cond.instanceMethod y_Cb_chance ∈ gd := tb_4 (i := 54) rfl rfl
theorem se_Cb_chance : Cond.selects "CopyBench" y_Cb_chance y_Cb_chance ∈ gd := tb_4 (i := 55) rfl rfl
abbrev k_Cb_see : ByteArray := prog_1_method_33_code
def y_Cb_see : MethodName := ⟨"CopyBench", "see", "(IIZ)I"⟩
theorem co_Cb_see : Cond.code y_Cb_see k_Cb_see 4 (Option.some FieldType.int) ∈ gd := tb_4 (i := 62) rfl rfl
theorem im_Cb_see : Cond.instanceMethod y_Cb_see ∈ gd := tb_4 (i := 60) rfl rfl
theorem se_Cb_see : Cond.selects "CopyBench" y_Cb_see y_Cb_see ∈ gd := tb_4 (i := 61) rfl rfl
abbrev k_Cb_fits : ByteArray := prog_1_method_34_code
def y_Cb_fits : MethodName := ⟨"CopyBench", "fits", "(I)I"⟩
theorem co_Cb_fits : Cond.code y_Cb_fits k_Cb_fits 5 (Option.some FieldType.int) ∈ gd := tb_4 (i := 70) rfl rfl
theorem im_Cb_fits : Cond.instanceMethod y_Cb_fits ∈ gd := tb_4 (i := 68) rfl rfl
theorem se_Cb_fits : Cond.selects "CopyBench" y_Cb_fits y_Cb_fits ∈ gd := tb_4 (i := 69) rfl rfl
abbrev k_Cb_mean : ByteArray := prog_1_method_35_code
def y_Cb_mean : MethodName := ⟨"CopyBench", "mean", "(I)J"⟩
theorem co_Cb_mean : Cond.code y_Cb_mean k_Cb_mean 3 (Option.some FieldType.long) ∈ gd := tb_4 (i := 79) rfl rfl
theorem im_Cb_mean : Cond.instanceMethod y_Cb_mean ∈ gd := tb_4 (i := 77) rfl rfl
theorem se_Cb_mean : Cond.selects "CopyBench" y_Cb_mean y_Cb_mean ∈ gd := tb_4 (i := 78) rfl rfl
abbrev k_Cb_plan : ByteArray := prog_1_method_36_code
def y_Cb_plan : MethodName := ⟨"CopyBench", "plan", "(III)I"⟩
theorem co_Cb_plan : Cond.code y_Cb_plan k_Cb_plan 4 (Option.some FieldType.int) ∈ gd := tb_4 (i := 89) rfl rfl
theorem im_Cb_plan : Cond.instanceMethod y_Cb_plan ∈ gd := tb_4 (i := 87) rfl rfl
theorem se_Cb_plan : Cond.selects "CopyBench" y_Cb_plan y_Cb_plan ∈ gd := tb_4 (i := 88) rfl rfl
abbrev k_Cb_ends : ByteArray := prog_1_method_37_code
def y_Cb_ends : MethodName := ⟨"CopyBench", "ends", "()I"⟩
theorem co_Cb_ends : Cond.code y_Cb_ends k_Cb_ends 1 (Option.some FieldType.int) ∈ gd := tb_4 (i := 103) rfl rfl
theorem im_Cb_ends : Cond.instanceMethod y_Cb_ends ∈ gd := tb_4 (i := 101) rfl rfl
theorem se_Cb_ends : Cond.selects "CopyBench" y_Cb_ends y_Cb_ends ∈ gd := tb_4 (i := 102) rfl rfl
abbrev k_Cb_judge : ByteArray := prog_1_method_38_code
def y_Cb_judge : MethodName := ⟨"CopyBench", "judge", "(III)I"⟩
theorem co_Cb_judge : Cond.code y_Cb_judge k_Cb_judge 6 (Option.some FieldType.int) ∈ gd := tb_4 (i := 123) rfl rfl
theorem im_Cb_judge : Cond.instanceMethod y_Cb_judge ∈ gd := tb_4 (i := 121) rfl rfl
theorem se_Cb_judge : Cond.selects "CopyBench" y_Cb_judge y_Cb_judge ∈ gd := tb_4 (i := 122) rfl rfl
abbrev k_Cb_image : ByteArray := prog_1_method_39_code
def y_Cb_image : MethodName := ⟨"CopyBench", "image", "()I"⟩
theorem co_Cb_image : Cond.code y_Cb_image k_Cb_image 1 (Option.some FieldType.int) ∈ gd := tb_4 (i := 138) rfl rfl
theorem im_Cb_image : Cond.instanceMethod y_Cb_image ∈ gd := tb_4 (i := 136) rfl rfl
theorem se_Cb_image : Cond.selects "CopyBench" y_Cb_image y_Cb_image ∈ gd := tb_4 (i := 137) rfl rfl
abbrev k_Cb_undo : ByteArray := prog_1_method_40_code
def y_Cb_undo : MethodName := ⟨"CopyBench", "undo", "()I"⟩
theorem co_Cb_undo : Cond.code y_Cb_undo k_Cb_undo 1 (Option.some FieldType.int) ∈ gd := tb_4 (i := 142) rfl rfl
theorem im_Cb_undo : Cond.instanceMethod y_Cb_undo ∈ gd := tb_4 (i := 140) rfl rfl
theorem se_Cb_undo : Cond.selects "CopyBench" y_Cb_undo y_Cb_undo ∈ gd := tb_4 (i := 141) rfl rfl
abbrev k_Cb_count : ByteArray := prog_1_method_41_code
def y_Cb_count : MethodName := ⟨"CopyBench", "count", "(I)I"⟩
theorem co_Cb_count : Cond.code y_Cb_count k_Cb_count 2 (Option.some FieldType.int) ∈ gd := tb_4 (i := 146) rfl rfl
theorem im_Cb_count : Cond.instanceMethod y_Cb_count ∈ gd := tb_4 (i := 144) rfl rfl
theorem se_Cb_count : Cond.selects "CopyBench" y_Cb_count y_Cb_count ∈ gd := tb_4 (i := 145) rfl rfl
abbrev k_Cb_tape : ByteArray := prog_1_method_42_code
def y_Cb_tape : MethodName := ⟨"CopyBench", "tape", "(III)I"⟩
theorem co_Cb_tape : Cond.code y_Cb_tape k_Cb_tape 4 (Option.some FieldType.int) ∈ gd := tb_4 (i := 154) rfl rfl
theorem im_Cb_tape : Cond.instanceMethod y_Cb_tape ∈ gd := tb_4 (i := 152) rfl rfl
theorem se_Cb_tape : Cond.selects "CopyBench" y_Cb_tape y_Cb_tape ∈ gd := tb_4 (i := 153) rfl rfl
abbrev k_Cb_item : ByteArray := prog_1_method_43_code
def y_Cb_item : MethodName := ⟨"CopyBench", "item", "(IIJ)I"⟩
theorem co_Cb_item : Cond.code y_Cb_item k_Cb_item 6 (Option.some FieldType.int) ∈ gd := tb_4 (i := 162) rfl rfl
theorem im_Cb_item : Cond.instanceMethod y_Cb_item ∈ gd := tb_4 (i := 160) rfl rfl
theorem se_Cb_item : Cond.selects "CopyBench" y_Cb_item y_Cb_item ∈ gd := tb_4 (i := 161) rfl rfl
abbrev k_Cb_peek : ByteArray := prog_1_method_44_code
def y_Cb_peek : MethodName := ⟨"CopyBench", "peek", "(II)J"⟩
theorem co_Cb_peek : Cond.code y_Cb_peek k_Cb_peek 3 (Option.some FieldType.long) ∈ gd := tb_4 (i := 174) rfl rfl
theorem im_Cb_peek : Cond.instanceMethod y_Cb_peek ∈ gd := tb_4 (i := 172) rfl rfl
theorem se_Cb_peek : Cond.selects "CopyBench" y_Cb_peek y_Cb_peek ∈ gd := tb_4 (i := 173) rfl rfl
abbrev k_Cb_shift : ByteArray := prog_1_method_45_code
def y_Cb_shift : MethodName := ⟨"CopyBench", "shift", "(IIIII)I"⟩
theorem co_Cb_shift : Cond.code y_Cb_shift k_Cb_shift 8 (Option.some FieldType.int) ∈ gd := tb_4 (i := 178) rfl rfl
theorem im_Cb_shift : Cond.instanceMethod y_Cb_shift ∈ gd := tb_4 (i := 176) rfl rfl
theorem se_Cb_shift : Cond.selects "CopyBench" y_Cb_shift y_Cb_shift ∈ gd := tb_4 (i := 177) rfl rfl
abbrev k_Cb_rankNow : ByteArray := prog_1_method_46_code
def y_Cb_rankNow : MethodName := ⟨"CopyBench", "rankNow", "()V"⟩
theorem co_Cb_rankNow : Cond.code y_Cb_rankNow k_Cb_rankNow 1 (Option.none : Option FieldType) ∈ gd := tb_3 (i := 136) rfl rfl
theorem im_Cb_rankNow : Cond.instanceMethod y_Cb_rankNow ∈ gd := tb_3 (i := 135) rfl rfl
theorem se_Cb_rankNow : Cond.selects "CopyBench" y_Cb_rankNow y_Cb_rankNow ∈ gd := List.mem_filter.mpr ⟨List.mem_append_left _ (List.mem_map.mpr ⟨(y_Cb_rankNow, 13), by decide +kernel, rfl⟩), rfl⟩
abbrev k_Cb_linkNow : ByteArray := prog_1_method_47_code
def y_Cb_linkNow : MethodName := ⟨"CopyBench", "linkNow", "()V"⟩
theorem co_Cb_linkNow : Cond.code y_Cb_linkNow k_Cb_linkNow 1 (Option.none : Option FieldType) ∈ gd := tb_3 (i := 172) rfl rfl
theorem im_Cb_linkNow : Cond.instanceMethod y_Cb_linkNow ∈ gd := tb_3 (i := 171) rfl rfl
theorem se_Cb_linkNow : Cond.selects "CopyBench" y_Cb_linkNow y_Cb_linkNow ∈ gd := List.mem_filter.mpr ⟨List.mem_append_left _ (List.mem_map.mpr ⟨(y_Cb_linkNow, 13), by decide +kernel, rfl⟩), rfl⟩
abbrev k_Cb_orNeither : ByteArray := prog_1_method_48_code
def y_Cb_orNeither : MethodName := ⟨"CopyBench", "orNeither", "(I)I"⟩
theorem co_Cb_orNeither : Cond.code y_Cb_orNeither k_Cb_orNeither 1 (Option.some FieldType.int) ∈ gd := tb_2 (i := 139) rfl rfl
theorem st_Cb_orNeither : Cond.static y_Cb_orNeither ∈ gd := tb_2 (i := 138) rfl rfl
abbrev k_Cb_isAnswer : ByteArray := prog_1_method_49_code
def y_Cb_isAnswer : MethodName := ⟨"CopyBench", "isAnswer", "(I)Z"⟩
theorem co_Cb_isAnswer : Cond.code y_Cb_isAnswer k_Cb_isAnswer 1 (Option.some FieldType.boolean) ∈ gd := tb_2 (i := 109) rfl rfl
theorem st_Cb_isAnswer : Cond.static y_Cb_isAnswer ∈ gd := tb_2 (i := 108) rfl rfl
abbrev k_Cb_isKind : ByteArray := prog_1_method_50_code
def y_Cb_isKind : MethodName := ⟨"CopyBench", "isKind", "(I)Z"⟩
theorem co_Cb_isKind : Cond.code y_Cb_isKind k_Cb_isKind 1 (Option.some FieldType.boolean) ∈ gd := tb_2 (i := 116) rfl rfl
theorem st_Cb_isKind : Cond.static y_Cb_isKind ∈ gd := tb_2 (i := 115) rfl rfl
abbrev k_Cb_isSupposition : ByteArray := prog_1_method_51_code
def y_Cb_isSupposition : MethodName := ⟨"CopyBench", "isSupposition", "(I)Z"⟩
theorem co_Cb_isSupposition : Cond.code y_Cb_isSupposition k_Cb_isSupposition 1 (Option.some FieldType.boolean) ∈ gd := tb_3 (i := 31) rfl rfl
theorem st_Cb_isSupposition : Cond.static y_Cb_isSupposition ∈ gd := tb_3 (i := 30) rfl rfl
abbrev k_Cb_isPart : ByteArray := prog_1_method_52_code
def y_Cb_isPart : MethodName := ⟨"CopyBench", "isPart", "(I)Z"⟩
theorem co_Cb_isPart : Cond.code y_Cb_isPart k_Cb_isPart 1 (Option.some FieldType.boolean) ∈ gd := tb_3 (i := 34) rfl rfl
theorem st_Cb_isPart : Cond.static y_Cb_isPart ∈ gd := tb_3 (i := 33) rfl rfl
abbrev k_Cb_isTape : ByteArray := prog_1_method_53_code
def y_Cb_isTape : MethodName := ⟨"CopyBench", "isTape", "(I)Z"⟩
theorem co_Cb_isTape : Cond.code y_Cb_isTape k_Cb_isTape 1 (Option.some FieldType.boolean) ∈ gd := tb_4 (i := 126) rfl rfl
theorem st_Cb_isTape : Cond.static y_Cb_isTape ∈ gd := tb_4 (i := 125) rfl rfl
abbrev k_Cb_isOfSort : ByteArray := prog_1_method_54_code
def y_Cb_isOfSort : MethodName := ⟨"CopyBench", "isOfSort", "(II)Z"⟩
theorem co_Cb_isOfSort : Cond.code y_Cb_isOfSort k_Cb_isOfSort 2 (Option.some FieldType.boolean) ∈ gd := tb_2 (i := 231) rfl rfl
theorem st_Cb_isOfSort : Cond.static y_Cb_isOfSort ∈ gd := tb_2 (i := 230) rfl rfl
abbrev k_Cb_leastUse : ByteArray := prog_1_method_55_code
def y_Cb_leastUse : MethodName := ⟨"CopyBench", "leastUse", "(I)I"⟩
theorem co_Cb_leastUse : Cond.code y_Cb_leastUse k_Cb_leastUse 1 (Option.some FieldType.int) ∈ gd := tb_2 (i := 188) rfl rfl
theorem st_Cb_leastUse : Cond.static y_Cb_leastUse ∈ gd := tb_2 (i := 187) rfl rfl
abbrev k_Cb_mostUse : ByteArray := prog_1_method_56_code
def y_Cb_mostUse : MethodName := ⟨"CopyBench", "mostUse", "(I)I"⟩
theorem co_Cb_mostUse : Cond.code y_Cb_mostUse k_Cb_mostUse 1 (Option.some FieldType.int) ∈ gd := tb_2 (i := 191) rfl rfl
theorem st_Cb_mostUse : Cond.static y_Cb_mostUse ∈ gd := tb_2 (i := 190) rfl rfl
abbrev k_Md_init : ByteArray := prog_12_method_1_code
def y_Md_init : MethodName := ⟨"CopyBenchModel", "<init>", "()V"⟩
theorem co_Md_init : Cond.code y_Md_init k_Md_init 1 (Option.none : Option FieldType) ∈ gd := tb_4 (i := 188) rfl rfl
theorem im_Md_init : Cond.instanceMethod y_Md_init ∈ gd := tb_4 (i := 187) rfl rfl
abbrev k_Md_in : ByteArray := prog_12_method_2_code
def y_Md_in : MethodName := ⟨"CopyBenchModel", "in", "(JJJ)Z"⟩
theorem co_Md_in : Cond.code y_Md_in k_Md_in 6 (Option.some FieldType.boolean) ∈ gd := tb_5 (i := 125) rfl rfl
theorem st_Md_in : Cond.static y_Md_in ∈ gd := tb_5 (i := 124) rfl rfl
abbrev k_Md_isItem : ByteArray := prog_12_method_3_code
def y_Md_isItem : MethodName := ⟨"CopyBenchModel", "isItem", "(I)Z"⟩
theorem co_Md_isItem : Cond.code y_Md_isItem k_Md_isItem 2 (Option.some FieldType.boolean) ∈ gd := tb_5 (i := 133) rfl rfl
theorem im_Md_isItem : Cond.instanceMethod y_Md_isItem ∈ gd := tb_5 (i := 132) rfl rfl
theorem se_Md_isItem : Cond.selects "CopyBenchModel" y_Md_isItem y_Md_isItem ∈ gd := List.mem_filter.mpr ⟨List.mem_append_left _ (List.mem_map.mpr ⟨(y_Md_isItem, 47), by decide +kernel, rfl⟩), rfl⟩
abbrev k_Md_isOne : ByteArray := prog_12_method_4_code
def y_Md_isOne : MethodName := ⟨"CopyBenchModel", "isOne", "(I)Z"⟩
theorem co_Md_isOne : Cond.code y_Md_isOne k_Md_isOne 2 (Option.some FieldType.boolean) ∈ gd := tb_5 (i := 154) rfl rfl
theorem im_Md_isOne : Cond.instanceMethod y_Md_isOne ∈ gd := tb_5 (i := 153) rfl rfl
theorem se_Md_isOne : Cond.selects "CopyBenchModel" y_Md_isOne y_Md_isOne ∈ gd := List.mem_filter.mpr ⟨List.mem_append_left _ (List.mem_map.mpr ⟨(y_Md_isOne, 47), by decide +kernel, rfl⟩), rfl⟩
abbrev k_Md_isTwo : ByteArray := prog_12_method_5_code
def y_Md_isTwo : MethodName := ⟨"CopyBenchModel", "isTwo", "(II)Z"⟩
theorem co_Md_isTwo : Cond.code y_Md_isTwo k_Md_isTwo 3 (Option.some FieldType.boolean) ∈ gd := tb_5 (i := 237) rfl rfl
theorem im_Md_isTwo : Cond.instanceMethod y_Md_isTwo ∈ gd := tb_5 (i := 236) rfl rfl
theorem se_Md_isTwo : Cond.selects "CopyBenchModel" y_Md_isTwo y_Md_isTwo ∈ gd := List.mem_filter.mpr ⟨List.mem_append_left _ (List.mem_map.mpr ⟨(y_Md_isTwo, 47), by decide +kernel, rfl⟩), rfl⟩
abbrev k_Md_begins : ByteArray := prog_12_method_6_code
def y_Md_begins : MethodName := ⟨"CopyBenchModel", "begins", "()V"⟩
theorem co_Md_begins : Cond.code y_Md_begins k_Md_begins 2 (Option.none : Option FieldType) ∈ gd := tb_4 (i := 195) rfl rfl
theorem im_Md_begins : Cond.instanceMethod y_Md_begins ∈ gd := tb_4 (i := 194) rfl rfl
theorem se_Md_begins : Cond.selects "CopyBenchModel" y_Md_begins y_Md_begins ∈ gd := List.mem_filter.mpr ⟨List.mem_append_left _ (List.mem_map.mpr ⟨(y_Md_begins, 47), by decide +kernel, rfl⟩), rfl⟩
abbrev k_Md_passes : ByteArray := prog_12_method_7_code
def y_Md_passes : MethodName := ⟨"CopyBenchModel", "passes", "(I)I"⟩
theorem co_Md_passes : Cond.code y_Md_passes k_Md_passes 3 (Option.some FieldType.int) ∈ gd := tb_5 (i := 109) rfl rfl
theorem im_Md_passes : Cond.instanceMethod y_Md_passes ∈ gd := tb_5 (i := 108) rfl rfl
theorem se_Md_passes : Cond.selects "CopyBenchModel" y_Md_passes y_Md_passes ∈ gd := List.mem_filter.mpr ⟨List.mem_append_left _ (List.mem_map.mpr ⟨(y_Md_passes, 47), by decide +kernel, rfl⟩), rfl⟩
abbrev k_Md_passesRow : ByteArray := prog_12_method_8_code
def y_Md_passesRow : MethodName := ⟨"CopyBenchModel", "passesRow", "([I)V"⟩
theorem co_Md_passesRow : Cond.code y_Md_passesRow k_Md_passesRow 3 (Option.none : Option FieldType) ∈ gd := tb_5 (i := 113) rfl rfl
theorem im_Md_passesRow : Cond.instanceMethod y_Md_passesRow ∈ gd := tb_5 (i := 112) rfl rfl
theorem se_Md_passesRow : Cond.selects "CopyBenchModel" y_Md_passesRow y_Md_passesRow ∈ gd := List.mem_filter.mpr ⟨List.mem_append_left _ (List.mem_map.mpr ⟨(y_Md_passesRow, 47), by decide +kernel, rfl⟩), rfl⟩
abbrev k_Md_passesAll : ByteArray := prog_12_method_9_code
def y_Md_passesAll : MethodName := ⟨"CopyBenchModel", "passesAll", "(Z)I"⟩
theorem co_Md_passesAll : Cond.code y_Md_passesAll k_Md_passesAll 2 (Option.some FieldType.int) ∈ gd := tb_5 (i := 105) rfl rfl
theorem im_Md_passesAll : Cond.instanceMethod y_Md_passesAll ∈ gd := tb_5 (i := 104) rfl rfl
theorem se_Md_passesAll : Cond.selects "CopyBenchModel" y_Md_passesAll y_Md_passesAll ∈ gd := List.mem_filter.mpr ⟨List.mem_append_left _ (List.mem_map.mpr ⟨(y_Md_passesAll, 47), by decide +kernel, rfl⟩), rfl⟩
abbrev k_Md_image : ByteArray := prog_12_method_10_code
def y_Md_image : MethodName := ⟨"CopyBenchModel", "image", "()I"⟩
theorem co_Md_image : Cond.code y_Md_image k_Md_image 1 (Option.some FieldType.int) ∈ gd := tb_5 (i := 101) rfl rfl
theorem im_Md_image : Cond.instanceMethod y_Md_image ∈ gd := tb_5 (i := 99) rfl rfl
theorem se_Md_image : Cond.selects "CopyBenchModel" y_Md_image y_Md_image ∈ gd := tb_5 (i := 100) rfl rfl
abbrev k_Md_undo : ByteArray := prog_12_method_11_code
def y_Md_undo : MethodName := ⟨"CopyBenchModel", "undo", "()I"⟩
theorem co_Md_undo : Cond.code y_Md_undo k_Md_undo 1 (Option.some FieldType.int) ∈ gd := tb_5 (i := 117) rfl rfl
theorem im_Md_undo : Cond.instanceMethod y_Md_undo ∈ gd := tb_5 (i := 115) rfl rfl
theorem se_Md_undo : Cond.selects "CopyBenchModel" y_Md_undo y_Md_undo ∈ gd := tb_5 (i := 116) rfl rfl
abbrev k_Md_items : ByteArray := prog_12_method_12_code
def y_Md_items : MethodName := ⟨"CopyBenchModel", "items", "(I)I"⟩
theorem co_Md_items : Cond.code y_Md_items k_Md_items 3 (Option.some FieldType.int) ∈ gd := tb_5 (i := 121) rfl rfl
theorem im_Md_items : Cond.instanceMethod y_Md_items ∈ gd := tb_5 (i := 119) rfl rfl
theorem se_Md_items : Cond.selects "CopyBenchModel" y_Md_items y_Md_items ∈ gd := tb_5 (i := 120) rfl rfl
abbrev k_Md_right : ByteArray := prog_12_method_13_code
def y_Md_right : MethodName := ⟨"CopyBenchModel", "right", "(II)I"⟩
theorem co_Md_right : Cond.code y_Md_right k_Md_right 4 (Option.some FieldType.int) ∈ gd := tb_5 (i := 129) rfl rfl
theorem im_Md_right : Cond.instanceMethod y_Md_right ∈ gd := tb_5 (i := 127) rfl rfl
theorem se_Md_right : Cond.selects "CopyBenchModel" y_Md_right y_Md_right ∈ gd := tb_5 (i := 128) rfl rfl
abbrev k_Md_model : ByteArray := prog_12_method_14_code
def y_Md_model : MethodName := ⟨"CopyBenchModel", "model", "(II)I"⟩
theorem co_Md_model : Cond.code y_Md_model k_Md_model 4 (Option.some FieldType.int) ∈ gd := tb_5 (i := 138) rfl rfl
theorem im_Md_model : Cond.instanceMethod y_Md_model ∈ gd := tb_5 (i := 136) rfl rfl
theorem se_Md_model : Cond.selects "CopyBenchModel" y_Md_model y_Md_model ∈ gd := tb_5 (i := 137) rfl rfl
abbrev k_Md_part : ByteArray := prog_12_method_15_code
def y_Md_part : MethodName := ⟨"CopyBenchModel", "part", "(III)I"⟩
theorem co_Md_part : Cond.code y_Md_part k_Md_part 5 (Option.some FieldType.int) ∈ gd := tb_5 (i := 142) rfl rfl
theorem im_Md_part : Cond.instanceMethod y_Md_part ∈ gd := tb_5 (i := 140) rfl rfl
theorem se_Md_part : Cond.selects "CopyBenchModel" y_Md_part y_Md_part ∈ gd := tb_5 (i := 141) rfl rfl
abbrev k_Md_candidate : ByteArray := prog_12_method_16_code
def y_Md_candidate : MethodName := ⟨"CopyBenchModel", "candidate", "()I"⟩
theorem co_Md_candidate : Cond.code y_Md_candidate k_Md_candidate 2 (Option.some FieldType.int) ∈ gd := tb_5 (i := 146) rfl rfl
theorem im_Md_candidate : Cond.instanceMethod y_Md_candidate ∈ gd := tb_5 (i := 144) rfl rfl
theorem se_Md_candidate : Cond.selects "CopyBenchModel" y_Md_candidate y_Md_candidate ∈ gd := tb_5 (i := 145) rfl rfl
abbrev k_Md_told : ByteArray := prog_12_method_17_code
def y_Md_told : MethodName := ⟨"CopyBenchModel", "told", "(I)I"⟩
theorem co_Md_told : Cond.code y_Md_told k_Md_told 1 (Option.some FieldType.int) ∈ gd := tb_5 (i := 158) rfl rfl
theorem st_Md_told : Cond.static y_Md_told ∈ gd := tb_5 (i := 157) rfl rfl
abbrev k_Md_gives : ByteArray := prog_12_method_18_code
def y_Md_gives : MethodName := ⟨"CopyBenchModel", "gives", "(III)I"⟩
theorem co_Md_gives : Cond.code y_Md_gives k_Md_gives 5 (Option.some FieldType.int) ∈ gd := tb_5 (i := 150) rfl rfl
theorem im_Md_gives : Cond.instanceMethod y_Md_gives ∈ gd := tb_5 (i := 148) rfl rfl
theorem se_Md_gives : Cond.selects "CopyBenchModel" y_Md_gives y_Md_gives ∈ gd := tb_5 (i := 149) rfl rfl
abbrev k_Md_seat : ByteArray := prog_12_method_19_code
def y_Md_seat : MethodName := ⟨"CopyBenchModel", "seat", "(III)I"⟩
theorem co_Md_seat : Cond.code y_Md_seat k_Md_seat 5 (Option.some FieldType.int) ∈ gd := tb_5 (i := 162) rfl rfl
theorem im_Md_seat : Cond.instanceMethod y_Md_seat ∈ gd := tb_5 (i := 160) rfl rfl
theorem se_Md_seat : Cond.selects "CopyBenchModel" y_Md_seat y_Md_seat ∈ gd := tb_5 (i := 161) rfl rfl
abbrev k_Md_here : ByteArray := prog_12_method_20_code
def y_Md_here : MethodName := ⟨"CopyBenchModel", "here", "()I"⟩
theorem co_Md_here : Cond.code y_Md_here k_Md_here 1 (Option.some FieldType.int) ∈ gd := tb_5 (i := 184) rfl rfl
theorem im_Md_here : Cond.instanceMethod y_Md_here ∈ gd := tb_5 (i := 183) rfl rfl
theorem se_Md_here : Cond.selects "CopyBenchModel" y_Md_here y_Md_here ∈ gd := List.mem_filter.mpr ⟨List.mem_append_left _ (List.mem_map.mpr ⟨(y_Md_here, 47), by decide +kernel, rfl⟩), rfl⟩
abbrev k_Md_clause : ByteArray := prog_12_method_21_code
def y_Md_clause : MethodName := ⟨"CopyBenchModel", "clause", "(Z)V"⟩
theorem co_Md_clause : Cond.code y_Md_clause k_Md_clause 4 (Option.none : Option FieldType) ∈ gd := tb_5 (i := 180) rfl rfl
theorem im_Md_clause : Cond.instanceMethod y_Md_clause ∈ gd := tb_5 (i := 179) rfl rfl
theorem se_Md_clause : Cond.selects "CopyBenchModel" y_Md_clause y_Md_clause ∈ gd := List.mem_filter.mpr ⟨List.mem_append_left _ (List.mem_map.mpr ⟨(y_Md_clause, 47), by decide +kernel, rfl⟩), rfl⟩
abbrev k_Md_goesThrough : ByteArray := prog_12_method_22_code
def y_Md_goesThrough : MethodName := ⟨"CopyBenchModel", "goesThrough", "(Z)V"⟩
theorem co_Md_goesThrough : Cond.code y_Md_goesThrough k_Md_goesThrough 2 (Option.none : Option FieldType) ∈ gd := tb_5 (i := 176) rfl rfl
theorem im_Md_goesThrough : Cond.instanceMethod y_Md_goesThrough ∈ gd := tb_5 (i := 175) rfl rfl
theorem se_Md_goesThrough : Cond.selects "CopyBenchModel" y_Md_goesThrough y_Md_goesThrough ∈ gd := List.mem_filter.mpr ⟨List.mem_append_left _ (List.mem_map.mpr ⟨(y_Md_goesThrough, 47), by decide +kernel, rfl⟩), rfl⟩
abbrev k_Md_feed : ByteArray := prog_12_method_23_code
def y_Md_feed : MethodName := ⟨"CopyBenchModel", "feed", "(I)I"⟩
theorem co_Md_feed : Cond.code y_Md_feed k_Md_feed 2 (Option.some FieldType.int) ∈ gd := tb_5 (i := 167) rfl rfl
theorem im_Md_feed : Cond.instanceMethod y_Md_feed ∈ gd := tb_5 (i := 165) rfl rfl
theorem se_Md_feed : Cond.selects "CopyBenchModel" y_Md_feed y_Md_feed ∈ gd := tb_5 (i := 166) rfl rfl
abbrev k_Md_read : ByteArray := prog_12_method_24_code
def y_Md_read : MethodName := ⟨"CopyBenchModel", "read", "()I"⟩
theorem co_Md_read : Cond.code y_Md_read k_Md_read 2 (Option.some FieldType.int) ∈ gd := tb_5 (i := 172) rfl rfl
theorem im_Md_read : Cond.instanceMethod y_Md_read ∈ gd := tb_5 (i := 170) rfl rfl
theorem se_Md_read : Cond.selects "CopyBenchModel" y_Md_read y_Md_read ∈ gd := tb_5 (i := 171) rfl rfl
abbrev k_Md_isUse : ByteArray := prog_12_method_25_code
def y_Md_isUse : MethodName := ⟨"CopyBenchModel", "isUse", "(II)Z"⟩
theorem co_Md_isUse : Cond.code y_Md_isUse k_Md_isUse 2 (Option.some FieldType.boolean) ∈ gd := tb_5 (i := 194) rfl rfl
theorem st_Md_isUse : Cond.static y_Md_isUse ∈ gd := tb_5 (i := 193) rfl rfl
abbrev k_Md_use : ByteArray := prog_12_method_26_code
def y_Md_use : MethodName := ⟨"CopyBenchModel", "use", "(II)I"⟩
theorem co_Md_use : Cond.code y_Md_use k_Md_use 4 (Option.some FieldType.int) ∈ gd := tb_5 (i := 190) rfl rfl
theorem im_Md_use : Cond.instanceMethod y_Md_use ∈ gd := tb_5 (i := 188) rfl rfl
theorem se_Md_use : Cond.selects "CopyBenchModel" y_Md_use y_Md_use ∈ gd := tb_5 (i := 189) rfl rfl
abbrev k_Md_answer : ByteArray := prog_12_method_27_code
def y_Md_answer : MethodName := ⟨"CopyBenchModel", "answer", "(II)I"⟩
theorem co_Md_answer : Cond.code y_Md_answer k_Md_answer 3 (Option.some FieldType.int) ∈ gd := tb_5 (i := 201) rfl rfl
theorem im_Md_answer : Cond.instanceMethod y_Md_answer ∈ gd := tb_5 (i := 199) rfl rfl
theorem se_Md_answer : Cond.selects "CopyBenchModel" y_Md_answer y_Md_answer ∈ gd := tb_5 (i := 200) rfl rfl
abbrev k_Md_gave : ByteArray := prog_12_method_28_code
def y_Md_gave : MethodName := ⟨"CopyBenchModel", "gave", "(IZ)I"⟩
theorem co_Md_gave : Cond.code y_Md_gave k_Md_gave 6 (Option.some FieldType.int) ∈ gd := tb_5 (i := 209) rfl rfl
theorem im_Md_gave : Cond.instanceMethod y_Md_gave ∈ gd := tb_5 (i := 208) rfl rfl
theorem se_Md_gave : Cond.selects "CopyBenchModel" y_Md_gave y_Md_gave ∈ gd := List.mem_filter.mpr ⟨List.mem_append_left _ (List.mem_map.mpr ⟨(y_Md_gave, 47), by decide +kernel, rfl⟩), rfl⟩
abbrev k_Md_of : ByteArray := prog_12_method_29_code
def y_Md_of : MethodName := ⟨"CopyBenchModel", "of", "(II)I"⟩
theorem co_Md_of : Cond.code y_Md_of k_Md_of 3 (Option.some FieldType.int) ∈ gd := tb_5 (i := 205) rfl rfl
theorem im_Md_of : Cond.instanceMethod y_Md_of ∈ gd := tb_5 (i := 203) rfl rfl
theorem se_Md_of : Cond.selects "CopyBenchModel" y_Md_of y_Md_of ∈ gd := tb_5 (i := 204) rfl rfl
abbrev k_Md_gavers : ByteArray := prog_12_method_30_code
def y_Md_gavers : MethodName := ⟨"CopyBenchModel", "gavers", "(IIII)I"⟩
theorem co_Md_gavers : Cond.code y_Md_gavers k_Md_gavers 7 (Option.some FieldType.int) ∈ gd := tb_5 (i := 221) rfl rfl
theorem im_Md_gavers : Cond.instanceMethod y_Md_gavers ∈ gd := tb_5 (i := 220) rfl rfl
theorem se_Md_gavers : Cond.selects "CopyBenchModel" y_Md_gavers y_Md_gavers ∈ gd := List.mem_filter.mpr ⟨List.mem_append_left _ (List.mem_map.mpr ⟨(y_Md_gavers, 47), by decide +kernel, rfl⟩), rfl⟩
abbrev k_Md_givers : ByteArray := prog_12_method_31_code
def y_Md_givers : MethodName := ⟨"CopyBenchModel", "givers", "(I)I"⟩
theorem co_Md_givers : Cond.code y_Md_givers k_Md_givers 2 (Option.some FieldType.int) ∈ gd := tb_5 (i := 217) rfl rfl
theorem im_Md_givers : Cond.instanceMethod y_Md_givers ∈ gd := tb_5 (i := 216) rfl rfl
theorem se_Md_givers : Cond.selects "CopyBenchModel" y_Md_givers y_Md_givers ∈ gd := List.mem_filter.mpr ⟨List.mem_append_left _ (List.mem_map.mpr ⟨(y_Md_givers, 47), by decide +kernel, rfl⟩), rfl⟩
abbrev k_Md_likedWrong : ByteArray := prog_12_method_32_code
def y_Md_likedWrong : MethodName := ⟨"CopyBenchModel", "likedWrong", "(I)I"⟩
theorem co_Md_likedWrong : Cond.code y_Md_likedWrong k_Md_likedWrong 4 (Option.some FieldType.int) ∈ gd := tb_5 (i := 225) rfl rfl
theorem im_Md_likedWrong : Cond.instanceMethod y_Md_likedWrong ∈ gd := tb_5 (i := 224) rfl rfl
theorem se_Md_likedWrong : Cond.selects "CopyBenchModel" y_Md_likedWrong y_Md_likedWrong ∈ gd := List.mem_filter.mpr ⟨List.mem_append_left _ (List.mem_map.mpr ⟨(y_Md_likedWrong, 47), by decide +kernel, rfl⟩), rfl⟩
abbrev k_Md_itemOf : ByteArray := prog_12_method_33_code
def y_Md_itemOf : MethodName := ⟨"CopyBenchModel", "itemOf", "(II)I"⟩
theorem co_Md_itemOf : Cond.code y_Md_itemOf k_Md_itemOf 3 (Option.some FieldType.int) ∈ gd := tb_5 (i := 213) rfl rfl
theorem im_Md_itemOf : Cond.instanceMethod y_Md_itemOf ∈ gd := tb_5 (i := 211) rfl rfl
theorem se_Md_itemOf : Cond.selects "CopyBenchModel" y_Md_itemOf y_Md_itemOf ∈ gd := tb_5 (i := 212) rfl rfl
abbrev k_Md_taken : ByteArray := prog_12_method_34_code
def y_Md_taken : MethodName := ⟨"CopyBenchModel", "taken", "(II)I"⟩
theorem co_Md_taken : Cond.code y_Md_taken k_Md_taken 4 (Option.some FieldType.int) ∈ gd := tb_5 (i := 229) rfl rfl
theorem im_Md_taken : Cond.instanceMethod y_Md_taken ∈ gd := tb_5 (i := 227) rfl rfl
theorem se_Md_taken : Cond.selects "CopyBenchModel" y_Md_taken y_Md_taken ∈ gd := tb_5 (i := 228) rfl rfl
abbrev k_Md_shareOf : ByteArray := prog_12_method_35_code
def y_Md_shareOf : MethodName := ⟨"CopyBenchModel", "shareOf", "(IIII)I"⟩
theorem co_Md_shareOf : Cond.code y_Md_shareOf k_Md_shareOf 5 (Option.some FieldType.int) ∈ gd := tb_6 (i := 5) rfl rfl
theorem im_Md_shareOf : Cond.instanceMethod y_Md_shareOf ∈ gd := tb_6 (i := 4) rfl rfl
theorem se_Md_shareOf : Cond.selects "CopyBenchModel" y_Md_shareOf y_Md_shareOf ∈ gd := List.mem_filter.mpr ⟨List.mem_append_left _ (List.mem_map.mpr ⟨(y_Md_shareOf, 47), by decide +kernel, rfl⟩), rfl⟩
abbrev k_Md_sumBut : ByteArray := prog_12_method_36_code
def y_Md_sumBut : MethodName := ⟨"CopyBenchModel", "sumBut", "(IIII)I"⟩
theorem co_Md_sumBut : Cond.code y_Md_sumBut k_Md_sumBut 7 (Option.some FieldType.int) ∈ gd := tb_6 (i := 1) rfl rfl
theorem im_Md_sumBut : Cond.instanceMethod y_Md_sumBut ∈ gd := tb_6 (i := 0) rfl rfl
theorem se_Md_sumBut : Cond.selects "CopyBenchModel" y_Md_sumBut y_Md_sumBut ∈ gd := List.mem_filter.mpr ⟨List.mem_append_left _ (List.mem_map.mpr ⟨(y_Md_sumBut, 47), by decide +kernel, rfl⟩), rfl⟩
abbrev k_Md_share : ByteArray := prog_12_method_37_code
def y_Md_share : MethodName := ⟨"CopyBenchModel", "share", "(IIII)I"⟩
theorem co_Md_share : Cond.code y_Md_share k_Md_share 5 (Option.some FieldType.int) ∈ gd := tb_5 (i := 233) rfl rfl
theorem im_Md_share : Cond.instanceMethod y_Md_share ∈ gd := tb_5 (i := 231) rfl rfl
theorem se_Md_share : Cond.selects "CopyBenchModel" y_Md_share y_Md_share ∈ gd := tb_5 (i := 232) rfl rfl
abbrev k_Md_worth : ByteArray := prog_12_method_38_code
def y_Md_worth : MethodName := ⟨"CopyBenchModel", "worth", "(II)I"⟩
theorem co_Md_worth : Cond.code y_Md_worth k_Md_worth 3 (Option.some FieldType.int) ∈ gd := tb_6 (i := 17) rfl rfl
theorem im_Md_worth : Cond.instanceMethod y_Md_worth ∈ gd := tb_6 (i := 16) rfl rfl
theorem se_Md_worth : Cond.selects "CopyBenchModel" y_Md_worth y_Md_worth ∈ gd := List.mem_filter.mpr ⟨List.mem_append_left _ (List.mem_map.mpr ⟨(y_Md_worth, 47), by decide +kernel, rfl⟩), rfl⟩
abbrev k_Md_likeness : ByteArray := prog_12_method_39_code
def y_Md_likeness : MethodName := ⟨"CopyBenchModel", "likeness", "(III)I"⟩
theorem co_Md_likeness : Cond.code y_Md_likeness k_Md_likeness 7 (Option.some FieldType.int) ∈ gd := tb_6 (i := 13) rfl rfl
theorem im_Md_likeness : Cond.instanceMethod y_Md_likeness ∈ gd := tb_6 (i := 12) rfl rfl
theorem se_Md_likeness : Cond.selects "CopyBenchModel" y_Md_likeness y_Md_likeness ∈ gd := List.mem_filter.mpr ⟨List.mem_append_left _ (List.mem_map.mpr ⟨(y_Md_likeness, 47), by decide +kernel, rfl⟩), rfl⟩
abbrev k_Md_alike : ByteArray := prog_12_method_40_code
def y_Md_alike : MethodName := ⟨"CopyBenchModel", "alike", "(II)I"⟩
theorem co_Md_alike : Cond.code y_Md_alike k_Md_alike 3 (Option.some FieldType.int) ∈ gd := tb_6 (i := 9) rfl rfl
theorem im_Md_alike : Cond.instanceMethod y_Md_alike ∈ gd := tb_6 (i := 7) rfl rfl
theorem se_Md_alike : Cond.selects "CopyBenchModel" y_Md_alike y_Md_alike ∈ gd := tb_6 (i := 8) rfl rfl
abbrev k_Md_adds : ByteArray := prog_12_method_41_code
def y_Md_adds : MethodName := ⟨"CopyBenchModel", "adds", "(JI)V"⟩
theorem co_Md_adds : Cond.code y_Md_adds k_Md_adds 5 (Option.none : Option FieldType) ∈ gd := tb_6 (i := 38) rfl rfl
theorem im_Md_adds : Cond.instanceMethod y_Md_adds ∈ gd := tb_6 (i := 37) rfl rfl
theorem se_Md_adds : Cond.selects "CopyBenchModel" y_Md_adds y_Md_adds ∈ gd := List.mem_filter.mpr ⟨List.mem_append_left _ (List.mem_map.mpr ⟨(y_Md_adds, 47), by decide +kernel, rfl⟩), rfl⟩
abbrev k_Md_comes : ByteArray := prog_12_method_42_code
def y_Md_comes : MethodName := ⟨"CopyBenchModel", "comes", "(IIII)V"⟩
theorem co_Md_comes : Cond.code y_Md_comes k_Md_comes 21 (Option.none : Option FieldType) ∈ gd := tb_6 (i := 34) rfl rfl
theorem im_Md_comes : Cond.instanceMethod y_Md_comes ∈ gd := tb_6 (i := 33) rfl rfl
theorem se_Md_comes : Cond.selects "CopyBenchModel" y_Md_comes y_Md_comes ∈ gd := List.mem_filter.mpr ⟨List.mem_append_left _ (List.mem_map.mpr ⟨(y_Md_comes, 47), by decide +kernel, rfl⟩), rfl⟩
abbrev k_Md_spreads : ByteArray := prog_12_method_43_code
def y_Md_spreads : MethodName := ⟨"CopyBenchModel", "spreads", "(IIII)V"⟩
theorem co_Md_spreads : Cond.code y_Md_spreads k_Md_spreads 6 (Option.none : Option FieldType) ∈ gd := tb_6 (i := 30) rfl rfl
theorem im_Md_spreads : Cond.instanceMethod y_Md_spreads ∈ gd := tb_6 (i := 29) rfl rfl
theorem se_Md_spreads : Cond.selects "CopyBenchModel" y_Md_spreads y_Md_spreads ∈ gd := List.mem_filter.mpr ⟨List.mem_append_left _ (List.mem_map.mpr ⟨(y_Md_spreads, 47), by decide +kernel, rfl⟩), rfl⟩
abbrev k_Md_asMuch : ByteArray := prog_12_method_44_code
def y_Md_asMuch : MethodName := ⟨"CopyBenchModel", "asMuch", "(IIII)J"⟩
theorem co_Md_asMuch : Cond.code y_Md_asMuch k_Md_asMuch 8 (Option.some FieldType.long) ∈ gd := tb_6 (i := 26) rfl rfl
theorem im_Md_asMuch : Cond.instanceMethod y_Md_asMuch ∈ gd := tb_6 (i := 25) rfl rfl
theorem se_Md_asMuch : Cond.selects "CopyBenchModel" y_Md_asMuch y_Md_asMuch ∈ gd := List.mem_filter.mpr ⟨List.mem_append_left _ (List.mem_map.mpr ⟨(y_Md_asMuch, 47), by decide +kernel, rfl⟩), rfl⟩
abbrev k_Md_lowest : ByteArray := prog_12_method_45_code
def y_Md_lowest : MethodName := ⟨"CopyBenchModel", "lowest", "(JJI)J"⟩
theorem co_Md_lowest : Cond.code y_Md_lowest k_Md_lowest 11 (Option.some FieldType.long) ∈ gd := tb_6 (i := 41) rfl rfl
theorem st_Md_lowest : Cond.static y_Md_lowest ∈ gd := tb_6 (i := 40) rfl rfl
abbrev k_Md_odds : ByteArray := prog_12_method_46_code
def y_Md_odds : MethodName := ⟨"CopyBenchModel", "odds", "(IIII)J"⟩
theorem co_Md_odds : Cond.code y_Md_odds k_Md_odds 7 (Option.some FieldType.long) ∈ gd := tb_6 (i := 21) rfl rfl
theorem im_Md_odds : Cond.instanceMethod y_Md_odds ∈ gd := tb_6 (i := 19) rfl rfl
theorem se_Md_odds : Cond.selects "CopyBenchModel" y_Md_odds y_Md_odds ∈ gd := tb_6 (i := 20) rfl rfl
abbrev k_Md_just : ByteArray := prog_12_method_47_code
def y_Md_just : MethodName := ⟨"CopyBenchModel", "just", "(IIIII)J"⟩
theorem co_Md_just : Cond.code y_Md_just k_Md_just 6 (Option.some FieldType.long) ∈ gd := tb_6 (i := 45) rfl rfl
theorem im_Md_just : Cond.instanceMethod y_Md_just ∈ gd := tb_6 (i := 43) rfl rfl
theorem se_Md_just : Cond.selects "CopyBenchModel" y_Md_just y_Md_just ∈ gd := tb_6 (i := 44) rfl rfl
abbrev k_Md_compares : ByteArray := prog_12_method_48_code
def y_Md_compares : MethodName := ⟨"CopyBenchModel", "compares", "(JJJJ)I"⟩
theorem co_Md_compares : Cond.code y_Md_compares k_Md_compares 25 (Option.some FieldType.int) ∈ gd := tb_6 (i := 53) rfl rfl
theorem st_Md_compares : Cond.static y_Md_compares ∈ gd := tb_6 (i := 52) rfl rfl
abbrev k_Md_source : ByteArray := prog_12_method_49_code
def y_Md_source : MethodName := ⟨"CopyBenchModel", "source", "(II)I"⟩
theorem co_Md_source : Cond.code y_Md_source k_Md_source 10 (Option.some FieldType.int) ∈ gd := tb_6 (i := 50) rfl rfl
theorem im_Md_source : Cond.instanceMethod y_Md_source ∈ gd := tb_6 (i := 48) rfl rfl
theorem se_Md_source : Cond.selects "CopyBenchModel" y_Md_source y_Md_source ∈ gd := tb_6 (i := 49) rfl rfl
abbrev k_Md_without : ByteArray := prog_12_method_50_code
def y_Md_without : MethodName := ⟨"CopyBenchModel", "without", "(IIII)J"⟩
theorem co_Md_without : Cond.code y_Md_without k_Md_without 7 (Option.some FieldType.long) ∈ gd := tb_6 (i := 57) rfl rfl
theorem im_Md_without : Cond.instanceMethod y_Md_without ∈ gd := tb_6 (i := 55) rfl rfl
theorem se_Md_without : Cond.selects "CopyBenchModel" y_Md_without y_Md_without ∈ gd := tb_6 (i := 56) rfl rfl
abbrev k_Md_key : ByteArray := prog_12_method_51_code
def y_Md_key : MethodName := ⟨"CopyBenchModel", "key", "(II)I"⟩
theorem co_Md_key : Cond.code y_Md_key k_Md_key 11 (Option.some FieldType.int) ∈ gd := tb_6 (i := 61) rfl rfl
theorem im_Md_key : Cond.instanceMethod y_Md_key ∈ gd := tb_6 (i := 59) rfl rfl
theorem se_Md_key : Cond.selects "CopyBenchModel" y_Md_key y_Md_key ∈ gd := tb_6 (i := 60) rfl rfl
abbrev k_Md_isNear : ByteArray := prog_12_method_52_code
def y_Md_isNear : MethodName := ⟨"CopyBenchModel", "isNear", "(III)Z"⟩
theorem co_Md_isNear : Cond.code y_Md_isNear k_Md_isNear 4 (Option.some FieldType.boolean) ∈ gd := tb_6 (i := 73) rfl rfl
theorem im_Md_isNear : Cond.instanceMethod y_Md_isNear ∈ gd := tb_6 (i := 72) rfl rfl
theorem se_Md_isNear : Cond.selects "CopyBenchModel" y_Md_isNear y_Md_isNear ∈ gd := List.mem_filter.mpr ⟨List.mem_append_left _ (List.mem_map.mpr ⟨(y_Md_isNear, 47), by decide +kernel, rfl⟩), rfl⟩
abbrev k_Md_puts : ByteArray := prog_12_method_53_code
def y_Md_puts : MethodName := ⟨"CopyBenchModel", "puts", "(IIJJ)V"⟩
theorem co_Md_puts : Cond.code y_Md_puts k_Md_puts 8 (Option.none : Option FieldType) ∈ gd := tb_6 (i := 82) rfl rfl
theorem im_Md_puts : Cond.instanceMethod y_Md_puts ∈ gd := tb_6 (i := 81) rfl rfl
theorem se_Md_puts : Cond.selects "CopyBenchModel" y_Md_puts y_Md_puts ∈ gd := List.mem_filter.mpr ⟨List.mem_append_left _ (List.mem_map.mpr ⟨(y_Md_puts, 47), by decide +kernel, rfl⟩), rfl⟩
abbrev k_Md_putsPair : ByteArray := prog_12_method_54_code
def y_Md_putsPair : MethodName := ⟨"CopyBenchModel", "putsPair", "(II)V"⟩
theorem co_Md_putsPair : Cond.code y_Md_putsPair k_Md_putsPair 9 (Option.none : Option FieldType) ∈ gd := tb_6 (i := 78) rfl rfl
theorem im_Md_putsPair : Cond.instanceMethod y_Md_putsPair ∈ gd := tb_6 (i := 77) rfl rfl
theorem se_Md_putsPair : Cond.selects "CopyBenchModel" y_Md_putsPair y_Md_putsPair ∈ gd := List.mem_filter.mpr ⟨List.mem_append_left _ (List.mem_map.mpr ⟨(y_Md_putsPair, 47), by decide +kernel, rfl⟩), rfl⟩
abbrev k_Md_isLow : ByteArray := prog_12_method_55_code
def y_Md_isLow : MethodName := ⟨"CopyBenchModel", "isLow", "(III)Z"⟩
theorem co_Md_isLow : Cond.code y_Md_isLow k_Md_isLow 4 (Option.some FieldType.boolean) ∈ gd := tb_6 (i := 86) rfl rfl
theorem im_Md_isLow : Cond.instanceMethod y_Md_isLow ∈ gd := tb_6 (i := 85) rfl rfl
theorem se_Md_isLow : Cond.selects "CopyBenchModel" y_Md_isLow y_Md_isLow ∈ gd := List.mem_filter.mpr ⟨List.mem_append_left _ (List.mem_map.mpr ⟨(y_Md_isLow, 47), by decide +kernel, rfl⟩), rfl⟩
abbrev k_Md_orders : ByteArray := prog_12_method_56_code
def y_Md_orders : MethodName := ⟨"CopyBenchModel", "orders", "()V"⟩
theorem co_Md_orders : Cond.code y_Md_orders k_Md_orders 3 (Option.none : Option FieldType) ∈ gd := tb_6 (i := 69) rfl rfl
theorem im_Md_orders : Cond.instanceMethod y_Md_orders ∈ gd := tb_6 (i := 68) rfl rfl
theorem se_Md_orders : Cond.selects "CopyBenchModel" y_Md_orders y_Md_orders ∈ gd := List.mem_filter.mpr ⟨List.mem_append_left _ (List.mem_map.mpr ⟨(y_Md_orders, 47), by decide +kernel, rfl⟩), rfl⟩
abbrev k_Md_suspects : ByteArray := prog_12_method_57_code
def y_Md_suspects : MethodName := ⟨"CopyBenchModel", "suspects", "()I"⟩
theorem co_Md_suspects : Cond.code y_Md_suspects k_Md_suspects 3 (Option.some FieldType.int) ∈ gd := tb_6 (i := 91) rfl rfl
theorem im_Md_suspects : Cond.instanceMethod y_Md_suspects ∈ gd := tb_6 (i := 90) rfl rfl
theorem se_Md_suspects : Cond.selects "CopyBenchModel" y_Md_suspects y_Md_suspects ∈ gd := List.mem_filter.mpr ⟨List.mem_append_left _ (List.mem_map.mpr ⟨(y_Md_suspects, 47), by decide +kernel, rfl⟩), rfl⟩
abbrev k_Md_near : ByteArray := prog_12_method_58_code
def y_Md_near : MethodName := ⟨"CopyBenchModel", "near", "(I)I"⟩
theorem co_Md_near : Cond.code y_Md_near k_Md_near 5 (Option.some FieldType.int) ∈ gd := tb_6 (i := 95) rfl rfl
theorem im_Md_near : Cond.instanceMethod y_Md_near ∈ gd := tb_6 (i := 94) rfl rfl
theorem se_Md_near : Cond.selects "CopyBenchModel" y_Md_near y_Md_near ∈ gd := List.mem_filter.mpr ⟨List.mem_append_left _ (List.mem_map.mpr ⟨(y_Md_near, 47), by decide +kernel, rfl⟩), rfl⟩
abbrev k_Md_binds : ByteArray := prog_12_method_59_code
def y_Md_binds : MethodName := ⟨"CopyBenchModel", "binds", "()V"⟩
theorem co_Md_binds : Cond.code y_Md_binds k_Md_binds 2 (Option.none : Option FieldType) ∈ gd := tb_6 (i := 103) rfl rfl
theorem im_Md_binds : Cond.instanceMethod y_Md_binds ∈ gd := tb_6 (i := 102) rfl rfl
theorem se_Md_binds : Cond.selects "CopyBenchModel" y_Md_binds y_Md_binds ∈ gd := List.mem_filter.mpr ⟨List.mem_append_left _ (List.mem_map.mpr ⟨(y_Md_binds, 47), by decide +kernel, rfl⟩), rfl⟩
abbrev k_Md_common : ByteArray := prog_12_method_60_code
def y_Md_common : MethodName := ⟨"CopyBenchModel", "common", "(I)I"⟩
theorem co_Md_common : Cond.code y_Md_common k_Md_common 4 (Option.some FieldType.int) ∈ gd := tb_6 (i := 111) rfl rfl
theorem im_Md_common : Cond.instanceMethod y_Md_common ∈ gd := tb_6 (i := 110) rfl rfl
theorem se_Md_common : Cond.selects "CopyBenchModel" y_Md_common y_Md_common ∈ gd := List.mem_filter.mpr ⟨List.mem_append_left _ (List.mem_map.mpr ⟨(y_Md_common, 47), by decide +kernel, rfl⟩), rfl⟩
abbrev k_Md_isGroup : ByteArray := prog_12_method_61_code
def y_Md_isGroup : MethodName := ⟨"CopyBenchModel", "isGroup", "(I)Z"⟩
theorem co_Md_isGroup : Cond.code y_Md_isGroup k_Md_isGroup 3 (Option.some FieldType.boolean) ∈ gd := tb_6 (i := 107) rfl rfl
theorem im_Md_isGroup : Cond.instanceMethod y_Md_isGroup ∈ gd := tb_6 (i := 106) rfl rfl
theorem se_Md_isGroup : Cond.selects "CopyBenchModel" y_Md_isGroup y_Md_isGroup ∈ gd := List.mem_filter.mpr ⟨List.mem_append_left _ (List.mem_map.mpr ⟨(y_Md_isGroup, 47), by decide +kernel, rfl⟩), rfl⟩
abbrev k_Md_grouped : ByteArray := prog_12_method_62_code
def y_Md_grouped : MethodName := ⟨"CopyBenchModel", "grouped", "(I)I"⟩
theorem co_Md_grouped : Cond.code y_Md_grouped k_Md_grouped 4 (Option.some FieldType.int) ∈ gd := tb_6 (i := 99) rfl rfl
theorem im_Md_grouped : Cond.instanceMethod y_Md_grouped ∈ gd := tb_6 (i := 98) rfl rfl
theorem se_Md_grouped : Cond.selects "CopyBenchModel" y_Md_grouped y_Md_grouped ∈ gd := List.mem_filter.mpr ⟨List.mem_append_left _ (List.mem_map.mpr ⟨(y_Md_grouped, 47), by decide +kernel, rfl⟩), rfl⟩
abbrev k_Md_greatest : ByteArray := prog_12_method_63_code
def y_Md_greatest : MethodName := ⟨"CopyBenchModel", "greatest", "()I"⟩
theorem co_Md_greatest : Cond.code y_Md_greatest k_Md_greatest 3 (Option.some FieldType.int) ∈ gd := tb_6 (i := 115) rfl rfl
theorem im_Md_greatest : Cond.instanceMethod y_Md_greatest ∈ gd := tb_6 (i := 114) rfl rfl
theorem se_Md_greatest : Cond.selects "CopyBenchModel" y_Md_greatest y_Md_greatest ∈ gd := List.mem_filter.mpr ⟨List.mem_append_left _ (List.mem_map.mpr ⟨(y_Md_greatest, 47), by decide +kernel, rfl⟩), rfl⟩
abbrev k_Md_pairs : ByteArray := prog_12_method_64_code
def y_Md_pairs : MethodName := ⟨"CopyBenchModel", "pairs", "(II)I"⟩
theorem co_Md_pairs : Cond.code y_Md_pairs k_Md_pairs 3 (Option.some FieldType.int) ∈ gd := tb_6 (i := 65) rfl rfl
theorem im_Md_pairs : Cond.instanceMethod y_Md_pairs ∈ gd := tb_6 (i := 63) rfl rfl
theorem se_Md_pairs : Cond.selects "CopyBenchModel" y_Md_pairs y_Md_pairs ∈ gd := tb_6 (i := 64) rfl rfl
abbrev k_Md_pair : ByteArray := prog_12_method_65_code
def y_Md_pair : MethodName := ⟨"CopyBenchModel", "pair", "(II)I"⟩
theorem co_Md_pair : Cond.code y_Md_pair k_Md_pair 3 (Option.some FieldType.int) ∈ gd := tb_6 (i := 121) rfl rfl
theorem im_Md_pair : Cond.instanceMethod y_Md_pair ∈ gd := tb_6 (i := 119) rfl rfl
theorem se_Md_pair : Cond.selects "CopyBenchModel" y_Md_pair y_Md_pair ∈ gd := tb_6 (i := 120) rfl rfl
abbrev k_Md_pairOdds : ByteArray := prog_12_method_66_code
def y_Md_pairOdds : MethodName := ⟨"CopyBenchModel", "pairOdds", "(II)J"⟩
theorem co_Md_pairOdds : Cond.code y_Md_pairOdds k_Md_pairOdds 3 (Option.some FieldType.long) ∈ gd := tb_6 (i := 125) rfl rfl
theorem im_Md_pairOdds : Cond.instanceMethod y_Md_pairOdds ∈ gd := tb_6 (i := 123) rfl rfl
theorem se_Md_pairOdds : Cond.selects "CopyBenchModel" y_Md_pairOdds y_Md_pairOdds ∈ gd := tb_6 (i := 124) rfl rfl
abbrev k_Md_ranked : ByteArray := prog_12_method_67_code
def y_Md_ranked : MethodName := ⟨"CopyBenchModel", "ranked", "(II)I"⟩
theorem co_Md_ranked : Cond.code y_Md_ranked k_Md_ranked 4 (Option.some FieldType.int) ∈ gd := tb_6 (i := 133) rfl rfl
theorem im_Md_ranked : Cond.instanceMethod y_Md_ranked ∈ gd := tb_6 (i := 132) rfl rfl
theorem se_Md_ranked : Cond.selects "CopyBenchModel" y_Md_ranked y_Md_ranked ∈ gd := List.mem_filter.mpr ⟨List.mem_append_left _ (List.mem_map.mpr ⟨(y_Md_ranked, 47), by decide +kernel, rfl⟩), rfl⟩
abbrev k_Md_rank : ByteArray := prog_12_method_68_code
def y_Md_rank : MethodName := ⟨"CopyBenchModel", "rank", "(II)I"⟩
theorem co_Md_rank : Cond.code y_Md_rank k_Md_rank 3 (Option.some FieldType.int) ∈ gd := tb_6 (i := 129) rfl rfl
theorem im_Md_rank : Cond.instanceMethod y_Md_rank ∈ gd := tb_6 (i := 127) rfl rfl
theorem se_Md_rank : Cond.selects "CopyBenchModel" y_Md_rank y_Md_rank ∈ gd := tb_6 (i := 128) rfl rfl
abbrev k_Md_linked : ByteArray := prog_12_method_69_code
def y_Md_linked : MethodName := ⟨"CopyBenchModel", "linked", "(I)I"⟩
theorem co_Md_linked : Cond.code y_Md_linked k_Md_linked 2 (Option.some FieldType.int) ∈ gd := tb_6 (i := 138) rfl rfl
theorem im_Md_linked : Cond.instanceMethod y_Md_linked ∈ gd := tb_6 (i := 136) rfl rfl
theorem se_Md_linked : Cond.selects "CopyBenchModel" y_Md_linked y_Md_linked ∈ gd := tb_6 (i := 137) rfl rfl
abbrev k_Md_chain : ByteArray := prog_12_method_70_code
def y_Md_chain : MethodName := ⟨"CopyBenchModel", "chain", "(I)I"⟩
theorem co_Md_chain : Cond.code y_Md_chain k_Md_chain 5 (Option.some FieldType.int) ∈ gd := tb_6 (i := 142) rfl rfl
theorem im_Md_chain : Cond.instanceMethod y_Md_chain ∈ gd := tb_6 (i := 140) rfl rfl
theorem se_Md_chain : Cond.selects "CopyBenchModel" y_Md_chain y_Md_chain ∈ gd := tb_6 (i := 141) rfl rfl
abbrev k_Md_group : ByteArray := prog_12_method_71_code
def y_Md_group : MethodName := ⟨"CopyBenchModel", "group", "(I)I"⟩
theorem co_Md_group : Cond.code y_Md_group k_Md_group 2 (Option.some FieldType.int) ∈ gd := tb_6 (i := 146) rfl rfl
theorem im_Md_group : Cond.instanceMethod y_Md_group ∈ gd := tb_6 (i := 144) rfl rfl
theorem se_Md_group : Cond.selects "CopyBenchModel" y_Md_group y_Md_group ∈ gd := tb_6 (i := 145) rfl rfl
abbrev k_Md_nearNow : ByteArray := prog_12_method_72_code
def y_Md_nearNow : MethodName := ⟨"CopyBenchModel", "nearNow", "(I)I"⟩
theorem co_Md_nearNow : Cond.code y_Md_nearNow k_Md_nearNow 6 (Option.some FieldType.int) ∈ gd := tb_6 (i := 154) rfl rfl
theorem im_Md_nearNow : Cond.instanceMethod y_Md_nearNow ∈ gd := tb_6 (i := 153) rfl rfl
theorem se_Md_nearNow : Cond.selects "CopyBenchModel" y_Md_nearNow y_Md_nearNow ∈ gd := List.mem_filter.mpr ⟨List.mem_append_left _ (List.mem_map.mpr ⟨(y_Md_nearNow, 47), by decide +kernel, rfl⟩), rfl⟩
abbrev k_Md_placeOf : ByteArray := prog_12_method_73_code
def y_Md_placeOf : MethodName := ⟨"CopyBenchModel", "placeOf", "(I)I"⟩
theorem co_Md_placeOf : Cond.code y_Md_placeOf k_Md_placeOf 3 (Option.some FieldType.int) ∈ gd := tb_6 (i := 158) rfl rfl
theorem im_Md_placeOf : Cond.instanceMethod y_Md_placeOf ∈ gd := tb_6 (i := 157) rfl rfl
theorem se_Md_placeOf : Cond.selects "CopyBenchModel" y_Md_placeOf y_Md_placeOf ∈ gd := List.mem_filter.mpr ⟨List.mem_append_left _ (List.mem_map.mpr ⟨(y_Md_placeOf, 47), by decide +kernel, rfl⟩), rfl⟩
abbrev k_Md_turns : ByteArray := prog_12_method_74_code
def y_Md_turns : MethodName := ⟨"CopyBenchModel", "turns", "()Z"⟩
theorem co_Md_turns : Cond.code y_Md_turns k_Md_turns 5 (Option.some FieldType.boolean) ∈ gd := tb_6 (i := 162) rfl rfl
theorem im_Md_turns : Cond.instanceMethod y_Md_turns ∈ gd := tb_6 (i := 161) rfl rfl
theorem se_Md_turns : Cond.selects "CopyBenchModel" y_Md_turns y_Md_turns ∈ gd := List.mem_filter.mpr ⟨List.mem_append_left _ (List.mem_map.mpr ⟨(y_Md_turns, 47), by decide +kernel, rfl⟩), rfl⟩
abbrev k_Md_exchange : ByteArray := prog_12_method_75_code
def y_Md_exchange : MethodName := ⟨"CopyBenchModel", "exchange", "(II)V"⟩
theorem co_Md_exchange : Cond.code y_Md_exchange k_Md_exchange 4 (Option.none : Option FieldType) ∈ gd := tb_6 (i := 166) rfl rfl
theorem im_Md_exchange : Cond.instanceMethod y_Md_exchange ∈ gd := tb_6 (i := 165) rfl rfl
theorem se_Md_exchange : Cond.selects "CopyBenchModel" y_Md_exchange y_Md_exchange ∈ gd := List.mem_filter.mpr ⟨List.mem_append_left _ (List.mem_map.mpr ⟨(y_Md_exchange, 47), by decide +kernel, rfl⟩), rfl⟩
abbrev k_Md_seated : ByteArray := prog_12_method_76_code
def y_Md_seated : MethodName := ⟨"CopyBenchModel", "seated", "(II)J"⟩
theorem co_Md_seated : Cond.code y_Md_seated k_Md_seated 8 (Option.some FieldType.long) ∈ gd := tb_6 (i := 150) rfl rfl
theorem im_Md_seated : Cond.instanceMethod y_Md_seated ∈ gd := tb_6 (i := 148) rfl rfl
theorem se_Md_seated : Cond.selects "CopyBenchModel" y_Md_seated y_Md_seated ∈ gd := tb_6 (i := 149) rfl rfl
abbrev k_Md_draw : ByteArray := prog_12_method_77_code
def y_Md_draw : MethodName := ⟨"CopyBenchModel", "draw", "(I)I"⟩
theorem co_Md_draw : Cond.code y_Md_draw k_Md_draw 2 (Option.some FieldType.int) ∈ gd := tb_6 (i := 182) rfl rfl
theorem im_Md_draw : Cond.instanceMethod y_Md_draw ∈ gd := tb_6 (i := 181) rfl rfl
theorem se_Md_draw : Cond.selects "CopyBenchModel" y_Md_draw y_Md_draw ∈ gd := List.mem_filter.mpr ⟨List.mem_append_left _ (List.mem_map.mpr ⟨(y_Md_draw, 47), by decide +kernel, rfl⟩), rfl⟩
abbrev k_Md_answersAnew : ByteArray := prog_12_method_78_code
def y_Md_answersAnew : MethodName := ⟨"CopyBenchModel", "answersAnew", "(III)I"⟩
theorem co_Md_answersAnew : Cond.code y_Md_answersAnew k_Md_answersAnew 6 (Option.some FieldType.int) ∈ gd := tb_6 (i := 178) rfl rfl
theorem im_Md_answersAnew : Cond.instanceMethod y_Md_answersAnew ∈ gd := tb_6 (i := 177) rfl rfl
theorem se_Md_answersAnew : Cond.selects "CopyBenchModel" y_Md_answersAnew y_Md_answersAnew ∈ gd := List.mem_filter.mpr ⟨List.mem_append_left _ (List.mem_map.mpr ⟨(y_Md_answersAnew, 47), by decide +kernel, rfl⟩), rfl⟩
abbrev k_Md_drawnBy : ByteArray := prog_12_method_79_code
def y_Md_drawnBy : MethodName := ⟨"CopyBenchModel", "drawnBy", "(III)I"⟩
theorem co_Md_drawnBy : Cond.code y_Md_drawnBy k_Md_drawnBy 8 (Option.some FieldType.int) ∈ gd := tb_6 (i := 174) rfl rfl
theorem im_Md_drawnBy : Cond.instanceMethod y_Md_drawnBy ∈ gd := tb_6 (i := 173) rfl rfl
theorem se_Md_drawnBy : Cond.selects "CopyBenchModel" y_Md_drawnBy y_Md_drawnBy ∈ gd := List.mem_filter.mpr ⟨List.mem_append_left _ (List.mem_map.mpr ⟨(y_Md_drawnBy, 47), by decide +kernel, rfl⟩), rfl⟩
abbrev k_Md_drawn : ByteArray := prog_12_method_80_code
def y_Md_drawn : MethodName := ⟨"CopyBenchModel", "drawn", "(III)I"⟩
theorem co_Md_drawn : Cond.code y_Md_drawn k_Md_drawn 4 (Option.some FieldType.int) ∈ gd := tb_6 (i := 170) rfl rfl
theorem im_Md_drawn : Cond.instanceMethod y_Md_drawn ∈ gd := tb_6 (i := 168) rfl rfl
theorem se_Md_drawn : Cond.selects "CopyBenchModel" y_Md_drawn y_Md_drawn ∈ gd := tb_6 (i := 169) rfl rfl
abbrev k_Md_chance : ByteArray := prog_12_method_81_code
def y_Md_chance : MethodName := ⟨"CopyBenchModel", "chance", "(IIIII)J"⟩
theorem co_Md_chance : Cond.code y_Md_chance k_Md_chance 8 (Option.some FieldType.long) ∈ gd := tb_6 (i := 187) rfl rfl
theorem im_Md_chance : Cond.instanceMethod y_Md_chance ∈ gd := tb_6 (i := 185) rfl rfl
theorem se_Md_chance : Cond.selects "CopyBenchModel" y_Md_chance y_Md_chance ∈ gd := tb_6 (i := 186) rfl rfl
abbrev k_Md_see : ByteArray := prog_12_method_82_code
def y_Md_see : MethodName := ⟨"CopyBenchModel", "see", "(IIZ)I"⟩
theorem co_Md_see : Cond.code y_Md_see k_Md_see 4 (Option.some FieldType.int) ∈ gd := tb_6 (i := 192) rfl rfl
theorem im_Md_see : Cond.instanceMethod y_Md_see ∈ gd := tb_6 (i := 190) rfl rfl
theorem se_Md_see : Cond.selects "CopyBenchModel" y_Md_see y_Md_see ∈ gd := tb_6 (i := 191) rfl rfl
abbrev k_Md_isAllSeen : ByteArray := prog_12_method_83_code
def y_Md_isAllSeen : MethodName := ⟨"CopyBenchModel", "isAllSeen", "()Z"⟩
theorem co_Md_isAllSeen : Cond.code y_Md_isAllSeen k_Md_isAllSeen 3 (Option.some FieldType.boolean) ∈ gd := tb_6 (i := 200) rfl rfl
theorem im_Md_isAllSeen : Cond.instanceMethod y_Md_isAllSeen ∈ gd := tb_6 (i := 199) rfl rfl
theorem se_Md_isAllSeen : Cond.selects "CopyBenchModel" y_Md_isAllSeen y_Md_isAllSeen ∈ gd := List.mem_filter.mpr ⟨List.mem_append_left _ (List.mem_map.mpr ⟨(y_Md_isAllSeen, 47), by decide +kernel, rfl⟩), rfl⟩
abbrev k_Md_fits : ByteArray := prog_12_method_84_code
def y_Md_fits : MethodName := ⟨"CopyBenchModel", "fits", "(I)I"⟩
theorem co_Md_fits : Cond.code y_Md_fits k_Md_fits 6 (Option.some FieldType.int) ∈ gd := tb_6 (i := 196) rfl rfl
theorem im_Md_fits : Cond.instanceMethod y_Md_fits ∈ gd := tb_6 (i := 194) rfl rfl
theorem se_Md_fits : Cond.selects "CopyBenchModel" y_Md_fits y_Md_fits ∈ gd := tb_6 (i := 195) rfl rfl
abbrev k_Md_mean : ByteArray := prog_12_method_85_code
def y_Md_mean : MethodName := ⟨"CopyBenchModel", "mean", "(I)J"⟩
theorem co_Md_mean : Cond.code y_Md_mean k_Md_mean 5 (Option.some FieldType.long) ∈ gd := tb_6 (i := 204) rfl rfl
theorem im_Md_mean : Cond.instanceMethod y_Md_mean ∈ gd := tb_6 (i := 202) rfl rfl
theorem se_Md_mean : Cond.selects "CopyBenchModel" y_Md_mean y_Md_mean ∈ gd := tb_6 (i := 203) rfl rfl
abbrev k_Md_plan : ByteArray := prog_12_method_86_code
def y_Md_plan : MethodName := ⟨"CopyBenchModel", "plan", "(III)I"⟩
theorem co_Md_plan : Cond.code y_Md_plan k_Md_plan 4 (Option.some FieldType.int) ∈ gd := tb_6 (i := 208) rfl rfl
theorem im_Md_plan : Cond.instanceMethod y_Md_plan ∈ gd := tb_6 (i := 206) rfl rfl
theorem se_Md_plan : Cond.selects "CopyBenchModel" y_Md_plan y_Md_plan ∈ gd := tb_6 (i := 207) rfl rfl
abbrev k_Md_copies : ByteArray := prog_12_method_87_code
def y_Md_copies : MethodName := ⟨"CopyBenchModel", "copies", "([I[I)V"⟩
theorem co_Md_copies : Cond.code y_Md_copies k_Md_copies 3 (Option.none : Option FieldType) ∈ gd := tb_6 (i := 215) rfl rfl
theorem st_Md_copies : Cond.static y_Md_copies ∈ gd := tb_6 (i := 214) rfl rfl
abbrev k_Md_goes : ByteArray := prog_12_method_88_code
def y_Md_goes : MethodName := ⟨"CopyBenchModel", "goes", "(III)V"⟩
theorem co_Md_goes : Cond.code y_Md_goes k_Md_goes 5 (Option.none : Option FieldType) ∈ gd := tb_6 (i := 219) rfl rfl
theorem im_Md_goes : Cond.instanceMethod y_Md_goes ∈ gd := tb_6 (i := 218) rfl rfl
theorem se_Md_goes : Cond.selects "CopyBenchModel" y_Md_goes y_Md_goes ∈ gd := List.mem_filter.mpr ⟨List.mem_append_left _ (List.mem_map.mpr ⟨(y_Md_goes, 47), by decide +kernel, rfl⟩), rfl⟩
abbrev k_Md_ends : ByteArray := prog_12_method_89_code
def y_Md_ends : MethodName := ⟨"CopyBenchModel", "ends", "()I"⟩
theorem co_Md_ends : Cond.code y_Md_ends k_Md_ends 2 (Option.some FieldType.int) ∈ gd := tb_6 (i := 212) rfl rfl
theorem im_Md_ends : Cond.instanceMethod y_Md_ends ∈ gd := tb_6 (i := 210) rfl rfl
theorem se_Md_ends : Cond.selects "CopyBenchModel" y_Md_ends y_Md_ends ∈ gd := tb_6 (i := 211) rfl rfl
abbrev k_Md_isTape : ByteArray := prog_12_method_90_code
def y_Md_isTape : MethodName := ⟨"CopyBenchModel", "isTape", "(I)Z"⟩
theorem co_Md_isTape : Cond.code y_Md_isTape k_Md_isTape 1 (Option.some FieldType.boolean) ∈ gd := tb_6 (i := 226) rfl rfl
theorem st_Md_isTape : Cond.static y_Md_isTape ∈ gd := tb_6 (i := 225) rfl rfl
abbrev k_Md_judge : ByteArray := prog_12_method_91_code
def y_Md_judge : MethodName := ⟨"CopyBenchModel", "judge", "(III)I"⟩
theorem co_Md_judge : Cond.code y_Md_judge k_Md_judge 5 (Option.some FieldType.int) ∈ gd := tb_6 (i := 223) rfl rfl
theorem im_Md_judge : Cond.instanceMethod y_Md_judge ∈ gd := tb_6 (i := 221) rfl rfl
theorem se_Md_judge : Cond.selects "CopyBenchModel" y_Md_judge y_Md_judge ∈ gd := tb_6 (i := 222) rfl rfl
abbrev k_Md_seatedOnes : ByteArray := prog_12_method_92_code
def y_Md_seatedOnes : MethodName := ⟨"CopyBenchModel", "seatedOnes", "()I"⟩
theorem co_Md_seatedOnes : Cond.code y_Md_seatedOnes k_Md_seatedOnes 3 (Option.some FieldType.int) ∈ gd := tb_6 (i := 234) rfl rfl
theorem im_Md_seatedOnes : Cond.instanceMethod y_Md_seatedOnes ∈ gd := tb_6 (i := 233) rfl rfl
theorem se_Md_seatedOnes : Cond.selects "CopyBenchModel" y_Md_seatedOnes y_Md_seatedOnes ∈ gd := List.mem_filter.mpr ⟨List.mem_append_left _ (List.mem_map.mpr ⟨(y_Md_seatedOnes, 47), by decide +kernel, rfl⟩), rfl⟩
abbrev k_Md_count : ByteArray := prog_12_method_93_code
def y_Md_count : MethodName := ⟨"CopyBenchModel", "count", "(I)I"⟩
theorem co_Md_count : Cond.code y_Md_count k_Md_count 2 (Option.some FieldType.int) ∈ gd := tb_6 (i := 230) rfl rfl
theorem im_Md_count : Cond.instanceMethod y_Md_count ∈ gd := tb_6 (i := 228) rfl rfl
theorem se_Md_count : Cond.selects "CopyBenchModel" y_Md_count y_Md_count ∈ gd := tb_6 (i := 229) rfl rfl
abbrev k_Md_tape : ByteArray := prog_12_method_94_code
def y_Md_tape : MethodName := ⟨"CopyBenchModel", "tape", "(III)I"⟩
theorem co_Md_tape : Cond.code y_Md_tape k_Md_tape 5 (Option.some FieldType.int) ∈ gd := tb_6 (i := 239) rfl rfl
theorem im_Md_tape : Cond.instanceMethod y_Md_tape ∈ gd := tb_6 (i := 237) rfl rfl
theorem se_Md_tape : Cond.selects "CopyBenchModel" y_Md_tape y_Md_tape ∈ gd := tb_6 (i := 238) rfl rfl
abbrev k_Md_fit : ByteArray := prog_12_method_95_code
def y_Md_fit : MethodName := ⟨"CopyBenchModel", "fit", "(IJ)J"⟩
theorem co_Md_fit : Cond.code y_Md_fit k_Md_fit 3 (Option.some FieldType.long) ∈ gd := tb_7 (i := 6) rfl rfl
theorem st_Md_fit : Cond.static y_Md_fit ∈ gd := tb_7 (i := 5) rfl rfl
abbrev k_Md_item : ByteArray := prog_12_method_96_code
def y_Md_item : MethodName := ⟨"CopyBenchModel", "item", "(IIJ)I"⟩
theorem co_Md_item : Cond.code y_Md_item k_Md_item 5 (Option.some FieldType.int) ∈ gd := tb_7 (i := 3) rfl rfl
theorem im_Md_item : Cond.instanceMethod y_Md_item ∈ gd := tb_7 (i := 1) rfl rfl
theorem se_Md_item : Cond.selects "CopyBenchModel" y_Md_item y_Md_item ∈ gd := tb_7 (i := 2) rfl rfl
abbrev k_Md_peek : ByteArray := prog_12_method_97_code
def y_Md_peek : MethodName := ⟨"CopyBenchModel", "peek", "(II)J"⟩
theorem co_Md_peek : Cond.code y_Md_peek k_Md_peek 3 (Option.some FieldType.long) ∈ gd := tb_7 (i := 10) rfl rfl
theorem im_Md_peek : Cond.instanceMethod y_Md_peek ∈ gd := tb_7 (i := 8) rfl rfl
theorem se_Md_peek : Cond.selects "CopyBenchModel" y_Md_peek y_Md_peek ∈ gd := tb_7 (i := 9) rfl rfl
abbrev k_Md_shift : ByteArray := prog_12_method_98_code
def y_Md_shift : MethodName := ⟨"CopyBenchModel", "shift", "(IIIII)I"⟩
theorem co_Md_shift : Cond.code y_Md_shift k_Md_shift 7 (Option.some FieldType.int) ∈ gd := tb_7 (i := 14) rfl rfl
theorem im_Md_shift : Cond.instanceMethod y_Md_shift ∈ gd := tb_7 (i := 12) rfl rfl
theorem se_Md_shift : Cond.selects "CopyBenchModel" y_Md_shift y_Md_shift ∈ gd := tb_7 (i := 13) rfl rfl
abbrev k_Draws_init : ByteArray := prog_2_method_1_code
def y_Draws_init : MethodName := ⟨"CopyBench$Draws", "<init>", "()V"⟩
theorem co_Draws_init : Cond.code y_Draws_init k_Draws_init 1 (Option.none : Option FieldType) ∈ gd := tb_2 (i := 31) rfl rfl
theorem im_Draws_init : Cond.instanceMethod y_Draws_init ∈ gd := tb_2 (i := 30) rfl rfl
abbrev k_Draws_likeness : ByteArray := prog_2_method_2_code
def y_Draws_likeness : MethodName := ⟨"CopyBench$Draws", "likeness", "(LCopyBench$Exam;LCopyBench$Odds;III)I"⟩
theorem co_Draws_likeness : Cond.code y_Draws_likeness k_Draws_likeness 10 (Option.some FieldType.int) ∈ gd := tb_4 (i := 40) rfl rfl
theorem im_Draws_likeness : Cond.instanceMethod y_Draws_likeness ∈ gd := tb_4 (i := 38) rfl rfl
theorem se_Draws_likeness : Cond.selects "CopyBench$Draws" y_Draws_likeness y_Draws_likeness ∈ gd := tb_4 (i := 39) rfl rfl
abbrev k_Draws_anAnswer : ByteArray := prog_2_method_3_code
def y_Draws_anAnswer : MethodName := ⟨"CopyBench$Draws", "anAnswer", "(LCopyBench$Odds;)I"⟩
theorem co_Draws_anAnswer : Cond.code y_Draws_anAnswer k_Draws_anAnswer 5 (Option.some FieldType.int) ∈ gd := tb_4 (i := 46) rfl rfl
theorem im_Draws_anAnswer : Cond.instanceMethod y_Draws_anAnswer ∈ gd := tb_4 (i := 45) rfl rfl
theorem se_Draws_anAnswer : Cond.selects "CopyBench$Draws" y_Draws_anAnswer y_Draws_anAnswer ∈ gd := List.mem_filter.mpr ⟨List.mem_append_left _ (List.mem_map.mpr ⟨(y_Draws_anAnswer, 1), by decide +kernel, rfl⟩), rfl⟩
abbrev k_Draws_below : ByteArray := prog_2_method_4_code
def y_Draws_below : MethodName := ⟨"CopyBench$Draws", "below", "(I)I"⟩
theorem co_Draws_below : Cond.code y_Draws_below k_Draws_below 2 (Option.some FieldType.int) ∈ gd := tb_4 (i := 50) rfl rfl
theorem im_Draws_below : Cond.instanceMethod y_Draws_below ∈ gd := tb_4 (i := 49) rfl rfl
theorem se_Draws_below : Cond.selects "CopyBench$Draws" y_Draws_below y_Draws_below ∈ gd := List.mem_filter.mpr ⟨List.mem_append_left _ (List.mem_map.mpr ⟨(y_Draws_below, 1), by decide +kernel, rfl⟩), rfl⟩
abbrev k_Exam_init : ByteArray := prog_3_method_1_code
def y_Exam_init : MethodName := ⟨"CopyBench$Exam", "<init>", "()V"⟩
theorem co_Exam_init : Cond.code y_Exam_init k_Exam_init 1 (Option.none : Option FieldType) ∈ gd := tb_1 (i := 27) rfl rfl
theorem im_Exam_init : Cond.instanceMethod y_Exam_init ∈ gd := tb_1 (i := 26) rfl rfl
abbrev k_Exam_begin : ByteArray := prog_3_method_2_code
def y_Exam_begin : MethodName := ⟨"CopyBench$Exam", "begin", "(I)V"⟩
theorem co_Exam_begin : Cond.code y_Exam_begin k_Exam_begin 4 (Option.none : Option FieldType) ∈ gd := tb_1 (i := 34) rfl rfl
theorem im_Exam_begin : Cond.instanceMethod y_Exam_begin ∈ gd := tb_1 (i := 32) rfl rfl
theorem se_Exam_begin : Cond.selects "CopyBench$Exam" y_Exam_begin y_Exam_begin ∈ gd := tb_1 (i := 33) rfl rfl
abbrev k_Exam_copy : ByteArray := prog_3_method_3_code
def y_Exam_copy : MethodName := ⟨"CopyBench$Exam", "copy", "(LCopyBench$Exam;)V"⟩
theorem co_Exam_copy : Cond.code y_Exam_copy k_Exam_copy 3 (Option.none : Option FieldType) ∈ gd := tb_4 (i := 107) rfl rfl
theorem im_Exam_copy : Cond.instanceMethod y_Exam_copy ∈ gd := tb_4 (i := 105) rfl rfl
theorem se_Exam_copy : Cond.selects "CopyBench$Exam" y_Exam_copy y_Exam_copy ∈ gd := tb_4 (i := 106) rfl rfl
abbrev k_Exam_hasItem : ByteArray := prog_3_method_4_code
def y_Exam_hasItem : MethodName := ⟨"CopyBench$Exam", "hasItem", "(I)Z"⟩
theorem co_Exam_hasItem : Cond.code y_Exam_hasItem k_Exam_hasItem 2 (Option.some FieldType.boolean) ∈ gd := tb_2 (i := 106) rfl rfl
theorem im_Exam_hasItem : Cond.instanceMethod y_Exam_hasItem ∈ gd := tb_2 (i := 104) rfl rfl
theorem se_Exam_hasItem : Cond.selects "CopyBench$Exam" y_Exam_hasItem y_Exam_hasItem ∈ gd := tb_2 (i := 105) rfl rfl
abbrev k_Exam_hasCandidate : ByteArray := prog_3_method_5_code
def y_Exam_hasCandidate : MethodName := ⟨"CopyBench$Exam", "hasCandidate", "(I)Z"⟩
theorem co_Exam_hasCandidate : Cond.code y_Exam_hasCandidate k_Exam_hasCandidate 2 (Option.some FieldType.boolean) ∈ gd := tb_2 (i := 136) rfl rfl
theorem im_Exam_hasCandidate : Cond.instanceMethod y_Exam_hasCandidate ∈ gd := tb_2 (i := 134) rfl rfl
theorem se_Exam_hasCandidate : Cond.selects "CopyBench$Exam" y_Exam_hasCandidate y_Exam_hasCandidate ∈ gd := tb_2 (i := 135) rfl rfl
abbrev k_Exam_hasTwo : ByteArray := prog_3_method_6_code
def y_Exam_hasTwo : MethodName := ⟨"CopyBench$Exam", "hasTwo", "(II)Z"⟩
theorem co_Exam_hasTwo : Cond.code y_Exam_hasTwo k_Exam_hasTwo 3 (Option.some FieldType.boolean) ∈ gd := tb_2 (i := 239) rfl rfl
theorem im_Exam_hasTwo : Cond.instanceMethod y_Exam_hasTwo ∈ gd := tb_2 (i := 237) rfl rfl
theorem se_Exam_hasTwo : Cond.selects "CopyBench$Exam" y_Exam_hasTwo y_Exam_hasTwo ∈ gd := tb_2 (i := 238) rfl rfl
abbrev k_Exam_comes : ByteArray := prog_3_method_7_code
def y_Exam_comes : MethodName := ⟨"CopyBench$Exam", "comes", "()I"⟩
theorem co_Exam_comes : Cond.code y_Exam_comes k_Exam_comes 1 (Option.some FieldType.int) ∈ gd := tb_2 (i := 128) rfl rfl
theorem im_Exam_comes : Cond.instanceMethod y_Exam_comes ∈ gd := tb_2 (i := 126) rfl rfl
theorem se_Exam_comes : Cond.selects "CopyBench$Exam" y_Exam_comes y_Exam_comes ∈ gd := tb_2 (i := 127) rfl rfl
abbrev k_Exam_leaveBlank : ByteArray := prog_3_method_8_code
def y_Exam_leaveBlank : MethodName := ⟨"CopyBench$Exam", "leaveBlank", "(I)V"⟩
theorem co_Exam_leaveBlank : Cond.code y_Exam_leaveBlank k_Exam_leaveBlank 3 (Option.none : Option FieldType) ∈ gd := tb_1 (i := 38) rfl rfl
theorem im_Exam_leaveBlank : Cond.instanceMethod y_Exam_leaveBlank ∈ gd := tb_1 (i := 36) rfl rfl
theorem se_Exam_leaveBlank : Cond.selects "CopyBench$Exam" y_Exam_leaveBlank y_Exam_leaveBlank ∈ gd := tb_1 (i := 37) rfl rfl
abbrev k_Exam_sits : ByteArray := prog_3_method_9_code
def y_Exam_sits : MethodName := ⟨"CopyBench$Exam", "sits", "(III)V"⟩
theorem co_Exam_sits : Cond.code y_Exam_sits k_Exam_sits 4 (Option.none : Option FieldType) ∈ gd := tb_1 (i := 42) rfl rfl
theorem im_Exam_sits : Cond.instanceMethod y_Exam_sits ∈ gd := tb_1 (i := 40) rfl rfl
theorem se_Exam_sits : Cond.selects "CopyBench$Exam" y_Exam_sits y_Exam_sits ∈ gd := tb_1 (i := 41) rfl rfl
abbrev k_Exam_hasSeat : ByteArray := prog_3_method_10_code
def y_Exam_hasSeat : MethodName := ⟨"CopyBench$Exam", "hasSeat", "(I)Z"⟩
theorem co_Exam_hasSeat : Cond.code y_Exam_hasSeat k_Exam_hasSeat 2 (Option.some FieldType.boolean) ∈ gd := tb_3 (i := 129) rfl rfl
theorem im_Exam_hasSeat : Cond.instanceMethod y_Exam_hasSeat ∈ gd := tb_3 (i := 127) rfl rfl
theorem se_Exam_hasSeat : Cond.selects "CopyBench$Exam" y_Exam_hasSeat y_Exam_hasSeat ∈ gd := tb_3 (i := 128) rfl rfl
abbrev k_Exam_whoSits : ByteArray := prog_3_method_11_code
def y_Exam_whoSits : MethodName := ⟨"CopyBench$Exam", "whoSits", "(II)I"⟩
theorem co_Exam_whoSits : Cond.code y_Exam_whoSits k_Exam_whoSits 4 (Option.some FieldType.int) ∈ gd := tb_2 (i := 148) rfl rfl
theorem im_Exam_whoSits : Cond.instanceMethod y_Exam_whoSits ∈ gd := tb_2 (i := 146) rfl rfl
theorem se_Exam_whoSits : Cond.selects "CopyBench$Exam" y_Exam_whoSits y_Exam_whoSits ∈ gd := tb_2 (i := 147) rfl rfl
abbrev k_Exam_seatedOnes : ByteArray := prog_3_method_12_code
def y_Exam_seatedOnes : MethodName := ⟨"CopyBench$Exam", "seatedOnes", "()I"⟩
theorem co_Exam_seatedOnes : Cond.code y_Exam_seatedOnes k_Exam_seatedOnes 3 (Option.some FieldType.int) ∈ gd := tb_4 (i := 150) rfl rfl
theorem im_Exam_seatedOnes : Cond.instanceMethod y_Exam_seatedOnes ∈ gd := tb_4 (i := 148) rfl rfl
theorem se_Exam_seatedOnes : Cond.selects "CopyBench$Exam" y_Exam_seatedOnes y_Exam_seatedOnes ∈ gd := tb_4 (i := 149) rfl rfl
abbrev k_Exam_answersOf : ByteArray := prog_3_method_13_code
def y_Exam_answersOf : MethodName := ⟨"CopyBench$Exam", "answersOf", "(I)I"⟩
theorem co_Exam_answersOf : Cond.code y_Exam_answersOf k_Exam_answersOf 4 (Option.some FieldType.int) ∈ gd := tb_2 (i := 203) rfl rfl
theorem im_Exam_answersOf : Cond.instanceMethod y_Exam_answersOf ∈ gd := tb_2 (i := 201) rfl rfl
theorem se_Exam_answersOf : Cond.selects "CopyBench$Exam" y_Exam_answersOf y_Exam_answersOf ∈ gd := tb_2 (i := 202) rfl rfl
abbrev k_Exam_rightOnesOf : ByteArray := prog_3_method_14_code
def y_Exam_rightOnesOf : MethodName := ⟨"CopyBench$Exam", "rightOnesOf", "(I)I"⟩
theorem co_Exam_rightOnesOf : Cond.code y_Exam_rightOnesOf k_Exam_rightOnesOf 4 (Option.some FieldType.int) ∈ gd := tb_2 (i := 207) rfl rfl
theorem im_Exam_rightOnesOf : Cond.instanceMethod y_Exam_rightOnesOf ∈ gd := tb_2 (i := 205) rfl rfl
theorem se_Exam_rightOnesOf : Cond.selects "CopyBench$Exam" y_Exam_rightOnesOf y_Exam_rightOnesOf ∈ gd := tb_2 (i := 206) rfl rfl
abbrev k_Exam_howMany : ByteArray := prog_3_method_15_code
def y_Exam_howMany : MethodName := ⟨"CopyBench$Exam", "howMany", "(II)I"⟩
theorem co_Exam_howMany : Cond.code y_Exam_howMany k_Exam_howMany 5 (Option.some FieldType.int) ∈ gd := tb_2 (i := 219) rfl rfl
theorem im_Exam_howMany : Cond.instanceMethod y_Exam_howMany ∈ gd := tb_2 (i := 217) rfl rfl
theorem se_Exam_howMany : Cond.selects "CopyBench$Exam" y_Exam_howMany y_Exam_howMany ∈ gd := tb_2 (i := 218) rfl rfl
abbrev k_Exam_answersTo : ByteArray := prog_3_method_16_code
def y_Exam_answersTo : MethodName := ⟨"CopyBench$Exam", "answersTo", "(I)I"⟩
theorem co_Exam_answersTo : Cond.code y_Exam_answersTo k_Exam_answersTo 2 (Option.some FieldType.int) ∈ gd := tb_2 (i := 215) rfl rfl
theorem im_Exam_answersTo : Cond.instanceMethod y_Exam_answersTo ∈ gd := tb_2 (i := 213) rfl rfl
theorem se_Exam_answersTo : Cond.selects "CopyBench$Exam" y_Exam_answersTo y_Exam_answersTo ∈ gd := tb_2 (i := 214) rfl rfl
abbrev k_Exam_favouriteMistake : ByteArray := prog_3_method_17_code
def y_Exam_favouriteMistake : MethodName := ⟨"CopyBench$Exam", "favouriteMistake", "(I)I"⟩
theorem co_Exam_favouriteMistake : Cond.code y_Exam_favouriteMistake k_Exam_favouriteMistake 6 (Option.some FieldType.int) ∈ gd := tb_2 (i := 224) rfl rfl
theorem im_Exam_favouriteMistake : Cond.instanceMethod y_Exam_favouriteMistake ∈ gd := tb_2 (i := 222) rfl rfl
theorem se_Exam_favouriteMistake : Cond.selects "CopyBench$Exam" y_Exam_favouriteMistake y_Exam_favouriteMistake ∈ gd := tb_2 (i := 223) rfl rfl
abbrev k_Exam_bothGave : ByteArray := prog_3_method_18_code
def y_Exam_bothGave : MethodName := ⟨"CopyBench$Exam", "bothGave", "(III)Z"⟩
theorem co_Exam_bothGave : Cond.code y_Exam_bothGave k_Exam_bothGave 4 (Option.some FieldType.boolean) ∈ gd := tb_3 (i := 43) rfl rfl
theorem im_Exam_bothGave : Cond.instanceMethod y_Exam_bothGave ∈ gd := tb_3 (i := 41) rfl rfl
theorem se_Exam_bothGave : Cond.selects "CopyBench$Exam" y_Exam_bothGave y_Exam_bothGave ∈ gd := tb_3 (i := 42) rfl rfl
abbrev k_Exam_worth : ByteArray := prog_3_method_19_code
def y_Exam_worth : MethodName := ⟨"CopyBench$Exam", "worth", "(II)I"⟩
theorem co_Exam_worth : Cond.code y_Exam_worth k_Exam_worth 3 (Option.some FieldType.int) ∈ gd := tb_3 (i := 24) rfl rfl
theorem im_Exam_worth : Cond.instanceMethod y_Exam_worth ∈ gd := tb_3 (i := 22) rfl rfl
theorem se_Exam_worth : Cond.selects "CopyBench$Exam" y_Exam_worth y_Exam_worth ∈ gd := tb_3 (i := 23) rfl rfl
abbrev k_Exam_likenessAt : ByteArray := prog_3_method_20_code
def y_Exam_likenessAt : MethodName := ⟨"CopyBench$Exam", "likenessAt", "(III)I"⟩
theorem co_Exam_likenessAt : Cond.code y_Exam_likenessAt k_Exam_likenessAt 5 (Option.some FieldType.int) ∈ gd := tb_3 (i := 20) rfl rfl
theorem im_Exam_likenessAt : Cond.instanceMethod y_Exam_likenessAt ∈ gd := tb_3 (i := 18) rfl rfl
theorem se_Exam_likenessAt : Cond.selects "CopyBench$Exam" y_Exam_likenessAt y_Exam_likenessAt ∈ gd := tb_3 (i := 19) rfl rfl
abbrev k_Exam_likeness : ByteArray := prog_3_method_21_code
def y_Exam_likeness : MethodName := ⟨"CopyBench$Exam", "likeness", "(II)I"⟩
theorem co_Exam_likeness : Cond.code y_Exam_likeness k_Exam_likeness 5 (Option.some FieldType.int) ∈ gd := tb_3 (i := 16) rfl rfl
theorem im_Exam_likeness : Cond.instanceMethod y_Exam_likeness ∈ gd := tb_3 (i := 14) rfl rfl
theorem se_Exam_likeness : Cond.selects "CopyBench$Exam" y_Exam_likeness y_Exam_likeness ∈ gd := tb_3 (i := 15) rfl rfl
abbrev k_Exam_near : ByteArray := prog_3_method_22_code
def y_Exam_near : MethodName := ⟨"CopyBench$Exam", "near", "(III)Z"⟩
theorem co_Exam_near : Cond.code y_Exam_near k_Exam_near 4 (Option.some FieldType.boolean) ∈ gd := tb_3 (i := 125) rfl rfl
theorem im_Exam_near : Cond.instanceMethod y_Exam_near ∈ gd := tb_3 (i := 123) rfl rfl
theorem se_Exam_near : Cond.selects "CopyBench$Exam" y_Exam_near y_Exam_near ∈ gd := tb_3 (i := 124) rfl rfl
abbrev k_Exam_nearOnes : ByteArray := prog_3_method_23_code
def y_Exam_nearOnes : MethodName := ⟨"CopyBench$Exam", "nearOnes", "(I)I"⟩
theorem co_Exam_nearOnes : Cond.code y_Exam_nearOnes k_Exam_nearOnes 5 (Option.some FieldType.int) ∈ gd := tb_3 (i := 121) rfl rfl
theorem im_Exam_nearOnes : Cond.instanceMethod y_Exam_nearOnes ∈ gd := tb_3 (i := 119) rfl rfl
theorem se_Exam_nearOnes : Cond.selects "CopyBench$Exam" y_Exam_nearOnes y_Exam_nearOnes ∈ gd := tb_3 (i := 120) rfl rfl
abbrev k_Exam_inReach : ByteArray := prog_3_method_24_code
def y_Exam_inReach : MethodName := ⟨"CopyBench$Exam", "inReach", "(II)Z"⟩
theorem co_Exam_inReach : Cond.code y_Exam_inReach k_Exam_inReach 3 (Option.some FieldType.boolean) ∈ gd := tb_3 (i := 144) rfl rfl
theorem im_Exam_inReach : Cond.instanceMethod y_Exam_inReach ∈ gd := tb_3 (i := 142) rfl rfl
theorem se_Exam_inReach : Cond.selects "CopyBench$Exam" y_Exam_inReach y_Exam_inReach ∈ gd := tb_3 (i := 143) rfl rfl
abbrev k_Exam_pairsInReach : ByteArray := prog_3_method_25_code
def y_Exam_pairsInReach : MethodName := ⟨"CopyBench$Exam", "pairsInReach", "()I"⟩
theorem co_Exam_pairsInReach : Cond.code y_Exam_pairsInReach k_Exam_pairsInReach 1 (Option.some FieldType.int) ∈ gd := tb_3 (i := 117) rfl rfl
theorem im_Exam_pairsInReach : Cond.instanceMethod y_Exam_pairsInReach ∈ gd := tb_3 (i := 115) rfl rfl
theorem se_Exam_pairsInReach : Cond.selects "CopyBench$Exam" y_Exam_pairsInReach y_Exam_pairsInReach ∈ gd := tb_3 (i := 116) rfl rfl
abbrev k_Exam_likenessInReach : ByteArray := prog_3_method_26_code
def y_Exam_likenessInReach : MethodName := ⟨"CopyBench$Exam", "likenessInReach", "()I"⟩
theorem co_Exam_likenessInReach : Cond.code y_Exam_likenessInReach k_Exam_likenessInReach 4 (Option.some FieldType.int) ∈ gd := tb_4 (i := 83) rfl rfl
theorem im_Exam_likenessInReach : Cond.instanceMethod y_Exam_likenessInReach ∈ gd := tb_4 (i := 81) rfl rfl
theorem se_Exam_likenessInReach : Cond.selects "CopyBench$Exam" y_Exam_likenessInReach y_Exam_likenessInReach ∈ gd := tb_4 (i := 82) rfl rfl
abbrev k_Exam_sees : ByteArray := prog_3_method_27_code
def y_Exam_sees : MethodName := ⟨"CopyBench$Exam", "sees", "(IIZ)I"⟩
theorem co_Exam_sees : Cond.code y_Exam_sees k_Exam_sees 4 (Option.some FieldType.int) ∈ gd := tb_4 (i := 66) rfl rfl
theorem im_Exam_sees : Cond.instanceMethod y_Exam_sees ∈ gd := tb_4 (i := 64) rfl rfl
theorem se_Exam_sees : Cond.selects "CopyBench$Exam" y_Exam_sees y_Exam_sees ∈ gd := tb_4 (i := 65) rfl rfl
abbrev k_Exam_canPlan : ByteArray := prog_3_method_28_code
def y_Exam_canPlan : MethodName := ⟨"CopyBench$Exam", "canPlan", "(III)Z"⟩
theorem co_Exam_canPlan : Cond.code y_Exam_canPlan k_Exam_canPlan 4 (Option.some FieldType.boolean) ∈ gd := tb_4 (i := 93) rfl rfl
theorem im_Exam_canPlan : Cond.instanceMethod y_Exam_canPlan ∈ gd := tb_4 (i := 91) rfl rfl
theorem se_Exam_canPlan : Cond.selects "CopyBench$Exam" y_Exam_canPlan y_Exam_canPlan ∈ gd := tb_4 (i := 92) rfl rfl
abbrev k_Exam_plans : ByteArray := prog_3_method_29_code
def y_Exam_plans : MethodName := ⟨"CopyBench$Exam", "plans", "(III)I"⟩
theorem co_Exam_plans : Cond.code y_Exam_plans k_Exam_plans 4 (Option.some FieldType.int) ∈ gd := tb_4 (i := 99) rfl rfl
theorem im_Exam_plans : Cond.instanceMethod y_Exam_plans ∈ gd := tb_4 (i := 97) rfl rfl
theorem se_Exam_plans : Cond.selects "CopyBench$Exam" y_Exam_plans y_Exam_plans ∈ gd := tb_4 (i := 98) rfl rfl
abbrev k_Exam_followPlan : ByteArray := prog_3_method_30_code
def y_Exam_followPlan : MethodName := ⟨"CopyBench$Exam", "followPlan", "()V"⟩
theorem co_Exam_followPlan : Cond.code y_Exam_followPlan k_Exam_followPlan 2 (Option.none : Option FieldType) ∈ gd := tb_4 (i := 114) rfl rfl
theorem im_Exam_followPlan : Cond.instanceMethod y_Exam_followPlan ∈ gd := tb_4 (i := 112) rfl rfl
theorem se_Exam_followPlan : Cond.selects "CopyBench$Exam" y_Exam_followPlan y_Exam_followPlan ∈ gd := tb_4 (i := 113) rfl rfl
abbrev k_Exam_follow : ByteArray := prog_3_method_31_code
def y_Exam_follow : MethodName := ⟨"CopyBench$Exam", "follow", "(III)V"⟩
theorem co_Exam_follow : Cond.code y_Exam_follow k_Exam_follow 4 (Option.none : Option FieldType) ∈ gd := tb_4 (i := 118) rfl rfl
theorem im_Exam_follow : Cond.instanceMethod y_Exam_follow ∈ gd := tb_4 (i := 117) rfl rfl
theorem se_Exam_follow : Cond.selects "CopyBench$Exam" y_Exam_follow y_Exam_follow ∈ gd := List.mem_filter.mpr ⟨List.mem_append_left _ (List.mem_map.mpr ⟨(y_Exam_follow, 17), by decide +kernel, rfl⟩), rfl⟩
abbrev k_Links_init : ByteArray := prog_4_method_1_code
def y_Links_init : MethodName := ⟨"CopyBench$Links", "<init>", "()V"⟩
theorem co_Links_init : Cond.code y_Links_init k_Links_init 1 (Option.none : Option FieldType) ∈ gd := tb_1 (i := 238) rfl rfl
theorem im_Links_init : Cond.instanceMethod y_Links_init ∈ gd := tb_1 (i := 237) rfl rfl
abbrev k_Links_take : ByteArray := prog_4_method_2_code
def y_Links_take : MethodName := ⟨"CopyBench$Links", "take", "(LCopyBench$Ranking;)V"⟩
theorem co_Links_take : Cond.code y_Links_take k_Links_take 5 (Option.none : Option FieldType) ∈ gd := tb_3 (i := 176) rfl rfl
theorem im_Links_take : Cond.instanceMethod y_Links_take ∈ gd := tb_3 (i := 174) rfl rfl
theorem se_Links_take : Cond.selects "CopyBench$Links" y_Links_take y_Links_take ∈ gd := tb_3 (i := 175) rfl rfl
abbrev k_Links_areSuspect : ByteArray := prog_4_method_3_code
def y_Links_areSuspect : MethodName := ⟨"CopyBench$Links", "areSuspect", "(II)Z"⟩
theorem co_Links_areSuspect : Cond.code y_Links_areSuspect k_Links_areSuspect 3 (Option.some FieldType.boolean) ∈ gd := tb_4 (i := 19) rfl rfl
theorem im_Links_areSuspect : Cond.instanceMethod y_Links_areSuspect ∈ gd := tb_4 (i := 17) rfl rfl
theorem se_Links_areSuspect : Cond.selects "CopyBench$Links" y_Links_areSuspect y_Links_areSuspect ∈ gd := tb_4 (i := 18) rfl rfl
abbrev k_Links_reachedFrom : ByteArray := prog_4_method_4_code
def y_Links_reachedFrom : MethodName := ⟨"CopyBench$Links", "reachedFrom", "(I)I"⟩
theorem co_Links_reachedFrom : Cond.code y_Links_reachedFrom k_Links_reachedFrom 5 (Option.some FieldType.int) ∈ gd := tb_3 (i := 229) rfl rfl
theorem im_Links_reachedFrom : Cond.instanceMethod y_Links_reachedFrom ∈ gd := tb_3 (i := 227) rfl rfl
theorem se_Links_reachedFrom : Cond.selects "CopyBench$Links" y_Links_reachedFrom y_Links_reachedFrom ∈ gd := tb_3 (i := 228) rfl rfl
abbrev k_Links_groups : ByteArray := prog_4_method_5_code
def y_Links_groups : MethodName := ⟨"CopyBench$Links", "groups", "()I"⟩
theorem co_Links_groups : Cond.code y_Links_groups k_Links_groups 3 (Option.some FieldType.int) ∈ gd := tb_3 (i := 180) rfl rfl
theorem im_Links_groups : Cond.instanceMethod y_Links_groups ∈ gd := tb_3 (i := 178) rfl rfl
theorem se_Links_groups : Cond.selects "CopyBench$Links" y_Links_groups y_Links_groups ∈ gd := tb_3 (i := 179) rfl rfl
abbrev k_Links_greatest : ByteArray := prog_4_method_6_code
def y_Links_greatest : MethodName := ⟨"CopyBench$Links", "greatest", "()I"⟩
theorem co_Links_greatest : Cond.code y_Links_greatest k_Links_greatest 3 (Option.some FieldType.int) ∈ gd := tb_3 (i := 194) rfl rfl
theorem im_Links_greatest : Cond.instanceMethod y_Links_greatest ∈ gd := tb_3 (i := 192) rfl rfl
theorem se_Links_greatest : Cond.selects "CopyBench$Links" y_Links_greatest y_Links_greatest ∈ gd := tb_3 (i := 193) rfl rfl
abbrev k_Links_groupAt : ByteArray := prog_4_method_7_code
def y_Links_groupAt : MethodName := ⟨"CopyBench$Links", "groupAt", "(I)I"⟩
theorem co_Links_groupAt : Cond.code y_Links_groupAt k_Links_groupAt 4 (Option.some FieldType.int) ∈ gd := tb_3 (i := 237) rfl rfl
theorem im_Links_groupAt : Cond.instanceMethod y_Links_groupAt ∈ gd := tb_3 (i := 235) rfl rfl
theorem se_Links_groupAt : Cond.selects "CopyBench$Links" y_Links_groupAt y_Links_groupAt ∈ gd := tb_3 (i := 236) rfl rfl
abbrev k_Links_isGroup : ByteArray := prog_4_method_8_code
def y_Links_isGroup : MethodName := ⟨"CopyBench$Links", "isGroup", "(I)Z"⟩
theorem co_Links_isGroup : Cond.code y_Links_isGroup k_Links_isGroup 4 (Option.some FieldType.boolean) ∈ gd := tb_3 (i := 184) rfl rfl
theorem im_Links_isGroup : Cond.instanceMethod y_Links_isGroup ∈ gd := tb_3 (i := 183) rfl rfl
theorem se_Links_isGroup : Cond.selects "CopyBench$Links" y_Links_isGroup y_Links_isGroup ∈ gd := List.mem_filter.mpr ⟨List.mem_append_left _ (List.mem_map.mpr ⟨(y_Links_isGroup, 1), by decide +kernel, rfl⟩), rfl⟩
abbrev k_Odds_init : ByteArray := prog_5_method_1_code
def y_Odds_init : MethodName := ⟨"CopyBench$Odds", "<init>", "()V"⟩
theorem co_Odds_init : Cond.code y_Odds_init k_Odds_init 1 (Option.none : Option FieldType) ∈ gd := tb_1 (i := 145) rfl rfl
theorem im_Odds_init : Cond.instanceMethod y_Odds_init ∈ gd := tb_1 (i := 144) rfl rfl
abbrev k_Odds_spread : ByteArray := prog_5_method_2_code
def y_Odds_spread : MethodName := ⟨"CopyBench$Odds", "spread", "(LCopyBench$Exam;IIII)V"⟩
theorem co_Odds_spread : Cond.code y_Odds_spread k_Odds_spread 10 (Option.none : Option FieldType) ∈ gd := tb_3 (i := 39) rfl rfl
theorem im_Odds_spread : Cond.instanceMethod y_Odds_spread ∈ gd := tb_3 (i := 37) rfl rfl
theorem se_Odds_spread : Cond.selects "CopyBench$Odds" y_Odds_spread y_Odds_spread ∈ gd := tb_3 (i := 38) rfl rfl
abbrev k_Odds_asGreat : ByteArray := prog_5_method_3_code
def y_Odds_asGreat : MethodName := ⟨"CopyBench$Odds", "asGreat", "(LCopyBench$Ratio;)V"⟩
theorem co_Odds_asGreat : Cond.code y_Odds_asGreat k_Odds_asGreat 5 (Option.none : Option FieldType) ∈ gd := tb_3 (i := 67) rfl rfl
theorem im_Odds_asGreat : Cond.instanceMethod y_Odds_asGreat ∈ gd := tb_3 (i := 65) rfl rfl
theorem se_Odds_asGreat : Cond.selects "CopyBench$Odds" y_Odds_asGreat y_Odds_asGreat ∈ gd := tb_3 (i := 66) rfl rfl
abbrev k_Odds_exactly : ByteArray := prog_5_method_4_code
def y_Odds_exactly : MethodName := ⟨"CopyBench$Odds", "exactly", "(ILCopyBench$Ratio;)V"⟩
theorem co_Odds_exactly : Cond.code y_Odds_exactly k_Odds_exactly 3 (Option.none : Option FieldType) ∈ gd := tb_3 (i := 86) rfl rfl
theorem im_Odds_exactly : Cond.instanceMethod y_Odds_exactly ∈ gd := tb_3 (i := 84) rfl rfl
theorem se_Odds_exactly : Cond.selects "CopyBench$Odds" y_Odds_exactly y_Odds_exactly ∈ gd := tb_3 (i := 85) rfl rfl
abbrev k_Odds_takeShares : ByteArray := prog_5_method_5_code
def y_Odds_takeShares : MethodName := ⟨"CopyBench$Odds", "takeShares", "(LCopyBench$Exam;III)V"⟩
theorem co_Odds_takeShares : Cond.code y_Odds_takeShares k_Odds_takeShares 7 (Option.none : Option FieldType) ∈ gd := tb_3 (i := 4) rfl rfl
theorem im_Odds_takeShares : Cond.instanceMethod y_Odds_takeShares ∈ gd := tb_3 (i := 2) rfl rfl
theorem se_Odds_takeShares : Cond.selects "CopyBench$Odds" y_Odds_takeShares y_Odds_takeShares ∈ gd := tb_3 (i := 3) rfl rfl
abbrev k_Odds_learn : ByteArray := prog_5_method_6_code
def y_Odds_learn : MethodName := ⟨"CopyBench$Odds", "learn", "(LCopyBench$Exam;III)V"⟩
theorem co_Odds_learn : Cond.code y_Odds_learn k_Odds_learn 7 (Option.none : Option FieldType) ∈ gd := tb_3 (i := 8) rfl rfl
theorem im_Odds_learn : Cond.instanceMethod y_Odds_learn ∈ gd := tb_3 (i := 7) rfl rfl
theorem se_Odds_learn : Cond.selects "CopyBench$Odds" y_Odds_learn y_Odds_learn ∈ gd := List.mem_filter.mpr ⟨List.mem_append_left _ (List.mem_map.mpr ⟨(y_Odds_learn, 9), by decide +kernel, rfl⟩), rfl⟩
abbrev k_Odds_addItem : ByteArray := prog_5_method_7_code
def y_Odds_addItem : MethodName := ⟨"CopyBench$Odds", "addItem", "(III)V"⟩
theorem co_Odds_addItem : Cond.code y_Odds_addItem k_Odds_addItem 9 (Option.none : Option FieldType) ∈ gd := tb_3 (i := 62) rfl rfl
theorem im_Odds_addItem : Cond.instanceMethod y_Odds_addItem ∈ gd := tb_3 (i := 61) rfl rfl
theorem se_Odds_addItem : Cond.selects "CopyBench$Odds" y_Odds_addItem y_Odds_addItem ∈ gd := List.mem_filter.mpr ⟨List.mem_append_left _ (List.mem_map.mpr ⟨(y_Odds_addItem, 9), by decide +kernel, rfl⟩), rfl⟩
abbrev k_Odds_weigh : ByteArray := prog_5_method_8_code
def y_Odds_weigh : MethodName := ⟨"CopyBench$Odds", "weigh", "(LCopyBench$Exam;IIII)V"⟩
theorem co_Odds_weigh : Cond.code y_Odds_weigh k_Odds_weigh 14 (Option.none : Option FieldType) ∈ gd := tb_3 (i := 48) rfl rfl
theorem im_Odds_weigh : Cond.instanceMethod y_Odds_weigh ∈ gd := tb_3 (i := 47) rfl rfl
theorem se_Odds_weigh : Cond.selects "CopyBench$Odds" y_Odds_weigh y_Odds_weigh ∈ gd := List.mem_filter.mpr ⟨List.mem_append_left _ (List.mem_map.mpr ⟨(y_Odds_weigh, 9), by decide +kernel, rfl⟩), rfl⟩
abbrev k_Odds_put : ByteArray := prog_5_method_9_code
def y_Odds_put : MethodName := ⟨"CopyBench$Odds", "put", "(JJJ)V"⟩
theorem co_Odds_put : Cond.code y_Odds_put k_Odds_put 7 (Option.none : Option FieldType) ∈ gd := tb_3 (i := 52) rfl rfl
theorem im_Odds_put : Cond.instanceMethod y_Odds_put ∈ gd := tb_3 (i := 51) rfl rfl
theorem se_Odds_put : Cond.selects "CopyBench$Odds" y_Odds_put y_Odds_put ∈ gd := List.mem_filter.mpr ⟨List.mem_append_left _ (List.mem_map.mpr ⟨(y_Odds_put, 9), by decide +kernel, rfl⟩), rfl⟩
abbrev k_Ranking_init : ByteArray := prog_6_method_1_code
def y_Ranking_init : MethodName := ⟨"CopyBench$Ranking", "<init>", "()V"⟩
theorem co_Ranking_init : Cond.code y_Ranking_init k_Ranking_init 1 (Option.none : Option FieldType) ∈ gd := tb_1 (i := 197) rfl rfl
theorem im_Ranking_init : Cond.instanceMethod y_Ranking_init ∈ gd := tb_1 (i := 196) rfl rfl
abbrev k_Ranking_has : ByteArray := prog_6_method_2_code
def y_Ranking_has : MethodName := ⟨"CopyBench$Ranking", "has", "(I)Z"⟩
theorem co_Ranking_has : Cond.code y_Ranking_has k_Ranking_has 2 (Option.some FieldType.boolean) ∈ gd := tb_3 (i := 203) rfl rfl
theorem im_Ranking_has : Cond.instanceMethod y_Ranking_has ∈ gd := tb_3 (i := 201) rfl rfl
theorem se_Ranking_has : Cond.selects "CopyBench$Ranking" y_Ranking_has y_Ranking_has ∈ gd := tb_3 (i := 202) rfl rfl
abbrev k_Ranking_order : ByteArray := prog_6_method_3_code
def y_Ranking_order : MethodName := ⟨"CopyBench$Ranking", "order", "(LCopyBench$Exam;LCopyBench$Odds;I)V"⟩
theorem co_Ranking_order : Cond.code y_Ranking_order k_Ranking_order 6 (Option.none : Option FieldType) ∈ gd := tb_3 (i := 140) rfl rfl
theorem im_Ranking_order : Cond.instanceMethod y_Ranking_order ∈ gd := tb_3 (i := 138) rfl rfl
theorem se_Ranking_order : Cond.selects "CopyBench$Ranking" y_Ranking_order y_Ranking_order ∈ gd := tb_3 (i := 139) rfl rfl
abbrev k_Ranking_placeOf : ByteArray := prog_6_method_4_code
def y_Ranking_placeOf : MethodName := ⟨"CopyBench$Ranking", "placeOf", "(II)I"⟩
theorem co_Ranking_placeOf : Cond.code y_Ranking_placeOf k_Ranking_placeOf 6 (Option.some FieldType.int) ∈ gd := tb_3 (i := 215) rfl rfl
theorem im_Ranking_placeOf : Cond.instanceMethod y_Ranking_placeOf ∈ gd := tb_3 (i := 213) rfl rfl
theorem se_Ranking_placeOf : Cond.selects "CopyBench$Ranking" y_Ranking_placeOf y_Ranking_placeOf ∈ gd := tb_3 (i := 214) rfl rfl
abbrev k_Ranking_agrees : ByteArray := prog_6_method_5_code
def y_Ranking_agrees : MethodName := ⟨"CopyBench$Ranking", "agrees", "(LCopyBench$Exam;)Z"⟩
theorem co_Ranking_agrees : Cond.code y_Ranking_agrees k_Ranking_agrees 5 (Option.some FieldType.boolean) ∈ gd := tb_4 (i := 74) rfl rfl
theorem im_Ranking_agrees : Cond.instanceMethod y_Ranking_agrees ∈ gd := tb_4 (i := 72) rfl rfl
theorem se_Ranking_agrees : Cond.selects "CopyBench$Ranking" y_Ranking_agrees y_Ranking_agrees ∈ gd := tb_4 (i := 73) rfl rfl
abbrev k_Ranking_weighPair : ByteArray := prog_6_method_6_code
def y_Ranking_weighPair : MethodName := ⟨"CopyBench$Ranking", "weighPair", "(LCopyBench$Exam;LCopyBench$Odds;III)V"⟩
theorem co_Ranking_weighPair : Cond.code y_Ranking_weighPair k_Ranking_weighPair 6 (Option.none : Option FieldType) ∈ gd := tb_3 (i := 148) rfl rfl
theorem im_Ranking_weighPair : Cond.instanceMethod y_Ranking_weighPair ∈ gd := tb_3 (i := 147) rfl rfl
theorem se_Ranking_weighPair : Cond.selects "CopyBench$Ranking" y_Ranking_weighPair y_Ranking_weighPair ∈ gd := List.mem_filter.mpr ⟨List.mem_append_left _ (List.mem_map.mpr ⟨(y_Ranking_weighPair, 8), by decide +kernel, rfl⟩), rfl⟩
abbrev k_Ranking_insert : ByteArray := prog_6_method_7_code
def y_Ranking_insert : MethodName := ⟨"CopyBench$Ranking", "insert", "(II)V"⟩
theorem co_Ranking_insert : Cond.code y_Ranking_insert k_Ranking_insert 4 (Option.none : Option FieldType) ∈ gd := tb_3 (i := 156) rfl rfl
theorem im_Ranking_insert : Cond.instanceMethod y_Ranking_insert ∈ gd := tb_3 (i := 155) rfl rfl
theorem se_Ranking_insert : Cond.selects "CopyBench$Ranking" y_Ranking_insert y_Ranking_insert ∈ gd := List.mem_filter.mpr ⟨List.mem_append_left _ (List.mem_map.mpr ⟨(y_Ranking_insert, 8), by decide +kernel, rfl⟩), rfl⟩
abbrev k_Ranking_countSuspects : ByteArray := prog_6_method_8_code
def y_Ranking_countSuspects : MethodName := ⟨"CopyBench$Ranking", "countSuspects", "(II)I"⟩
theorem co_Ranking_countSuspects : Cond.code y_Ranking_countSuspects k_Ranking_countSuspects 4 (Option.some FieldType.int) ∈ gd := tb_3 (i := 162) rfl rfl
theorem im_Ranking_countSuspects : Cond.instanceMethod y_Ranking_countSuspects ∈ gd := tb_3 (i := 161) rfl rfl
theorem se_Ranking_countSuspects : Cond.selects "CopyBench$Ranking" y_Ranking_countSuspects y_Ranking_countSuspects ∈ gd := List.mem_filter.mpr ⟨List.mem_append_left _ (List.mem_map.mpr ⟨(y_Ranking_countSuspects, 8), by decide +kernel, rfl⟩), rfl⟩
abbrev k_Ranking_holds : ByteArray := prog_6_method_9_code
def y_Ranking_holds : MethodName := ⟨"CopyBench$Ranking", "holds", "(III)Z"⟩
theorem co_Ranking_holds : Cond.code y_Ranking_holds k_Ranking_holds 6 (Option.some FieldType.boolean) ∈ gd := tb_3 (i := 166) rfl rfl
theorem im_Ranking_holds : Cond.instanceMethod y_Ranking_holds ∈ gd := tb_3 (i := 165) rfl rfl
theorem se_Ranking_holds : Cond.selects "CopyBench$Ranking" y_Ranking_holds y_Ranking_holds ∈ gd := List.mem_filter.mpr ⟨List.mem_append_left _ (List.mem_map.mpr ⟨(y_Ranking_holds, 8), by decide +kernel, rfl⟩), rfl⟩
abbrev k_Ratio_init : ByteArray := prog_7_method_1_code
def y_Ratio_init : MethodName := ⟨"CopyBench$Ratio", "<init>", "()V"⟩
theorem co_Ratio_init : Cond.code y_Ratio_init k_Ratio_init 1 (Option.none : Option FieldType) ∈ gd := tb_1 (i := 184) rfl rfl
theorem im_Ratio_init : Cond.instanceMethod y_Ratio_init ∈ gd := tb_1 (i := 183) rfl rfl
abbrev k_Ratio_put : ByteArray := prog_7_method_2_code
def y_Ratio_put : MethodName := ⟨"CopyBench$Ratio", "put", "(JJ)V"⟩
theorem co_Ratio_put : Cond.code y_Ratio_put k_Ratio_put 7 (Option.none : Option FieldType) ∈ gd := tb_3 (i := 71) rfl rfl
theorem im_Ratio_put : Cond.instanceMethod y_Ratio_put ∈ gd := tb_3 (i := 69) rfl rfl
theorem se_Ratio_put : Cond.selects "CopyBench$Ratio" y_Ratio_put y_Ratio_put ∈ gd := tb_3 (i := 70) rfl rfl
abbrev k_Ratio_copy : ByteArray := prog_7_method_3_code
def y_Ratio_copy : MethodName := ⟨"CopyBench$Ratio", "copy", "(LCopyBench$Ratio;)V"⟩
theorem co_Ratio_copy : Cond.code y_Ratio_copy k_Ratio_copy 2 (Option.none : Option FieldType) ∈ gd := tb_3 (i := 109) rfl rfl
theorem im_Ratio_copy : Cond.instanceMethod y_Ratio_copy ∈ gd := tb_3 (i := 107) rfl rfl
theorem se_Ratio_copy : Cond.selects "CopyBench$Ratio" y_Ratio_copy y_Ratio_copy ∈ gd := tb_3 (i := 108) rfl rfl
abbrev k_Ratio_half : ByteArray := prog_7_method_4_code
def y_Ratio_half : MethodName := ⟨"CopyBench$Ratio", "half", "(I)J"⟩
theorem co_Ratio_half : Cond.code y_Ratio_half k_Ratio_half 2 (Option.some FieldType.long) ∈ gd := tb_3 (i := 78) rfl rfl
theorem im_Ratio_half : Cond.instanceMethod y_Ratio_half ∈ gd := tb_3 (i := 76) rfl rfl
theorem se_Ratio_half : Cond.selects "CopyBench$Ratio" y_Ratio_half y_Ratio_half ∈ gd := tb_3 (i := 77) rfl rfl
abbrev k_Ratio_against : ByteArray := prog_7_method_5_code
def y_Ratio_against : MethodName := ⟨"CopyBench$Ratio", "against", "(LCopyBench$Ratio;)I"⟩
theorem co_Ratio_against : Cond.code y_Ratio_against k_Ratio_against 2 (Option.some FieldType.int) ∈ gd := tb_3 (i := 94) rfl rfl
theorem im_Ratio_against : Cond.instanceMethod y_Ratio_against ∈ gd := tb_3 (i := 92) rfl rfl
theorem se_Ratio_against : Cond.selects "CopyBench$Ratio" y_Ratio_against y_Ratio_against ∈ gd := tb_3 (i := 93) rfl rfl
abbrev k_Ratio_commonDivisor : ByteArray := prog_7_method_6_code
def y_Ratio_commonDivisor : MethodName := ⟨"CopyBench$Ratio", "commonDivisor", "(JJ)J"⟩
theorem co_Ratio_commonDivisor : Cond.code y_Ratio_commonDivisor k_Ratio_commonDivisor 7 (Option.some FieldType.long) ∈ gd := tb_3 (i := 74) rfl rfl
theorem st_Ratio_commonDivisor : Cond.static y_Ratio_commonDivisor ∈ gd := tb_3 (i := 73) rfl rfl
abbrev k_Ratio_compare : ByteArray := prog_7_method_7_code
def y_Ratio_compare : MethodName := ⟨"CopyBench$Ratio", "compare", "(JJJJ)I"⟩
theorem co_Ratio_compare : Cond.code y_Ratio_compare k_Ratio_compare 18 (Option.some FieldType.int) ∈ gd := tb_3 (i := 97) rfl rfl
theorem st_Ratio_compare : Cond.static y_Ratio_compare ∈ gd := tb_3 (i := 96) rfl rfl
abbrev k_Seating_init : ByteArray := prog_8_method_1_code
def y_Seating_init : MethodName := ⟨"CopyBench$Seating", "<init>", "()V"⟩
theorem co_Seating_init : Cond.code y_Seating_init k_Seating_init 1 (Option.none : Option FieldType) ∈ gd := tb_2 (i := 9) rfl rfl
theorem im_Seating_init : Cond.instanceMethod y_Seating_init ∈ gd := tb_2 (i := 8) rfl rfl
abbrev k_Seating_ways : ByteArray := prog_8_method_2_code
def y_Seating_ways : MethodName := ⟨"CopyBench$Seating", "ways", "(LCopyBench$Exam;LCopyBench$Links;ILCopyBench$Ratio;)V"⟩
theorem co_Seating_ways : Cond.code y_Seating_ways k_Seating_ways 9 (Option.none : Option FieldType) ∈ gd := tb_4 (i := 5) rfl rfl
theorem im_Seating_ways : Cond.instanceMethod y_Seating_ways ∈ gd := tb_4 (i := 3) rfl rfl
theorem se_Seating_ways : Cond.selects "CopyBench$Seating" y_Seating_ways y_Seating_ways ∈ gd := tb_4 (i := 4) rfl rfl
abbrev k_Seating_gather : ByteArray := prog_8_method_3_code
def y_Seating_gather : MethodName := ⟨"CopyBench$Seating", "gather", "(LCopyBench$Exam;)V"⟩
theorem co_Seating_gather : Cond.code y_Seating_gather k_Seating_gather 3 (Option.none : Option FieldType) ∈ gd := tb_4 (i := 9) rfl rfl
theorem im_Seating_gather : Cond.instanceMethod y_Seating_gather ∈ gd := tb_4 (i := 8) rfl rfl
theorem se_Seating_gather : Cond.selects "CopyBench$Seating" y_Seating_gather y_Seating_gather ∈ gd := List.mem_filter.mpr ⟨List.mem_append_left _ (List.mem_map.mpr ⟨(y_Seating_gather, 5), by decide +kernel, rfl⟩), rfl⟩
abbrev k_Seating_relate : ByteArray := prog_8_method_4_code
def y_Seating_relate : MethodName := ⟨"CopyBench$Seating", "relate", "(LCopyBench$Exam;LCopyBench$Links;I)V"⟩
theorem co_Seating_relate : Cond.code y_Seating_relate k_Seating_relate 6 (Option.none : Option FieldType) ∈ gd := tb_4 (i := 14) rfl rfl
theorem im_Seating_relate : Cond.instanceMethod y_Seating_relate ∈ gd := tb_4 (i := 13) rfl rfl
theorem se_Seating_relate : Cond.selects "CopyBench$Seating" y_Seating_relate y_Seating_relate ∈ gd := List.mem_filter.mpr ⟨List.mem_append_left _ (List.mem_map.mpr ⟨(y_Seating_relate, 5), by decide +kernel, rfl⟩), rfl⟩
abbrev k_Seating_nearSuspects : ByteArray := prog_8_method_5_code
def y_Seating_nearSuspects : MethodName := ⟨"CopyBench$Seating", "nearSuspects", "()I"⟩
theorem co_Seating_nearSuspects : Cond.code y_Seating_nearSuspects k_Seating_nearSuspects 4 (Option.some FieldType.int) ∈ gd := tb_4 (i := 23) rfl rfl
theorem im_Seating_nearSuspects : Cond.instanceMethod y_Seating_nearSuspects ∈ gd := tb_4 (i := 22) rfl rfl
theorem se_Seating_nearSuspects : Cond.selects "CopyBench$Seating" y_Seating_nearSuspects y_Seating_nearSuspects ∈ gd := List.mem_filter.mpr ⟨List.mem_append_left _ (List.mem_map.mpr ⟨(y_Seating_nearSuspects, 5), by decide +kernel, rfl⟩), rfl⟩
abbrev k_Seating_nextWay : ByteArray := prog_8_method_6_code
def y_Seating_nextWay : MethodName := ⟨"CopyBench$Seating", "nextWay", "()Z"⟩
theorem co_Seating_nextWay : Cond.code y_Seating_nextWay k_Seating_nextWay 5 (Option.some FieldType.boolean) ∈ gd := tb_4 (i := 27) rfl rfl
theorem im_Seating_nextWay : Cond.instanceMethod y_Seating_nextWay ∈ gd := tb_4 (i := 26) rfl rfl
theorem se_Seating_nextWay : Cond.selects "CopyBench$Seating" y_Seating_nextWay y_Seating_nextWay ∈ gd := List.mem_filter.mpr ⟨List.mem_append_left _ (List.mem_map.mpr ⟨(y_Seating_nextWay, 5), by decide +kernel, rfl⟩), rfl⟩
abbrev k_Seating_swap : ByteArray := prog_8_method_7_code
def y_Seating_swap : MethodName := ⟨"CopyBench$Seating", "swap", "(II)V"⟩
theorem co_Seating_swap : Cond.code y_Seating_swap k_Seating_swap 4 (Option.none : Option FieldType) ∈ gd := tb_4 (i := 31) rfl rfl
theorem im_Seating_swap : Cond.instanceMethod y_Seating_swap ∈ gd := tb_4 (i := 30) rfl rfl
theorem se_Seating_swap : Cond.selects "CopyBench$Seating" y_Seating_swap y_Seating_swap ∈ gd := List.mem_filter.mpr ⟨List.mem_append_left _ (List.mem_map.mpr ⟨(y_Seating_swap, 5), by decide +kernel, rfl⟩), rfl⟩
abbrev k_Tape_init : ByteArray := prog_9_method_1_code
def y_Tape_init : MethodName := ⟨"CopyBench$Tape", "<init>", "()V"⟩
theorem co_Tape_init : Cond.code y_Tape_init k_Tape_init 1 (Option.none : Option FieldType) ∈ gd := tb_2 (i := 40) rfl rfl
theorem im_Tape_init : Cond.instanceMethod y_Tape_init ∈ gd := tb_2 (i := 39) rfl rfl
abbrev k_Tape_begin : ByteArray := prog_9_method_2_code
def y_Tape_begin : MethodName := ⟨"CopyBench$Tape", "begin", "(II)V"⟩
theorem co_Tape_begin : Cond.code y_Tape_begin k_Tape_begin 4 (Option.none : Option FieldType) ∈ gd := tb_4 (i := 158) rfl rfl
theorem im_Tape_begin : Cond.instanceMethod y_Tape_begin ∈ gd := tb_4 (i := 156) rfl rfl
theorem se_Tape_begin : Cond.selects "CopyBench$Tape" y_Tape_begin y_Tape_begin ∈ gd := tb_4 (i := 157) rfl rfl
abbrev k_Tape_holdsNothing : ByteArray := prog_9_method_3_code
def y_Tape_holdsNothing : MethodName := ⟨"CopyBench$Tape", "holdsNothing", "()Z"⟩
theorem co_Tape_holdsNothing : Cond.code y_Tape_holdsNothing k_Tape_holdsNothing 1 (Option.some FieldType.boolean) ∈ gd := tb_4 (i := 130) rfl rfl
theorem im_Tape_holdsNothing : Cond.instanceMethod y_Tape_holdsNothing ∈ gd := tb_4 (i := 128) rfl rfl
theorem se_Tape_holdsNothing : Cond.selects "CopyBench$Tape" y_Tape_holdsNothing y_Tape_holdsNothing ∈ gd := tb_4 (i := 129) rfl rfl
abbrev k_Tape_hasPlace : ByteArray := prog_9_method_4_code
def y_Tape_hasPlace : MethodName := ⟨"CopyBench$Tape", "hasPlace", "(I)Z"⟩
theorem co_Tape_hasPlace : Cond.code y_Tape_hasPlace k_Tape_hasPlace 2 (Option.some FieldType.boolean) ∈ gd := tb_4 (i := 166) rfl rfl
theorem im_Tape_hasPlace : Cond.instanceMethod y_Tape_hasPlace ∈ gd := tb_4 (i := 164) rfl rfl
theorem se_Tape_hasPlace : Cond.selects "CopyBench$Tape" y_Tape_hasPlace y_Tape_hasPlace ∈ gd := tb_4 (i := 165) rfl rfl
abbrev k_Tape_hasPlaceBehind : ByteArray := prog_9_method_5_code
def y_Tape_hasPlaceBehind : MethodName := ⟨"CopyBench$Tape", "hasPlaceBehind", "(II)Z"⟩
theorem co_Tape_hasPlaceBehind : Cond.code y_Tape_hasPlaceBehind k_Tape_hasPlaceBehind 3 (Option.some FieldType.boolean) ∈ gd := tb_4 (i := 134) rfl rfl
theorem im_Tape_hasPlaceBehind : Cond.instanceMethod y_Tape_hasPlaceBehind ∈ gd := tb_4 (i := 132) rfl rfl
theorem se_Tape_hasPlaceBehind : Cond.selects "CopyBench$Tape" y_Tape_hasPlaceBehind y_Tape_hasPlaceBehind ∈ gd := tb_4 (i := 133) rfl rfl
abbrev k_Tape_hasStretch : ByteArray := prog_9_method_6_code
def y_Tape_hasStretch : MethodName := ⟨"CopyBench$Tape", "hasStretch", "(II)Z"⟩
theorem co_Tape_hasStretch : Cond.code y_Tape_hasStretch k_Tape_hasStretch 3 (Option.some FieldType.boolean) ∈ gd := tb_4 (i := 182) rfl rfl
theorem im_Tape_hasStretch : Cond.instanceMethod y_Tape_hasStretch ∈ gd := tb_4 (i := 180) rfl rfl
theorem se_Tape_hasStretch : Cond.selects "CopyBench$Tape" y_Tape_hasStretch y_Tape_hasStretch ∈ gd := tb_4 (i := 181) rfl rfl
abbrev k_Tape_fitted : ByteArray := prog_9_method_7_code
def y_Tape_fitted : MethodName := ⟨"CopyBench$Tape", "fitted", "(J)J"⟩
theorem co_Tape_fitted : Cond.code y_Tape_fitted k_Tape_fitted 3 (Option.some FieldType.long) ∈ gd := tb_4 (i := 170) rfl rfl
theorem im_Tape_fitted : Cond.instanceMethod y_Tape_fitted ∈ gd := tb_4 (i := 168) rfl rfl
theorem se_Tape_fitted : Cond.selects "CopyBench$Tape" y_Tape_fitted y_Tape_fitted ∈ gd := tb_4 (i := 169) rfl rfl
abbrev k_Text_init : ByteArray := prog_10_method_1_code
def y_Text_init : MethodName := ⟨"CopyBench$Text", "<init>", "()V"⟩
theorem co_Text_init : Cond.code y_Text_init k_Text_init 1 (Option.none : Option FieldType) ∈ gd := tb_1 (i := 129) rfl rfl
theorem im_Text_init : Cond.instanceMethod y_Text_init ∈ gd := tb_1 (i := 128) rfl rfl
abbrev k_Text_isFull : ByteArray := prog_10_method_2_code
def y_Text_isFull : MethodName := ⟨"CopyBench$Text", "isFull", "()Z"⟩
theorem co_Text_isFull : Cond.code y_Text_isFull k_Text_isFull 1 (Option.some FieldType.boolean) ∈ gd := tb_2 (i := 156) rfl rfl
theorem im_Text_isFull : Cond.instanceMethod y_Text_isFull ∈ gd := tb_2 (i := 154) rfl rfl
theorem se_Text_isFull : Cond.selects "CopyBench$Text" y_Text_isFull y_Text_isFull ∈ gd := tb_2 (i := 155) rfl rfl
abbrev k_Text_append : ByteArray := prog_10_method_3_code
def y_Text_append : MethodName := ⟨"CopyBench$Text", "append", "(I)I"⟩
theorem co_Text_append : Cond.code y_Text_append k_Text_append 2 (Option.some FieldType.int) ∈ gd := tb_2 (i := 160) rfl rfl
theorem im_Text_append : Cond.instanceMethod y_Text_append ∈ gd := tb_2 (i := 158) rfl rfl
theorem se_Text_append : Cond.selects "CopyBench$Text" y_Text_append y_Text_append ∈ gd := tb_2 (i := 159) rfl rfl
abbrev k_Text_empty : ByteArray := prog_10_method_4_code
def y_Text_empty : MethodName := ⟨"CopyBench$Text", "empty", "()V"⟩
theorem co_Text_empty : Cond.code y_Text_empty k_Text_empty 1 (Option.none : Option FieldType) ∈ gd := tb_2 (i := 181) rfl rfl
theorem im_Text_empty : Cond.instanceMethod y_Text_empty ∈ gd := tb_2 (i := 179) rfl rfl
theorem se_Text_empty : Cond.selects "CopyBench$Text" y_Text_empty y_Text_empty ∈ gd := tb_2 (i := 180) rfl rfl
abbrev k_Text_examine : ByteArray := prog_10_method_5_code
def y_Text_examine : MethodName := ⟨"CopyBench$Text", "examine", "(LCopyBench$Exam;)I"⟩
theorem co_Text_examine : Cond.code y_Text_examine k_Text_examine 6 (Option.some FieldType.int) ∈ gd := tb_2 (i := 168) rfl rfl
theorem im_Text_examine : Cond.instanceMethod y_Text_examine ∈ gd := tb_2 (i := 166) rfl rfl
theorem se_Text_examine : Cond.selects "CopyBench$Text" y_Text_examine y_Text_examine ∈ gd := tb_2 (i := 167) rfl rfl
abbrev k_Text_tell : ByteArray := prog_10_method_6_code
def y_Text_tell : MethodName := ⟨"CopyBench$Text", "tell", "(LCopyBench$Exam;)V"⟩
theorem co_Text_tell : Cond.code y_Text_tell k_Text_tell 6 (Option.none : Option FieldType) ∈ gd := tb_2 (i := 176) rfl rfl
theorem im_Text_tell : Cond.instanceMethod y_Text_tell ∈ gd := tb_2 (i := 174) rfl rfl
theorem se_Text_tell : Cond.selects "CopyBench$Text" y_Text_tell y_Text_tell ∈ gd := tb_2 (i := 175) rfl rfl
abbrev k_Text_isLetter : ByteArray := prog_10_method_7_code
def y_Text_isLetter : MethodName := ⟨"CopyBench$Text", "isLetter", "(I)Z"⟩
theorem co_Text_isLetter : Cond.code y_Text_isLetter k_Text_isLetter 1 (Option.some FieldType.boolean) ∈ gd := tb_2 (i := 172) rfl rfl
theorem st_Text_isLetter : Cond.static y_Text_isLetter ∈ gd := tb_2 (i := 171) rfl rfl
abbrev k_Jint_bitCount : ByteArray := prog_13_method_49_code
def y_Jint_bitCount : MethodName := ⟨"java/lang/Integer", "bitCount", "(I)I"⟩
theorem co_Jint_bitCount : Cond.code y_Jint_bitCount k_Jint_bitCount 1 (Option.some FieldType.int) ∈ gd := tb_3 (i := 187) rfl rfl
theorem st_Jint_bitCount : Cond.static y_Jint_bitCount ∈ gd := tb_3 (i := 186) rfl rfl
theorem ini_Draws : Cond.initialized "CopyBench$Draws" ∈ gd := tb_1 (i := 9) rfl rfl
theorem ini_Exam : Cond.initialized "CopyBench$Exam" ∈ gd := tb_1 (i := 2) rfl rfl
theorem ini_Links : Cond.initialized "CopyBench$Links" ∈ gd := tb_1 (i := 7) rfl rfl
theorem ini_Odds : Cond.initialized "CopyBench$Odds" ∈ gd := tb_1 (i := 4) rfl rfl
theorem ini_Ranking : Cond.initialized "CopyBench$Ranking" ∈ gd := tb_1 (i := 6) rfl rfl
theorem ini_Ratio : Cond.initialized "CopyBench$Ratio" ∈ gd := tb_1 (i := 5) rfl rfl
theorem ini_Seating : Cond.initialized "CopyBench$Seating" ∈ gd := tb_1 (i := 8) rfl rfl
theorem ini_Tape : Cond.initialized "CopyBench$Tape" ∈ gd := tb_1 (i := 10) rfl rfl
theorem ini_Text : Cond.initialized "CopyBench$Text" ∈ gd := tb_1 (i := 3) rfl rfl
theorem ini_Cb : Cond.initialized "CopyBench" ∈ gd := tb_1 (i := 1) rfl rfl
theorem ini_Md : Cond.initialized "CopyBenchModel" ∈ gd := tb_1 (i := 11) rfl rfl
theorem ini_Jmath : Cond.initialized "java/lang/Math" ∈ gd := tb_1 (i := 12) rfl rfl
theorem ini_Jint : Cond.initialized "java/lang/Integer" ∈ gd := tb_1 (i := 13) rfl rfl
theorem ini_Jsystem : Cond.initialized "java/lang/System" ∈ gd := tb_1 (i := 14) rfl rfl
theorem xl_law_7 : Cond.classLink "CopyBenchLaw" 7 "CopyBench" ∈ gd := tb_1 (i := 15) rfl rfl
theorem ml_law_9 : Cond.methodLink "CopyBenchLaw" 9 y_Cb_init ∈ gd := tb_1 (i := 17) rfl rfl
theorem ml_Cb_3 : Cond.methodLink "CopyBench" 3 ({ cls := "java/lang/Object", name := "<init>", desc := "()V" } : MethodName) ∈ gd := tb_1 (i := 20) rfl rfl
theorem xl_Cb_9 : Cond.classLink "CopyBench" 9 "CopyBench$Exam" ∈ gd := tb_1 (i := 23) rfl rfl
theorem ml_Cb_11 : Cond.methodLink "CopyBench" 11 y_Exam_init ∈ gd := tb_1 (i := 25) rfl rfl
theorem ml_Exam_3 : Cond.methodLink "CopyBench$Exam" 3 ({ cls := "java/lang/Object", name := "<init>", desc := "()V" } : MethodName) ∈ gd := tb_1 (i := 28) rfl rfl
theorem xl_Exam_31 : Cond.classLink "CopyBench$Exam" 31 "[[I" ∈ gd := tb_1 (i := 29) rfl rfl
theorem ml_Exam_67 : Cond.methodLink "CopyBench$Exam" 67 y_Exam_begin ∈ gd := tb_1 (i := 31) rfl rfl
theorem ml_Exam_71 : Cond.methodLink "CopyBench$Exam" 71 y_Exam_leaveBlank ∈ gd := tb_1 (i := 35) rfl rfl
theorem ml_Exam_74 : Cond.methodLink "CopyBench$Exam" 74 y_Exam_sits ∈ gd := tb_1 (i := 39) rfl rfl
theorem fl_Exam_9 : Cond.fieldLink "CopyBench$Exam" 9 "CopyBench$Exam" "items" "I" ∈ gd := tb_1 (i := 43) rfl rfl
theorem fl_Draws_15 : Cond.fieldLink "CopyBench$Draws" 15 "CopyBench$Exam" "items" "I" ∈ gd := tb_1 (i := 44) rfl rfl
theorem fl_Cb_87 : Cond.fieldLink "CopyBench" 87 "CopyBench$Exam" "items" "I" ∈ gd := tb_1 (i := 45) rfl rfl
theorem fl_Odds_47 : Cond.fieldLink "CopyBench$Odds" 47 "CopyBench$Exam" "items" "I" ∈ gd := tb_1 (i := 46) rfl rfl
theorem fl_Text_25 : Cond.fieldLink "CopyBench$Text" 25 "CopyBench$Exam" "items" "I" ∈ gd := tb_1 (i := 47) rfl rfl
theorem fl_Exam_15 : Cond.fieldLink "CopyBench$Exam" 15 "CopyBench$Exam" "come" "I" ∈ gd := tb_1 (i := 48) rfl rfl
theorem fl_Seating_48 : Cond.fieldLink "CopyBench$Seating" 48 "CopyBench$Exam" "come" "I" ∈ gd := tb_1 (i := 49) rfl rfl
theorem fl_Ranking_42 : Cond.fieldLink "CopyBench$Ranking" 42 "CopyBench$Exam" "come" "I" ∈ gd := tb_1 (i := 50) rfl rfl
theorem fl_Cb_116 : Cond.fieldLink "CopyBench" 116 "CopyBench$Exam" "come" "I" ∈ gd := tb_1 (i := 51) rfl rfl
theorem fl_Odds_95 : Cond.fieldLink "CopyBench$Odds" 95 "CopyBench$Exam" "come" "I" ∈ gd := tb_1 (i := 52) rfl rfl
theorem fl_Exam_18 : Cond.fieldLink "CopyBench$Exam" 18 "CopyBench$Exam" "seen" "I" ∈ gd := tb_1 (i := 53) rfl rfl
theorem fl_Ranking_74 : Cond.fieldLink "CopyBench$Ranking" 74 "CopyBench$Exam" "seen" "I" ∈ gd := tb_1 (i := 54) rfl rfl
theorem fl_Cb_302 : Cond.fieldLink "CopyBench" 302 "CopyBench$Exam" "seen" "I" ∈ gd := tb_1 (i := 55) rfl rfl
theorem fl_Exam_21 : Cond.fieldLink "CopyBench$Exam" 21 "CopyBench$Exam" "planned" "I" ∈ gd := tb_1 (i := 56) rfl rfl
theorem fl_Cb_320 : Cond.fieldLink "CopyBench" 320 "CopyBench$Exam" "planned" "I" ∈ gd := tb_1 (i := 57) rfl rfl
theorem fl_Exam_24 : Cond.fieldLink "CopyBench$Exam" 24 "CopyBench$Exam" "key" "[I" ∈ gd := tb_1 (i := 58) rfl rfl
theorem fl_Cb_102 : Cond.fieldLink "CopyBench" 102 "CopyBench$Exam" "key" "[I" ∈ gd := tb_1 (i := 59) rfl rfl
theorem fl_Odds_101 : Cond.fieldLink "CopyBench$Odds" 101 "CopyBench$Exam" "key" "[I" ∈ gd := tb_1 (i := 60) rfl rfl
theorem fl_Exam_28 : Cond.fieldLink "CopyBench$Exam" 28 "CopyBench$Exam" "kind" "[I" ∈ gd := tb_1 (i := 61) rfl rfl
theorem fl_Cb_109 : Cond.fieldLink "CopyBench" 109 "CopyBench$Exam" "kind" "[I" ∈ gd := tb_1 (i := 62) rfl rfl
theorem fl_Odds_85 : Cond.fieldLink "CopyBench$Odds" 85 "CopyBench$Exam" "kind" "[I" ∈ gd := tb_1 (i := 63) rfl rfl
theorem fl_Exam_33 : Cond.fieldLink "CopyBench$Exam" 33 "CopyBench$Exam" "parts" "[[I" ∈ gd := tb_1 (i := 64) rfl rfl
theorem fl_Odds_88 : Cond.fieldLink "CopyBench$Odds" 88 "CopyBench$Exam" "parts" "[[I" ∈ gd := tb_1 (i := 65) rfl rfl
theorem fl_Cb_112 : Cond.fieldLink "CopyBench" 112 "CopyBench$Exam" "parts" "[[I" ∈ gd := tb_1 (i := 66) rfl rfl
theorem fl_Exam_36 : Cond.fieldLink "CopyBench$Exam" 36 "CopyBench$Exam" "given" "[[I" ∈ gd := tb_1 (i := 67) rfl rfl
theorem fl_Odds_98 : Cond.fieldLink "CopyBench$Odds" 98 "CopyBench$Exam" "given" "[[I" ∈ gd := tb_1 (i := 68) rfl rfl
theorem fl_Text_34 : Cond.fieldLink "CopyBench$Text" 34 "CopyBench$Exam" "given" "[[I" ∈ gd := tb_1 (i := 69) rfl rfl
theorem fl_Cb_126 : Cond.fieldLink "CopyBench" 126 "CopyBench$Exam" "given" "[[I" ∈ gd := tb_1 (i := 70) rfl rfl
theorem fl_Exam_39 : Cond.fieldLink "CopyBench$Exam" 39 "CopyBench$Exam" "row" "[I" ∈ gd := tb_1 (i := 71) rfl rfl
theorem fl_Cb_174 : Cond.fieldLink "CopyBench" 174 "CopyBench$Exam" "row" "[I" ∈ gd := tb_1 (i := 72) rfl rfl
theorem fl_Exam_42 : Cond.fieldLink "CopyBench$Exam" 42 "CopyBench$Exam" "place" "[I" ∈ gd := tb_1 (i := 73) rfl rfl
theorem fl_Cb_177 : Cond.fieldLink "CopyBench" 177 "CopyBench$Exam" "place" "[I" ∈ gd := tb_1 (i := 74) rfl rfl
theorem fl_Exam_45 : Cond.fieldLink "CopyBench$Exam" 45 "CopyBench$Exam" "used" "[I" ∈ gd := tb_1 (i := 75) rfl rfl
theorem fl_Odds_42 : Cond.fieldLink "CopyBench$Odds" 42 "CopyBench$Exam" "used" "[I" ∈ gd := tb_1 (i := 76) rfl rfl
theorem fl_Ranking_59 : Cond.fieldLink "CopyBench$Ranking" 59 "CopyBench$Exam" "used" "[I" ∈ gd := tb_1 (i := 77) rfl rfl
theorem fl_Cb_165 : Cond.fieldLink "CopyBench" 165 "CopyBench$Exam" "used" "[I" ∈ gd := tb_1 (i := 78) rfl rfl
theorem fl_Exam_48 : Cond.fieldLink "CopyBench$Exam" 48 "CopyBench$Exam" "seenX" "[I" ∈ gd := tb_1 (i := 79) rfl rfl
theorem fl_Ranking_77 : Cond.fieldLink "CopyBench$Ranking" 77 "CopyBench$Exam" "seenX" "[I" ∈ gd := tb_1 (i := 80) rfl rfl
theorem fl_Exam_51 : Cond.fieldLink "CopyBench$Exam" 51 "CopyBench$Exam" "seenY" "[I" ∈ gd := tb_1 (i := 81) rfl rfl
theorem fl_Ranking_80 : Cond.fieldLink "CopyBench$Ranking" 80 "CopyBench$Exam" "seenY" "[I" ∈ gd := tb_1 (i := 82) rfl rfl
theorem fl_Exam_54 : Cond.fieldLink "CopyBench$Exam" 54 "CopyBench$Exam" "seenIs" "[Z" ∈ gd := tb_1 (i := 83) rfl rfl
theorem fl_Ranking_86 : Cond.fieldLink "CopyBench$Ranking" 86 "CopyBench$Exam" "seenIs" "[Z" ∈ gd := tb_1 (i := 84) rfl rfl
theorem fl_Exam_58 : Cond.fieldLink "CopyBench$Exam" 58 "CopyBench$Exam" "planWhat" "[I" ∈ gd := tb_1 (i := 85) rfl rfl
theorem fl_Exam_61 : Cond.fieldLink "CopyBench$Exam" 61 "CopyBench$Exam" "planK" "[I" ∈ gd := tb_1 (i := 86) rfl rfl
theorem fl_Exam_64 : Cond.fieldLink "CopyBench$Exam" 64 "CopyBench$Exam" "planV" "[I" ∈ gd := tb_1 (i := 87) rfl rfl
theorem xl_Cb_28 : Cond.classLink "CopyBench" 28 "CopyBench$Text" ∈ gd := tb_1 (i := 125) rfl rfl
theorem mn_Cb_30 : Cond.methodLinkNest "CopyBench" 30 y_Text_init "CopyBench" ∈ lw_tbl := tt_1 (i := 127) rfl
theorem ml_Text_3 : Cond.methodLink "CopyBench$Text" 3 ({ cls := "java/lang/Object", name := "<init>", desc := "()V" } : MethodName) ∈ gd := tb_1 (i := 130) rfl rfl
theorem fl_Text_9 : Cond.fieldLink "CopyBench$Text" 9 "CopyBench$Text" "size" "I" ∈ gd := tb_1 (i := 131) rfl rfl
theorem fl_Cb_353 : Cond.fieldLink "CopyBench" 353 "CopyBench$Text" "size" "I" ∈ gd := tb_1 (i := 132) rfl rfl
theorem fl_Text_15 : Cond.fieldLink "CopyBench$Text" 15 "CopyBench$Text" "signs" "[I" ∈ gd := tb_1 (i := 133) rfl rfl
theorem xl_Cb_35 : Cond.classLink "CopyBench" 35 "CopyBench$Tape" ∈ gd := tb_1 (i := 139) rfl rfl
theorem xl_Cb_41 : Cond.classLink "CopyBench" 41 "CopyBench$Odds" ∈ gd := tb_1 (i := 141) rfl rfl
theorem mn_Cb_43 : Cond.methodLinkNest "CopyBench" 43 y_Odds_init "CopyBench" ∈ lw_tbl := tt_1 (i := 143) rfl
theorem ml_Odds_3 : Cond.methodLink "CopyBench$Odds" 3 ({ cls := "java/lang/Object", name := "<init>", desc := "()V" } : MethodName) ∈ gd := tb_1 (i := 146) rfl rfl
theorem fl_Odds_9 : Cond.fieldLink "CopyBench$Odds" 9 "CopyBench$Odds" "shares" "[I" ∈ gd := tb_1 (i := 147) rfl rfl
theorem fl_Draws_45 : Cond.fieldLink "CopyBench$Draws" 45 "CopyBench$Odds" "shares" "[I" ∈ gd := tb_1 (i := 148) rfl rfl
theorem fl_Cb_203 : Cond.fieldLink "CopyBench" 203 "CopyBench$Odds" "shares" "[I" ∈ gd := tb_1 (i := 149) rfl rfl
theorem fl_Odds_15 : Cond.fieldLink "CopyBench$Odds" 15 "CopyBench$Odds" "sum" "I" ∈ gd := tb_1 (i := 150) rfl rfl
theorem fl_Draws_38 : Cond.fieldLink "CopyBench$Draws" 38 "CopyBench$Odds" "sum" "I" ∈ gd := tb_1 (i := 151) rfl rfl
theorem fl_Cb_200 : Cond.fieldLink "CopyBench" 200 "CopyBench$Odds" "sum" "I" ∈ gd := tb_1 (i := 152) rfl rfl
theorem fl_Odds_19 : Cond.fieldLink "CopyBench$Odds" 19 "CopyBench$Odds" "squares" "J" ∈ gd := tb_1 (i := 153) rfl rfl
theorem fl_Odds_23 : Cond.fieldLink "CopyBench$Odds" 23 "CopyBench$Odds" "ways" "[J" ∈ gd := tb_1 (i := 154) rfl rfl
theorem fl_Odds_27 : Cond.fieldLink "CopyBench$Odds" 27 "CopyBench$Odds" "allWays" "J" ∈ gd := tb_1 (i := 155) rfl rfl
theorem fl_Odds_30 : Cond.fieldLink "CopyBench$Odds" 30 "CopyBench$Odds" "likeness" "I" ∈ gd := tb_1 (i := 156) rfl rfl
theorem fl_Odds_33 : Cond.fieldLink "CopyBench$Odds" 33 "CopyBench$Odds" "alikeRight" "J" ∈ gd := tb_1 (i := 157) rfl rfl
theorem fl_Odds_36 : Cond.fieldLink "CopyBench$Odds" 36 "CopyBench$Odds" "alikeWrong" "J" ∈ gd := tb_1 (i := 158) rfl rfl
theorem fl_Odds_39 : Cond.fieldLink "CopyBench$Odds" 39 "CopyBench$Odds" "any" "J" ∈ gd := tb_1 (i := 159) rfl rfl
theorem xl_Cb_48 : Cond.classLink "CopyBench" 48 "CopyBench$Ratio" ∈ gd := tb_1 (i := 180) rfl rfl
theorem mn_Cb_50 : Cond.methodLinkNest "CopyBench" 50 y_Ratio_init "CopyBench" ∈ lw_tbl := tt_1 (i := 182) rfl
theorem ml_Ratio_1 : Cond.methodLink "CopyBench$Ratio" 1 ({ cls := "java/lang/Object", name := "<init>", desc := "()V" } : MethodName) ∈ gd := tb_1 (i := 185) rfl rfl
theorem fl_Ratio_7 : Cond.fieldLink "CopyBench$Ratio" 7 "CopyBench$Ratio" "above" "J" ∈ gd := tb_1 (i := 186) rfl rfl
theorem fl_Ratio_13 : Cond.fieldLink "CopyBench$Ratio" 13 "CopyBench$Ratio" "below" "J" ∈ gd := tb_1 (i := 187) rfl rfl
theorem xl_Cb_58 : Cond.classLink "CopyBench" 58 "CopyBench$Ranking" ∈ gd := tb_1 (i := 193) rfl rfl
theorem mn_Cb_60 : Cond.methodLinkNest "CopyBench" 60 y_Ranking_init "CopyBench" ∈ lw_tbl := tt_1 (i := 195) rfl
theorem ml_Ranking_3 : Cond.methodLink "CopyBench$Ranking" 3 ({ cls := "java/lang/Object", name := "<init>", desc := "()V" } : MethodName) ∈ gd := tb_1 (i := 198) rfl rfl
theorem xl_Ranking_32 : Cond.classLink "CopyBench$Ranking" 32 "CopyBench$Ratio" ∈ gd := tb_1 (i := 199) rfl rfl
theorem mn_Ranking_34 : Cond.methodLinkNest "CopyBench$Ranking" 34 y_Ratio_init "CopyBench" ∈ lw_tbl := tt_1 (i := 200) rfl
theorem fl_Ranking_9 : Cond.fieldLink "CopyBench$Ranking" 9 "CopyBench$Ranking" "size" "I" ∈ gd := tb_1 (i := 201) rfl rfl
theorem fl_Ranking_15 : Cond.fieldLink "CopyBench$Ranking" 15 "CopyBench$Ranking" "suspects" "I" ∈ gd := tb_1 (i := 202) rfl rfl
theorem fl_Links_15 : Cond.fieldLink "CopyBench$Links" 15 "CopyBench$Ranking" "suspects" "I" ∈ gd := tb_1 (i := 203) rfl rfl
theorem fl_Cb_246 : Cond.fieldLink "CopyBench" 246 "CopyBench$Ranking" "suspects" "I" ∈ gd := tb_1 (i := 204) rfl rfl
theorem fl_Ranking_18 : Cond.fieldLink "CopyBench$Ranking" 18 "CopyBench$Ranking" "lower" "[I" ∈ gd := tb_1 (i := 205) rfl rfl
theorem fl_Links_21 : Cond.fieldLink "CopyBench$Links" 21 "CopyBench$Ranking" "lower" "[I" ∈ gd := tb_1 (i := 206) rfl rfl
theorem fl_Cb_264 : Cond.fieldLink "CopyBench" 264 "CopyBench$Ranking" "lower" "[I" ∈ gd := tb_1 (i := 207) rfl rfl
theorem fl_Ranking_22 : Cond.fieldLink "CopyBench$Ranking" 22 "CopyBench$Ranking" "upper" "[I" ∈ gd := tb_1 (i := 208) rfl rfl
theorem fl_Links_24 : Cond.fieldLink "CopyBench$Links" 24 "CopyBench$Ranking" "upper" "[I" ∈ gd := tb_1 (i := 209) rfl rfl
theorem fl_Cb_267 : Cond.fieldLink "CopyBench" 267 "CopyBench$Ranking" "upper" "[I" ∈ gd := tb_1 (i := 210) rfl rfl
theorem fl_Ranking_25 : Cond.fieldLink "CopyBench$Ranking" 25 "CopyBench$Ranking" "above" "[J" ∈ gd := tb_1 (i := 211) rfl rfl
theorem fl_Cb_270 : Cond.fieldLink "CopyBench" 270 "CopyBench$Ranking" "above" "[J" ∈ gd := tb_1 (i := 212) rfl rfl
theorem fl_Ranking_29 : Cond.fieldLink "CopyBench$Ranking" 29 "CopyBench$Ranking" "below" "[J" ∈ gd := tb_1 (i := 213) rfl rfl
theorem fl_Cb_274 : Cond.fieldLink "CopyBench" 274 "CopyBench$Ranking" "below" "[J" ∈ gd := tb_1 (i := 214) rfl rfl
theorem fl_Ranking_35 : Cond.fieldLink "CopyBench$Ranking" 35 "CopyBench$Ranking" "one" "LCopyBench$Ratio;" ∈ gd := tb_1 (i := 215) rfl rfl
theorem fl_Ranking_39 : Cond.fieldLink "CopyBench$Ranking" 39 "CopyBench$Ranking" "turned" "LCopyBench$Ratio;" ∈ gd := tb_1 (i := 216) rfl rfl
theorem xl_Cb_65 : Cond.classLink "CopyBench" 65 "CopyBench$Links" ∈ gd := tb_1 (i := 234) rfl rfl
theorem mn_Cb_67 : Cond.methodLinkNest "CopyBench" 67 y_Links_init "CopyBench" ∈ lw_tbl := tt_1 (i := 236) rfl
theorem ml_Links_3 : Cond.methodLink "CopyBench$Links" 3 ({ cls := "java/lang/Object", name := "<init>", desc := "()V" } : MethodName) ∈ gd := tb_1 (i := 239) rfl rfl
theorem fl_Links_9 : Cond.fieldLink "CopyBench$Links" 9 "CopyBench$Links" "suspectWith" "[I" ∈ gd := tb_2 (i := 0) rfl rfl
theorem fl_Cb_280 : Cond.fieldLink "CopyBench" 280 "CopyBench$Links" "suspectWith" "[I" ∈ gd := tb_2 (i := 1) rfl rfl
theorem xl_Cb_72 : Cond.classLink "CopyBench" 72 "CopyBench$Seating" ∈ gd := tb_2 (i := 5) rfl rfl
theorem mn_Cb_74 : Cond.methodLinkNest "CopyBench" 74 y_Seating_init "CopyBench" ∈ lw_tbl := tt_2 (i := 7) rfl
theorem ml_Seating_1 : Cond.methodLink "CopyBench$Seating" 1 ({ cls := "java/lang/Object", name := "<init>", desc := "()V" } : MethodName) ∈ gd := tb_2 (i := 10) rfl rfl
theorem fl_Seating_7 : Cond.fieldLink "CopyBench$Seating" 7 "CopyBench$Seating" "size" "I" ∈ gd := tb_2 (i := 11) rfl rfl
theorem fl_Seating_13 : Cond.fieldLink "CopyBench$Seating" 13 "CopyBench$Seating" "who" "[I" ∈ gd := tb_2 (i := 12) rfl rfl
theorem fl_Seating_17 : Cond.fieldLink "CopyBench$Seating" 17 "CopyBench$Seating" "seatOf" "[I" ∈ gd := tb_2 (i := 13) rfl rfl
theorem fl_Seating_20 : Cond.fieldLink "CopyBench$Seating" 20 "CopyBench$Seating" "nearTo" "[I" ∈ gd := tb_2 (i := 14) rfl rfl
theorem fl_Seating_23 : Cond.fieldLink "CopyBench$Seating" 23 "CopyBench$Seating" "suspectWith" "[I" ∈ gd := tb_2 (i := 15) rfl rfl
theorem xl_Cb_79 : Cond.classLink "CopyBench" 79 "CopyBench$Draws" ∈ gd := tb_2 (i := 27) rfl rfl
theorem mn_Cb_81 : Cond.methodLinkNest "CopyBench" 81 y_Draws_init "CopyBench" ∈ lw_tbl := tt_2 (i := 29) rfl
theorem ml_Draws_3 : Cond.methodLink "CopyBench$Draws" 3 ({ cls := "java/lang/Object", name := "<init>", desc := "()V" } : MethodName) ∈ gd := tb_2 (i := 32) rfl rfl
theorem fl_Draws_9 : Cond.fieldLink "CopyBench$Draws" 9 "CopyBench$Draws" "seed" "I" ∈ gd := tb_2 (i := 33) rfl rfl
theorem mn_Cb_86 : Cond.methodLinkNest "CopyBench" 86 y_Tape_init "CopyBench" ∈ lw_tbl := tt_2 (i := 38) rfl
theorem ml_Tape_1 : Cond.methodLink "CopyBench$Tape" 1 ({ cls := "java/lang/Object", name := "<init>", desc := "()V" } : MethodName) ∈ gd := tb_2 (i := 41) rfl rfl
theorem fl_Tape_9 : Cond.fieldLink "CopyBench$Tape" 9 "CopyBench$Tape" "sort" "I" ∈ gd := tb_2 (i := 42) rfl rfl
theorem fl_Cb_342 : Cond.fieldLink "CopyBench" 342 "CopyBench$Tape" "sort" "I" ∈ gd := tb_2 (i := 43) rfl rfl
theorem fl_Tape_13 : Cond.fieldLink "CopyBench$Tape" 13 "CopyBench$Tape" "size" "I" ∈ gd := tb_2 (i := 44) rfl rfl
theorem fl_Tape_16 : Cond.fieldLink "CopyBench$Tape" 16 "CopyBench$Tape" "row" "[J" ∈ gd := tb_2 (i := 45) rfl rfl
theorem fl_Cb_348 : Cond.fieldLink "CopyBench" 348 "CopyBench$Tape" "row" "[J" ∈ gd := tb_2 (i := 46) rfl rfl
theorem fl_Cb_12 : Cond.fieldLink "CopyBench" 12 "CopyBench" "now" "LCopyBench$Exam;" ∈ gd := tb_2 (i := 54) rfl rfl
theorem fl_Cb_18 : Cond.fieldLink "CopyBench" 18 "CopyBench" "kept" "LCopyBench$Exam;" ∈ gd := tb_2 (i := 55) rfl rfl
theorem fl_Cb_21 : Cond.fieldLink "CopyBench" 21 "CopyBench" "trial" "LCopyBench$Exam;" ∈ gd := tb_2 (i := 56) rfl rfl
theorem fl_Cb_24 : Cond.fieldLink "CopyBench" 24 "CopyBench" "imageTaken" "Z" ∈ gd := tb_2 (i := 57) rfl rfl
theorem fl_Cb_31 : Cond.fieldLink "CopyBench" 31 "CopyBench" "text" "LCopyBench$Text;" ∈ gd := tb_2 (i := 58) rfl rfl
theorem fl_Cb_37 : Cond.fieldLink "CopyBench" 37 "CopyBench" "tapes" "[LCopyBench$Tape;" ∈ gd := tb_2 (i := 59) rfl rfl
theorem fl_Cb_44 : Cond.fieldLink "CopyBench" 44 "CopyBench" "odds" "LCopyBench$Odds;" ∈ gd := tb_2 (i := 60) rfl rfl
theorem fl_Cb_51 : Cond.fieldLink "CopyBench" 51 "CopyBench" "first" "LCopyBench$Ratio;" ∈ gd := tb_2 (i := 61) rfl rfl
theorem fl_Cb_55 : Cond.fieldLink "CopyBench" 55 "CopyBench" "second" "LCopyBench$Ratio;" ∈ gd := tb_2 (i := 62) rfl rfl
theorem fl_Cb_61 : Cond.fieldLink "CopyBench" 61 "CopyBench" "ranking" "LCopyBench$Ranking;" ∈ gd := tb_2 (i := 63) rfl rfl
theorem fl_Cb_68 : Cond.fieldLink "CopyBench" 68 "CopyBench" "links" "LCopyBench$Links;" ∈ gd := tb_2 (i := 64) rfl rfl
theorem fl_Cb_75 : Cond.fieldLink "CopyBench" 75 "CopyBench" "seating" "LCopyBench$Seating;" ∈ gd := tb_2 (i := 65) rfl rfl
theorem fl_Cb_82 : Cond.fieldLink "CopyBench" 82 "CopyBench" "draws" "LCopyBench$Draws;" ∈ gd := tb_2 (i := 66) rfl rfl
theorem ml_law_13 : Cond.methodLink "CopyBenchLaw" 13 y_Cb_items ∈ gd := tb_2 (i := 94) rfl rfl
theorem ml_Cb_91 : Cond.methodLink "CopyBench" 91 y_Exam_begin ∈ gd := tb_2 (i := 98) rfl rfl
theorem ml_law_18 : Cond.methodLink "CopyBenchLaw" 18 y_Cb_right ∈ gd := tb_2 (i := 99) rfl rfl
theorem ml_Cb_95 : Cond.methodLink "CopyBench" 95 y_Exam_hasItem ∈ gd := tb_2 (i := 103) rfl rfl
theorem ml_Cb_99 : Cond.methodLink "CopyBench" 99 y_Cb_isAnswer ∈ gd := tb_2 (i := 107) rfl rfl
theorem ml_law_23 : Cond.methodLink "CopyBenchLaw" 23 y_Cb_model ∈ gd := tb_2 (i := 110) rfl rfl
theorem ml_Cb_106 : Cond.methodLink "CopyBench" 106 y_Cb_isKind ∈ gd := tb_2 (i := 114) rfl rfl
theorem ml_law_27 : Cond.methodLink "CopyBenchLaw" 27 y_Cb_part ∈ gd := tb_2 (i := 117) rfl rfl
theorem ml_law_32 : Cond.methodLink "CopyBenchLaw" 32 y_Cb_candidate ∈ gd := tb_2 (i := 121) rfl rfl
theorem ml_Cb_119 : Cond.methodLink "CopyBench" 119 y_Exam_comes ∈ gd := tb_2 (i := 125) rfl rfl
theorem ml_law_37 : Cond.methodLink "CopyBenchLaw" 37 y_Cb_gives ∈ gd := tb_2 (i := 129) rfl rfl
theorem ml_Cb_123 : Cond.methodLink "CopyBench" 123 y_Exam_hasCandidate ∈ gd := tb_2 (i := 133) rfl rfl
theorem ml_Cb_129 : Cond.methodLink "CopyBench" 129 y_Cb_orNeither ∈ gd := tb_2 (i := 137) rfl rfl
theorem ml_law_41 : Cond.methodLink "CopyBenchLaw" 41 y_Cb_seat ∈ gd := tb_2 (i := 140) rfl rfl
theorem ml_Cb_133 : Cond.methodLink "CopyBench" 133 y_Exam_sits ∈ gd := tb_2 (i := 144) rfl rfl
theorem ml_Cb_137 : Cond.methodLink "CopyBench" 137 y_Exam_whoSits ∈ gd := tb_2 (i := 145) rfl rfl
theorem ml_law_45 : Cond.methodLink "CopyBenchLaw" 45 y_Cb_feed ∈ gd := tb_2 (i := 149) rfl rfl
theorem ml_Cb_141 : Cond.methodLink "CopyBench" 141 y_Text_isFull ∈ gd := tb_2 (i := 153) rfl rfl
theorem ml_Cb_145 : Cond.methodLink "CopyBench" 145 y_Text_append ∈ gd := tb_2 (i := 157) rfl rfl
theorem ml_law_49 : Cond.methodLink "CopyBenchLaw" 49 y_Cb_read ∈ gd := tb_2 (i := 161) rfl rfl
theorem ml_Cb_148 : Cond.methodLink "CopyBench" 148 y_Text_examine ∈ gd := tb_2 (i := 165) rfl rfl
theorem ml_Text_19 : Cond.methodLink "CopyBench$Text" 19 y_Exam_hasCandidate ∈ gd := tb_2 (i := 169) rfl rfl
theorem ml_Text_28 : Cond.methodLink "CopyBench$Text" 28 y_Text_isLetter ∈ gd := tb_2 (i := 170) rfl rfl
theorem ml_Cb_152 : Cond.methodLink "CopyBench" 152 y_Text_tell ∈ gd := tb_2 (i := 173) rfl rfl
theorem ml_Text_31 : Cond.methodLink "CopyBench$Text" 31 y_Exam_hasItem ∈ gd := tb_2 (i := 177) rfl rfl
theorem ml_Cb_156 : Cond.methodLink "CopyBench" 156 y_Text_empty ∈ gd := tb_2 (i := 178) rfl rfl
theorem ml_law_53 : Cond.methodLink "CopyBenchLaw" 53 y_Cb_use ∈ gd := tb_2 (i := 182) rfl rfl
theorem ml_Cb_159 : Cond.methodLink "CopyBench" 159 y_Cb_leastUse ∈ gd := tb_2 (i := 186) rfl rfl
theorem ml_Cb_162 : Cond.methodLink "CopyBench" 162 y_Cb_mostUse ∈ gd := tb_2 (i := 189) rfl rfl
theorem ml_law_57 : Cond.methodLink "CopyBenchLaw" 57 y_Cb_answer ∈ gd := tb_2 (i := 192) rfl rfl
theorem ml_law_61 : Cond.methodLink "CopyBenchLaw" 61 y_Cb_of ∈ gd := tb_2 (i := 196) rfl rfl
theorem ml_Cb_168 : Cond.methodLink "CopyBench" 168 y_Exam_answersOf ∈ gd := tb_2 (i := 200) rfl rfl
theorem ml_Cb_171 : Cond.methodLink "CopyBench" 171 y_Exam_rightOnesOf ∈ gd := tb_2 (i := 204) rfl rfl
theorem ml_law_65 : Cond.methodLink "CopyBenchLaw" 65 y_Cb_itemOf ∈ gd := tb_2 (i := 208) rfl rfl
theorem ml_Cb_180 : Cond.methodLink "CopyBench" 180 y_Exam_answersTo ∈ gd := tb_2 (i := 212) rfl rfl
theorem ml_Exam_91 : Cond.methodLink "CopyBench$Exam" 91 y_Exam_howMany ∈ gd := tb_2 (i := 216) rfl rfl
theorem ml_Cb_183 : Cond.methodLink "CopyBench" 183 y_Exam_howMany ∈ gd := tb_2 (i := 220) rfl rfl
theorem ml_Cb_186 : Cond.methodLink "CopyBench" 186 y_Exam_favouriteMistake ∈ gd := tb_2 (i := 221) rfl rfl
theorem ml_law_69 : Cond.methodLink "CopyBenchLaw" 69 y_Cb_taken ∈ gd := tb_2 (i := 225) rfl rfl
theorem ml_Cb_189 : Cond.methodLink "CopyBench" 189 y_Cb_isOfSort ∈ gd := tb_2 (i := 229) rfl rfl
theorem ml_law_73 : Cond.methodLink "CopyBenchLaw" 73 y_Cb_share ∈ gd := tb_2 (i := 232) rfl rfl
theorem ml_Cb_193 : Cond.methodLink "CopyBench" 193 y_Exam_hasTwo ∈ gd := tb_2 (i := 236) rfl rfl
theorem ml_Exam_84 : Cond.methodLink "CopyBench$Exam" 84 y_Exam_hasCandidate ∈ gd := tb_3 (i := 0) rfl rfl
theorem ml_Cb_196 : Cond.methodLink "CopyBench" 196 y_Odds_takeShares ∈ gd := tb_3 (i := 1) rfl rfl
theorem ml_Odds_92 : Cond.methodLink "CopyBench$Odds" 92 y_Odds_learn ∈ gd := tb_3 (i := 5) rfl rfl
theorem ml_law_78 : Cond.methodLink "CopyBenchLaw" 78 y_Cb_alike ∈ gd := tb_3 (i := 9) rfl rfl
theorem ml_Cb_206 : Cond.methodLink "CopyBench" 206 y_Exam_likeness ∈ gd := tb_3 (i := 13) rfl rfl
theorem ml_Exam_98 : Cond.methodLink "CopyBench$Exam" 98 y_Exam_likenessAt ∈ gd := tb_3 (i := 17) rfl rfl
theorem ml_Exam_95 : Cond.methodLink "CopyBench$Exam" 95 y_Exam_worth ∈ gd := tb_3 (i := 21) rfl rfl
theorem ml_law_82 : Cond.methodLink "CopyBenchLaw" 82 y_Cb_odds ∈ gd := tb_3 (i := 25) rfl rfl
theorem ml_Cb_209 : Cond.methodLink "CopyBench" 209 y_Cb_isSupposition ∈ gd := tb_3 (i := 29) rfl rfl
theorem ml_Cb_212 : Cond.methodLink "CopyBench" 212 y_Cb_isPart ∈ gd := tb_3 (i := 32) rfl rfl
theorem cl_Cb_215 : Cond.constantLong "CopyBench" 215 (-9223372036854775808 : Int64) ∈ gd := tb_3 (i := 35) rfl rfl
theorem ml_Cb_217 : Cond.methodLink "CopyBench" 217 y_Odds_spread ∈ gd := tb_3 (i := 36) rfl rfl
theorem ml_Odds_50 : Cond.methodLink "CopyBench$Odds" 50 y_Exam_bothGave ∈ gd := tb_3 (i := 40) rfl rfl
theorem ml_Odds_54 : Cond.methodLink "CopyBench$Odds" 54 y_Odds_takeShares ∈ gd := tb_3 (i := 44) rfl rfl
theorem ml_Odds_58 : Cond.methodLink "CopyBench$Odds" 58 y_Odds_weigh ∈ gd := tb_3 (i := 45) rfl rfl
theorem ml_Odds_104 : Cond.methodLink "CopyBench$Odds" 104 y_Odds_put ∈ gd := tb_3 (i := 49) rfl rfl
theorem ml_Odds_62 : Cond.methodLink "CopyBench$Odds" 62 ({ cls := "java/lang/Math", name := "max", desc := "(II)I" } : MethodName) ∈ gd := tb_3 (i := 53) rfl rfl
theorem ml_Odds_68 : Cond.methodLink "CopyBench$Odds" 68 ({ cls := "java/lang/Math", name := "min", desc := "(II)I" } : MethodName) ∈ gd := tb_3 (i := 56) rfl rfl
theorem ml_Odds_71 : Cond.methodLink "CopyBench$Odds" 71 y_Odds_addItem ∈ gd := tb_3 (i := 59) rfl rfl
theorem ml_Odds_75 : Cond.methodLink "CopyBench$Odds" 75 y_Exam_likenessAt ∈ gd := tb_3 (i := 63) rfl rfl
theorem ml_Cb_221 : Cond.methodLink "CopyBench" 221 y_Odds_asGreat ∈ gd := tb_3 (i := 64) rfl rfl
theorem ml_Odds_79 : Cond.methodLink "CopyBench$Odds" 79 y_Ratio_put ∈ gd := tb_3 (i := 68) rfl rfl
theorem ml_Ratio_16 : Cond.methodLink "CopyBench$Ratio" 16 y_Ratio_commonDivisor ∈ gd := tb_3 (i := 72) rfl rfl
theorem ml_Cb_225 : Cond.methodLink "CopyBench" 225 y_Ratio_half ∈ gd := tb_3 (i := 75) rfl rfl
theorem ml_law_87 : Cond.methodLink "CopyBenchLaw" 87 y_Cb_just ∈ gd := tb_3 (i := 79) rfl rfl
theorem ml_Cb_229 : Cond.methodLink "CopyBench" 229 y_Odds_exactly ∈ gd := tb_3 (i := 83) rfl rfl
theorem ml_law_92 : Cond.methodLink "CopyBenchLaw" 92 y_Cb_source ∈ gd := tb_3 (i := 87) rfl rfl
theorem ml_Cb_233 : Cond.methodLink "CopyBench" 233 y_Ratio_against ∈ gd := tb_3 (i := 91) rfl rfl
theorem ml_Ratio_20 : Cond.methodLink "CopyBench$Ratio" 20 y_Ratio_compare ∈ gd := tb_3 (i := 95) rfl rfl
theorem ml_law_96 : Cond.methodLink "CopyBenchLaw" 96 y_Cb_without ∈ gd := tb_3 (i := 98) rfl rfl
theorem ml_law_100 : Cond.methodLink "CopyBenchLaw" 100 y_Cb_key ∈ gd := tb_3 (i := 102) rfl rfl
theorem ml_Cb_237 : Cond.methodLink "CopyBench" 237 y_Ratio_copy ∈ gd := tb_3 (i := 106) rfl rfl
theorem ml_law_104 : Cond.methodLink "CopyBenchLaw" 104 y_Cb_pairs ∈ gd := tb_3 (i := 110) rfl rfl
theorem ml_Cb_240 : Cond.methodLink "CopyBench" 240 y_Exam_pairsInReach ∈ gd := tb_3 (i := 114) rfl rfl
theorem ml_Exam_112 : Cond.methodLink "CopyBench$Exam" 112 y_Exam_nearOnes ∈ gd := tb_3 (i := 118) rfl rfl
theorem ml_Exam_108 : Cond.methodLink "CopyBench$Exam" 108 y_Exam_near ∈ gd := tb_3 (i := 122) rfl rfl
theorem ml_Exam_88 : Cond.methodLink "CopyBench$Exam" 88 y_Exam_hasSeat ∈ gd := tb_3 (i := 126) rfl rfl
theorem ml_Exam_102 : Cond.methodLink "CopyBench$Exam" 102 ({ cls := "java/lang/Math", name := "abs", desc := "(I)I" } : MethodName) ∈ gd := tb_3 (i := 130) rfl rfl
theorem ml_Cb_243 : Cond.methodLink "CopyBench" 243 y_Cb_rankNow ∈ gd := tb_3 (i := 133) rfl rfl
theorem ml_Cb_309 : Cond.methodLink "CopyBench" 309 y_Ranking_order ∈ gd := tb_3 (i := 137) rfl rfl
theorem ml_Ranking_47 : Cond.methodLink "CopyBench$Ranking" 47 y_Exam_inReach ∈ gd := tb_3 (i := 141) rfl rfl
theorem ml_Ranking_51 : Cond.methodLink "CopyBench$Ranking" 51 y_Ranking_weighPair ∈ gd := tb_3 (i := 145) rfl rfl
theorem ml_Ranking_90 : Cond.methodLink "CopyBench$Ranking" 90 y_Odds_spread ∈ gd := tb_3 (i := 149) rfl rfl
theorem ml_Ranking_96 : Cond.methodLink "CopyBench$Ranking" 96 y_Odds_asGreat ∈ gd := tb_3 (i := 150) rfl rfl
theorem ml_Ranking_100 : Cond.methodLink "CopyBench$Ranking" 100 y_Ratio_against ∈ gd := tb_3 (i := 151) rfl rfl
theorem ml_Ranking_104 : Cond.methodLink "CopyBench$Ranking" 104 y_Ratio_copy ∈ gd := tb_3 (i := 152) rfl rfl
theorem ml_Ranking_55 : Cond.methodLink "CopyBench$Ranking" 55 y_Ranking_insert ∈ gd := tb_3 (i := 153) rfl rfl
theorem ml_Ranking_107 : Cond.methodLink "CopyBench$Ranking" 107 y_Ratio_half ∈ gd := tb_3 (i := 157) rfl rfl
theorem ml_Ranking_111 : Cond.methodLink "CopyBench$Ranking" 111 y_Ratio_compare ∈ gd := tb_3 (i := 158) rfl rfl
theorem ml_Ranking_62 : Cond.methodLink "CopyBench$Ranking" 62 y_Ranking_countSuspects ∈ gd := tb_3 (i := 159) rfl rfl
theorem ml_Ranking_115 : Cond.methodLink "CopyBench$Ranking" 115 y_Ranking_holds ∈ gd := tb_3 (i := 163) rfl rfl
theorem cl_Ranking_119 : Cond.constantLong "CopyBench$Ranking" 119 (1000 : Int64) ∈ gd := tb_3 (i := 167) rfl rfl
theorem ml_Cb_249 : Cond.methodLink "CopyBench" 249 y_Exam_nearOnes ∈ gd := tb_3 (i := 168) rfl rfl
theorem ml_Cb_252 : Cond.methodLink "CopyBench" 252 y_Cb_linkNow ∈ gd := tb_3 (i := 169) rfl rfl
theorem ml_Cb_375 : Cond.methodLink "CopyBench" 375 y_Links_take ∈ gd := tb_3 (i := 173) rfl rfl
theorem ml_Cb_255 : Cond.methodLink "CopyBench" 255 y_Links_groups ∈ gd := tb_3 (i := 177) rfl rfl
theorem ml_Links_27 : Cond.methodLink "CopyBench$Links" 27 y_Links_isGroup ∈ gd := tb_3 (i := 181) rfl rfl
theorem ml_Links_31 : Cond.methodLink "CopyBench$Links" 31 y_Jint_bitCount ∈ gd := tb_3 (i := 185) rfl rfl
theorem cn_Jint_265 : Cond.constant "java/lang/Integer" 265 (1431655765 : Int32) ∈ gd := tb_3 (i := 188) rfl rfl
theorem cn_Jint_266 : Cond.constant "java/lang/Integer" 266 (858993459 : Int32) ∈ gd := tb_3 (i := 189) rfl rfl
theorem cn_Jint_267 : Cond.constant "java/lang/Integer" 267 (252645135 : Int32) ∈ gd := tb_3 (i := 190) rfl rfl
theorem ml_Cb_258 : Cond.methodLink "CopyBench" 258 y_Links_greatest ∈ gd := tb_3 (i := 191) rfl rfl
theorem ml_Links_37 : Cond.methodLink "CopyBench$Links" 37 ({ cls := "java/lang/Math", name := "max", desc := "(II)I" } : MethodName) ∈ gd := tb_3 (i := 195) rfl rfl
theorem ml_law_108 : Cond.methodLink "CopyBenchLaw" 108 y_Cb_pair ∈ gd := tb_3 (i := 196) rfl rfl
theorem ml_Cb_261 : Cond.methodLink "CopyBench" 261 y_Ranking_has ∈ gd := tb_3 (i := 200) rfl rfl
theorem ml_law_112 : Cond.methodLink "CopyBenchLaw" 112 y_Cb_pairOdds ∈ gd := tb_3 (i := 204) rfl rfl
theorem ml_law_117 : Cond.methodLink "CopyBenchLaw" 117 y_Cb_rank ∈ gd := tb_3 (i := 208) rfl rfl
theorem ml_Cb_277 : Cond.methodLink "CopyBench" 277 y_Ranking_placeOf ∈ gd := tb_3 (i := 212) rfl rfl
theorem ml_Ranking_66 : Cond.methodLink "CopyBench$Ranking" 66 ({ cls := "java/lang/Math", name := "min", desc := "(II)I" } : MethodName) ∈ gd := tb_3 (i := 216) rfl rfl
theorem ml_Ranking_71 : Cond.methodLink "CopyBench$Ranking" 71 ({ cls := "java/lang/Math", name := "max", desc := "(II)I" } : MethodName) ∈ gd := tb_3 (i := 217) rfl rfl
theorem ml_law_121 : Cond.methodLink "CopyBenchLaw" 121 y_Cb_linked ∈ gd := tb_3 (i := 218) rfl rfl
theorem ml_law_125 : Cond.methodLink "CopyBenchLaw" 125 y_Cb_chain ∈ gd := tb_3 (i := 222) rfl rfl
theorem ml_Cb_283 : Cond.methodLink "CopyBench" 283 y_Links_reachedFrom ∈ gd := tb_3 (i := 226) rfl rfl
theorem ml_law_129 : Cond.methodLink "CopyBenchLaw" 129 y_Cb_group ∈ gd := tb_3 (i := 230) rfl rfl
theorem ml_Cb_286 : Cond.methodLink "CopyBench" 286 y_Links_groupAt ∈ gd := tb_3 (i := 234) rfl rfl
theorem ml_law_133 : Cond.methodLink "CopyBenchLaw" 133 y_Cb_seated ∈ gd := tb_3 (i := 238) rfl rfl
theorem ml_Cb_289 : Cond.methodLink "CopyBench" 289 y_Seating_ways ∈ gd := tb_4 (i := 2) rfl rfl
theorem ml_Seating_26 : Cond.methodLink "CopyBench$Seating" 26 y_Seating_gather ∈ gd := tb_4 (i := 6) rfl rfl
theorem ml_Seating_53 : Cond.methodLink "CopyBench$Seating" 53 y_Exam_hasSeat ∈ gd := tb_4 (i := 10) rfl rfl
theorem ml_Seating_30 : Cond.methodLink "CopyBench$Seating" 30 y_Seating_relate ∈ gd := tb_4 (i := 11) rfl rfl
theorem ml_Seating_57 : Cond.methodLink "CopyBench$Seating" 57 y_Exam_near ∈ gd := tb_4 (i := 15) rfl rfl
theorem ml_Seating_61 : Cond.methodLink "CopyBench$Seating" 61 y_Links_areSuspect ∈ gd := tb_4 (i := 16) rfl rfl
theorem ml_Seating_34 : Cond.methodLink "CopyBench$Seating" 34 y_Seating_nearSuspects ∈ gd := tb_4 (i := 20) rfl rfl
theorem ml_Seating_38 : Cond.methodLink "CopyBench$Seating" 38 y_Seating_nextWay ∈ gd := tb_4 (i := 24) rfl rfl
theorem ml_Seating_67 : Cond.methodLink "CopyBench$Seating" 67 y_Seating_swap ∈ gd := tb_4 (i := 28) rfl rfl
theorem ml_Seating_42 : Cond.methodLink "CopyBench$Seating" 42 y_Ratio_put ∈ gd := tb_4 (i := 32) rfl rfl
theorem ml_law_137 : Cond.methodLink "CopyBenchLaw" 137 y_Cb_drawn ∈ gd := tb_4 (i := 33) rfl rfl
theorem ml_Cb_293 : Cond.methodLink "CopyBench" 293 y_Draws_likeness ∈ gd := tb_4 (i := 37) rfl rfl
theorem ml_Draws_20 : Cond.methodLink "CopyBench$Draws" 20 y_Exam_bothGave ∈ gd := tb_4 (i := 41) rfl rfl
theorem ml_Draws_24 : Cond.methodLink "CopyBench$Draws" 24 y_Odds_takeShares ∈ gd := tb_4 (i := 42) rfl rfl
theorem ml_Draws_30 : Cond.methodLink "CopyBench$Draws" 30 y_Draws_anAnswer ∈ gd := tb_4 (i := 43) rfl rfl
theorem ml_Draws_41 : Cond.methodLink "CopyBench$Draws" 41 y_Draws_below ∈ gd := tb_4 (i := 47) rfl rfl
theorem cn_Draws_49 : Cond.constant "CopyBench$Draws" 49 (1103515245 : Int32) ∈ gd := tb_4 (i := 51) rfl rfl
theorem ml_Draws_34 : Cond.methodLink "CopyBench$Draws" 34 y_Exam_worth ∈ gd := tb_4 (i := 52) rfl rfl
theorem ml_law_141 : Cond.methodLink "CopyBenchLaw" 141 y_Cb_chance ∈ gd := tb_4 (i := 53) rfl rfl
theorem cl_Cb_296 : Cond.constantLong "CopyBench" 296 (6 : Int64) ∈ gd := tb_4 (i := 57) rfl rfl
theorem ml_Cb_298 : Cond.methodLink "CopyBench" 298 y_Ratio_put ∈ gd := tb_4 (i := 58) rfl rfl
theorem ml_law_145 : Cond.methodLink "CopyBenchLaw" 145 y_Cb_see ∈ gd := tb_4 (i := 59) rfl rfl
theorem ml_Cb_305 : Cond.methodLink "CopyBench" 305 y_Exam_sees ∈ gd := tb_4 (i := 63) rfl rfl
theorem ml_law_150 : Cond.methodLink "CopyBenchLaw" 150 y_Cb_fits ∈ gd := tb_4 (i := 67) rfl rfl
theorem ml_Cb_313 : Cond.methodLink "CopyBench" 313 y_Ranking_agrees ∈ gd := tb_4 (i := 71) rfl rfl
theorem ml_Ranking_83 : Cond.methodLink "CopyBench$Ranking" 83 y_Ranking_placeOf ∈ gd := tb_4 (i := 75) rfl rfl
theorem ml_law_154 : Cond.methodLink "CopyBenchLaw" 154 y_Cb_mean ∈ gd := tb_4 (i := 76) rfl rfl
theorem ml_Cb_317 : Cond.methodLink "CopyBench" 317 y_Exam_likenessInReach ∈ gd := tb_4 (i := 80) rfl rfl
theorem ml_Exam_115 : Cond.methodLink "CopyBench$Exam" 115 y_Exam_inReach ∈ gd := tb_4 (i := 84) rfl rfl
theorem ml_Exam_119 : Cond.methodLink "CopyBench$Exam" 119 y_Exam_likeness ∈ gd := tb_4 (i := 85) rfl rfl
theorem ml_law_159 : Cond.methodLink "CopyBenchLaw" 159 y_Cb_plan ∈ gd := tb_4 (i := 86) rfl rfl
theorem ml_Cb_323 : Cond.methodLink "CopyBench" 323 y_Exam_canPlan ∈ gd := tb_4 (i := 90) rfl rfl
theorem ml_Exam_122 : Cond.methodLink "CopyBench$Exam" 122 y_Exam_hasItem ∈ gd := tb_4 (i := 94) rfl rfl
theorem ml_Exam_125 : Cond.methodLink "CopyBench$Exam" 125 y_Exam_hasTwo ∈ gd := tb_4 (i := 95) rfl rfl
theorem ml_Cb_327 : Cond.methodLink "CopyBench" 327 y_Exam_plans ∈ gd := tb_4 (i := 96) rfl rfl
theorem ml_law_163 : Cond.methodLink "CopyBenchLaw" 163 y_Cb_ends ∈ gd := tb_4 (i := 100) rfl rfl
theorem ml_Cb_331 : Cond.methodLink "CopyBench" 331 y_Exam_copy ∈ gd := tb_4 (i := 104) rfl rfl
theorem ml_Exam_78 : Cond.methodLink "CopyBench$Exam" 78 ({ cls := "java/lang/System", name := "arraycopy", desc := "(Ljava/lang/Object;ILjava/lang/Object;II)V" } : MethodName) ∈ gd := tb_4 (i := 108) rfl rfl
theorem ml_Cb_333 : Cond.methodLink "CopyBench" 333 y_Exam_followPlan ∈ gd := tb_4 (i := 111) rfl rfl
theorem ml_Exam_128 : Cond.methodLink "CopyBench$Exam" 128 y_Exam_follow ∈ gd := tb_4 (i := 115) rfl rfl
theorem ml_Exam_131 : Cond.methodLink "CopyBench$Exam" 131 y_Exam_canPlan ∈ gd := tb_4 (i := 119) rfl rfl
theorem ml_law_167 : Cond.methodLink "CopyBenchLaw" 167 y_Cb_judge ∈ gd := tb_4 (i := 120) rfl rfl
theorem ml_Cb_336 : Cond.methodLink "CopyBench" 336 y_Cb_isTape ∈ gd := tb_4 (i := 124) rfl rfl
theorem ml_Cb_339 : Cond.methodLink "CopyBench" 339 y_Tape_holdsNothing ∈ gd := tb_4 (i := 127) rfl rfl
theorem ml_Cb_345 : Cond.methodLink "CopyBench" 345 y_Tape_hasPlaceBehind ∈ gd := tb_4 (i := 131) rfl rfl
theorem ml_law_171 : Cond.methodLink "CopyBenchLaw" 171 y_Cb_image ∈ gd := tb_4 (i := 135) rfl rfl
theorem ml_law_175 : Cond.methodLink "CopyBenchLaw" 175 y_Cb_undo ∈ gd := tb_4 (i := 139) rfl rfl
theorem ml_law_179 : Cond.methodLink "CopyBenchLaw" 179 y_Cb_count ∈ gd := tb_4 (i := 143) rfl rfl
theorem ml_Cb_350 : Cond.methodLink "CopyBench" 350 y_Exam_seatedOnes ∈ gd := tb_4 (i := 147) rfl rfl
theorem ml_law_183 : Cond.methodLink "CopyBenchLaw" 183 y_Cb_tape ∈ gd := tb_4 (i := 151) rfl rfl
theorem ml_Cb_356 : Cond.methodLink "CopyBench" 356 y_Tape_begin ∈ gd := tb_4 (i := 155) rfl rfl
theorem ml_law_189 : Cond.methodLink "CopyBenchLaw" 189 y_Cb_item ∈ gd := tb_4 (i := 159) rfl rfl
theorem ml_Cb_359 : Cond.methodLink "CopyBench" 359 y_Tape_hasPlace ∈ gd := tb_4 (i := 163) rfl rfl
theorem ml_Cb_362 : Cond.methodLink "CopyBench" 362 y_Tape_fitted ∈ gd := tb_4 (i := 167) rfl rfl
theorem ml_law_194 : Cond.methodLink "CopyBenchLaw" 194 y_Cb_peek ∈ gd := tb_4 (i := 171) rfl rfl
theorem ml_law_198 : Cond.methodLink "CopyBenchLaw" 198 y_Cb_shift ∈ gd := tb_4 (i := 175) rfl rfl
theorem ml_Cb_366 : Cond.methodLink "CopyBench" 366 y_Tape_hasStretch ∈ gd := tb_4 (i := 179) rfl rfl
theorem ml_Cb_369 : Cond.methodLink "CopyBench" 369 ({ cls := "java/lang/System", name := "arraycopy", desc := "(Ljava/lang/Object;ILjava/lang/Object;II)V" } : MethodName) ∈ gd := tb_4 (i := 183) rfl rfl
theorem xl_law_10 : Cond.classLink "CopyBenchLaw" 10 "CopyBenchModel" ∈ gd := tb_4 (i := 184) rfl rfl
theorem ml_law_12 : Cond.methodLink "CopyBenchLaw" 12 y_Md_init ∈ gd := tb_4 (i := 186) rfl rfl
theorem ml_Md_3 : Cond.methodLink "CopyBenchModel" 3 ({ cls := "java/lang/Object", name := "<init>", desc := "()V" } : MethodName) ∈ gd := tb_4 (i := 189) rfl rfl
theorem xl_Md_102 : Cond.classLink "CopyBenchModel" 102 "[[J" ∈ gd := tb_4 (i := 190) rfl rfl
theorem ml_Md_116 : Cond.methodLink "CopyBenchModel" 116 y_Md_begins ∈ gd := tb_4 (i := 192) rfl rfl
theorem fl_Md_9 : Cond.fieldLink "CopyBenchModel" 9 "CopyBenchModel" "n" "I" ∈ gd := tb_4 (i := 196) rfl rfl
theorem fl_Md_123 : Cond.fieldLink "CopyBenchModel" 123 "CopyBenchModel" "many" "I" ∈ gd := tb_4 (i := 197) rfl rfl
theorem fl_Md_15 : Cond.fieldLink "CopyBenchModel" 15 "CopyBenchModel" "right" "[I" ∈ gd := tb_4 (i := 198) rfl rfl
theorem fl_Md_19 : Cond.fieldLink "CopyBenchModel" 19 "CopyBenchModel" "kind" "[I" ∈ gd := tb_4 (i := 199) rfl rfl
theorem fl_Md_22 : Cond.fieldLink "CopyBenchModel" 22 "CopyBenchModel" "parts" "[I" ∈ gd := tb_4 (i := 200) rfl rfl
theorem fl_Md_25 : Cond.fieldLink "CopyBenchModel" 25 "CopyBenchModel" "given" "[I" ∈ gd := tb_4 (i := 201) rfl rfl
theorem fl_Md_28 : Cond.fieldLink "CopyBenchModel" 28 "CopyBenchModel" "row" "[I" ∈ gd := tb_4 (i := 202) rfl rfl
theorem fl_Md_31 : Cond.fieldLink "CopyBenchModel" 31 "CopyBenchModel" "place" "[I" ∈ gd := tb_4 (i := 203) rfl rfl
theorem fl_Md_34 : Cond.fieldLink "CopyBenchModel" 34 "CopyBenchModel" "used" "[I" ∈ gd := tb_4 (i := 204) rfl rfl
theorem fl_Md_37 : Cond.fieldLink "CopyBenchModel" 37 "CopyBenchModel" "seenX" "[I" ∈ gd := tb_4 (i := 205) rfl rfl
theorem fl_Md_40 : Cond.fieldLink "CopyBenchModel" 40 "CopyBenchModel" "seenY" "[I" ∈ gd := tb_4 (i := 206) rfl rfl
theorem fl_Md_43 : Cond.fieldLink "CopyBenchModel" 43 "CopyBenchModel" "seenIs" "[I" ∈ gd := tb_4 (i := 207) rfl rfl
theorem fl_Md_46 : Cond.fieldLink "CopyBenchModel" 46 "CopyBenchModel" "planWhat" "[I" ∈ gd := tb_4 (i := 208) rfl rfl
theorem fl_Md_49 : Cond.fieldLink "CopyBenchModel" 49 "CopyBenchModel" "planK" "[I" ∈ gd := tb_4 (i := 209) rfl rfl
theorem fl_Md_52 : Cond.fieldLink "CopyBenchModel" 52 "CopyBenchModel" "planV" "[I" ∈ gd := tb_4 (i := 210) rfl rfl
theorem fl_Md_130 : Cond.fieldLink "CopyBenchModel" 130 "CopyBenchModel" "seen" "I" ∈ gd := tb_4 (i := 211) rfl rfl
theorem fl_Md_133 : Cond.fieldLink "CopyBenchModel" 133 "CopyBenchModel" "plans" "I" ∈ gd := tb_4 (i := 212) rfl rfl
theorem fl_Md_55 : Cond.fieldLink "CopyBenchModel" 55 "CopyBenchModel" "text" "[I" ∈ gd := tb_4 (i := 213) rfl rfl
theorem fl_Md_175 : Cond.fieldLink "CopyBenchModel" 175 "CopyBenchModel" "texted" "I" ∈ gd := tb_4 (i := 214) rfl rfl
theorem fl_Md_58 : Cond.fieldLink "CopyBenchModel" 58 "CopyBenchModel" "imaged" "[I" ∈ gd := tb_4 (i := 215) rfl rfl
theorem fl_Md_151 : Cond.fieldLink "CopyBenchModel" 151 "CopyBenchModel" "isKept" "Z" ∈ gd := tb_4 (i := 216) rfl rfl
theorem fl_Md_140 : Cond.fieldLink "CopyBenchModel" 140 "CopyBenchModel" "spot" "I" ∈ gd := tb_4 (i := 217) rfl rfl
theorem fl_Md_136 : Cond.fieldLink "CopyBenchModel" 136 "CopyBenchModel" "keeps" "Z" ∈ gd := tb_4 (i := 218) rfl rfl
theorem fl_Md_172 : Cond.fieldLink "CopyBenchModel" 172 "CopyBenchModel" "at" "I" ∈ gd := tb_4 (i := 219) rfl rfl
theorem fl_Md_182 : Cond.fieldLink "CopyBenchModel" 182 "CopyBenchModel" "isFaulty" "Z" ∈ gd := tb_4 (i := 220) rfl rfl
theorem fl_Md_189 : Cond.fieldLink "CopyBenchModel" 189 "CopyBenchModel" "whole" "I" ∈ gd := tb_4 (i := 221) rfl rfl
theorem fl_Md_61 : Cond.fieldLink "CopyBenchModel" 61 "CopyBenchModel" "ways" "[J" ∈ gd := tb_4 (i := 222) rfl rfl
theorem fl_Md_65 : Cond.fieldLink "CopyBenchModel" 65 "CopyBenchModel" "before" "[J" ∈ gd := tb_4 (i := 223) rfl rfl
theorem fl_Md_248 : Cond.fieldLink "CopyBenchModel" 248 "CopyBenchModel" "below" "J" ∈ gd := tb_4 (i := 224) rfl rfl
theorem fl_Md_280 : Cond.fieldLink "CopyBenchModel" 280 "CopyBenchModel" "pairs" "I" ∈ gd := tb_4 (i := 225) rfl rfl
theorem fl_Md_68 : Cond.fieldLink "CopyBenchModel" 68 "CopyBenchModel" "pairX" "[I" ∈ gd := tb_4 (i := 226) rfl rfl
theorem fl_Md_71 : Cond.fieldLink "CopyBenchModel" 71 "CopyBenchModel" "pairY" "[I" ∈ gd := tb_4 (i := 227) rfl rfl
theorem fl_Md_74 : Cond.fieldLink "CopyBenchModel" 74 "CopyBenchModel" "above" "[J" ∈ gd := tb_4 (i := 228) rfl rfl
theorem fl_Md_77 : Cond.fieldLink "CopyBenchModel" 77 "CopyBenchModel" "under" "[J" ∈ gd := tb_4 (i := 229) rfl rfl
theorem fl_Md_80 : Cond.fieldLink "CopyBenchModel" 80 "CopyBenchModel" "isSuspect" "[Z" ∈ gd := tb_4 (i := 230) rfl rfl
theorem fl_Md_84 : Cond.fieldLink "CopyBenchModel" 84 "CopyBenchModel" "links" "[I" ∈ gd := tb_4 (i := 231) rfl rfl
theorem fl_Md_87 : Cond.fieldLink "CopyBenchModel" 87 "CopyBenchModel" "sits" "[I" ∈ gd := tb_4 (i := 232) rfl rfl
theorem fl_Md_90 : Cond.fieldLink "CopyBenchModel" 90 "CopyBenchModel" "seatOf" "[I" ∈ gd := tb_4 (i := 233) rfl rfl
theorem fl_Md_341 : Cond.fieldLink "CopyBenchModel" 341 "CopyBenchModel" "sitters" "I" ∈ gd := tb_4 (i := 234) rfl rfl
theorem fl_Md_354 : Cond.fieldLink "CopyBenchModel" 354 "CopyBenchModel" "seedNow" "I" ∈ gd := tb_4 (i := 235) rfl rfl
theorem fl_Md_93 : Cond.fieldLink "CopyBenchModel" 93 "CopyBenchModel" "givenWas" "[I" ∈ gd := tb_4 (i := 236) rfl rfl
theorem fl_Md_96 : Cond.fieldLink "CopyBenchModel" 96 "CopyBenchModel" "rightWas" "[I" ∈ gd := tb_4 (i := 237) rfl rfl
theorem fl_Md_99 : Cond.fieldLink "CopyBenchModel" 99 "CopyBenchModel" "kindWas" "[I" ∈ gd := tb_4 (i := 238) rfl rfl
theorem fl_Md_104 : Cond.fieldLink "CopyBenchModel" 104 "CopyBenchModel" "tapes" "[[J" ∈ gd := tb_4 (i := 239) rfl rfl
theorem fl_Md_107 : Cond.fieldLink "CopyBenchModel" 107 "CopyBenchModel" "tapeSort" "[I" ∈ gd := tb_5 (i := 0) rfl rfl
theorem fl_Md_110 : Cond.fieldLink "CopyBenchModel" 110 "CopyBenchModel" "tapeSize" "[I" ∈ gd := tb_5 (i := 1) rfl rfl
theorem fl_Md_113 : Cond.fieldLink "CopyBenchModel" 113 "CopyBenchModel" "moved" "[J" ∈ gd := tb_5 (i := 2) rfl rfl
theorem ml_law_174 : Cond.methodLink "CopyBenchLaw" 174 y_Md_image ∈ gd := tb_5 (i := 98) rfl rfl
theorem ml_Md_154 : Cond.methodLink "CopyBenchModel" 154 y_Md_passesAll ∈ gd := tb_5 (i := 102) rfl rfl
theorem ml_Md_143 : Cond.methodLink "CopyBenchModel" 143 y_Md_passes ∈ gd := tb_5 (i := 106) rfl rfl
theorem ml_Md_147 : Cond.methodLink "CopyBenchModel" 147 y_Md_passesRow ∈ gd := tb_5 (i := 110) rfl rfl
theorem ml_law_178 : Cond.methodLink "CopyBenchLaw" 178 y_Md_undo ∈ gd := tb_5 (i := 114) rfl rfl
theorem ml_law_17 : Cond.methodLink "CopyBenchLaw" 17 y_Md_items ∈ gd := tb_5 (i := 118) rfl rfl
theorem cl_Md_158 : Cond.constantLong "CopyBenchModel" 158 (8 : Int64) ∈ gd := tb_5 (i := 122) rfl rfl
theorem ml_Md_119 : Cond.methodLink "CopyBenchModel" 119 y_Md_in ∈ gd := tb_5 (i := 123) rfl rfl
theorem ml_law_22 : Cond.methodLink "CopyBenchLaw" 22 y_Md_right ∈ gd := tb_5 (i := 126) rfl rfl
theorem ml_Md_160 : Cond.methodLink "CopyBenchModel" 160 y_Md_isItem ∈ gd := tb_5 (i := 130) rfl rfl
theorem cl_Md_163 : Cond.constantLong "CopyBenchModel" 163 (3 : Int64) ∈ gd := tb_5 (i := 134) rfl rfl
theorem ml_law_26 : Cond.methodLink "CopyBenchLaw" 26 y_Md_model ∈ gd := tb_5 (i := 135) rfl rfl
theorem ml_law_31 : Cond.methodLink "CopyBenchLaw" 31 y_Md_part ∈ gd := tb_5 (i := 139) rfl rfl
theorem ml_law_36 : Cond.methodLink "CopyBenchLaw" 36 y_Md_candidate ∈ gd := tb_5 (i := 143) rfl rfl
theorem ml_law_40 : Cond.methodLink "CopyBenchLaw" 40 y_Md_gives ∈ gd := tb_5 (i := 147) rfl rfl
theorem ml_Md_126 : Cond.methodLink "CopyBenchModel" 126 y_Md_isOne ∈ gd := tb_5 (i := 151) rfl rfl
theorem cl_Md_165 : Cond.constantLong "CopyBenchModel" 165 (-1 : Int64) ∈ gd := tb_5 (i := 155) rfl rfl
theorem ml_Md_167 : Cond.methodLink "CopyBenchModel" 167 y_Md_told ∈ gd := tb_5 (i := 156) rfl rfl
theorem ml_law_44 : Cond.methodLink "CopyBenchLaw" 44 y_Md_seat ∈ gd := tb_5 (i := 159) rfl rfl
theorem cl_Md_170 : Cond.constantLong "CopyBenchModel" 170 (9 : Int64) ∈ gd := tb_5 (i := 163) rfl rfl
theorem ml_law_48 : Cond.methodLink "CopyBenchLaw" 48 y_Md_feed ∈ gd := tb_5 (i := 164) rfl rfl
theorem cl_Md_196 : Cond.constantLong "CopyBenchModel" 196 (127 : Int64) ∈ gd := tb_5 (i := 168) rfl rfl
theorem ml_law_52 : Cond.methodLink "CopyBenchLaw" 52 y_Md_read ∈ gd := tb_5 (i := 169) rfl rfl
theorem ml_Md_198 : Cond.methodLink "CopyBenchModel" 198 y_Md_goesThrough ∈ gd := tb_5 (i := 173) rfl rfl
theorem ml_Md_192 : Cond.methodLink "CopyBenchModel" 192 y_Md_clause ∈ gd := tb_5 (i := 177) rfl rfl
theorem ml_Md_178 : Cond.methodLink "CopyBenchModel" 178 y_Md_here ∈ gd := tb_5 (i := 181) rfl rfl
theorem cl_Md_185 : Cond.constantLong "CopyBenchModel" 185 (97 : Int64) ∈ gd := tb_5 (i := 185) rfl rfl
theorem cl_Md_187 : Cond.constantLong "CopyBenchModel" 187 (100 : Int64) ∈ gd := tb_5 (i := 186) rfl rfl
theorem ml_law_56 : Cond.methodLink "CopyBenchLaw" 56 y_Md_use ∈ gd := tb_5 (i := 187) rfl rfl
theorem cl_Md_207 : Cond.constantLong "CopyBenchModel" 207 (5 : Int64) ∈ gd := tb_5 (i := 191) rfl rfl
theorem ml_Md_209 : Cond.methodLink "CopyBenchModel" 209 y_Md_isUse ∈ gd := tb_5 (i := 192) rfl rfl
theorem cl_Md_201 : Cond.constantLong "CopyBenchModel" 201 (500 : Int64) ∈ gd := tb_5 (i := 195) rfl rfl
theorem cl_Md_203 : Cond.constantLong "CopyBenchModel" 203 (2 : Int64) ∈ gd := tb_5 (i := 196) rfl rfl
theorem cl_Md_205 : Cond.constantLong "CopyBenchModel" 205 (4 : Int64) ∈ gd := tb_5 (i := 197) rfl rfl
theorem ml_law_60 : Cond.methodLink "CopyBenchLaw" 60 y_Md_answer ∈ gd := tb_5 (i := 198) rfl rfl
theorem ml_law_64 : Cond.methodLink "CopyBenchLaw" 64 y_Md_of ∈ gd := tb_5 (i := 202) rfl rfl
theorem ml_Md_213 : Cond.methodLink "CopyBenchModel" 213 y_Md_gave ∈ gd := tb_5 (i := 206) rfl rfl
theorem ml_law_68 : Cond.methodLink "CopyBenchLaw" 68 y_Md_itemOf ∈ gd := tb_5 (i := 210) rfl rfl
theorem ml_Md_221 : Cond.methodLink "CopyBenchModel" 221 y_Md_givers ∈ gd := tb_5 (i := 214) rfl rfl
theorem ml_Md_217 : Cond.methodLink "CopyBenchModel" 217 y_Md_gavers ∈ gd := tb_5 (i := 218) rfl rfl
theorem ml_Md_224 : Cond.methodLink "CopyBenchModel" 224 y_Md_likedWrong ∈ gd := tb_5 (i := 222) rfl rfl
theorem ml_law_72 : Cond.methodLink "CopyBenchLaw" 72 y_Md_taken ∈ gd := tb_5 (i := 226) rfl rfl
theorem ml_law_77 : Cond.methodLink "CopyBenchLaw" 77 y_Md_share ∈ gd := tb_5 (i := 230) rfl rfl
theorem ml_Md_230 : Cond.methodLink "CopyBenchModel" 230 y_Md_isTwo ∈ gd := tb_5 (i := 234) rfl rfl
theorem ml_Md_233 : Cond.methodLink "CopyBenchModel" 233 y_Md_sumBut ∈ gd := tb_5 (i := 238) rfl rfl
theorem ml_Md_227 : Cond.methodLink "CopyBenchModel" 227 y_Md_shareOf ∈ gd := tb_6 (i := 2) rfl rfl
theorem ml_law_81 : Cond.methodLink "CopyBenchLaw" 81 y_Md_alike ∈ gd := tb_6 (i := 6) rfl rfl
theorem ml_Md_240 : Cond.methodLink "CopyBenchModel" 240 y_Md_likeness ∈ gd := tb_6 (i := 10) rfl rfl
theorem ml_Md_236 : Cond.methodLink "CopyBenchModel" 236 y_Md_worth ∈ gd := tb_6 (i := 14) rfl rfl
theorem ml_law_86 : Cond.methodLink "CopyBenchLaw" 86 y_Md_odds ∈ gd := tb_6 (i := 18) rfl rfl
theorem cl_Md_259 : Cond.constantLong "CopyBenchModel" 259 (-9223372036854775808 : Int64) ∈ gd := tb_6 (i := 22) rfl rfl
theorem ml_Md_261 : Cond.methodLink "CopyBenchModel" 261 y_Md_asMuch ∈ gd := tb_6 (i := 23) rfl rfl
theorem ml_Md_256 : Cond.methodLink "CopyBenchModel" 256 y_Md_spreads ∈ gd := tb_6 (i := 27) rfl rfl
theorem ml_Md_252 : Cond.methodLink "CopyBenchModel" 252 y_Md_comes ∈ gd := tb_6 (i := 31) rfl rfl
theorem ml_Md_244 : Cond.methodLink "CopyBenchModel" 244 y_Md_adds ∈ gd := tb_6 (i := 35) rfl rfl
theorem ml_Md_265 : Cond.methodLink "CopyBenchModel" 265 y_Md_lowest ∈ gd := tb_6 (i := 39) rfl rfl
theorem ml_law_91 : Cond.methodLink "CopyBenchLaw" 91 y_Md_just ∈ gd := tb_6 (i := 42) rfl rfl
theorem cl_Md_269 : Cond.constantLong "CopyBenchModel" 269 (32 : Int64) ∈ gd := tb_6 (i := 46) rfl rfl
theorem ml_law_95 : Cond.methodLink "CopyBenchLaw" 95 y_Md_source ∈ gd := tb_6 (i := 47) rfl rfl
theorem ml_Md_271 : Cond.methodLink "CopyBenchModel" 271 y_Md_compares ∈ gd := tb_6 (i := 51) rfl rfl
theorem ml_law_99 : Cond.methodLink "CopyBenchLaw" 99 y_Md_without ∈ gd := tb_6 (i := 54) rfl rfl
theorem ml_law_103 : Cond.methodLink "CopyBenchLaw" 103 y_Md_key ∈ gd := tb_6 (i := 58) rfl rfl
theorem ml_law_107 : Cond.methodLink "CopyBenchLaw" 107 y_Md_pairs ∈ gd := tb_6 (i := 62) rfl rfl
theorem ml_Md_300 : Cond.methodLink "CopyBenchModel" 300 y_Md_orders ∈ gd := tb_6 (i := 66) rfl rfl
theorem ml_Md_289 : Cond.methodLink "CopyBenchModel" 289 y_Md_isNear ∈ gd := tb_6 (i := 70) rfl rfl
theorem ml_Md_275 : Cond.methodLink "CopyBenchModel" 275 ({ cls := "java/lang/Math", name := "abs", desc := "(I)I" } : MethodName) ∈ gd := tb_6 (i := 74) rfl rfl
theorem ml_Md_293 : Cond.methodLink "CopyBenchModel" 293 y_Md_putsPair ∈ gd := tb_6 (i := 75) rfl rfl
theorem ml_Md_283 : Cond.methodLink "CopyBenchModel" 283 y_Md_puts ∈ gd := tb_6 (i := 79) rfl rfl
theorem ml_Md_297 : Cond.methodLink "CopyBenchModel" 297 y_Md_isLow ∈ gd := tb_6 (i := 83) rfl rfl
theorem cl_Md_287 : Cond.constantLong "CopyBenchModel" 287 (1000 : Int64) ∈ gd := tb_6 (i := 87) rfl rfl
theorem ml_Md_320 : Cond.methodLink "CopyBenchModel" 320 y_Md_suspects ∈ gd := tb_6 (i := 88) rfl rfl
theorem ml_Md_323 : Cond.methodLink "CopyBenchModel" 323 y_Md_near ∈ gd := tb_6 (i := 92) rfl rfl
theorem ml_Md_326 : Cond.methodLink "CopyBenchModel" 326 y_Md_grouped ∈ gd := tb_6 (i := 96) rfl rfl
theorem ml_Md_306 : Cond.methodLink "CopyBenchModel" 306 y_Md_binds ∈ gd := tb_6 (i := 100) rfl rfl
theorem ml_Md_309 : Cond.methodLink "CopyBenchModel" 309 y_Md_isGroup ∈ gd := tb_6 (i := 104) rfl rfl
theorem ml_Md_303 : Cond.methodLink "CopyBenchModel" 303 y_Md_common ∈ gd := tb_6 (i := 108) rfl rfl
theorem ml_Md_329 : Cond.methodLink "CopyBenchModel" 329 y_Md_greatest ∈ gd := tb_6 (i := 112) rfl rfl
theorem ml_Md_312 : Cond.methodLink "CopyBenchModel" 312 y_Jint_bitCount ∈ gd := tb_6 (i := 116) rfl rfl
theorem ml_Md_317 : Cond.methodLink "CopyBenchModel" 317 ({ cls := "java/lang/Math", name := "max", desc := "(II)I" } : MethodName) ∈ gd := tb_6 (i := 117) rfl rfl
theorem ml_law_111 : Cond.methodLink "CopyBenchLaw" 111 y_Md_pair ∈ gd := tb_6 (i := 118) rfl rfl
theorem ml_law_116 : Cond.methodLink "CopyBenchLaw" 116 y_Md_pairOdds ∈ gd := tb_6 (i := 122) rfl rfl
theorem ml_law_120 : Cond.methodLink "CopyBenchLaw" 120 y_Md_rank ∈ gd := tb_6 (i := 126) rfl rfl
theorem ml_Md_335 : Cond.methodLink "CopyBenchModel" 335 y_Md_ranked ∈ gd := tb_6 (i := 130) rfl rfl
theorem ml_Md_332 : Cond.methodLink "CopyBenchModel" 332 ({ cls := "java/lang/Math", name := "min", desc := "(II)I" } : MethodName) ∈ gd := tb_6 (i := 134) rfl rfl
theorem ml_law_124 : Cond.methodLink "CopyBenchLaw" 124 y_Md_linked ∈ gd := tb_6 (i := 135) rfl rfl
theorem ml_law_128 : Cond.methodLink "CopyBenchLaw" 128 y_Md_chain ∈ gd := tb_6 (i := 139) rfl rfl
theorem ml_law_132 : Cond.methodLink "CopyBenchLaw" 132 y_Md_group ∈ gd := tb_6 (i := 143) rfl rfl
theorem ml_law_136 : Cond.methodLink "CopyBenchLaw" 136 y_Md_seated ∈ gd := tb_6 (i := 147) rfl rfl
theorem ml_Md_347 : Cond.methodLink "CopyBenchModel" 347 y_Md_nearNow ∈ gd := tb_6 (i := 151) rfl rfl
theorem ml_Md_338 : Cond.methodLink "CopyBenchModel" 338 y_Md_placeOf ∈ gd := tb_6 (i := 155) rfl rfl
theorem ml_Md_350 : Cond.methodLink "CopyBenchModel" 350 y_Md_turns ∈ gd := tb_6 (i := 159) rfl rfl
theorem ml_Md_344 : Cond.methodLink "CopyBenchModel" 344 y_Md_exchange ∈ gd := tb_6 (i := 163) rfl rfl
theorem ml_law_140 : Cond.methodLink "CopyBenchLaw" 140 y_Md_drawn ∈ gd := tb_6 (i := 167) rfl rfl
theorem ml_Md_364 : Cond.methodLink "CopyBenchModel" 364 y_Md_drawnBy ∈ gd := tb_6 (i := 171) rfl rfl
theorem ml_Md_361 : Cond.methodLink "CopyBenchModel" 361 y_Md_answersAnew ∈ gd := tb_6 (i := 175) rfl rfl
theorem ml_Md_358 : Cond.methodLink "CopyBenchModel" 358 y_Md_draw ∈ gd := tb_6 (i := 179) rfl rfl
theorem cn_Md_357 : Cond.constant "CopyBenchModel" 357 (1103515245 : Int32) ∈ gd := tb_6 (i := 183) rfl rfl
theorem ml_law_144 : Cond.methodLink "CopyBenchLaw" 144 y_Md_chance ∈ gd := tb_6 (i := 184) rfl rfl
theorem cl_Md_367 : Cond.constantLong "CopyBenchModel" 367 (6 : Int64) ∈ gd := tb_6 (i := 188) rfl rfl
theorem ml_law_149 : Cond.methodLink "CopyBenchLaw" 149 y_Md_see ∈ gd := tb_6 (i := 189) rfl rfl
theorem ml_law_153 : Cond.methodLink "CopyBenchLaw" 153 y_Md_fits ∈ gd := tb_6 (i := 193) rfl rfl
theorem ml_Md_369 : Cond.methodLink "CopyBenchModel" 369 y_Md_isAllSeen ∈ gd := tb_6 (i := 197) rfl rfl
theorem ml_law_158 : Cond.methodLink "CopyBenchLaw" 158 y_Md_mean ∈ gd := tb_6 (i := 201) rfl rfl
theorem ml_law_162 : Cond.methodLink "CopyBenchLaw" 162 y_Md_plan ∈ gd := tb_6 (i := 205) rfl rfl
theorem ml_law_166 : Cond.methodLink "CopyBenchLaw" 166 y_Md_ends ∈ gd := tb_6 (i := 209) rfl rfl
theorem ml_Md_372 : Cond.methodLink "CopyBenchModel" 372 y_Md_copies ∈ gd := tb_6 (i := 213) rfl rfl
theorem ml_Md_376 : Cond.methodLink "CopyBenchModel" 376 y_Md_goes ∈ gd := tb_6 (i := 216) rfl rfl
theorem ml_law_170 : Cond.methodLink "CopyBenchLaw" 170 y_Md_judge ∈ gd := tb_6 (i := 220) rfl rfl
theorem ml_Md_380 : Cond.methodLink "CopyBenchModel" 380 y_Md_isTape ∈ gd := tb_6 (i := 224) rfl rfl
theorem ml_law_182 : Cond.methodLink "CopyBenchLaw" 182 y_Md_count ∈ gd := tb_6 (i := 227) rfl rfl
theorem ml_Md_383 : Cond.methodLink "CopyBenchModel" 383 y_Md_seatedOnes ∈ gd := tb_6 (i := 231) rfl rfl
theorem cl_Md_386 : Cond.constantLong "CopyBenchModel" 386 (11 : Int64) ∈ gd := tb_6 (i := 235) rfl rfl
theorem ml_law_186 : Cond.methodLink "CopyBenchLaw" 186 y_Md_tape ∈ gd := tb_6 (i := 236) rfl rfl
theorem ml_law_193 : Cond.methodLink "CopyBenchLaw" 193 y_Md_item ∈ gd := tb_7 (i := 0) rfl rfl
theorem ml_Md_388 : Cond.methodLink "CopyBenchModel" 388 y_Md_fit ∈ gd := tb_7 (i := 4) rfl rfl
theorem ml_law_197 : Cond.methodLink "CopyBenchLaw" 197 y_Md_peek ∈ gd := tb_7 (i := 7) rfl rfl
theorem ml_law_202 : Cond.methodLink "CopyBenchLaw" 202 y_Md_shift ∈ gd := tb_7 (i := 11) rfl rfl
theorem cl_law_187 : Cond.constantLong "CopyBenchLaw" 187 (4294967295 : Int64) ∈ gd := tb_7 (i := 15) rfl rfl
theorem im_Object : Cond.instanceMethod ({ cls := "java/lang/Object", name := "<init>", desc := "()V" } : MethodName) ∈ gd := tb_1 (i := 21) rfl rfl
theorem w_instantiable_1016 : Cond.instantiable "CopyBench" (13 : Nat) ∈ gd := tb_1 (i := 16) rfl rfl
theorem co_Object : Cond.code ({ cls := "java/lang/Object", name := "<init>", desc := "()V" } : MethodName) object_method_1_code (1 : Nat) (Option.none : Option FieldType) ∈ gd := tb_1 (i := 22) rfl rfl
theorem w_instantiable_1024 : Cond.instantiable "CopyBench$Exam" (17 : Nat) ∈ gd := tb_1 (i := 24) rfl rfl
theorem w_arrayOver_1030 : Cond.arrayOver (FieldType.array FieldType.int) ∈ lw_tbl := tt_1 (i := 30) rfl
theorem w_arrayClass_1123 : Cond.arrayClass FieldType.int ∈ gd := tb_1 (i := 123) rfl rfl
theorem w_arrayClass_1124 : Cond.arrayClass FieldType.boolean ∈ gd := tb_1 (i := 124) rfl rfl
theorem w_instantiable_1126 : Cond.instantiable "CopyBench$Text" (2 : Nat) ∈ gd := tb_1 (i := 126) rfl rfl
theorem w_arrayOver_1140 : Cond.arrayOver (FieldType.object "CopyBench$Tape") ∈ lw_tbl := tt_1 (i := 140) rfl
theorem w_instantiable_1142 : Cond.instantiable "CopyBench$Odds" (9 : Nat) ∈ gd := tb_1 (i := 142) rfl rfl
theorem w_arrayClass_1179 : Cond.arrayClass FieldType.long ∈ gd := tb_1 (i := 179) rfl rfl
theorem w_instantiable_1181 : Cond.instantiable "CopyBench$Ratio" (2 : Nat) ∈ gd := tb_1 (i := 181) rfl rfl
theorem w_instantiable_1194 : Cond.instantiable "CopyBench$Ranking" (8 : Nat) ∈ gd := tb_1 (i := 194) rfl rfl
theorem w_instantiable_1235 : Cond.instantiable "CopyBench$Links" (1 : Nat) ∈ gd := tb_1 (i := 235) rfl rfl
theorem w_instantiable_2006 : Cond.instantiable "CopyBench$Seating" (5 : Nat) ∈ gd := tb_2 (i := 6) rfl rfl
theorem w_instantiable_2028 : Cond.instantiable "CopyBench$Draws" (1 : Nat) ∈ gd := tb_2 (i := 28) rfl rfl
theorem w_instantiable_2037 : Cond.instantiable "CopyBench$Tape" (3 : Nat) ∈ gd := tb_2 (i := 37) rfl rfl
theorem jst_max : Cond.static ({ cls := "java/lang/Math", name := "max", desc := "(II)I" } : MethodName) ∈ gd := tb_3 (i := 54) rfl rfl
theorem jco_max : Cond.code ({ cls := "java/lang/Math", name := "max", desc := "(II)I" } : MethodName) prog_14_method_65_code (2 : Nat) (Option.some FieldType.int) ∈ gd := tb_3 (i := 55) rfl rfl
theorem jst_min : Cond.static ({ cls := "java/lang/Math", name := "min", desc := "(II)I" } : MethodName) ∈ gd := tb_3 (i := 57) rfl rfl
theorem jco_min : Cond.code ({ cls := "java/lang/Math", name := "min", desc := "(II)I" } : MethodName) prog_14_method_69_code (2 : Nat) (Option.some FieldType.int) ∈ gd := tb_3 (i := 58) rfl rfl
theorem jst_abs : Cond.static ({ cls := "java/lang/Math", name := "abs", desc := "(I)I" } : MethodName) ∈ gd := tb_3 (i := 131) rfl rfl
theorem jco_abs : Cond.code ({ cls := "java/lang/Math", name := "abs", desc := "(I)I" } : MethodName) prog_14_method_59_code (1 : Nat) (Option.some FieldType.int) ∈ gd := tb_3 (i := 132) rfl rfl
theorem jst_arraycopy : Cond.static ({ cls := "java/lang/System", name := "arraycopy", desc := "(Ljava/lang/Object;ILjava/lang/Object;II)V" } : MethodName) ∈ gd := tb_4 (i := 109) rfl rfl
theorem jna_arraycopy : Cond.native ({ cls := "java/lang/System", name := "arraycopy", desc := "(Ljava/lang/Object;ILjava/lang/Object;II)V" } : MethodName) ∈ gd := tb_4 (i := 110) rfl rfl
theorem w_instantiable_4185 : Cond.instantiable "CopyBenchModel" (47 : Nat) ∈ gd := tb_4 (i := 185) rfl rfl
theorem w_arrayOver_4191 : Cond.arrayOver (FieldType.array FieldType.long) ∈ lw_tbl := tt_4 (i := 191) rfl
