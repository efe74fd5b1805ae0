-- ===== PART A: goes FIRST, ahead of the names: the tables' words, and 'selects' of the private methods out of them =====
/-- a private method of a class that the tables say can be made, by its rows of tables_1 -/
def lw_okq (q : MethodName × Nat) : Prop := (q.1.cls ≠ "java/lang/invoke/MethodHandle" ∧ q.1.cls ≠ "java/lang/invoke/VarHandle") ∧ Cond.instantiable q.1.cls q.2 ∈ tables_1 ∧ Cond.privateMethod q.1 ∈ tables_1 ∧ Cond.instanceMethod q.1 ∈ tables_1
theorem lw_p0 : lw_okq (⟨"EchoFolk", "putFromWithout", "(II)I"⟩, 13) := ⟨⟨by decide +kernel, by decide +kernel⟩, List.mem_of_getElem? (i := 22) (by decide +kernel), List.mem_of_getElem? (i := 432) (by decide +kernel), List.mem_of_getElem? (i := 433) (by decide +kernel)⟩
theorem lw_p1 : lw_okq (⟨"EchoFolk", "readSaying", "(I)I"⟩, 13) := ⟨⟨by decide +kernel, by decide +kernel⟩, List.mem_of_getElem? (i := 22) (by decide +kernel), List.mem_of_getElem? (i := 527) (by decide +kernel), List.mem_of_getElem? (i := 528) (by decide +kernel)⟩
theorem lw_p2 : lw_okq (⟨"EchoFolk$Saying", "longestPiece", "(LEchoFolk$Speaker;II)I"⟩, 2) := ⟨⟨by decide +kernel, by decide +kernel⟩, List.mem_of_getElem? (i := 255) (by decide +kernel), List.mem_of_getElem? (i := 547) (by decide +kernel), List.mem_of_getElem? (i := 548) (by decide +kernel)⟩
theorem lw_p3 : lw_okq (⟨"EchoFolk$Saying", "sameWords", "(LEchoFolk$Speaker;II)I"⟩, 2) := ⟨⟨by decide +kernel, by decide +kernel⟩, List.mem_of_getElem? (i := 255) (by decide +kernel), List.mem_of_getElem? (i := 551) (by decide +kernel), List.mem_of_getElem? (i := 552) (by decide +kernel)⟩
theorem lw_p4 : lw_okq (⟨"EchoFolk", "breathsTaught", "(II)I"⟩, 13) := ⟨⟨by decide +kernel, by decide +kernel⟩, List.mem_of_getElem? (i := 22) (by decide +kernel), List.mem_of_getElem? (i := 586) (by decide +kernel), List.mem_of_getElem? (i := 587) (by decide +kernel)⟩
theorem lw_p5 : lw_okq (⟨"EchoFolk", "spokenWithout", "(II)I"⟩, 13) := ⟨⟨by decide +kernel, by decide +kernel⟩, List.mem_of_getElem? (i := 22) (by decide +kernel), List.mem_of_getElem? (i := 611) (by decide +kernel), List.mem_of_getElem? (i := 612) (by decide +kernel)⟩
theorem lw_p6 : lw_okq (⟨"EchoFolk", "unlikeWithEar", "(III)I"⟩, 13) := ⟨⟨by decide +kernel, by decide +kernel⟩, List.mem_of_getElem? (i := 22) (by decide +kernel), List.mem_of_getElem? (i := 619) (by decide +kernel), List.mem_of_getElem? (i := 620) (by decide +kernel)⟩
theorem lw_p7 : lw_okq (⟨"EchoFolk$Parser", "step", "()V"⟩, 8) := ⟨⟨by decide +kernel, by decide +kernel⟩, List.mem_of_getElem? (i := 173) (by decide +kernel), List.mem_of_getElem? (i := 664) (by decide +kernel), List.mem_of_getElem? (i := 665) (by decide +kernel)⟩
theorem lw_p8 : lw_okq (⟨"EchoFolk$Parser", "readKey", "()V"⟩, 8) := ⟨⟨by decide +kernel, by decide +kernel⟩, List.mem_of_getElem? (i := 173) (by decide +kernel), List.mem_of_getElem? (i := 675) (by decide +kernel), List.mem_of_getElem? (i := 676) (by decide +kernel)⟩
theorem lw_p9 : lw_okq (⟨"EchoFolk$Parser", "isWordOf", "(Ljava/lang/String;)Z"⟩, 8) := ⟨⟨by decide +kernel, by decide +kernel⟩, List.mem_of_getElem? (i := 173) (by decide +kernel), List.mem_of_getElem? (i := 680) (by decide +kernel), List.mem_of_getElem? (i := 681) (by decide +kernel)⟩
theorem lw_p10 : lw_okq (⟨"EchoFolk$Parser", "fail", "()V"⟩, 8) := ⟨⟨by decide +kernel, by decide +kernel⟩, List.mem_of_getElem? (i := 173) (by decide +kernel), List.mem_of_getElem? (i := 734) (by decide +kernel), List.mem_of_getElem? (i := 735) (by decide +kernel)⟩
theorem lw_p11 : lw_okq (⟨"EchoFolk$Parser", "readOr", "()V"⟩, 8) := ⟨⟨by decide +kernel, by decide +kernel⟩, List.mem_of_getElem? (i := 173) (by decide +kernel), List.mem_of_getElem? (i := 738) (by decide +kernel), List.mem_of_getElem? (i := 739) (by decide +kernel)⟩
theorem lw_p12 : lw_okq (⟨"EchoFolk$Parser", "readAnd", "()V"⟩, 8) := ⟨⟨by decide +kernel, by decide +kernel⟩, List.mem_of_getElem? (i := 173) (by decide +kernel), List.mem_of_getElem? (i := 742) (by decide +kernel), List.mem_of_getElem? (i := 743) (by decide +kernel)⟩
theorem lw_p13 : lw_okq (⟨"EchoFolk$Parser", "readTest", "()V"⟩, 8) := ⟨⟨by decide +kernel, by decide +kernel⟩, List.mem_of_getElem? (i := 173) (by decide +kernel), List.mem_of_getElem? (i := 746) (by decide +kernel), List.mem_of_getElem? (i := 747) (by decide +kernel)⟩
theorem lw_p14 : lw_okq (⟨"EchoFolk$Parser", "readSum", "()V"⟩, 8) := ⟨⟨by decide +kernel, by decide +kernel⟩, List.mem_of_getElem? (i := 173) (by decide +kernel), List.mem_of_getElem? (i := 750) (by decide +kernel), List.mem_of_getElem? (i := 751) (by decide +kernel)⟩
theorem lw_p15 : lw_okq (⟨"EchoFolk$Parser", "readTerm", "()V"⟩, 8) := ⟨⟨by decide +kernel, by decide +kernel⟩, List.mem_of_getElem? (i := 173) (by decide +kernel), List.mem_of_getElem? (i := 754) (by decide +kernel), List.mem_of_getElem? (i := 755) (by decide +kernel)⟩
def lw_privs_1 : List (MethodName × Nat) := [(⟨"EchoFolk", "putFromWithout", "(II)I"⟩, 13), (⟨"EchoFolk", "readSaying", "(I)I"⟩, 13), (⟨"EchoFolk$Saying", "longestPiece", "(LEchoFolk$Speaker;II)I"⟩, 2), (⟨"EchoFolk$Saying", "sameWords", "(LEchoFolk$Speaker;II)I"⟩, 2), (⟨"EchoFolk", "breathsTaught", "(II)I"⟩, 13), (⟨"EchoFolk", "spokenWithout", "(II)I"⟩, 13), (⟨"EchoFolk", "unlikeWithEar", "(III)I"⟩, 13), (⟨"EchoFolk$Parser", "step", "()V"⟩, 8), (⟨"EchoFolk$Parser", "readKey", "()V"⟩, 8), (⟨"EchoFolk$Parser", "isWordOf", "(Ljava/lang/String;)Z"⟩, 8), (⟨"EchoFolk$Parser", "fail", "()V"⟩, 8), (⟨"EchoFolk$Parser", "readOr", "()V"⟩, 8), (⟨"EchoFolk$Parser", "readAnd", "()V"⟩, 8), (⟨"EchoFolk$Parser", "readTest", "()V"⟩, 8), (⟨"EchoFolk$Parser", "readSum", "()V"⟩, 8), (⟨"EchoFolk$Parser", "readTerm", "()V"⟩, 8)]
theorem lw_r1 : ∀ q ∈ lw_privs_1, lw_okq q := List.forall_mem_cons.mpr ⟨lw_p0, List.forall_mem_cons.mpr ⟨lw_p1, List.forall_mem_cons.mpr ⟨lw_p2, List.forall_mem_cons.mpr ⟨lw_p3, List.forall_mem_cons.mpr ⟨lw_p4, List.forall_mem_cons.mpr ⟨lw_p5, List.forall_mem_cons.mpr ⟨lw_p6, List.forall_mem_cons.mpr ⟨lw_p7, List.forall_mem_cons.mpr ⟨lw_p8, List.forall_mem_cons.mpr ⟨lw_p9, List.forall_mem_cons.mpr ⟨lw_p10, List.forall_mem_cons.mpr ⟨lw_p11, List.forall_mem_cons.mpr ⟨lw_p12, List.forall_mem_cons.mpr ⟨lw_p13, List.forall_mem_cons.mpr ⟨lw_p14, List.forall_mem_cons.mpr ⟨lw_p15, fun _ h => absurd h List.not_mem_nil⟩⟩⟩⟩⟩⟩⟩⟩⟩⟩⟩⟩⟩⟩⟩⟩
theorem lw_p16 : lw_okq (⟨"EchoFolk$Parser", "readPiece", "()V"⟩, 8) := ⟨⟨by decide +kernel, by decide +kernel⟩, List.mem_of_getElem? (i := 173) (by decide +kernel), List.mem_of_getElem? (i := 758) (by decide +kernel), List.mem_of_getElem? (i := 759) (by decide +kernel)⟩
theorem lw_p17 : lw_okq (⟨"EchoFolk$Parser", "readNumber", "()V"⟩, 8) := ⟨⟨by decide +kernel, by decide +kernel⟩, List.mem_of_getElem? (i := 173) (by decide +kernel), List.mem_of_getElem? (i := 762) (by decide +kernel), List.mem_of_getElem? (i := 763) (by decide +kernel)⟩
theorem lw_p18 : lw_okq (⟨"EchoFolk$Parser", "putLeaf", "(I)V"⟩, 8) := ⟨⟨by decide +kernel, by decide +kernel⟩, List.mem_of_getElem? (i := 173) (by decide +kernel), List.mem_of_getElem? (i := 766) (by decide +kernel), List.mem_of_getElem? (i := 767) (by decide +kernel)⟩
theorem lw_p19 : lw_okq (⟨"EchoFolk$Parser", "readName", "()V"⟩, 8) := ⟨⟨by decide +kernel, by decide +kernel⟩, List.mem_of_getElem? (i := 173) (by decide +kernel), List.mem_of_getElem? (i := 774) (by decide +kernel), List.mem_of_getElem? (i := 775) (by decide +kernel)⟩
theorem lw_p20 : lw_okq (⟨"EchoFolk$Parser", "isSign", "(C)Z"⟩, 8) := ⟨⟨by decide +kernel, by decide +kernel⟩, List.mem_of_getElem? (i := 173) (by decide +kernel), List.mem_of_getElem? (i := 839) (by decide +kernel), List.mem_of_getElem? (i := 840) (by decide +kernel)⟩
theorem lw_p21 : lw_okq (⟨"EchoFolk$Parser", "readNot", "()V"⟩, 8) := ⟨⟨by decide +kernel, by decide +kernel⟩, List.mem_of_getElem? (i := 173) (by decide +kernel), List.mem_of_getElem? (i := 843) (by decide +kernel), List.mem_of_getElem? (i := 844) (by decide +kernel)⟩
theorem lw_p22 : lw_okq (⟨"EchoFolk$Parser", "readBrackets", "()V"⟩, 8) := ⟨⟨by decide +kernel, by decide +kernel⟩, List.mem_of_getElem? (i := 173) (by decide +kernel), List.mem_of_getElem? (i := 847) (by decide +kernel), List.mem_of_getElem? (i := 848) (by decide +kernel)⟩
theorem lw_p23 : lw_okq (⟨"EchoFolk", "isTold", "(III)Z"⟩, 13) := ⟨⟨by decide +kernel, by decide +kernel⟩, List.mem_of_getElem? (i := 22) (by decide +kernel), List.mem_of_getElem? (i := 936) (by decide +kernel), List.mem_of_getElem? (i := 937) (by decide +kernel)⟩
theorem lw_p24 : lw_okq (⟨"EchoFolkModel", "comes", "(III)I"⟩, 38) := ⟨⟨by decide +kernel, by decide +kernel⟩, List.mem_of_getElem? (i := 952) (by decide +kernel), List.mem_of_getElem? (i := 1087) (by decide +kernel), List.mem_of_getElem? (i := 1088) (by decide +kernel)⟩
theorem lw_p25 : lw_okq (⟨"EchoFolkModel", "put", "(III)V"⟩, 38) := ⟨⟨by decide +kernel, by decide +kernel⟩, List.mem_of_getElem? (i := 952) (by decide +kernel), List.mem_of_getElem? (i := 1091) (by decide +kernel), List.mem_of_getElem? (i := 1092) (by decide +kernel)⟩
theorem lw_p26 : lw_okq (⟨"EchoFolkModel", "isSpeaker", "(I)Z"⟩, 38) := ⟨⟨by decide +kernel, by decide +kernel⟩, List.mem_of_getElem? (i := 952) (by decide +kernel), List.mem_of_getElem? (i := 1099) (by decide +kernel), List.mem_of_getElem? (i := 1100) (by decide +kernel)⟩
theorem lw_p27 : lw_okq (⟨"EchoFolkModel", "of", "(II)I"⟩, 38) := ⟨⟨by decide +kernel, by decide +kernel⟩, List.mem_of_getElem? (i := 952) (by decide +kernel), List.mem_of_getElem? (i := 1103) (by decide +kernel), List.mem_of_getElem? (i := 1104) (by decide +kernel)⟩
theorem lw_p28 : lw_okq (⟨"EchoFolkModel", "wordsOf", "(I)I"⟩, 38) := ⟨⟨by decide +kernel, by decide +kernel⟩, List.mem_of_getElem? (i := 952) (by decide +kernel), List.mem_of_getElem? (i := 1107) (by decide +kernel), List.mem_of_getElem? (i := 1108) (by decide +kernel)⟩
theorem lw_p29 : lw_okq (⟨"EchoFolkModel", "keepsOf", "(I)I"⟩, 38) := ⟨⟨by decide +kernel, by decide +kernel⟩, List.mem_of_getElem? (i := 952) (by decide +kernel), List.mem_of_getElem? (i := 1111) (by decide +kernel), List.mem_of_getElem? (i := 1112) (by decide +kernel)⟩
theorem lw_p30 : lw_okq (⟨"EchoFolkModel", "counts", "(I)I"⟩, 38) := ⟨⟨by decide +kernel, by decide +kernel⟩, List.mem_of_getElem? (i := 952) (by decide +kernel), List.mem_of_getElem? (i := 1115) (by decide +kernel), List.mem_of_getElem? (i := 1116) (by decide +kernel)⟩
theorem lw_p31 : lw_okq (⟨"EchoFolkModel", "worksOut", "(I)I"⟩, 38) := ⟨⟨by decide +kernel, by decide +kernel⟩, List.mem_of_getElem? (i := 952) (by decide +kernel), List.mem_of_getElem? (i := 1119) (by decide +kernel), List.mem_of_getElem? (i := 1120) (by decide +kernel)⟩
def lw_privs_2 : List (MethodName × Nat) := [(⟨"EchoFolk$Parser", "readPiece", "()V"⟩, 8), (⟨"EchoFolk$Parser", "readNumber", "()V"⟩, 8), (⟨"EchoFolk$Parser", "putLeaf", "(I)V"⟩, 8), (⟨"EchoFolk$Parser", "readName", "()V"⟩, 8), (⟨"EchoFolk$Parser", "isSign", "(C)Z"⟩, 8), (⟨"EchoFolk$Parser", "readNot", "()V"⟩, 8), (⟨"EchoFolk$Parser", "readBrackets", "()V"⟩, 8), (⟨"EchoFolk", "isTold", "(III)Z"⟩, 13), (⟨"EchoFolkModel", "comes", "(III)I"⟩, 38), (⟨"EchoFolkModel", "put", "(III)V"⟩, 38), (⟨"EchoFolkModel", "isSpeaker", "(I)Z"⟩, 38), (⟨"EchoFolkModel", "of", "(II)I"⟩, 38), (⟨"EchoFolkModel", "wordsOf", "(I)I"⟩, 38), (⟨"EchoFolkModel", "keepsOf", "(I)I"⟩, 38), (⟨"EchoFolkModel", "counts", "(I)I"⟩, 38), (⟨"EchoFolkModel", "worksOut", "(I)I"⟩, 38)]
theorem lw_r2 : ∀ q ∈ lw_privs_2, lw_okq q := List.forall_mem_cons.mpr ⟨lw_p16, List.forall_mem_cons.mpr ⟨lw_p17, List.forall_mem_cons.mpr ⟨lw_p18, List.forall_mem_cons.mpr ⟨lw_p19, List.forall_mem_cons.mpr ⟨lw_p20, List.forall_mem_cons.mpr ⟨lw_p21, List.forall_mem_cons.mpr ⟨lw_p22, List.forall_mem_cons.mpr ⟨lw_p23, List.forall_mem_cons.mpr ⟨lw_p24, List.forall_mem_cons.mpr ⟨lw_p25, List.forall_mem_cons.mpr ⟨lw_p26, List.forall_mem_cons.mpr ⟨lw_p27, List.forall_mem_cons.mpr ⟨lw_p28, List.forall_mem_cons.mpr ⟨lw_p29, List.forall_mem_cons.mpr ⟨lw_p30, List.forall_mem_cons.mpr ⟨lw_p31, fun _ h => absurd h List.not_mem_nil⟩⟩⟩⟩⟩⟩⟩⟩⟩⟩⟩⟩⟩⟩⟩⟩
theorem lw_p32 : lw_okq (⟨"EchoFolkModel", "takesOf", "(I)I"⟩, 38) := ⟨⟨by decide +kernel, by decide +kernel⟩, List.mem_of_getElem? (i := 952) (by decide +kernel), List.mem_of_getElem? (i := 1129) (by decide +kernel), List.mem_of_getElem? (i := 1130) (by decide +kernel)⟩
theorem lw_p33 : lw_okq (⟨"EchoFolkModel", "goesOf", "(I)I"⟩, 38) := ⟨⟨by decide +kernel, by decide +kernel⟩, List.mem_of_getElem? (i := 952) (by decide +kernel), List.mem_of_getElem? (i := 1133) (by decide +kernel), List.mem_of_getElem? (i := 1134) (by decide +kernel)⟩
theorem lw_p34 : lw_okq (⟨"EchoFolkModel", "worthOf", "(I)I"⟩, 38) := ⟨⟨by decide +kernel, by decide +kernel⟩, List.mem_of_getElem? (i := 952) (by decide +kernel), List.mem_of_getElem? (i := 1137) (by decide +kernel), List.mem_of_getElem? (i := 1138) (by decide +kernel)⟩
theorem lw_p35 : lw_okq (⟨"EchoFolkModel", "becomes", "(II)I"⟩, 38) := ⟨⟨by decide +kernel, by decide +kernel⟩, List.mem_of_getElem? (i := 952) (by decide +kernel), List.mem_of_getElem? (i := 1158) (by decide +kernel), List.mem_of_getElem? (i := 1159) (by decide +kernel)⟩
theorem lw_p36 : lw_okq (⟨"EchoFolkModel", "speaksOne", "(I)V"⟩, 38) := ⟨⟨by decide +kernel, by decide +kernel⟩, List.mem_of_getElem? (i := 952) (by decide +kernel), List.mem_of_getElem? (i := 1170) (by decide +kernel), List.mem_of_getElem? (i := 1171) (by decide +kernel)⟩
theorem lw_p37 : lw_okq (⟨"EchoFolkModel", "hears", "(I)V"⟩, 38) := ⟨⟨by decide +kernel, by decide +kernel⟩, List.mem_of_getElem? (i := 952) (by decide +kernel), List.mem_of_getElem? (i := 1174) (by decide +kernel), List.mem_of_getElem? (i := 1175) (by decide +kernel)⟩
theorem lw_p38 : lw_okq (⟨"EchoFolkModel", "forgetsOldest", "(I)V"⟩, 38) := ⟨⟨by decide +kernel, by decide +kernel⟩, List.mem_of_getElem? (i := 952) (by decide +kernel), List.mem_of_getElem? (i := 1178) (by decide +kernel), List.mem_of_getElem? (i := 1179) (by decide +kernel)⟩
theorem lw_p39 : lw_okq (⟨"EchoFolkModel", "tells", "(III)I"⟩, 38) := ⟨⟨by decide +kernel, by decide +kernel⟩, List.mem_of_getElem? (i := 952) (by decide +kernel), List.mem_of_getElem? (i := 1186) (by decide +kernel), List.mem_of_getElem? (i := 1187) (by decide +kernel)⟩
theorem lw_p40 : lw_okq (⟨"EchoFolkModel", "begins", "(III)V"⟩, 38) := ⟨⟨by decide +kernel, by decide +kernel⟩, List.mem_of_getElem? (i := 952) (by decide +kernel), List.mem_of_getElem? (i := 1190) (by decide +kernel), List.mem_of_getElem? (i := 1191) (by decide +kernel)⟩
theorem lw_p41 : lw_okq (⟨"EchoFolkModel", "draw", "()I"⟩, 38) := ⟨⟨by decide +kernel, by decide +kernel⟩, List.mem_of_getElem? (i := 952) (by decide +kernel), List.mem_of_getElem? (i := 1206) (by decide +kernel), List.mem_of_getElem? (i := 1207) (by decide +kernel)⟩
theorem lw_p42 : lw_okq (⟨"EchoFolkModel", "goesOn", "(I)V"⟩, 38) := ⟨⟨by decide +kernel, by decide +kernel⟩, List.mem_of_getElem? (i := 952) (by decide +kernel), List.mem_of_getElem? (i := 1219) (by decide +kernel), List.mem_of_getElem? (i := 1220) (by decide +kernel)⟩
theorem lw_p43 : lw_okq (⟨"EchoFolkModel", "day", "()V"⟩, 38) := ⟨⟨by decide +kernel, by decide +kernel⟩, List.mem_of_getElem? (i := 952) (by decide +kernel), List.mem_of_getElem? (i := 1223) (by decide +kernel), List.mem_of_getElem? (i := 1224) (by decide +kernel)⟩
theorem lw_p44 : lw_okq (⟨"EchoFolkModel", "talks", "()V"⟩, 38) := ⟨⟨by decide +kernel, by decide +kernel⟩, List.mem_of_getElem? (i := 952) (by decide +kernel), List.mem_of_getElem? (i := 1227) (by decide +kernel), List.mem_of_getElem? (i := 1228) (by decide +kernel)⟩
theorem lw_p45 : lw_okq (⟨"EchoFolkModel", "wordsOfAll", "()I"⟩, 38) := ⟨⟨by decide +kernel, by decide +kernel⟩, List.mem_of_getElem? (i := 952) (by decide +kernel), List.mem_of_getElem? (i := 1235) (by decide +kernel), List.mem_of_getElem? (i := 1236) (by decide +kernel)⟩
theorem lw_p46 : lw_okq (⟨"EchoFolkModel", "known", "()I"⟩, 38) := ⟨⟨by decide +kernel, by decide +kernel⟩, List.mem_of_getElem? (i := 952) (by decide +kernel), List.mem_of_getElem? (i := 1239) (by decide +kernel), List.mem_of_getElem? (i := 1240) (by decide +kernel)⟩
theorem lw_p47 : lw_okq (⟨"EchoFolkModel", "knownToAll", "()I"⟩, 38) := ⟨⟨by decide +kernel, by decide +kernel⟩, List.mem_of_getElem? (i := 952) (by decide +kernel), List.mem_of_getElem? (i := 1243) (by decide +kernel), List.mem_of_getElem? (i := 1244) (by decide +kernel)⟩
def lw_privs_3 : List (MethodName × Nat) := [(⟨"EchoFolkModel", "takesOf", "(I)I"⟩, 38), (⟨"EchoFolkModel", "goesOf", "(I)I"⟩, 38), (⟨"EchoFolkModel", "worthOf", "(I)I"⟩, 38), (⟨"EchoFolkModel", "becomes", "(II)I"⟩, 38), (⟨"EchoFolkModel", "speaksOne", "(I)V"⟩, 38), (⟨"EchoFolkModel", "hears", "(I)V"⟩, 38), (⟨"EchoFolkModel", "forgetsOldest", "(I)V"⟩, 38), (⟨"EchoFolkModel", "tells", "(III)I"⟩, 38), (⟨"EchoFolkModel", "begins", "(III)V"⟩, 38), (⟨"EchoFolkModel", "draw", "()I"⟩, 38), (⟨"EchoFolkModel", "goesOn", "(I)V"⟩, 38), (⟨"EchoFolkModel", "day", "()V"⟩, 38), (⟨"EchoFolkModel", "talks", "()V"⟩, 38), (⟨"EchoFolkModel", "wordsOfAll", "()I"⟩, 38), (⟨"EchoFolkModel", "known", "()I"⟩, 38), (⟨"EchoFolkModel", "knownToAll", "()I"⟩, 38)]
theorem lw_r3 : ∀ q ∈ lw_privs_3, lw_okq q := List.forall_mem_cons.mpr ⟨lw_p32, List.forall_mem_cons.mpr ⟨lw_p33, List.forall_mem_cons.mpr ⟨lw_p34, List.forall_mem_cons.mpr ⟨lw_p35, List.forall_mem_cons.mpr ⟨lw_p36, List.forall_mem_cons.mpr ⟨lw_p37, List.forall_mem_cons.mpr ⟨lw_p38, List.forall_mem_cons.mpr ⟨lw_p39, List.forall_mem_cons.mpr ⟨lw_p40, List.forall_mem_cons.mpr ⟨lw_p41, List.forall_mem_cons.mpr ⟨lw_p42, List.forall_mem_cons.mpr ⟨lw_p43, List.forall_mem_cons.mpr ⟨lw_p44, List.forall_mem_cons.mpr ⟨lw_p45, List.forall_mem_cons.mpr ⟨lw_p46, List.forall_mem_cons.mpr ⟨lw_p47, fun _ h => absurd h List.not_mem_nil⟩⟩⟩⟩⟩⟩⟩⟩⟩⟩⟩⟩⟩⟩⟩⟩
theorem lw_p48 : lw_okq (⟨"EchoFolkModel", "readsSaying", "(I)V"⟩, 38) := ⟨⟨by decide +kernel, by decide +kernel⟩, List.mem_of_getElem? (i := 952) (by decide +kernel), List.mem_of_getElem? (i := 1256) (by decide +kernel), List.mem_of_getElem? (i := 1257) (by decide +kernel)⟩
theorem lw_p49 : lw_okq (⟨"EchoFolkModel", "breathsOf", "(I)I"⟩, 38) := ⟨⟨by decide +kernel, by decide +kernel⟩, List.mem_of_getElem? (i := 952) (by decide +kernel), List.mem_of_getElem? (i := 1263) (by decide +kernel), List.mem_of_getElem? (i := 1264) (by decide +kernel)⟩
theorem lw_p50 : lw_okq (⟨"EchoFolkModel", "hasHeard", "(III)Z"⟩, 38) := ⟨⟨by decide +kernel, by decide +kernel⟩, List.mem_of_getElem? (i := 952) (by decide +kernel), List.mem_of_getElem? (i := 1267) (by decide +kernel), List.mem_of_getElem? (i := 1268) (by decide +kernel)⟩
theorem lw_p51 : lw_okq (⟨"EchoFolkModel", "thinks", "()V"⟩, 38) := ⟨⟨by decide +kernel, by decide +kernel⟩, List.mem_of_getElem? (i := 952) (by decide +kernel), List.mem_of_getElem? (i := 1284) (by decide +kernel), List.mem_of_getElem? (i := 1285) (by decide +kernel)⟩
theorem lw_p52 : lw_okq (⟨"EchoFolkModel", "putsBack", "()V"⟩, 38) := ⟨⟨by decide +kernel, by decide +kernel⟩, List.mem_of_getElem? (i := 952) (by decide +kernel), List.mem_of_getElem? (i := 1288) (by decide +kernel), List.mem_of_getElem? (i := 1289) (by decide +kernel)⟩
theorem lw_p53 : lw_okq (⟨"EchoFolkModel", "hasCome", "(I)Z"⟩, 38) := ⟨⟨by decide +kernel, by decide +kernel⟩, List.mem_of_getElem? (i := 952) (by decide +kernel), List.mem_of_getElem? (i := 1300) (by decide +kernel), List.mem_of_getElem? (i := 1301) (by decide +kernel)⟩
theorem lw_p54 : lw_okq (⟨"EchoFolkModel", "go", "()V"⟩, 38) := ⟨⟨by decide +kernel, by decide +kernel⟩, List.mem_of_getElem? (i := 952) (by decide +kernel), List.mem_of_getElem? (i := 1339) (by decide +kernel), List.mem_of_getElem? (i := 1340) (by decide +kernel)⟩
theorem lw_p55 : lw_okq (⟨"EchoFolkModel", "isLetter", "(I)Z"⟩, 38) := ⟨⟨by decide +kernel, by decide +kernel⟩, List.mem_of_getElem? (i := 952) (by decide +kernel), List.mem_of_getElem? (i := 1343) (by decide +kernel), List.mem_of_getElem? (i := 1344) (by decide +kernel)⟩
theorem lw_p56 : lw_okq (⟨"EchoFolkModel", "isFigure", "(I)Z"⟩, 38) := ⟨⟨by decide +kernel, by decide +kernel⟩, List.mem_of_getElem? (i := 952) (by decide +kernel), List.mem_of_getElem? (i := 1347) (by decide +kernel), List.mem_of_getElem? (i := 1348) (by decide +kernel)⟩
theorem lw_p57 : lw_okq (⟨"EchoFolkModel", "takesKey", "()Z"⟩, 38) := ⟨⟨by decide +kernel, by decide +kernel⟩, List.mem_of_getElem? (i := 952) (by decide +kernel), List.mem_of_getElem? (i := 1351) (by decide +kernel), List.mem_of_getElem? (i := 1352) (by decide +kernel)⟩
theorem lw_p58 : lw_okq (⟨"EchoFolkModel", "takesE", "()Z"⟩, 38) := ⟨⟨by decide +kernel, by decide +kernel⟩, List.mem_of_getElem? (i := 952) (by decide +kernel), List.mem_of_getElem? (i := 1355) (by decide +kernel), List.mem_of_getElem? (i := 1356) (by decide +kernel)⟩
theorem lw_p59 : lw_okq (⟨"EchoFolkModel", "takesPart", "()Z"⟩, 38) := ⟨⟨by decide +kernel, by decide +kernel⟩, List.mem_of_getElem? (i := 952) (by decide +kernel), List.mem_of_getElem? (i := 1359) (by decide +kernel), List.mem_of_getElem? (i := 1360) (by decide +kernel)⟩
theorem lw_p60 : lw_okq (⟨"EchoFolkModel", "nameOf", "(I)I"⟩, 38) := ⟨⟨by decide +kernel, by decide +kernel⟩, List.mem_of_getElem? (i := 952) (by decide +kernel), List.mem_of_getElem? (i := 1363) (by decide +kernel), List.mem_of_getElem? (i := 1364) (by decide +kernel)⟩
theorem lw_p61 : lw_okq (⟨"EchoFolkModel", "settle", "(I)V"⟩, 38) := ⟨⟨by decide +kernel, by decide +kernel⟩, List.mem_of_getElem? (i := 952) (by decide +kernel), List.mem_of_getElem? (i := 1367) (by decide +kernel), List.mem_of_getElem? (i := 1368) (by decide +kernel)⟩
theorem lw_p62 : lw_okq (⟨"EchoFolkModel", "notsOpen", "()I"⟩, 38) := ⟨⟨by decide +kernel, by decide +kernel⟩, List.mem_of_getElem? (i := 952) (by decide +kernel), List.mem_of_getElem? (i := 1374) (by decide +kernel), List.mem_of_getElem? (i := 1375) (by decide +kernel)⟩
theorem lw_p63 : lw_okq (⟨"EchoFolkModel", "signHere", "()I"⟩, 38) := ⟨⟨by decide +kernel, by decide +kernel⟩, List.mem_of_getElem? (i := 952) (by decide +kernel), List.mem_of_getElem? (i := 1378) (by decide +kernel), List.mem_of_getElem? (i := 1379) (by decide +kernel)⟩
def lw_privs_4 : List (MethodName × Nat) := [(⟨"EchoFolkModel", "readsSaying", "(I)V"⟩, 38), (⟨"EchoFolkModel", "breathsOf", "(I)I"⟩, 38), (⟨"EchoFolkModel", "hasHeard", "(III)Z"⟩, 38), (⟨"EchoFolkModel", "thinks", "()V"⟩, 38), (⟨"EchoFolkModel", "putsBack", "()V"⟩, 38), (⟨"EchoFolkModel", "hasCome", "(I)Z"⟩, 38), (⟨"EchoFolkModel", "go", "()V"⟩, 38), (⟨"EchoFolkModel", "isLetter", "(I)Z"⟩, 38), (⟨"EchoFolkModel", "isFigure", "(I)Z"⟩, 38), (⟨"EchoFolkModel", "takesKey", "()Z"⟩, 38), (⟨"EchoFolkModel", "takesE", "()Z"⟩, 38), (⟨"EchoFolkModel", "takesPart", "()Z"⟩, 38), (⟨"EchoFolkModel", "nameOf", "(I)I"⟩, 38), (⟨"EchoFolkModel", "settle", "(I)V"⟩, 38), (⟨"EchoFolkModel", "notsOpen", "()I"⟩, 38), (⟨"EchoFolkModel", "signHere", "()I"⟩, 38)]
theorem lw_r4 : ∀ q ∈ lw_privs_4, lw_okq q := List.forall_mem_cons.mpr ⟨lw_p48, List.forall_mem_cons.mpr ⟨lw_p49, List.forall_mem_cons.mpr ⟨lw_p50, List.forall_mem_cons.mpr ⟨lw_p51, List.forall_mem_cons.mpr ⟨lw_p52, List.forall_mem_cons.mpr ⟨lw_p53, List.forall_mem_cons.mpr ⟨lw_p54, List.forall_mem_cons.mpr ⟨lw_p55, List.forall_mem_cons.mpr ⟨lw_p56, List.forall_mem_cons.mpr ⟨lw_p57, List.forall_mem_cons.mpr ⟨lw_p58, List.forall_mem_cons.mpr ⟨lw_p59, List.forall_mem_cons.mpr ⟨lw_p60, List.forall_mem_cons.mpr ⟨lw_p61, List.forall_mem_cons.mpr ⟨lw_p62, List.forall_mem_cons.mpr ⟨lw_p63, fun _ h => absurd h List.not_mem_nil⟩⟩⟩⟩⟩⟩⟩⟩⟩⟩⟩⟩⟩⟩⟩⟩
def lw_privs : List (MethodName × Nat) := lw_privs_1 ++ (lw_privs_2 ++ (lw_privs_3 ++ (lw_privs_4)))
def lw_tbl : List Cond := k2_sels lw_privs ++ tables_1
theorem lw_privs_ok : ∀ q ∈ lw_privs, lw_okq q := by
  show ∀ q ∈ lw_privs_1 ++ (lw_privs_2 ++ (lw_privs_3 ++ (lw_privs_4))), lw_okq q
  exact List.forall_mem_append.mpr ⟨lw_r1, List.forall_mem_append.mpr ⟨lw_r2, List.forall_mem_append.mpr ⟨lw_r3, lw_r4⟩⟩⟩
/-! ===== printed by program: classes of the plain machine ===== -/
theorem goodIn_r {big : List Cond} (ws : List Cond) (ps : List Nat) (hp : ws = ps.filterMap (fun i => big[i]?)) (h : ws.all goodWord = true) : GoodIn big ws := by
  intro w hw
  have h1 := List.all_eq_true.mp h w hw
  rw [hp] at hw
  obtain ⟨i, -, hi⟩ := List.mem_filterMap.mp hw
  have hm : w ∈ big := by first | exact List.mem_of_getElem? hi | exact List.getElem?_mem hi
  exact ⟨hm, good_of_word h1⟩
def pm_ts : List Cond := lw_tbl.filter goodWord
theorem pm_ts_in {w : Cond} (h : w ∈ lw_tbl) (hg : goodWord w = true) : w ∈ pm_ts := List.mem_filter.mpr ⟨h, hg⟩
def RX0 : String := "EchoFolk$Folk"
def TX0 : u_T := fun k => match k with
  | 0 => ("EchoFolk$Folk", "laws", "LEchoFolk$Laws;", true)
  | 1 => ("EchoFolk$Folk", "speakers", "[LEchoFolk$Speaker;", true)
  | 2 => ("EchoFolk$Folk", "many", "I", false)
  | 3 => ("EchoFolk$Folk", "talk", "I", false)
  | 4 => ("EchoFolk$Folk", "spoken", "I", false)
  | 5 => ("EchoFolk$Folk", "lost", "I", false)
  | 6 => ("EchoFolk$Folk", "day", "I", false)
  | 7 => ("EchoFolk$Folk", "z", "I", false)
  | 8 => ("EchoFolk$Folk", "texts", "I", false)
  | _ => ("EchoFolk$Folk", "lawByKey", "[I", true)
def tyX0 : Nat → FieldType := fun k => match k with
  | 0 => .object "EchoFolk$Laws"
  | 1 => .array (.object "EchoFolk$Speaker")
  | 2 => .int
  | 3 => .int
  | 4 => .int
  | 5 => .int
  | 6 => .int
  | 7 => .int
  | 8 => .int
  | _ => .array .int
theorem nmX0 : ∀ a, a < 10 → ∀ b, b < 10 → a ≠ b → (TX0 a).2.1 ≠ (TX0 b).2.1 := by decide +kernel
theorem tyX0_ok : ∀ k, k < 10 → parseFieldDescriptor (TX0 k).2.2.1 = some (tyX0 k) := by decide +kernel
theorem pm_in0 : GoodIn lw_tbl (u_ws RX0 TX0 10) := goodIn_r _ [201, 203, 205, 207, 209, 211, 213, 215, 217, 219] (by decide +kernel) (by decide +kernel)
def RX2 : String := "EchoFolk$Laws"
def TX2 : u_T := fun k => match k with
  | 0 => ("EchoFolk$Laws", "texts", "[LEchoFolk$Text;", true)
  | _ => ("EchoFolk$Laws", "stack", "[I", true)
def tyX2 : Nat → FieldType := fun k => match k with
  | 0 => .array (.object "EchoFolk$Text")
  | _ => .array .int
theorem nmX2 : ∀ a, a < 2 → ∀ b, b < 2 → a ≠ b → (TX2 a).2.1 ≠ (TX2 b).2.1 := by decide +kernel
theorem tyX2_ok : ∀ k, k < 2 → parseFieldDescriptor (TX2 k).2.2.1 = some (tyX2 k) := by decide +kernel
theorem pm_in1 : GoodIn lw_tbl (u_ws RX2 TX2 2) := goodIn_r _ [129, 131] (by decide +kernel) (by decide +kernel)
def RX3 : String := "EchoFolk$Parser"
def TX3 : u_T := fun k => match k with
  | 0 => ("EchoFolk$Parser", "tape", "LEchoFolk$Tape;", true)
  | 1 => ("EchoFolk$Parser", "text", "LEchoFolk$Text;", false)
  | 2 => ("EchoFolk$Parser", "sort", "I", false)
  | 3 => ("EchoFolk$Parser", "start", "I", false)
  | 4 => ("EchoFolk$Parser", "end", "I", false)
  | 5 => ("EchoFolk$Parser", "openBrackets", "I", false)
  | 6 => ("EchoFolk$Parser", "openNots", "I", false)
  | _ => ("EchoFolk$Parser", "fault", "I", false)
def tyX3 : Nat → FieldType := fun k => match k with
  | 0 => .object "EchoFolk$Tape"
  | 1 => .object "EchoFolk$Text"
  | 2 => .int
  | 3 => .int
  | 4 => .int
  | 5 => .int
  | 6 => .int
  | _ => .int
theorem nmX3 : ∀ a, a < 8 → ∀ b, b < 8 → a ≠ b → (TX3 a).2.1 ≠ (TX3 b).2.1 := by decide +kernel
theorem tyX3_ok : ∀ k, k < 8 → parseFieldDescriptor (TX3 k).2.2.1 = some (tyX3 k) := by decide +kernel
theorem pm_in2 : GoodIn lw_tbl (u_ws RX3 TX3 8) := goodIn_r _ [252, 254, 256, 258, 260, 262, 264, 266] (by decide +kernel) (by decide +kernel)
def RX4 : String := "EchoFolk$Saying"
def TX4 : u_T := fun k => match k with
  | 0 => ("EchoFolk$Saying", "words", "[I", true)
  | _ => ("EchoFolk$Saying", "many", "I", false)
def tyX4 : Nat → FieldType := fun k => match k with
  | 0 => .array .int
  | _ => .int
theorem nmX4 : ∀ a, a < 2 → ∀ b, b < 2 → a ≠ b → (TX4 a).2.1 ≠ (TX4 b).2.1 := by decide +kernel
theorem tyX4_ok : ∀ k, k < 2 → parseFieldDescriptor (TX4 k).2.2.1 = some (tyX4 k) := by decide +kernel
theorem pm_in3 : GoodIn lw_tbl (u_ws RX4 TX4 2) := goodIn_r _ [327, 329] (by decide +kernel) (by decide +kernel)
def RX5 : String := "EchoFolk$Sheet"
def TX5 : u_T := fun k => match k with
  | 0 => ("EchoFolk$Sheet", "sort", "I", false)
  | 1 => ("EchoFolk$Sheet", "many", "I", false)
  | _ => ("EchoFolk$Sheet", "places", "[I", true)
def tyX5 : Nat → FieldType := fun k => match k with
  | 0 => .int
  | 1 => .int
  | _ => .array .int
theorem nmX5 : ∀ a, a < 3 → ∀ b, b < 3 → a ≠ b → (TX5 a).2.1 ≠ (TX5 b).2.1 := by decide +kernel
theorem tyX5_ok : ∀ k, k < 3 → parseFieldDescriptor (TX5 k).2.2.1 = some (tyX5 k) := by decide +kernel
theorem pm_in4 : GoodIn lw_tbl (u_ws RX5 TX5 3) := goodIn_r _ [282, 284, 286] (by decide +kernel) (by decide +kernel)
def RX6 : String := "EchoFolk$Slot"
def TX6 : u_T := fun k => match k with
  | 0 => ("EchoFolk$Slot", "thing", "I", false)
  | 1 => ("EchoFolk$Slot", "kind", "I", false)
  | 2 => ("EchoFolk$Slot", "fame", "I", false)
  | 3 => ("EchoFolk$Slot", "number", "I", false)
  | _ => ("EchoFolk$Slot", "row", "LEchoFolk$Sheet;", true)
def tyX6 : Nat → FieldType := fun k => match k with
  | 0 => .int
  | 1 => .int
  | 2 => .int
  | 3 => .int
  | _ => .object "EchoFolk$Sheet"
theorem nmX6 : ∀ a, a < 5 → ∀ b, b < 5 → a ≠ b → (TX6 a).2.1 ≠ (TX6 b).2.1 := by decide +kernel
theorem tyX6_ok : ∀ k, k < 5 → parseFieldDescriptor (TX6 k).2.2.1 = some (tyX6 k) := by decide +kernel
theorem pm_in5 : GoodIn lw_tbl (u_ws RX6 TX6 5) := goodIn_r _ [307, 309, 311, 313, 315] (by decide +kernel) (by decide +kernel)
def RX7 : String := "EchoFolk$Speaker"
def TX7 : u_T := fun k => match k with
  | 0 => ("EchoFolk$Speaker", "kind", "I", false)
  | 1 => ("EchoFolk$Speaker", "ear", "I", false)
  | 2 => ("EchoFolk$Speaker", "fame", "I", false)
  | 3 => ("EchoFolk$Speaker", "said", "I", false)
  | 4 => ("EchoFolk$Speaker", "many", "I", false)
  | _ => ("EchoFolk$Speaker", "words", "[I", true)
def tyX7 : Nat → FieldType := fun k => match k with
  | 0 => .int
  | 1 => .int
  | 2 => .int
  | 3 => .int
  | 4 => .int
  | _ => .array .int
theorem nmX7 : ∀ a, a < 6 → ∀ b, b < 6 → a ≠ b → (TX7 a).2.1 ≠ (TX7 b).2.1 := by decide +kernel
theorem tyX7_ok : ∀ k, k < 6 → parseFieldDescriptor (TX7 k).2.2.1 = some (tyX7 k) := by decide +kernel
theorem pm_in6 : GoodIn lw_tbl (u_ws RX7 TX7 6) := goodIn_r _ [169, 171, 173, 175, 177, 179] (by decide +kernel) (by decide +kernel)
def RX8 : String := "EchoFolk$Tape"
def TX8 : u_T := fun k => match k with
  | 0 => ("EchoFolk$Tape", "bytes", "[I", true)
  | _ => ("EchoFolk$Tape", "size", "I", false)
def tyX8 : Nat → FieldType := fun k => match k with
  | 0 => .array .int
  | _ => .int
theorem nmX8 : ∀ a, a < 2 → ∀ b, b < 2 → a ≠ b → (TX8 a).2.1 ≠ (TX8 b).2.1 := by decide +kernel
theorem tyX8_ok : ∀ k, k < 2 → parseFieldDescriptor (TX8 k).2.2.1 = some (tyX8 k) := by decide +kernel
theorem pm_in7 : GoodIn lw_tbl (u_ws RX8 TX8 2) := goodIn_r _ [231, 233] (by decide +kernel) (by decide +kernel)
def RX9 : String := "EchoFolk$Text"
def TX9 : u_T := fun k => match k with
  | 0 => ("EchoFolk$Text", "key", "I", false)
  | 1 => ("EchoFolk$Text", "leaves", "I", false)
  | 2 => ("EchoFolk$Text", "size", "I", false)
  | _ => ("EchoFolk$Text", "code", "[I", true)
def tyX9 : Nat → FieldType := fun k => match k with
  | 0 => .int
  | 1 => .int
  | 2 => .int
  | _ => .array .int
theorem nmX9 : ∀ a, a < 4 → ∀ b, b < 4 → a ≠ b → (TX9 a).2.1 ≠ (TX9 b).2.1 := by decide +kernel
theorem tyX9_ok : ∀ k, k < 4 → parseFieldDescriptor (TX9 k).2.2.1 = some (tyX9 k) := by decide +kernel
theorem pm_in8 : GoodIn lw_tbl (u_ws RX9 TX9 4) := goodIn_r _ [116, 118, 120, 122] (by decide +kernel) (by decide +kernel)
def RX10 : String := "EchoFolk"
def TX10 : u_T := fun k => match k with
  | 0 => ("EchoFolk", "laws", "LEchoFolk$Laws;", true)
  | 1 => ("EchoFolk", "now", "LEchoFolk$Folk;", true)
  | 2 => ("EchoFolk", "image", "LEchoFolk$Folk;", true)
  | 3 => ("EchoFolk", "trial", "LEchoFolk$Folk;", true)
  | 4 => ("EchoFolk", "imageKept", "Z", false)
  | 5 => ("EchoFolk", "tape", "LEchoFolk$Tape;", true)
  | 6 => ("EchoFolk", "parser", "LEchoFolk$Parser;", true)
  | 7 => ("EchoFolk", "sheets", "[LEchoFolk$Sheet;", true)
  | 8 => ("EchoFolk", "slots", "[LEchoFolk$Slot;", true)
  | 9 => ("EchoFolk", "saying", "LEchoFolk$Saying;", true)
  | 10 => ("EchoFolk", "fromWithout", "[I", true)
  | 11 => ("EchoFolk", "waiting", "[I", true)
  | _ => ("EchoFolk", "waits", "I", false)
def tyX10 : Nat → FieldType := fun k => match k with
  | 0 => .object "EchoFolk$Laws"
  | 1 => .object "EchoFolk$Folk"
  | 2 => .object "EchoFolk$Folk"
  | 3 => .object "EchoFolk$Folk"
  | 4 => .boolean
  | 5 => .object "EchoFolk$Tape"
  | 6 => .object "EchoFolk$Parser"
  | 7 => .array (.object "EchoFolk$Sheet")
  | 8 => .array (.object "EchoFolk$Slot")
  | 9 => .object "EchoFolk$Saying"
  | 10 => .array .int
  | 11 => .array .int
  | _ => .int
theorem nmX10 : ∀ a, a < 13 → ∀ b, b < 13 → a ≠ b → (TX10 a).2.1 ≠ (TX10 b).2.1 := by decide +kernel
theorem tyX10_ok : ∀ k, k < 13 → parseFieldDescriptor (TX10 k).2.2.1 = some (tyX10 k) := by decide +kernel
theorem pm_in9 : GoodIn lw_tbl (u_ws RX10 TX10 13) := goodIn_r _ [345, 347, 349, 351, 353, 355, 357, 359, 361, 363, 365, 367, 369] (by decide +kernel) (by decide +kernel)
def RX11 : String := "EchoFolkModel"
def TX11 : u_T := fun k => match k with
  | 0 => ("EchoFolkModel", "now", "[I", true)
  | 1 => ("EchoFolkModel", "image", "[I", true)
  | 2 => ("EchoFolkModel", "aside", "[I", true)
  | 3 => ("EchoFolkModel", "hasImage", "Z", false)
  | 4 => ("EchoFolkModel", "spoken", "[I", true)
  | 5 => ("EchoFolkModel", "spokenMany", "I", false)
  | 6 => ("EchoFolkModel", "saying", "[I", true)
  | 7 => ("EchoFolkModel", "sayingMany", "I", false)
  | 8 => ("EchoFolkModel", "fewest", "[I", true)
  | 9 => ("EchoFolkModel", "before", "[I", true)
  | 10 => ("EchoFolkModel", "tape", "[I", true)
  | 11 => ("EchoFolkModel", "taped", "I", false)
  | 12 => ("EchoFolkModel", "next", "I", false)
  | 13 => ("EchoFolkModel", "from", "I", false)
  | 14 => ("EchoFolkModel", "token", "I", false)
  | 15 => ("EchoFolkModel", "value", "I", false)
  | 16 => ("EchoFolkModel", "ended", "I", false)
  | 17 => ("EchoFolkModel", "key", "I", false)
  | 18 => ("EchoFolkModel", "keys", "[C", true)
  | 19 => ("EchoFolkModel", "keyAt", "[I", true)
  | 20 => ("EchoFolkModel", "code", "[I", true)
  | 21 => ("EchoFolkModel", "codes", "I", false)
  | 22 => ("EchoFolkModel", "atoms", "I", false)
  | 23 => ("EchoFolkModel", "waits", "[I", true)
  | 24 => ("EchoFolkModel", "held", "I", false)
  | 25 => ("EchoFolkModel", "tested", "[Z", true)
  | 26 => ("EchoFolkModel", "stack", "[I", true)
  | 27 => ("EchoFolkModel", "facts", "[I", true)
  | 28 => ("EchoFolkModel", "sorts", "[I", true)
  | 29 => ("EchoFolkModel", "sizes", "[I", true)
  | 30 => ("EchoFolkModel", "cells", "[I", true)
  | 31 => ("EchoFolkModel", "holds", "[I", true)
  | 32 => ("EchoFolkModel", "holdsA", "[I", true)
  | 33 => ("EchoFolkModel", "holdsB", "[I", true)
  | 34 => ("EchoFolkModel", "heldCells", "[I", true)
  | 35 => ("EchoFolkModel", "moved", "[I", true)
  | 36 => ("EchoFolkModel", "tells", "[I", true)
  | _ => ("EchoFolkModel", "waiting", "I", false)
def tyX11 : Nat → FieldType := fun k => match k with
  | 0 => .array .int
  | 1 => .array .int
  | 2 => .array .int
  | 3 => .boolean
  | 4 => .array .int
  | 5 => .int
  | 6 => .array .int
  | 7 => .int
  | 8 => .array .int
  | 9 => .array .int
  | 10 => .array .int
  | 11 => .int
  | 12 => .int
  | 13 => .int
  | 14 => .int
  | 15 => .int
  | 16 => .int
  | 17 => .int
  | 18 => .array .char
  | 19 => .array .int
  | 20 => .array .int
  | 21 => .int
  | 22 => .int
  | 23 => .array .int
  | 24 => .int
  | 25 => .array .boolean
  | 26 => .array .int
  | 27 => .array .int
  | 28 => .array .int
  | 29 => .array .int
  | 30 => .array .int
  | 31 => .array .int
  | 32 => .array .int
  | 33 => .array .int
  | 34 => .array .int
  | 35 => .array .int
  | 36 => .array .int
  | _ => .int
theorem nmX11 : ∀ a, a < 38 → ∀ b, b < 38 → a ≠ b → (TX11 a).2.1 ≠ (TX11 b).2.1 := by decide +kernel
theorem tyX11_ok : ∀ k, k < 38 → parseFieldDescriptor (TX11 k).2.2.1 = some (tyX11 k) := by decide +kernel
theorem pm_in10 : GoodIn lw_tbl (u_ws RX11 TX11 38) := goodIn_r _ [1059, 1061, 1063, 1065, 1067, 1069, 1071, 1073, 1075, 1077, 1079, 1081, 1083, 1085, 1087, 1089, 1091, 1093, 1095, 1097, 1099, 1101, 1103, 1105, 1107, 1109, 1111, 1113, 1115, 1117, 1119, 1121, 1123, 1125, 1127, 1129, 1131, 1133] (by decide +kernel) (by decide +kernel)
def pm_cl : List vw_C := [(RX0, TX0, 10), (RX2, TX2, 2), (RX3, TX3, 8), (RX4, TX4, 2), (RX5, TX5, 3), (RX6, TX6, 5), (RX7, TX7, 6), (RX8, TX8, 2), (RX9, TX9, 4), (RX10, TX10, 13), (RX11, TX11, 38)]
def pm_fty (ci : Nat) : Nat → FieldType := match ci with
  | 0 => tyX0
  | 1 => tyX2
  | 2 => tyX3
  | 3 => tyX4
  | 4 => tyX5
  | 5 => tyX6
  | 6 => tyX7
  | 7 => tyX8
  | 8 => tyX9
  | 9 => tyX10
  | _ => tyX11
