section
-- ===== PART A: goes FIRST, ahead of the names: the tables' words, and 'selects' of the private methods out of them =====
/-- a private method of a class that the tables say can be made, by its rows of tables_1 -/
def lw_okq (q : MethodName × Nat) : Prop := (q.1.cls ≠ "java/lang/invoke/MethodHandle" ∧ q.1.cls ≠ "java/lang/invoke/VarHandle") ∧ Cond.instantiable q.1.cls q.2 ∈ tables_1 ∧ Cond.privateMethod q.1 ∈ tables_1 ∧ Cond.instanceMethod q.1 ∈ tables_1
theorem lw_p0 : lw_okq (⟨"EchoFolk", "putFromWithout", "(II)I"⟩, 13) := ⟨⟨by decide +kernel, by decide +kernel⟩, List.mem_of_getElem? (i := 22) (by decide +kernel), List.mem_of_getElem? (i := 432) (by decide +kernel), List.mem_of_getElem? (i := 433) (by decide +kernel)⟩
theorem lw_p1 : lw_okq (⟨"EchoFolk", "readSaying", "(I)I"⟩, 13) := ⟨⟨by decide +kernel, by decide +kernel⟩, List.mem_of_getElem? (i := 22) (by decide +kernel), List.mem_of_getElem? (i := 527) (by decide +kernel), List.mem_of_getElem? (i := 528) (by decide +kernel)⟩
theorem lw_p2 : lw_okq (⟨"EchoFolk$Saying", "longestPiece", "(LEchoFolk$Speaker;II)I"⟩, 2) := ⟨⟨by decide +kernel, by decide +kernel⟩, List.mem_of_getElem? (i := 255) (by decide +kernel), List.mem_of_getElem? (i := 547) (by decide +kernel), List.mem_of_getElem? (i := 548) (by decide +kernel)⟩
theorem lw_p3 : lw_okq (⟨"EchoFolk$Saying", "sameWords", "(LEchoFolk$Speaker;II)I"⟩, 2) := ⟨⟨by decide +kernel, by decide +kernel⟩, List.mem_of_getElem? (i := 255) (by decide +kernel), List.mem_of_getElem? (i := 551) (by decide +kernel), List.mem_of_getElem? (i := 552) (by decide +kernel)⟩
theorem lw_p4 : lw_okq (⟨"EchoFolk", "breathsTaught", "(II)I"⟩, 13) := ⟨⟨by decide +kernel, by decide +kernel⟩, List.mem_of_getElem? (i := 22) (by decide +kernel), List.mem_of_getElem? (i := 586) (by decide +kernel), List.mem_of_getElem? (i := 587) (by decide +kernel)⟩
theorem lw_p5 : lw_okq (⟨"EchoFolk", "spokenWithout", "(II)I"⟩, 13) := ⟨⟨by decide +kernel, by decide +kernel⟩, List.mem_of_getElem? (i := 22) (by decide +kernel), List.mem_of_getElem? (i := 611) (by decide +kernel), List.mem_of_getElem? (i := 612) (by decide +kernel)⟩
theorem lw_p6 : lw_okq (⟨"EchoFolk", "unlikeWithEar", "(III)I"⟩, 13) := ⟨⟨by decide +kernel, by decide +kernel⟩, List.mem_of_getElem? (i := 22) (by decide +kernel), List.mem_of_getElem? (i := 619) (by decide +kernel), List.mem_of_getElem? (i := 620) (by decide +kernel)⟩
theorem lw_p7 : lw_okq (⟨"EchoFolk$Parser", "step", "()V"⟩, 8) := ⟨⟨by decide +kernel, by decide +kernel⟩, List.mem_of_getElem? (i := 173) (by decide +kernel), List.mem_of_getElem? (i := 664) (by decide +kernel), List.mem_of_getElem? (i := 665) (by decide +kernel)⟩
theorem lw_p8 : lw_okq (⟨"EchoFolk$Parser", "readKey", "()V"⟩, 8) := ⟨⟨by decide +kernel, by decide +kernel⟩, List.mem_of_getElem? (i := 173) (by decide +kernel), List.mem_of_getElem? (i := 675) (by decide +kernel), List.mem_of_getElem? (i := 676) (by decide +kernel)⟩
theorem lw_p9 : lw_okq (⟨"EchoFolk$Parser", "isWordOf", "(Ljava/lang/String;)Z"⟩, 8) := ⟨⟨by decide +kernel, by decide +kernel⟩, List.mem_of_getElem? (i := 173) (by decide +kernel), List.mem_of_getElem? (i := 680) (by decide +kernel), List.mem_of_getElem? (i := 681) (by decide +kernel)⟩
theorem lw_p10 : lw_okq (⟨"EchoFolk$Parser", "fail", "()V"⟩, 8) := ⟨⟨by decide +kernel, by decide +kernel⟩, List.mem_of_getElem? (i := 173) (by decide +kernel), List.mem_of_getElem? (i := 734) (by decide +kernel), List.mem_of_getElem? (i := 735) (by decide +kernel)⟩
theorem lw_p11 : lw_okq (⟨"EchoFolk$Parser", "readOr", "()V"⟩, 8) := ⟨⟨by decide +kernel, by decide +kernel⟩, List.mem_of_getElem? (i := 173) (by decide +kernel), List.mem_of_getElem? (i := 738) (by decide +kernel), List.mem_of_getElem? (i := 739) (by decide +kernel)⟩
theorem lw_p12 : lw_okq (⟨"EchoFolk$Parser", "readAnd", "()V"⟩, 8) := ⟨⟨by decide +kernel, by decide +kernel⟩, List.mem_of_getElem? (i := 173) (by decide +kernel), List.mem_of_getElem? (i := 742) (by decide +kernel), List.mem_of_getElem? (i := 743) (by decide +kernel)⟩
theorem lw_p13 : lw_okq (⟨"EchoFolk$Parser", "readTest", "()V"⟩, 8) := ⟨⟨by decide +kernel, by decide +kernel⟩, List.mem_of_getElem? (i := 173) (by decide +kernel), List.mem_of_getElem? (i := 746) (by decide +kernel), List.mem_of_getElem? (i := 747) (by decide +kernel)⟩
theorem lw_p14 : lw_okq (⟨"EchoFolk$Parser", "readSum", "()V"⟩, 8) := ⟨⟨by decide +kernel, by decide +kernel⟩, List.mem_of_getElem? (i := 173) (by decide +kernel), List.mem_of_getElem? (i := 750) (by decide +kernel), List.mem_of_getElem? (i := 751) (by decide +kernel)⟩
theorem lw_p15 : lw_okq (⟨"EchoFolk$Parser", "readTerm", "()V"⟩, 8) := ⟨⟨by decide +kernel, by decide +kernel⟩, List.mem_of_getElem? (i := 173) (by decide +kernel), List.mem_of_getElem? (i := 754) (by decide +kernel), List.mem_of_getElem? (i := 755) (by decide +kernel)⟩
def lw_privs_1 : List (MethodName × Nat) := [(⟨"EchoFolk", "putFromWithout", "(II)I"⟩, 13), (⟨"EchoFolk", "readSaying", "(I)I"⟩, 13), (⟨"EchoFolk$Saying", "longestPiece", "(LEchoFolk$Speaker;II)I"⟩, 2), (⟨"EchoFolk$Saying", "sameWords", "(LEchoFolk$Speaker;II)I"⟩, 2), (⟨"EchoFolk", "breathsTaught", "(II)I"⟩, 13), (⟨"EchoFolk", "spokenWithout", "(II)I"⟩, 13), (⟨"EchoFolk", "unlikeWithEar", "(III)I"⟩, 13), (⟨"EchoFolk$Parser", "step", "()V"⟩, 8), (⟨"EchoFolk$Parser", "readKey", "()V"⟩, 8), (⟨"EchoFolk$Parser", "isWordOf", "(Ljava/lang/String;)Z"⟩, 8), (⟨"EchoFolk$Parser", "fail", "()V"⟩, 8), (⟨"EchoFolk$Parser", "readOr", "()V"⟩, 8), (⟨"EchoFolk$Parser", "readAnd", "()V"⟩, 8), (⟨"EchoFolk$Parser", "readTest", "()V"⟩, 8), (⟨"EchoFolk$Parser", "readSum", "()V"⟩, 8), (⟨"EchoFolk$Parser", "readTerm", "()V"⟩, 8)]
theorem lw_r1 : ∀ q ∈ lw_privs_1, lw_okq q := List.forall_mem_cons.mpr ⟨lw_p0, List.forall_mem_cons.mpr ⟨lw_p1, List.forall_mem_cons.mpr ⟨lw_p2, List.forall_mem_cons.mpr ⟨lw_p3, List.forall_mem_cons.mpr ⟨lw_p4, List.forall_mem_cons.mpr ⟨lw_p5, List.forall_mem_cons.mpr ⟨lw_p6, List.forall_mem_cons.mpr ⟨lw_p7, List.forall_mem_cons.mpr ⟨lw_p8, List.forall_mem_cons.mpr ⟨lw_p9, List.forall_mem_cons.mpr ⟨lw_p10, List.forall_mem_cons.mpr ⟨lw_p11, List.forall_mem_cons.mpr ⟨lw_p12, List.forall_mem_cons.mpr ⟨lw_p13, List.forall_mem_cons.mpr ⟨lw_p14, List.forall_mem_cons.mpr ⟨lw_p15, fun _ h => absurd h List.not_mem_nil⟩⟩⟩⟩⟩⟩⟩⟩⟩⟩⟩⟩⟩⟩⟩⟩
theorem lw_p16 : lw_okq (⟨"EchoFolk$Parser", "readPiece", "()V"⟩, 8) := ⟨⟨by decide +kernel, by decide +kernel⟩, List.mem_of_getElem? (i := 173) (by decide +kernel), List.mem_of_getElem? (i := 758) (by decide +kernel), List.mem_of_getElem? (i := 759) (by decide +kernel)⟩
theorem lw_p17 : lw_okq (⟨"EchoFolk$Parser", "readNumber", "()V"⟩, 8) := ⟨⟨by decide +kernel, by decide +kernel⟩, List.mem_of_getElem? (i := 173) (by decide +kernel), List.mem_of_getElem? (i := 762) (by decide +kernel), List.mem_of_getElem? (i := 763) (by decide +kernel)⟩
theorem lw_p18 : lw_okq (⟨"EchoFolk$Parser", "putLeaf", "(I)V"⟩, 8) := ⟨⟨by decide +kernel, by decide +kernel⟩, List.mem_of_getElem? (i := 173) (by decide +kernel), List.mem_of_getElem? (i := 766) (by decide +kernel), List.mem_of_getElem? (i := 767) (by decide +kernel)⟩
theorem lw_p19 : lw_okq (⟨"EchoFolk$Parser", "readName", "()V"⟩, 8) := ⟨⟨by decide +kernel, by decide +kernel⟩, List.mem_of_getElem? (i := 173) (by decide +kernel), List.mem_of_getElem? (i := 774) (by decide +kernel), List.mem_of_getElem? (i := 775) (by decide +kernel)⟩
theorem lw_p20 : lw_okq (⟨"EchoFolk$Parser", "isSign", "(C)Z"⟩, 8) := ⟨⟨by decide +kernel, by decide +kernel⟩, List.mem_of_getElem? (i := 173) (by decide +kernel), List.mem_of_getElem? (i := 839) (by decide +kernel), List.mem_of_getElem? (i := 840) (by decide +kernel)⟩
theorem lw_p21 : lw_okq (⟨"EchoFolk$Parser", "readNot", "()V"⟩, 8) := ⟨⟨by decide +kernel, by decide +kernel⟩, List.mem_of_getElem? (i := 173) (by decide +kernel), List.mem_of_getElem? (i := 843) (by decide +kernel), List.mem_of_getElem? (i := 844) (by decide +kernel)⟩
theorem lw_p22 : lw_okq (⟨"EchoFolk$Parser", "readBrackets", "()V"⟩, 8) := ⟨⟨by decide +kernel, by decide +kernel⟩, List.mem_of_getElem? (i := 173) (by decide +kernel), List.mem_of_getElem? (i := 847) (by decide +kernel), List.mem_of_getElem? (i := 848) (by decide +kernel)⟩
theorem lw_p23 : lw_okq (⟨"EchoFolk", "isTold", "(III)Z"⟩, 13) := ⟨⟨by decide +kernel, by decide +kernel⟩, List.mem_of_getElem? (i := 22) (by decide +kernel), List.mem_of_getElem? (i := 936) (by decide +kernel), List.mem_of_getElem? (i := 937) (by decide +kernel)⟩
theorem lw_p24 : lw_okq (⟨"EchoFolkModel", "comes", "(III)I"⟩, 38) := ⟨⟨by decide +kernel, by decide +kernel⟩, List.mem_of_getElem? (i := 952) (by decide +kernel), List.mem_of_getElem? (i := 1087) (by decide +kernel), List.mem_of_getElem? (i := 1088) (by decide +kernel)⟩
theorem lw_p25 : lw_okq (⟨"EchoFolkModel", "put", "(III)V"⟩, 38) := ⟨⟨by decide +kernel, by decide +kernel⟩, List.mem_of_getElem? (i := 952) (by decide +kernel), List.mem_of_getElem? (i := 1091) (by decide +kernel), List.mem_of_getElem? (i := 1092) (by decide +kernel)⟩
theorem lw_p26 : lw_okq (⟨"EchoFolkModel", "isSpeaker", "(I)Z"⟩, 38) := ⟨⟨by decide +kernel, by decide +kernel⟩, List.mem_of_getElem? (i := 952) (by decide +kernel), List.mem_of_getElem? (i := 1099) (by decide +kernel), List.mem_of_getElem? (i := 1100) (by decide +kernel)⟩
theorem lw_p27 : lw_okq (⟨"EchoFolkModel", "of", "(II)I"⟩, 38) := ⟨⟨by decide +kernel, by decide +kernel⟩, List.mem_of_getElem? (i := 952) (by decide +kernel), List.mem_of_getElem? (i := 1103) (by decide +kernel), List.mem_of_getElem? (i := 1104) (by decide +kernel)⟩
theorem lw_p28 : lw_okq (⟨"EchoFolkModel", "wordsOf", "(I)I"⟩, 38) := ⟨⟨by decide +kernel, by decide +kernel⟩, List.mem_of_getElem? (i := 952) (by decide +kernel), List.mem_of_getElem? (i := 1107) (by decide +kernel), List.mem_of_getElem? (i := 1108) (by decide +kernel)⟩
theorem lw_p29 : lw_okq (⟨"EchoFolkModel", "keepsOf", "(I)I"⟩, 38) := ⟨⟨by decide +kernel, by decide +kernel⟩, List.mem_of_getElem? (i := 952) (by decide +kernel), List.mem_of_getElem? (i := 1111) (by decide +kernel), List.mem_of_getElem? (i := 1112) (by decide +kernel)⟩
theorem lw_p30 : lw_okq (⟨"EchoFolkModel", "counts", "(I)I"⟩, 38) := ⟨⟨by decide +kernel, by decide +kernel⟩, List.mem_of_getElem? (i := 952) (by decide +kernel), List.mem_of_getElem? (i := 1115) (by decide +kernel), List.mem_of_getElem? (i := 1116) (by decide +kernel)⟩
theorem lw_p31 : lw_okq (⟨"EchoFolkModel", "worksOut", "(I)I"⟩, 38) := ⟨⟨by decide +kernel, by decide +kernel⟩, List.mem_of_getElem? (i := 952) (by decide +kernel), List.mem_of_getElem? (i := 1119) (by decide +kernel), List.mem_of_getElem? (i := 1120) (by decide +kernel)⟩
def lw_privs_2 : List (MethodName × Nat) := [(⟨"EchoFolk$Parser", "readPiece", "()V"⟩, 8), (⟨"EchoFolk$Parser", "readNumber", "()V"⟩, 8), (⟨"EchoFolk$Parser", "putLeaf", "(I)V"⟩, 8), (⟨"EchoFolk$Parser", "readName", "()V"⟩, 8), (⟨"EchoFolk$Parser", "isSign", "(C)Z"⟩, 8), (⟨"EchoFolk$Parser", "readNot", "()V"⟩, 8), (⟨"EchoFolk$Parser", "readBrackets", "()V"⟩, 8), (⟨"EchoFolk", "isTold", "(III)Z"⟩, 13), (⟨"EchoFolkModel", "comes", "(III)I"⟩, 38), (⟨"EchoFolkModel", "put", "(III)V"⟩, 38), (⟨"EchoFolkModel", "isSpeaker", "(I)Z"⟩, 38), (⟨"EchoFolkModel", "of", "(II)I"⟩, 38), (⟨"EchoFolkModel", "wordsOf", "(I)I"⟩, 38), (⟨"EchoFolkModel", "keepsOf", "(I)I"⟩, 38), (⟨"EchoFolkModel", "counts", "(I)I"⟩, 38), (⟨"EchoFolkModel", "worksOut", "(I)I"⟩, 38)]
theorem lw_r2 : ∀ q ∈ lw_privs_2, lw_okq q := List.forall_mem_cons.mpr ⟨lw_p16, List.forall_mem_cons.mpr ⟨lw_p17, List.forall_mem_cons.mpr ⟨lw_p18, List.forall_mem_cons.mpr ⟨lw_p19, List.forall_mem_cons.mpr ⟨lw_p20, List.forall_mem_cons.mpr ⟨lw_p21, List.forall_mem_cons.mpr ⟨lw_p22, List.forall_mem_cons.mpr ⟨lw_p23, List.forall_mem_cons.mpr ⟨lw_p24, List.forall_mem_cons.mpr ⟨lw_p25, List.forall_mem_cons.mpr ⟨lw_p26, List.forall_mem_cons.mpr ⟨lw_p27, List.forall_mem_cons.mpr ⟨lw_p28, List.forall_mem_cons.mpr ⟨lw_p29, List.forall_mem_cons.mpr ⟨lw_p30, List.forall_mem_cons.mpr ⟨lw_p31, fun _ h => absurd h List.not_mem_nil⟩⟩⟩⟩⟩⟩⟩⟩⟩⟩⟩⟩⟩⟩⟩⟩
theorem lw_p32 : lw_okq (⟨"EchoFolkModel", "takesOf", "(I)I"⟩, 38) := ⟨⟨by decide +kernel, by decide +kernel⟩, List.mem_of_getElem? (i := 952) (by decide +kernel), List.mem_of_getElem? (i := 1129) (by decide +kernel), List.mem_of_getElem? (i := 1130) (by decide +kernel)⟩
theorem lw_p33 : lw_okq (⟨"EchoFolkModel", "goesOf", "(I)I"⟩, 38) := ⟨⟨by decide +kernel, by decide +kernel⟩, List.mem_of_getElem? (i := 952) (by decide +kernel), List.mem_of_getElem? (i := 1133) (by decide +kernel), List.mem_of_getElem? (i := 1134) (by decide +kernel)⟩
theorem lw_p34 : lw_okq (⟨"EchoFolkModel", "worthOf", "(I)I"⟩, 38) := ⟨⟨by decide +kernel, by decide +kernel⟩, List.mem_of_getElem? (i := 952) (by decide +kernel), List.mem_of_getElem? (i := 1137) (by decide +kernel), List.mem_of_getElem? (i := 1138) (by decide +kernel)⟩
theorem lw_p35 : lw_okq (⟨"EchoFolkModel", "becomes", "(II)I"⟩, 38) := ⟨⟨by decide +kernel, by decide +kernel⟩, List.mem_of_getElem? (i := 952) (by decide +kernel), List.mem_of_getElem? (i := 1158) (by decide +kernel), List.mem_of_getElem? (i := 1159) (by decide +kernel)⟩
theorem lw_p36 : lw_okq (⟨"EchoFolkModel", "speaksOne", "(I)V"⟩, 38) := ⟨⟨by decide +kernel, by decide +kernel⟩, List.mem_of_getElem? (i := 952) (by decide +kernel), List.mem_of_getElem? (i := 1170) (by decide +kernel), List.mem_of_getElem? (i := 1171) (by decide +kernel)⟩
theorem lw_p37 : lw_okq (⟨"EchoFolkModel", "hears", "(I)V"⟩, 38) := ⟨⟨by decide +kernel, by decide +kernel⟩, List.mem_of_getElem? (i := 952) (by decide +kernel), List.mem_of_getElem? (i := 1174) (by decide +kernel), List.mem_of_getElem? (i := 1175) (by decide +kernel)⟩
theorem lw_p38 : lw_okq (⟨"EchoFolkModel", "forgetsOldest", "(I)V"⟩, 38) := ⟨⟨by decide +kernel, by decide +kernel⟩, List.mem_of_getElem? (i := 952) (by decide +kernel), List.mem_of_getElem? (i := 1178) (by decide +kernel), List.mem_of_getElem? (i := 1179) (by decide +kernel)⟩
theorem lw_p39 : lw_okq (⟨"EchoFolkModel", "tells", "(III)I"⟩, 38) := ⟨⟨by decide +kernel, by decide +kernel⟩, List.mem_of_getElem? (i := 952) (by decide +kernel), List.mem_of_getElem? (i := 1186) (by decide +kernel), List.mem_of_getElem? (i := 1187) (by decide +kernel)⟩
theorem lw_p40 : lw_okq (⟨"EchoFolkModel", "begins", "(III)V"⟩, 38) := ⟨⟨by decide +kernel, by decide +kernel⟩, List.mem_of_getElem? (i := 952) (by decide +kernel), List.mem_of_getElem? (i := 1190) (by decide +kernel), List.mem_of_getElem? (i := 1191) (by decide +kernel)⟩
theorem lw_p41 : lw_okq (⟨"EchoFolkModel", "draw", "()I"⟩, 38) := ⟨⟨by decide +kernel, by decide +kernel⟩, List.mem_of_getElem? (i := 952) (by decide +kernel), List.mem_of_getElem? (i := 1206) (by decide +kernel), List.mem_of_getElem? (i := 1207) (by decide +kernel)⟩
theorem lw_p42 : lw_okq (⟨"EchoFolkModel", "goesOn", "(I)V"⟩, 38) := ⟨⟨by decide +kernel, by decide +kernel⟩, List.mem_of_getElem? (i := 952) (by decide +kernel), List.mem_of_getElem? (i := 1219) (by decide +kernel), List.mem_of_getElem? (i := 1220) (by decide +kernel)⟩
theorem lw_p43 : lw_okq (⟨"EchoFolkModel", "day", "()V"⟩, 38) := ⟨⟨by decide +kernel, by decide +kernel⟩, List.mem_of_getElem? (i := 952) (by decide +kernel), List.mem_of_getElem? (i := 1223) (by decide +kernel), List.mem_of_getElem? (i := 1224) (by decide +kernel)⟩
theorem lw_p44 : lw_okq (⟨"EchoFolkModel", "talks", "()V"⟩, 38) := ⟨⟨by decide +kernel, by decide +kernel⟩, List.mem_of_getElem? (i := 952) (by decide +kernel), List.mem_of_getElem? (i := 1227) (by decide +kernel), List.mem_of_getElem? (i := 1228) (by decide +kernel)⟩
theorem lw_p45 : lw_okq (⟨"EchoFolkModel", "wordsOfAll", "()I"⟩, 38) := ⟨⟨by decide +kernel, by decide +kernel⟩, List.mem_of_getElem? (i := 952) (by decide +kernel), List.mem_of_getElem? (i := 1235) (by decide +kernel), List.mem_of_getElem? (i := 1236) (by decide +kernel)⟩
theorem lw_p46 : lw_okq (⟨"EchoFolkModel", "known", "()I"⟩, 38) := ⟨⟨by decide +kernel, by decide +kernel⟩, List.mem_of_getElem? (i := 952) (by decide +kernel), List.mem_of_getElem? (i := 1239) (by decide +kernel), List.mem_of_getElem? (i := 1240) (by decide +kernel)⟩
theorem lw_p47 : lw_okq (⟨"EchoFolkModel", "knownToAll", "()I"⟩, 38) := ⟨⟨by decide +kernel, by decide +kernel⟩, List.mem_of_getElem? (i := 952) (by decide +kernel), List.mem_of_getElem? (i := 1243) (by decide +kernel), List.mem_of_getElem? (i := 1244) (by decide +kernel)⟩
def lw_privs_3 : List (MethodName × Nat) := [(⟨"EchoFolkModel", "takesOf", "(I)I"⟩, 38), (⟨"EchoFolkModel", "goesOf", "(I)I"⟩, 38), (⟨"EchoFolkModel", "worthOf", "(I)I"⟩, 38), (⟨"EchoFolkModel", "becomes", "(II)I"⟩, 38), (⟨"EchoFolkModel", "speaksOne", "(I)V"⟩, 38), (⟨"EchoFolkModel", "hears", "(I)V"⟩, 38), (⟨"EchoFolkModel", "forgetsOldest", "(I)V"⟩, 38), (⟨"EchoFolkModel", "tells", "(III)I"⟩, 38), (⟨"EchoFolkModel", "begins", "(III)V"⟩, 38), (⟨"EchoFolkModel", "draw", "()I"⟩, 38), (⟨"EchoFolkModel", "goesOn", "(I)V"⟩, 38), (⟨"EchoFolkModel", "day", "()V"⟩, 38), (⟨"EchoFolkModel", "talks", "()V"⟩, 38), (⟨"EchoFolkModel", "wordsOfAll", "()I"⟩, 38), (⟨"EchoFolkModel", "known", "()I"⟩, 38), (⟨"EchoFolkModel", "knownToAll", "()I"⟩, 38)]
theorem lw_r3 : ∀ q ∈ lw_privs_3, lw_okq q := List.forall_mem_cons.mpr ⟨lw_p32, List.forall_mem_cons.mpr ⟨lw_p33, List.forall_mem_cons.mpr ⟨lw_p34, List.forall_mem_cons.mpr ⟨lw_p35, List.forall_mem_cons.mpr ⟨lw_p36, List.forall_mem_cons.mpr ⟨lw_p37, List.forall_mem_cons.mpr ⟨lw_p38, List.forall_mem_cons.mpr ⟨lw_p39, List.forall_mem_cons.mpr ⟨lw_p40, List.forall_mem_cons.mpr ⟨lw_p41, List.forall_mem_cons.mpr ⟨lw_p42, List.forall_mem_cons.mpr ⟨lw_p43, List.forall_mem_cons.mpr ⟨lw_p44, List.forall_mem_cons.mpr ⟨lw_p45, List.forall_mem_cons.mpr ⟨lw_p46, List.forall_mem_cons.mpr ⟨lw_p47, fun _ h => absurd h List.not_mem_nil⟩⟩⟩⟩⟩⟩⟩⟩⟩⟩⟩⟩⟩⟩⟩⟩
theorem lw_p48 : lw_okq (⟨"EchoFolkModel", "readsSaying", "(I)V"⟩, 38) := ⟨⟨by decide +kernel, by decide +kernel⟩, List.mem_of_getElem? (i := 952) (by decide +kernel), List.mem_of_getElem? (i := 1256) (by decide +kernel), List.mem_of_getElem? (i := 1257) (by decide +kernel)⟩
theorem lw_p49 : lw_okq (⟨"EchoFolkModel", "breathsOf", "(I)I"⟩, 38) := ⟨⟨by decide +kernel, by decide +kernel⟩, List.mem_of_getElem? (i := 952) (by decide +kernel), List.mem_of_getElem? (i := 1263) (by decide +kernel), List.mem_of_getElem? (i := 1264) (by decide +kernel)⟩
theorem lw_p50 : lw_okq (⟨"EchoFolkModel", "hasHeard", "(III)Z"⟩, 38) := ⟨⟨by decide +kernel, by decide +kernel⟩, List.mem_of_getElem? (i := 952) (by decide +kernel), List.mem_of_getElem? (i := 1267) (by decide +kernel), List.mem_of_getElem? (i := 1268) (by decide +kernel)⟩
theorem lw_p51 : lw_okq (⟨"EchoFolkModel", "thinks", "()V"⟩, 38) := ⟨⟨by decide +kernel, by decide +kernel⟩, List.mem_of_getElem? (i := 952) (by decide +kernel), List.mem_of_getElem? (i := 1284) (by decide +kernel), List.mem_of_getElem? (i := 1285) (by decide +kernel)⟩
theorem lw_p52 : lw_okq (⟨"EchoFolkModel", "putsBack", "()V"⟩, 38) := ⟨⟨by decide +kernel, by decide +kernel⟩, List.mem_of_getElem? (i := 952) (by decide +kernel), List.mem_of_getElem? (i := 1288) (by decide +kernel), List.mem_of_getElem? (i := 1289) (by decide +kernel)⟩
theorem lw_p53 : lw_okq (⟨"EchoFolkModel", "hasCome", "(I)Z"⟩, 38) := ⟨⟨by decide +kernel, by decide +kernel⟩, List.mem_of_getElem? (i := 952) (by decide +kernel), List.mem_of_getElem? (i := 1300) (by decide +kernel), List.mem_of_getElem? (i := 1301) (by decide +kernel)⟩
theorem lw_p54 : lw_okq (⟨"EchoFolkModel", "go", "()V"⟩, 38) := ⟨⟨by decide +kernel, by decide +kernel⟩, List.mem_of_getElem? (i := 952) (by decide +kernel), List.mem_of_getElem? (i := 1339) (by decide +kernel), List.mem_of_getElem? (i := 1340) (by decide +kernel)⟩
theorem lw_p55 : lw_okq (⟨"EchoFolkModel", "isLetter", "(I)Z"⟩, 38) := ⟨⟨by decide +kernel, by decide +kernel⟩, List.mem_of_getElem? (i := 952) (by decide +kernel), List.mem_of_getElem? (i := 1343) (by decide +kernel), List.mem_of_getElem? (i := 1344) (by decide +kernel)⟩
theorem lw_p56 : lw_okq (⟨"EchoFolkModel", "isFigure", "(I)Z"⟩, 38) := ⟨⟨by decide +kernel, by decide +kernel⟩, List.mem_of_getElem? (i := 952) (by decide +kernel), List.mem_of_getElem? (i := 1347) (by decide +kernel), List.mem_of_getElem? (i := 1348) (by decide +kernel)⟩
theorem lw_p57 : lw_okq (⟨"EchoFolkModel", "takesKey", "()Z"⟩, 38) := ⟨⟨by decide +kernel, by decide +kernel⟩, List.mem_of_getElem? (i := 952) (by decide +kernel), List.mem_of_getElem? (i := 1351) (by decide +kernel), List.mem_of_getElem? (i := 1352) (by decide +kernel)⟩
theorem lw_p58 : lw_okq (⟨"EchoFolkModel", "takesE", "()Z"⟩, 38) := ⟨⟨by decide +kernel, by decide +kernel⟩, List.mem_of_getElem? (i := 952) (by decide +kernel), List.mem_of_getElem? (i := 1355) (by decide +kernel), List.mem_of_getElem? (i := 1356) (by decide +kernel)⟩
theorem lw_p59 : lw_okq (⟨"EchoFolkModel", "takesPart", "()Z"⟩, 38) := ⟨⟨by decide +kernel, by decide +kernel⟩, List.mem_of_getElem? (i := 952) (by decide +kernel), List.mem_of_getElem? (i := 1359) (by decide +kernel), List.mem_of_getElem? (i := 1360) (by decide +kernel)⟩
theorem lw_p60 : lw_okq (⟨"EchoFolkModel", "nameOf", "(I)I"⟩, 38) := ⟨⟨by decide +kernel, by decide +kernel⟩, List.mem_of_getElem? (i := 952) (by decide +kernel), List.mem_of_getElem? (i := 1363) (by decide +kernel), List.mem_of_getElem? (i := 1364) (by decide +kernel)⟩
theorem lw_p61 : lw_okq (⟨"EchoFolkModel", "settle", "(I)V"⟩, 38) := ⟨⟨by decide +kernel, by decide +kernel⟩, List.mem_of_getElem? (i := 952) (by decide +kernel), List.mem_of_getElem? (i := 1367) (by decide +kernel), List.mem_of_getElem? (i := 1368) (by decide +kernel)⟩
theorem lw_p62 : lw_okq (⟨"EchoFolkModel", "notsOpen", "()I"⟩, 38) := ⟨⟨by decide +kernel, by decide +kernel⟩, List.mem_of_getElem? (i := 952) (by decide +kernel), List.mem_of_getElem? (i := 1374) (by decide +kernel), List.mem_of_getElem? (i := 1375) (by decide +kernel)⟩
theorem lw_p63 : lw_okq (⟨"EchoFolkModel", "signHere", "()I"⟩, 38) := ⟨⟨by decide +kernel, by decide +kernel⟩, List.mem_of_getElem? (i := 952) (by decide +kernel), List.mem_of_getElem? (i := 1378) (by decide +kernel), List.mem_of_getElem? (i := 1379) (by decide +kernel)⟩
def lw_privs_4 : List (MethodName × Nat) := [(⟨"EchoFolkModel", "readsSaying", "(I)V"⟩, 38), (⟨"EchoFolkModel", "breathsOf", "(I)I"⟩, 38), (⟨"EchoFolkModel", "hasHeard", "(III)Z"⟩, 38), (⟨"EchoFolkModel", "thinks", "()V"⟩, 38), (⟨"EchoFolkModel", "putsBack", "()V"⟩, 38), (⟨"EchoFolkModel", "hasCome", "(I)Z"⟩, 38), (⟨"EchoFolkModel", "go", "()V"⟩, 38), (⟨"EchoFolkModel", "isLetter", "(I)Z"⟩, 38), (⟨"EchoFolkModel", "isFigure", "(I)Z"⟩, 38), (⟨"EchoFolkModel", "takesKey", "()Z"⟩, 38), (⟨"EchoFolkModel", "takesE", "()Z"⟩, 38), (⟨"EchoFolkModel", "takesPart", "()Z"⟩, 38), (⟨"EchoFolkModel", "nameOf", "(I)I"⟩, 38), (⟨"EchoFolkModel", "settle", "(I)V"⟩, 38), (⟨"EchoFolkModel", "notsOpen", "()I"⟩, 38), (⟨"EchoFolkModel", "signHere", "()I"⟩, 38)]
theorem lw_r4 : ∀ q ∈ lw_privs_4, lw_okq q := List.forall_mem_cons.mpr ⟨lw_p48, List.forall_mem_cons.mpr ⟨lw_p49, List.forall_mem_cons.mpr ⟨lw_p50, List.forall_mem_cons.mpr ⟨lw_p51, List.forall_mem_cons.mpr ⟨lw_p52, List.forall_mem_cons.mpr ⟨lw_p53, List.forall_mem_cons.mpr ⟨lw_p54, List.forall_mem_cons.mpr ⟨lw_p55, List.forall_mem_cons.mpr ⟨lw_p56, List.forall_mem_cons.mpr ⟨lw_p57, List.forall_mem_cons.mpr ⟨lw_p58, List.forall_mem_cons.mpr ⟨lw_p59, List.forall_mem_cons.mpr ⟨lw_p60, List.forall_mem_cons.mpr ⟨lw_p61, List.forall_mem_cons.mpr ⟨lw_p62, List.forall_mem_cons.mpr ⟨lw_p63, fun _ h => absurd h List.not_mem_nil⟩⟩⟩⟩⟩⟩⟩⟩⟩⟩⟩⟩⟩⟩⟩⟩
def lw_privs : List (MethodName × Nat) := lw_privs_1 ++ (lw_privs_2 ++ (lw_privs_3 ++ (lw_privs_4)))
def lw_tbl : List Cond := k2_sels lw_privs ++ tables_1
theorem lw_privs_ok : ∀ q ∈ lw_privs, lw_okq q := by
  show ∀ q ∈ lw_privs_1 ++ (lw_privs_2 ++ (lw_privs_3 ++ (lw_privs_4))), lw_okq q
  exact List.forall_mem_append.mpr ⟨lw_r1, List.forall_mem_append.mpr ⟨lw_r2, List.forall_mem_append.mpr ⟨lw_r3, lw_r4⟩⟩⟩
/-! ===== printed by program: classes of the plain machine ===== -/
theorem goodIn_r {big : List Cond} (ws : List Cond) (ps : List Nat) (hp : ws = ps.filterMap (fun i => big[i]?)) (h : ws.all goodWord = true) : GoodIn big ws := by
  intro w hw
  have h1 := List.all_eq_true.mp h w hw
  rw [hp] at hw
  obtain ⟨i, -, hi⟩ := List.mem_filterMap.mp hw
  have hm : w ∈ big := by first | exact List.mem_of_getElem? hi | exact List.getElem?_mem hi
  exact ⟨hm, good_of_word h1⟩
def pm_ts : List Cond := lw_tbl.filter goodWord
theorem pm_ts_in {w : Cond} (h : w ∈ lw_tbl) (hg : goodWord w = true) : w ∈ pm_ts := List.mem_filter.mpr ⟨h, hg⟩
def RX0 : String := "EchoFolk$Folk"
def TX0 : u_T := fun k => match k with
  | 0 => ("EchoFolk$Folk", "laws", "LEchoFolk$Laws;", true)
  | 1 => ("EchoFolk$Folk", "speakers", "[LEchoFolk$Speaker;", true)
  | 2 => ("EchoFolk$Folk", "many", "I", false)
  | 3 => ("EchoFolk$Folk", "talk", "I", false)
  | 4 => ("EchoFolk$Folk", "spoken", "I", false)
  | 5 => ("EchoFolk$Folk", "lost", "I", false)
  | 6 => ("EchoFolk$Folk", "day", "I", false)
  | 7 => ("EchoFolk$Folk", "z", "I", false)
  | 8 => ("EchoFolk$Folk", "texts", "I", false)
  | _ => ("EchoFolk$Folk", "lawByKey", "[I", true)
def tyX0 : Nat → FieldType := fun k => match k with
  | 0 => .object "EchoFolk$Laws"
  | 1 => .array (.object "EchoFolk$Speaker")
  | 2 => .int
  | 3 => .int
  | 4 => .int
  | 5 => .int
  | 6 => .int
  | 7 => .int
  | 8 => .int
  | _ => .array .int
theorem nmX0 : ∀ a, a < 10 → ∀ b, b < 10 → a ≠ b → (TX0 a).2.1 ≠ (TX0 b).2.1 := by decide +kernel
theorem tyX0_ok : ∀ k, k < 10 → parseFieldDescriptor (TX0 k).2.2.1 = some (tyX0 k) := by decide +kernel
theorem pm_in0 : GoodIn lw_tbl (u_ws RX0 TX0 10) := goodIn_r _ [201, 203, 205, 207, 209, 211, 213, 215, 217, 219] (by decide +kernel) (by decide +kernel)
def RX2 : String := "EchoFolk$Laws"
def TX2 : u_T := fun k => match k with
  | 0 => ("EchoFolk$Laws", "texts", "[LEchoFolk$Text;", true)
  | _ => ("EchoFolk$Laws", "stack", "[I", true)
def tyX2 : Nat → FieldType := fun k => match k with
  | 0 => .array (.object "EchoFolk$Text")
  | _ => .array .int
theorem nmX2 : ∀ a, a < 2 → ∀ b, b < 2 → a ≠ b → (TX2 a).2.1 ≠ (TX2 b).2.1 := by decide +kernel
theorem tyX2_ok : ∀ k, k < 2 → parseFieldDescriptor (TX2 k).2.2.1 = some (tyX2 k) := by decide +kernel
theorem pm_in1 : GoodIn lw_tbl (u_ws RX2 TX2 2) := goodIn_r _ [129, 131] (by decide +kernel) (by decide +kernel)
def RX3 : String := "EchoFolk$Parser"
def TX3 : u_T := fun k => match k with
  | 0 => ("EchoFolk$Parser", "tape", "LEchoFolk$Tape;", true)
  | 1 => ("EchoFolk$Parser", "text", "LEchoFolk$Text;", false)
  | 2 => ("EchoFolk$Parser", "sort", "I", false)
  | 3 => ("EchoFolk$Parser", "start", "I", false)
  | 4 => ("EchoFolk$Parser", "end", "I", false)
  | 5 => ("EchoFolk$Parser", "openBrackets", "I", false)
  | 6 => ("EchoFolk$Parser", "openNots", "I", false)
  | _ => ("EchoFolk$Parser", "fault", "I", false)
def tyX3 : Nat → FieldType := fun k => match k with
  | 0 => .object "EchoFolk$Tape"
  | 1 => .object "EchoFolk$Text"
  | 2 => .int
  | 3 => .int
  | 4 => .int
  | 5 => .int
  | 6 => .int
  | _ => .int
theorem nmX3 : ∀ a, a < 8 → ∀ b, b < 8 → a ≠ b → (TX3 a).2.1 ≠ (TX3 b).2.1 := by decide +kernel
theorem tyX3_ok : ∀ k, k < 8 → parseFieldDescriptor (TX3 k).2.2.1 = some (tyX3 k) := by decide +kernel
theorem pm_in2 : GoodIn lw_tbl (u_ws RX3 TX3 8) := goodIn_r _ [252, 254, 256, 258, 260, 262, 264, 266] (by decide +kernel) (by decide +kernel)
def RX4 : String := "EchoFolk$Saying"
def TX4 : u_T := fun k => match k with
  | 0 => ("EchoFolk$Saying", "words", "[I", true)
  | _ => ("EchoFolk$Saying", "many", "I", false)
def tyX4 : Nat → FieldType := fun k => match k with
  | 0 => .array .int
  | _ => .int
theorem nmX4 : ∀ a, a < 2 → ∀ b, b < 2 → a ≠ b → (TX4 a).2.1 ≠ (TX4 b).2.1 := by decide +kernel
theorem tyX4_ok : ∀ k, k < 2 → parseFieldDescriptor (TX4 k).2.2.1 = some (tyX4 k) := by decide +kernel
theorem pm_in3 : GoodIn lw_tbl (u_ws RX4 TX4 2) := goodIn_r _ [327, 329] (by decide +kernel) (by decide +kernel)
def RX5 : String := "EchoFolk$Sheet"
def TX5 : u_T := fun k => match k with
  | 0 => ("EchoFolk$Sheet", "sort", "I", false)
  | 1 => ("EchoFolk$Sheet", "many", "I", false)
  | _ => ("EchoFolk$Sheet", "places", "[I", true)
def tyX5 : Nat → FieldType := fun k => match k with
  | 0 => .int
  | 1 => .int
  | _ => .array .int
theorem nmX5 : ∀ a, a < 3 → ∀ b, b < 3 → a ≠ b → (TX5 a).2.1 ≠ (TX5 b).2.1 := by decide +kernel
theorem tyX5_ok : ∀ k, k < 3 → parseFieldDescriptor (TX5 k).2.2.1 = some (tyX5 k) := by decide +kernel
theorem pm_in4 : GoodIn lw_tbl (u_ws RX5 TX5 3) := goodIn_r _ [282, 284, 286] (by decide +kernel) (by decide +kernel)
def RX6 : String := "EchoFolk$Slot"
def TX6 : u_T := fun k => match k with
  | 0 => ("EchoFolk$Slot", "thing", "I", false)
  | 1 => ("EchoFolk$Slot", "kind", "I", false)
  | 2 => ("EchoFolk$Slot", "fame", "I", false)
  | 3 => ("EchoFolk$Slot", "number", "I", false)
  | _ => ("EchoFolk$Slot", "row", "LEchoFolk$Sheet;", true)
def tyX6 : Nat → FieldType := fun k => match k with
  | 0 => .int
  | 1 => .int
  | 2 => .int
  | 3 => .int
  | _ => .object "EchoFolk$Sheet"
theorem nmX6 : ∀ a, a < 5 → ∀ b, b < 5 → a ≠ b → (TX6 a).2.1 ≠ (TX6 b).2.1 := by decide +kernel
theorem tyX6_ok : ∀ k, k < 5 → parseFieldDescriptor (TX6 k).2.2.1 = some (tyX6 k) := by decide +kernel
theorem pm_in5 : GoodIn lw_tbl (u_ws RX6 TX6 5) := goodIn_r _ [307, 309, 311, 313, 315] (by decide +kernel) (by decide +kernel)
def RX7 : String := "EchoFolk$Speaker"
def TX7 : u_T := fun k => match k with
  | 0 => ("EchoFolk$Speaker", "kind", "I", false)
  | 1 => ("EchoFolk$Speaker", "ear", "I", false)
  | 2 => ("EchoFolk$Speaker", "fame", "I", false)
  | 3 => ("EchoFolk$Speaker", "said", "I", false)
  | 4 => ("EchoFolk$Speaker", "many", "I", false)
  | _ => ("EchoFolk$Speaker", "words", "[I", true)
def tyX7 : Nat → FieldType := fun k => match k with
  | 0 => .int
  | 1 => .int
  | 2 => .int
  | 3 => .int
  | 4 => .int
  | _ => .array .int
theorem nmX7 : ∀ a, a < 6 → ∀ b, b < 6 → a ≠ b → (TX7 a).2.1 ≠ (TX7 b).2.1 := by decide +kernel
theorem tyX7_ok : ∀ k, k < 6 → parseFieldDescriptor (TX7 k).2.2.1 = some (tyX7 k) := by decide +kernel
theorem pm_in6 : GoodIn lw_tbl (u_ws RX7 TX7 6) := goodIn_r _ [169, 171, 173, 175, 177, 179] (by decide +kernel) (by decide +kernel)
def RX8 : String := "EchoFolk$Tape"
def TX8 : u_T := fun k => match k with
  | 0 => ("EchoFolk$Tape", "bytes", "[I", true)
  | _ => ("EchoFolk$Tape", "size", "I", false)
def tyX8 : Nat → FieldType := fun k => match k with
  | 0 => .array .int
  | _ => .int
theorem nmX8 : ∀ a, a < 2 → ∀ b, b < 2 → a ≠ b → (TX8 a).2.1 ≠ (TX8 b).2.1 := by decide +kernel
theorem tyX8_ok : ∀ k, k < 2 → parseFieldDescriptor (TX8 k).2.2.1 = some (tyX8 k) := by decide +kernel
theorem pm_in7 : GoodIn lw_tbl (u_ws RX8 TX8 2) := goodIn_r _ [231, 233] (by decide +kernel) (by decide +kernel)
def RX9 : String := "EchoFolk$Text"
def TX9 : u_T := fun k => match k with
  | 0 => ("EchoFolk$Text", "key", "I", false)
  | 1 => ("EchoFolk$Text", "leaves", "I", false)
  | 2 => ("EchoFolk$Text", "size", "I", false)
  | _ => ("EchoFolk$Text", "code", "[I", true)
def tyX9 : Nat → FieldType := fun k => match k with
  | 0 => .int
  | 1 => .int
  | 2 => .int
  | _ => .array .int
theorem nmX9 : ∀ a, a < 4 → ∀ b, b < 4 → a ≠ b → (TX9 a).2.1 ≠ (TX9 b).2.1 := by decide +kernel
theorem tyX9_ok : ∀ k, k < 4 → parseFieldDescriptor (TX9 k).2.2.1 = some (tyX9 k) := by decide +kernel
theorem pm_in8 : GoodIn lw_tbl (u_ws RX9 TX9 4) := goodIn_r _ [116, 118, 120, 122] (by decide +kernel) (by decide +kernel)
def RX10 : String := "EchoFolk"
def TX10 : u_T := fun k => match k with
  | 0 => ("EchoFolk", "laws", "LEchoFolk$Laws;", true)
  | 1 => ("EchoFolk", "now", "LEchoFolk$Folk;", true)
  | 2 => ("EchoFolk", "image", "LEchoFolk$Folk;", true)
  | 3 => ("EchoFolk", "trial", "LEchoFolk$Folk;", true)
  | 4 => ("EchoFolk", "imageKept", "Z", false)
  | 5 => ("EchoFolk", "tape", "LEchoFolk$Tape;", true)
  | 6 => ("EchoFolk", "parser", "LEchoFolk$Parser;", true)
  | 7 => ("EchoFolk", "sheets", "[LEchoFolk$Sheet;", true)
  | 8 => ("EchoFolk", "slots", "[LEchoFolk$Slot;", true)
  | 9 => ("EchoFolk", "saying", "LEchoFolk$Saying;", true)
  | 10 => ("EchoFolk", "fromWithout", "[I", true)
  | 11 => ("EchoFolk", "waiting", "[I", true)
  | _ => ("EchoFolk", "waits", "I", false)
def tyX10 : Nat → FieldType := fun k => match k with
  | 0 => .object "EchoFolk$Laws"
  | 1 => .object "EchoFolk$Folk"
  | 2 => .object "EchoFolk$Folk"
  | 3 => .object "EchoFolk$Folk"
  | 4 => .boolean
  | 5 => .object "EchoFolk$Tape"
  | 6 => .object "EchoFolk$Parser"
  | 7 => .array (.object "EchoFolk$Sheet")
  | 8 => .array (.object "EchoFolk$Slot")
  | 9 => .object "EchoFolk$Saying"
  | 10 => .array .int
  | 11 => .array .int
  | _ => .int
theorem nmX10 : ∀ a, a < 13 → ∀ b, b < 13 → a ≠ b → (TX10 a).2.1 ≠ (TX10 b).2.1 := by decide +kernel
theorem tyX10_ok : ∀ k, k < 13 → parseFieldDescriptor (TX10 k).2.2.1 = some (tyX10 k) := by decide +kernel
theorem pm_in9 : GoodIn lw_tbl (u_ws RX10 TX10 13) := goodIn_r _ [345, 347, 349, 351, 353, 355, 357, 359, 361, 363, 365, 367, 369] (by decide +kernel) (by decide +kernel)
def RX11 : String := "EchoFolkModel"
def TX11 : u_T := fun k => match k with
  | 0 => ("EchoFolkModel", "now", "[I", true)
  | 1 => ("EchoFolkModel", "image", "[I", true)
  | 2 => ("EchoFolkModel", "aside", "[I", true)
  | 3 => ("EchoFolkModel", "hasImage", "Z", false)
  | 4 => ("EchoFolkModel", "spoken", "[I", true)
  | 5 => ("EchoFolkModel", "spokenMany", "I", false)
  | 6 => ("EchoFolkModel", "saying", "[I", true)
  | 7 => ("EchoFolkModel", "sayingMany", "I", false)
  | 8 => ("EchoFolkModel", "fewest", "[I", true)
  | 9 => ("EchoFolkModel", "before", "[I", true)
  | 10 => ("EchoFolkModel", "tape", "[I", true)
  | 11 => ("EchoFolkModel", "taped", "I", false)
  | 12 => ("EchoFolkModel", "next", "I", false)
  | 13 => ("EchoFolkModel", "from", "I", false)
  | 14 => ("EchoFolkModel", "token", "I", false)
  | 15 => ("EchoFolkModel", "value", "I", false)
  | 16 => ("EchoFolkModel", "ended", "I", false)
  | 17 => ("EchoFolkModel", "key", "I", false)
  | 18 => ("EchoFolkModel", "keys", "[C", true)
  | 19 => ("EchoFolkModel", "keyAt", "[I", true)
  | 20 => ("EchoFolkModel", "code", "[I", true)
  | 21 => ("EchoFolkModel", "codes", "I", false)
  | 22 => ("EchoFolkModel", "atoms", "I", false)
  | 23 => ("EchoFolkModel", "waits", "[I", true)
  | 24 => ("EchoFolkModel", "held", "I", false)
  | 25 => ("EchoFolkModel", "tested", "[Z", true)
  | 26 => ("EchoFolkModel", "stack", "[I", true)
  | 27 => ("EchoFolkModel", "facts", "[I", true)
  | 28 => ("EchoFolkModel", "sorts", "[I", true)
  | 29 => ("EchoFolkModel", "sizes", "[I", true)
  | 30 => ("EchoFolkModel", "cells", "[I", true)
  | 31 => ("EchoFolkModel", "holds", "[I", true)
  | 32 => ("EchoFolkModel", "holdsA", "[I", true)
  | 33 => ("EchoFolkModel", "holdsB", "[I", true)
  | 34 => ("EchoFolkModel", "heldCells", "[I", true)
  | 35 => ("EchoFolkModel", "moved", "[I", true)
  | 36 => ("EchoFolkModel", "tells", "[I", true)
  | _ => ("EchoFolkModel", "waiting", "I", false)
def tyX11 : Nat → FieldType := fun k => match k with
  | 0 => .array .int
  | 1 => .array .int
  | 2 => .array .int
  | 3 => .boolean
  | 4 => .array .int
  | 5 => .int
  | 6 => .array .int
  | 7 => .int
  | 8 => .array .int
  | 9 => .array .int
  | 10 => .array .int
  | 11 => .int
  | 12 => .int
  | 13 => .int
  | 14 => .int
  | 15 => .int
  | 16 => .int
  | 17 => .int
  | 18 => .array .char
  | 19 => .array .int
  | 20 => .array .int
  | 21 => .int
  | 22 => .int
  | 23 => .array .int
  | 24 => .int
  | 25 => .array .boolean
  | 26 => .array .int
  | 27 => .array .int
  | 28 => .array .int
  | 29 => .array .int
  | 30 => .array .int
  | 31 => .array .int
  | 32 => .array .int
  | 33 => .array .int
  | 34 => .array .int
  | 35 => .array .int
  | 36 => .array .int
  | _ => .int
theorem nmX11 : ∀ a, a < 38 → ∀ b, b < 38 → a ≠ b → (TX11 a).2.1 ≠ (TX11 b).2.1 := by decide +kernel
theorem tyX11_ok : ∀ k, k < 38 → parseFieldDescriptor (TX11 k).2.2.1 = some (tyX11 k) := by decide +kernel
theorem pm_in10 : GoodIn lw_tbl (u_ws RX11 TX11 38) := goodIn_r _ [1059, 1061, 1063, 1065, 1067, 1069, 1071, 1073, 1075, 1077, 1079, 1081, 1083, 1085, 1087, 1089, 1091, 1093, 1095, 1097, 1099, 1101, 1103, 1105, 1107, 1109, 1111, 1113, 1115, 1117, 1119, 1121, 1123, 1125, 1127, 1129, 1131, 1133] (by decide +kernel) (by decide +kernel)
def pm_cl : List vw_C := [(RX0, TX0, 10), (RX2, TX2, 2), (RX3, TX3, 8), (RX4, TX4, 2), (RX5, TX5, 3), (RX6, TX6, 5), (RX7, TX7, 6), (RX8, TX8, 2), (RX9, TX9, 4), (RX10, TX10, 13), (RX11, TX11, 38)]
def pm_fty (ci : Nat) : Nat → FieldType := match ci with
  | 0 => tyX0
  | 1 => tyX2
  | 2 => tyX3
  | 3 => tyX4
  | 4 => tyX5
  | 5 => tyX6
  | 6 => tyX7
  | 7 => tyX8
  | 8 => tyX9
  | 9 => tyX10
  | _ => tyX11
end
section
/-! ===== THE PLAIN MACHINE: a method's rows run over a plain heap (a list of kinds, numbers, references as cell numbers); what it comes to, the Java machine comes to (part 05) ===== -/
abbrev pm_V : Type := Int32 ⊕ Nat
abbrev pm_K : Type := Nat × Nat × Nat
abbrev pm_S : Type := List pm_K
abbrev pm_A : Type := Nat → Nat → Nat
abbrev pm_B : Type := Nat → Nat → Int32
abbrev pm_L : Type := List (Option pm_V)
abbrev pm_I : Type := Instr × Nat × Nat × Nat × Int32 × List (Int32 × Nat)
abbrev pm_O : Type := Option (Option pm_V × pm_S × pm_A × pm_B)
abbrev pm_P : Type := Option pm_V → pm_S → pm_A → pm_B → Prop
abbrev pm_T : Type := List (List (Nat × pm_I))
def pm_u {α : Type} (f : Nat → Nat → α) (q j : Nat) (v : α) : Nat → Nat → α := fun a b => if a = q ∧ b = j then v else f a b
def pm_z {α : Type} (f : Nat → Nat → α) (q : Nat) (v : α) : Nat → Nat → α := fun a b => if a = q then v else f a b
def pm_cp (f : pm_B) (q sp d dp n : Nat) : pm_B := fun a b => if a = d ∧ dp ≤ b ∧ b < dp + n then f q (sp + (b - dp)) else f a b
/-- a row of a table -/
def pm_at (t : pm_T) (pc : Nat) : Option pm_I := (t.getD (pc / 32) []).lookup pc
def pm_sw (x : Int32) (d : Nat) : List (Int32 × Nat) → Nat
  | [] => d
  | (k, t) :: l => if x = k then t else pm_sw x d l
def pm_cd (cd : ClassFile.Cond) (x y : Int32) : Prop := match cd with
  | .eq => x = y
  | .ne => ¬ x = y
  | .lt => x < y
  | .ge => y ≤ x
  | .gt => y < x
  | .le => x ≤ y
def pm_cb (cd : ClassFile.Cond) (x y : Int32) : Bool := match cd with
  | .eq => decide (x = y)
  | .ne => decide (¬ x = y)
  | .lt => decide (x < y)
  | .ge => decide (y ≤ x)
  | .gt => decide (y < x)
  | .le => decide (x ≤ y)
theorem pm_cb_iff (cd : ClassFile.Cond) (x y : Int32) : pm_cb cd x y = true ↔ pm_cd cd x y := by
  cases cd <;> simp [pm_cb, pm_cd]
/-- a place of an array of kind ti that can be read; that can be written -/
def pm_ao (sh : pm_S) (q ti : Nat) (i : Int32) : Prop := ∃ t n, sh[q]? = some (t + 1, ti, n) ∧ ¬ i < 0 ∧ i.toNatClampNeg < n
def pm_aw (sh : pm_S) (q ti : Nat) (i : Int32) : Prop := ∃ n, sh[q]? = some (1, ti, n) ∧ ¬ i < 0 ∧ i.toNatClampNeg < n
def pm_aob (sh : pm_S) (q ti : Nat) (i : Int32) : Bool := match sh[q]? with
  | some (_ + 1, tj, n) => tj == ti && !decide (i < 0) && Nat.blt i.toNatClampNeg n
  | _ => false
def pm_awb (sh : pm_S) (q ti : Nat) (i : Int32) : Bool := match sh[q]? with
  | some (1, tj, n) => tj == ti && !decide (i < 0) && Nat.blt i.toNatClampNeg n
  | _ => false
theorem pm_aob_iff {sh : pm_S} {q ti : Nat} {i : Int32} : pm_aob sh q ti i = true ↔ pm_ao sh q ti i := by
  unfold pm_aob pm_ao
  constructor
  · intro h
    split at h
    · rename_i t tj n he
      simp only [Bool.and_eq_true, beq_iff_eq, Bool.not_eq_true', decide_eq_false_iff_not, Nat.blt_eq] at h
      exact ⟨t, n, by rw [he, h.1.1], h.1.2, h.2⟩
    · cases h
  · rintro ⟨t, n, he, h1, h2⟩
    simp [he, h1, h2]
theorem pm_awb_iff {sh : pm_S} {q ti : Nat} {i : Int32} : pm_awb sh q ti i = true ↔ pm_aw sh q ti i := by
  unfold pm_awb pm_aw
  constructor
  · intro h
    split at h
    · rename_i tj n he
      simp only [Bool.and_eq_true, beq_iff_eq, Bool.not_eq_true', decide_eq_false_iff_not, Nat.blt_eq] at h
      exact ⟨n, by rw [he, h.1.1], h.1.2, h.2⟩
    · cases h
  · rintro ⟨n, he, h1, h2⟩
    simp [he, h1, h2]
/-- which numbers a place of a type may hold: 0 int, 1 byte, 2 char, 3 boolean -/
def pm_fit (t : Nat) (x : Int32) : Prop := match t with
  | 0 => True
  | 1 => x.toInt8.toInt32 = x
  | 2 => (x.toUInt32 % 65536).toInt32 = x
  | _ => x = 0 ∨ x = 1
def pm_fib (t : Nat) (x : Int32) : Bool := match t with
  | 0 => true
  | 1 => decide (x.toInt8.toInt32 = x)
  | 2 => decide ((x.toUInt32 % 65536).toInt32 = x)
  | _ => decide (x = 0 ∨ x = 1)
theorem pm_fib_iff {t : Nat} {x : Int32} : pm_fib t x = true ↔ pm_fit t x := by
  unfold pm_fib pm_fit
  split <;> simp
/-- an array of kind ti, its length n -/
def pm_len (sh : pm_S) (q n : Nat) : Prop := ∃ t ti, sh[q]? = some (t + 1, ti, n)
def pm_rcv (sh : pm_S) (ci : Nat) : List pm_V → Bool
  | .inr q :: _ => decide (sh[q]? = some (0, ci, 0))
  | _ => false
def pm_cpy (sh : pm_S) (q d : Nat) (sp dp n : Int32) : Prop := ∃ m1 m2, sh[q]? = some (1, 0, m1) ∧ sh[d]? = some (1, 0, m2) ∧ ¬ sp < 0 ∧ ¬ dp < 0 ∧ ¬ n < 0 ∧ sp.toNatClampNeg + n.toNatClampNeg ≤ m1 ∧ dp.toNatClampNeg + n.toNatClampNeg ≤ m2
def pm_cpb (sh : pm_S) (q d : Nat) (sp dp n : Int32) : Bool := match sh[q]?, sh[d]? with
  | some (1, 0, m1), some (1, 0, m2) => decide (¬ sp < 0 ∧ ¬ dp < 0 ∧ ¬ n < 0 ∧ sp.toNatClampNeg + n.toNatClampNeg ≤ m1 ∧ dp.toNatClampNeg + n.toNatClampNeg ≤ m2)
  | _, _ => false
theorem pm_cpb_iff {sh : pm_S} {q d : Nat} {sp dp n : Int32} : pm_cpb sh q d sp dp n = true ↔ pm_cpy sh q d sp dp n := by
  unfold pm_cpb pm_cpy
  constructor
  · intro h
    split at h
    · rename_i m1 m2 h1 h2
      exact ⟨m1, m2, h1, h2, of_decide_eq_true h⟩
    · cases h
  · rintro ⟨m1, m2, h1, h2, h⟩
    simp only [h1, h2]
    exact decide_eq_true h
/-- one row: k goes on, call calls -/
def pm_step (call : Nat → List pm_V → pm_S → pm_A → pm_B → pm_O) (k : Nat → pm_L → List pm_V → pm_S → pm_A → pm_B → pm_O) (r : pm_I) (pc : Nat) (ls : pm_L) (st : List pm_V) (sh : pm_S) (hr : pm_A) (hi : pm_B) : pm_O :=
  match r with
  | (op, len, a, b, c, sw) => match op, st with
    | .iload j, st => (match ls[j]? with | some (some (.inl x)) => k (pc + len) ls (.inl x :: st) sh hr hi | _ => none)
    | .aload j, st => (match ls[j]? with | some (some (.inr x)) => k (pc + len) ls (.inr x :: st) sh hr hi | _ => none)
    | .istore j, .inl x :: st => if j < ls.length then k (pc + len) (ls.set j (some (.inl x))) st sh hr hi else none
    | .astore j, .inr x :: st => if j < ls.length then k (pc + len) (ls.set j (some (.inr x))) st sh hr hi else none
    | .iinc j _, st => (match ls[j]? with | some (some (.inl x)) => k (pc + len) (ls.set j (some (.inl (x + c)))) st sh hr hi | _ => none)
    | .ldc _, st => k (pc + len) ls (.inl c :: st) sh hr hi
    | .ldc_w _, st => k (pc + len) ls (.inr a :: st) sh hr hi
    | .dup, v :: st => k (pc + len) ls (v :: v :: st) sh hr hi
    | .dup2, v :: w :: st => k (pc + len) ls (v :: w :: v :: w :: st) sh hr hi
    | .pop, v :: st => k (pc + len) ls st sh hr hi
    | .iadd, .inl y :: .inl x :: st => k (pc + len) ls (.inl (x + y) :: st) sh hr hi
    | .isub, .inl y :: .inl x :: st => k (pc + len) ls (.inl (x - y) :: st) sh hr hi
    | .imul, .inl y :: .inl x :: st => k (pc + len) ls (.inl (x * y) :: st) sh hr hi
    | .iand, .inl y :: .inl x :: st => k (pc + len) ls (.inl (x &&& y) :: st) sh hr hi
    | .ior, .inl y :: .inl x :: st => k (pc + len) ls (.inl (x ||| y) :: st) sh hr hi
    | .ixor, .inl y :: .inl x :: st => k (pc + len) ls (.inl (x ^^^ y) :: st) sh hr hi
    | .idiv, .inl y :: .inl x :: st => if y = 0 then none else k (pc + len) ls (.inl (x / y) :: st) sh hr hi
    | .irem, .inl y :: .inl x :: st => if y = 0 then none else k (pc + len) ls (.inl (x - x / y * y) :: st) sh hr hi
    | .ineg, .inl x :: st => k (pc + len) ls (.inl (-x) :: st) sh hr hi
    | .ishl, .inl y :: .inl x :: st => k (pc + len) ls (.inl (x <<< (y &&& 31)) :: st) sh hr hi
    | .ishr, .inl y :: .inl x :: st => k (pc + len) ls (.inl (x >>> (y &&& 31)) :: st) sh hr hi
    | .iushr, .inl y :: .inl x :: st => k (pc + len) ls (.inl ((x.toUInt32 >>> (y.toUInt32 &&& Int32.toUInt32 31)).toInt32) :: st) sh hr hi
    | .i2s, .inl x :: st => k (pc + len) ls (.inl x.toInt16.toInt32 :: st) sh hr hi
    | .i2b, .inl x :: st => k (pc + len) ls (.inl x.toInt8.toInt32 :: st) sh hr hi
    | .i2c, .inl x :: st => k (pc + len) ls (.inl (x.toUInt32 % 65536).toInt32 :: st) sh hr hi
    | .ifCond cd _, .inl x :: st => if pm_cb cd x 0 then k a ls st sh hr hi else k (pc + len) ls st sh hr hi
    | .if_icmp cd _, .inl y :: .inl x :: st => if pm_cb cd x y then k a ls st sh hr hi else k (pc + len) ls st sh hr hi
    | .goto _, st => k a ls st sh hr hi
    | .lookupswitch _ _, .inl x :: st => k (pm_sw x a sw) ls st sh hr hi
    | .getfield 0, .inr q :: st => if sh[q]? = some (0, a, 0) then k (pc + len) ls (.inl (hi q b) :: st) sh hr hi else none
    | .getfield 1, .inr q :: st => if sh[q]? = some (0, a, 0) then k (pc + len) ls (.inr (hr q b) :: st) sh hr hi else none
    | .getfield _, .inr q :: st => if sh[q]? = some (0, a, 0) then k (pc + len) ls (.inr (hi q b).toNatClampNeg :: st) sh hr hi else none
    | .putfield 0, .inl v :: .inr q :: st => if sh[q]? = some (0, a, 0) ∧ pm_fib c.toNatClampNeg v = true then k (pc + len) ls st sh hr (pm_u hi q b v) else none
    | .putfield 1, .inr v :: .inr q :: st => if sh[q]? = some (0, a, 0) then k (pc + len) ls st sh (pm_u hr q b v) hi else none
    | .putfield 2, .inr v :: .inr q :: st => if sh[q]? = some (0, a, 0) ∧ v < 2147483648 then k (pc + len) ls st sh hr (pm_u hi q b (nI v)) else none
    | .iaload, .inl i :: .inr q :: st => if pm_aob sh q a i then k (pc + len) ls (.inl (hi q i.toNatClampNeg) :: st) sh hr hi else none
    | .aaload, .inl i :: .inr q :: st => if pm_aob sh q a i then k (pc + len) ls (.inr (hr q i.toNatClampNeg) :: st) sh hr hi else none
    | .iastore, .inl v :: .inl i :: .inr q :: st => if pm_awb sh q a i = true ∧ pm_fib a v = true then k (pc + len) ls st sh hr (pm_u hi q i.toNatClampNeg v) else none
    | .aastore, .inr v :: .inl i :: .inr q :: st => if pm_awb sh q a i = true ∧ sh[v]? = some (0, b, 0) then k (pc + len) ls st sh (pm_u hr q i.toNatClampNeg v) hi else none
    | .arraylength, .inr q :: st => (match sh[q]? with | some (_ + 1, _, n) => k (pc + len) ls (.inl (nI n) :: st) sh hr hi | _ => none)
    | .newarray _, .inl n :: st => if n < 0 ∨ 100000 ≤ n.toNatClampNeg then none else k (pc + len) ls (.inr sh.length :: st) (sh ++ [(1, a, n.toNatClampNeg)]) (pm_z hr sh.length 0) (pm_z hi sh.length 0)
    | .new _, st => k (pc + len) ls (.inr sh.length :: st) (sh ++ [(0, a, 0)]) (pm_z hr sh.length 0) (pm_z hi sh.length 0)
    | .invokestatic _, st => if b ≤ st.length ∧ (st.drop b).length ≤ 8 ∧ (sw.all fun z => pm_rcv sh z.2 (st.take b).reverse) = true then (match call a (st.take b).reverse sh hr hi with
        | none => none
        | some (v, sh', hr', hi') => k (pc + len) ls (v.toList ++ st.drop b) sh' hr' hi') else none
    | .swap, .inl n :: .inl dp :: .inr d :: .inl sp :: .inr q :: st => if pm_cpb sh q d sp dp n = true ∧ st.length ≤ 8 then k (pc + len) ls st sh hr (pm_cp hi q sp.toNatClampNeg d dp.toNatClampNeg n.toNatClampNeg) else none
    | .ireturn, [.inl v] => if pm_fib a v then some (some (.inl v), sh, hr, hi) else none
    | .areturn, [.inr v] => some (some (.inr v), sh, hr, hi)
    | .return_, [] => some (none, sh, hr, hi)
    | .ladd, .inl y :: .inl x :: st => if st.length ≤ 8 then k (pc + len) ls (.inl (if x < y then y else x) :: st) sh hr hi else none
    | .lsub, .inl y :: .inl x :: st => if st.length ≤ 8 then k (pc + len) ls (.inl (if y < x then y else x) :: st) sh hr hi else none
    | .nop, .inr q :: st => if sh[q]? = some (0, b, 0) ∧ st.length ≤ 8 then k (pc + len) ls st sh hr hi else none
    | _, _ => none
def pm_exec (call : Nat → List pm_V → pm_S → pm_A → pm_B → pm_O) (t : pm_T) : Nat → Nat → pm_L → List pm_V → pm_S → pm_A → pm_B → pm_O
  | 0, _, _, _, _, _, _ => none
  | n + 1, pc, ls, st, sh, hr, hi => match pm_at t pc with
    | none => none
    | some r => pm_step call (pm_exec call t n) r pc ls st sh hr hi
/-- a method's locals at its entry -/
def pm_ent (maxL : Nat) (args : List pm_V) : pm_L := args.map some ++ List.replicate (maxL - args.length) none
/-- a program: method number to its most locals and its rows -/
abbrev pm_G : Type := Nat → Option (Nat × pm_T)
def pm_call (G : pm_G) (N : Nat) : Nat → Nat → List pm_V → pm_S → pm_A → pm_B → pm_O
  | 0, _, _, _, _, _ => none
  | d + 1, m, args, sh, hr, hi => match G m with
    | none => none
    | some (maxL, t) => if args.length ≤ maxL then pm_exec (pm_call G N d) t N 0 (pm_ent maxL args) [] sh hr hi else none
end
section
/-! printed by program (wip/whole/gen.py): the methods as rows of the plain machine -/
/-- Folk_init -/
def pm_t0 : pm_T := [[(0, (.aload 0, 1, 0, 0, 0, [])), (1, (.nop, 3, 139, 0, 0, [])), (4, (.aload 0, 1, 0, 0, 0, [])), (5, (.aload 1, 1, 0, 0, 0, [])), (6, (.putfield 1, 3, 0, 0, 0, [(0, 183)])), (9, (.aload 0, 1, 0, 0, 0, [])), (10, (.ldc 0, 2, 0, 0, 8, [])), (12, (.newarray .int, 3, 4, 140, 0, [])), (15, (.putfield 1, 3, 0, 1, 0, [(0, 184)])), (18, (.ldc 0, 1, 0, 0, 0, [])), (19, (.istore 2, 1, 0, 0, 0, [])), (20, (.iload 2, 1, 0, 0, 0, [])), (21, (.aload 0, 1, 0, 0, 0, [])), (22, (.getfield 1, 3, 0, 1, 0, [(0, 184)])), (25, (.arraylength, 1, 0, 0, 0, [])), (26, (.if_icmp .ge 0, 3, 48, 0, 0, [])), (29, (.aload 0, 1, 0, 0, 0, [])), (30, (.getfield 1, 3, 0, 1, 0, [(0, 184)]))],
  [(33, (.iload 2, 1, 0, 0, 0, [])), (34, (.new 0, 3, 6, 140, 0, [])), (37, (.dup, 1, 0, 0, 0, [])), (38, (.invokestatic 0, 3, 60, 1, 143, [(0, 6)])), (41, (.aastore, 1, 4, 6, 0, [])), (42, (.iinc 2 0, 3, 0, 0, 1, [])), (45, (.goto 0, 3, 20, 0, 0, [])), (48, (.aload 0, 1, 0, 0, 0, [])), (49, (.ldc 0, 2, 0, 0, 50, [])), (51, (.putfield 0, 3, 0, 3, 0, [(0, 188)])), (54, (.aload 0, 1, 0, 0, 0, [])), (55, (.ldc 0, 1, 0, 0, 1, [])), (56, (.putfield 0, 3, 0, 7, 0, [(0, 196)])), (59, (.aload 0, 1, 0, 0, 0, [])), (60, (.ldc 0, 1, 0, 0, 3, [])), (61, (.newarray .int, 2, 0, 125, 0, [])), (63, (.putfield 1, 3, 0, 9, 0, [(0, 200)]))],
  [(66, (.ldc 0, 1, 0, 0, 0, [])), (67, (.istore 2, 1, 0, 0, 0, [])), (68, (.iload 2, 1, 0, 0, 0, [])), (69, (.aload 0, 1, 0, 0, 0, [])), (70, (.getfield 1, 3, 0, 9, 0, [(0, 200)])), (73, (.arraylength, 1, 0, 0, 0, [])), (74, (.if_icmp .ge 0, 3, 91, 0, 0, [])), (77, (.aload 0, 1, 0, 0, 0, [])), (78, (.getfield 1, 3, 0, 9, 0, [(0, 200)])), (81, (.iload 2, 1, 0, 0, 0, [])), (82, (.ldc 0, 2, 182, 0, (-1000000005), [])), (84, (.iastore, 1, 0, 0, 0, [])), (85, (.iinc 2 0, 3, 0, 0, 1, [])), (88, (.goto 0, 3, 68, 0, 0, [])), (91, (.return_, 1, 0, 0, 0, []))]]
abbrev m_Folk_init : Nat := 0
/-- Folk_become -/
def pm_t1 : pm_T := [[(0, (.aload 0, 1, 0, 0, 0, [])), (1, (.aload 1, 1, 0, 0, 0, [])), (2, (.getfield 0, 3, 0, 2, 0, [(0, 186)])), (5, (.putfield 0, 3, 0, 2, 0, [(0, 186)])), (8, (.ldc 0, 1, 0, 0, 0, [])), (9, (.istore 2, 1, 0, 0, 0, [])), (10, (.iload 2, 1, 0, 0, 0, [])), (11, (.aload 0, 1, 0, 0, 0, [])), (12, (.getfield 0, 3, 0, 2, 0, [(0, 186)])), (15, (.if_icmp .ge 0, 3, 48, 0, 0, [])), (18, (.iload 2, 1, 0, 0, 0, [])), (19, (.aload 0, 1, 0, 0, 0, [])), (20, (.getfield 1, 3, 0, 1, 0, [(0, 184)])), (23, (.arraylength, 1, 0, 0, 0, [])), (24, (.if_icmp .ge 0, 3, 48, 0, 0, [])), (27, (.aload 0, 1, 0, 0, 0, [])), (28, (.getfield 1, 3, 0, 1, 0, [(0, 184)])), (31, (.iload 2, 1, 0, 0, 0, []))],
  [(32, (.aaload, 1, 4, 0, 0, [])), (33, (.aload 1, 1, 0, 0, 0, [])), (34, (.getfield 1, 3, 0, 1, 0, [(0, 184)])), (37, (.iload 2, 1, 0, 0, 0, [])), (38, (.aaload, 1, 4, 0, 0, [])), (39, (.invokestatic 0, 3, 62, 2, 645, [(0, 6)])), (42, (.iinc 2 0, 3, 0, 0, 1, [])), (45, (.goto 0, 3, 10, 0, 0, [])), (48, (.aload 0, 1, 0, 0, 0, [])), (49, (.aload 1, 1, 0, 0, 0, [])), (50, (.getfield 0, 3, 0, 3, 0, [(0, 188)])), (53, (.putfield 0, 3, 0, 3, 0, [(0, 188)])), (56, (.aload 0, 1, 0, 0, 0, [])), (57, (.aload 1, 1, 0, 0, 0, [])), (58, (.getfield 0, 3, 0, 4, 0, [(0, 190)])), (61, (.putfield 0, 3, 0, 4, 0, [(0, 190)]))],
  [(64, (.aload 0, 1, 0, 0, 0, [])), (65, (.aload 1, 1, 0, 0, 0, [])), (66, (.getfield 0, 3, 0, 5, 0, [(0, 192)])), (69, (.putfield 0, 3, 0, 5, 0, [(0, 192)])), (72, (.aload 0, 1, 0, 0, 0, [])), (73, (.aload 1, 1, 0, 0, 0, [])), (74, (.getfield 0, 3, 0, 6, 0, [(0, 194)])), (77, (.putfield 0, 3, 0, 6, 0, [(0, 194)])), (80, (.aload 0, 1, 0, 0, 0, [])), (81, (.aload 1, 1, 0, 0, 0, [])), (82, (.getfield 0, 3, 0, 7, 0, [(0, 196)])), (85, (.putfield 0, 3, 0, 7, 0, [(0, 196)])), (88, (.aload 0, 1, 0, 0, 0, [])), (89, (.aload 1, 1, 0, 0, 0, [])), (90, (.getfield 0, 3, 0, 8, 0, [(0, 198)])), (93, (.putfield 0, 3, 0, 8, 0, [(0, 198)]))],
  [(96, (.ldc 0, 1, 0, 0, 0, [])), (97, (.istore 2, 1, 0, 0, 0, [])), (98, (.iload 2, 1, 0, 0, 0, [])), (99, (.aload 0, 1, 0, 0, 0, [])), (100, (.getfield 1, 3, 0, 9, 0, [(0, 200)])), (103, (.arraylength, 1, 0, 0, 0, [])), (104, (.if_icmp .ge 0, 3, 125, 0, 0, [])), (107, (.aload 0, 1, 0, 0, 0, [])), (108, (.getfield 1, 3, 0, 9, 0, [(0, 200)])), (111, (.iload 2, 1, 0, 0, 0, [])), (112, (.aload 1, 1, 0, 0, 0, [])), (113, (.getfield 1, 3, 0, 9, 0, [(0, 200)])), (116, (.iload 2, 1, 0, 0, 0, [])), (117, (.iaload, 1, 0, 0, 0, [])), (118, (.iastore, 1, 0, 0, 0, [])), (119, (.iinc 2 0, 3, 0, 0, 1, [])), (122, (.goto 0, 3, 98, 0, 0, [])), (125, (.return_, 1, 0, 0, 0, []))]]
abbrev m_Folk_become : Nat := 1
/-- Folk_hasSpeaker -/
def pm_t2 : pm_T := [[(0, (.iload 1, 1, 0, 0, 0, [])), (1, (.ifCond .lt 0, 3, 25, 0, 0, [])), (4, (.iload 1, 1, 0, 0, 0, [])), (5, (.aload 0, 1, 0, 0, 0, [])), (6, (.getfield 0, 3, 0, 2, 0, [(0, 186)])), (9, (.if_icmp .ge 0, 3, 25, 0, 0, [])), (12, (.iload 1, 1, 0, 0, 0, [])), (13, (.aload 0, 1, 0, 0, 0, [])), (14, (.getfield 1, 3, 0, 1, 0, [(0, 184)])), (17, (.arraylength, 1, 0, 0, 0, [])), (18, (.if_icmp .ge 0, 3, 25, 0, 0, [])), (21, (.ldc 0, 1, 0, 0, 1, [])), (22, (.goto 0, 3, 26, 0, 0, [])), (25, (.ldc 0, 1, 0, 0, 0, [])), (26, (.ireturn, 1, 3, 0, 0, []))]]
abbrev m_Folk_hasSpeaker : Nat := 2
/-- Folk_hasRoom -/
def pm_t3 : pm_T := [[(0, (.aload 0, 1, 0, 0, 0, [])), (1, (.getfield 0, 3, 0, 2, 0, [(0, 186)])), (4, (.ifCond .lt 0, 3, 23, 0, 0, [])), (7, (.aload 0, 1, 0, 0, 0, [])), (8, (.getfield 0, 3, 0, 2, 0, [(0, 186)])), (11, (.aload 0, 1, 0, 0, 0, [])), (12, (.getfield 1, 3, 0, 1, 0, [(0, 184)])), (15, (.arraylength, 1, 0, 0, 0, [])), (16, (.if_icmp .ge 0, 3, 23, 0, 0, [])), (19, (.ldc 0, 1, 0, 0, 1, [])), (20, (.goto 0, 3, 24, 0, 0, [])), (23, (.ldc 0, 1, 0, 0, 0, [])), (24, (.ireturn, 1, 3, 0, 0, []))]]
abbrev m_Folk_hasRoom : Nat := 3
/-- Folk_enter -/
def pm_t4 : pm_T := [[(0, (.aload 0, 1, 0, 0, 0, [])), (1, (.invokestatic 1, 3, 3, 1, 395, [(0, 0)])), (4, (.ifCond .ne 0, 3, 8, 0, 0, [])), (7, (.return_, 1, 0, 0, 0, [])), (8, (.aload 0, 1, 0, 0, 0, [])), (9, (.getfield 1, 3, 0, 1, 0, [(0, 184)])), (12, (.aload 0, 1, 0, 0, 0, [])), (13, (.getfield 0, 3, 0, 2, 0, [(0, 186)])), (16, (.aaload, 1, 4, 0, 0, [])), (17, (.iload 1, 1, 0, 0, 0, [])), (18, (.iload 2, 1, 0, 0, 0, [])), (19, (.iload 3, 1, 0, 0, 0, [])), (20, (.invokestatic 0, 3, 61, 4, 396, [(0, 6)])), (23, (.aload 0, 1, 0, 0, 0, [])), (24, (.dup, 1, 0, 0, 0, [])), (25, (.getfield 0, 3, 0, 2, 0, [(0, 186)])), (28, (.ldc 0, 1, 0, 0, 1, [])), (29, (.iadd, 1, 0, 0, 0, [])), (30, (.putfield 0, 3, 0, 2, 0, [(0, 186)]))],
  [(33, (.return_, 1, 0, 0, 0, []))]]
abbrev m_Folk_enter : Nat := 4
/-- Folk_enterByLot -/
def pm_t5 : pm_T := [[(0, (.aload 0, 1, 0, 0, 0, [])), (1, (.ldc 0, 2, 0, 0, 6, [])), (3, (.invokestatic 1, 3, 6, 2, 542, [(0, 0)])), (6, (.istore 1, 1, 0, 0, 0, [])), (7, (.ldc 0, 1, 0, 0, 1, [])), (8, (.aload 0, 1, 0, 0, 0, [])), (9, (.ldc 0, 2, 0, 0, 9, [])), (11, (.invokestatic 1, 3, 6, 2, 542, [(0, 0)])), (14, (.iadd, 1, 0, 0, 0, [])), (15, (.istore 2, 1, 0, 0, 0, [])), (16, (.aload 0, 1, 0, 0, 0, [])), (17, (.ldc 0, 2, 0, 0, 100, [])), (19, (.invokestatic 1, 3, 6, 2, 542, [(0, 0)])), (22, (.istore 3, 1, 0, 0, 0, [])), (23, (.aload 0, 1, 0, 0, 0, [])), (24, (.iload 1, 1, 0, 0, 0, [])), (25, (.iload 2, 1, 0, 0, 0, [])), (26, (.iload 3, 1, 0, 0, 0, [])), (27, (.invokestatic 0, 3, 4, 4, 547, [(0, 0)])), (30, (.return_, 1, 0, 0, 0, []))]]
abbrev m_Folk_enterByLot : Nat := 5
/-- Folk_drawBelow -/
def pm_t6 : pm_T := [[(0, (.aload 0, 1, 0, 0, 0, [])), (1, (.aload 0, 1, 0, 0, 0, [])), (2, (.getfield 0, 3, 0, 7, 0, [(0, 196)])), (5, (.ldc 0, 2, 546, 0, 1103515245, [])), (7, (.imul, 1, 0, 0, 0, [])), (8, (.ldc 0, 3, 0, 0, 12345, [])), (11, (.iadd, 1, 0, 0, 0, [])), (12, (.putfield 0, 3, 0, 7, 0, [(0, 196)])), (15, (.iload 1, 1, 0, 0, 0, [])), (16, (.ifCond .le 0, 3, 31, 0, 0, [])), (19, (.aload 0, 1, 0, 0, 0, [])), (20, (.getfield 0, 3, 0, 7, 0, [(0, 196)])), (23, (.ldc 0, 2, 0, 0, 8, [])), (25, (.iushr, 1, 0, 0, 0, [])), (26, (.iload 1, 1, 0, 0, 0, [])), (27, (.irem, 1, 0, 0, 0, [])), (28, (.goto 0, 3, 32, 0, 0, [])), (31, (.ldc 0, 1, 0, 0, 0, []))],
  [(32, (.ireturn, 1, 0, 0, 0, []))]]
abbrev m_Folk_drawBelow : Nat := 6
/-- Folk_lawOf -/
def pm_t7 : pm_T := [[(0, (.iload 1, 1, 0, 0, 0, [])), (1, (.ifCond .lt 0, 3, 22, 0, 0, [])), (4, (.iload 1, 1, 0, 0, 0, [])), (5, (.aload 0, 1, 0, 0, 0, [])), (6, (.getfield 1, 3, 0, 9, 0, [(0, 200)])), (9, (.arraylength, 1, 0, 0, 0, [])), (10, (.if_icmp .ge 0, 3, 22, 0, 0, [])), (13, (.aload 0, 1, 0, 0, 0, [])), (14, (.getfield 1, 3, 0, 9, 0, [(0, 200)])), (17, (.iload 1, 1, 0, 0, 0, [])), (18, (.iaload, 1, 0, 0, 0, [])), (19, (.goto 0, 3, 24, 0, 0, [])), (22, (.ldc 0, 2, 182, 0, (-1000000005), [])), (24, (.ireturn, 1, 0, 0, 0, []))]]
abbrev m_Folk_lawOf : Nat := 7
/-- Folk_takeLaw -/
def pm_t8 : pm_T := [[(0, (.iload 1, 1, 0, 0, 0, [])), (1, (.ifCond .lt 0, 3, 13, 0, 0, [])), (4, (.iload 1, 1, 0, 0, 0, [])), (5, (.aload 0, 1, 0, 0, 0, [])), (6, (.getfield 1, 3, 0, 9, 0, [(0, 200)])), (9, (.arraylength, 1, 0, 0, 0, [])), (10, (.if_icmp .lt 0, 3, 14, 0, 0, [])), (13, (.return_, 1, 0, 0, 0, [])), (14, (.aload 0, 1, 0, 0, 0, [])), (15, (.getfield 1, 3, 0, 9, 0, [(0, 200)])), (18, (.iload 1, 1, 0, 0, 0, [])), (19, (.aload 0, 1, 0, 0, 0, [])), (20, (.getfield 0, 3, 0, 8, 0, [(0, 198)])), (23, (.iastore, 1, 0, 0, 0, [])), (24, (.aload 0, 1, 0, 0, 0, [])), (25, (.dup, 1, 0, 0, 0, [])), (26, (.getfield 0, 3, 0, 8, 0, [(0, 198)])), (29, (.ldc 0, 1, 0, 0, 1, [])), (30, (.iadd, 1, 0, 0, 0, [])), (31, (.putfield 0, 3, 0, 8, 0, [(0, 198)]))],
  [(34, (.return_, 1, 0, 0, 0, []))]]
abbrev m_Folk_takeLaw : Nat := 8
/-- Folk_keepsOf -/
def pm_t9 : pm_T := [[(0, (.aload 0, 1, 0, 0, 0, [])), (1, (.ldc 0, 1, 0, 0, 0, [])), (2, (.invokestatic 1, 3, 7, 2, 416, [(0, 0)])), (5, (.istore 3, 1, 0, 0, 0, [])), (6, (.iload 3, 1, 0, 0, 0, [])), (7, (.ldc 0, 2, 182, 0, (-1000000005), [])), (9, (.if_icmp .ne 0, 3, 17, 0, 0, [])), (12, (.ldc 0, 2, 0, 0, 12, [])), (14, (.goto 0, 3, 34, 0, 0, [])), (17, (.aload 0, 1, 0, 0, 0, [])), (18, (.getfield 1, 3, 0, 0, 0, [(0, 183)])), (21, (.iload 3, 1, 0, 0, 0, [])), (22, (.aload 1, 1, 0, 0, 0, [])), (23, (.getfield 0, 3, 6, 1, 0, [(0, 154)])), (26, (.aload 1, 1, 0, 0, 0, [])), (27, (.getfield 0, 3, 6, 2, 0, [(0, 158)])), (30, (.iload 2, 1, 0, 0, 0, [])), (31, (.invokestatic 1, 3, 23, 5, 420, [(0, 1)]))],
  [(34, (.istore 4, 2, 0, 0, 0, [])), (36, (.aload 1, 1, 0, 0, 0, [])), (37, (.getfield 0, 3, 6, 0, 0, [(0, 151)])), (40, (.iload 4, 2, 0, 0, 0, [])), (42, (.ldc 0, 1, 0, 0, 0, [])), (43, (.ldc 0, 2, 0, 0, 12, [])), (45, (.invokestatic 1, 3, 128, 3, 433, [])), (48, (.invokestatic 1, 3, 18, 2, 442, [])), (51, (.ireturn, 1, 0, 0, 0, []))]]
abbrev m_Folk_keepsOf : Nat := 9
/-- Folk_hears -/
def pm_t10 : pm_T := [[(0, (.aload 1, 1, 0, 0, 0, [])), (1, (.aload 2, 1, 0, 0, 0, [])), (2, (.iload 3, 1, 0, 0, 0, [])), (3, (.iload 4, 2, 0, 0, 0, [])), (5, (.aload 1, 1, 0, 0, 0, [])), (6, (.getfield 0, 3, 6, 0, 0, [(0, 151)])), (9, (.aload 1, 1, 0, 0, 0, [])), (10, (.getfield 0, 3, 6, 1, 0, [(0, 154)])), (13, (.invokestatic 1, 3, 19, 2, 503, [])), (16, (.lsub, 3, 504, 0, 0, [])), (19, (.invokestatic 0, 3, 65, 4, 505, [(0, 6)])), (22, (.aload 1, 1, 0, 0, 0, [])), (23, (.getfield 0, 3, 6, 4, 0, [(0, 165)])), (26, (.istore 5, 2, 0, 0, 0, [])), (28, (.ldc 0, 1, 0, 0, 0, [])), (29, (.istore 6, 2, 0, 0, 0, [])), (31, (.iload 6, 2, 0, 0, 0, []))],
  [(33, (.aload 1, 1, 0, 0, 0, [])), (34, (.getfield 1, 3, 6, 5, 0, [(0, 167)])), (37, (.arraylength, 1, 0, 0, 0, [])), (38, (.if_icmp .ge 0, 3, 62, 0, 0, [])), (41, (.iload 5, 2, 0, 0, 0, [])), (43, (.aload 0, 1, 0, 0, 0, [])), (44, (.aload 1, 1, 0, 0, 0, [])), (45, (.iload 5, 2, 0, 0, 0, [])), (47, (.invokestatic 1, 3, 9, 3, 509, [(0, 0)])), (50, (.if_icmp .le 0, 3, 62, 0, 0, [])), (53, (.iinc 5 0, 3, 0, 0, (-1), [])), (56, (.iinc 6 0, 3, 0, 0, 1, [])), (59, (.goto 0, 3, 31, 0, 0, [])), (62, (.aload 0, 1, 0, 0, 0, [])), (63, (.dup, 1, 0, 0, 0, []))],
  [(64, (.getfield 0, 3, 0, 5, 0, [(0, 192)])), (67, (.aload 1, 1, 0, 0, 0, [])), (68, (.getfield 0, 3, 6, 4, 0, [(0, 165)])), (71, (.iload 5, 2, 0, 0, 0, [])), (73, (.isub, 1, 0, 0, 0, [])), (74, (.iadd, 1, 0, 0, 0, [])), (75, (.putfield 0, 3, 0, 5, 0, [(0, 192)])), (78, (.aload 1, 1, 0, 0, 0, [])), (79, (.aload 1, 1, 0, 0, 0, [])), (80, (.getfield 0, 3, 6, 4, 0, [(0, 165)])), (83, (.iload 5, 2, 0, 0, 0, [])), (85, (.isub, 1, 0, 0, 0, [])), (86, (.invokestatic 0, 3, 66, 2, 510, [(0, 6)])), (89, (.return_, 1, 0, 0, 0, []))]]
abbrev m_Folk_hears : Nat := 10
/-- Folk_speakTo -/
def pm_t11 : pm_T := [[(0, (.aload 1, 1, 0, 0, 0, [])), (1, (.getfield 0, 3, 6, 0, 0, [(0, 151)])), (4, (.invokestatic 1, 3, 20, 1, 523, [])), (7, (.aload 1, 1, 0, 0, 0, [])), (8, (.getfield 0, 3, 6, 4, 0, [(0, 165)])), (11, (.iload 3, 1, 0, 0, 0, [])), (12, (.isub, 1, 0, 0, 0, [])), (13, (.lsub, 3, 504, 0, 0, [])), (16, (.istore 4, 2, 0, 0, 0, [])), (18, (.aload 0, 1, 0, 0, 0, [])), (19, (.aload 2, 1, 0, 0, 0, [])), (20, (.aload 1, 1, 0, 0, 0, [])), (21, (.getfield 1, 3, 6, 5, 0, [(0, 167)])), (24, (.iload 3, 1, 0, 0, 0, [])), (25, (.iload 4, 2, 0, 0, 0, [])), (27, (.invokestatic 0, 3, 10, 5, 524, [(0, 0)])), (30, (.aload 1, 1, 0, 0, 0, [])), (31, (.dup, 1, 0, 0, 0, []))],
  [(32, (.getfield 0, 3, 6, 3, 0, [(0, 161)])), (35, (.iload 4, 2, 0, 0, 0, [])), (37, (.iadd, 1, 0, 0, 0, [])), (38, (.putfield 0, 3, 6, 3, 0, [(0, 161)])), (41, (.aload 0, 1, 0, 0, 0, [])), (42, (.dup, 1, 0, 0, 0, [])), (43, (.getfield 0, 3, 0, 4, 0, [(0, 190)])), (46, (.ldc 0, 1, 0, 0, 1, [])), (47, (.iadd, 1, 0, 0, 0, [])), (48, (.putfield 0, 3, 0, 4, 0, [(0, 190)])), (51, (.iload 4, 2, 0, 0, 0, [])), (53, (.ireturn, 1, 0, 0, 0, []))]]
abbrev m_Folk_speakTo : Nat := 11
/-- Folk_passDay -/
def pm_t12 : pm_T := [[(0, (.aload 0, 1, 0, 0, 0, [])), (1, (.ldc 0, 2, 0, 0, 100, [])), (3, (.invokestatic 1, 3, 6, 2, 542, [(0, 0)])), (6, (.aload 0, 1, 0, 0, 0, [])), (7, (.getfield 0, 3, 0, 3, 0, [(0, 188)])), (10, (.if_icmp .ge 0, 3, 25, 0, 0, [])), (13, (.aload 0, 1, 0, 0, 0, [])), (14, (.getfield 0, 3, 0, 2, 0, [(0, 186)])), (17, (.ldc 0, 1, 0, 0, 2, [])), (18, (.if_icmp .lt 0, 3, 25, 0, 0, [])), (21, (.ldc 0, 1, 0, 0, 1, [])), (22, (.goto 0, 3, 26, 0, 0, [])), (25, (.ldc 0, 1, 0, 0, 0, [])), (26, (.istore 1, 1, 0, 0, 0, [])), (27, (.aload 0, 1, 0, 0, 0, [])), (28, (.dup, 1, 0, 0, 0, [])), (29, (.getfield 0, 3, 0, 6, 0, [(0, 194)]))],
  [(32, (.ldc 0, 1, 0, 0, 1, [])), (33, (.iadd, 1, 0, 0, 0, [])), (34, (.putfield 0, 3, 0, 6, 0, [(0, 194)])), (37, (.iload 1, 1, 0, 0, 0, [])), (38, (.ifCond .ne 0, 3, 42, 0, 0, [])), (41, (.return_, 1, 0, 0, 0, [])), (42, (.aload 0, 1, 0, 0, 0, [])), (43, (.aload 0, 1, 0, 0, 0, [])), (44, (.getfield 0, 3, 0, 2, 0, [(0, 186)])), (47, (.invokestatic 1, 3, 6, 2, 542, [(0, 0)])), (50, (.istore 2, 1, 0, 0, 0, [])), (51, (.aload 0, 1, 0, 0, 0, [])), (52, (.aload 0, 1, 0, 0, 0, [])), (53, (.getfield 0, 3, 0, 2, 0, [(0, 186)])), (56, (.ldc 0, 1, 0, 0, 1, [])), (57, (.isub, 1, 0, 0, 0, [])), (58, (.invokestatic 1, 3, 6, 2, 542, [(0, 0)])), (61, (.istore 3, 1, 0, 0, 0, [])), (62, (.iload 3, 1, 0, 0, 0, [])), (63, (.iload 2, 1, 0, 0, 0, []))],
  [(64, (.if_icmp .lt 0, 3, 70, 0, 0, [])), (67, (.iinc 3 0, 3, 0, 0, 1, [])), (70, (.aload 0, 1, 0, 0, 0, [])), (71, (.iload 2, 1, 0, 0, 0, [])), (72, (.invokestatic 1, 3, 2, 2, 563, [(0, 0)])), (75, (.ifCond .eq 0, 3, 86, 0, 0, [])), (78, (.aload 0, 1, 0, 0, 0, [])), (79, (.iload 3, 1, 0, 0, 0, [])), (80, (.invokestatic 1, 3, 2, 2, 563, [(0, 0)])), (83, (.ifCond .ne 0, 3, 87, 0, 0, [])), (86, (.return_, 1, 0, 0, 0, [])), (87, (.aload 0, 1, 0, 0, 0, [])), (88, (.getfield 1, 3, 0, 1, 0, [(0, 184)])), (91, (.iload 2, 1, 0, 0, 0, [])), (92, (.aaload, 1, 4, 0, 0, [])), (93, (.astore 4, 2, 0, 0, 0, [])), (95, (.aload 4, 2, 0, 0, 0, []))],
  [(97, (.getfield 0, 3, 6, 4, 0, [(0, 165)])), (100, (.ifCond .le 0, 3, 125, 0, 0, [])), (103, (.aload 0, 1, 0, 0, 0, [])), (104, (.aload 4, 2, 0, 0, 0, [])), (106, (.aload 0, 1, 0, 0, 0, [])), (107, (.getfield 1, 3, 0, 1, 0, [(0, 184)])), (110, (.iload 3, 1, 0, 0, 0, [])), (111, (.aaload, 1, 4, 0, 0, [])), (112, (.aload 0, 1, 0, 0, 0, [])), (113, (.aload 4, 2, 0, 0, 0, [])), (115, (.getfield 0, 3, 6, 4, 0, [(0, 165)])), (118, (.invokestatic 1, 3, 6, 2, 542, [(0, 0)])), (121, (.invokestatic 1, 3, 11, 4, 564, [(0, 0)])), (124, (.pop, 1, 0, 0, 0, [])), (125, (.return_, 1, 0, 0, 0, []))]]
abbrev m_Folk_passDay : Nat := 12
/-- Folk_wordsTogether -/
def pm_t13 : pm_T := [[(0, (.ldc 0, 1, 0, 0, 0, [])), (1, (.istore 1, 1, 0, 0, 0, [])), (2, (.ldc 0, 1, 0, 0, 0, [])), (3, (.istore 2, 1, 0, 0, 0, [])), (4, (.iload 2, 1, 0, 0, 0, [])), (5, (.aload 0, 1, 0, 0, 0, [])), (6, (.getfield 0, 3, 0, 2, 0, [(0, 186)])), (9, (.if_icmp .ge 0, 3, 39, 0, 0, [])), (12, (.iload 2, 1, 0, 0, 0, [])), (13, (.aload 0, 1, 0, 0, 0, [])), (14, (.getfield 1, 3, 0, 1, 0, [(0, 184)])), (17, (.arraylength, 1, 0, 0, 0, [])), (18, (.if_icmp .ge 0, 3, 39, 0, 0, [])), (21, (.iload 1, 1, 0, 0, 0, [])), (22, (.aload 0, 1, 0, 0, 0, [])), (23, (.getfield 1, 3, 0, 1, 0, [(0, 184)])), (26, (.iload 2, 1, 0, 0, 0, [])), (27, (.aaload, 1, 4, 0, 0, [])), (28, (.getfield 0, 3, 6, 4, 0, [(0, 165)])), (31, (.iadd, 1, 0, 0, 0, []))],
  [(32, (.istore 1, 1, 0, 0, 0, [])), (33, (.iinc 2 0, 3, 0, 0, 1, [])), (36, (.goto 0, 3, 4, 0, 0, [])), (39, (.iload 1, 1, 0, 0, 0, [])), (40, (.ireturn, 1, 0, 0, 0, []))]]
abbrev m_Folk_wordsTogether : Nat := 13
/-- Folk_wordsOfSomebody -/
def pm_t14 : pm_T := [[(0, (.ldc 0, 1, 0, 0, 0, [])), (1, (.istore 1, 1, 0, 0, 0, [])), (2, (.ldc 0, 1, 0, 0, 0, [])), (3, (.istore 2, 1, 0, 0, 0, [])), (4, (.iload 2, 1, 0, 0, 0, [])), (5, (.aload 0, 1, 0, 0, 0, [])), (6, (.getfield 0, 3, 0, 2, 0, [(0, 186)])), (9, (.if_icmp .ge 0, 3, 39, 0, 0, [])), (12, (.iload 2, 1, 0, 0, 0, [])), (13, (.aload 0, 1, 0, 0, 0, [])), (14, (.getfield 1, 3, 0, 1, 0, [(0, 184)])), (17, (.arraylength, 1, 0, 0, 0, [])), (18, (.if_icmp .ge 0, 3, 39, 0, 0, [])), (21, (.iload 1, 1, 0, 0, 0, [])), (22, (.aload 0, 1, 0, 0, 0, [])), (23, (.getfield 1, 3, 0, 1, 0, [(0, 184)])), (26, (.iload 2, 1, 0, 0, 0, [])), (27, (.aaload, 1, 4, 0, 0, [])), (28, (.invokestatic 1, 3, 64, 1, 577, [(0, 6)])), (31, (.ior, 1, 0, 0, 0, []))],
  [(32, (.istore 1, 1, 0, 0, 0, [])), (33, (.iinc 2 0, 3, 0, 0, 1, [])), (36, (.goto 0, 3, 4, 0, 0, [])), (39, (.iload 1, 1, 0, 0, 0, [])), (40, (.ireturn, 1, 0, 0, 0, []))]]
abbrev m_Folk_wordsOfSomebody : Nat := 14
/-- Folk_wordsOfAll -/
def pm_t15 : pm_T := [[(0, (.aload 0, 1, 0, 0, 0, [])), (1, (.getfield 0, 3, 0, 2, 0, [(0, 186)])), (4, (.ifCond .ne 0, 3, 9, 0, 0, [])), (7, (.ldc 0, 1, 0, 0, 0, [])), (8, (.ireturn, 1, 0, 0, 0, [])), (9, (.ldc 0, 2, 582, 0, 1048575, [])), (11, (.istore 1, 1, 0, 0, 0, [])), (12, (.ldc 0, 1, 0, 0, 0, [])), (13, (.istore 2, 1, 0, 0, 0, [])), (14, (.iload 2, 1, 0, 0, 0, [])), (15, (.aload 0, 1, 0, 0, 0, [])), (16, (.getfield 0, 3, 0, 2, 0, [(0, 186)])), (19, (.if_icmp .ge 0, 3, 49, 0, 0, [])), (22, (.iload 2, 1, 0, 0, 0, [])), (23, (.aload 0, 1, 0, 0, 0, [])), (24, (.getfield 1, 3, 0, 1, 0, [(0, 184)])), (27, (.arraylength, 1, 0, 0, 0, [])), (28, (.if_icmp .ge 0, 3, 49, 0, 0, [])), (31, (.iload 1, 1, 0, 0, 0, []))],
  [(32, (.aload 0, 1, 0, 0, 0, [])), (33, (.getfield 1, 3, 0, 1, 0, [(0, 184)])), (36, (.iload 2, 1, 0, 0, 0, [])), (37, (.aaload, 1, 4, 0, 0, [])), (38, (.invokestatic 1, 3, 64, 1, 577, [(0, 6)])), (41, (.iand, 1, 0, 0, 0, [])), (42, (.istore 1, 1, 0, 0, 0, [])), (43, (.iinc 2 0, 3, 0, 0, 1, [])), (46, (.goto 0, 3, 14, 0, 0, [])), (49, (.iload 1, 1, 0, 0, 0, [])), (50, (.ireturn, 1, 0, 0, 0, []))]]
abbrev m_Folk_wordsOfAll : Nat := 15
/-- Folk_allButDeafHave -/
def pm_t16 : pm_T := [[(0, (.ldc 0, 1, 0, 0, 0, [])), (1, (.istore 2, 1, 0, 0, 0, [])), (2, (.iload 2, 1, 0, 0, 0, [])), (3, (.aload 0, 1, 0, 0, 0, [])), (4, (.getfield 0, 3, 0, 2, 0, [(0, 186)])), (7, (.if_icmp .ge 0, 3, 67, 0, 0, [])), (10, (.iload 2, 1, 0, 0, 0, [])), (11, (.aload 0, 1, 0, 0, 0, [])), (12, (.getfield 1, 3, 0, 1, 0, [(0, 184)])), (15, (.arraylength, 1, 0, 0, 0, [])), (16, (.if_icmp .ge 0, 3, 67, 0, 0, [])), (19, (.aload 0, 1, 0, 0, 0, [])), (20, (.getfield 1, 3, 0, 1, 0, [(0, 184)])), (23, (.iload 2, 1, 0, 0, 0, [])), (24, (.aaload, 1, 4, 0, 0, [])), (25, (.invokestatic 1, 3, 64, 1, 577, [(0, 6)])), (28, (.iload 1, 1, 0, 0, 0, [])), (29, (.iushr, 1, 0, 0, 0, [])), (30, (.ldc 0, 1, 0, 0, 1, [])), (31, (.iand, 1, 0, 0, 0, []))],
  [(32, (.ldc 0, 1, 0, 0, 1, [])), (33, (.if_icmp .ne 0, 3, 40, 0, 0, [])), (36, (.ldc 0, 1, 0, 0, 1, [])), (37, (.goto 0, 3, 41, 0, 0, [])), (40, (.ldc 0, 1, 0, 0, 0, [])), (41, (.istore 3, 1, 0, 0, 0, [])), (42, (.aload 0, 1, 0, 0, 0, [])), (43, (.getfield 1, 3, 0, 1, 0, [(0, 184)])), (46, (.iload 2, 1, 0, 0, 0, [])), (47, (.aaload, 1, 4, 0, 0, [])), (48, (.getfield 0, 3, 6, 0, 0, [(0, 151)])), (51, (.ldc 0, 1, 0, 0, 5, [])), (52, (.if_icmp .eq 0, 3, 61, 0, 0, [])), (55, (.iload 3, 1, 0, 0, 0, [])), (56, (.ifCond .ne 0, 3, 61, 0, 0, [])), (59, (.ldc 0, 1, 0, 0, 0, [])), (60, (.ireturn, 1, 3, 0, 0, [])), (61, (.iinc 2 0, 3, 0, 0, 1, []))],
  [(64, (.goto 0, 3, 2, 0, 0, [])), (67, (.ldc 0, 1, 0, 0, 1, [])), (68, (.ireturn, 1, 3, 0, 0, []))]]
abbrev m_Folk_allButDeafHave : Nat := 16
/-- Kinds_isOf -/
def pm_t17 : pm_T := [[(0, (.iload 0, 1, 0, 0, 0, [])), (1, (.istore 2, 1, 0, 0, 0, [])), (2, (.ldc 0, 1, 0, 0, 0, [])), (3, (.istore 3, 1, 0, 0, 0, [])), (4, (.iload 3, 1, 0, 0, 0, [])), (5, (.ldc 0, 2, 0, 0, 6, [])), (7, (.if_icmp .ge 0, 3, 41, 0, 0, [])), (10, (.iload 2, 1, 0, 0, 0, [])), (11, (.ifCond .lt 0, 3, 41, 0, 0, [])), (14, (.iload 2, 1, 0, 0, 0, [])), (15, (.ldc_w 0, 3, 2, 474, 0, [])), (18, (.arraylength, 1, 0, 0, 0, [])), (19, (.if_icmp .ge 0, 3, 41, 0, 0, [])), (22, (.iload 2, 1, 0, 0, 0, [])), (23, (.iload 1, 1, 0, 0, 0, [])), (24, (.if_icmp .ne 0, 3, 29, 0, 0, [])), (27, (.ldc 0, 1, 0, 0, 1, [])), (28, (.ireturn, 1, 3, 0, 0, [])), (29, (.ldc_w 0, 3, 2, 474, 0, []))],
  [(32, (.iload 2, 1, 0, 0, 0, [])), (33, (.iaload, 1, 0, 0, 0, [])), (34, (.istore 2, 1, 0, 0, 0, [])), (35, (.iinc 3 0, 3, 0, 0, 1, [])), (38, (.goto 0, 3, 4, 0, 0, [])), (41, (.ldc 0, 1, 0, 0, 0, [])), (42, (.ireturn, 1, 3, 0, 0, []))]]
abbrev m_Kinds_isOf : Nat := 17
/-- Kinds_keepsOf -/
def pm_t18 : pm_T := [[(0, (.iload 0, 1, 0, 0, 0, [])), (1, (.lookupswitch 0 #[], 35, 56, 0, 0, [(1, 36), (2, 46), (3, 40), (4, 46), (5, 54)]))],
  [(36, (.iload 1, 1, 0, 0, 0, [])), (37, (.ldc 0, 1, 0, 0, 2, [])), (38, (.idiv, 1, 0, 0, 0, [])), (39, (.ireturn, 1, 0, 0, 0, [])), (40, (.iload 1, 1, 0, 0, 0, [])), (41, (.ldc 0, 1, 0, 0, 2, [])), (42, (.idiv, 1, 0, 0, 0, [])), (43, (.ldc 0, 1, 0, 0, 3, [])), (44, (.iadd, 1, 0, 0, 0, [])), (45, (.ireturn, 1, 0, 0, 0, [])), (46, (.ldc 0, 1, 0, 0, 0, [])), (47, (.iload 1, 1, 0, 0, 0, [])), (48, (.ldc 0, 1, 0, 0, 2, [])), (49, (.isub, 1, 0, 0, 0, [])), (50, (.ladd, 3, 445, 0, 0, [])), (53, (.ireturn, 1, 0, 0, 0, [])), (54, (.ldc 0, 1, 0, 0, 0, [])), (55, (.ireturn, 1, 0, 0, 0, [])), (56, (.iload 1, 1, 0, 0, 0, [])), (57, (.ireturn, 1, 0, 0, 0, []))]]
abbrev m_Kinds_keepsOf : Nat := 18
/-- Kinds_takesOf -/
def pm_t19 : pm_T := [[(0, (.iload 0, 1, 0, 0, 0, [])), (1, (.lookupswitch 0 #[], 35, 52, 0, 0, [(1, 36), (2, 40), (3, 36), (4, 44), (5, 50)]))],
  [(36, (.iload 1, 1, 0, 0, 0, [])), (37, (.ldc 0, 1, 0, 0, 2, [])), (38, (.iadd, 1, 0, 0, 0, [])), (39, (.ireturn, 1, 0, 0, 0, [])), (40, (.iload 1, 1, 0, 0, 0, [])), (41, (.ldc 0, 1, 0, 0, 2, [])), (42, (.idiv, 1, 0, 0, 0, [])), (43, (.ireturn, 1, 0, 0, 0, [])), (44, (.iload 1, 1, 0, 0, 0, [])), (45, (.ldc 0, 1, 0, 0, 2, [])), (46, (.idiv, 1, 0, 0, 0, [])), (47, (.ldc 0, 1, 0, 0, 1, [])), (48, (.iadd, 1, 0, 0, 0, [])), (49, (.ireturn, 1, 0, 0, 0, [])), (50, (.ldc 0, 1, 0, 0, 0, [])), (51, (.ireturn, 1, 0, 0, 0, [])), (52, (.iload 1, 1, 0, 0, 0, [])), (53, (.ireturn, 1, 0, 0, 0, []))]]
abbrev m_Kinds_takesOf : Nat := 19
/-- Kinds_goesOf -/
def pm_t20 : pm_T := [[(0, (.iload 0, 1, 0, 0, 0, [])), (1, (.lookupswitch 0 #[], 31, 41, 0, 0, [(1, 32), (2, 36), (3, 34), (4, 38)]))],
  [(32, (.ldc 0, 1, 0, 0, 2, [])), (33, (.ireturn, 1, 0, 0, 0, [])), (34, (.ldc 0, 1, 0, 0, 4, [])), (35, (.ireturn, 1, 0, 0, 0, [])), (36, (.ldc 0, 1, 0, 0, 4, [])), (37, (.ireturn, 1, 0, 0, 0, [])), (38, (.ldc 0, 2, 0, 0, 9, [])), (40, (.ireturn, 1, 0, 0, 0, [])), (41, (.ldc 0, 1, 0, 0, 3, [])), (42, (.ireturn, 1, 0, 0, 0, []))]]
abbrev m_Kinds_goesOf : Nat := 20
/-- Kinds_worthOf -/
def pm_t21 : pm_T := [[(0, (.iload 0, 1, 0, 0, 0, [])), (1, (.lookupswitch 0 #[], 35, 60, 0, 0, [(1, 36), (2, 48), (3, 41), (4, 53), (5, 58)]))],
  [(36, (.iload 1, 1, 0, 0, 0, [])), (37, (.ldc 0, 2, 0, 0, 6, [])), (39, (.iadd, 1, 0, 0, 0, [])), (40, (.ireturn, 1, 0, 0, 0, [])), (41, (.ldc 0, 1, 0, 0, 2, [])), (42, (.iload 1, 1, 0, 0, 0, [])), (43, (.ldc 0, 2, 0, 0, 6, [])), (45, (.iadd, 1, 0, 0, 0, [])), (46, (.imul, 1, 0, 0, 0, [])), (47, (.ireturn, 1, 0, 0, 0, [])), (48, (.ldc 0, 2, 0, 0, 99, [])), (50, (.iload 1, 1, 0, 0, 0, [])), (51, (.isub, 1, 0, 0, 0, [])), (52, (.ireturn, 1, 0, 0, 0, [])), (53, (.ldc 0, 2, 0, 0, 91, [])), (55, (.iload 1, 1, 0, 0, 0, [])), (56, (.isub, 1, 0, 0, 0, [])), (57, (.ireturn, 1, 0, 0, 0, [])), (58, (.ldc 0, 1, 0, 0, 1, [])), (59, (.ireturn, 1, 0, 0, 0, [])), (60, (.iload 1, 1, 0, 0, 0, [])), (61, (.ireturn, 1, 0, 0, 0, []))]]
abbrev m_Kinds_worthOf : Nat := 21
/-- Laws_init -/
def pm_t22 : pm_T := [[(0, (.aload 0, 1, 0, 0, 0, [])), (1, (.nop, 3, 98, 1, 0, [])), (4, (.aload 0, 1, 0, 0, 0, [])), (5, (.ldc 0, 2, 0, 0, 15, [])), (7, (.newarray .int, 3, 7, 99, 0, [])), (10, (.putfield 1, 3, 1, 0, 0, [(0, 126)])), (13, (.ldc 0, 1, 0, 0, 0, [])), (14, (.istore 1, 1, 0, 0, 0, [])), (15, (.iload 1, 1, 0, 0, 0, [])), (16, (.aload 0, 1, 0, 0, 0, [])), (17, (.getfield 1, 3, 1, 0, 0, [(0, 126)])), (20, (.arraylength, 1, 0, 0, 0, [])), (21, (.if_icmp .ge 0, 3, 43, 0, 0, [])), (24, (.aload 0, 1, 0, 0, 0, [])), (25, (.getfield 1, 3, 1, 0, 0, [(0, 126)])), (28, (.iload 1, 1, 0, 0, 0, [])), (29, (.new 0, 3, 8, 99, 0, []))],
  [(32, (.dup, 1, 0, 0, 0, [])), (33, (.invokestatic 0, 3, 70, 1, 102, [(0, 8)])), (36, (.aastore, 1, 7, 8, 0, [])), (37, (.iinc 1 0, 3, 0, 0, 1, [])), (40, (.goto 0, 3, 15, 0, 0, [])), (43, (.aload 0, 1, 0, 0, 0, [])), (44, (.ldc 0, 2, 0, 0, 96, [])), (46, (.newarray .int, 2, 0, 125, 0, [])), (48, (.putfield 1, 3, 1, 1, 0, [(0, 128)])), (51, (.return_, 1, 0, 0, 0, []))]]
abbrev m_Laws_init : Nat := 22
/-- Laws_valueOf -/
def pm_t23 : pm_T := [[(0, (.iload 1, 1, 0, 0, 0, [])), (1, (.ifCond .lt 0, 3, 13, 0, 0, [])), (4, (.iload 1, 1, 0, 0, 0, [])), (5, (.aload 0, 1, 0, 0, 0, [])), (6, (.getfield 1, 3, 1, 0, 0, [(0, 126)])), (9, (.arraylength, 1, 0, 0, 0, [])), (10, (.if_icmp .lt 0, 3, 15, 0, 0, [])), (13, (.ldc 0, 1, 0, 0, 0, [])), (14, (.ireturn, 1, 0, 0, 0, [])), (15, (.aload 0, 1, 0, 0, 0, [])), (16, (.getfield 1, 3, 1, 0, 0, [(0, 126)])), (19, (.iload 1, 1, 0, 0, 0, [])), (20, (.aaload, 1, 7, 0, 0, [])), (21, (.astore 5, 2, 0, 0, 0, [])), (23, (.ldc 0, 1, 0, 0, (-1), [])), (24, (.istore 6, 2, 0, 0, 0, [])), (26, (.ldc 0, 1, 0, 0, 0, [])), (27, (.istore 7, 2, 0, 0, 0, [])), (29, (.iload 7, 2, 0, 0, 0, [])), (31, (.aload 5, 2, 0, 0, 0, []))],
  [(33, (.getfield 0, 3, 8, 2, 0, [(0, 113)])), (36, (.if_icmp .ge 0, 3, 189, 0, 0, [])), (39, (.iload 7, 2, 0, 0, 0, [])), (41, (.aload 5, 2, 0, 0, 0, [])), (43, (.getfield 1, 3, 8, 3, 0, [(0, 115)])), (46, (.arraylength, 1, 0, 0, 0, [])), (47, (.if_icmp .ge 0, 3, 189, 0, 0, [])), (50, (.aload 5, 2, 0, 0, 0, [])), (52, (.getfield 1, 3, 8, 3, 0, [(0, 115)])), (55, (.iload 7, 2, 0, 0, 0, [])), (57, (.iaload, 1, 0, 0, 0, [])), (58, (.istore 8, 2, 0, 0, 0, [])), (60, (.iload 8, 2, 0, 0, 0, [])), (62, (.ldc 0, 2, 0, 0, (-3), []))],
  [(64, (.if_icmp .lt 0, 3, 101, 0, 0, [])), (67, (.iinc 6 0, 3, 0, 0, 1, [])), (70, (.iload 6, 2, 0, 0, 0, [])), (72, (.aload 0, 1, 0, 0, 0, [])), (73, (.getfield 1, 3, 1, 1, 0, [(0, 128)])), (76, (.arraylength, 1, 0, 0, 0, [])), (77, (.if_icmp .lt 0, 3, 82, 0, 0, [])), (80, (.ldc 0, 1, 0, 0, 0, [])), (81, (.ireturn, 1, 0, 0, 0, [])), (82, (.aload 0, 1, 0, 0, 0, [])), (83, (.getfield 1, 3, 1, 1, 0, [(0, 128)])), (86, (.iload 6, 2, 0, 0, 0, [])), (88, (.iload 8, 2, 0, 0, 0, [])), (90, (.iload 2, 1, 0, 0, 0, [])), (91, (.iload 3, 1, 0, 0, 0, [])), (92, (.iload 4, 2, 0, 0, 0, [])), (94, (.invokestatic 1, 3, 24, 4, 424, []))],
  [(97, (.iastore, 1, 0, 0, 0, [])), (98, (.goto 0, 3, 183, 0, 0, [])), (101, (.iload 8, 2, 0, 0, 0, [])), (103, (.ldc 0, 2, 0, 0, (-33), [])), (105, (.if_icmp .ne 0, 3, 143, 0, 0, [])), (108, (.iload 6, 2, 0, 0, 0, [])), (110, (.ifCond .ge 0, 3, 115, 0, 0, [])), (113, (.ldc 0, 1, 0, 0, 0, [])), (114, (.ireturn, 1, 0, 0, 0, [])), (115, (.aload 0, 1, 0, 0, 0, [])), (116, (.getfield 1, 3, 1, 1, 0, [(0, 128)])), (119, (.iload 6, 2, 0, 0, 0, [])), (121, (.aload 0, 1, 0, 0, 0, [])), (122, (.getfield 1, 3, 1, 1, 0, [(0, 128)])), (125, (.iload 6, 2, 0, 0, 0, [])), (127, (.iaload, 1, 0, 0, 0, []))],
  [(128, (.ifCond .ne 0, 3, 135, 0, 0, [])), (131, (.ldc 0, 1, 0, 0, 1, [])), (132, (.goto 0, 3, 136, 0, 0, [])), (135, (.ldc 0, 1, 0, 0, 0, [])), (136, (.invokestatic 1, 3, 26, 1, 427, [])), (139, (.iastore, 1, 0, 0, 0, [])), (140, (.goto 0, 3, 183, 0, 0, [])), (143, (.iload 6, 2, 0, 0, 0, [])), (145, (.ldc 0, 1, 0, 0, 1, [])), (146, (.if_icmp .ge 0, 3, 151, 0, 0, [])), (149, (.ldc 0, 1, 0, 0, 0, [])), (150, (.ireturn, 1, 0, 0, 0, [])), (151, (.iinc 6 0, 3, 0, 0, (-1), [])), (154, (.aload 0, 1, 0, 0, 0, [])), (155, (.getfield 1, 3, 1, 1, 0, [(0, 128)])), (158, (.iload 6, 2, 0, 0, 0, []))],
  [(160, (.iload 8, 2, 0, 0, 0, [])), (162, (.ineg, 1, 0, 0, 0, [])), (163, (.aload 0, 1, 0, 0, 0, [])), (164, (.getfield 1, 3, 1, 1, 0, [(0, 128)])), (167, (.iload 6, 2, 0, 0, 0, [])), (169, (.iaload, 1, 0, 0, 0, [])), (170, (.aload 0, 1, 0, 0, 0, [])), (171, (.getfield 1, 3, 1, 1, 0, [(0, 128)])), (174, (.iload 6, 2, 0, 0, 0, [])), (176, (.ldc 0, 1, 0, 0, 1, [])), (177, (.iadd, 1, 0, 0, 0, [])), (178, (.iaload, 1, 0, 0, 0, [])), (179, (.invokestatic 1, 3, 25, 3, 430, [])), (182, (.iastore, 1, 0, 0, 0, [])), (183, (.iinc 7 0, 3, 0, 0, 1, [])), (186, (.goto 0, 3, 29, 0, 0, [])), (189, (.iload 6, 2, 0, 0, 0, [])), (191, (.ifCond .ge 0, 3, 198, 0, 0, []))],
  [(194, (.ldc 0, 1, 0, 0, 0, [])), (195, (.goto 0, 3, 205, 0, 0, [])), (198, (.aload 0, 1, 0, 0, 0, [])), (199, (.getfield 1, 3, 1, 1, 0, [(0, 128)])), (202, (.iload 6, 2, 0, 0, 0, [])), (204, (.iaload, 1, 0, 0, 0, [])), (205, (.ireturn, 1, 0, 0, 0, []))]]
abbrev m_Laws_valueOf : Nat := 23
/-- Laws_leafOf -/
def pm_t24 : pm_T := [[(0, (.iload 0, 1, 0, 0, 0, [])), (1, (.lookupswitch 0 #[], 27, 34, 0, 0, [((-3), 32), ((-2), 30), ((-1), 28)])), (28, (.iload 1, 1, 0, 0, 0, [])), (29, (.ireturn, 1, 0, 0, 0, [])), (30, (.iload 2, 1, 0, 0, 0, [])), (31, (.ireturn, 1, 0, 0, 0, []))],
  [(32, (.iload 3, 1, 0, 0, 0, [])), (33, (.ireturn, 1, 0, 0, 0, [])), (34, (.iload 0, 1, 0, 0, 0, [])), (35, (.ireturn, 1, 0, 0, 0, []))]]
abbrev m_Laws_leafOf : Nat := 24
/-- Laws_joined -/
def pm_t25 : pm_T := [[(0, (.iload 0, 1, 0, 0, 0, [])), (1, (.lookupswitch 0 #[], 83, 169, 0, 0, [(38, 98), (42, 153), (43, 145), (45, 149), (47, 157), (60, 112), (61, 123), (62, 134), (124, 84)]))],
  [],
  [(84, (.iload 1, 1, 0, 0, 0, [])), (85, (.ifCond .ne 0, 3, 92, 0, 0, [])), (88, (.iload 2, 1, 0, 0, 0, [])), (89, (.ifCond .eq 0, 3, 96, 0, 0, [])), (92, (.ldc 0, 1, 0, 0, 1, [])), (93, (.goto 0, 3, 97, 0, 0, []))],
  [(96, (.ldc 0, 1, 0, 0, 0, [])), (97, (.ireturn, 1, 0, 0, 0, [])), (98, (.iload 1, 1, 0, 0, 0, [])), (99, (.ifCond .eq 0, 3, 110, 0, 0, [])), (102, (.iload 2, 1, 0, 0, 0, [])), (103, (.ifCond .eq 0, 3, 110, 0, 0, [])), (106, (.ldc 0, 1, 0, 0, 1, [])), (107, (.goto 0, 3, 111, 0, 0, [])), (110, (.ldc 0, 1, 0, 0, 0, [])), (111, (.ireturn, 1, 0, 0, 0, [])), (112, (.iload 1, 1, 0, 0, 0, [])), (113, (.iload 2, 1, 0, 0, 0, [])), (114, (.if_icmp .ge 0, 3, 121, 0, 0, [])), (117, (.ldc 0, 1, 0, 0, 1, [])), (118, (.goto 0, 3, 122, 0, 0, [])), (121, (.ldc 0, 1, 0, 0, 0, [])), (122, (.ireturn, 1, 0, 0, 0, [])), (123, (.iload 1, 1, 0, 0, 0, [])), (124, (.iload 2, 1, 0, 0, 0, [])), (125, (.if_icmp .ne 0, 3, 132, 0, 0, []))],
  [(128, (.ldc 0, 1, 0, 0, 1, [])), (129, (.goto 0, 3, 133, 0, 0, [])), (132, (.ldc 0, 1, 0, 0, 0, [])), (133, (.ireturn, 1, 0, 0, 0, [])), (134, (.iload 1, 1, 0, 0, 0, [])), (135, (.iload 2, 1, 0, 0, 0, [])), (136, (.if_icmp .le 0, 3, 143, 0, 0, [])), (139, (.ldc 0, 1, 0, 0, 1, [])), (140, (.goto 0, 3, 144, 0, 0, [])), (143, (.ldc 0, 1, 0, 0, 0, [])), (144, (.ireturn, 1, 0, 0, 0, [])), (145, (.iload 1, 1, 0, 0, 0, [])), (146, (.iload 2, 1, 0, 0, 0, [])), (147, (.iadd, 1, 0, 0, 0, [])), (148, (.ireturn, 1, 0, 0, 0, [])), (149, (.iload 1, 1, 0, 0, 0, [])), (150, (.iload 2, 1, 0, 0, 0, [])), (151, (.isub, 1, 0, 0, 0, [])), (152, (.ireturn, 1, 0, 0, 0, [])), (153, (.iload 1, 1, 0, 0, 0, [])), (154, (.iload 2, 1, 0, 0, 0, [])), (155, (.imul, 1, 0, 0, 0, [])), (156, (.ireturn, 1, 0, 0, 0, [])), (157, (.iload 2, 1, 0, 0, 0, [])), (158, (.ifCond .ne 0, 3, 165, 0, 0, []))],
  [(161, (.ldc 0, 1, 0, 0, 0, [])), (162, (.goto 0, 3, 168, 0, 0, [])), (165, (.iload 1, 1, 0, 0, 0, [])), (166, (.iload 2, 1, 0, 0, 0, [])), (167, (.idiv, 1, 0, 0, 0, [])), (168, (.ireturn, 1, 0, 0, 0, [])), (169, (.ldc 0, 1, 0, 0, 0, [])), (170, (.ireturn, 1, 0, 0, 0, []))]]
abbrev m_Laws_joined : Nat := 25
/-- Laws_truth -/
def pm_t26 : pm_T := [[(0, (.iload 0, 1, 0, 0, 0, [])), (1, (.ifCond .eq 0, 3, 8, 0, 0, [])), (4, (.ldc 0, 1, 0, 0, 1, [])), (5, (.goto 0, 3, 9, 0, 0, [])), (8, (.ldc 0, 1, 0, 0, 0, [])), (9, (.ireturn, 1, 0, 0, 0, []))]]
abbrev m_Laws_truth : Nat := 26
/-- Parser_init -/
def pm_t27 : pm_T := [[(0, (.aload 0, 1, 0, 0, 0, [])), (1, (.nop, 3, 241, 2, 0, [])), (4, (.aload 0, 1, 0, 0, 0, [])), (5, (.aload 1, 1, 0, 0, 0, [])), (6, (.putfield 1, 3, 2, 0, 0, [(0, 244)])), (9, (.aload 0, 1, 0, 0, 0, [])), (10, (.new 0, 3, 8, 242, 0, [])), (13, (.dup, 1, 0, 0, 0, [])), (14, (.invokestatic 0, 3, 70, 1, 243, [(0, 8)])), (17, (.putfield 2, 3, 2, 1, 0, [(0, 245)])), (20, (.return_, 1, 0, 0, 0, []))]]
abbrev m_Parser_init : Nat := 27
/-- Parser_parse -/
def pm_t28 : pm_T := [[(0, (.aload 0, 1, 0, 0, 0, [])), (1, (.aload 1, 1, 0, 0, 0, [])), (2, (.putfield 2, 3, 2, 1, 0, [(0, 245)])), (5, (.aload 0, 1, 0, 0, 0, [])), (6, (.getfield 2, 3, 2, 1, 0, [(0, 245)])), (9, (.invokestatic 0, 3, 71, 1, 722, [(0, 8)])), (12, (.aload 0, 1, 0, 0, 0, [])), (13, (.ldc 0, 1, 0, 0, 0, [])), (14, (.putfield 0, 3, 2, 2, 0, [(0, 246)])), (17, (.aload 0, 1, 0, 0, 0, [])), (18, (.ldc 0, 1, 0, 0, 0, [])), (19, (.putfield 0, 3, 2, 3, 0, [(0, 247)])), (22, (.aload 0, 1, 0, 0, 0, [])), (23, (.ldc 0, 1, 0, 0, 0, [])), (24, (.putfield 0, 3, 2, 4, 0, [(0, 248)])), (27, (.aload 0, 1, 0, 0, 0, [])), (28, (.ldc 0, 1, 0, 0, 0, [])), (29, (.putfield 0, 3, 2, 5, 0, [(0, 249)]))],
  [(32, (.aload 0, 1, 0, 0, 0, [])), (33, (.ldc 0, 1, 0, 0, 0, [])), (34, (.putfield 0, 3, 2, 6, 0, [(0, 250)])), (37, (.aload 0, 1, 0, 0, 0, [])), (38, (.ldc 0, 2, 726, 0, (-1000000005), [])), (40, (.putfield 0, 3, 2, 7, 0, [(0, 251)])), (43, (.aload 0, 1, 0, 0, 0, [])), (44, (.invokestatic 0, 3, 30, 1, 727, [(0, 2)])), (47, (.aload 0, 1, 0, 0, 0, [])), (48, (.invokestatic 0, 3, 34, 1, 738, [(0, 2)])), (51, (.aload 0, 1, 0, 0, 0, [])), (52, (.invokestatic 0, 3, 35, 1, 801, [(0, 2)])), (55, (.aload 0, 1, 0, 0, 0, [])), (56, (.getfield 0, 3, 2, 2, 0, [(0, 246)])), (59, (.ifCond .eq 0, 3, 66, 0, 0, [])), (62, (.aload 0, 1, 0, 0, 0, [])), (63, (.invokestatic 0, 3, 29, 1, 797, [(0, 2)]))],
  [(66, (.aload 0, 1, 0, 0, 0, [])), (67, (.getfield 0, 3, 2, 7, 0, [(0, 251)])), (70, (.ireturn, 1, 0, 0, 0, []))]]
abbrev m_Parser_parse : Nat := 28
/-- Parser_fail -/
def pm_t29 : pm_T := [[(0, (.aload 0, 1, 0, 0, 0, [])), (1, (.getfield 0, 3, 2, 7, 0, [(0, 251)])), (4, (.ldc 0, 2, 726, 0, (-1000000005), [])), (6, (.if_icmp .ne 0, 3, 17, 0, 0, [])), (9, (.aload 0, 1, 0, 0, 0, [])), (10, (.aload 0, 1, 0, 0, 0, [])), (11, (.getfield 0, 3, 2, 3, 0, [(0, 247)])), (14, (.putfield 0, 3, 2, 7, 0, [(0, 251)])), (17, (.aload 0, 1, 0, 0, 0, [])), (18, (.ldc 0, 1, 0, 0, 4, [])), (19, (.putfield 0, 3, 2, 2, 0, [(0, 246)])), (22, (.return_, 1, 0, 0, 0, []))]]
abbrev m_Parser_fail : Nat := 29
/-- Parser_step -/
def pm_t30 : pm_T := [[(0, (.aload 0, 1, 0, 0, 0, [])), (1, (.getfield 0, 3, 2, 2, 0, [(0, 246)])), (4, (.ldc 0, 1, 0, 0, 1, [])), (5, (.if_icmp .eq 0, 3, 16, 0, 0, [])), (8, (.aload 0, 1, 0, 0, 0, [])), (9, (.getfield 0, 3, 2, 2, 0, [(0, 246)])), (12, (.ldc 0, 1, 0, 0, 2, [])), (13, (.if_icmp .ne 0, 3, 20, 0, 0, [])), (16, (.ldc 0, 1, 0, 0, 1, [])), (17, (.goto 0, 3, 21, 0, 0, [])), (20, (.ldc 0, 1, 0, 0, 0, [])), (21, (.istore 1, 1, 0, 0, 0, [])), (22, (.aload 0, 1, 0, 0, 0, [])), (23, (.getfield 0, 3, 2, 4, 0, [(0, 248)])), (26, (.istore 2, 1, 0, 0, 0, [])), (27, (.aload 0, 1, 0, 0, 0, [])), (28, (.iload 2, 1, 0, 0, 0, [])), (29, (.putfield 0, 3, 2, 3, 0, [(0, 247)]))],
  [(32, (.ldc 0, 1, 0, 0, 0, [])), (33, (.istore 3, 1, 0, 0, 0, [])), (34, (.iload 3, 1, 0, 0, 0, [])), (35, (.ldc 0, 2, 0, 0, 96, [])), (37, (.if_icmp .ge 0, 3, 72, 0, 0, [])), (40, (.aload 0, 1, 0, 0, 0, [])), (41, (.getfield 1, 3, 2, 0, 0, [(0, 244)])), (44, (.aload 0, 1, 0, 0, 0, [])), (45, (.getfield 0, 3, 2, 3, 0, [(0, 247)])), (48, (.invokestatic 1, 3, 69, 2, 731, [(0, 7)])), (51, (.ldc 0, 2, 0, 0, 32, [])), (53, (.if_icmp .ne 0, 3, 72, 0, 0, [])), (56, (.aload 0, 1, 0, 0, 0, [])), (57, (.dup, 1, 0, 0, 0, [])), (58, (.getfield 0, 3, 2, 3, 0, [(0, 247)])), (61, (.ldc 0, 1, 0, 0, 1, [])), (62, (.iadd, 1, 0, 0, 0, [])), (63, (.putfield 0, 3, 2, 3, 0, [(0, 247)]))],
  [(66, (.iinc 3 0, 3, 0, 0, 1, [])), (69, (.goto 0, 3, 34, 0, 0, [])), (72, (.aload 0, 1, 0, 0, 0, [])), (73, (.aload 0, 1, 0, 0, 0, [])), (74, (.getfield 1, 3, 2, 0, 0, [(0, 244)])), (77, (.aload 0, 1, 0, 0, 0, [])), (78, (.getfield 0, 3, 2, 3, 0, [(0, 247)])), (81, (.invokestatic 1, 3, 69, 2, 731, [(0, 7)])), (84, (.invokestatic 1, 3, 31, 1, 735, [])), (87, (.putfield 0, 3, 2, 2, 0, [(0, 246)])), (90, (.aload 0, 1, 0, 0, 0, [])), (91, (.aload 0, 1, 0, 0, 0, [])), (92, (.getfield 0, 3, 2, 3, 0, [(0, 247)])), (95, (.putfield 0, 3, 2, 4, 0, [(0, 248)]))],
  [(98, (.aload 0, 1, 0, 0, 0, [])), (99, (.getfield 0, 3, 2, 2, 0, [(0, 246)])), (102, (.ifCond .ne 0, 3, 106, 0, 0, [])), (105, (.return_, 1, 0, 0, 0, [])), (106, (.aload 0, 1, 0, 0, 0, [])), (107, (.dup, 1, 0, 0, 0, [])), (108, (.getfield 0, 3, 2, 4, 0, [(0, 248)])), (111, (.ldc 0, 1, 0, 0, 1, [])), (112, (.iadd, 1, 0, 0, 0, [])), (113, (.putfield 0, 3, 2, 4, 0, [(0, 248)])), (116, (.aload 0, 1, 0, 0, 0, [])), (117, (.getfield 0, 3, 2, 2, 0, [(0, 246)])), (120, (.ldc 0, 1, 0, 0, 3, [])), (121, (.if_icmp .ne 0, 3, 125, 0, 0, [])), (124, (.return_, 1, 0, 0, 0, [])), (125, (.ldc 0, 1, 0, 0, 0, [])), (126, (.istore 3, 1, 0, 0, 0, [])), (127, (.iload 3, 1, 0, 0, 0, []))],
  [(128, (.ldc 0, 2, 0, 0, 96, [])), (130, (.if_icmp .ge 0, 3, 170, 0, 0, [])), (133, (.aload 0, 1, 0, 0, 0, [])), (134, (.getfield 1, 3, 2, 0, 0, [(0, 244)])), (137, (.aload 0, 1, 0, 0, 0, [])), (138, (.getfield 0, 3, 2, 4, 0, [(0, 248)])), (141, (.invokestatic 1, 3, 69, 2, 731, [(0, 7)])), (144, (.invokestatic 1, 3, 31, 1, 735, [])), (147, (.aload 0, 1, 0, 0, 0, [])), (148, (.getfield 0, 3, 2, 2, 0, [(0, 246)])), (151, (.if_icmp .ne 0, 3, 170, 0, 0, [])), (154, (.aload 0, 1, 0, 0, 0, [])), (155, (.dup, 1, 0, 0, 0, [])), (156, (.getfield 0, 3, 2, 4, 0, [(0, 248)])), (159, (.ldc 0, 1, 0, 0, 1, []))],
  [(160, (.iadd, 1, 0, 0, 0, [])), (161, (.putfield 0, 3, 2, 4, 0, [(0, 248)])), (164, (.iinc 3 0, 3, 0, 0, 1, [])), (167, (.goto 0, 3, 127, 0, 0, [])), (170, (.iload 1, 1, 0, 0, 0, [])), (171, (.ifCond .eq 0, 3, 187, 0, 0, [])), (174, (.aload 0, 1, 0, 0, 0, [])), (175, (.getfield 0, 3, 2, 3, 0, [(0, 247)])), (178, (.iload 2, 1, 0, 0, 0, [])), (179, (.if_icmp .ne 0, 3, 187, 0, 0, [])), (182, (.aload 0, 1, 0, 0, 0, [])), (183, (.ldc 0, 1, 0, 0, 4, [])), (184, (.putfield 0, 3, 2, 2, 0, [(0, 246)])), (187, (.return_, 1, 0, 0, 0, []))]]
abbrev m_Parser_step : Nat := 30
/-- Parser_sortOf -/
def pm_t31 : pm_T := [[(0, (.iload 0, 1, 0, 0, 0, [])), (1, (.ifCond .ge 0, 3, 6, 0, 0, [])), (4, (.ldc 0, 1, 0, 0, 0, [])), (5, (.ireturn, 1, 0, 0, 0, [])), (6, (.iload 0, 1, 0, 0, 0, [])), (7, (.ldc 0, 2, 0, 0, 97, [])), (9, (.if_icmp .lt 0, 3, 20, 0, 0, [])), (12, (.iload 0, 1, 0, 0, 0, [])), (13, (.ldc 0, 2, 0, 0, 122, [])), (15, (.if_icmp .gt 0, 3, 20, 0, 0, [])), (18, (.ldc 0, 1, 0, 0, 1, [])), (19, (.ireturn, 1, 0, 0, 0, [])), (20, (.iload 0, 1, 0, 0, 0, [])), (21, (.ldc 0, 2, 0, 0, 48, [])), (23, (.if_icmp .lt 0, 3, 36, 0, 0, [])), (26, (.iload 0, 1, 0, 0, 0, [])), (27, (.ldc 0, 2, 0, 0, 57, [])), (29, (.if_icmp .gt 0, 3, 36, 0, 0, []))],
  [(32, (.ldc 0, 1, 0, 0, 2, [])), (33, (.goto 0, 3, 37, 0, 0, [])), (36, (.ldc 0, 1, 0, 0, 3, [])), (37, (.ireturn, 1, 0, 0, 0, []))]]
abbrev m_Parser_sortOf : Nat := 31
/-- Parser_isSign -/
def pm_t32 : pm_T := [[(0, (.aload 0, 1, 0, 0, 0, [])), (1, (.getfield 0, 3, 2, 2, 0, [(0, 246)])), (4, (.ldc 0, 1, 0, 0, 3, [])), (5, (.if_icmp .ne 0, 3, 27, 0, 0, [])), (8, (.aload 0, 1, 0, 0, 0, [])), (9, (.getfield 1, 3, 2, 0, 0, [(0, 244)])), (12, (.aload 0, 1, 0, 0, 0, [])), (13, (.getfield 0, 3, 2, 3, 0, [(0, 247)])), (16, (.invokestatic 1, 3, 69, 2, 731, [(0, 7)])), (19, (.iload 1, 1, 0, 0, 0, [])), (20, (.if_icmp .ne 0, 3, 27, 0, 0, [])), (23, (.ldc 0, 1, 0, 0, 1, [])), (24, (.goto 0, 3, 28, 0, 0, [])), (27, (.ldc 0, 1, 0, 0, 0, [])), (28, (.ireturn, 1, 3, 0, 0, []))]]
abbrev m_Parser_isSign : Nat := 32
/-- Parser_isWordOf -/
def pm_t33 : pm_T := [[(0, (.aload 0, 1, 0, 0, 0, [])), (1, (.getfield 0, 3, 2, 2, 0, [(0, 246)])), (4, (.ldc 0, 1, 0, 0, 1, [])), (5, (.if_icmp .ne 0, 3, 24, 0, 0, [])), (8, (.aload 0, 1, 0, 0, 0, [])), (9, (.getfield 0, 3, 2, 4, 0, [(0, 248)])), (12, (.aload 0, 1, 0, 0, 0, [])), (13, (.getfield 0, 3, 2, 3, 0, [(0, 247)])), (16, (.isub, 1, 0, 0, 0, [])), (17, (.aload 1, 1, 0, 0, 0, [])), (18, (.invokestatic 1, 3, 232, 1, 747, [(0, 11)])), (21, (.if_icmp .eq 0, 3, 26, 0, 0, [])), (24, (.ldc 0, 1, 0, 0, 0, [])), (25, (.ireturn, 1, 3, 0, 0, [])), (26, (.ldc 0, 1, 0, 0, 0, [])), (27, (.istore 2, 1, 0, 0, 0, [])), (28, (.iload 2, 1, 0, 0, 0, [])), (29, (.aload 1, 1, 0, 0, 0, [])), (30, (.invokestatic 1, 3, 232, 1, 747, [(0, 11)]))],
  [(33, (.if_icmp .ge 0, 3, 65, 0, 0, [])), (36, (.aload 0, 1, 0, 0, 0, [])), (37, (.getfield 1, 3, 2, 0, 0, [(0, 244)])), (40, (.aload 0, 1, 0, 0, 0, [])), (41, (.getfield 0, 3, 2, 3, 0, [(0, 247)])), (44, (.iload 2, 1, 0, 0, 0, [])), (45, (.iadd, 1, 0, 0, 0, [])), (46, (.invokestatic 1, 3, 69, 2, 731, [(0, 7)])), (49, (.aload 1, 1, 0, 0, 0, [])), (50, (.iload 2, 1, 0, 0, 0, [])), (51, (.invokestatic 1, 3, 233, 2, 757, [(0, 11)])), (54, (.if_icmp .eq 0, 3, 59, 0, 0, [])), (57, (.ldc 0, 1, 0, 0, 0, [])), (58, (.ireturn, 1, 3, 0, 0, [])), (59, (.iinc 2 0, 3, 0, 0, 1, [])), (62, (.goto 0, 3, 28, 0, 0, []))],
  [(65, (.ldc 0, 1, 0, 0, 1, [])), (66, (.ireturn, 1, 3, 0, 0, []))]]
abbrev m_Parser_isWordOf : Nat := 33
/-- Parser_readKey -/
def pm_t34 : pm_T := [[(0, (.aload 0, 1, 0, 0, 0, [])), (1, (.ldc_w 0, 2, 3, 0, 0, [])), (3, (.invokestatic 1, 3, 33, 2, 743, [(0, 2)])), (6, (.ifCond .eq 0, 3, 20, 0, 0, [])), (9, (.aload 0, 1, 0, 0, 0, [])), (10, (.getfield 2, 3, 2, 1, 0, [(0, 245)])), (13, (.ldc 0, 1, 0, 0, 0, [])), (14, (.putfield 0, 3, 8, 0, 0, [(0, 107)])), (17, (.goto 0, 3, 64, 0, 0, [])), (20, (.aload 0, 1, 0, 0, 0, [])), (21, (.ldc_w 0, 2, 4, 0, 0, [])), (23, (.invokestatic 1, 3, 33, 2, 743, [(0, 2)])), (26, (.ifCond .eq 0, 3, 40, 0, 0, [])), (29, (.aload 0, 1, 0, 0, 0, [])), (30, (.getfield 2, 3, 2, 1, 0, [(0, 245)]))],
  [(33, (.ldc 0, 1, 0, 0, 1, [])), (34, (.putfield 0, 3, 8, 0, 0, [(0, 107)])), (37, (.goto 0, 3, 64, 0, 0, [])), (40, (.aload 0, 1, 0, 0, 0, [])), (41, (.ldc_w 0, 2, 5, 0, 0, [])), (43, (.invokestatic 1, 3, 33, 2, 743, [(0, 2)])), (46, (.ifCond .eq 0, 3, 60, 0, 0, [])), (49, (.aload 0, 1, 0, 0, 0, [])), (50, (.getfield 2, 3, 2, 1, 0, [(0, 245)])), (53, (.ldc 0, 1, 0, 0, 2, [])), (54, (.putfield 0, 3, 8, 0, 0, [(0, 107)])), (57, (.goto 0, 3, 64, 0, 0, [])), (60, (.aload 0, 1, 0, 0, 0, [])), (61, (.invokestatic 0, 3, 29, 1, 797, [(0, 2)]))],
  [(64, (.aload 0, 1, 0, 0, 0, [])), (65, (.getfield 0, 3, 2, 2, 0, [(0, 246)])), (68, (.ldc 0, 1, 0, 0, 4, [])), (69, (.if_icmp .eq 0, 3, 76, 0, 0, [])), (72, (.aload 0, 1, 0, 0, 0, [])), (73, (.invokestatic 0, 3, 30, 1, 727, [(0, 2)])), (76, (.return_, 1, 0, 0, 0, []))]]
abbrev m_Parser_readKey : Nat := 34
/-- Parser_readOr -/
def pm_t35 : pm_T := [[(0, (.aload 0, 1, 0, 0, 0, [])), (1, (.invokestatic 0, 3, 36, 1, 805, [(0, 2)])), (4, (.ldc 0, 1, 0, 0, 0, [])), (5, (.istore 1, 1, 0, 0, 0, [])), (6, (.iload 1, 1, 0, 0, 0, [])), (7, (.ldc 0, 2, 0, 0, 96, [])), (9, (.if_icmp .ge 0, 3, 44, 0, 0, [])), (12, (.aload 0, 1, 0, 0, 0, [])), (13, (.ldc 0, 2, 0, 0, 124, [])), (15, (.invokestatic 1, 3, 32, 2, 902, [(0, 2)])), (18, (.ifCond .eq 0, 3, 44, 0, 0, [])), (21, (.aload 0, 1, 0, 0, 0, [])), (22, (.invokestatic 0, 3, 30, 1, 727, [(0, 2)])), (25, (.aload 0, 1, 0, 0, 0, [])), (26, (.invokestatic 0, 3, 36, 1, 805, [(0, 2)])), (29, (.aload 0, 1, 0, 0, 0, [])), (30, (.getfield 2, 3, 2, 1, 0, [(0, 245)]))],
  [(33, (.ldc 0, 2, 0, 0, (-124), [])), (35, (.invokestatic 0, 3, 72, 2, 833, [(0, 8)])), (38, (.iinc 1 0, 3, 0, 0, 1, [])), (41, (.goto 0, 3, 6, 0, 0, [])), (44, (.return_, 1, 0, 0, 0, []))]]
abbrev m_Parser_readOr : Nat := 35
/-- Parser_readAnd -/
def pm_t36 : pm_T := [[(0, (.aload 0, 1, 0, 0, 0, [])), (1, (.invokestatic 0, 3, 37, 1, 809, [(0, 2)])), (4, (.ldc 0, 1, 0, 0, 0, [])), (5, (.istore 1, 1, 0, 0, 0, [])), (6, (.iload 1, 1, 0, 0, 0, [])), (7, (.ldc 0, 2, 0, 0, 96, [])), (9, (.if_icmp .ge 0, 3, 44, 0, 0, [])), (12, (.aload 0, 1, 0, 0, 0, [])), (13, (.ldc 0, 2, 0, 0, 38, [])), (15, (.invokestatic 1, 3, 32, 2, 902, [(0, 2)])), (18, (.ifCond .eq 0, 3, 44, 0, 0, [])), (21, (.aload 0, 1, 0, 0, 0, [])), (22, (.invokestatic 0, 3, 30, 1, 727, [(0, 2)])), (25, (.aload 0, 1, 0, 0, 0, [])), (26, (.invokestatic 0, 3, 37, 1, 809, [(0, 2)])), (29, (.aload 0, 1, 0, 0, 0, [])), (30, (.getfield 2, 3, 2, 1, 0, [(0, 245)]))],
  [(33, (.ldc 0, 2, 0, 0, (-38), [])), (35, (.invokestatic 0, 3, 72, 2, 833, [(0, 8)])), (38, (.iinc 1 0, 3, 0, 0, 1, [])), (41, (.goto 0, 3, 6, 0, 0, [])), (44, (.return_, 1, 0, 0, 0, []))]]
abbrev m_Parser_readAnd : Nat := 36
/-- Parser_readTest -/
def pm_t37 : pm_T := [[(0, (.aload 0, 1, 0, 0, 0, [])), (1, (.invokestatic 0, 3, 38, 1, 813, [(0, 2)])), (4, (.aload 0, 1, 0, 0, 0, [])), (5, (.ldc 0, 2, 0, 0, 60, [])), (7, (.invokestatic 1, 3, 32, 2, 902, [(0, 2)])), (10, (.ifCond .ne 0, 3, 31, 0, 0, [])), (13, (.aload 0, 1, 0, 0, 0, [])), (14, (.ldc 0, 2, 0, 0, 61, [])), (16, (.invokestatic 1, 3, 32, 2, 902, [(0, 2)])), (19, (.ifCond .ne 0, 3, 31, 0, 0, [])), (22, (.aload 0, 1, 0, 0, 0, [])), (23, (.ldc 0, 2, 0, 0, 62, [])), (25, (.invokestatic 1, 3, 32, 2, 902, [(0, 2)])), (28, (.ifCond .eq 0, 3, 60, 0, 0, [])), (31, (.aload 0, 1, 0, 0, 0, []))],
  [(32, (.getfield 1, 3, 2, 0, 0, [(0, 244)])), (35, (.aload 0, 1, 0, 0, 0, [])), (36, (.getfield 0, 3, 2, 3, 0, [(0, 247)])), (39, (.invokestatic 1, 3, 69, 2, 731, [(0, 7)])), (42, (.istore 1, 1, 0, 0, 0, [])), (43, (.aload 0, 1, 0, 0, 0, [])), (44, (.invokestatic 0, 3, 30, 1, 727, [(0, 2)])), (47, (.aload 0, 1, 0, 0, 0, [])), (48, (.invokestatic 0, 3, 38, 1, 813, [(0, 2)])), (51, (.aload 0, 1, 0, 0, 0, [])), (52, (.getfield 2, 3, 2, 1, 0, [(0, 245)])), (55, (.iload 1, 1, 0, 0, 0, [])), (56, (.ineg, 1, 0, 0, 0, [])), (57, (.invokestatic 0, 3, 72, 2, 833, [(0, 8)])), (60, (.return_, 1, 0, 0, 0, []))]]
abbrev m_Parser_readTest : Nat := 37
/-- Parser_readSum -/
def pm_t38 : pm_T := [[(0, (.aload 0, 1, 0, 0, 0, [])), (1, (.invokestatic 0, 3, 39, 1, 817, [(0, 2)])), (4, (.ldc 0, 1, 0, 0, 0, [])), (5, (.istore 1, 1, 0, 0, 0, [])), (6, (.iload 1, 1, 0, 0, 0, [])), (7, (.ldc 0, 2, 0, 0, 96, [])), (9, (.if_icmp .ge 0, 3, 65, 0, 0, [])), (12, (.aload 0, 1, 0, 0, 0, [])), (13, (.ldc 0, 2, 0, 0, 43, [])), (15, (.invokestatic 1, 3, 32, 2, 902, [(0, 2)])), (18, (.ifCond .ne 0, 3, 30, 0, 0, [])), (21, (.aload 0, 1, 0, 0, 0, [])), (22, (.ldc 0, 2, 0, 0, 45, [])), (24, (.invokestatic 1, 3, 32, 2, 902, [(0, 2)])), (27, (.ifCond .eq 0, 3, 65, 0, 0, [])), (30, (.aload 0, 1, 0, 0, 0, [])), (31, (.getfield 1, 3, 2, 0, 0, [(0, 244)]))],
  [(34, (.aload 0, 1, 0, 0, 0, [])), (35, (.getfield 0, 3, 2, 3, 0, [(0, 247)])), (38, (.invokestatic 1, 3, 69, 2, 731, [(0, 7)])), (41, (.istore 2, 1, 0, 0, 0, [])), (42, (.aload 0, 1, 0, 0, 0, [])), (43, (.invokestatic 0, 3, 30, 1, 727, [(0, 2)])), (46, (.aload 0, 1, 0, 0, 0, [])), (47, (.invokestatic 0, 3, 39, 1, 817, [(0, 2)])), (50, (.aload 0, 1, 0, 0, 0, [])), (51, (.getfield 2, 3, 2, 1, 0, [(0, 245)])), (54, (.iload 2, 1, 0, 0, 0, [])), (55, (.ineg, 1, 0, 0, 0, [])), (56, (.invokestatic 0, 3, 72, 2, 833, [(0, 8)])), (59, (.iinc 1 0, 3, 0, 0, 1, [])), (62, (.goto 0, 3, 6, 0, 0, []))],
  [(65, (.return_, 1, 0, 0, 0, []))]]
abbrev m_Parser_readSum : Nat := 38
/-- Parser_readTerm -/
def pm_t39 : pm_T := [[(0, (.aload 0, 1, 0, 0, 0, [])), (1, (.invokestatic 0, 3, 40, 1, 821, [(0, 2)])), (4, (.ldc 0, 1, 0, 0, 0, [])), (5, (.istore 1, 1, 0, 0, 0, [])), (6, (.iload 1, 1, 0, 0, 0, [])), (7, (.ldc 0, 2, 0, 0, 96, [])), (9, (.if_icmp .ge 0, 3, 65, 0, 0, [])), (12, (.aload 0, 1, 0, 0, 0, [])), (13, (.ldc 0, 2, 0, 0, 42, [])), (15, (.invokestatic 1, 3, 32, 2, 902, [(0, 2)])), (18, (.ifCond .ne 0, 3, 30, 0, 0, [])), (21, (.aload 0, 1, 0, 0, 0, [])), (22, (.ldc 0, 2, 0, 0, 47, [])), (24, (.invokestatic 1, 3, 32, 2, 902, [(0, 2)])), (27, (.ifCond .eq 0, 3, 65, 0, 0, [])), (30, (.aload 0, 1, 0, 0, 0, [])), (31, (.getfield 1, 3, 2, 0, 0, [(0, 244)]))],
  [(34, (.aload 0, 1, 0, 0, 0, [])), (35, (.getfield 0, 3, 2, 3, 0, [(0, 247)])), (38, (.invokestatic 1, 3, 69, 2, 731, [(0, 7)])), (41, (.istore 2, 1, 0, 0, 0, [])), (42, (.aload 0, 1, 0, 0, 0, [])), (43, (.invokestatic 0, 3, 30, 1, 727, [(0, 2)])), (46, (.aload 0, 1, 0, 0, 0, [])), (47, (.invokestatic 0, 3, 40, 1, 821, [(0, 2)])), (50, (.aload 0, 1, 0, 0, 0, [])), (51, (.getfield 2, 3, 2, 1, 0, [(0, 245)])), (54, (.iload 2, 1, 0, 0, 0, [])), (55, (.ineg, 1, 0, 0, 0, [])), (56, (.invokestatic 0, 3, 72, 2, 833, [(0, 8)])), (59, (.iinc 1 0, 3, 0, 0, 1, [])), (62, (.goto 0, 3, 6, 0, 0, []))],
  [(65, (.return_, 1, 0, 0, 0, []))]]
abbrev m_Parser_readTerm : Nat := 39
/-- Parser_readPiece -/
def pm_t40 : pm_T := [[(0, (.aload 0, 1, 0, 0, 0, [])), (1, (.getfield 0, 3, 2, 2, 0, [(0, 246)])), (4, (.ldc 0, 1, 0, 0, 2, [])), (5, (.if_icmp .ne 0, 3, 15, 0, 0, [])), (8, (.aload 0, 1, 0, 0, 0, [])), (9, (.invokestatic 0, 3, 41, 1, 825, [(0, 2)])), (12, (.goto 0, 3, 66, 0, 0, [])), (15, (.aload 0, 1, 0, 0, 0, [])), (16, (.getfield 0, 3, 2, 2, 0, [(0, 246)])), (19, (.ldc 0, 1, 0, 0, 1, [])), (20, (.if_icmp .ne 0, 3, 30, 0, 0, [])), (23, (.aload 0, 1, 0, 0, 0, [])), (24, (.invokestatic 0, 3, 42, 1, 837, [(0, 2)])), (27, (.goto 0, 3, 66, 0, 0, [])), (30, (.aload 0, 1, 0, 0, 0, [])), (31, (.ldc 0, 2, 0, 0, 33, []))],
  [(33, (.invokestatic 1, 3, 32, 2, 902, [(0, 2)])), (36, (.ifCond .eq 0, 3, 46, 0, 0, [])), (39, (.aload 0, 1, 0, 0, 0, [])), (40, (.invokestatic 0, 3, 45, 1, 906, [(0, 2)])), (43, (.goto 0, 3, 66, 0, 0, [])), (46, (.aload 0, 1, 0, 0, 0, [])), (47, (.ldc 0, 2, 0, 0, 40, [])), (49, (.invokestatic 1, 3, 32, 2, 902, [(0, 2)])), (52, (.ifCond .eq 0, 3, 62, 0, 0, [])), (55, (.aload 0, 1, 0, 0, 0, [])), (56, (.invokestatic 0, 3, 46, 1, 910, [(0, 2)])), (59, (.goto 0, 3, 66, 0, 0, [])), (62, (.aload 0, 1, 0, 0, 0, [])), (63, (.invokestatic 0, 3, 29, 1, 797, [(0, 2)]))],
  [(66, (.return_, 1, 0, 0, 0, []))]]
abbrev m_Parser_readPiece : Nat := 40
/-- Parser_readNumber -/
def pm_t41 : pm_T := [[(0, (.aload 0, 1, 0, 0, 0, [])), (1, (.getfield 0, 3, 2, 4, 0, [(0, 248)])), (4, (.aload 0, 1, 0, 0, 0, [])), (5, (.getfield 0, 3, 2, 3, 0, [(0, 247)])), (8, (.isub, 1, 0, 0, 0, [])), (9, (.ldc 0, 1, 0, 0, 4, [])), (10, (.if_icmp .le 0, 3, 18, 0, 0, [])), (13, (.aload 0, 1, 0, 0, 0, [])), (14, (.invokestatic 0, 3, 29, 1, 797, [(0, 2)])), (17, (.return_, 1, 0, 0, 0, [])), (18, (.ldc 0, 1, 0, 0, 0, [])), (19, (.istore 1, 1, 0, 0, 0, [])), (20, (.aload 0, 1, 0, 0, 0, [])), (21, (.getfield 0, 3, 2, 3, 0, [(0, 247)])), (24, (.istore 2, 1, 0, 0, 0, [])), (25, (.iload 2, 1, 0, 0, 0, [])), (26, (.aload 0, 1, 0, 0, 0, [])), (27, (.getfield 0, 3, 2, 4, 0, [(0, 248)])), (30, (.if_icmp .ge 0, 3, 56, 0, 0, []))],
  [(33, (.iload 1, 1, 0, 0, 0, [])), (34, (.ldc 0, 2, 0, 0, 10, [])), (36, (.imul, 1, 0, 0, 0, [])), (37, (.aload 0, 1, 0, 0, 0, [])), (38, (.getfield 1, 3, 2, 0, 0, [(0, 244)])), (41, (.iload 2, 1, 0, 0, 0, [])), (42, (.invokestatic 1, 3, 69, 2, 731, [(0, 7)])), (45, (.iadd, 1, 0, 0, 0, [])), (46, (.ldc 0, 2, 0, 0, 48, [])), (48, (.isub, 1, 0, 0, 0, [])), (49, (.istore 1, 1, 0, 0, 0, [])), (50, (.iinc 2 0, 3, 0, 0, 1, [])), (53, (.goto 0, 3, 25, 0, 0, [])), (56, (.aload 0, 1, 0, 0, 0, [])), (57, (.iload 1, 1, 0, 0, 0, [])), (58, (.invokestatic 0, 3, 44, 2, 829, [(0, 2)])), (61, (.return_, 1, 0, 0, 0, []))]]
abbrev m_Parser_readNumber : Nat := 41
/-- Parser_readName -/
def pm_t42 : pm_T := [[(0, (.aload 0, 1, 0, 0, 0, [])), (1, (.getfield 0, 3, 2, 4, 0, [(0, 248)])), (4, (.aload 0, 1, 0, 0, 0, [])), (5, (.getfield 0, 3, 2, 3, 0, [(0, 247)])), (8, (.isub, 1, 0, 0, 0, [])), (9, (.ldc 0, 1, 0, 0, 1, [])), (10, (.if_icmp .ne 0, 3, 41, 0, 0, [])), (13, (.aload 0, 1, 0, 0, 0, [])), (14, (.getfield 2, 3, 2, 1, 0, [(0, 245)])), (17, (.getfield 0, 3, 8, 0, 0, [(0, 107)])), (20, (.invokestatic 2, 3, 43, 1, 841, [])), (23, (.aload 0, 1, 0, 0, 0, [])), (24, (.getfield 1, 3, 2, 0, 0, [(0, 244)])), (27, (.aload 0, 1, 0, 0, 0, [])), (28, (.getfield 0, 3, 2, 3, 0, [(0, 247)])), (31, (.invokestatic 1, 3, 69, 2, 731, [(0, 7)]))],
  [(34, (.i2c, 1, 0, 0, 0, [])), (35, (.invokestatic 1, 3, 234, 2, 847, [(0, 11)])), (38, (.goto 0, 3, 42, 0, 0, [])), (41, (.ldc 0, 1, 0, 0, (-1), [])), (42, (.istore 1, 1, 0, 0, 0, [])), (43, (.iload 1, 1, 0, 0, 0, [])), (44, (.ifCond .ge 0, 3, 54, 0, 0, [])), (47, (.aload 0, 1, 0, 0, 0, [])), (48, (.invokestatic 0, 3, 29, 1, 797, [(0, 2)])), (51, (.goto 0, 3, 61, 0, 0, [])), (54, (.aload 0, 1, 0, 0, 0, [])), (55, (.ldc 0, 1, 0, 0, (-1), [])), (56, (.iload 1, 1, 0, 0, 0, [])), (57, (.isub, 1, 0, 0, 0, [])), (58, (.invokestatic 0, 3, 44, 2, 829, [(0, 2)])), (61, (.return_, 1, 0, 0, 0, []))]]
abbrev m_Parser_readName : Nat := 42
/-- Parser_namesOf -/
def pm_t43 : pm_T := [[(0, (.iload 0, 1, 0, 0, 0, [])), (1, (.lookupswitch 0 #[], 27, 34, 0, 0, [(0, 28), (1, 31)])), (28, (.ldc_w 0, 2, 6, 0, 0, [])), (30, (.areturn, 1, 0, 0, 0, [])), (31, (.ldc_w 0, 2, 7, 0, 0, []))],
  [(33, (.areturn, 1, 0, 0, 0, [])), (34, (.ldc_w 0, 2, 8, 0, 0, [])), (36, (.areturn, 1, 0, 0, 0, []))]]
abbrev m_Parser_namesOf : Nat := 43
/-- Parser_putLeaf -/
def pm_t44 : pm_T := [[(0, (.aload 0, 1, 0, 0, 0, [])), (1, (.getfield 2, 3, 2, 1, 0, [(0, 245)])), (4, (.iload 1, 1, 0, 0, 0, [])), (5, (.invokestatic 0, 3, 72, 2, 833, [(0, 8)])), (8, (.aload 0, 1, 0, 0, 0, [])), (9, (.getfield 2, 3, 2, 1, 0, [(0, 245)])), (12, (.dup, 1, 0, 0, 0, [])), (13, (.getfield 0, 3, 8, 1, 0, [(0, 110)])), (16, (.ldc 0, 1, 0, 0, 1, [])), (17, (.iadd, 1, 0, 0, 0, [])), (18, (.putfield 0, 3, 8, 1, 0, [(0, 110)])), (21, (.aload 0, 1, 0, 0, 0, [])), (22, (.invokestatic 0, 3, 30, 1, 727, [(0, 2)])), (25, (.return_, 1, 0, 0, 0, []))]]
abbrev m_Parser_putLeaf : Nat := 44
/-- Parser_readNot -/
def pm_t45 : pm_T := [[(0, (.aload 0, 1, 0, 0, 0, [])), (1, (.getfield 0, 3, 2, 6, 0, [(0, 250)])), (4, (.ldc 0, 2, 0, 0, 8, [])), (6, (.if_icmp .lt 0, 3, 14, 0, 0, [])), (9, (.aload 0, 1, 0, 0, 0, [])), (10, (.invokestatic 0, 3, 29, 1, 797, [(0, 2)])), (13, (.return_, 1, 0, 0, 0, [])), (14, (.aload 0, 1, 0, 0, 0, [])), (15, (.dup, 1, 0, 0, 0, [])), (16, (.getfield 0, 3, 2, 6, 0, [(0, 250)])), (19, (.ldc 0, 1, 0, 0, 1, [])), (20, (.iadd, 1, 0, 0, 0, [])), (21, (.putfield 0, 3, 2, 6, 0, [(0, 250)])), (24, (.aload 0, 1, 0, 0, 0, [])), (25, (.invokestatic 0, 3, 30, 1, 727, [(0, 2)])), (28, (.aload 0, 1, 0, 0, 0, [])), (29, (.invokestatic 0, 3, 40, 1, 821, [(0, 2)]))],
  [(32, (.aload 0, 1, 0, 0, 0, [])), (33, (.getfield 2, 3, 2, 1, 0, [(0, 245)])), (36, (.ldc 0, 2, 0, 0, (-33), [])), (38, (.invokestatic 0, 3, 72, 2, 833, [(0, 8)])), (41, (.aload 0, 1, 0, 0, 0, [])), (42, (.dup, 1, 0, 0, 0, [])), (43, (.getfield 0, 3, 2, 6, 0, [(0, 250)])), (46, (.ldc 0, 1, 0, 0, 1, [])), (47, (.isub, 1, 0, 0, 0, [])), (48, (.putfield 0, 3, 2, 6, 0, [(0, 250)])), (51, (.return_, 1, 0, 0, 0, []))]]
abbrev m_Parser_readNot : Nat := 45
/-- Parser_readBrackets -/
def pm_t46 : pm_T := [[(0, (.aload 0, 1, 0, 0, 0, [])), (1, (.getfield 0, 3, 2, 5, 0, [(0, 249)])), (4, (.ldc 0, 2, 0, 0, 8, [])), (6, (.if_icmp .lt 0, 3, 14, 0, 0, [])), (9, (.aload 0, 1, 0, 0, 0, [])), (10, (.invokestatic 0, 3, 29, 1, 797, [(0, 2)])), (13, (.return_, 1, 0, 0, 0, [])), (14, (.aload 0, 1, 0, 0, 0, [])), (15, (.dup, 1, 0, 0, 0, [])), (16, (.getfield 0, 3, 2, 5, 0, [(0, 249)])), (19, (.ldc 0, 1, 0, 0, 1, [])), (20, (.iadd, 1, 0, 0, 0, [])), (21, (.putfield 0, 3, 2, 5, 0, [(0, 249)])), (24, (.aload 0, 1, 0, 0, 0, [])), (25, (.invokestatic 0, 3, 30, 1, 727, [(0, 2)])), (28, (.aload 0, 1, 0, 0, 0, [])), (29, (.invokestatic 0, 3, 35, 1, 801, [(0, 2)]))],
  [(32, (.aload 0, 1, 0, 0, 0, [])), (33, (.ldc 0, 2, 0, 0, 41, [])), (35, (.invokestatic 1, 3, 32, 2, 902, [(0, 2)])), (38, (.ifCond .eq 0, 3, 48, 0, 0, [])), (41, (.aload 0, 1, 0, 0, 0, [])), (42, (.invokestatic 0, 3, 30, 1, 727, [(0, 2)])), (45, (.goto 0, 3, 52, 0, 0, [])), (48, (.aload 0, 1, 0, 0, 0, [])), (49, (.invokestatic 0, 3, 29, 1, 797, [(0, 2)])), (52, (.aload 0, 1, 0, 0, 0, [])), (53, (.dup, 1, 0, 0, 0, [])), (54, (.getfield 0, 3, 2, 5, 0, [(0, 249)])), (57, (.ldc 0, 1, 0, 0, 1, [])), (58, (.isub, 1, 0, 0, 0, [])), (59, (.putfield 0, 3, 2, 5, 0, [(0, 249)])), (62, (.return_, 1, 0, 0, 0, []))]]
abbrev m_Parser_readBrackets : Nat := 46
/-- Saying_init -/
def pm_t47 : pm_T := [[(0, (.aload 0, 1, 0, 0, 0, [])), (1, (.nop, 3, 323, 3, 0, [])), (4, (.aload 0, 1, 0, 0, 0, [])), (5, (.ldc 0, 2, 0, 0, 12, [])), (7, (.newarray .int, 2, 0, 125, 0, [])), (9, (.putfield 1, 3, 3, 0, 0, [(0, 324)])), (12, (.return_, 1, 0, 0, 0, []))]]
abbrev m_Saying_init : Nat := 47
/-- Saying_read -/
def pm_t48 : pm_T := [[(0, (.aload 0, 1, 0, 0, 0, [])), (1, (.ldc 0, 1, 0, 0, 0, [])), (2, (.putfield 0, 3, 3, 1, 0, [(0, 325)])), (5, (.ldc 0, 1, 0, 0, 0, [])), (6, (.istore 2, 1, 0, 0, 0, [])), (7, (.iload 2, 1, 0, 0, 0, [])), (8, (.aload 0, 1, 0, 0, 0, [])), (9, (.getfield 1, 3, 3, 0, 0, [(0, 324)])), (12, (.arraylength, 1, 0, 0, 0, [])), (13, (.if_icmp .ge 0, 3, 64, 0, 0, [])), (16, (.aload 1, 1, 0, 0, 0, [])), (17, (.iload 2, 1, 0, 0, 0, [])), (18, (.invokestatic 1, 3, 56, 2, 599, [(0, 4)])), (21, (.ifCond .eq 0, 3, 64, 0, 0, [])), (24, (.aload 1, 1, 0, 0, 0, [])), (25, (.getfield 1, 3, 4, 2, 0, [(0, 280)])), (28, (.iload 2, 1, 0, 0, 0, [])), (29, (.iaload, 1, 0, 0, 0, [])), (30, (.invokestatic 1, 3, 121, 1, 603, []))],
  [(33, (.ifCond .eq 0, 3, 64, 0, 0, [])), (36, (.aload 0, 1, 0, 0, 0, [])), (37, (.getfield 1, 3, 3, 0, 0, [(0, 324)])), (40, (.iload 2, 1, 0, 0, 0, [])), (41, (.aload 1, 1, 0, 0, 0, [])), (42, (.getfield 1, 3, 4, 2, 0, [(0, 280)])), (45, (.iload 2, 1, 0, 0, 0, [])), (46, (.iaload, 1, 0, 0, 0, [])), (47, (.iastore, 1, 0, 0, 0, [])), (48, (.aload 0, 1, 0, 0, 0, [])), (49, (.dup, 1, 0, 0, 0, [])), (50, (.getfield 0, 3, 3, 1, 0, [(0, 325)])), (53, (.ldc 0, 1, 0, 0, 1, [])), (54, (.iadd, 1, 0, 0, 0, [])), (55, (.putfield 0, 3, 3, 1, 0, [(0, 325)])), (58, (.iinc 2 0, 3, 0, 0, 1, [])), (61, (.goto 0, 3, 7, 0, 0, []))],
  [(64, (.return_, 1, 0, 0, 0, []))]]
abbrev m_Saying_read : Nat := 48
/-- Saying_firstOutside -/
def pm_t49 : pm_T := [[(0, (.ldc 0, 1, 0, 0, 0, [])), (1, (.istore 2, 1, 0, 0, 0, [])), (2, (.iload 2, 1, 0, 0, 0, [])), (3, (.aload 0, 1, 0, 0, 0, [])), (4, (.getfield 0, 3, 3, 1, 0, [(0, 325)])), (7, (.if_icmp .ge 0, 3, 45, 0, 0, [])), (10, (.iload 2, 1, 0, 0, 0, [])), (11, (.aload 0, 1, 0, 0, 0, [])), (12, (.getfield 1, 3, 3, 0, 0, [(0, 324)])), (15, (.arraylength, 1, 0, 0, 0, [])), (16, (.if_icmp .ge 0, 3, 45, 0, 0, [])), (19, (.iload 1, 1, 0, 0, 0, [])), (20, (.aload 0, 1, 0, 0, 0, [])), (21, (.getfield 1, 3, 3, 0, 0, [(0, 324)])), (24, (.iload 2, 1, 0, 0, 0, [])), (25, (.iaload, 1, 0, 0, 0, [])), (26, (.iushr, 1, 0, 0, 0, [])), (27, (.ldc 0, 1, 0, 0, 1, [])), (28, (.iand, 1, 0, 0, 0, [])), (29, (.ifCond .ne 0, 3, 39, 0, 0, []))],
  [(32, (.aload 0, 1, 0, 0, 0, [])), (33, (.getfield 1, 3, 3, 0, 0, [(0, 324)])), (36, (.iload 2, 1, 0, 0, 0, [])), (37, (.iaload, 1, 0, 0, 0, [])), (38, (.ireturn, 1, 0, 0, 0, [])), (39, (.iinc 2 0, 3, 0, 0, 1, [])), (42, (.goto 0, 3, 2, 0, 0, [])), (45, (.ldc 0, 2, 621, 0, (-1000000005), [])), (47, (.ireturn, 1, 0, 0, 0, []))]]
abbrev m_Saying_firstOutside : Nat := 49
/-- Saying_breathsOf -/
def pm_t50 : pm_T := [[(0, (.aload 1, 1, 0, 0, 0, [])), (1, (.getfield 0, 3, 6, 0, 0, [(0, 150)])), (4, (.invokestatic 1, 3, 20, 1, 609, [])), (7, (.istore 2, 1, 0, 0, 0, [])), (8, (.ldc 0, 1, 0, 0, 0, [])), (9, (.istore 3, 1, 0, 0, 0, [])), (10, (.ldc 0, 1, 0, 0, 0, [])), (11, (.istore 4, 2, 0, 0, 0, [])), (13, (.ldc 0, 1, 0, 0, 0, [])), (14, (.istore 5, 2, 0, 0, 0, [])), (16, (.iload 5, 2, 0, 0, 0, [])), (18, (.aload 0, 1, 0, 0, 0, [])), (19, (.getfield 1, 3, 3, 0, 0, [(0, 324)])), (22, (.arraylength, 1, 0, 0, 0, [])), (23, (.if_icmp .ge 0, 3, 69, 0, 0, [])), (26, (.iload 4, 2, 0, 0, 0, [])), (28, (.aload 0, 1, 0, 0, 0, [])), (29, (.getfield 0, 3, 3, 1, 0, [(0, 325)]))],
  [(32, (.if_icmp .ge 0, 3, 69, 0, 0, [])), (35, (.aload 0, 1, 0, 0, 0, [])), (36, (.aload 1, 1, 0, 0, 0, [])), (37, (.iload 4, 2, 0, 0, 0, [])), (39, (.iload 2, 1, 0, 0, 0, [])), (40, (.invokestatic 1, 3, 51, 4, 610, [(0, 3)])), (43, (.istore 6, 2, 0, 0, 0, [])), (45, (.iload 6, 2, 0, 0, 0, [])), (47, (.ifCond .ne 0, 3, 53, 0, 0, [])), (50, (.ldc 0, 2, 621, 0, (-1000000005), [])), (52, (.ireturn, 1, 0, 0, 0, [])), (53, (.iload 4, 2, 0, 0, 0, [])), (55, (.iload 6, 2, 0, 0, 0, [])), (57, (.iadd, 1, 0, 0, 0, [])), (58, (.istore 4, 2, 0, 0, 0, [])), (60, (.iinc 3 0, 3, 0, 0, 1, [])), (63, (.iinc 5 0, 3, 0, 0, 1, []))],
  [(66, (.goto 0, 3, 16, 0, 0, [])), (69, (.iload 3, 1, 0, 0, 0, [])), (70, (.ireturn, 1, 0, 0, 0, []))]]
abbrev m_Saying_breathsOf : Nat := 50
/-- Saying_longestPiece -/
def pm_t51 : pm_T := [[(0, (.ldc 0, 1, 0, 0, 0, [])), (1, (.istore 4, 2, 0, 0, 0, [])), (3, (.ldc 0, 1, 0, 0, 0, [])), (4, (.istore 5, 2, 0, 0, 0, [])), (6, (.iload 5, 2, 0, 0, 0, [])), (8, (.aload 1, 1, 0, 0, 0, [])), (9, (.getfield 0, 3, 6, 4, 0, [(0, 164)])), (12, (.if_icmp .ge 0, 3, 36, 0, 0, [])), (15, (.iload 4, 2, 0, 0, 0, [])), (17, (.aload 0, 1, 0, 0, 0, [])), (18, (.aload 1, 1, 0, 0, 0, [])), (19, (.iload 2, 1, 0, 0, 0, [])), (20, (.iload 5, 2, 0, 0, 0, [])), (22, (.invokestatic 1, 3, 52, 4, 614, [(0, 3)])), (25, (.ladd, 3, 619, 0, 0, [])), (28, (.istore 4, 2, 0, 0, 0, [])), (30, (.iinc 5 0, 3, 0, 0, 1, []))],
  [(33, (.goto 0, 3, 6, 0, 0, [])), (36, (.iload 4, 2, 0, 0, 0, [])), (38, (.iload 3, 1, 0, 0, 0, [])), (39, (.lsub, 3, 620, 0, 0, [])), (42, (.ireturn, 1, 0, 0, 0, []))]]
abbrev m_Saying_longestPiece : Nat := 51
/-- Saying_sameWords -/
def pm_t52 : pm_T := [[(0, (.ldc 0, 1, 0, 0, 0, [])), (1, (.istore 4, 2, 0, 0, 0, [])), (3, (.ldc 0, 1, 0, 0, 0, [])), (4, (.istore 5, 2, 0, 0, 0, [])), (6, (.iload 5, 2, 0, 0, 0, [])), (8, (.aload 0, 1, 0, 0, 0, [])), (9, (.getfield 1, 3, 3, 0, 0, [(0, 324)])), (12, (.arraylength, 1, 0, 0, 0, [])), (13, (.if_icmp .ge 0, 3, 79, 0, 0, [])), (16, (.iload 2, 1, 0, 0, 0, [])), (17, (.iload 5, 2, 0, 0, 0, [])), (19, (.iadd, 1, 0, 0, 0, [])), (20, (.istore 6, 2, 0, 0, 0, [])), (22, (.iload 6, 2, 0, 0, 0, [])), (24, (.ifCond .lt 0, 3, 79, 0, 0, [])), (27, (.iload 6, 2, 0, 0, 0, [])), (29, (.aload 0, 1, 0, 0, 0, [])), (30, (.getfield 0, 3, 3, 1, 0, [(0, 325)]))],
  [(33, (.if_icmp .ge 0, 3, 79, 0, 0, [])), (36, (.iload 6, 2, 0, 0, 0, [])), (38, (.aload 0, 1, 0, 0, 0, [])), (39, (.getfield 1, 3, 3, 0, 0, [(0, 324)])), (42, (.arraylength, 1, 0, 0, 0, [])), (43, (.if_icmp .lt 0, 3, 49, 0, 0, [])), (46, (.goto 0, 3, 79, 0, 0, [])), (49, (.aload 0, 1, 0, 0, 0, [])), (50, (.getfield 1, 3, 3, 0, 0, [(0, 324)])), (53, (.iload 6, 2, 0, 0, 0, [])), (55, (.iaload, 1, 0, 0, 0, [])), (56, (.aload 1, 1, 0, 0, 0, [])), (57, (.iload 3, 1, 0, 0, 0, [])), (58, (.iload 5, 2, 0, 0, 0, [])), (60, (.iadd, 1, 0, 0, 0, [])), (61, (.invokestatic 1, 3, 63, 2, 618, [(0, 6)]))],
  [(64, (.if_icmp .eq 0, 3, 70, 0, 0, [])), (67, (.goto 0, 3, 79, 0, 0, [])), (70, (.iinc 4 0, 3, 0, 0, 1, [])), (73, (.iinc 5 0, 3, 0, 0, 1, [])), (76, (.goto 0, 3, 6, 0, 0, [])), (79, (.iload 4, 2, 0, 0, 0, [])), (81, (.ireturn, 1, 0, 0, 0, []))]]
abbrev m_Saying_sameWords : Nat := 52
/-- Sheet_init -/
def pm_t53 : pm_T := [[(0, (.aload 0, 1, 0, 0, 0, [])), (1, (.nop, 3, 275, 4, 0, [])), (4, (.aload 0, 1, 0, 0, 0, [])), (5, (.ldc 0, 1, 0, 0, (-1), [])), (6, (.putfield 0, 3, 4, 0, 0, [(0, 276)])), (9, (.aload 0, 1, 0, 0, 0, [])), (10, (.ldc 0, 2, 0, 0, 24, [])), (12, (.newarray .int, 2, 0, 125, 0, [])), (14, (.putfield 1, 3, 4, 2, 0, [(0, 279)])), (17, (.return_, 1, 0, 0, 0, []))]]
abbrev m_Sheet_init : Nat := 53
/-- Sheet_begin -/
def pm_t54 : pm_T := [[(0, (.aload 0, 1, 0, 0, 0, [])), (1, (.iload 1, 1, 0, 0, 0, [])), (2, (.putfield 0, 3, 4, 0, 0, [(0, 276)])), (5, (.aload 0, 1, 0, 0, 0, [])), (6, (.iload 2, 1, 0, 0, 0, [])), (7, (.putfield 0, 3, 4, 1, 0, [(0, 278)])), (10, (.ldc 0, 1, 0, 0, 0, [])), (11, (.istore 3, 1, 0, 0, 0, [])), (12, (.iload 3, 1, 0, 0, 0, [])), (13, (.aload 0, 1, 0, 0, 0, [])), (14, (.getfield 1, 3, 4, 2, 0, [(0, 279)])), (17, (.arraylength, 1, 0, 0, 0, [])), (18, (.if_icmp .ge 0, 3, 34, 0, 0, [])), (21, (.aload 0, 1, 0, 0, 0, [])), (22, (.getfield 1, 3, 4, 2, 0, [(0, 279)])), (25, (.iload 3, 1, 0, 0, 0, [])), (26, (.ldc 0, 1, 0, 0, 0, [])), (27, (.iastore, 1, 0, 0, 0, [])), (28, (.iinc 3 0, 3, 0, 0, 1, [])), (31, (.goto 0, 3, 12, 0, 0, []))],
  [(34, (.return_, 1, 0, 0, 0, []))]]
abbrev m_Sheet_begin : Nat := 54
/-- Sheet_become -/
def pm_t55 : pm_T := [[(0, (.aload 0, 1, 0, 0, 0, [])), (1, (.aload 1, 1, 0, 0, 0, [])), (2, (.getfield 0, 3, 4, 0, 0, [(0, 276)])), (5, (.putfield 0, 3, 4, 0, 0, [(0, 276)])), (8, (.aload 0, 1, 0, 0, 0, [])), (9, (.aload 1, 1, 0, 0, 0, [])), (10, (.getfield 0, 3, 4, 1, 0, [(0, 278)])), (13, (.putfield 0, 3, 4, 1, 0, [(0, 278)])), (16, (.ldc 0, 1, 0, 0, 0, [])), (17, (.istore 2, 1, 0, 0, 0, [])), (18, (.iload 2, 1, 0, 0, 0, [])), (19, (.aload 0, 1, 0, 0, 0, [])), (20, (.getfield 1, 3, 4, 2, 0, [(0, 279)])), (23, (.arraylength, 1, 0, 0, 0, [])), (24, (.if_icmp .ge 0, 3, 45, 0, 0, [])), (27, (.aload 0, 1, 0, 0, 0, [])), (28, (.getfield 1, 3, 4, 2, 0, [(0, 279)])), (31, (.iload 2, 1, 0, 0, 0, []))],
  [(32, (.aload 1, 1, 0, 0, 0, [])), (33, (.getfield 1, 3, 4, 2, 0, [(0, 279)])), (36, (.iload 2, 1, 0, 0, 0, [])), (37, (.iaload, 1, 0, 0, 0, [])), (38, (.iastore, 1, 0, 0, 0, [])), (39, (.iinc 2 0, 3, 0, 0, 1, [])), (42, (.goto 0, 3, 18, 0, 0, [])), (45, (.return_, 1, 0, 0, 0, []))]]
abbrev m_Sheet_become : Nat := 55
/-- Sheet_hasPlace -/
def pm_t56 : pm_T := [[(0, (.iload 1, 1, 0, 0, 0, [])), (1, (.ifCond .lt 0, 3, 25, 0, 0, [])), (4, (.iload 1, 1, 0, 0, 0, [])), (5, (.aload 0, 1, 0, 0, 0, [])), (6, (.getfield 0, 3, 4, 1, 0, [(0, 278)])), (9, (.if_icmp .ge 0, 3, 25, 0, 0, [])), (12, (.iload 1, 1, 0, 0, 0, [])), (13, (.aload 0, 1, 0, 0, 0, [])), (14, (.getfield 1, 3, 4, 2, 0, [(0, 279)])), (17, (.arraylength, 1, 0, 0, 0, [])), (18, (.if_icmp .ge 0, 3, 25, 0, 0, [])), (21, (.ldc 0, 1, 0, 0, 1, [])), (22, (.goto 0, 3, 26, 0, 0, [])), (25, (.ldc 0, 1, 0, 0, 0, [])), (26, (.ireturn, 1, 3, 0, 0, []))]]
abbrev m_Sheet_hasPlace : Nat := 56
/-- Sheet_hasPlaces -/
def pm_t57 : pm_T := [[(0, (.iload 1, 1, 0, 0, 0, [])), (1, (.ifCond .lt 0, 3, 42, 0, 0, [])), (4, (.iload 2, 1, 0, 0, 0, [])), (5, (.ifCond .lt 0, 3, 42, 0, 0, [])), (8, (.iload 1, 1, 0, 0, 0, [])), (9, (.aload 0, 1, 0, 0, 0, [])), (10, (.getfield 0, 3, 4, 1, 0, [(0, 278)])), (13, (.if_icmp .gt 0, 3, 42, 0, 0, [])), (16, (.aload 0, 1, 0, 0, 0, [])), (17, (.getfield 0, 3, 4, 1, 0, [(0, 278)])), (20, (.aload 0, 1, 0, 0, 0, [])), (21, (.getfield 1, 3, 4, 2, 0, [(0, 279)])), (24, (.arraylength, 1, 0, 0, 0, [])), (25, (.if_icmp .gt 0, 3, 42, 0, 0, [])), (28, (.iload 2, 1, 0, 0, 0, [])), (29, (.aload 0, 1, 0, 0, 0, [])), (30, (.getfield 0, 3, 4, 1, 0, [(0, 278)]))],
  [(33, (.iload 1, 1, 0, 0, 0, [])), (34, (.isub, 1, 0, 0, 0, [])), (35, (.if_icmp .gt 0, 3, 42, 0, 0, [])), (38, (.ldc 0, 1, 0, 0, 1, [])), (39, (.goto 0, 3, 43, 0, 0, [])), (42, (.ldc 0, 1, 0, 0, 0, [])), (43, (.ireturn, 1, 3, 0, 0, []))]]
abbrev m_Sheet_hasPlaces : Nat := 57
/-- Slot_init -/
def pm_t58 : pm_T := [[(0, (.aload 0, 1, 0, 0, 0, [])), (1, (.nop, 3, 295, 5, 0, [])), (4, (.aload 0, 1, 0, 0, 0, [])), (5, (.ldc 0, 1, 0, 0, 0, [])), (6, (.putfield 0, 3, 5, 0, 0, [(0, 298)])), (9, (.aload 0, 1, 0, 0, 0, [])), (10, (.new 0, 3, 4, 296, 0, [])), (13, (.dup, 1, 0, 0, 0, [])), (14, (.invokestatic 0, 3, 53, 1, 297, [(0, 4)])), (17, (.putfield 1, 3, 5, 4, 0, [(0, 305)])), (20, (.return_, 1, 0, 0, 0, []))]]
abbrev m_Slot_init : Nat := 58
/-- Slot_holdSpeaker -/
def pm_t59 : pm_T := [[(0, (.aload 0, 1, 0, 0, 0, [])), (1, (.aload 1, 1, 0, 0, 0, [])), (2, (.getfield 0, 3, 6, 0, 0, [(0, 148)])), (5, (.putfield 0, 3, 5, 1, 0, [(0, 300)])), (8, (.aload 0, 1, 0, 0, 0, [])), (9, (.aload 1, 1, 0, 0, 0, [])), (10, (.getfield 0, 3, 6, 2, 0, [(0, 155)])), (13, (.putfield 0, 3, 5, 2, 0, [(0, 302)])), (16, (.return_, 1, 0, 0, 0, []))]]
abbrev m_Slot_holdSpeaker : Nat := 59
/-- Speaker_init -/
def pm_t60 : pm_T := [[(0, (.aload 0, 1, 0, 0, 0, [])), (1, (.nop, 3, 146, 6, 0, [])), (4, (.aload 0, 1, 0, 0, 0, [])), (5, (.ldc 0, 2, 0, 0, 24, [])), (7, (.newarray .int, 2, 0, 125, 0, [])), (9, (.putfield 1, 3, 6, 5, 0, [(0, 166)])), (12, (.return_, 1, 0, 0, 0, []))]]
abbrev m_Speaker_init : Nat := 60
/-- Speaker_begin -/
def pm_t61 : pm_T := [[(0, (.aload 0, 1, 0, 0, 0, [])), (1, (.iload 1, 1, 0, 0, 0, [])), (2, (.putfield 0, 3, 6, 0, 0, [(0, 147)])), (5, (.aload 0, 1, 0, 0, 0, [])), (6, (.iload 2, 1, 0, 0, 0, [])), (7, (.putfield 0, 3, 6, 1, 0, [(0, 152)])), (10, (.aload 0, 1, 0, 0, 0, [])), (11, (.iload 3, 1, 0, 0, 0, [])), (12, (.putfield 0, 3, 6, 2, 0, [(0, 156)])), (15, (.aload 0, 1, 0, 0, 0, [])), (16, (.ldc 0, 1, 0, 0, 0, [])), (17, (.putfield 0, 3, 6, 3, 0, [(0, 159)])), (20, (.aload 0, 1, 0, 0, 0, [])), (21, (.ldc 0, 1, 0, 0, 0, [])), (22, (.putfield 0, 3, 6, 4, 0, [(0, 162)])), (25, (.return_, 1, 0, 0, 0, []))]]
abbrev m_Speaker_begin : Nat := 61
/-- Speaker_become -/
def pm_t62 : pm_T := [[(0, (.aload 0, 1, 0, 0, 0, [])), (1, (.aload 1, 1, 0, 0, 0, [])), (2, (.getfield 0, 3, 6, 0, 0, [(0, 147)])), (5, (.putfield 0, 3, 6, 0, 0, [(0, 147)])), (8, (.aload 0, 1, 0, 0, 0, [])), (9, (.aload 1, 1, 0, 0, 0, [])), (10, (.getfield 0, 3, 6, 1, 0, [(0, 152)])), (13, (.putfield 0, 3, 6, 1, 0, [(0, 152)])), (16, (.aload 0, 1, 0, 0, 0, [])), (17, (.aload 1, 1, 0, 0, 0, [])), (18, (.getfield 0, 3, 6, 2, 0, [(0, 156)])), (21, (.putfield 0, 3, 6, 2, 0, [(0, 156)])), (24, (.aload 0, 1, 0, 0, 0, [])), (25, (.aload 1, 1, 0, 0, 0, [])), (26, (.getfield 0, 3, 6, 3, 0, [(0, 159)])), (29, (.putfield 0, 3, 6, 3, 0, [(0, 159)]))],
  [(32, (.aload 0, 1, 0, 0, 0, [])), (33, (.aload 1, 1, 0, 0, 0, [])), (34, (.getfield 0, 3, 6, 4, 0, [(0, 162)])), (37, (.putfield 0, 3, 6, 4, 0, [(0, 162)])), (40, (.ldc 0, 1, 0, 0, 0, [])), (41, (.istore 2, 1, 0, 0, 0, [])), (42, (.iload 2, 1, 0, 0, 0, [])), (43, (.aload 0, 1, 0, 0, 0, [])), (44, (.getfield 0, 3, 6, 4, 0, [(0, 162)])), (47, (.if_icmp .ge 0, 3, 77, 0, 0, [])), (50, (.iload 2, 1, 0, 0, 0, [])), (51, (.aload 0, 1, 0, 0, 0, [])), (52, (.getfield 1, 3, 6, 5, 0, [(0, 166)])), (55, (.arraylength, 1, 0, 0, 0, [])), (56, (.if_icmp .ge 0, 3, 77, 0, 0, [])), (59, (.aload 0, 1, 0, 0, 0, [])), (60, (.getfield 1, 3, 6, 5, 0, [(0, 166)])), (63, (.iload 2, 1, 0, 0, 0, []))],
  [(64, (.aload 1, 1, 0, 0, 0, [])), (65, (.getfield 1, 3, 6, 5, 0, [(0, 166)])), (68, (.iload 2, 1, 0, 0, 0, [])), (69, (.iaload, 1, 0, 0, 0, [])), (70, (.iastore, 1, 0, 0, 0, [])), (71, (.iinc 2 0, 3, 0, 0, 1, [])), (74, (.goto 0, 3, 42, 0, 0, [])), (77, (.return_, 1, 0, 0, 0, []))]]
abbrev m_Speaker_become : Nat := 62
/-- Speaker_wordAt -/
def pm_t63 : pm_T := [[(0, (.iload 1, 1, 0, 0, 0, [])), (1, (.ifCond .lt 0, 3, 30, 0, 0, [])), (4, (.iload 1, 1, 0, 0, 0, [])), (5, (.aload 0, 1, 0, 0, 0, [])), (6, (.getfield 0, 3, 6, 4, 0, [(0, 162)])), (9, (.if_icmp .ge 0, 3, 30, 0, 0, [])), (12, (.iload 1, 1, 0, 0, 0, [])), (13, (.aload 0, 1, 0, 0, 0, [])), (14, (.getfield 1, 3, 6, 5, 0, [(0, 166)])), (17, (.arraylength, 1, 0, 0, 0, [])), (18, (.if_icmp .ge 0, 3, 30, 0, 0, [])), (21, (.aload 0, 1, 0, 0, 0, [])), (22, (.getfield 1, 3, 6, 5, 0, [(0, 166)])), (25, (.iload 1, 1, 0, 0, 0, [])), (26, (.iaload, 1, 0, 0, 0, [])), (27, (.goto 0, 3, 32, 0, 0, [])), (30, (.ldc 0, 2, 466, 0, (-1000000005), []))],
  [(32, (.ireturn, 1, 0, 0, 0, []))]]
abbrev m_Speaker_wordAt : Nat := 63
/-- Speaker_wordSet -/
def pm_t64 : pm_T := [[(0, (.ldc 0, 1, 0, 0, 0, [])), (1, (.istore 1, 1, 0, 0, 0, [])), (2, (.ldc 0, 1, 0, 0, 0, [])), (3, (.istore 2, 1, 0, 0, 0, [])), (4, (.iload 2, 1, 0, 0, 0, [])), (5, (.aload 0, 1, 0, 0, 0, [])), (6, (.getfield 0, 3, 6, 4, 0, [(0, 162)])), (9, (.if_icmp .ge 0, 3, 38, 0, 0, [])), (12, (.iload 2, 1, 0, 0, 0, [])), (13, (.aload 0, 1, 0, 0, 0, [])), (14, (.getfield 1, 3, 6, 5, 0, [(0, 166)])), (17, (.arraylength, 1, 0, 0, 0, [])), (18, (.if_icmp .ge 0, 3, 38, 0, 0, [])), (21, (.iload 1, 1, 0, 0, 0, [])), (22, (.ldc 0, 1, 0, 0, 1, [])), (23, (.aload 0, 1, 0, 0, 0, [])), (24, (.getfield 1, 3, 6, 5, 0, [(0, 166)])), (27, (.iload 2, 1, 0, 0, 0, [])), (28, (.iaload, 1, 0, 0, 0, [])), (29, (.ishl, 1, 0, 0, 0, [])), (30, (.ior, 1, 0, 0, 0, [])), (31, (.istore 1, 1, 0, 0, 0, []))],
  [(32, (.iinc 2 0, 3, 0, 0, 1, [])), (35, (.goto 0, 3, 4, 0, 0, [])), (38, (.iload 1, 1, 0, 0, 0, [])), (39, (.ireturn, 1, 0, 0, 0, []))]]
abbrev m_Speaker_wordSet : Nat := 64
/-- Speaker_putBehind -/
def pm_t65 : pm_T := [[(0, (.ldc 0, 1, 0, 0, 0, [])), (1, (.istore 4, 2, 0, 0, 0, [])), (3, (.iload 4, 2, 0, 0, 0, [])), (5, (.iload 3, 1, 0, 0, 0, [])), (6, (.if_icmp .ge 0, 3, 76, 0, 0, [])), (9, (.iload 2, 1, 0, 0, 0, [])), (10, (.iload 4, 2, 0, 0, 0, [])), (12, (.iadd, 1, 0, 0, 0, [])), (13, (.istore 5, 2, 0, 0, 0, [])), (15, (.iload 5, 2, 0, 0, 0, [])), (17, (.ifCond .lt 0, 3, 46, 0, 0, [])), (20, (.iload 5, 2, 0, 0, 0, [])), (22, (.aload 1, 1, 0, 0, 0, [])), (23, (.arraylength, 1, 0, 0, 0, [])), (24, (.if_icmp .ge 0, 3, 46, 0, 0, [])), (27, (.aload 0, 1, 0, 0, 0, [])), (28, (.getfield 0, 3, 6, 4, 0, [(0, 162)])), (31, (.ifCond .lt 0, 3, 46, 0, 0, []))],
  [(34, (.aload 0, 1, 0, 0, 0, [])), (35, (.getfield 0, 3, 6, 4, 0, [(0, 162)])), (38, (.aload 0, 1, 0, 0, 0, [])), (39, (.getfield 1, 3, 6, 5, 0, [(0, 166)])), (42, (.arraylength, 1, 0, 0, 0, [])), (43, (.if_icmp .lt 0, 3, 47, 0, 0, [])), (46, (.return_, 1, 0, 0, 0, [])), (47, (.aload 0, 1, 0, 0, 0, [])), (48, (.getfield 1, 3, 6, 5, 0, [(0, 166)])), (51, (.aload 0, 1, 0, 0, 0, [])), (52, (.getfield 0, 3, 6, 4, 0, [(0, 162)])), (55, (.aload 1, 1, 0, 0, 0, [])), (56, (.iload 5, 2, 0, 0, 0, [])), (58, (.iaload, 1, 0, 0, 0, [])), (59, (.iastore, 1, 0, 0, 0, [])), (60, (.aload 0, 1, 0, 0, 0, [])), (61, (.dup, 1, 0, 0, 0, [])), (62, (.getfield 0, 3, 6, 4, 0, [(0, 162)]))],
  [(65, (.ldc 0, 1, 0, 0, 1, [])), (66, (.iadd, 1, 0, 0, 0, [])), (67, (.putfield 0, 3, 6, 4, 0, [(0, 162)])), (70, (.iinc 4 0, 3, 0, 0, 1, [])), (73, (.goto 0, 3, 3, 0, 0, [])), (76, (.return_, 1, 0, 0, 0, []))]]
abbrev m_Speaker_putBehind : Nat := 65
/-- Speaker_forgetOldest -/
def pm_t66 : pm_T := [[(0, (.iload 1, 1, 0, 0, 0, [])), (1, (.ldc 0, 1, 0, 0, 1, [])), (2, (.if_icmp .lt 0, 3, 13, 0, 0, [])), (5, (.iload 1, 1, 0, 0, 0, [])), (6, (.aload 0, 1, 0, 0, 0, [])), (7, (.getfield 0, 3, 6, 4, 0, [(0, 162)])), (10, (.if_icmp .le 0, 3, 14, 0, 0, [])), (13, (.return_, 1, 0, 0, 0, [])), (14, (.aload 0, 1, 0, 0, 0, [])), (15, (.dup, 1, 0, 0, 0, [])), (16, (.getfield 0, 3, 6, 4, 0, [(0, 162)])), (19, (.iload 1, 1, 0, 0, 0, [])), (20, (.isub, 1, 0, 0, 0, [])), (21, (.putfield 0, 3, 6, 4, 0, [(0, 162)])), (24, (.ldc 0, 1, 0, 0, 0, [])), (25, (.istore 2, 1, 0, 0, 0, [])), (26, (.iload 2, 1, 0, 0, 0, [])), (27, (.aload 0, 1, 0, 0, 0, [])), (28, (.getfield 0, 3, 6, 4, 0, [(0, 162)])), (31, (.if_icmp .ge 0, 3, 65, 0, 0, []))],
  [(34, (.iload 2, 1, 0, 0, 0, [])), (35, (.iload 1, 1, 0, 0, 0, [])), (36, (.iadd, 1, 0, 0, 0, [])), (37, (.aload 0, 1, 0, 0, 0, [])), (38, (.getfield 1, 3, 6, 5, 0, [(0, 166)])), (41, (.arraylength, 1, 0, 0, 0, [])), (42, (.if_icmp .ge 0, 3, 65, 0, 0, [])), (45, (.aload 0, 1, 0, 0, 0, [])), (46, (.getfield 1, 3, 6, 5, 0, [(0, 166)])), (49, (.iload 2, 1, 0, 0, 0, [])), (50, (.aload 0, 1, 0, 0, 0, [])), (51, (.getfield 1, 3, 6, 5, 0, [(0, 166)])), (54, (.iload 2, 1, 0, 0, 0, [])), (55, (.iload 1, 1, 0, 0, 0, [])), (56, (.iadd, 1, 0, 0, 0, [])), (57, (.iaload, 1, 0, 0, 0, [])), (58, (.iastore, 1, 0, 0, 0, [])), (59, (.iinc 2 0, 3, 0, 0, 1, [])), (62, (.goto 0, 3, 26, 0, 0, []))],
  [(65, (.return_, 1, 0, 0, 0, []))]]
abbrev m_Speaker_forgetOldest : Nat := 66
/-- Tape_init -/
def pm_t67 : pm_T := [[(0, (.aload 0, 1, 0, 0, 0, [])), (1, (.nop, 3, 227, 7, 0, [])), (4, (.aload 0, 1, 0, 0, 0, [])), (5, (.ldc 0, 2, 0, 0, 96, [])), (7, (.newarray .int, 2, 0, 125, 0, [])), (9, (.putfield 1, 3, 7, 0, 0, [(0, 228)])), (12, (.return_, 1, 0, 0, 0, []))]]
abbrev m_Tape_init : Nat := 67
/-- Tape_putNumber -/
def pm_t68 : pm_T := [[(0, (.ldc 0, 2, 0, 0, 24, [])), (2, (.istore 2, 1, 0, 0, 0, [])), (3, (.iload 2, 1, 0, 0, 0, [])), (4, (.ifCond .lt 0, 3, 59, 0, 0, [])), (7, (.aload 0, 1, 0, 0, 0, [])), (8, (.getfield 0, 3, 7, 1, 0, [(0, 229)])), (11, (.ifCond .lt 0, 3, 26, 0, 0, [])), (14, (.aload 0, 1, 0, 0, 0, [])), (15, (.getfield 0, 3, 7, 1, 0, [(0, 229)])), (18, (.aload 0, 1, 0, 0, 0, [])), (19, (.getfield 1, 3, 7, 0, 0, [(0, 228)])), (22, (.arraylength, 1, 0, 0, 0, [])), (23, (.if_icmp .lt 0, 3, 27, 0, 0, [])), (26, (.return_, 1, 0, 0, 0, [])), (27, (.aload 0, 1, 0, 0, 0, [])), (28, (.getfield 1, 3, 7, 0, 0, [(0, 228)])), (31, (.aload 0, 1, 0, 0, 0, []))],
  [(32, (.getfield 0, 3, 7, 1, 0, [(0, 229)])), (35, (.iload 1, 1, 0, 0, 0, [])), (36, (.iload 2, 1, 0, 0, 0, [])), (37, (.iushr, 1, 0, 0, 0, [])), (38, (.ldc 0, 3, 0, 0, 255, [])), (41, (.iand, 1, 0, 0, 0, [])), (42, (.iastore, 1, 0, 0, 0, [])), (43, (.aload 0, 1, 0, 0, 0, [])), (44, (.dup, 1, 0, 0, 0, [])), (45, (.getfield 0, 3, 7, 1, 0, [(0, 229)])), (48, (.ldc 0, 1, 0, 0, 1, [])), (49, (.iadd, 1, 0, 0, 0, [])), (50, (.putfield 0, 3, 7, 1, 0, [(0, 229)])), (53, (.iinc 2 0, 3, 0, 0, (-8), [])), (56, (.goto 0, 3, 3, 0, 0, [])), (59, (.return_, 1, 0, 0, 0, []))]]
abbrev m_Tape_putNumber : Nat := 68
/-- Tape_byteAt -/
def pm_t69 : pm_T := [[(0, (.iload 1, 1, 0, 0, 0, [])), (1, (.ifCond .lt 0, 3, 30, 0, 0, [])), (4, (.iload 1, 1, 0, 0, 0, [])), (5, (.aload 0, 1, 0, 0, 0, [])), (6, (.getfield 0, 3, 7, 1, 0, [(0, 229)])), (9, (.if_icmp .ge 0, 3, 30, 0, 0, [])), (12, (.iload 1, 1, 0, 0, 0, [])), (13, (.aload 0, 1, 0, 0, 0, [])), (14, (.getfield 1, 3, 7, 0, 0, [(0, 228)])), (17, (.arraylength, 1, 0, 0, 0, [])), (18, (.if_icmp .ge 0, 3, 30, 0, 0, [])), (21, (.aload 0, 1, 0, 0, 0, [])), (22, (.getfield 1, 3, 7, 0, 0, [(0, 228)])), (25, (.iload 1, 1, 0, 0, 0, [])), (26, (.iaload, 1, 0, 0, 0, [])), (27, (.goto 0, 3, 31, 0, 0, [])), (30, (.ldc 0, 1, 0, 0, (-1), [])), (31, (.ireturn, 1, 0, 0, 0, []))]]
abbrev m_Tape_byteAt : Nat := 69
/-- Text_init -/
def pm_t70 : pm_T := [[(0, (.aload 0, 1, 0, 0, 0, [])), (1, (.nop, 3, 105, 8, 0, [])), (4, (.aload 0, 1, 0, 0, 0, [])), (5, (.ldc 0, 2, 0, 0, 96, [])), (7, (.newarray .int, 2, 0, 125, 0, [])), (9, (.putfield 1, 3, 8, 3, 0, [(0, 114)])), (12, (.return_, 1, 0, 0, 0, []))]]
abbrev m_Text_init : Nat := 70
/-- Text_begin -/
def pm_t71 : pm_T := [[(0, (.aload 0, 1, 0, 0, 0, [])), (1, (.ldc 0, 1, 0, 0, 0, [])), (2, (.putfield 0, 3, 8, 0, 0, [(0, 106)])), (5, (.aload 0, 1, 0, 0, 0, [])), (6, (.ldc 0, 1, 0, 0, 0, [])), (7, (.putfield 0, 3, 8, 1, 0, [(0, 109)])), (10, (.aload 0, 1, 0, 0, 0, [])), (11, (.ldc 0, 1, 0, 0, 0, [])), (12, (.putfield 0, 3, 8, 2, 0, [(0, 112)])), (15, (.return_, 1, 0, 0, 0, []))]]
abbrev m_Text_begin : Nat := 71
/-- Text_put -/
def pm_t72 : pm_T := [[(0, (.aload 0, 1, 0, 0, 0, [])), (1, (.getfield 0, 3, 8, 2, 0, [(0, 112)])), (4, (.ifCond .lt 0, 3, 19, 0, 0, [])), (7, (.aload 0, 1, 0, 0, 0, [])), (8, (.getfield 0, 3, 8, 2, 0, [(0, 112)])), (11, (.aload 0, 1, 0, 0, 0, [])), (12, (.getfield 1, 3, 8, 3, 0, [(0, 114)])), (15, (.arraylength, 1, 0, 0, 0, [])), (16, (.if_icmp .lt 0, 3, 20, 0, 0, [])), (19, (.return_, 1, 0, 0, 0, [])), (20, (.aload 0, 1, 0, 0, 0, [])), (21, (.getfield 1, 3, 8, 3, 0, [(0, 114)])), (24, (.aload 0, 1, 0, 0, 0, [])), (25, (.getfield 0, 3, 8, 2, 0, [(0, 112)])), (28, (.iload 1, 1, 0, 0, 0, [])), (29, (.iastore, 1, 0, 0, 0, [])), (30, (.aload 0, 1, 0, 0, 0, [])), (31, (.dup, 1, 0, 0, 0, []))],
  [(32, (.getfield 0, 3, 8, 2, 0, [(0, 112)])), (35, (.ldc 0, 1, 0, 0, 1, [])), (36, (.iadd, 1, 0, 0, 0, [])), (37, (.putfield 0, 3, 8, 2, 0, [(0, 112)])), (40, (.return_, 1, 0, 0, 0, []))]]
abbrev m_Text_put : Nat := 72
/-- E_init -/
def pm_t73 : pm_T := [[(0, (.aload 0, 1, 0, 0, 0, [])), (1, (.nop, 3, 90, 9, 0, [])), (4, (.aload 0, 1, 0, 0, 0, [])), (5, (.new 0, 3, 1, 93, 0, [])), (8, (.dup, 1, 0, 0, 0, [])), (9, (.invokestatic 0, 3, 22, 1, 95, [(0, 1)])), (12, (.putfield 1, 3, 9, 0, 0, [(0, 332)])), (15, (.aload 0, 1, 0, 0, 0, [])), (16, (.new 0, 3, 0, 134, 0, [])), (19, (.dup, 1, 0, 0, 0, [])), (20, (.aload 0, 1, 0, 0, 0, [])), (21, (.getfield 1, 3, 9, 0, 0, [(0, 332)])), (24, (.invokestatic 0, 3, 0, 2, 136, [(0, 0)])), (27, (.putfield 1, 3, 9, 1, 0, [(0, 333)])), (30, (.aload 0, 1, 0, 0, 0, [])), (31, (.new 0, 3, 0, 134, 0, []))],
  [(34, (.dup, 1, 0, 0, 0, [])), (35, (.aload 0, 1, 0, 0, 0, [])), (36, (.getfield 1, 3, 9, 0, 0, [(0, 332)])), (39, (.invokestatic 0, 3, 0, 2, 136, [(0, 0)])), (42, (.putfield 1, 3, 9, 2, 0, [(0, 334)])), (45, (.aload 0, 1, 0, 0, 0, [])), (46, (.new 0, 3, 0, 134, 0, [])), (49, (.dup, 1, 0, 0, 0, [])), (50, (.aload 0, 1, 0, 0, 0, [])), (51, (.getfield 1, 3, 9, 0, 0, [(0, 332)])), (54, (.invokestatic 0, 3, 0, 2, 136, [(0, 0)])), (57, (.putfield 1, 3, 9, 3, 0, [(0, 335)])), (60, (.aload 0, 1, 0, 0, 0, [])), (61, (.new 0, 3, 7, 222, 0, []))],
  [(64, (.dup, 1, 0, 0, 0, [])), (65, (.invokestatic 0, 3, 67, 1, 224, [(0, 7)])), (68, (.putfield 1, 3, 9, 5, 0, [(0, 337)])), (71, (.aload 0, 1, 0, 0, 0, [])), (72, (.new 0, 3, 2, 236, 0, [])), (75, (.dup, 1, 0, 0, 0, [])), (76, (.aload 0, 1, 0, 0, 0, [])), (77, (.getfield 1, 3, 9, 5, 0, [(0, 337)])), (80, (.invokestatic 0, 3, 27, 2, 238, [(0, 2)])), (83, (.putfield 1, 3, 9, 6, 0, [(0, 338)])), (86, (.aload 0, 1, 0, 0, 0, [])), (87, (.ldc 0, 1, 0, 0, 4, [])), (88, (.newarray .int, 3, 5, 269, 0, [])), (91, (.putfield 1, 3, 9, 7, 0, [(0, 339)])), (94, (.ldc 0, 1, 0, 0, 0, [])), (95, (.istore 1, 1, 0, 0, 0, []))],
  [(96, (.iload 1, 1, 0, 0, 0, [])), (97, (.aload 0, 1, 0, 0, 0, [])), (98, (.getfield 1, 3, 9, 7, 0, [(0, 339)])), (101, (.arraylength, 1, 0, 0, 0, [])), (102, (.if_icmp .ge 0, 3, 124, 0, 0, [])), (105, (.aload 0, 1, 0, 0, 0, [])), (106, (.getfield 1, 3, 9, 7, 0, [(0, 339)])), (109, (.iload 1, 1, 0, 0, 0, [])), (110, (.new 0, 3, 4, 269, 0, [])), (113, (.dup, 1, 0, 0, 0, [])), (114, (.invokestatic 0, 3, 53, 1, 272, [(0, 4)])), (117, (.aastore, 1, 5, 4, 0, [])), (118, (.iinc 1 0, 3, 0, 0, 1, [])), (121, (.goto 0, 3, 96, 0, 0, [])), (124, (.aload 0, 1, 0, 0, 0, [])), (125, (.ldc 0, 1, 0, 0, 5, [])), (126, (.newarray .int, 3, 6, 289, 0, []))],
  [(129, (.putfield 1, 3, 9, 8, 0, [(0, 340)])), (132, (.ldc 0, 1, 0, 0, 0, [])), (133, (.istore 1, 1, 0, 0, 0, [])), (134, (.iload 1, 1, 0, 0, 0, [])), (135, (.aload 0, 1, 0, 0, 0, [])), (136, (.getfield 1, 3, 9, 8, 0, [(0, 340)])), (139, (.arraylength, 1, 0, 0, 0, [])), (140, (.if_icmp .ge 0, 3, 162, 0, 0, [])), (143, (.aload 0, 1, 0, 0, 0, [])), (144, (.getfield 1, 3, 9, 8, 0, [(0, 340)])), (147, (.iload 1, 1, 0, 0, 0, [])), (148, (.new 0, 3, 5, 289, 0, [])), (151, (.dup, 1, 0, 0, 0, [])), (152, (.invokestatic 0, 3, 58, 1, 292, [(0, 5)])), (155, (.aastore, 1, 6, 5, 0, [])), (156, (.iinc 1 0, 3, 0, 0, 1, [])), (159, (.goto 0, 3, 134, 0, 0, []))],
  [(162, (.aload 0, 1, 0, 0, 0, [])), (163, (.new 0, 3, 3, 318, 0, [])), (166, (.dup, 1, 0, 0, 0, [])), (167, (.invokestatic 0, 3, 47, 1, 320, [(0, 3)])), (170, (.putfield 1, 3, 9, 9, 0, [(0, 341)])), (173, (.aload 0, 1, 0, 0, 0, [])), (174, (.ldc 0, 1, 0, 0, 3, [])), (175, (.newarray .int, 2, 0, 125, 0, [])), (177, (.putfield 1, 3, 9, 10, 0, [(0, 342)])), (180, (.aload 0, 1, 0, 0, 0, [])), (181, (.ldc 0, 2, 0, 0, 60, [])), (183, (.newarray .int, 2, 0, 125, 0, [])), (185, (.putfield 1, 3, 9, 11, 0, [(0, 343)])), (188, (.return_, 1, 0, 0, 0, []))]]
abbrev m_E_init : Nat := 73
/-- E_speaker -/
def pm_t74 : pm_T := [[(0, (.iload 1, 1, 0, 0, 0, [])), (1, (.invokestatic 1, 3, 118, 1, 376, [])), (4, (.ifCond .eq 0, 3, 21, 0, 0, [])), (7, (.iload 2, 1, 0, 0, 0, [])), (8, (.invokestatic 1, 3, 119, 1, 379, [])), (11, (.ifCond .eq 0, 3, 21, 0, 0, [])), (14, (.iload 3, 1, 0, 0, 0, [])), (15, (.invokestatic 1, 3, 120, 1, 382, [])), (18, (.ifCond .ne 0, 3, 24, 0, 0, [])), (21, (.ldc 0, 2, 385, 0, (-1000000001), [])), (23, (.ireturn, 1, 0, 0, 0, [])), (24, (.aload 0, 1, 0, 0, 0, [])), (25, (.getfield 1, 3, 9, 1, 0, [(0, 333)])), (28, (.invokestatic 1, 3, 3, 1, 386, [(0, 0)])), (31, (.ifCond .ne 0, 3, 37, 0, 0, []))],
  [(34, (.ldc 0, 2, 390, 0, (-1000000003), [])), (36, (.ireturn, 1, 0, 0, 0, [])), (37, (.aload 0, 1, 0, 0, 0, [])), (38, (.getfield 1, 3, 9, 1, 0, [(0, 333)])), (41, (.iload 1, 1, 0, 0, 0, [])), (42, (.iload 2, 1, 0, 0, 0, [])), (43, (.iload 3, 1, 0, 0, 0, [])), (44, (.invokestatic 0, 3, 4, 4, 391, [(0, 0)])), (47, (.aload 0, 1, 0, 0, 0, [])), (48, (.getfield 1, 3, 9, 1, 0, [(0, 333)])), (51, (.getfield 0, 3, 0, 2, 0, [(0, 187)])), (54, (.ldc 0, 1, 0, 0, 1, [])), (55, (.isub, 1, 0, 0, 0, [])), (56, (.ireturn, 1, 0, 0, 0, []))]]
abbrev m_E_speaker : Nat := 74
/-- E_told -/
def pm_t75 : pm_T := [[(0, (.aload 0, 1, 0, 0, 0, [])), (1, (.getfield 1, 3, 9, 1, 0, [(0, 333)])), (4, (.iload 1, 1, 0, 0, 0, [])), (5, (.invokestatic 1, 3, 2, 2, 404, [(0, 0)])), (8, (.ifCond .ne 0, 3, 14, 0, 0, [])), (11, (.ldc 0, 2, 385, 0, (-1000000001), [])), (13, (.ireturn, 1, 0, 0, 0, [])), (14, (.aload 0, 1, 0, 0, 0, [])), (15, (.getfield 1, 3, 9, 1, 0, [(0, 333)])), (18, (.getfield 1, 3, 0, 1, 0, [(0, 185)])), (21, (.iload 1, 1, 0, 0, 0, [])), (22, (.aaload, 1, 4, 0, 0, [])), (23, (.astore 3, 1, 0, 0, 0, [])), (24, (.iload 2, 1, 0, 0, 0, [])), (25, (.lookupswitch 0 #[], 55, 155, 0, 0, [(0, 80), (1, 85), (2, 90), (3, 95), (4, 100), (5, 105), (6, 110), (7, 123), (8, 135), (9, 143)]))],
  [],
  [(80, (.aload 3, 1, 0, 0, 0, [])), (81, (.getfield 0, 3, 6, 0, 0, [(0, 149)])), (84, (.ireturn, 1, 0, 0, 0, [])), (85, (.aload 3, 1, 0, 0, 0, [])), (86, (.getfield 0, 3, 6, 1, 0, [(0, 153)])), (89, (.ireturn, 1, 0, 0, 0, [])), (90, (.aload 3, 1, 0, 0, 0, [])), (91, (.getfield 0, 3, 6, 2, 0, [(0, 157)])), (94, (.ireturn, 1, 0, 0, 0, [])), (95, (.aload 3, 1, 0, 0, 0, []))],
  [(96, (.getfield 0, 3, 6, 3, 0, [(0, 160)])), (99, (.ireturn, 1, 0, 0, 0, [])), (100, (.aload 3, 1, 0, 0, 0, [])), (101, (.getfield 0, 3, 6, 4, 0, [(0, 163)])), (104, (.ireturn, 1, 0, 0, 0, [])), (105, (.aload 3, 1, 0, 0, 0, [])), (106, (.invokestatic 1, 3, 64, 1, 408, [(0, 6)])), (109, (.ireturn, 1, 0, 0, 0, [])), (110, (.aload 0, 1, 0, 0, 0, [])), (111, (.getfield 1, 3, 9, 1, 0, [(0, 333)])), (114, (.aload 3, 1, 0, 0, 0, [])), (115, (.aload 3, 1, 0, 0, 0, [])), (116, (.getfield 0, 3, 6, 4, 0, [(0, 163)])), (119, (.invokestatic 1, 3, 9, 3, 412, [(0, 0)])), (122, (.ireturn, 1, 0, 0, 0, [])), (123, (.aload 3, 1, 0, 0, 0, [])), (124, (.getfield 0, 3, 6, 0, 0, [(0, 149)])), (127, (.aload 3, 1, 0, 0, 0, []))],
  [(128, (.getfield 0, 3, 6, 1, 0, [(0, 153)])), (131, (.invokestatic 1, 3, 19, 2, 446, [])), (134, (.ireturn, 1, 0, 0, 0, [])), (135, (.aload 3, 1, 0, 0, 0, [])), (136, (.getfield 0, 3, 6, 0, 0, [(0, 149)])), (139, (.invokestatic 1, 3, 20, 1, 449, [])), (142, (.ireturn, 1, 0, 0, 0, [])), (143, (.aload 3, 1, 0, 0, 0, [])), (144, (.getfield 0, 3, 6, 0, 0, [(0, 149)])), (147, (.aload 3, 1, 0, 0, 0, [])), (148, (.getfield 0, 3, 6, 2, 0, [(0, 157)])), (151, (.invokestatic 1, 3, 21, 2, 452, [])), (154, (.ireturn, 1, 0, 0, 0, [])), (155, (.ldc 0, 2, 385, 0, (-1000000001), [])), (157, (.ireturn, 1, 0, 0, 0, []))]]
abbrev m_E_told : Nat := 75
/-- E_heard -/
def pm_t76 : pm_T := [[(0, (.aload 0, 1, 0, 0, 0, [])), (1, (.getfield 1, 3, 9, 1, 0, [(0, 333)])), (4, (.iload 1, 1, 0, 0, 0, [])), (5, (.invokestatic 1, 3, 2, 2, 404, [(0, 0)])), (8, (.ifCond .eq 0, 3, 18, 0, 0, [])), (11, (.iload 2, 1, 0, 0, 0, [])), (12, (.invokestatic 1, 3, 123, 1, 459, [])), (15, (.ifCond .ne 0, 3, 21, 0, 0, [])), (18, (.ldc 0, 2, 385, 0, (-1000000001), [])), (20, (.ireturn, 1, 0, 0, 0, [])), (21, (.aload 0, 1, 0, 0, 0, [])), (22, (.getfield 1, 3, 9, 1, 0, [(0, 333)])), (25, (.getfield 1, 3, 0, 1, 0, [(0, 185)])), (28, (.iload 1, 1, 0, 0, 0, [])), (29, (.aaload, 1, 4, 0, 0, [])), (30, (.iload 2, 1, 0, 0, 0, [])), (31, (.invokestatic 1, 3, 63, 2, 462, [(0, 6)]))],
  [(34, (.ireturn, 1, 0, 0, 0, []))]]
abbrev m_E_heard : Nat := 76
/-- E_as -/
def pm_t77 : pm_T := [[(0, (.aload 0, 1, 0, 0, 0, [])), (1, (.getfield 1, 3, 9, 1, 0, [(0, 333)])), (4, (.iload 1, 1, 0, 0, 0, [])), (5, (.invokestatic 1, 3, 2, 2, 404, [(0, 0)])), (8, (.ifCond .eq 0, 3, 18, 0, 0, [])), (11, (.iload 2, 1, 0, 0, 0, [])), (12, (.invokestatic 1, 3, 118, 1, 376, [])), (15, (.ifCond .ne 0, 3, 21, 0, 0, [])), (18, (.ldc 0, 2, 385, 0, (-1000000001), [])), (20, (.ireturn, 1, 0, 0, 0, [])), (21, (.aload 0, 1, 0, 0, 0, [])), (22, (.getfield 1, 3, 9, 1, 0, [(0, 333)])), (25, (.getfield 1, 3, 0, 1, 0, [(0, 185)])), (28, (.iload 1, 1, 0, 0, 0, [])), (29, (.aaload, 1, 4, 0, 0, [])), (30, (.astore 3, 1, 0, 0, 0, [])), (31, (.aload 3, 1, 0, 0, 0, []))],
  [(32, (.getfield 0, 3, 6, 0, 0, [(0, 149)])), (35, (.iload 2, 1, 0, 0, 0, [])), (36, (.invokestatic 1, 3, 17, 2, 471, [])), (39, (.ifCond .eq 0, 3, 49, 0, 0, [])), (42, (.aload 3, 1, 0, 0, 0, [])), (43, (.getfield 0, 3, 6, 2, 0, [(0, 157)])), (46, (.goto 0, 3, 51, 0, 0, [])), (49, (.ldc 0, 2, 476, 0, (-1000000012), [])), (51, (.ireturn, 1, 0, 0, 0, []))]]
abbrev m_E_as : Nat := 77
/-- E_turns -/
def pm_t78 : pm_T := [[(0, (.aload 0, 1, 0, 0, 0, [])), (1, (.getfield 1, 3, 9, 1, 0, [(0, 333)])), (4, (.iload 1, 1, 0, 0, 0, [])), (5, (.invokestatic 1, 3, 2, 2, 404, [(0, 0)])), (8, (.ifCond .eq 0, 3, 18, 0, 0, [])), (11, (.iload 2, 1, 0, 0, 0, [])), (12, (.invokestatic 1, 3, 118, 1, 376, [])), (15, (.ifCond .ne 0, 3, 21, 0, 0, [])), (18, (.ldc 0, 2, 385, 0, (-1000000001), [])), (20, (.ireturn, 1, 0, 0, 0, [])), (21, (.aload 0, 1, 0, 0, 0, [])), (22, (.getfield 1, 3, 9, 1, 0, [(0, 333)])), (25, (.getfield 1, 3, 0, 1, 0, [(0, 185)])), (28, (.iload 1, 1, 0, 0, 0, [])), (29, (.aaload, 1, 4, 0, 0, [])), (30, (.astore 3, 1, 0, 0, 0, [])), (31, (.aload 3, 1, 0, 0, 0, []))],
  [(32, (.getfield 0, 3, 6, 0, 0, [(0, 149)])), (35, (.istore 4, 2, 0, 0, 0, [])), (37, (.aload 3, 1, 0, 0, 0, [])), (38, (.iload 2, 1, 0, 0, 0, [])), (39, (.putfield 0, 3, 6, 0, 0, [(0, 149)])), (42, (.iload 4, 2, 0, 0, 0, [])), (44, (.ireturn, 1, 0, 0, 0, []))]]
abbrev m_E_turns : Nat := 78
/-- E_set -/
def pm_t79 : pm_T := [[(0, (.aload 0, 1, 0, 0, 0, [])), (1, (.getfield 1, 3, 9, 1, 0, [(0, 333)])), (4, (.iload 1, 1, 0, 0, 0, [])), (5, (.invokestatic 1, 3, 2, 2, 404, [(0, 0)])), (8, (.ifCond .ne 0, 3, 14, 0, 0, [])), (11, (.ldc 0, 2, 385, 0, (-1000000001), [])), (13, (.ireturn, 1, 0, 0, 0, [])), (14, (.aload 0, 1, 0, 0, 0, [])), (15, (.getfield 1, 3, 9, 1, 0, [(0, 333)])), (18, (.getfield 1, 3, 0, 1, 0, [(0, 185)])), (21, (.iload 1, 1, 0, 0, 0, [])), (22, (.aaload, 1, 4, 0, 0, [])), (23, (.astore 4, 2, 0, 0, 0, [])), (25, (.iload 2, 1, 0, 0, 0, [])), (26, (.ldc 0, 1, 0, 0, 1, [])), (27, (.if_icmp .ne 0, 3, 53, 0, 0, [])), (30, (.iload 3, 1, 0, 0, 0, [])), (31, (.invokestatic 1, 3, 119, 1, 379, []))],
  [(34, (.ifCond .eq 0, 3, 53, 0, 0, [])), (37, (.aload 4, 2, 0, 0, 0, [])), (39, (.getfield 0, 3, 6, 1, 0, [(0, 153)])), (42, (.istore 5, 2, 0, 0, 0, [])), (44, (.aload 4, 2, 0, 0, 0, [])), (46, (.iload 3, 1, 0, 0, 0, [])), (47, (.putfield 0, 3, 6, 1, 0, [(0, 153)])), (50, (.iload 5, 2, 0, 0, 0, [])), (52, (.ireturn, 1, 0, 0, 0, [])), (53, (.iload 2, 1, 0, 0, 0, [])), (54, (.ldc 0, 1, 0, 0, 2, [])), (55, (.if_icmp .ne 0, 3, 81, 0, 0, [])), (58, (.iload 3, 1, 0, 0, 0, [])), (59, (.invokestatic 1, 3, 120, 1, 382, [])), (62, (.ifCond .eq 0, 3, 81, 0, 0, []))],
  [(65, (.aload 4, 2, 0, 0, 0, [])), (67, (.getfield 0, 3, 6, 2, 0, [(0, 157)])), (70, (.istore 5, 2, 0, 0, 0, [])), (72, (.aload 4, 2, 0, 0, 0, [])), (74, (.iload 3, 1, 0, 0, 0, [])), (75, (.putfield 0, 3, 6, 2, 0, [(0, 157)])), (78, (.iload 5, 2, 0, 0, 0, [])), (80, (.ireturn, 1, 0, 0, 0, [])), (81, (.ldc 0, 2, 385, 0, (-1000000001), [])), (83, (.ireturn, 1, 0, 0, 0, []))]]
abbrev m_E_set : Nat := 79
/-- E_speaks -/
def pm_t80 : pm_T := [[(0, (.aload 0, 1, 0, 0, 0, [])), (1, (.getfield 1, 3, 9, 1, 0, [(0, 333)])), (4, (.iload 1, 1, 0, 0, 0, [])), (5, (.invokestatic 1, 3, 2, 2, 404, [(0, 0)])), (8, (.ifCond .ne 0, 3, 14, 0, 0, [])), (11, (.ldc 0, 2, 385, 0, (-1000000001), [])), (13, (.ireturn, 1, 0, 0, 0, [])), (14, (.iload 2, 1, 0, 0, 0, [])), (15, (.invokestatic 1, 3, 122, 1, 489, [])), (18, (.ifCond .eq 0, 3, 36, 0, 0, [])), (21, (.iload 3, 1, 0, 0, 0, [])), (22, (.invokestatic 1, 3, 122, 1, 489, [])), (25, (.ifCond .eq 0, 3, 36, 0, 0, [])), (28, (.iload 4, 2, 0, 0, 0, [])), (30, (.invokestatic 1, 3, 122, 1, 489, []))],
  [(33, (.ifCond .ne 0, 3, 39, 0, 0, [])), (36, (.ldc 0, 2, 385, 0, (-1000000001), [])), (38, (.ireturn, 1, 0, 0, 0, [])), (39, (.aload 0, 1, 0, 0, 0, [])), (40, (.ldc 0, 1, 0, 0, 0, [])), (41, (.iload 2, 1, 0, 0, 0, [])), (42, (.invokestatic 1, 3, 129, 3, 495, [(0, 9)])), (45, (.istore 5, 2, 0, 0, 0, [])), (47, (.aload 0, 1, 0, 0, 0, [])), (48, (.iload 5, 2, 0, 0, 0, [])), (50, (.iload 3, 1, 0, 0, 0, [])), (51, (.invokestatic 1, 3, 129, 3, 495, [(0, 9)])), (54, (.istore 5, 2, 0, 0, 0, [])), (56, (.aload 0, 1, 0, 0, 0, [])), (57, (.iload 5, 2, 0, 0, 0, [])), (59, (.iload 4, 2, 0, 0, 0, [])), (61, (.invokestatic 1, 3, 129, 3, 495, [(0, 9)]))],
  [(64, (.istore 5, 2, 0, 0, 0, [])), (66, (.aload 0, 1, 0, 0, 0, [])), (67, (.getfield 1, 3, 9, 1, 0, [(0, 333)])), (70, (.getfield 1, 3, 0, 1, 0, [(0, 185)])), (73, (.iload 1, 1, 0, 0, 0, [])), (74, (.aaload, 1, 4, 0, 0, [])), (75, (.astore 6, 2, 0, 0, 0, [])), (77, (.aload 0, 1, 0, 0, 0, [])), (78, (.getfield 1, 3, 9, 1, 0, [(0, 333)])), (81, (.aload 6, 2, 0, 0, 0, [])), (83, (.aload 0, 1, 0, 0, 0, [])), (84, (.getfield 1, 3, 9, 10, 0, [(0, 342)])), (87, (.ldc 0, 1, 0, 0, 0, [])), (88, (.iload 5, 2, 0, 0, 0, [])), (90, (.invokestatic 0, 3, 10, 5, 499, [(0, 0)])), (93, (.aload 6, 2, 0, 0, 0, [])), (95, (.getfield 0, 3, 6, 4, 0, [(0, 163)]))],
  [(98, (.ireturn, 1, 0, 0, 0, []))]]
abbrev m_E_speaks : Nat := 80
/-- E_says -/
def pm_t81 : pm_T := [[(0, (.aload 0, 1, 0, 0, 0, [])), (1, (.getfield 1, 3, 9, 1, 0, [(0, 333)])), (4, (.iload 1, 1, 0, 0, 0, [])), (5, (.invokestatic 1, 3, 2, 2, 404, [(0, 0)])), (8, (.ifCond .eq 0, 3, 34, 0, 0, [])), (11, (.aload 0, 1, 0, 0, 0, [])), (12, (.getfield 1, 3, 9, 1, 0, [(0, 333)])), (15, (.iload 2, 1, 0, 0, 0, [])), (16, (.invokestatic 1, 3, 2, 2, 404, [(0, 0)])), (19, (.ifCond .eq 0, 3, 34, 0, 0, [])), (22, (.iload 1, 1, 0, 0, 0, [])), (23, (.iload 2, 1, 0, 0, 0, [])), (24, (.if_icmp .eq 0, 3, 34, 0, 0, [])), (27, (.iload 3, 1, 0, 0, 0, [])), (28, (.invokestatic 1, 3, 123, 1, 459, [])), (31, (.ifCond .ne 0, 3, 37, 0, 0, []))],
  [(34, (.ldc 0, 2, 385, 0, (-1000000001), [])), (36, (.ireturn, 1, 0, 0, 0, [])), (37, (.aload 0, 1, 0, 0, 0, [])), (38, (.getfield 1, 3, 9, 1, 0, [(0, 333)])), (41, (.getfield 1, 3, 0, 1, 0, [(0, 185)])), (44, (.iload 1, 1, 0, 0, 0, [])), (45, (.aaload, 1, 4, 0, 0, [])), (46, (.astore 4, 2, 0, 0, 0, [])), (48, (.iload 3, 1, 0, 0, 0, [])), (49, (.aload 4, 2, 0, 0, 0, [])), (51, (.getfield 0, 3, 6, 4, 0, [(0, 163)])), (54, (.if_icmp .lt 0, 3, 60, 0, 0, [])), (57, (.ldc 0, 2, 518, 0, (-1000000005), [])), (59, (.ireturn, 1, 0, 0, 0, [])), (60, (.aload 0, 1, 0, 0, 0, [])), (61, (.getfield 1, 3, 9, 1, 0, [(0, 333)]))],
  [(64, (.aload 4, 2, 0, 0, 0, [])), (66, (.aload 0, 1, 0, 0, 0, [])), (67, (.getfield 1, 3, 9, 1, 0, [(0, 333)])), (70, (.getfield 1, 3, 0, 1, 0, [(0, 185)])), (73, (.iload 2, 1, 0, 0, 0, [])), (74, (.aaload, 1, 4, 0, 0, [])), (75, (.iload 3, 1, 0, 0, 0, [])), (76, (.invokestatic 1, 3, 11, 4, 519, [(0, 0)])), (79, (.ireturn, 1, 0, 0, 0, []))]]
abbrev m_E_says : Nat := 81
/-- E_forgets -/
def pm_t82 : pm_T := [[(0, (.aload 0, 1, 0, 0, 0, [])), (1, (.getfield 1, 3, 9, 1, 0, [(0, 333)])), (4, (.iload 1, 1, 0, 0, 0, [])), (5, (.invokestatic 1, 3, 2, 2, 404, [(0, 0)])), (8, (.ifCond .ne 0, 3, 14, 0, 0, [])), (11, (.ldc 0, 2, 385, 0, (-1000000001), [])), (13, (.ireturn, 1, 0, 0, 0, [])), (14, (.aload 0, 1, 0, 0, 0, [])), (15, (.getfield 1, 3, 9, 1, 0, [(0, 333)])), (18, (.getfield 1, 3, 0, 1, 0, [(0, 185)])), (21, (.iload 1, 1, 0, 0, 0, [])), (22, (.aaload, 1, 4, 0, 0, [])), (23, (.astore 2, 1, 0, 0, 0, [])), (24, (.aload 2, 1, 0, 0, 0, [])), (25, (.getfield 0, 3, 6, 4, 0, [(0, 163)])), (28, (.istore 3, 1, 0, 0, 0, [])), (29, (.aload 2, 1, 0, 0, 0, [])), (30, (.iload 3, 1, 0, 0, 0, [])), (31, (.invokestatic 0, 3, 66, 2, 529, [(0, 6)]))],
  [(34, (.aload 0, 1, 0, 0, 0, [])), (35, (.getfield 1, 3, 9, 1, 0, [(0, 333)])), (38, (.dup, 1, 0, 0, 0, [])), (39, (.getfield 0, 3, 0, 5, 0, [(0, 193)])), (42, (.iload 3, 1, 0, 0, 0, [])), (43, (.iadd, 1, 0, 0, 0, [])), (44, (.putfield 0, 3, 0, 5, 0, [(0, 193)])), (47, (.iload 3, 1, 0, 0, 0, [])), (48, (.ireturn, 1, 0, 0, 0, []))]]
abbrev m_E_forgets : Nat := 82
/-- E_talk -/
def pm_t83 : pm_T := [[(0, (.iload 1, 1, 0, 0, 0, [])), (1, (.ifCond .lt 0, 3, 10, 0, 0, [])), (4, (.iload 1, 1, 0, 0, 0, [])), (5, (.ldc 0, 2, 0, 0, 100, [])), (7, (.if_icmp .le 0, 3, 13, 0, 0, [])), (10, (.ldc 0, 2, 385, 0, (-1000000001), [])), (12, (.ireturn, 1, 0, 0, 0, [])), (13, (.aload 0, 1, 0, 0, 0, [])), (14, (.getfield 1, 3, 9, 1, 0, [(0, 333)])), (17, (.getfield 0, 3, 0, 3, 0, [(0, 189)])), (20, (.istore 2, 1, 0, 0, 0, [])), (21, (.aload 0, 1, 0, 0, 0, [])), (22, (.getfield 1, 3, 9, 1, 0, [(0, 333)])), (25, (.iload 1, 1, 0, 0, 0, [])), (26, (.putfield 0, 3, 0, 3, 0, [(0, 189)])), (29, (.iload 2, 1, 0, 0, 0, [])), (30, (.ireturn, 1, 0, 0, 0, []))]]
abbrev m_E_talk : Nat := 83
/-- E_deal -/
def pm_t84 : pm_T := [[(0, (.iload 1, 1, 0, 0, 0, [])), (1, (.ldc 0, 1, 0, 0, 1, [])), (2, (.if_icmp .lt 0, 3, 11, 0, 0, [])), (5, (.iload 1, 1, 0, 0, 0, [])), (6, (.ldc 0, 2, 0, 0, 8, [])), (8, (.if_icmp .le 0, 3, 14, 0, 0, [])), (11, (.ldc 0, 2, 385, 0, (-1000000001), [])), (13, (.ireturn, 1, 0, 0, 0, [])), (14, (.ldc 0, 1, 0, 0, 0, [])), (15, (.istore 2, 1, 0, 0, 0, [])), (16, (.ldc 0, 1, 0, 0, 0, [])), (17, (.istore 3, 1, 0, 0, 0, [])), (18, (.iload 3, 1, 0, 0, 0, [])), (19, (.iload 1, 1, 0, 0, 0, [])), (20, (.if_icmp .ge 0, 3, 49, 0, 0, [])), (23, (.aload 0, 1, 0, 0, 0, [])), (24, (.getfield 1, 3, 9, 1, 0, [(0, 333)])), (27, (.invokestatic 1, 3, 3, 1, 386, [(0, 0)])), (30, (.ifCond .eq 0, 3, 49, 0, 0, []))],
  [(33, (.aload 0, 1, 0, 0, 0, [])), (34, (.getfield 1, 3, 9, 1, 0, [(0, 333)])), (37, (.invokestatic 0, 3, 5, 1, 538, [(0, 0)])), (40, (.iinc 2 0, 3, 0, 0, 1, [])), (43, (.iinc 3 0, 3, 0, 0, 1, [])), (46, (.goto 0, 3, 18, 0, 0, [])), (49, (.iload 2, 1, 0, 0, 0, [])), (50, (.ireturn, 1, 0, 0, 0, []))]]
abbrev m_E_deal : Nat := 84
/-- E_seed -/
def pm_t85 : pm_T := [[(0, (.aload 0, 1, 0, 0, 0, [])), (1, (.getfield 1, 3, 9, 1, 0, [(0, 333)])), (4, (.getfield 0, 3, 0, 7, 0, [(0, 197)])), (7, (.istore 2, 1, 0, 0, 0, [])), (8, (.aload 0, 1, 0, 0, 0, [])), (9, (.getfield 1, 3, 9, 1, 0, [(0, 333)])), (12, (.iload 1, 1, 0, 0, 0, [])), (13, (.putfield 0, 3, 0, 7, 0, [(0, 197)])), (16, (.iload 2, 1, 0, 0, 0, [])), (17, (.ireturn, 1, 0, 0, 0, []))]]
abbrev m_E_seed : Nat := 85
/-- E_days -/
def pm_t86 : pm_T := [[(0, (.iload 1, 1, 0, 0, 0, [])), (1, (.ldc 0, 1, 0, 0, 1, [])), (2, (.ldc 0, 2, 0, 0, 100, [])), (4, (.invokestatic 1, 3, 125, 3, 556, [])), (7, (.ifCond .ne 0, 3, 13, 0, 0, [])), (10, (.ldc 0, 2, 385, 0, (-1000000001), [])), (12, (.ireturn, 1, 0, 0, 0, [])), (13, (.aload 0, 1, 0, 0, 0, [])), (14, (.getfield 1, 3, 9, 1, 0, [(0, 333)])), (17, (.getfield 0, 3, 0, 4, 0, [(0, 191)])), (20, (.istore 2, 1, 0, 0, 0, [])), (21, (.ldc 0, 1, 0, 0, 0, [])), (22, (.istore 3, 1, 0, 0, 0, [])), (23, (.iload 3, 1, 0, 0, 0, [])), (24, (.iload 1, 1, 0, 0, 0, [])), (25, (.if_icmp .ge 0, 3, 54, 0, 0, [])), (28, (.aload 0, 1, 0, 0, 0, [])), (29, (.getfield 1, 3, 9, 1, 0, [(0, 333)]))],
  [(32, (.getfield 0, 3, 0, 6, 0, [(0, 195)])), (35, (.ldc 0, 3, 0, 0, 9999, [])), (38, (.if_icmp .ge 0, 3, 54, 0, 0, [])), (41, (.aload 0, 1, 0, 0, 0, [])), (42, (.getfield 1, 3, 9, 1, 0, [(0, 333)])), (45, (.invokestatic 0, 3, 12, 1, 559, [(0, 0)])), (48, (.iinc 3 0, 3, 0, 0, 1, [])), (51, (.goto 0, 3, 23, 0, 0, [])), (54, (.aload 0, 1, 0, 0, 0, [])), (55, (.getfield 1, 3, 9, 1, 0, [(0, 333)])), (58, (.getfield 0, 3, 0, 4, 0, [(0, 191)])), (61, (.iload 2, 1, 0, 0, 0, [])), (62, (.isub, 1, 0, 0, 0, [])), (63, (.ireturn, 1, 0, 0, 0, []))]]
abbrev m_E_days : Nat := 86
/-- E_folk -/
def pm_t87 : pm_T := [[(0, (.iload 1, 1, 0, 0, 0, [])), (1, (.lookupswitch 0 #[], 35, 76, 0, 0, [(0, 36), (1, 44), (2, 52), (3, 60), (4, 68)]))],
  [(36, (.aload 0, 1, 0, 0, 0, [])), (37, (.getfield 1, 3, 9, 1, 0, [(0, 333)])), (40, (.getfield 0, 3, 0, 4, 0, [(0, 191)])), (43, (.ireturn, 1, 0, 0, 0, [])), (44, (.aload 0, 1, 0, 0, 0, [])), (45, (.getfield 1, 3, 9, 1, 0, [(0, 333)])), (48, (.getfield 0, 3, 0, 5, 0, [(0, 193)])), (51, (.ireturn, 1, 0, 0, 0, [])), (52, (.aload 0, 1, 0, 0, 0, [])), (53, (.getfield 1, 3, 9, 1, 0, [(0, 333)])), (56, (.invokestatic 1, 3, 13, 1, 569, [(0, 0)])), (59, (.ireturn, 1, 0, 0, 0, [])), (60, (.aload 0, 1, 0, 0, 0, [])), (61, (.getfield 1, 3, 9, 1, 0, [(0, 333)]))],
  [(64, (.invokestatic 1, 3, 14, 1, 573, [(0, 0)])), (67, (.ireturn, 1, 0, 0, 0, [])), (68, (.aload 0, 1, 0, 0, 0, [])), (69, (.getfield 1, 3, 9, 1, 0, [(0, 333)])), (72, (.invokestatic 1, 3, 15, 1, 578, [(0, 0)])), (75, (.ireturn, 1, 0, 0, 0, [])), (76, (.ldc 0, 2, 385, 0, (-1000000001), [])), (78, (.ireturn, 1, 0, 0, 0, []))]]
abbrev m_E_folk : Nat := 87
/-- E_breaths -/
def pm_t88 : pm_T := [[(0, (.iload 1, 1, 0, 0, 0, [])), (1, (.invokestatic 1, 3, 126, 1, 587, [])), (4, (.ifCond .eq 0, 3, 18, 0, 0, [])), (7, (.aload 0, 1, 0, 0, 0, [])), (8, (.getfield 1, 3, 9, 1, 0, [(0, 333)])), (11, (.iload 2, 1, 0, 0, 0, [])), (12, (.invokestatic 1, 3, 2, 2, 404, [(0, 0)])), (15, (.ifCond .ne 0, 3, 21, 0, 0, [])), (18, (.ldc 0, 2, 385, 0, (-1000000001), [])), (20, (.ireturn, 1, 0, 0, 0, [])), (21, (.aload 0, 1, 0, 0, 0, [])), (22, (.iload 1, 1, 0, 0, 0, [])), (23, (.invokestatic 1, 3, 130, 2, 590, [(0, 9)])), (26, (.istore 3, 1, 0, 0, 0, [])), (27, (.iload 3, 1, 0, 0, 0, [])), (28, (.ifCond .eq 0, 3, 33, 0, 0, [])), (31, (.iload 3, 1, 0, 0, 0, []))],
  [(32, (.ireturn, 1, 0, 0, 0, [])), (33, (.aload 0, 1, 0, 0, 0, [])), (34, (.getfield 1, 3, 9, 9, 0, [(0, 341)])), (37, (.aload 0, 1, 0, 0, 0, [])), (38, (.getfield 1, 3, 9, 1, 0, [(0, 333)])), (41, (.getfield 1, 3, 0, 1, 0, [(0, 185)])), (44, (.iload 2, 1, 0, 0, 0, [])), (45, (.aaload, 1, 4, 0, 0, [])), (46, (.invokestatic 1, 3, 50, 2, 605, [(0, 3)])), (49, (.ireturn, 1, 0, 0, 0, []))]]
abbrev m_E_breaths : Nat := 88
/-- E_wanting -/
def pm_t89 : pm_T := [[(0, (.iload 1, 1, 0, 0, 0, [])), (1, (.invokestatic 1, 3, 126, 1, 587, [])), (4, (.ifCond .ne 0, 3, 10, 0, 0, [])), (7, (.ldc 0, 2, 385, 0, (-1000000001), [])), (9, (.ireturn, 1, 0, 0, 0, [])), (10, (.aload 0, 1, 0, 0, 0, [])), (11, (.iload 1, 1, 0, 0, 0, [])), (12, (.invokestatic 1, 3, 130, 2, 590, [(0, 9)])), (15, (.ldc 0, 2, 594, 0, (-1000000011), [])), (17, (.if_icmp .ne 0, 3, 23, 0, 0, [])), (20, (.ldc 0, 2, 594, 0, (-1000000011), [])), (22, (.ireturn, 1, 0, 0, 0, [])), (23, (.aload 0, 1, 0, 0, 0, [])), (24, (.getfield 1, 3, 9, 9, 0, [(0, 341)])), (27, (.aload 0, 1, 0, 0, 0, [])), (28, (.getfield 1, 3, 9, 1, 0, [(0, 333)])), (31, (.invokestatic 1, 3, 14, 1, 573, [(0, 0)]))],
  [(34, (.invokestatic 1, 3, 49, 2, 626, [(0, 3)])), (37, (.ireturn, 1, 0, 0, 0, []))]]
abbrev m_E_wanting : Nat := 89
/-- E_who -/
def pm_t90 : pm_T := [[(0, (.iload 1, 1, 0, 0, 0, [])), (1, (.invokestatic 1, 3, 126, 1, 587, [])), (4, (.ifCond .ne 0, 3, 10, 0, 0, [])), (7, (.ldc 0, 2, 385, 0, (-1000000001), [])), (9, (.ireturn, 1, 0, 0, 0, [])), (10, (.aload 0, 1, 0, 0, 0, [])), (11, (.iload 1, 1, 0, 0, 0, [])), (12, (.invokestatic 1, 3, 130, 2, 590, [(0, 9)])), (15, (.istore 2, 1, 0, 0, 0, [])), (16, (.iload 2, 1, 0, 0, 0, [])), (17, (.ifCond .eq 0, 3, 22, 0, 0, [])), (20, (.iload 2, 1, 0, 0, 0, [])), (21, (.ireturn, 1, 0, 0, 0, [])), (22, (.ldc 0, 1, 0, 0, 0, [])), (23, (.istore 3, 1, 0, 0, 0, [])), (24, (.ldc 0, 1, 0, 0, 0, [])), (25, (.istore 4, 2, 0, 0, 0, [])), (27, (.iload 4, 2, 0, 0, 0, [])), (29, (.aload 0, 1, 0, 0, 0, [])), (30, (.getfield 1, 3, 9, 1, 0, [(0, 333)]))],
  [(33, (.getfield 0, 3, 0, 2, 0, [(0, 187)])), (36, (.if_icmp .ge 0, 3, 74, 0, 0, [])), (39, (.aload 0, 1, 0, 0, 0, [])), (40, (.getfield 1, 3, 9, 9, 0, [(0, 341)])), (43, (.aload 0, 1, 0, 0, 0, [])), (44, (.getfield 1, 3, 9, 1, 0, [(0, 333)])), (47, (.getfield 1, 3, 0, 1, 0, [(0, 185)])), (50, (.iload 4, 2, 0, 0, 0, [])), (52, (.aaload, 1, 4, 0, 0, [])), (53, (.invokestatic 1, 3, 50, 2, 605, [(0, 3)])), (56, (.ldc 0, 2, 518, 0, (-1000000005), [])), (58, (.if_icmp .eq 0, 3, 68, 0, 0, [])), (61, (.iload 3, 1, 0, 0, 0, [])), (62, (.ldc 0, 1, 0, 0, 1, [])), (63, (.iload 4, 2, 0, 0, 0, []))],
  [(65, (.ishl, 1, 0, 0, 0, [])), (66, (.ior, 1, 0, 0, 0, [])), (67, (.istore 3, 1, 0, 0, 0, [])), (68, (.iinc 4 0, 3, 0, 0, 1, [])), (71, (.goto 0, 3, 27, 0, 0, [])), (74, (.iload 3, 1, 0, 0, 0, [])), (75, (.ireturn, 1, 0, 0, 0, []))]]
abbrev m_E_who : Nat := 90
/-- E_teacher -/
def pm_t91 : pm_T := [[(0, (.iload 1, 1, 0, 0, 0, [])), (1, (.invokestatic 1, 3, 126, 1, 587, [])), (4, (.ifCond .eq 0, 3, 25, 0, 0, [])), (7, (.aload 0, 1, 0, 0, 0, [])), (8, (.getfield 1, 3, 9, 1, 0, [(0, 333)])), (11, (.iload 2, 1, 0, 0, 0, [])), (12, (.invokestatic 1, 3, 2, 2, 404, [(0, 0)])), (15, (.ifCond .eq 0, 3, 25, 0, 0, [])), (18, (.iload 3, 1, 0, 0, 0, [])), (19, (.invokestatic 1, 3, 124, 1, 638, [])), (22, (.ifCond .ne 0, 3, 28, 0, 0, [])), (25, (.ldc 0, 2, 385, 0, (-1000000001), [])), (27, (.ireturn, 1, 0, 0, 0, [])), (28, (.aload 0, 1, 0, 0, 0, [])), (29, (.iload 1, 1, 0, 0, 0, [])), (30, (.invokestatic 1, 3, 130, 2, 590, [(0, 9)]))],
  [(33, (.istore 4, 2, 0, 0, 0, [])), (35, (.iload 4, 2, 0, 0, 0, [])), (37, (.ifCond .eq 0, 3, 43, 0, 0, [])), (40, (.iload 4, 2, 0, 0, 0, [])), (42, (.ireturn, 1, 0, 0, 0, [])), (43, (.ldc 0, 2, 518, 0, (-1000000005), [])), (45, (.istore 5, 2, 0, 0, 0, [])), (47, (.ldc 0, 2, 518, 0, (-1000000005), [])), (49, (.istore 6, 2, 0, 0, 0, [])), (51, (.aload 0, 1, 0, 0, 0, [])), (52, (.getfield 1, 3, 9, 3, 0, [(0, 335)])), (55, (.aload 0, 1, 0, 0, 0, [])), (56, (.getfield 1, 3, 9, 1, 0, [(0, 333)])), (59, (.invokestatic 0, 3, 1, 2, 641, [(0, 0)])), (62, (.ldc 0, 1, 0, 0, 0, [])), (63, (.istore 7, 2, 0, 0, 0, []))],
  [(65, (.iload 7, 2, 0, 0, 0, [])), (67, (.aload 0, 1, 0, 0, 0, [])), (68, (.getfield 1, 3, 9, 1, 0, [(0, 333)])), (71, (.getfield 0, 3, 0, 2, 0, [(0, 187)])), (74, (.if_icmp .ge 0, 3, 132, 0, 0, [])), (77, (.iload 7, 2, 0, 0, 0, [])), (79, (.iload 2, 1, 0, 0, 0, [])), (80, (.if_icmp .ne 0, 3, 88, 0, 0, [])), (83, (.ldc 0, 2, 518, 0, (-1000000005), [])), (85, (.goto 0, 3, 95, 0, 0, [])), (88, (.aload 0, 1, 0, 0, 0, [])), (89, (.iload 2, 1, 0, 0, 0, [])), (90, (.iload 7, 2, 0, 0, 0, [])), (92, (.invokestatic 1, 3, 131, 3, 649, [(0, 9)])), (95, (.istore 8, 2, 0, 0, 0, []))],
  [(97, (.iload 8, 2, 0, 0, 0, [])), (99, (.ldc 0, 2, 518, 0, (-1000000005), [])), (101, (.if_icmp .eq 0, 3, 126, 0, 0, [])), (104, (.iload 5, 2, 0, 0, 0, [])), (106, (.ldc 0, 2, 518, 0, (-1000000005), [])), (108, (.if_icmp .eq 0, 3, 118, 0, 0, [])), (111, (.iload 8, 2, 0, 0, 0, [])), (113, (.iload 6, 2, 0, 0, 0, [])), (115, (.if_icmp .ge 0, 3, 126, 0, 0, [])), (118, (.iload 7, 2, 0, 0, 0, [])), (120, (.istore 5, 2, 0, 0, 0, [])), (122, (.iload 8, 2, 0, 0, 0, [])), (124, (.istore 6, 2, 0, 0, 0, [])), (126, (.iinc 7 0, 3, 0, 0, 1, []))],
  [(129, (.goto 0, 3, 65, 0, 0, [])), (132, (.iload 3, 1, 0, 0, 0, [])), (133, (.ifCond .ne 0, 3, 141, 0, 0, [])), (136, (.iload 5, 2, 0, 0, 0, [])), (138, (.goto 0, 3, 143, 0, 0, [])), (141, (.iload 6, 2, 0, 0, 0, [])), (143, (.ireturn, 1, 0, 0, 0, []))]]
abbrev m_E_teacher : Nat := 91
/-- E_behind -/
def pm_t92 : pm_T := [[(0, (.iload 1, 1, 0, 0, 0, [])), (1, (.ldc 0, 1, 0, 0, 0, [])), (2, (.ldc 0, 2, 0, 0, 100, [])), (4, (.invokestatic 1, 3, 125, 3, 556, [])), (7, (.ifCond .eq 0, 3, 14, 0, 0, [])), (10, (.iload 2, 1, 0, 0, 0, [])), (11, (.ifCond .ge 0, 3, 17, 0, 0, [])), (14, (.ldc 0, 2, 385, 0, (-1000000001), [])), (16, (.ireturn, 1, 0, 0, 0, [])), (17, (.iload 2, 1, 0, 0, 0, [])), (18, (.ldc 0, 1, 0, 0, 2, [])), (19, (.if_icmp .le 0, 3, 38, 0, 0, [])), (22, (.aload 0, 1, 0, 0, 0, [])), (23, (.getfield 1, 3, 9, 1, 0, [(0, 333)])), (26, (.iload 2, 1, 0, 0, 0, [])), (27, (.ldc 0, 1, 0, 0, 3, [])), (28, (.isub, 1, 0, 0, 0, [])), (29, (.invokestatic 1, 3, 2, 2, 404, [(0, 0)]))],
  [(32, (.ifCond .ne 0, 3, 38, 0, 0, [])), (35, (.ldc 0, 2, 385, 0, (-1000000001), [])), (37, (.ireturn, 1, 0, 0, 0, [])), (38, (.aload 0, 1, 0, 0, 0, [])), (39, (.getfield 1, 3, 9, 3, 0, [(0, 335)])), (42, (.aload 0, 1, 0, 0, 0, [])), (43, (.getfield 1, 3, 9, 1, 0, [(0, 333)])), (46, (.invokestatic 0, 3, 1, 2, 641, [(0, 0)])), (49, (.ldc 0, 1, 0, 0, 0, [])), (50, (.istore 3, 1, 0, 0, 0, [])), (51, (.iload 3, 1, 0, 0, 0, [])), (52, (.iload 1, 1, 0, 0, 0, [])), (53, (.if_icmp .ge 0, 3, 69, 0, 0, [])), (56, (.aload 0, 1, 0, 0, 0, [])), (57, (.getfield 1, 3, 9, 3, 0, [(0, 335)])), (60, (.invokestatic 0, 3, 12, 1, 559, [(0, 0)])), (63, (.iinc 3 0, 3, 0, 0, 1, []))],
  [(66, (.goto 0, 3, 51, 0, 0, [])), (69, (.iload 2, 1, 0, 0, 0, [])), (70, (.lookupswitch 0 #[], 26, 120, 0, 0, [(0, 96), (1, 104), (2, 112)]))],
  [(96, (.aload 0, 1, 0, 0, 0, [])), (97, (.getfield 1, 3, 9, 3, 0, [(0, 335)])), (100, (.getfield 0, 3, 0, 4, 0, [(0, 191)])), (103, (.ireturn, 1, 0, 0, 0, [])), (104, (.aload 0, 1, 0, 0, 0, [])), (105, (.getfield 1, 3, 9, 3, 0, [(0, 335)])), (108, (.getfield 0, 3, 0, 5, 0, [(0, 193)])), (111, (.ireturn, 1, 0, 0, 0, [])), (112, (.aload 0, 1, 0, 0, 0, [])), (113, (.getfield 1, 3, 9, 3, 0, [(0, 335)])), (116, (.invokestatic 1, 3, 13, 1, 569, [(0, 0)])), (119, (.ireturn, 1, 0, 0, 0, [])), (120, (.aload 0, 1, 0, 0, 0, [])), (121, (.getfield 1, 3, 9, 3, 0, [(0, 335)])), (124, (.getfield 1, 3, 0, 1, 0, [(0, 185)])), (127, (.iload 2, 1, 0, 0, 0, []))],
  [(128, (.ldc 0, 1, 0, 0, 3, [])), (129, (.isub, 1, 0, 0, 0, [])), (130, (.aaload, 1, 4, 0, 0, [])), (131, (.invokestatic 1, 3, 64, 1, 408, [(0, 6)])), (134, (.ireturn, 1, 0, 0, 0, []))]]
abbrev m_E_behind : Nat := 92
/-- E_spreads -/
def pm_t93 : pm_T := [[(0, (.iload 1, 1, 0, 0, 0, [])), (1, (.invokestatic 1, 3, 121, 1, 492, [])), (4, (.ifCond .ne 0, 3, 10, 0, 0, [])), (7, (.ldc 0, 2, 385, 0, (-1000000001), [])), (9, (.ireturn, 1, 0, 0, 0, [])), (10, (.aload 0, 1, 0, 0, 0, [])), (11, (.getfield 1, 3, 9, 3, 0, [(0, 335)])), (14, (.aload 0, 1, 0, 0, 0, [])), (15, (.getfield 1, 3, 9, 1, 0, [(0, 333)])), (18, (.invokestatic 0, 3, 1, 2, 641, [(0, 0)])), (21, (.ldc 0, 1, 0, 0, 0, [])), (22, (.istore 2, 1, 0, 0, 0, [])), (23, (.iload 2, 1, 0, 0, 0, [])), (24, (.ldc 0, 3, 0, 0, 200, [])), (27, (.if_icmp .ge 0, 3, 56, 0, 0, [])), (30, (.aload 0, 1, 0, 0, 0, [])), (31, (.getfield 1, 3, 9, 3, 0, [(0, 335)]))],
  [(34, (.iload 1, 1, 0, 0, 0, [])), (35, (.invokestatic 1, 3, 16, 2, 662, [(0, 0)])), (38, (.ifCond .eq 0, 3, 43, 0, 0, [])), (41, (.iload 2, 1, 0, 0, 0, [])), (42, (.ireturn, 1, 0, 0, 0, [])), (43, (.aload 0, 1, 0, 0, 0, [])), (44, (.getfield 1, 3, 9, 3, 0, [(0, 335)])), (47, (.invokestatic 0, 3, 12, 1, 559, [(0, 0)])), (50, (.iinc 2 0, 3, 0, 0, 1, [])), (53, (.goto 0, 3, 23, 0, 0, [])), (56, (.aload 0, 1, 0, 0, 0, [])), (57, (.getfield 1, 3, 9, 3, 0, [(0, 335)])), (60, (.iload 1, 1, 0, 0, 0, [])), (61, (.invokestatic 1, 3, 16, 2, 662, [(0, 0)]))],
  [(64, (.ifCond .eq 0, 3, 73, 0, 0, [])), (67, (.ldc 0, 3, 0, 0, 200, [])), (70, (.goto 0, 3, 75, 0, 0, [])), (73, (.ldc 0, 2, 518, 0, (-1000000005), [])), (75, (.ireturn, 1, 0, 0, 0, []))]]
abbrev m_E_spreads : Nat := 93
/-- E_learns -/
def pm_t94 : pm_T := [[(0, (.aload 0, 1, 0, 0, 0, [])), (1, (.getfield 1, 3, 9, 1, 0, [(0, 333)])), (4, (.iload 1, 1, 0, 0, 0, [])), (5, (.invokestatic 1, 3, 2, 2, 404, [(0, 0)])), (8, (.ifCond .eq 0, 3, 21, 0, 0, [])), (11, (.iload 2, 1, 0, 0, 0, [])), (12, (.ldc 0, 1, 0, 0, 1, [])), (13, (.ldc 0, 2, 0, 0, 100, [])), (15, (.invokestatic 1, 3, 125, 3, 556, [])), (18, (.ifCond .ne 0, 3, 24, 0, 0, [])), (21, (.ldc 0, 2, 385, 0, (-1000000001), [])), (23, (.ireturn, 1, 0, 0, 0, [])), (24, (.aload 0, 1, 0, 0, 0, [])), (25, (.getfield 1, 3, 9, 3, 0, [(0, 335)])), (28, (.aload 0, 1, 0, 0, 0, [])), (29, (.getfield 1, 3, 9, 1, 0, [(0, 333)]))],
  [(32, (.invokestatic 0, 3, 1, 2, 641, [(0, 0)])), (35, (.ldc 0, 1, 0, 0, 0, [])), (36, (.istore 3, 1, 0, 0, 0, [])), (37, (.iload 3, 1, 0, 0, 0, [])), (38, (.iload 2, 1, 0, 0, 0, [])), (39, (.if_icmp .ge 0, 3, 55, 0, 0, [])), (42, (.aload 0, 1, 0, 0, 0, [])), (43, (.getfield 1, 3, 9, 3, 0, [(0, 335)])), (46, (.invokestatic 0, 3, 12, 1, 559, [(0, 0)])), (49, (.iinc 3 0, 3, 0, 0, 1, [])), (52, (.goto 0, 3, 37, 0, 0, [])), (55, (.aload 0, 1, 0, 0, 0, [])), (56, (.getfield 1, 3, 9, 3, 0, [(0, 335)])), (59, (.getfield 1, 3, 0, 1, 0, [(0, 185)])), (62, (.iload 1, 1, 0, 0, 0, [])), (63, (.aaload, 1, 4, 0, 0, []))],
  [(64, (.invokestatic 1, 3, 64, 1, 408, [(0, 6)])), (67, (.aload 0, 1, 0, 0, 0, [])), (68, (.getfield 1, 3, 9, 1, 0, [(0, 333)])), (71, (.getfield 1, 3, 0, 1, 0, [(0, 185)])), (74, (.iload 1, 1, 0, 0, 0, [])), (75, (.aaload, 1, 4, 0, 0, [])), (76, (.invokestatic 1, 3, 64, 1, 408, [(0, 6)])), (79, (.ldc 0, 1, 0, 0, (-1), [])), (80, (.ixor, 1, 0, 0, 0, [])), (81, (.iand, 1, 0, 0, 0, [])), (82, (.istore 3, 1, 0, 0, 0, [])), (83, (.ldc 0, 1, 0, 0, 0, [])), (84, (.istore 4, 2, 0, 0, 0, [])), (86, (.iload 4, 2, 0, 0, 0, [])), (88, (.ldc 0, 2, 0, 0, 20, [])), (90, (.if_icmp .ge 0, 3, 112, 0, 0, [])), (93, (.iload 3, 1, 0, 0, 0, [])), (94, (.iload 4, 2, 0, 0, 0, []))],
  [(96, (.iushr, 1, 0, 0, 0, [])), (97, (.ldc 0, 1, 0, 0, 1, [])), (98, (.iand, 1, 0, 0, 0, [])), (99, (.ldc 0, 1, 0, 0, 1, [])), (100, (.if_icmp .ne 0, 3, 106, 0, 0, [])), (103, (.iload 4, 2, 0, 0, 0, [])), (105, (.ireturn, 1, 0, 0, 0, [])), (106, (.iinc 4 0, 3, 0, 0, 1, [])), (109, (.goto 0, 3, 86, 0, 0, [])), (112, (.ldc 0, 2, 518, 0, (-1000000005), [])), (114, (.ireturn, 1, 0, 0, 0, []))]]
abbrev m_E_learns : Nat := 94
/-- E_quiet -/
def pm_t95 : pm_T := [[(0, (.iload 1, 1, 0, 0, 0, [])), (1, (.ldc 0, 1, 0, 0, 1, [])), (2, (.ldc 0, 2, 0, 0, 100, [])), (4, (.invokestatic 1, 3, 125, 3, 556, [])), (7, (.ifCond .eq 0, 3, 17, 0, 0, [])), (10, (.iload 2, 1, 0, 0, 0, [])), (11, (.invokestatic 1, 3, 124, 1, 638, [])), (14, (.ifCond .ne 0, 3, 20, 0, 0, [])), (17, (.ldc 0, 2, 385, 0, (-1000000001), [])), (19, (.ireturn, 1, 0, 0, 0, [])), (20, (.ldc 0, 2, 518, 0, (-1000000005), [])), (22, (.istore 3, 1, 0, 0, 0, [])), (23, (.ldc 0, 2, 518, 0, (-1000000005), [])), (25, (.istore 4, 2, 0, 0, 0, [])), (27, (.ldc 0, 1, 0, 0, 0, [])), (28, (.istore 5, 2, 0, 0, 0, [])), (30, (.iload 5, 2, 0, 0, 0, []))],
  [(32, (.aload 0, 1, 0, 0, 0, [])), (33, (.getfield 1, 3, 9, 1, 0, [(0, 333)])), (36, (.getfield 0, 3, 0, 2, 0, [(0, 187)])), (39, (.if_icmp .ge 0, 3, 77, 0, 0, [])), (42, (.aload 0, 1, 0, 0, 0, [])), (43, (.iload 5, 2, 0, 0, 0, [])), (45, (.iload 1, 1, 0, 0, 0, [])), (46, (.invokestatic 1, 3, 132, 3, 674, [(0, 9)])), (49, (.istore 6, 2, 0, 0, 0, [])), (51, (.iload 3, 1, 0, 0, 0, [])), (52, (.ldc 0, 2, 518, 0, (-1000000005), [])), (54, (.if_icmp .eq 0, 3, 64, 0, 0, [])), (57, (.iload 6, 2, 0, 0, 0, [])), (59, (.iload 4, 2, 0, 0, 0, [])), (61, (.if_icmp .ge 0, 3, 71, 0, 0, []))],
  [(64, (.iload 5, 2, 0, 0, 0, [])), (66, (.istore 3, 1, 0, 0, 0, [])), (67, (.iload 6, 2, 0, 0, 0, [])), (69, (.istore 4, 2, 0, 0, 0, [])), (71, (.iinc 5 0, 3, 0, 0, 1, [])), (74, (.goto 0, 3, 30, 0, 0, [])), (77, (.iload 2, 1, 0, 0, 0, [])), (78, (.ifCond .ne 0, 3, 85, 0, 0, [])), (81, (.iload 3, 1, 0, 0, 0, [])), (82, (.goto 0, 3, 87, 0, 0, [])), (85, (.iload 4, 2, 0, 0, 0, [])), (87, (.ireturn, 1, 0, 0, 0, []))]]
abbrev m_E_quiet : Nat := 95
/-- E_ears -/
def pm_t96 : pm_T := [[(0, (.aload 0, 1, 0, 0, 0, [])), (1, (.getfield 1, 3, 9, 1, 0, [(0, 333)])), (4, (.iload 1, 1, 0, 0, 0, [])), (5, (.invokestatic 1, 3, 2, 2, 404, [(0, 0)])), (8, (.ifCond .eq 0, 3, 28, 0, 0, [])), (11, (.iload 2, 1, 0, 0, 0, [])), (12, (.ldc 0, 1, 0, 0, 1, [])), (13, (.ldc 0, 2, 0, 0, 60, [])), (15, (.invokestatic 1, 3, 125, 3, 556, [])), (18, (.ifCond .eq 0, 3, 28, 0, 0, [])), (21, (.iload 3, 1, 0, 0, 0, [])), (22, (.invokestatic 1, 3, 124, 1, 638, [])), (25, (.ifCond .ne 0, 3, 31, 0, 0, [])), (28, (.ldc 0, 2, 385, 0, (-1000000001), [])), (30, (.ireturn, 1, 0, 0, 0, [])), (31, (.ldc 0, 1, 0, 0, 1, []))],
  [(32, (.istore 4, 2, 0, 0, 0, [])), (34, (.ldc 0, 1, 0, 0, (-1), [])), (35, (.istore 5, 2, 0, 0, 0, [])), (37, (.ldc 0, 1, 0, 0, 1, [])), (38, (.istore 6, 2, 0, 0, 0, [])), (40, (.iload 6, 2, 0, 0, 0, [])), (42, (.ldc 0, 2, 0, 0, 9, [])), (44, (.if_icmp .gt 0, 3, 78, 0, 0, [])), (47, (.aload 0, 1, 0, 0, 0, [])), (48, (.iload 1, 1, 0, 0, 0, [])), (49, (.iload 6, 2, 0, 0, 0, [])), (51, (.iload 2, 1, 0, 0, 0, [])), (52, (.invokestatic 1, 3, 133, 4, 682, [(0, 9)])), (55, (.istore 7, 2, 0, 0, 0, [])), (57, (.iload 7, 2, 0, 0, 0, [])), (59, (.iload 5, 2, 0, 0, 0, [])), (61, (.if_icmp .le 0, 3, 72, 0, 0, []))],
  [(64, (.iload 6, 2, 0, 0, 0, [])), (66, (.istore 4, 2, 0, 0, 0, [])), (68, (.iload 7, 2, 0, 0, 0, [])), (70, (.istore 5, 2, 0, 0, 0, [])), (72, (.iinc 6 0, 3, 0, 0, 1, [])), (75, (.goto 0, 3, 40, 0, 0, [])), (78, (.iload 3, 1, 0, 0, 0, [])), (79, (.ifCond .ne 0, 3, 87, 0, 0, [])), (82, (.iload 4, 2, 0, 0, 0, [])), (84, (.goto 0, 3, 89, 0, 0, [])), (87, (.iload 5, 2, 0, 0, 0, [])), (89, (.ireturn, 1, 0, 0, 0, []))]]
abbrev m_E_ears : Nat := 96
/-- E_fee -/
def pm_t97 : pm_T := [[(0, (.aload 0, 1, 0, 0, 0, [])), (1, (.getfield 1, 3, 9, 1, 0, [(0, 333)])), (4, (.ldc 0, 1, 0, 0, 1, [])), (5, (.invokestatic 1, 3, 7, 2, 696, [(0, 0)])), (8, (.istore 1, 1, 0, 0, 0, [])), (9, (.iload 1, 1, 0, 0, 0, [])), (10, (.ldc 0, 2, 518, 0, (-1000000005), [])), (12, (.if_icmp .ne 0, 3, 25, 0, 0, [])), (15, (.aload 0, 1, 0, 0, 0, [])), (16, (.getfield 1, 3, 9, 1, 0, [(0, 333)])), (19, (.getfield 0, 3, 0, 4, 0, [(0, 191)])), (22, (.goto 0, 3, 48, 0, 0, [])), (25, (.aload 0, 1, 0, 0, 0, [])), (26, (.getfield 1, 3, 9, 0, 0, [(0, 332)])), (29, (.iload 1, 1, 0, 0, 0, [])), (30, (.aload 0, 1, 0, 0, 0, [])), (31, (.getfield 1, 3, 9, 1, 0, [(0, 333)]))],
  [(34, (.getfield 0, 3, 0, 4, 0, [(0, 191)])), (37, (.aload 0, 1, 0, 0, 0, [])), (38, (.getfield 1, 3, 9, 1, 0, [(0, 333)])), (41, (.getfield 0, 3, 0, 5, 0, [(0, 193)])), (44, (.ldc 0, 1, 0, 0, 0, [])), (45, (.invokestatic 1, 3, 23, 5, 697, [(0, 1)])), (48, (.ireturn, 1, 0, 0, 0, []))]]
abbrev m_E_fee : Nat := 97
/-- E_fine -/
def pm_t98 : pm_T := [[(0, (.aload 0, 1, 0, 0, 0, [])), (1, (.getfield 1, 3, 9, 1, 0, [(0, 333)])), (4, (.iload 1, 1, 0, 0, 0, [])), (5, (.invokestatic 1, 3, 2, 2, 404, [(0, 0)])), (8, (.ifCond .ne 0, 3, 14, 0, 0, [])), (11, (.ldc 0, 2, 385, 0, (-1000000001), [])), (13, (.ireturn, 1, 0, 0, 0, [])), (14, (.aload 0, 1, 0, 0, 0, [])), (15, (.getfield 1, 3, 9, 1, 0, [(0, 333)])), (18, (.getfield 1, 3, 0, 1, 0, [(0, 185)])), (21, (.iload 1, 1, 0, 0, 0, [])), (22, (.aaload, 1, 4, 0, 0, [])), (23, (.astore 2, 1, 0, 0, 0, [])), (24, (.aload 0, 1, 0, 0, 0, [])), (25, (.getfield 1, 3, 9, 1, 0, [(0, 333)])), (28, (.ldc 0, 1, 0, 0, 2, [])), (29, (.invokestatic 1, 3, 7, 2, 696, [(0, 0)]))],
  [(32, (.istore 3, 1, 0, 0, 0, [])), (33, (.iload 3, 1, 0, 0, 0, [])), (34, (.ldc 0, 2, 518, 0, (-1000000005), [])), (36, (.if_icmp .ne 0, 3, 46, 0, 0, [])), (39, (.aload 2, 1, 0, 0, 0, [])), (40, (.getfield 0, 3, 6, 3, 0, [(0, 160)])), (43, (.goto 0, 3, 63, 0, 0, [])), (46, (.aload 0, 1, 0, 0, 0, [])), (47, (.getfield 1, 3, 9, 0, 0, [(0, 332)])), (50, (.iload 3, 1, 0, 0, 0, [])), (51, (.aload 2, 1, 0, 0, 0, [])), (52, (.getfield 0, 3, 6, 3, 0, [(0, 160)])), (55, (.aload 2, 1, 0, 0, 0, [])), (56, (.getfield 0, 3, 6, 2, 0, [(0, 157)])), (59, (.ldc 0, 1, 0, 0, 0, [])), (60, (.invokestatic 1, 3, 23, 5, 697, [(0, 1)])), (63, (.ireturn, 1, 0, 0, 0, []))]]
abbrev m_E_fine : Nat := 98
/-- E_feed -/
def pm_t99 : pm_T := [[(0, (.aload 0, 1, 0, 0, 0, [])), (1, (.getfield 1, 3, 9, 5, 0, [(0, 337)])), (4, (.getfield 0, 3, 7, 1, 0, [(0, 230)])), (7, (.ldc 0, 2, 0, 0, 12, [])), (9, (.iadd, 1, 0, 0, 0, [])), (10, (.ldc 0, 2, 0, 0, 96, [])), (12, (.if_icmp .le 0, 3, 18, 0, 0, [])), (15, (.ldc 0, 2, 390, 0, (-1000000003), [])), (17, (.ireturn, 1, 0, 0, 0, [])), (18, (.aload 0, 1, 0, 0, 0, [])), (19, (.getfield 1, 3, 9, 5, 0, [(0, 337)])), (22, (.iload 1, 1, 0, 0, 0, [])), (23, (.invokestatic 0, 3, 68, 2, 706, [(0, 7)])), (26, (.aload 0, 1, 0, 0, 0, [])), (27, (.getfield 1, 3, 9, 5, 0, [(0, 337)])), (30, (.iload 2, 1, 0, 0, 0, [])), (31, (.invokestatic 0, 3, 68, 2, 706, [(0, 7)]))],
  [(34, (.aload 0, 1, 0, 0, 0, [])), (35, (.getfield 1, 3, 9, 5, 0, [(0, 337)])), (38, (.iload 3, 1, 0, 0, 0, [])), (39, (.invokestatic 0, 3, 68, 2, 706, [(0, 7)])), (42, (.aload 0, 1, 0, 0, 0, [])), (43, (.getfield 1, 3, 9, 5, 0, [(0, 337)])), (46, (.getfield 0, 3, 7, 1, 0, [(0, 230)])), (49, (.ireturn, 1, 0, 0, 0, []))]]
abbrev m_E_feed : Nat := 99
/-- E_trim -/
def pm_t100 : pm_T := [[(0, (.iload 1, 1, 0, 0, 0, [])), (1, (.ifCond .lt 0, 3, 15, 0, 0, [])), (4, (.iload 1, 1, 0, 0, 0, [])), (5, (.aload 0, 1, 0, 0, 0, [])), (6, (.getfield 1, 3, 9, 5, 0, [(0, 337)])), (9, (.getfield 0, 3, 7, 1, 0, [(0, 230)])), (12, (.if_icmp .le 0, 3, 18, 0, 0, [])), (15, (.ldc 0, 2, 385, 0, (-1000000001), [])), (17, (.ireturn, 1, 0, 0, 0, [])), (18, (.aload 0, 1, 0, 0, 0, [])), (19, (.getfield 1, 3, 9, 5, 0, [(0, 337)])), (22, (.iload 1, 1, 0, 0, 0, [])), (23, (.putfield 0, 3, 7, 1, 0, [(0, 230)])), (26, (.iload 1, 1, 0, 0, 0, [])), (27, (.ireturn, 1, 0, 0, 0, []))]]
abbrev m_E_trim : Nat := 100
/-- E_text -/
def pm_t101 : pm_T := [[(0, (.aload 0, 1, 0, 0, 0, [])), (1, (.getfield 1, 3, 9, 1, 0, [(0, 333)])), (4, (.getfield 0, 3, 0, 8, 0, [(0, 199)])), (7, (.istore 1, 1, 0, 0, 0, [])), (8, (.aload 0, 1, 0, 0, 0, [])), (9, (.getfield 1, 3, 9, 0, 0, [(0, 332)])), (12, (.getfield 1, 3, 1, 0, 0, [(0, 127)])), (15, (.iload 1, 1, 0, 0, 0, [])), (16, (.ifCond .lt 0, 3, 29, 0, 0, [])), (19, (.iload 1, 1, 0, 0, 0, [])), (20, (.ldc 0, 2, 0, 0, 14, [])), (22, (.if_icmp .ge 0, 3, 29, 0, 0, [])), (25, (.iload 1, 1, 0, 0, 0, [])), (26, (.goto 0, 3, 31, 0, 0, [])), (29, (.ldc 0, 2, 0, 0, 14, [])), (31, (.aaload, 1, 7, 0, 0, []))],
  [(32, (.astore 2, 1, 0, 0, 0, [])), (33, (.aload 0, 1, 0, 0, 0, [])), (34, (.getfield 1, 3, 9, 6, 0, [(0, 338)])), (37, (.aload 2, 1, 0, 0, 0, [])), (38, (.invokestatic 1, 3, 28, 2, 718, [(0, 2)])), (41, (.istore 3, 1, 0, 0, 0, [])), (42, (.aload 0, 1, 0, 0, 0, [])), (43, (.getfield 1, 3, 9, 5, 0, [(0, 337)])), (46, (.ldc 0, 1, 0, 0, 0, [])), (47, (.putfield 0, 3, 7, 1, 0, [(0, 230)])), (50, (.iload 3, 1, 0, 0, 0, [])), (51, (.ldc 0, 2, 518, 0, (-1000000005), [])), (53, (.if_icmp .eq 0, 3, 61, 0, 0, [])), (56, (.ldc 0, 2, 0, 0, (-100), [])), (58, (.iload 3, 1, 0, 0, 0, [])), (59, (.isub, 1, 0, 0, 0, [])), (60, (.ireturn, 1, 0, 0, 0, [])), (61, (.iload 1, 1, 0, 0, 0, [])), (62, (.ldc 0, 2, 0, 0, 14, []))],
  [(64, (.if_icmp .lt 0, 3, 70, 0, 0, [])), (67, (.ldc 0, 2, 390, 0, (-1000000003), [])), (69, (.ireturn, 1, 0, 0, 0, [])), (70, (.aload 0, 1, 0, 0, 0, [])), (71, (.getfield 1, 3, 9, 1, 0, [(0, 333)])), (74, (.aload 2, 1, 0, 0, 0, [])), (75, (.getfield 0, 3, 8, 0, 0, [(0, 108)])), (78, (.invokestatic 0, 3, 8, 2, 914, [(0, 0)])), (81, (.iload 1, 1, 0, 0, 0, [])), (82, (.ireturn, 1, 0, 0, 0, []))]]
abbrev m_E_text : Nat := 101
/-- E_textTold -/
def pm_t102 : pm_T := [[(0, (.iload 1, 1, 0, 0, 0, [])), (1, (.ifCond .lt 0, 3, 34, 0, 0, [])), (4, (.iload 1, 1, 0, 0, 0, [])), (5, (.aload 0, 1, 0, 0, 0, [])), (6, (.getfield 1, 3, 9, 1, 0, [(0, 333)])), (9, (.getfield 0, 3, 0, 8, 0, [(0, 199)])), (12, (.if_icmp .ge 0, 3, 34, 0, 0, [])), (15, (.iload 1, 1, 0, 0, 0, [])), (16, (.aload 0, 1, 0, 0, 0, [])), (17, (.getfield 1, 3, 9, 0, 0, [(0, 332)])), (20, (.getfield 1, 3, 1, 0, 0, [(0, 127)])), (23, (.arraylength, 1, 0, 0, 0, [])), (24, (.if_icmp .ge 0, 3, 34, 0, 0, [])), (27, (.iload 2, 1, 0, 0, 0, [])), (28, (.invokestatic 1, 3, 124, 1, 638, [])), (31, (.ifCond .ne 0, 3, 37, 0, 0, []))],
  [(34, (.ldc 0, 2, 385, 0, (-1000000001), [])), (36, (.ireturn, 1, 0, 0, 0, [])), (37, (.iload 2, 1, 0, 0, 0, [])), (38, (.ifCond .ne 0, 3, 56, 0, 0, [])), (41, (.aload 0, 1, 0, 0, 0, [])), (42, (.getfield 1, 3, 9, 0, 0, [(0, 332)])), (45, (.getfield 1, 3, 1, 0, 0, [(0, 127)])), (48, (.iload 1, 1, 0, 0, 0, [])), (49, (.aaload, 1, 7, 0, 0, [])), (50, (.getfield 0, 3, 8, 0, 0, [(0, 108)])), (53, (.goto 0, 3, 68, 0, 0, [])), (56, (.aload 0, 1, 0, 0, 0, [])), (57, (.getfield 1, 3, 9, 0, 0, [(0, 332)])), (60, (.getfield 1, 3, 1, 0, 0, [(0, 127)])), (63, (.iload 1, 1, 0, 0, 0, []))],
  [(64, (.aaload, 1, 7, 0, 0, [])), (65, (.getfield 0, 3, 8, 1, 0, [(0, 111)])), (68, (.ireturn, 1, 0, 0, 0, []))]]
abbrev m_E_textTold : Nat := 102
/-- E_why -/
def pm_t103 : pm_T := [[(0, (.iload 1, 1, 0, 0, 0, [])), (1, (.ifCond .lt 0, 3, 9, 0, 0, [])), (4, (.iload 1, 1, 0, 0, 0, [])), (5, (.ldc 0, 1, 0, 0, 3, [])), (6, (.if_icmp .lt 0, 3, 14, 0, 0, [])), (9, (.ldc 0, 2, 385, 0, (-1000000001), [])), (11, (.goto 0, 3, 22, 0, 0, [])), (14, (.aload 0, 1, 0, 0, 0, [])), (15, (.getfield 1, 3, 9, 1, 0, [(0, 333)])), (18, (.iload 1, 1, 0, 0, 0, [])), (19, (.invokestatic 1, 3, 7, 2, 696, [(0, 0)])), (22, (.ireturn, 1, 0, 0, 0, []))]]
abbrev m_E_why : Nat := 103
/-- E_sheet -/
def pm_t104 : pm_T := [[(0, (.iload 1, 1, 0, 0, 0, [])), (1, (.invokestatic 1, 3, 126, 1, 587, [])), (4, (.ifCond .eq 0, 3, 17, 0, 0, [])), (7, (.iload 2, 1, 0, 0, 0, [])), (8, (.ldc 0, 1, 0, 0, (-1), [])), (9, (.if_icmp .lt 0, 3, 17, 0, 0, [])), (12, (.iload 2, 1, 0, 0, 0, [])), (13, (.ldc 0, 1, 0, 0, 1, [])), (14, (.if_icmp .le 0, 3, 20, 0, 0, [])), (17, (.ldc 0, 2, 385, 0, (-1000000001), [])), (19, (.ireturn, 1, 0, 0, 0, [])), (20, (.iload 2, 1, 0, 0, 0, [])), (21, (.ldc 0, 1, 0, 0, (-1), [])), (22, (.if_icmp .ne 0, 3, 38, 0, 0, [])), (25, (.aload 0, 1, 0, 0, 0, [])), (26, (.getfield 1, 3, 9, 7, 0, [(0, 339)])), (29, (.iload 1, 1, 0, 0, 0, [])), (30, (.aaload, 1, 5, 0, 0, [])), (31, (.ldc 0, 1, 0, 0, (-1), []))],
  [(32, (.ldc 0, 1, 0, 0, 0, [])), (33, (.invokestatic 0, 3, 54, 3, 931, [(0, 4)])), (36, (.ldc 0, 1, 0, 0, 0, [])), (37, (.ireturn, 1, 0, 0, 0, [])), (38, (.iload 3, 1, 0, 0, 0, [])), (39, (.ldc 0, 2, 0, 0, 24, [])), (41, (.if_icmp .le 0, 3, 47, 0, 0, [])), (44, (.ldc 0, 2, 385, 0, (-1000000001), [])), (46, (.ireturn, 1, 0, 0, 0, [])), (47, (.iload 3, 1, 0, 0, 0, [])), (48, (.ifCond .ge 0, 3, 55, 0, 0, [])), (51, (.ldc 0, 3, 604, 0, (-1000000014), [])), (54, (.ireturn, 1, 0, 0, 0, [])), (55, (.aload 0, 1, 0, 0, 0, [])), (56, (.getfield 1, 3, 9, 7, 0, [(0, 339)])), (59, (.iload 1, 1, 0, 0, 0, [])), (60, (.aaload, 1, 5, 0, 0, [])), (61, (.iload 2, 1, 0, 0, 0, [])), (62, (.iload 3, 1, 0, 0, 0, [])), (63, (.invokestatic 0, 3, 54, 3, 931, [(0, 4)]))],
  [(66, (.iload 3, 1, 0, 0, 0, [])), (67, (.ireturn, 1, 0, 0, 0, []))]]
abbrev m_E_sheet : Nat := 104
/-- E_mark -/
def pm_t105 : pm_T := [[(0, (.iload 1, 1, 0, 0, 0, [])), (1, (.invokestatic 1, 3, 126, 1, 587, [])), (4, (.ifCond .ne 0, 3, 10, 0, 0, [])), (7, (.ldc 0, 2, 385, 0, (-1000000001), [])), (9, (.ireturn, 1, 0, 0, 0, [])), (10, (.aload 0, 1, 0, 0, 0, [])), (11, (.getfield 1, 3, 9, 7, 0, [(0, 339)])), (14, (.iload 1, 1, 0, 0, 0, [])), (15, (.aaload, 1, 5, 0, 0, [])), (16, (.astore 4, 2, 0, 0, 0, [])), (18, (.aload 4, 2, 0, 0, 0, [])), (20, (.getfield 0, 3, 4, 0, 0, [(0, 277)])), (23, (.ldc 0, 1, 0, 0, (-1), [])), (24, (.if_icmp .ne 0, 3, 30, 0, 0, [])), (27, (.ldc 0, 2, 594, 0, (-1000000011), [])), (29, (.ireturn, 1, 0, 0, 0, [])), (30, (.aload 4, 2, 0, 0, 0, []))],
  [(32, (.iload 2, 1, 0, 0, 0, [])), (33, (.invokestatic 1, 3, 56, 2, 939, [(0, 4)])), (36, (.ifCond .ne 0, 3, 43, 0, 0, [])), (39, (.ldc 0, 3, 940, 0, (-1000000013), [])), (42, (.ireturn, 1, 0, 0, 0, [])), (43, (.aload 4, 2, 0, 0, 0, [])), (45, (.getfield 0, 3, 4, 0, 0, [(0, 277)])), (48, (.ifCond .ne 0, 3, 71, 0, 0, [])), (51, (.iload 3, 1, 0, 0, 0, [])), (52, (.ldc 0, 2, 518, 0, (-1000000005), [])), (54, (.if_icmp .ne 0, 3, 60, 0, 0, [])), (57, (.ldc 0, 2, 476, 0, (-1000000012), [])), (59, (.ireturn, 1, 0, 0, 0, [])), (60, (.aload 4, 2, 0, 0, 0, [])), (62, (.getfield 1, 3, 4, 2, 0, [(0, 281)]))],
  [(65, (.iload 2, 1, 0, 0, 0, [])), (66, (.iload 3, 1, 0, 0, 0, [])), (67, (.i2s, 1, 0, 0, 0, [])), (68, (.iastore, 1, 0, 0, 0, [])), (69, (.ldc 0, 1, 0, 0, 1, [])), (70, (.ireturn, 1, 0, 0, 0, [])), (71, (.iload 3, 1, 0, 0, 0, [])), (72, (.ldc 0, 2, 518, 0, (-1000000005), [])), (74, (.if_icmp .eq 0, 3, 94, 0, 0, [])), (77, (.iload 3, 1, 0, 0, 0, [])), (78, (.ldc 0, 3, 941, 0, (-99999), [])), (81, (.if_icmp .lt 0, 3, 91, 0, 0, [])), (84, (.iload 3, 1, 0, 0, 0, [])), (85, (.ldc 0, 3, 942, 0, 99999, [])), (88, (.if_icmp .le 0, 3, 94, 0, 0, [])), (91, (.ldc 0, 2, 385, 0, (-1000000001), [])), (93, (.ireturn, 1, 0, 0, 0, [])), (94, (.aload 4, 2, 0, 0, 0, []))],
  [(96, (.getfield 1, 3, 4, 2, 0, [(0, 281)])), (99, (.iload 2, 1, 0, 0, 0, [])), (100, (.iload 3, 1, 0, 0, 0, [])), (101, (.iastore, 1, 0, 0, 0, [])), (102, (.ldc 0, 1, 0, 0, 1, [])), (103, (.ireturn, 1, 0, 0, 0, []))]]
abbrev m_E_mark : Nat := 105
/-- E_pour -/
def pm_t106 : pm_T := [[(0, (.iload 1, 1, 0, 0, 0, [])), (1, (.invokestatic 1, 3, 126, 1, 587, [])), (4, (.ifCond .ne 0, 3, 10, 0, 0, [])), (7, (.ldc 0, 2, 385, 0, (-1000000001), [])), (9, (.ireturn, 1, 0, 0, 0, [])), (10, (.aload 0, 1, 0, 0, 0, [])), (11, (.getfield 1, 3, 9, 7, 0, [(0, 339)])), (14, (.iload 1, 1, 0, 0, 0, [])), (15, (.aaload, 1, 5, 0, 0, [])), (16, (.astore 2, 1, 0, 0, 0, [])), (17, (.aload 2, 1, 0, 0, 0, [])), (18, (.getfield 0, 3, 4, 0, 0, [(0, 277)])), (21, (.ldc 0, 1, 0, 0, (-1), [])), (22, (.if_icmp .ne 0, 3, 28, 0, 0, [])), (25, (.ldc 0, 2, 594, 0, (-1000000011), [])), (27, (.ireturn, 1, 0, 0, 0, [])), (28, (.ldc 0, 1, 0, 0, 0, [])), (29, (.istore 3, 1, 0, 0, 0, [])), (30, (.ldc 0, 1, 0, 0, 0, [])), (31, (.istore 4, 2, 0, 0, 0, []))],
  [(33, (.iload 4, 2, 0, 0, 0, [])), (35, (.aload 0, 1, 0, 0, 0, [])), (36, (.getfield 1, 3, 9, 1, 0, [(0, 333)])), (39, (.getfield 0, 3, 0, 2, 0, [(0, 187)])), (42, (.if_icmp .ge 0, 3, 126, 0, 0, [])), (45, (.aload 2, 1, 0, 0, 0, [])), (46, (.iload 4, 2, 0, 0, 0, [])), (48, (.invokestatic 1, 3, 56, 2, 939, [(0, 4)])), (51, (.ifCond .eq 0, 3, 126, 0, 0, [])), (54, (.aload 2, 1, 0, 0, 0, [])), (55, (.getfield 1, 3, 4, 2, 0, [(0, 281)])), (58, (.iload 4, 2, 0, 0, 0, [])), (60, (.iaload, 1, 0, 0, 0, [])), (61, (.ldc 0, 2, 518, 0, (-1000000005), [])), (63, (.if_icmp .ne 0, 3, 69, 0, 0, []))],
  [(66, (.goto 0, 3, 120, 0, 0, [])), (69, (.aload 2, 1, 0, 0, 0, [])), (70, (.getfield 1, 3, 4, 2, 0, [(0, 281)])), (73, (.iload 4, 2, 0, 0, 0, [])), (75, (.iaload, 1, 0, 0, 0, [])), (76, (.ldc 0, 1, 0, 0, 0, [])), (77, (.ldc 0, 2, 0, 0, 99, [])), (79, (.invokestatic 1, 3, 128, 3, 947, [])), (82, (.istore 5, 2, 0, 0, 0, [])), (84, (.iload 5, 2, 0, 0, 0, [])), (86, (.aload 0, 1, 0, 0, 0, [])), (87, (.getfield 1, 3, 9, 1, 0, [(0, 333)])), (90, (.getfield 1, 3, 0, 1, 0, [(0, 185)])), (93, (.iload 4, 2, 0, 0, 0, [])), (95, (.aaload, 1, 4, 0, 0, []))],
  [(96, (.getfield 0, 3, 6, 2, 0, [(0, 157)])), (99, (.if_icmp .eq 0, 3, 105, 0, 0, [])), (102, (.iinc 3 0, 3, 0, 0, 1, [])), (105, (.aload 0, 1, 0, 0, 0, [])), (106, (.getfield 1, 3, 9, 1, 0, [(0, 333)])), (109, (.getfield 1, 3, 0, 1, 0, [(0, 185)])), (112, (.iload 4, 2, 0, 0, 0, [])), (114, (.aaload, 1, 4, 0, 0, [])), (115, (.iload 5, 2, 0, 0, 0, [])), (117, (.putfield 0, 3, 6, 2, 0, [(0, 157)])), (120, (.iinc 4 0, 3, 0, 0, 1, [])), (123, (.goto 0, 3, 33, 0, 0, [])), (126, (.iload 3, 1, 0, 0, 0, [])), (127, (.ireturn, 1, 0, 0, 0, []))]]
abbrev m_E_pour : Nat := 106
/-- E_reads -/
def pm_t107 : pm_T := [[(0, (.iload 1, 1, 0, 0, 0, [])), (1, (.invokestatic 1, 3, 126, 1, 587, [])), (4, (.ifCond .ne 0, 3, 10, 0, 0, [])), (7, (.ldc 0, 2, 385, 0, (-1000000001), [])), (9, (.ireturn, 1, 0, 0, 0, [])), (10, (.aload 0, 1, 0, 0, 0, [])), (11, (.getfield 1, 3, 9, 7, 0, [(0, 339)])), (14, (.iload 1, 1, 0, 0, 0, [])), (15, (.aaload, 1, 5, 0, 0, [])), (16, (.astore 2, 1, 0, 0, 0, [])), (17, (.aload 2, 1, 0, 0, 0, [])), (18, (.getfield 0, 3, 4, 0, 0, [(0, 277)])), (21, (.ldc 0, 1, 0, 0, (-1), [])), (22, (.if_icmp .ne 0, 3, 28, 0, 0, [])), (25, (.ldc 0, 2, 594, 0, (-1000000011), [])), (27, (.ireturn, 1, 0, 0, 0, [])), (28, (.ldc 0, 1, 0, 0, 0, [])), (29, (.istore 3, 1, 0, 0, 0, [])), (30, (.iload 3, 1, 0, 0, 0, [])), (31, (.ldc 0, 2, 0, 0, 24, []))],
  [(33, (.if_icmp .ge 0, 3, 98, 0, 0, [])), (36, (.aload 2, 1, 0, 0, 0, [])), (37, (.iload 3, 1, 0, 0, 0, [])), (38, (.invokestatic 1, 3, 56, 2, 939, [(0, 4)])), (41, (.ifCond .eq 0, 3, 98, 0, 0, [])), (44, (.aload 2, 1, 0, 0, 0, [])), (45, (.getfield 1, 3, 4, 2, 0, [(0, 281)])), (48, (.iload 3, 1, 0, 0, 0, [])), (49, (.iaload, 1, 0, 0, 0, [])), (50, (.ldc 0, 2, 518, 0, (-1000000005), [])), (52, (.if_icmp .ne 0, 3, 58, 0, 0, [])), (55, (.goto 0, 3, 92, 0, 0, [])), (58, (.aload 0, 1, 0, 0, 0, [])), (59, (.getfield 1, 3, 9, 1, 0, [(0, 333)])), (62, (.iload 3, 1, 0, 0, 0, [])), (63, (.invokestatic 1, 3, 2, 2, 404, [(0, 0)]))],
  [(66, (.ifCond .eq 0, 3, 90, 0, 0, [])), (69, (.aload 2, 1, 0, 0, 0, [])), (70, (.getfield 1, 3, 4, 2, 0, [(0, 281)])), (73, (.iload 3, 1, 0, 0, 0, [])), (74, (.iaload, 1, 0, 0, 0, [])), (75, (.aload 0, 1, 0, 0, 0, [])), (76, (.getfield 1, 3, 9, 1, 0, [(0, 333)])), (79, (.getfield 1, 3, 0, 1, 0, [(0, 185)])), (82, (.iload 3, 1, 0, 0, 0, [])), (83, (.aaload, 1, 4, 0, 0, [])), (84, (.getfield 0, 3, 6, 4, 0, [(0, 163)])), (87, (.if_icmp .eq 0, 3, 92, 0, 0, [])), (90, (.iload 3, 1, 0, 0, 0, [])), (91, (.ireturn, 1, 0, 0, 0, [])), (92, (.iinc 3 0, 3, 0, 0, 1, [])), (95, (.goto 0, 3, 30, 0, 0, []))],
  [(98, (.ldc 0, 2, 518, 0, (-1000000005), [])), (100, (.ireturn, 1, 0, 0, 0, []))]]
abbrev m_E_reads : Nat := 107
/-- E_copy -/
def pm_t108 : pm_T := [[(0, (.iload 1, 1, 0, 0, 0, [])), (1, (.invokestatic 1, 3, 126, 1, 587, [])), (4, (.ifCond .eq 0, 3, 14, 0, 0, [])), (7, (.iload 3, 1, 0, 0, 0, [])), (8, (.invokestatic 1, 3, 126, 1, 587, [])), (11, (.ifCond .ne 0, 3, 17, 0, 0, [])), (14, (.ldc 0, 2, 385, 0, (-1000000001), [])), (16, (.ireturn, 1, 0, 0, 0, [])), (17, (.aload 0, 1, 0, 0, 0, [])), (18, (.getfield 1, 3, 9, 7, 0, [(0, 339)])), (21, (.iload 1, 1, 0, 0, 0, [])), (22, (.aaload, 1, 5, 0, 0, [])), (23, (.astore 6, 2, 0, 0, 0, [])), (25, (.aload 0, 1, 0, 0, 0, [])), (26, (.getfield 1, 3, 9, 7, 0, [(0, 339)])), (29, (.iload 3, 1, 0, 0, 0, [])), (30, (.aaload, 1, 5, 0, 0, [])), (31, (.astore 7, 2, 0, 0, 0, []))],
  [(33, (.aload 6, 2, 0, 0, 0, [])), (35, (.getfield 0, 3, 4, 0, 0, [(0, 277)])), (38, (.ldc 0, 1, 0, 0, (-1), [])), (39, (.if_icmp .eq 0, 3, 51, 0, 0, [])), (42, (.aload 7, 2, 0, 0, 0, [])), (44, (.getfield 0, 3, 4, 0, 0, [(0, 277)])), (47, (.ldc 0, 1, 0, 0, (-1), [])), (48, (.if_icmp .ne 0, 3, 54, 0, 0, [])), (51, (.ldc 0, 2, 594, 0, (-1000000011), [])), (53, (.ireturn, 1, 0, 0, 0, [])), (54, (.aload 6, 2, 0, 0, 0, [])), (56, (.getfield 0, 3, 4, 0, 0, [(0, 277)])), (59, (.aload 7, 2, 0, 0, 0, [])), (61, (.getfield 0, 3, 4, 0, 0, [(0, 277)]))],
  [(64, (.if_icmp .eq 0, 3, 70, 0, 0, [])), (67, (.ldc 0, 2, 476, 0, (-1000000012), [])), (69, (.ireturn, 1, 0, 0, 0, [])), (70, (.aload 6, 2, 0, 0, 0, [])), (72, (.iload 2, 1, 0, 0, 0, [])), (73, (.iload 5, 2, 0, 0, 0, [])), (75, (.invokestatic 1, 3, 57, 3, 956, [(0, 4)])), (78, (.ifCond .eq 0, 3, 93, 0, 0, [])), (81, (.aload 7, 2, 0, 0, 0, [])), (83, (.iload 4, 2, 0, 0, 0, [])), (85, (.iload 5, 2, 0, 0, 0, [])), (87, (.invokestatic 1, 3, 57, 3, 956, [(0, 4)])), (90, (.ifCond .ne 0, 3, 97, 0, 0, [])), (93, (.ldc 0, 3, 940, 0, (-1000000013), []))],
  [(96, (.ireturn, 1, 0, 0, 0, [])), (97, (.aload 6, 2, 0, 0, 0, [])), (99, (.getfield 1, 3, 4, 2, 0, [(0, 281)])), (102, (.iload 2, 1, 0, 0, 0, [])), (103, (.aload 7, 2, 0, 0, 0, [])), (105, (.getfield 1, 3, 4, 2, 0, [(0, 281)])), (108, (.iload 4, 2, 0, 0, 0, [])), (110, (.iload 5, 2, 0, 0, 0, [])), (112, (.swap, 3, 960, 0, 0, [])), (115, (.iload 5, 2, 0, 0, 0, [])), (117, (.ireturn, 1, 0, 0, 0, []))]]
abbrev m_E_copy : Nat := 108
/-- E_lay -/
def pm_t109 : pm_T := [[(0, (.iload 1, 1, 0, 0, 0, [])), (1, (.invokestatic 1, 3, 127, 1, 967, [])), (4, (.ifCond .eq 0, 3, 16, 0, 0, [])), (7, (.iload 2, 1, 0, 0, 0, [])), (8, (.ifCond .lt 0, 3, 16, 0, 0, [])), (11, (.iload 2, 1, 0, 0, 0, [])), (12, (.ldc 0, 1, 0, 0, 3, [])), (13, (.if_icmp .le 0, 3, 19, 0, 0, [])), (16, (.ldc 0, 2, 385, 0, (-1000000001), [])), (18, (.ireturn, 1, 0, 0, 0, [])), (19, (.iload 2, 1, 0, 0, 0, [])), (20, (.ldc 0, 1, 0, 0, 1, [])), (21, (.if_icmp .ne 0, 3, 38, 0, 0, [])), (24, (.aload 0, 1, 0, 0, 0, [])), (25, (.getfield 1, 3, 9, 1, 0, [(0, 333)])), (28, (.iload 3, 1, 0, 0, 0, [])), (29, (.invokestatic 1, 3, 2, 2, 404, [(0, 0)]))],
  [(32, (.ifCond .ne 0, 3, 38, 0, 0, [])), (35, (.ldc 0, 2, 385, 0, (-1000000001), [])), (37, (.ireturn, 1, 0, 0, 0, [])), (38, (.iload 2, 1, 0, 0, 0, [])), (39, (.ldc 0, 1, 0, 0, 2, [])), (40, (.if_icmp .ne 0, 3, 53, 0, 0, [])), (43, (.iload 3, 1, 0, 0, 0, [])), (44, (.invokestatic 1, 3, 126, 1, 587, [])), (47, (.ifCond .ne 0, 3, 53, 0, 0, [])), (50, (.ldc 0, 2, 385, 0, (-1000000001), [])), (52, (.ireturn, 1, 0, 0, 0, [])), (53, (.iload 2, 1, 0, 0, 0, [])), (54, (.ldc 0, 1, 0, 0, 2, [])), (55, (.if_icmp .ne 0, 3, 74, 0, 0, [])), (58, (.aload 0, 1, 0, 0, 0, [])), (59, (.getfield 1, 3, 9, 7, 0, [(0, 339)])), (62, (.iload 3, 1, 0, 0, 0, [])), (63, (.aaload, 1, 5, 0, 0, []))],
  [(64, (.getfield 0, 3, 4, 0, 0, [(0, 277)])), (67, (.ldc 0, 1, 0, 0, (-1), [])), (68, (.if_icmp .ne 0, 3, 74, 0, 0, [])), (71, (.ldc 0, 2, 594, 0, (-1000000011), [])), (73, (.ireturn, 1, 0, 0, 0, [])), (74, (.aload 0, 1, 0, 0, 0, [])), (75, (.getfield 1, 3, 9, 8, 0, [(0, 340)])), (78, (.iload 1, 1, 0, 0, 0, [])), (79, (.aaload, 1, 6, 0, 0, [])), (80, (.astore 4, 2, 0, 0, 0, [])), (82, (.aload 4, 2, 0, 0, 0, [])), (84, (.getfield 0, 3, 5, 0, 0, [(0, 299)])), (87, (.istore 5, 2, 0, 0, 0, [])), (89, (.aload 4, 2, 0, 0, 0, [])), (91, (.iload 2, 1, 0, 0, 0, [])), (92, (.putfield 0, 3, 5, 0, 0, [(0, 299)])), (95, (.iload 2, 1, 0, 0, 0, []))],
  [(96, (.ldc 0, 1, 0, 0, 1, [])), (97, (.if_icmp .ne 0, 3, 114, 0, 0, [])), (100, (.aload 4, 2, 0, 0, 0, [])), (102, (.aload 0, 1, 0, 0, 0, [])), (103, (.getfield 1, 3, 9, 1, 0, [(0, 333)])), (106, (.getfield 1, 3, 0, 1, 0, [(0, 185)])), (109, (.iload 3, 1, 0, 0, 0, [])), (110, (.aaload, 1, 4, 0, 0, [])), (111, (.invokestatic 0, 3, 59, 2, 970, [(0, 5)])), (114, (.iload 2, 1, 0, 0, 0, [])), (115, (.ldc 0, 1, 0, 0, 2, [])), (116, (.if_icmp .ne 0, 3, 133, 0, 0, [])), (119, (.aload 4, 2, 0, 0, 0, [])), (121, (.getfield 1, 3, 5, 4, 0, [(0, 306)])), (124, (.aload 0, 1, 0, 0, 0, [])), (125, (.getfield 1, 3, 9, 7, 0, [(0, 339)]))],
  [(128, (.iload 3, 1, 0, 0, 0, [])), (129, (.aaload, 1, 5, 0, 0, [])), (130, (.invokestatic 0, 3, 55, 2, 974, [(0, 4)])), (133, (.iload 2, 1, 0, 0, 0, [])), (134, (.ldc 0, 1, 0, 0, 3, [])), (135, (.if_icmp .ne 0, 3, 144, 0, 0, [])), (138, (.aload 4, 2, 0, 0, 0, [])), (140, (.iload 3, 1, 0, 0, 0, [])), (141, (.putfield 0, 3, 5, 3, 0, [(0, 304)])), (144, (.iload 5, 2, 0, 0, 0, [])), (146, (.ireturn, 1, 0, 0, 0, []))]]
abbrev m_E_lay : Nat := 109
/-- E_ask -/
def pm_t110 : pm_T := [[(0, (.iload 1, 1, 0, 0, 0, [])), (1, (.invokestatic 1, 3, 127, 1, 967, [])), (4, (.ifCond .eq 0, 3, 14, 0, 0, [])), (7, (.iload 2, 1, 0, 0, 0, [])), (8, (.invokestatic 1, 3, 118, 1, 376, [])), (11, (.ifCond .ne 0, 3, 17, 0, 0, [])), (14, (.ldc 0, 2, 385, 0, (-1000000001), [])), (16, (.ireturn, 1, 0, 0, 0, [])), (17, (.aload 0, 1, 0, 0, 0, [])), (18, (.getfield 1, 3, 9, 8, 0, [(0, 340)])), (21, (.iload 1, 1, 0, 0, 0, [])), (22, (.aaload, 1, 6, 0, 0, [])), (23, (.astore 3, 1, 0, 0, 0, [])), (24, (.aload 3, 1, 0, 0, 0, [])), (25, (.getfield 0, 3, 5, 0, 0, [(0, 299)])), (28, (.ifCond .ne 0, 3, 34, 0, 0, [])), (31, (.ldc 0, 2, 594, 0, (-1000000011), []))],
  [(33, (.ireturn, 1, 0, 0, 0, [])), (34, (.aload 3, 1, 0, 0, 0, [])), (35, (.getfield 0, 3, 5, 0, 0, [(0, 299)])), (38, (.ldc 0, 1, 0, 0, 1, [])), (39, (.if_icmp .ne 0, 3, 53, 0, 0, [])), (42, (.aload 3, 1, 0, 0, 0, [])), (43, (.getfield 0, 3, 5, 1, 0, [(0, 301)])), (46, (.iload 2, 1, 0, 0, 0, [])), (47, (.invokestatic 1, 3, 17, 2, 471, [])), (50, (.ifCond .ne 0, 3, 56, 0, 0, [])), (53, (.ldc 0, 2, 476, 0, (-1000000012), [])), (55, (.ireturn, 1, 0, 0, 0, [])), (56, (.aload 3, 1, 0, 0, 0, [])), (57, (.getfield 0, 3, 5, 1, 0, [(0, 301)])), (60, (.aload 3, 1, 0, 0, 0, [])), (61, (.getfield 0, 3, 5, 2, 0, [(0, 303)]))],
  [(64, (.invokestatic 1, 3, 21, 2, 452, [])), (67, (.ireturn, 1, 0, 0, 0, []))]]
abbrev m_E_ask : Nat := 110
/-- E_item -/
def pm_t111 : pm_T := [[(0, (.iload 1, 1, 0, 0, 0, [])), (1, (.invokestatic 1, 3, 127, 1, 967, [])), (4, (.ifCond .ne 0, 3, 10, 0, 0, [])), (7, (.ldc 0, 2, 385, 0, (-1000000001), [])), (9, (.ireturn, 1, 0, 0, 0, [])), (10, (.aload 0, 1, 0, 0, 0, [])), (11, (.getfield 1, 3, 9, 8, 0, [(0, 340)])), (14, (.iload 1, 1, 0, 0, 0, [])), (15, (.aaload, 1, 6, 0, 0, [])), (16, (.getfield 0, 3, 5, 0, 0, [(0, 299)])), (19, (.ifCond .ne 0, 3, 25, 0, 0, [])), (22, (.ldc 0, 2, 594, 0, (-1000000011), [])), (24, (.ireturn, 1, 0, 0, 0, [])), (25, (.aload 0, 1, 0, 0, 0, [])), (26, (.getfield 1, 3, 9, 8, 0, [(0, 340)])), (29, (.iload 1, 1, 0, 0, 0, [])), (30, (.aaload, 1, 6, 0, 0, [])), (31, (.getfield 0, 3, 5, 0, 0, [(0, 299)]))],
  [(34, (.ldc 0, 1, 0, 0, 2, [])), (35, (.if_icmp .eq 0, 3, 41, 0, 0, [])), (38, (.ldc 0, 2, 476, 0, (-1000000012), [])), (40, (.ireturn, 1, 0, 0, 0, [])), (41, (.aload 0, 1, 0, 0, 0, [])), (42, (.getfield 1, 3, 9, 8, 0, [(0, 340)])), (45, (.iload 1, 1, 0, 0, 0, [])), (46, (.aaload, 1, 6, 0, 0, [])), (47, (.getfield 1, 3, 5, 4, 0, [(0, 306)])), (50, (.astore 3, 1, 0, 0, 0, [])), (51, (.aload 3, 1, 0, 0, 0, [])), (52, (.iload 2, 1, 0, 0, 0, [])), (53, (.invokestatic 1, 3, 56, 2, 939, [(0, 4)])), (56, (.ifCond .ne 0, 3, 63, 0, 0, [])), (59, (.ldc 0, 3, 940, 0, (-1000000013), [])), (62, (.ireturn, 1, 0, 0, 0, [])), (63, (.aload 3, 1, 0, 0, 0, []))],
  [(64, (.getfield 1, 3, 4, 2, 0, [(0, 281)])), (67, (.iload 2, 1, 0, 0, 0, [])), (68, (.iaload, 1, 0, 0, 0, [])), (69, (.ldc 0, 2, 518, 0, (-1000000005), [])), (71, (.if_icmp .ne 0, 3, 79, 0, 0, [])), (74, (.ldc 0, 2, 476, 0, (-1000000012), [])), (76, (.goto 0, 3, 85, 0, 0, [])), (79, (.aload 3, 1, 0, 0, 0, [])), (80, (.getfield 1, 3, 4, 2, 0, [(0, 281)])), (83, (.iload 2, 1, 0, 0, 0, [])), (84, (.iaload, 1, 0, 0, 0, [])), (85, (.ireturn, 1, 0, 0, 0, []))]]
abbrev m_E_item : Nat := 111
/-- E_rest -/
def pm_t112 : pm_T := [[(0, (.iload 1, 1, 0, 0, 0, [])), (1, (.invokestatic 1, 3, 127, 1, 967, [])), (4, (.ifCond .ne 0, 3, 10, 0, 0, [])), (7, (.ldc 0, 2, 385, 0, (-1000000001), [])), (9, (.ireturn, 1, 0, 0, 0, [])), (10, (.aload 0, 1, 0, 0, 0, [])), (11, (.getfield 1, 3, 9, 8, 0, [(0, 340)])), (14, (.iload 1, 1, 0, 0, 0, [])), (15, (.aaload, 1, 6, 0, 0, [])), (16, (.getfield 0, 3, 5, 0, 0, [(0, 299)])), (19, (.ifCond .ne 0, 3, 25, 0, 0, [])), (22, (.ldc 0, 2, 594, 0, (-1000000011), [])), (24, (.ireturn, 1, 0, 0, 0, [])), (25, (.aload 0, 1, 0, 0, 0, [])), (26, (.getfield 1, 3, 9, 8, 0, [(0, 340)])), (29, (.iload 1, 1, 0, 0, 0, [])), (30, (.aaload, 1, 6, 0, 0, [])), (31, (.getfield 0, 3, 5, 0, 0, [(0, 299)]))],
  [(34, (.ldc 0, 1, 0, 0, 3, [])), (35, (.if_icmp .eq 0, 3, 41, 0, 0, [])), (38, (.ldc 0, 2, 476, 0, (-1000000012), [])), (40, (.ireturn, 1, 0, 0, 0, [])), (41, (.iload 2, 1, 0, 0, 0, [])), (42, (.ifCond .ne 0, 3, 51, 0, 0, [])), (45, (.ldc 0, 3, 990, 0, (-1000000002), [])), (48, (.goto 0, 3, 62, 0, 0, [])), (51, (.aload 0, 1, 0, 0, 0, [])), (52, (.getfield 1, 3, 9, 8, 0, [(0, 340)])), (55, (.iload 1, 1, 0, 0, 0, [])), (56, (.aaload, 1, 6, 0, 0, [])), (57, (.getfield 0, 3, 5, 3, 0, [(0, 304)])), (60, (.iload 2, 1, 0, 0, 0, [])), (61, (.irem, 1, 0, 0, 0, [])), (62, (.ireturn, 1, 0, 0, 0, []))]]
abbrev m_E_rest : Nat := 112
/-- E_tell -/
def pm_t113 : pm_T := [[(0, (.aload 0, 1, 0, 0, 0, [])), (1, (.getfield 0, 3, 9, 12, 0, [(0, 344)])), (4, (.ifCond .lt 0, 3, 19, 0, 0, [])), (7, (.aload 0, 1, 0, 0, 0, [])), (8, (.getfield 0, 3, 9, 12, 0, [(0, 344)])), (11, (.aload 0, 1, 0, 0, 0, [])), (12, (.getfield 1, 3, 9, 11, 0, [(0, 343)])), (15, (.arraylength, 1, 0, 0, 0, [])), (16, (.if_icmp .lt 0, 3, 22, 0, 0, [])), (19, (.ldc 0, 2, 390, 0, (-1000000003), [])), (21, (.ireturn, 1, 0, 0, 0, [])), (22, (.aload 0, 1, 0, 0, 0, [])), (23, (.getfield 1, 3, 9, 11, 0, [(0, 343)])), (26, (.aload 0, 1, 0, 0, 0, [])), (27, (.getfield 0, 3, 9, 12, 0, [(0, 344)])), (30, (.iload 1, 1, 0, 0, 0, [])), (31, (.iastore, 1, 0, 0, 0, []))],
  [(32, (.aload 0, 1, 0, 0, 0, [])), (33, (.dup, 1, 0, 0, 0, [])), (34, (.getfield 0, 3, 9, 12, 0, [(0, 344)])), (37, (.ldc 0, 1, 0, 0, 1, [])), (38, (.iadd, 1, 0, 0, 0, [])), (39, (.putfield 0, 3, 9, 12, 0, [(0, 344)])), (42, (.aload 0, 1, 0, 0, 0, [])), (43, (.getfield 0, 3, 9, 12, 0, [(0, 344)])), (46, (.ireturn, 1, 0, 0, 0, []))]]
abbrev m_E_tell : Nat := 113
/-- E_check -/
def pm_t114 : pm_T := [[(0, (.aload 0, 1, 0, 0, 0, [])), (1, (.getfield 0, 3, 9, 12, 0, [(0, 344)])), (4, (.istore 2, 1, 0, 0, 0, [])), (5, (.aload 0, 1, 0, 0, 0, [])), (6, (.ldc 0, 1, 0, 0, 0, [])), (7, (.putfield 0, 3, 9, 12, 0, [(0, 344)])), (10, (.iload 1, 1, 0, 0, 0, [])), (11, (.ldc 0, 1, 0, 0, 1, [])), (12, (.ldc 0, 2, 0, 0, 30, [])), (14, (.invokestatic 1, 3, 125, 3, 556, [])), (17, (.ifCond .ne 0, 3, 23, 0, 0, [])), (20, (.ldc 0, 2, 385, 0, (-1000000001), [])), (22, (.ireturn, 1, 0, 0, 0, [])), (23, (.aload 0, 1, 0, 0, 0, [])), (24, (.getfield 0, 3, 9, 4, 0, [(0, 336)])), (27, (.ifCond .ne 0, 3, 34, 0, 0, [])), (30, (.ldc 0, 3, 990, 0, (-1000000002), []))],
  [(33, (.ireturn, 1, 0, 0, 0, [])), (34, (.aload 0, 1, 0, 0, 0, [])), (35, (.getfield 1, 3, 9, 3, 0, [(0, 335)])), (38, (.aload 0, 1, 0, 0, 0, [])), (39, (.getfield 1, 3, 9, 2, 0, [(0, 334)])), (42, (.invokestatic 0, 3, 1, 2, 641, [(0, 0)])), (45, (.ldc 0, 1, 0, 0, 0, [])), (46, (.istore 3, 1, 0, 0, 0, [])), (47, (.ldc 0, 1, 0, 0, 0, [])), (48, (.istore 4, 2, 0, 0, 0, [])), (50, (.iload 4, 2, 0, 0, 0, [])), (52, (.iload 1, 1, 0, 0, 0, [])), (53, (.if_icmp .ge 0, 3, 128, 0, 0, [])), (56, (.aload 0, 1, 0, 0, 0, [])), (57, (.getfield 1, 3, 9, 3, 0, [(0, 335)])), (60, (.getfield 0, 3, 0, 6, 0, [(0, 195)])), (63, (.ldc 0, 3, 0, 0, 9999, []))],
  [(66, (.if_icmp .ge 0, 3, 128, 0, 0, [])), (69, (.aload 0, 1, 0, 0, 0, [])), (70, (.getfield 1, 3, 9, 3, 0, [(0, 335)])), (73, (.invokestatic 0, 3, 12, 1, 559, [(0, 0)])), (76, (.aload 0, 1, 0, 0, 0, [])), (77, (.iload 3, 1, 0, 0, 0, [])), (78, (.iload 2, 1, 0, 0, 0, [])), (79, (.aload 0, 1, 0, 0, 0, [])), (80, (.getfield 1, 3, 9, 3, 0, [(0, 335)])), (83, (.getfield 0, 3, 0, 4, 0, [(0, 191)])), (86, (.invokestatic 1, 3, 134, 4, 999, [(0, 9)])), (89, (.ifCond .ne 0, 3, 96, 0, 0, [])), (92, (.ldc 0, 1, 0, 0, 1, [])), (93, (.iload 3, 1, 0, 0, 0, [])), (94, (.iadd, 1, 0, 0, 0, [])), (95, (.ireturn, 1, 0, 0, 0, []))],
  [(96, (.iinc 3 0, 3, 0, 0, 1, [])), (99, (.aload 0, 1, 0, 0, 0, [])), (100, (.iload 3, 1, 0, 0, 0, [])), (101, (.iload 2, 1, 0, 0, 0, [])), (102, (.aload 0, 1, 0, 0, 0, [])), (103, (.getfield 1, 3, 9, 3, 0, [(0, 335)])), (106, (.invokestatic 1, 3, 13, 1, 569, [(0, 0)])), (109, (.invokestatic 1, 3, 134, 4, 999, [(0, 9)])), (112, (.ifCond .ne 0, 3, 119, 0, 0, [])), (115, (.ldc 0, 1, 0, 0, 1, [])), (116, (.iload 3, 1, 0, 0, 0, [])), (117, (.iadd, 1, 0, 0, 0, [])), (118, (.ireturn, 1, 0, 0, 0, [])), (119, (.iinc 3 0, 3, 0, 0, 1, [])), (122, (.iinc 4 0, 3, 0, 0, 1, [])), (125, (.goto 0, 3, 50, 0, 0, []))],
  [(128, (.iload 3, 1, 0, 0, 0, [])), (129, (.iload 2, 1, 0, 0, 0, [])), (130, (.if_icmp .ge 0, 3, 139, 0, 0, [])), (133, (.ldc 0, 1, 0, 0, 1, [])), (134, (.iload 3, 1, 0, 0, 0, [])), (135, (.iadd, 1, 0, 0, 0, [])), (136, (.goto 0, 3, 140, 0, 0, [])), (139, (.ldc 0, 1, 0, 0, 0, [])), (140, (.ireturn, 1, 0, 0, 0, []))]]
abbrev m_E_check : Nat := 114
/-- E_keep -/
def pm_t115 : pm_T := [[(0, (.aload 0, 1, 0, 0, 0, [])), (1, (.getfield 1, 3, 9, 2, 0, [(0, 334)])), (4, (.aload 0, 1, 0, 0, 0, [])), (5, (.getfield 1, 3, 9, 1, 0, [(0, 333)])), (8, (.invokestatic 0, 3, 1, 2, 641, [(0, 0)])), (11, (.aload 0, 1, 0, 0, 0, [])), (12, (.ldc 0, 1, 0, 0, 1, [])), (13, (.putfield 0, 3, 9, 4, 3, [(0, 336)])), (16, (.aload 0, 1, 0, 0, 0, [])), (17, (.getfield 1, 3, 9, 2, 0, [(0, 334)])), (20, (.getfield 0, 3, 0, 2, 0, [(0, 187)])), (23, (.ireturn, 1, 0, 0, 0, []))]]
abbrev m_E_keep : Nat := 115
/-- E_back -/
def pm_t116 : pm_T := [[(0, (.aload 0, 1, 0, 0, 0, [])), (1, (.getfield 0, 3, 9, 4, 0, [(0, 336)])), (4, (.ifCond .ne 0, 3, 11, 0, 0, [])), (7, (.ldc 0, 3, 990, 0, (-1000000002), [])), (10, (.ireturn, 1, 0, 0, 0, [])), (11, (.aload 0, 1, 0, 0, 0, [])), (12, (.getfield 1, 3, 9, 1, 0, [(0, 333)])), (15, (.aload 0, 1, 0, 0, 0, [])), (16, (.getfield 1, 3, 9, 2, 0, [(0, 334)])), (19, (.invokestatic 0, 3, 1, 2, 641, [(0, 0)])), (22, (.aload 0, 1, 0, 0, 0, [])), (23, (.getfield 1, 3, 9, 1, 0, [(0, 333)])), (26, (.getfield 0, 3, 0, 2, 0, [(0, 187)])), (29, (.ireturn, 1, 0, 0, 0, []))]]
abbrev m_E_back : Nat := 116
/-- E_count -/
def pm_t117 : pm_T := [[(0, (.iload 1, 1, 0, 0, 0, [])), (1, (.lookupswitch 0 #[], 43, 97, 0, 0, [(0, 44), (1, 52), (2, 60), (3, 68), (4, 76), (5, 81), (6, 89)]))],
  [(44, (.aload 0, 1, 0, 0, 0, [])), (45, (.getfield 1, 3, 9, 1, 0, [(0, 333)])), (48, (.getfield 0, 3, 0, 2, 0, [(0, 187)])), (51, (.ireturn, 1, 0, 0, 0, [])), (52, (.aload 0, 1, 0, 0, 0, [])), (53, (.getfield 1, 3, 9, 1, 0, [(0, 333)])), (56, (.getfield 0, 3, 0, 6, 0, [(0, 195)])), (59, (.ireturn, 1, 0, 0, 0, [])), (60, (.aload 0, 1, 0, 0, 0, [])), (61, (.getfield 1, 3, 9, 1, 0, [(0, 333)]))],
  [(64, (.getfield 0, 3, 0, 3, 0, [(0, 189)])), (67, (.ireturn, 1, 0, 0, 0, [])), (68, (.aload 0, 1, 0, 0, 0, [])), (69, (.getfield 1, 3, 9, 1, 0, [(0, 333)])), (72, (.getfield 0, 3, 0, 8, 0, [(0, 199)])), (75, (.ireturn, 1, 0, 0, 0, [])), (76, (.aload 0, 1, 0, 0, 0, [])), (77, (.getfield 0, 3, 9, 12, 0, [(0, 344)])), (80, (.ireturn, 1, 0, 0, 0, [])), (81, (.aload 0, 1, 0, 0, 0, [])), (82, (.getfield 1, 3, 9, 5, 0, [(0, 337)])), (85, (.getfield 0, 3, 7, 1, 0, [(0, 230)])), (88, (.ireturn, 1, 0, 0, 0, [])), (89, (.aload 0, 1, 0, 0, 0, [])), (90, (.getfield 1, 3, 9, 1, 0, [(0, 333)])), (93, (.getfield 0, 3, 0, 7, 0, [(0, 197)]))],
  [(96, (.ireturn, 1, 0, 0, 0, [])), (97, (.ldc 0, 2, 385, 0, (-1000000001), [])), (99, (.ireturn, 1, 0, 0, 0, []))]]
abbrev m_E_count : Nat := 117
/-- E_isKind -/
def pm_t118 : pm_T := [[(0, (.iload 0, 1, 0, 0, 0, [])), (1, (.ifCond .lt 0, 3, 14, 0, 0, [])), (4, (.iload 0, 1, 0, 0, 0, [])), (5, (.ldc 0, 2, 0, 0, 6, [])), (7, (.if_icmp .ge 0, 3, 14, 0, 0, [])), (10, (.ldc 0, 1, 0, 0, 1, [])), (11, (.goto 0, 3, 15, 0, 0, [])), (14, (.ldc 0, 1, 0, 0, 0, [])), (15, (.ireturn, 1, 3, 0, 0, []))]]
abbrev m_E_isKind : Nat := 118
/-- E_isEar -/
def pm_t119 : pm_T := [[(0, (.iload 0, 1, 0, 0, 0, [])), (1, (.ldc 0, 1, 0, 0, 1, [])), (2, (.if_icmp .lt 0, 3, 15, 0, 0, [])), (5, (.iload 0, 1, 0, 0, 0, [])), (6, (.ldc 0, 2, 0, 0, 9, [])), (8, (.if_icmp .gt 0, 3, 15, 0, 0, [])), (11, (.ldc 0, 1, 0, 0, 1, [])), (12, (.goto 0, 3, 16, 0, 0, [])), (15, (.ldc 0, 1, 0, 0, 0, [])), (16, (.ireturn, 1, 3, 0, 0, []))]]
abbrev m_E_isEar : Nat := 119
/-- E_isFame -/
def pm_t120 : pm_T := [[(0, (.iload 0, 1, 0, 0, 0, [])), (1, (.ifCond .lt 0, 3, 14, 0, 0, [])), (4, (.iload 0, 1, 0, 0, 0, [])), (5, (.ldc 0, 2, 0, 0, 99, [])), (7, (.if_icmp .gt 0, 3, 14, 0, 0, [])), (10, (.ldc 0, 1, 0, 0, 1, [])), (11, (.goto 0, 3, 15, 0, 0, [])), (14, (.ldc 0, 1, 0, 0, 0, [])), (15, (.ireturn, 1, 3, 0, 0, []))]]
abbrev m_E_isFame : Nat := 120
/-- E_isWord -/
def pm_t121 : pm_T := [[(0, (.iload 0, 1, 0, 0, 0, [])), (1, (.ifCond .lt 0, 3, 14, 0, 0, [])), (4, (.iload 0, 1, 0, 0, 0, [])), (5, (.ldc 0, 2, 0, 0, 20, [])), (7, (.if_icmp .ge 0, 3, 14, 0, 0, [])), (10, (.ldc 0, 1, 0, 0, 1, [])), (11, (.goto 0, 3, 15, 0, 0, [])), (14, (.ldc 0, 1, 0, 0, 0, [])), (15, (.ireturn, 1, 3, 0, 0, []))]]
abbrev m_E_isWord : Nat := 121
/-- E_isWordOrNone -/
def pm_t122 : pm_T := [[(0, (.iload 0, 1, 0, 0, 0, [])), (1, (.ldc 0, 1, 0, 0, (-1), [])), (2, (.if_icmp .eq 0, 3, 12, 0, 0, [])), (5, (.iload 0, 1, 0, 0, 0, [])), (6, (.invokestatic 1, 3, 121, 1, 492, [])), (9, (.ifCond .eq 0, 3, 16, 0, 0, [])), (12, (.ldc 0, 1, 0, 0, 1, [])), (13, (.goto 0, 3, 17, 0, 0, [])), (16, (.ldc 0, 1, 0, 0, 0, [])), (17, (.ireturn, 1, 3, 0, 0, []))]]
abbrev m_E_isWordOrNone : Nat := 122
/-- E_isHeardPlace -/
def pm_t123 : pm_T := [[(0, (.iload 0, 1, 0, 0, 0, [])), (1, (.ifCond .lt 0, 3, 14, 0, 0, [])), (4, (.iload 0, 1, 0, 0, 0, [])), (5, (.ldc 0, 2, 0, 0, 12, [])), (7, (.if_icmp .ge 0, 3, 14, 0, 0, [])), (10, (.ldc 0, 1, 0, 0, 1, [])), (11, (.goto 0, 3, 15, 0, 0, [])), (14, (.ldc 0, 1, 0, 0, 0, [])), (15, (.ireturn, 1, 3, 0, 0, []))]]
abbrev m_E_isHeardPlace : Nat := 123
/-- E_isZeroOrOne -/
def pm_t124 : pm_T := [[(0, (.iload 0, 1, 0, 0, 0, [])), (1, (.ifCond .eq 0, 3, 9, 0, 0, [])), (4, (.iload 0, 1, 0, 0, 0, [])), (5, (.ldc 0, 1, 0, 0, 1, [])), (6, (.if_icmp .ne 0, 3, 13, 0, 0, [])), (9, (.ldc 0, 1, 0, 0, 1, [])), (10, (.goto 0, 3, 14, 0, 0, [])), (13, (.ldc 0, 1, 0, 0, 0, [])), (14, (.ireturn, 1, 3, 0, 0, []))]]
abbrev m_E_isZeroOrOne : Nat := 124
/-- E_isDays -/
def pm_t125 : pm_T := [[(0, (.iload 0, 1, 0, 0, 0, [])), (1, (.iload 1, 1, 0, 0, 0, [])), (2, (.if_icmp .lt 0, 3, 14, 0, 0, [])), (5, (.iload 0, 1, 0, 0, 0, [])), (6, (.iload 2, 1, 0, 0, 0, [])), (7, (.if_icmp .gt 0, 3, 14, 0, 0, [])), (10, (.ldc 0, 1, 0, 0, 1, [])), (11, (.goto 0, 3, 15, 0, 0, [])), (14, (.ldc 0, 1, 0, 0, 0, [])), (15, (.ireturn, 1, 3, 0, 0, []))]]
abbrev m_E_isDays : Nat := 125
/-- E_isSheet -/
def pm_t126 : pm_T := [[(0, (.iload 0, 1, 0, 0, 0, [])), (1, (.ifCond .lt 0, 3, 13, 0, 0, [])), (4, (.iload 0, 1, 0, 0, 0, [])), (5, (.ldc 0, 1, 0, 0, 4, [])), (6, (.if_icmp .ge 0, 3, 13, 0, 0, [])), (9, (.ldc 0, 1, 0, 0, 1, [])), (10, (.goto 0, 3, 14, 0, 0, [])), (13, (.ldc 0, 1, 0, 0, 0, [])), (14, (.ireturn, 1, 3, 0, 0, []))]]
abbrev m_E_isSheet : Nat := 126
/-- E_isSlot -/
def pm_t127 : pm_T := [[(0, (.iload 0, 1, 0, 0, 0, [])), (1, (.ifCond .lt 0, 3, 13, 0, 0, [])), (4, (.iload 0, 1, 0, 0, 0, [])), (5, (.ldc 0, 1, 0, 0, 5, [])), (6, (.if_icmp .ge 0, 3, 13, 0, 0, [])), (9, (.ldc 0, 1, 0, 0, 1, [])), (10, (.goto 0, 3, 14, 0, 0, [])), (13, (.ldc 0, 1, 0, 0, 0, [])), (14, (.ireturn, 1, 3, 0, 0, []))]]
abbrev m_E_isSlot : Nat := 127
/-- E_held -/
def pm_t128 : pm_T := [[(0, (.iload 1, 1, 0, 0, 0, [])), (1, (.iload 2, 1, 0, 0, 0, [])), (2, (.iload 0, 1, 0, 0, 0, [])), (3, (.lsub, 3, 436, 0, 0, [])), (6, (.ladd, 3, 439, 0, 0, [])), (9, (.ireturn, 1, 0, 0, 0, []))]]
abbrev m_E_held : Nat := 128
/-- E_putFromWithout -/
def pm_t129 : pm_T := [[(0, (.iload 2, 1, 0, 0, 0, [])), (1, (.invokestatic 1, 3, 121, 1, 492, [])), (4, (.ifCond .eq 0, 3, 20, 0, 0, [])), (7, (.iload 1, 1, 0, 0, 0, [])), (8, (.ifCond .lt 0, 3, 20, 0, 0, [])), (11, (.iload 1, 1, 0, 0, 0, [])), (12, (.aload 0, 1, 0, 0, 0, [])), (13, (.getfield 1, 3, 9, 10, 0, [(0, 342)])), (16, (.arraylength, 1, 0, 0, 0, [])), (17, (.if_icmp .lt 0, 3, 22, 0, 0, [])), (20, (.iload 1, 1, 0, 0, 0, [])), (21, (.ireturn, 1, 0, 0, 0, [])), (22, (.aload 0, 1, 0, 0, 0, [])), (23, (.getfield 1, 3, 9, 10, 0, [(0, 342)])), (26, (.iload 1, 1, 0, 0, 0, [])), (27, (.iload 2, 1, 0, 0, 0, [])), (28, (.iastore, 1, 0, 0, 0, [])), (29, (.iload 1, 1, 0, 0, 0, [])), (30, (.ldc 0, 1, 0, 0, 1, [])), (31, (.iadd, 1, 0, 0, 0, []))],
  [(32, (.ireturn, 1, 0, 0, 0, []))]]
abbrev m_E_putFromWithout : Nat := 129
/-- E_readSaying -/
def pm_t130 : pm_T := [[(0, (.iload 1, 1, 0, 0, 0, [])), (1, (.invokestatic 1, 3, 126, 1, 587, [])), (4, (.ifCond .eq 0, 3, 20, 0, 0, [])), (7, (.aload 0, 1, 0, 0, 0, [])), (8, (.getfield 1, 3, 9, 7, 0, [(0, 339)])), (11, (.iload 1, 1, 0, 0, 0, [])), (12, (.aaload, 1, 5, 0, 0, [])), (13, (.getfield 0, 3, 4, 0, 0, [(0, 277)])), (16, (.ldc 0, 1, 0, 0, (-1), [])), (17, (.if_icmp .ne 0, 3, 23, 0, 0, [])), (20, (.ldc 0, 2, 594, 0, (-1000000011), [])), (22, (.ireturn, 1, 0, 0, 0, [])), (23, (.aload 0, 1, 0, 0, 0, [])), (24, (.getfield 1, 3, 9, 9, 0, [(0, 341)])), (27, (.aload 0, 1, 0, 0, 0, [])), (28, (.getfield 1, 3, 9, 7, 0, [(0, 339)])), (31, (.iload 1, 1, 0, 0, 0, []))],
  [(32, (.aaload, 1, 5, 0, 0, [])), (33, (.invokestatic 0, 3, 48, 2, 595, [(0, 3)])), (36, (.aload 0, 1, 0, 0, 0, [])), (37, (.getfield 1, 3, 9, 9, 0, [(0, 341)])), (40, (.getfield 0, 3, 3, 1, 0, [(0, 326)])), (43, (.ifCond .ne 0, 3, 52, 0, 0, [])), (46, (.ldc 0, 3, 604, 0, (-1000000014), [])), (49, (.goto 0, 3, 53, 0, 0, [])), (52, (.ldc 0, 1, 0, 0, 0, [])), (53, (.ireturn, 1, 0, 0, 0, []))]]
abbrev m_E_readSaying : Nat := 130
/-- E_breathsTaught -/
def pm_t131 : pm_T := [[(0, (.aload 0, 1, 0, 0, 0, [])), (1, (.getfield 1, 3, 9, 3, 0, [(0, 335)])), (4, (.getfield 1, 3, 0, 1, 0, [(0, 185)])), (7, (.iload 1, 1, 0, 0, 0, [])), (8, (.aaload, 1, 4, 0, 0, [])), (9, (.astore 3, 1, 0, 0, 0, [])), (10, (.aload 0, 1, 0, 0, 0, [])), (11, (.getfield 1, 3, 9, 1, 0, [(0, 333)])), (14, (.getfield 1, 3, 0, 1, 0, [(0, 185)])), (17, (.iload 2, 1, 0, 0, 0, [])), (18, (.aaload, 1, 4, 0, 0, [])), (19, (.astore 4, 2, 0, 0, 0, [])), (21, (.aload 3, 1, 0, 0, 0, [])), (22, (.aload 0, 1, 0, 0, 0, [])), (23, (.getfield 1, 3, 9, 1, 0, [(0, 333)])), (26, (.getfield 1, 3, 0, 1, 0, [(0, 185)])), (29, (.iload 1, 1, 0, 0, 0, [])), (30, (.aaload, 1, 4, 0, 0, [])), (31, (.invokestatic 0, 3, 62, 2, 653, [(0, 6)]))],
  [(34, (.aload 0, 1, 0, 0, 0, [])), (35, (.getfield 1, 3, 9, 3, 0, [(0, 335)])), (38, (.aload 3, 1, 0, 0, 0, [])), (39, (.aload 4, 2, 0, 0, 0, [])), (41, (.getfield 1, 3, 6, 5, 0, [(0, 168)])), (44, (.ldc 0, 1, 0, 0, 0, [])), (45, (.aload 4, 2, 0, 0, 0, [])), (47, (.getfield 0, 3, 6, 4, 0, [(0, 163)])), (50, (.invokestatic 0, 3, 10, 5, 499, [(0, 0)])), (53, (.aload 0, 1, 0, 0, 0, [])), (54, (.getfield 1, 3, 9, 9, 0, [(0, 341)])), (57, (.aload 3, 1, 0, 0, 0, [])), (58, (.invokestatic 1, 3, 50, 2, 605, [(0, 3)])), (61, (.ireturn, 1, 0, 0, 0, []))]]
abbrev m_E_breathsTaught : Nat := 131
/-- E_spokenWithout -/
def pm_t132 : pm_T := [[(0, (.aload 0, 1, 0, 0, 0, [])), (1, (.getfield 1, 3, 9, 3, 0, [(0, 335)])), (4, (.aload 0, 1, 0, 0, 0, [])), (5, (.getfield 1, 3, 9, 1, 0, [(0, 333)])), (8, (.invokestatic 0, 3, 1, 2, 641, [(0, 0)])), (11, (.aload 0, 1, 0, 0, 0, [])), (12, (.getfield 1, 3, 9, 3, 0, [(0, 335)])), (15, (.getfield 1, 3, 0, 1, 0, [(0, 185)])), (18, (.iload 1, 1, 0, 0, 0, [])), (19, (.aaload, 1, 4, 0, 0, [])), (20, (.astore 3, 1, 0, 0, 0, [])), (21, (.aload 3, 1, 0, 0, 0, [])), (22, (.aload 3, 1, 0, 0, 0, [])), (23, (.getfield 0, 3, 6, 4, 0, [(0, 163)])), (26, (.invokestatic 0, 3, 66, 2, 529, [(0, 6)])), (29, (.ldc 0, 1, 0, 0, 0, [])), (30, (.istore 4, 2, 0, 0, 0, []))],
  [(32, (.iload 4, 2, 0, 0, 0, [])), (34, (.iload 2, 1, 0, 0, 0, [])), (35, (.if_icmp .ge 0, 3, 51, 0, 0, [])), (38, (.aload 0, 1, 0, 0, 0, [])), (39, (.getfield 1, 3, 9, 3, 0, [(0, 335)])), (42, (.invokestatic 0, 3, 12, 1, 559, [(0, 0)])), (45, (.iinc 4 0, 3, 0, 0, 1, [])), (48, (.goto 0, 3, 32, 0, 0, [])), (51, (.aload 0, 1, 0, 0, 0, [])), (52, (.getfield 1, 3, 9, 3, 0, [(0, 335)])), (55, (.getfield 0, 3, 0, 4, 0, [(0, 191)])), (58, (.ireturn, 1, 0, 0, 0, []))]]
abbrev m_E_spokenWithout : Nat := 132
/-- E_unlikeWithEar -/
def pm_t133 : pm_T := [[(0, (.aload 0, 1, 0, 0, 0, [])), (1, (.getfield 1, 3, 9, 3, 0, [(0, 335)])), (4, (.aload 0, 1, 0, 0, 0, [])), (5, (.getfield 1, 3, 9, 1, 0, [(0, 333)])), (8, (.invokestatic 0, 3, 1, 2, 641, [(0, 0)])), (11, (.aload 0, 1, 0, 0, 0, [])), (12, (.getfield 1, 3, 9, 3, 0, [(0, 335)])), (15, (.getfield 1, 3, 0, 1, 0, [(0, 185)])), (18, (.iload 1, 1, 0, 0, 0, [])), (19, (.aaload, 1, 4, 0, 0, [])), (20, (.iload 2, 1, 0, 0, 0, [])), (21, (.putfield 0, 3, 6, 1, 0, [(0, 153)])), (24, (.ldc 0, 1, 0, 0, 0, [])), (25, (.istore 4, 2, 0, 0, 0, [])), (27, (.iload 4, 2, 0, 0, 0, [])), (29, (.iload 3, 1, 0, 0, 0, [])), (30, (.if_icmp .ge 0, 3, 46, 0, 0, []))],
  [(33, (.aload 0, 1, 0, 0, 0, [])), (34, (.getfield 1, 3, 9, 3, 0, [(0, 335)])), (37, (.invokestatic 0, 3, 12, 1, 559, [(0, 0)])), (40, (.iinc 4 0, 3, 0, 0, 1, [])), (43, (.goto 0, 3, 27, 0, 0, [])), (46, (.aload 0, 1, 0, 0, 0, [])), (47, (.getfield 1, 3, 9, 3, 0, [(0, 335)])), (50, (.getfield 1, 3, 0, 1, 0, [(0, 185)])), (53, (.iload 1, 1, 0, 0, 0, [])), (54, (.aaload, 1, 4, 0, 0, [])), (55, (.invokestatic 1, 3, 64, 1, 408, [(0, 6)])), (58, (.invokestatic 1, 3, 231, 1, 686, [])), (61, (.ireturn, 1, 0, 0, 0, []))]]
abbrev m_E_unlikeWithEar : Nat := 133
/-- E_isTold -/
def pm_t134 : pm_T := [[(0, (.iload 1, 1, 0, 0, 0, [])), (1, (.ifCond .lt 0, 3, 32, 0, 0, [])), (4, (.iload 1, 1, 0, 0, 0, [])), (5, (.iload 2, 1, 0, 0, 0, [])), (6, (.if_icmp .ge 0, 3, 32, 0, 0, [])), (9, (.iload 1, 1, 0, 0, 0, [])), (10, (.aload 0, 1, 0, 0, 0, [])), (11, (.getfield 1, 3, 9, 11, 0, [(0, 343)])), (14, (.arraylength, 1, 0, 0, 0, [])), (15, (.if_icmp .ge 0, 3, 32, 0, 0, [])), (18, (.aload 0, 1, 0, 0, 0, [])), (19, (.getfield 1, 3, 9, 11, 0, [(0, 343)])), (22, (.iload 1, 1, 0, 0, 0, [])), (23, (.iaload, 1, 0, 0, 0, [])), (24, (.iload 3, 1, 0, 0, 0, [])), (25, (.if_icmp .ne 0, 3, 32, 0, 0, [])), (28, (.ldc 0, 1, 0, 0, 1, [])), (29, (.goto 0, 3, 33, 0, 0, []))],
  [(32, (.ldc 0, 1, 0, 0, 0, [])), (33, (.ireturn, 1, 3, 0, 0, []))]]
abbrev m_E_isTold : Nat := 134
/-- M_init -/
def pm_t135 : pm_T := [[(0, (.aload 0, 1, 0, 0, 0, [])), (1, (.nop, 3, 1020, 10, 0, [])), (4, (.aload 0, 1, 0, 0, 0, [])), (5, (.ldc 0, 3, 0, 0, 1611, [])), (8, (.newarray .int, 2, 0, 125, 0, [])), (10, (.putfield 1, 3, 10, 0, 0, [(0, 1021)])), (13, (.aload 0, 1, 0, 0, 0, [])), (14, (.ldc 0, 3, 0, 0, 1611, [])), (17, (.newarray .int, 2, 0, 125, 0, [])), (19, (.putfield 1, 3, 10, 1, 0, [(0, 1022)])), (22, (.aload 0, 1, 0, 0, 0, [])), (23, (.ldc 0, 3, 0, 0, 1611, [])), (26, (.newarray .int, 2, 0, 125, 0, [])), (28, (.putfield 1, 3, 10, 2, 0, [(0, 1023)])), (31, (.aload 0, 1, 0, 0, 0, []))],
  [(32, (.ldc 0, 2, 0, 0, 12, [])), (34, (.newarray .int, 2, 0, 125, 0, [])), (36, (.putfield 1, 3, 10, 4, 0, [(0, 1025)])), (39, (.aload 0, 1, 0, 0, 0, [])), (40, (.ldc 0, 2, 0, 0, 12, [])), (42, (.newarray .int, 2, 0, 125, 0, [])), (44, (.putfield 1, 3, 10, 6, 0, [(0, 1027)])), (47, (.aload 0, 1, 0, 0, 0, [])), (48, (.ldc 0, 2, 0, 0, 13, [])), (50, (.newarray .int, 2, 0, 125, 0, [])), (52, (.putfield 1, 3, 10, 8, 0, [(0, 1029)])), (55, (.aload 0, 1, 0, 0, 0, [])), (56, (.ldc 0, 3, 0, 0, 239, [])), (59, (.newarray .int, 2, 0, 125, 0, [])), (61, (.putfield 1, 3, 10, 9, 0, [(0, 1030)]))],
  [(64, (.aload 0, 1, 0, 0, 0, [])), (65, (.ldc 0, 2, 0, 0, 96, [])), (67, (.newarray .int, 2, 0, 125, 0, [])), (69, (.putfield 1, 3, 10, 10, 0, [(0, 1031)])), (72, (.aload 0, 1, 0, 0, 0, [])), (73, (.ldc 0, 2, 0, 0, 11, [])), (75, (.newarray .int, 2, 2, 1136, 0, [])), (77, (.dup, 1, 0, 0, 0, [])), (78, (.ldc 0, 1, 0, 0, 0, [])), (79, (.ldc 0, 2, 0, 0, 107, [])), (81, (.iastore, 1, 2, 0, 0, [])), (82, (.dup, 1, 0, 0, 0, [])), (83, (.ldc 0, 1, 0, 0, 1, [])), (84, (.ldc 0, 2, 0, 0, 101, [])), (86, (.iastore, 1, 2, 0, 0, [])), (87, (.dup, 1, 0, 0, 0, [])), (88, (.ldc 0, 1, 0, 0, 2, [])), (89, (.ldc 0, 2, 0, 0, 101, [])), (91, (.iastore, 1, 2, 0, 0, [])), (92, (.dup, 1, 0, 0, 0, [])), (93, (.ldc 0, 1, 0, 0, 3, [])), (94, (.ldc 0, 2, 0, 0, 112, []))],
  [(96, (.iastore, 1, 2, 0, 0, [])), (97, (.dup, 1, 0, 0, 0, [])), (98, (.ldc 0, 1, 0, 0, 4, [])), (99, (.ldc 0, 2, 0, 0, 102, [])), (101, (.iastore, 1, 2, 0, 0, [])), (102, (.dup, 1, 0, 0, 0, [])), (103, (.ldc 0, 1, 0, 0, 5, [])), (104, (.ldc 0, 2, 0, 0, 101, [])), (106, (.iastore, 1, 2, 0, 0, [])), (107, (.dup, 1, 0, 0, 0, [])), (108, (.ldc 0, 2, 0, 0, 6, [])), (110, (.ldc 0, 2, 0, 0, 101, [])), (112, (.iastore, 1, 2, 0, 0, [])), (113, (.dup, 1, 0, 0, 0, [])), (114, (.ldc 0, 2, 0, 0, 7, [])), (116, (.ldc 0, 2, 0, 0, 102, [])), (118, (.iastore, 1, 2, 0, 0, [])), (119, (.dup, 1, 0, 0, 0, [])), (120, (.ldc 0, 2, 0, 0, 8, [])), (122, (.ldc 0, 2, 0, 0, 105, [])), (124, (.iastore, 1, 2, 0, 0, [])), (125, (.dup, 1, 0, 0, 0, [])), (126, (.ldc 0, 2, 0, 0, 9, []))],
  [(128, (.ldc 0, 2, 0, 0, 110, [])), (130, (.iastore, 1, 2, 0, 0, [])), (131, (.dup, 1, 0, 0, 0, [])), (132, (.ldc 0, 2, 0, 0, 10, [])), (134, (.ldc 0, 2, 0, 0, 101, [])), (136, (.iastore, 1, 2, 0, 0, [])), (137, (.putfield 1, 3, 10, 18, 0, [(0, 1039)])), (140, (.aload 0, 1, 0, 0, 0, [])), (141, (.ldc 0, 1, 0, 0, 4, [])), (142, (.newarray .int, 2, 0, 125, 0, [])), (144, (.dup, 1, 0, 0, 0, [])), (145, (.ldc 0, 1, 0, 0, 0, [])), (146, (.ldc 0, 1, 0, 0, 0, [])), (147, (.iastore, 1, 0, 0, 0, [])), (148, (.dup, 1, 0, 0, 0, [])), (149, (.ldc 0, 1, 0, 0, 1, [])), (150, (.ldc 0, 1, 0, 0, 4, [])), (151, (.iastore, 1, 0, 0, 0, [])), (152, (.dup, 1, 0, 0, 0, [])), (153, (.ldc 0, 1, 0, 0, 2, [])), (154, (.ldc 0, 2, 0, 0, 7, [])), (156, (.iastore, 1, 0, 0, 0, [])), (157, (.dup, 1, 0, 0, 0, [])), (158, (.ldc 0, 1, 0, 0, 3, [])), (159, (.ldc 0, 2, 0, 0, 11, []))],
  [(161, (.iastore, 1, 0, 0, 0, [])), (162, (.putfield 1, 3, 10, 19, 0, [(0, 1040)])), (165, (.aload 0, 1, 0, 0, 0, [])), (166, (.ldc 0, 2, 0, 0, 96, [])), (168, (.newarray .int, 2, 0, 125, 0, [])), (170, (.putfield 1, 3, 10, 20, 0, [(0, 1041)])), (173, (.aload 0, 1, 0, 0, 0, [])), (174, (.ldc 0, 2, 0, 0, 96, [])), (176, (.newarray .int, 2, 0, 125, 0, [])), (178, (.putfield 1, 3, 10, 23, 0, [(0, 1044)])), (181, (.aload 0, 1, 0, 0, 0, [])), (182, (.ldc 0, 2, 0, 0, 10, [])), (184, (.newarray .int, 2, 3, 1137, 0, [])), (186, (.putfield 1, 3, 10, 25, 0, [(0, 1046)])), (189, (.aload 0, 1, 0, 0, 0, [])), (190, (.ldc 0, 2, 0, 0, 96, []))],
  [(192, (.newarray .int, 2, 0, 125, 0, [])), (194, (.putfield 1, 3, 10, 26, 0, [(0, 1047)])), (197, (.aload 0, 1, 0, 0, 0, [])), (198, (.ldc 0, 1, 0, 0, 4, [])), (199, (.newarray .int, 2, 0, 125, 0, [])), (201, (.putfield 1, 3, 10, 27, 0, [(0, 1048)])), (204, (.aload 0, 1, 0, 0, 0, [])), (205, (.ldc 0, 1, 0, 0, 4, [])), (206, (.newarray .int, 2, 0, 125, 0, [])), (208, (.dup, 1, 0, 0, 0, [])), (209, (.ldc 0, 1, 0, 0, 0, [])), (210, (.ldc 0, 1, 0, 0, (-1), [])), (211, (.iastore, 1, 0, 0, 0, [])), (212, (.dup, 1, 0, 0, 0, [])), (213, (.ldc 0, 1, 0, 0, 1, [])), (214, (.ldc 0, 1, 0, 0, (-1), [])), (215, (.iastore, 1, 0, 0, 0, [])), (216, (.dup, 1, 0, 0, 0, [])), (217, (.ldc 0, 1, 0, 0, 2, [])), (218, (.ldc 0, 1, 0, 0, (-1), [])), (219, (.iastore, 1, 0, 0, 0, [])), (220, (.dup, 1, 0, 0, 0, [])), (221, (.ldc 0, 1, 0, 0, 3, [])), (222, (.ldc 0, 1, 0, 0, (-1), [])), (223, (.iastore, 1, 0, 0, 0, []))],
  [(224, (.putfield 1, 3, 10, 28, 0, [(0, 1049)])), (227, (.aload 0, 1, 0, 0, 0, [])), (228, (.ldc 0, 1, 0, 0, 4, [])), (229, (.newarray .int, 2, 0, 125, 0, [])), (231, (.putfield 1, 3, 10, 29, 0, [(0, 1050)])), (234, (.aload 0, 1, 0, 0, 0, [])), (235, (.ldc 0, 2, 0, 0, 96, [])), (237, (.newarray .int, 2, 0, 125, 0, [])), (239, (.putfield 1, 3, 10, 30, 0, [(0, 1051)])), (242, (.aload 0, 1, 0, 0, 0, [])), (243, (.ldc 0, 1, 0, 0, 5, [])), (244, (.newarray .int, 2, 0, 125, 0, [])), (246, (.putfield 1, 3, 10, 31, 0, [(0, 1052)])), (249, (.aload 0, 1, 0, 0, 0, [])), (250, (.ldc 0, 1, 0, 0, 5, [])), (251, (.newarray .int, 2, 0, 125, 0, [])), (253, (.putfield 1, 3, 10, 32, 0, [(0, 1053)]))],
  [(256, (.aload 0, 1, 0, 0, 0, [])), (257, (.ldc 0, 1, 0, 0, 5, [])), (258, (.newarray .int, 2, 0, 125, 0, [])), (260, (.putfield 1, 3, 10, 33, 0, [(0, 1054)])), (263, (.aload 0, 1, 0, 0, 0, [])), (264, (.ldc 0, 2, 0, 0, 120, [])), (266, (.newarray .int, 2, 0, 125, 0, [])), (268, (.putfield 1, 3, 10, 34, 0, [(0, 1055)])), (271, (.aload 0, 1, 0, 0, 0, [])), (272, (.ldc 0, 2, 0, 0, 24, [])), (274, (.newarray .int, 2, 0, 125, 0, [])), (276, (.putfield 1, 3, 10, 35, 0, [(0, 1056)])), (279, (.aload 0, 1, 0, 0, 0, [])), (280, (.ldc 0, 2, 0, 0, 60, [])), (282, (.newarray .int, 2, 0, 125, 0, [])), (284, (.putfield 1, 3, 10, 36, 0, [(0, 1057)])), (287, (.aload 0, 1, 0, 0, 0, []))],
  [(288, (.getfield 1, 3, 10, 0, 0, [(0, 1021)])), (291, (.ldc 0, 1, 0, 0, 0, [])), (292, (.ldc 0, 1, 0, 0, 1, [])), (293, (.iastore, 1, 0, 0, 0, [])), (294, (.aload 0, 1, 0, 0, 0, [])), (295, (.getfield 1, 3, 10, 0, 0, [(0, 1021)])), (298, (.ldc 0, 1, 0, 0, 3, [])), (299, (.ldc 0, 2, 0, 0, 50, [])), (301, (.iastore, 1, 0, 0, 0, [])), (302, (.return_, 1, 0, 0, 0, []))]]
abbrev m_M_init : Nat := 135
/-- M_in -/
def pm_t136 : pm_T := [[(0, (.iload 0, 1, 0, 0, 0, [])), (1, (.iload 1, 1, 0, 0, 0, [])), (2, (.if_icmp .lt 0, 3, 14, 0, 0, [])), (5, (.iload 0, 1, 0, 0, 0, [])), (6, (.iload 2, 1, 0, 0, 0, [])), (7, (.if_icmp .gt 0, 3, 14, 0, 0, [])), (10, (.ldc 0, 1, 0, 0, 1, [])), (11, (.goto 0, 3, 15, 0, 0, [])), (14, (.ldc 0, 1, 0, 0, 0, [])), (15, (.ireturn, 1, 3, 0, 0, []))]]
abbrev m_M_in : Nat := 136
/-- M_within -/
def pm_t137 : pm_T := [[(0, (.iload 0, 1, 0, 0, 0, [])), (1, (.iload 1, 1, 0, 0, 0, [])), (2, (.if_icmp .ge 0, 3, 9, 0, 0, [])), (5, (.iload 1, 1, 0, 0, 0, [])), (6, (.goto 0, 3, 19, 0, 0, [])), (9, (.iload 0, 1, 0, 0, 0, [])), (10, (.iload 2, 1, 0, 0, 0, [])), (11, (.if_icmp .le 0, 3, 18, 0, 0, [])), (14, (.iload 2, 1, 0, 0, 0, [])), (15, (.goto 0, 3, 19, 0, 0, [])), (18, (.iload 0, 1, 0, 0, 0, [])), (19, (.ireturn, 1, 0, 0, 0, []))]]
abbrev m_M_within : Nat := 137
/-- M_copyAll -/
def pm_t138 : pm_T := [[(0, (.ldc 0, 1, 0, 0, 0, [])), (1, (.istore 2, 1, 0, 0, 0, [])), (2, (.iload 2, 1, 0, 0, 0, [])), (3, (.ldc 0, 3, 0, 0, 1611, [])), (6, (.if_icmp .ge 0, 3, 21, 0, 0, [])), (9, (.aload 1, 1, 0, 0, 0, [])), (10, (.iload 2, 1, 0, 0, 0, [])), (11, (.aload 0, 1, 0, 0, 0, [])), (12, (.iload 2, 1, 0, 0, 0, [])), (13, (.iaload, 1, 0, 0, 0, [])), (14, (.iastore, 1, 0, 0, 0, [])), (15, (.iinc 2 0, 3, 0, 0, 1, [])), (18, (.goto 0, 3, 2, 0, 0, [])), (21, (.return_, 1, 0, 0, 0, []))]]
abbrev m_M_copyAll : Nat := 138
/-- M_isSpeaker -/
def pm_t139 : pm_T := [[(0, (.iload 1, 1, 0, 0, 0, [])), (1, (.ldc 0, 1, 0, 0, 0, [])), (2, (.aload 0, 1, 0, 0, 0, [])), (3, (.getfield 1, 3, 10, 0, 0, [(0, 1021)])), (6, (.ldc 0, 1, 0, 0, 1, [])), (7, (.iaload, 1, 0, 0, 0, [])), (8, (.ldc 0, 1, 0, 0, 1, [])), (9, (.isub, 1, 0, 0, 0, [])), (10, (.invokestatic 1, 3, 136, 3, 1142, [])), (13, (.ireturn, 1, 3, 0, 0, []))]]
abbrev m_M_isSpeaker : Nat := 139
/-- M_isWord -/
def pm_t140 : pm_T := [[(0, (.iload 0, 1, 0, 0, 0, [])), (1, (.ldc 0, 1, 0, 0, 0, [])), (2, (.ldc 0, 2, 0, 0, 19, [])), (4, (.invokestatic 1, 3, 136, 3, 1142, [])), (7, (.ireturn, 1, 3, 0, 0, []))]]
abbrev m_M_isWord : Nat := 140
/-- M_of -/
def pm_t141 : pm_T := [[(0, (.aload 0, 1, 0, 0, 0, [])), (1, (.getfield 1, 3, 10, 0, 0, [(0, 1021)])), (4, (.ldc 0, 2, 0, 0, 7, [])), (6, (.ldc 0, 2, 0, 0, 29, [])), (8, (.iload 1, 1, 0, 0, 0, [])), (9, (.imul, 1, 0, 0, 0, [])), (10, (.iadd, 1, 0, 0, 0, [])), (11, (.iload 2, 1, 0, 0, 0, [])), (12, (.iadd, 1, 0, 0, 0, [])), (13, (.iaload, 1, 0, 0, 0, [])), (14, (.ireturn, 1, 0, 0, 0, []))]]
abbrev m_M_of : Nat := 141
/-- M_put -/
def pm_t142 : pm_T := [[(0, (.aload 0, 1, 0, 0, 0, [])), (1, (.getfield 1, 3, 10, 0, 0, [(0, 1021)])), (4, (.ldc 0, 2, 0, 0, 7, [])), (6, (.ldc 0, 2, 0, 0, 29, [])), (8, (.iload 1, 1, 0, 0, 0, [])), (9, (.imul, 1, 0, 0, 0, [])), (10, (.iadd, 1, 0, 0, 0, [])), (11, (.iload 2, 1, 0, 0, 0, [])), (12, (.iadd, 1, 0, 0, 0, [])), (13, (.iload 3, 1, 0, 0, 0, [])), (14, (.iastore, 1, 0, 0, 0, [])), (15, (.return_, 1, 0, 0, 0, []))]]
abbrev m_M_put : Nat := 142
/-- M_becomes -/
def pm_t143 : pm_T := [[(0, (.aload 0, 1, 0, 0, 0, [])), (1, (.getfield 1, 3, 10, 0, 0, [(0, 1021)])), (4, (.iload 1, 1, 0, 0, 0, [])), (5, (.iaload, 1, 0, 0, 0, [])), (6, (.istore 3, 1, 0, 0, 0, [])), (7, (.aload 0, 1, 0, 0, 0, [])), (8, (.getfield 1, 3, 10, 0, 0, [(0, 1021)])), (11, (.iload 1, 1, 0, 0, 0, [])), (12, (.iload 2, 1, 0, 0, 0, [])), (13, (.iastore, 1, 0, 0, 0, [])), (14, (.iload 3, 1, 0, 0, 0, [])), (15, (.ireturn, 1, 0, 0, 0, []))]]
abbrev m_M_becomes : Nat := 143
/-- M_comes -/
def pm_t144 : pm_T := [[(0, (.aload 0, 1, 0, 0, 0, [])), (1, (.getfield 1, 3, 10, 0, 0, [(0, 1021)])), (4, (.ldc 0, 1, 0, 0, 1, [])), (5, (.iaload, 1, 0, 0, 0, [])), (6, (.istore 4, 2, 0, 0, 0, [])), (8, (.aload 0, 1, 0, 0, 0, [])), (9, (.getfield 1, 3, 10, 0, 0, [(0, 1021)])), (12, (.ldc 0, 1, 0, 0, 1, [])), (13, (.dup2, 1, 0, 0, 0, [])), (14, (.iaload, 1, 0, 0, 0, [])), (15, (.ldc 0, 1, 0, 0, 1, [])), (16, (.iadd, 1, 0, 0, 0, [])), (17, (.iastore, 1, 0, 0, 0, [])), (18, (.aload 0, 1, 0, 0, 0, [])), (19, (.iload 4, 2, 0, 0, 0, [])), (21, (.ldc 0, 1, 0, 0, 0, [])), (22, (.iload 1, 1, 0, 0, 0, [])), (23, (.invokestatic 0, 3, 142, 4, 1154, [(0, 10)])), (26, (.aload 0, 1, 0, 0, 0, [])), (27, (.iload 4, 2, 0, 0, 0, [])), (29, (.ldc 0, 1, 0, 0, 1, [])), (30, (.iload 2, 1, 0, 0, 0, [])), (31, (.invokestatic 0, 3, 142, 4, 1154, [(0, 10)]))],
  [(34, (.aload 0, 1, 0, 0, 0, [])), (35, (.iload 4, 2, 0, 0, 0, [])), (37, (.ldc 0, 1, 0, 0, 2, [])), (38, (.iload 3, 1, 0, 0, 0, [])), (39, (.invokestatic 0, 3, 142, 4, 1154, [(0, 10)])), (42, (.aload 0, 1, 0, 0, 0, [])), (43, (.iload 4, 2, 0, 0, 0, [])), (45, (.ldc 0, 1, 0, 0, 3, [])), (46, (.ldc 0, 1, 0, 0, 0, [])), (47, (.invokestatic 0, 3, 142, 4, 1154, [(0, 10)])), (50, (.aload 0, 1, 0, 0, 0, [])), (51, (.iload 4, 2, 0, 0, 0, [])), (53, (.ldc 0, 1, 0, 0, 4, [])), (54, (.ldc 0, 1, 0, 0, 0, [])), (55, (.invokestatic 0, 3, 142, 4, 1154, [(0, 10)])), (58, (.iload 4, 2, 0, 0, 0, [])), (60, (.ireturn, 1, 0, 0, 0, []))]]
abbrev m_M_comes : Nat := 144
/-- M_isOf -/
def pm_t145 : pm_T := [[(0, (.iload 0, 1, 0, 0, 0, [])), (1, (.ldc 0, 1, 0, 0, 1, [])), (2, (.if_icmp .ne 0, 3, 15, 0, 0, [])), (5, (.iload 1, 1, 0, 0, 0, [])), (6, (.ldc 0, 1, 0, 0, 1, [])), (7, (.ldc 0, 2, 0, 0, 9, [])), (9, (.invokestatic 1, 3, 136, 3, 1142, [])), (12, (.goto 0, 3, 22, 0, 0, [])), (15, (.iload 1, 1, 0, 0, 0, [])), (16, (.ldc 0, 1, 0, 0, 0, [])), (17, (.ldc 0, 2, 0, 0, 99, [])), (19, (.invokestatic 1, 3, 136, 3, 1142, [])), (22, (.ireturn, 1, 3, 0, 0, []))]]
abbrev m_M_isOf : Nat := 145
/-- M_speaker -/
def pm_t146 : pm_T := [[(0, (.iload 1, 1, 0, 0, 0, [])), (1, (.ldc 0, 1, 0, 0, 0, [])), (2, (.ldc 0, 1, 0, 0, 5, [])), (3, (.invokestatic 1, 3, 136, 3, 1142, [])), (6, (.ifCond .eq 0, 3, 25, 0, 0, [])), (9, (.ldc 0, 1, 0, 0, 1, [])), (10, (.iload 2, 1, 0, 0, 0, [])), (11, (.invokestatic 1, 3, 145, 2, 1145, [])), (14, (.ifCond .eq 0, 3, 25, 0, 0, [])), (17, (.ldc 0, 1, 0, 0, 2, [])), (18, (.iload 3, 1, 0, 0, 0, [])), (19, (.invokestatic 1, 3, 145, 2, 1145, [])), (22, (.ifCond .ne 0, 3, 28, 0, 0, [])), (25, (.ldc 0, 2, 1148, 0, (-1000000001), [])), (27, (.ireturn, 1, 0, 0, 0, [])), (28, (.aload 0, 1, 0, 0, 0, [])), (29, (.getfield 1, 3, 10, 0, 0, [(0, 1021)]))],
  [(32, (.ldc 0, 1, 0, 0, 1, [])), (33, (.iaload, 1, 0, 0, 0, [])), (34, (.ldc 0, 2, 0, 0, 8, [])), (36, (.if_icmp .ne 0, 3, 44, 0, 0, [])), (39, (.ldc 0, 2, 1149, 0, (-1000000003), [])), (41, (.goto 0, 3, 51, 0, 0, [])), (44, (.aload 0, 1, 0, 0, 0, [])), (45, (.iload 1, 1, 0, 0, 0, [])), (46, (.iload 2, 1, 0, 0, 0, [])), (47, (.iload 3, 1, 0, 0, 0, [])), (48, (.invokestatic 1, 3, 144, 4, 1150, [(0, 10)])), (51, (.ireturn, 1, 0, 0, 0, []))]]
abbrev m_M_speaker : Nat := 146
/-- M_keepsOf -/
def pm_t147 : pm_T := [[(0, (.aload 0, 1, 0, 0, 0, [])), (1, (.ldc 0, 1, 0, 0, 0, [])), (2, (.invokestatic 1, 3, 211, 2, 1178, [(0, 10)])), (5, (.istore 2, 1, 0, 0, 0, [])), (6, (.aload 0, 1, 0, 0, 0, [])), (7, (.getfield 1, 3, 10, 27, 0, [(0, 1048)])), (10, (.ldc 0, 1, 0, 0, 0, [])), (11, (.aload 0, 1, 0, 0, 0, [])), (12, (.iload 1, 1, 0, 0, 0, [])), (13, (.ldc 0, 1, 0, 0, 1, [])), (14, (.invokestatic 1, 3, 141, 3, 1166, [(0, 10)])), (17, (.iastore, 1, 0, 0, 0, [])), (18, (.aload 0, 1, 0, 0, 0, [])), (19, (.getfield 1, 3, 10, 27, 0, [(0, 1048)])), (22, (.ldc 0, 1, 0, 0, 1, [])), (23, (.aload 0, 1, 0, 0, 0, [])), (24, (.iload 1, 1, 0, 0, 0, [])), (25, (.ldc 0, 1, 0, 0, 2, [])), (26, (.invokestatic 1, 3, 141, 3, 1166, [(0, 10)])), (29, (.iastore, 1, 0, 0, 0, [])), (30, (.aload 0, 1, 0, 0, 0, [])), (31, (.getfield 1, 3, 10, 27, 0, [(0, 1048)]))],
  [(34, (.ldc 0, 1, 0, 0, 2, [])), (35, (.aload 0, 1, 0, 0, 0, [])), (36, (.iload 1, 1, 0, 0, 0, [])), (37, (.ldc 0, 1, 0, 0, 4, [])), (38, (.invokestatic 1, 3, 141, 3, 1166, [(0, 10)])), (41, (.iastore, 1, 0, 0, 0, [])), (42, (.iload 2, 1, 0, 0, 0, [])), (43, (.ifCond .ge 0, 3, 51, 0, 0, [])), (46, (.ldc 0, 2, 0, 0, 12, [])), (48, (.goto 0, 3, 62, 0, 0, [])), (51, (.aload 0, 1, 0, 0, 0, [])), (52, (.iload 2, 1, 0, 0, 0, [])), (53, (.invokestatic 1, 3, 214, 2, 1182, [(0, 10)])), (56, (.ldc 0, 1, 0, 0, 0, [])), (57, (.ldc 0, 2, 0, 0, 12, [])), (59, (.invokestatic 1, 3, 137, 3, 1189, [])), (62, (.istore 3, 1, 0, 0, 0, [])), (63, (.aload 0, 1, 0, 0, 0, []))],
  [(64, (.iload 1, 1, 0, 0, 0, [])), (65, (.ldc 0, 1, 0, 0, 0, [])), (66, (.invokestatic 1, 3, 141, 3, 1166, [(0, 10)])), (69, (.lookupswitch 0 #[], 35, 126, 0, 0, [(1, 104), (2, 114), (3, 108), (4, 114), (5, 124)]))],
  [(104, (.iload 3, 1, 0, 0, 0, [])), (105, (.ldc 0, 1, 0, 0, 2, [])), (106, (.idiv, 1, 0, 0, 0, [])), (107, (.ireturn, 1, 0, 0, 0, [])), (108, (.iload 3, 1, 0, 0, 0, [])), (109, (.ldc 0, 1, 0, 0, 2, [])), (110, (.idiv, 1, 0, 0, 0, [])), (111, (.ldc 0, 1, 0, 0, 3, [])), (112, (.iadd, 1, 0, 0, 0, [])), (113, (.ireturn, 1, 0, 0, 0, [])), (114, (.iload 3, 1, 0, 0, 0, [])), (115, (.ldc 0, 1, 0, 0, 2, [])), (116, (.isub, 1, 0, 0, 0, [])), (117, (.ldc 0, 1, 0, 0, 0, [])), (118, (.ldc 0, 2, 0, 0, 12, [])), (120, (.invokestatic 1, 3, 137, 3, 1189, [])), (123, (.ireturn, 1, 0, 0, 0, [])), (124, (.ldc 0, 1, 0, 0, 0, [])), (125, (.ireturn, 1, 0, 0, 0, [])), (126, (.iload 3, 1, 0, 0, 0, [])), (127, (.ireturn, 1, 0, 0, 0, []))]]
abbrev m_M_keepsOf : Nat := 147
/-- M_takesOf -/
def pm_t148 : pm_T := [[(0, (.aload 0, 1, 0, 0, 0, [])), (1, (.iload 1, 1, 0, 0, 0, [])), (2, (.ldc 0, 1, 0, 0, 1, [])), (3, (.invokestatic 1, 3, 141, 3, 1166, [(0, 10)])), (6, (.istore 2, 1, 0, 0, 0, [])), (7, (.aload 0, 1, 0, 0, 0, [])), (8, (.iload 1, 1, 0, 0, 0, [])), (9, (.ldc 0, 1, 0, 0, 0, [])), (10, (.invokestatic 1, 3, 141, 3, 1166, [(0, 10)])), (13, (.lookupswitch 0 #[], 35, 64, 0, 0, [(1, 48), (2, 52), (3, 48), (4, 56), (5, 62)]))],
  [(48, (.iload 2, 1, 0, 0, 0, [])), (49, (.ldc 0, 1, 0, 0, 2, [])), (50, (.iadd, 1, 0, 0, 0, [])), (51, (.ireturn, 1, 0, 0, 0, [])), (52, (.iload 2, 1, 0, 0, 0, [])), (53, (.ldc 0, 1, 0, 0, 2, [])), (54, (.idiv, 1, 0, 0, 0, [])), (55, (.ireturn, 1, 0, 0, 0, [])), (56, (.iload 2, 1, 0, 0, 0, [])), (57, (.ldc 0, 1, 0, 0, 2, [])), (58, (.idiv, 1, 0, 0, 0, [])), (59, (.ldc 0, 1, 0, 0, 1, [])), (60, (.iadd, 1, 0, 0, 0, [])), (61, (.ireturn, 1, 0, 0, 0, [])), (62, (.ldc 0, 1, 0, 0, 0, [])), (63, (.ireturn, 1, 0, 0, 0, []))],
  [(64, (.iload 2, 1, 0, 0, 0, [])), (65, (.ireturn, 1, 0, 0, 0, []))]]
abbrev m_M_takesOf : Nat := 148
/-- M_goesOf -/
def pm_t149 : pm_T := [[(0, (.aload 0, 1, 0, 0, 0, [])), (1, (.iload 1, 1, 0, 0, 0, [])), (2, (.ldc 0, 1, 0, 0, 0, [])), (3, (.invokestatic 1, 3, 141, 3, 1166, [(0, 10)])), (6, (.lookupswitch 0 #[], 30, 43, 0, 0, [(1, 36), (2, 38), (3, 38), (4, 40)]))],
  [(36, (.ldc 0, 1, 0, 0, 2, [])), (37, (.ireturn, 1, 0, 0, 0, [])), (38, (.ldc 0, 1, 0, 0, 4, [])), (39, (.ireturn, 1, 0, 0, 0, [])), (40, (.ldc 0, 2, 0, 0, 9, [])), (42, (.ireturn, 1, 0, 0, 0, [])), (43, (.ldc 0, 1, 0, 0, 3, [])), (44, (.ireturn, 1, 0, 0, 0, []))]]
abbrev m_M_goesOf : Nat := 149
/-- M_worthOf -/
def pm_t150 : pm_T := [[(0, (.aload 0, 1, 0, 0, 0, [])), (1, (.iload 1, 1, 0, 0, 0, [])), (2, (.ldc 0, 1, 0, 0, 2, [])), (3, (.invokestatic 1, 3, 141, 3, 1166, [(0, 10)])), (6, (.istore 2, 1, 0, 0, 0, [])), (7, (.aload 0, 1, 0, 0, 0, [])), (8, (.iload 1, 1, 0, 0, 0, [])), (9, (.ldc 0, 1, 0, 0, 0, [])), (10, (.invokestatic 1, 3, 141, 3, 1166, [(0, 10)])), (13, (.lookupswitch 0 #[], 35, 72, 0, 0, [(1, 48), (2, 53), (3, 58), (4, 65), (5, 70)]))],
  [(48, (.iload 2, 1, 0, 0, 0, [])), (49, (.ldc 0, 2, 0, 0, 6, [])), (51, (.iadd, 1, 0, 0, 0, [])), (52, (.ireturn, 1, 0, 0, 0, [])), (53, (.ldc 0, 2, 0, 0, 99, [])), (55, (.iload 2, 1, 0, 0, 0, [])), (56, (.isub, 1, 0, 0, 0, [])), (57, (.ireturn, 1, 0, 0, 0, [])), (58, (.ldc 0, 1, 0, 0, 2, [])), (59, (.iload 2, 1, 0, 0, 0, [])), (60, (.ldc 0, 2, 0, 0, 6, [])), (62, (.iadd, 1, 0, 0, 0, [])), (63, (.imul, 1, 0, 0, 0, []))],
  [(64, (.ireturn, 1, 0, 0, 0, [])), (65, (.ldc 0, 2, 0, 0, 91, [])), (67, (.iload 2, 1, 0, 0, 0, [])), (68, (.isub, 1, 0, 0, 0, [])), (69, (.ireturn, 1, 0, 0, 0, [])), (70, (.ldc 0, 1, 0, 0, 1, [])), (71, (.ireturn, 1, 0, 0, 0, [])), (72, (.iload 2, 1, 0, 0, 0, [])), (73, (.ireturn, 1, 0, 0, 0, []))]]
abbrev m_M_worthOf : Nat := 150
/-- M_wordsOf -/
def pm_t151 : pm_T := [[(0, (.ldc 0, 1, 0, 0, 0, [])), (1, (.istore 2, 1, 0, 0, 0, [])), (2, (.ldc 0, 1, 0, 0, 0, [])), (3, (.istore 3, 1, 0, 0, 0, [])), (4, (.iload 3, 1, 0, 0, 0, [])), (5, (.aload 0, 1, 0, 0, 0, [])), (6, (.iload 1, 1, 0, 0, 0, [])), (7, (.ldc 0, 1, 0, 0, 4, [])), (8, (.invokestatic 1, 3, 141, 3, 1166, [(0, 10)])), (11, (.if_icmp .ge 0, 3, 33, 0, 0, [])), (14, (.iload 2, 1, 0, 0, 0, [])), (15, (.ldc 0, 1, 0, 0, 1, [])), (16, (.aload 0, 1, 0, 0, 0, [])), (17, (.iload 1, 1, 0, 0, 0, [])), (18, (.ldc 0, 1, 0, 0, 5, [])), (19, (.iload 3, 1, 0, 0, 0, [])), (20, (.iadd, 1, 0, 0, 0, [])), (21, (.invokestatic 1, 3, 141, 3, 1166, [(0, 10)])), (24, (.ishl, 1, 0, 0, 0, [])), (25, (.ior, 1, 0, 0, 0, [])), (26, (.istore 2, 1, 0, 0, 0, [])), (27, (.iinc 3 0, 3, 0, 0, 1, [])), (30, (.goto 0, 3, 4, 0, 0, []))],
  [(33, (.iload 2, 1, 0, 0, 0, [])), (34, (.ireturn, 1, 0, 0, 0, []))]]
abbrev m_M_wordsOf : Nat := 151
/-- M_told -/
def pm_t152 : pm_T := [[(0, (.aload 0, 1, 0, 0, 0, [])), (1, (.iload 1, 1, 0, 0, 0, [])), (2, (.invokestatic 1, 3, 139, 2, 1162, [(0, 10)])), (5, (.ifCond .ne 0, 3, 11, 0, 0, [])), (8, (.ldc 0, 2, 1148, 0, (-1000000001), [])), (10, (.ireturn, 1, 0, 0, 0, [])), (11, (.iload 2, 1, 0, 0, 0, [])), (12, (.lookupswitch 0 #[], 56, 105, 0, 0, [(0, 68), (1, 68), (2, 68), (3, 68), (4, 68), (5, 75), (6, 81), (7, 87), (8, 93), (9, 99)]))],
  [],
  [(68, (.aload 0, 1, 0, 0, 0, [])), (69, (.iload 1, 1, 0, 0, 0, [])), (70, (.iload 2, 1, 0, 0, 0, [])), (71, (.invokestatic 1, 3, 141, 3, 1166, [(0, 10)])), (74, (.ireturn, 1, 0, 0, 0, [])), (75, (.aload 0, 1, 0, 0, 0, [])), (76, (.iload 1, 1, 0, 0, 0, [])), (77, (.invokestatic 1, 3, 151, 2, 1170, [(0, 10)])), (80, (.ireturn, 1, 0, 0, 0, [])), (81, (.aload 0, 1, 0, 0, 0, [])), (82, (.iload 1, 1, 0, 0, 0, [])), (83, (.invokestatic 1, 3, 147, 2, 1174, [(0, 10)])), (86, (.ireturn, 1, 0, 0, 0, [])), (87, (.aload 0, 1, 0, 0, 0, [])), (88, (.iload 1, 1, 0, 0, 0, [])), (89, (.invokestatic 1, 3, 148, 2, 1192, [(0, 10)])), (92, (.ireturn, 1, 0, 0, 0, [])), (93, (.aload 0, 1, 0, 0, 0, [])), (94, (.iload 1, 1, 0, 0, 0, [])), (95, (.invokestatic 1, 3, 149, 2, 1196, [(0, 10)]))],
  [(98, (.ireturn, 1, 0, 0, 0, [])), (99, (.aload 0, 1, 0, 0, 0, [])), (100, (.iload 1, 1, 0, 0, 0, [])), (101, (.invokestatic 1, 3, 150, 2, 1200, [(0, 10)])), (104, (.ireturn, 1, 0, 0, 0, [])), (105, (.ldc 0, 2, 1148, 0, (-1000000001), [])), (107, (.ireturn, 1, 0, 0, 0, []))]]
abbrev m_M_told : Nat := 152
/-- M_heard -/
def pm_t153 : pm_T := [[(0, (.aload 0, 1, 0, 0, 0, [])), (1, (.iload 1, 1, 0, 0, 0, [])), (2, (.invokestatic 1, 3, 139, 2, 1162, [(0, 10)])), (5, (.ifCond .eq 0, 3, 18, 0, 0, [])), (8, (.iload 2, 1, 0, 0, 0, [])), (9, (.ldc 0, 1, 0, 0, 0, [])), (10, (.ldc 0, 2, 0, 0, 11, [])), (12, (.invokestatic 1, 3, 136, 3, 1142, [])), (15, (.ifCond .ne 0, 3, 21, 0, 0, [])), (18, (.ldc 0, 2, 1148, 0, (-1000000001), [])), (20, (.ireturn, 1, 0, 0, 0, [])), (21, (.iload 2, 1, 0, 0, 0, [])), (22, (.aload 0, 1, 0, 0, 0, [])), (23, (.iload 1, 1, 0, 0, 0, [])), (24, (.ldc 0, 1, 0, 0, 4, [])), (25, (.invokestatic 1, 3, 141, 3, 1166, [(0, 10)])), (28, (.if_icmp .ge 0, 3, 42, 0, 0, [])), (31, (.aload 0, 1, 0, 0, 0, []))],
  [(32, (.iload 1, 1, 0, 0, 0, [])), (33, (.ldc 0, 1, 0, 0, 5, [])), (34, (.iload 2, 1, 0, 0, 0, [])), (35, (.iadd, 1, 0, 0, 0, [])), (36, (.invokestatic 1, 3, 141, 3, 1166, [(0, 10)])), (39, (.goto 0, 3, 44, 0, 0, [])), (42, (.ldc 0, 2, 1208, 0, (-1000000005), [])), (44, (.ireturn, 1, 0, 0, 0, []))]]
abbrev m_M_heard : Nat := 153
/-- M_isUnder -/
def pm_t154 : pm_T := [[(0, (.iload 1, 1, 0, 0, 0, [])), (1, (.ifCond .eq 0, 3, 29, 0, 0, [])), (4, (.iload 0, 1, 0, 0, 0, [])), (5, (.iload 1, 1, 0, 0, 0, [])), (6, (.if_icmp .eq 0, 3, 29, 0, 0, [])), (9, (.iload 1, 1, 0, 0, 0, [])), (10, (.ldc 0, 1, 0, 0, 1, [])), (11, (.if_icmp .ne 0, 3, 19, 0, 0, [])), (14, (.iload 0, 1, 0, 0, 0, [])), (15, (.ldc 0, 1, 0, 0, 3, [])), (16, (.if_icmp .eq 0, 3, 29, 0, 0, [])), (19, (.iload 1, 1, 0, 0, 0, [])), (20, (.ldc 0, 1, 0, 0, 2, [])), (21, (.if_icmp .ne 0, 3, 33, 0, 0, [])), (24, (.iload 0, 1, 0, 0, 0, [])), (25, (.ldc 0, 1, 0, 0, 4, [])), (26, (.if_icmp .ne 0, 3, 33, 0, 0, [])), (29, (.ldc 0, 1, 0, 0, 1, [])), (30, (.goto 0, 3, 34, 0, 0, []))],
  [(33, (.ldc 0, 1, 0, 0, 0, [])), (34, (.ireturn, 1, 3, 0, 0, []))]]
abbrev m_M_isUnder : Nat := 154
/-- M_as -/
def pm_t155 : pm_T := [[(0, (.aload 0, 1, 0, 0, 0, [])), (1, (.iload 1, 1, 0, 0, 0, [])), (2, (.invokestatic 1, 3, 139, 2, 1162, [(0, 10)])), (5, (.ifCond .eq 0, 3, 17, 0, 0, [])), (8, (.iload 2, 1, 0, 0, 0, [])), (9, (.ldc 0, 1, 0, 0, 0, [])), (10, (.ldc 0, 1, 0, 0, 5, [])), (11, (.invokestatic 1, 3, 136, 3, 1142, [])), (14, (.ifCond .ne 0, 3, 20, 0, 0, [])), (17, (.ldc 0, 2, 1148, 0, (-1000000001), [])), (19, (.ireturn, 1, 0, 0, 0, [])), (20, (.aload 0, 1, 0, 0, 0, [])), (21, (.iload 1, 1, 0, 0, 0, [])), (22, (.ldc 0, 1, 0, 0, 0, [])), (23, (.invokestatic 1, 3, 141, 3, 1166, [(0, 10)])), (26, (.iload 2, 1, 0, 0, 0, [])), (27, (.invokestatic 1, 3, 154, 2, 1213, [])), (30, (.ifCond .eq 0, 3, 42, 0, 0, []))],
  [(33, (.aload 0, 1, 0, 0, 0, [])), (34, (.iload 1, 1, 0, 0, 0, [])), (35, (.ldc 0, 1, 0, 0, 2, [])), (36, (.invokestatic 1, 3, 141, 3, 1166, [(0, 10)])), (39, (.goto 0, 3, 44, 0, 0, [])), (42, (.ldc 0, 2, 1216, 0, (-1000000012), [])), (44, (.ireturn, 1, 0, 0, 0, []))]]
abbrev m_M_as : Nat := 155
/-- M_turns -/
def pm_t156 : pm_T := [[(0, (.aload 0, 1, 0, 0, 0, [])), (1, (.iload 1, 1, 0, 0, 0, [])), (2, (.invokestatic 1, 3, 139, 2, 1162, [(0, 10)])), (5, (.ifCond .eq 0, 3, 32, 0, 0, [])), (8, (.iload 2, 1, 0, 0, 0, [])), (9, (.ldc 0, 1, 0, 0, 0, [])), (10, (.ldc 0, 1, 0, 0, 5, [])), (11, (.invokestatic 1, 3, 136, 3, 1142, [])), (14, (.ifCond .eq 0, 3, 32, 0, 0, [])), (17, (.aload 0, 1, 0, 0, 0, [])), (18, (.ldc 0, 2, 0, 0, 7, [])), (20, (.ldc 0, 2, 0, 0, 29, [])), (22, (.iload 1, 1, 0, 0, 0, [])), (23, (.imul, 1, 0, 0, 0, [])), (24, (.iadd, 1, 0, 0, 0, [])), (25, (.iload 2, 1, 0, 0, 0, [])), (26, (.invokestatic 1, 3, 143, 3, 1221, [(0, 10)])), (29, (.goto 0, 3, 34, 0, 0, []))],
  [(32, (.ldc 0, 2, 1148, 0, (-1000000001), [])), (34, (.ireturn, 1, 0, 0, 0, []))]]
abbrev m_M_turns : Nat := 156
/-- M_set -/
def pm_t157 : pm_T := [[(0, (.aload 0, 1, 0, 0, 0, [])), (1, (.iload 1, 1, 0, 0, 0, [])), (2, (.invokestatic 1, 3, 139, 2, 1162, [(0, 10)])), (5, (.ifCond .eq 0, 3, 42, 0, 0, [])), (8, (.iload 2, 1, 0, 0, 0, [])), (9, (.ldc 0, 1, 0, 0, 1, [])), (10, (.ldc 0, 1, 0, 0, 2, [])), (11, (.invokestatic 1, 3, 136, 3, 1142, [])), (14, (.ifCond .eq 0, 3, 42, 0, 0, [])), (17, (.iload 2, 1, 0, 0, 0, [])), (18, (.iload 3, 1, 0, 0, 0, [])), (19, (.invokestatic 1, 3, 145, 2, 1145, [])), (22, (.ifCond .eq 0, 3, 42, 0, 0, [])), (25, (.aload 0, 1, 0, 0, 0, [])), (26, (.ldc 0, 2, 0, 0, 7, [])), (28, (.ldc 0, 2, 0, 0, 29, [])), (30, (.iload 1, 1, 0, 0, 0, [])), (31, (.imul, 1, 0, 0, 0, []))],
  [(32, (.iadd, 1, 0, 0, 0, [])), (33, (.iload 2, 1, 0, 0, 0, [])), (34, (.iadd, 1, 0, 0, 0, [])), (35, (.iload 3, 1, 0, 0, 0, [])), (36, (.invokestatic 1, 3, 143, 3, 1221, [(0, 10)])), (39, (.goto 0, 3, 44, 0, 0, [])), (42, (.ldc 0, 2, 1148, 0, (-1000000001), [])), (44, (.ireturn, 1, 0, 0, 0, []))]]
abbrev m_M_set : Nat := 157
/-- M_forgetsOldest -/
def pm_t158 : pm_T := [[(0, (.aload 0, 1, 0, 0, 0, [])), (1, (.iload 1, 1, 0, 0, 0, [])), (2, (.ldc 0, 1, 0, 0, 4, [])), (3, (.invokestatic 1, 3, 141, 3, 1166, [(0, 10)])), (6, (.ldc 0, 1, 0, 0, 1, [])), (7, (.isub, 1, 0, 0, 0, [])), (8, (.istore 2, 1, 0, 0, 0, [])), (9, (.aload 0, 1, 0, 0, 0, [])), (10, (.iload 1, 1, 0, 0, 0, [])), (11, (.ldc 0, 1, 0, 0, 4, [])), (12, (.iload 2, 1, 0, 0, 0, [])), (13, (.invokestatic 0, 3, 142, 4, 1154, [(0, 10)])), (16, (.ldc 0, 1, 0, 0, 0, [])), (17, (.istore 3, 1, 0, 0, 0, [])), (18, (.iload 3, 1, 0, 0, 0, [])), (19, (.iload 2, 1, 0, 0, 0, [])), (20, (.if_icmp .ge 0, 3, 47, 0, 0, [])), (23, (.aload 0, 1, 0, 0, 0, [])), (24, (.iload 1, 1, 0, 0, 0, [])), (25, (.ldc 0, 1, 0, 0, 5, [])), (26, (.iload 3, 1, 0, 0, 0, [])), (27, (.iadd, 1, 0, 0, 0, [])), (28, (.aload 0, 1, 0, 0, 0, [])), (29, (.iload 1, 1, 0, 0, 0, [])), (30, (.ldc 0, 1, 0, 0, 5, [])), (31, (.iload 3, 1, 0, 0, 0, []))],
  [(32, (.iadd, 1, 0, 0, 0, [])), (33, (.ldc 0, 1, 0, 0, 1, [])), (34, (.iadd, 1, 0, 0, 0, [])), (35, (.invokestatic 1, 3, 141, 3, 1166, [(0, 10)])), (38, (.invokestatic 0, 3, 142, 4, 1154, [(0, 10)])), (41, (.iinc 3 0, 3, 0, 0, 1, [])), (44, (.goto 0, 3, 18, 0, 0, [])), (47, (.aload 0, 1, 0, 0, 0, [])), (48, (.getfield 1, 3, 10, 0, 0, [(0, 1021)])), (51, (.ldc 0, 1, 0, 0, 5, [])), (52, (.dup2, 1, 0, 0, 0, [])), (53, (.iaload, 1, 0, 0, 0, [])), (54, (.ldc 0, 1, 0, 0, 1, [])), (55, (.iadd, 1, 0, 0, 0, [])), (56, (.iastore, 1, 0, 0, 0, [])), (57, (.return_, 1, 0, 0, 0, []))]]
abbrev m_M_forgetsOldest : Nat := 158
/-- M_hears -/
def pm_t159 : pm_T := [[(0, (.aload 0, 1, 0, 0, 0, [])), (1, (.iload 1, 1, 0, 0, 0, [])), (2, (.invokestatic 1, 3, 148, 2, 1192, [(0, 10)])), (5, (.ldc 0, 1, 0, 0, 0, [])), (6, (.aload 0, 1, 0, 0, 0, [])), (7, (.getfield 0, 3, 10, 5, 0, [(0, 1026)])), (10, (.invokestatic 1, 3, 137, 3, 1189, [])), (13, (.istore 2, 1, 0, 0, 0, [])), (14, (.ldc 0, 1, 0, 0, 0, [])), (15, (.istore 3, 1, 0, 0, 0, [])), (16, (.iload 3, 1, 0, 0, 0, [])), (17, (.iload 2, 1, 0, 0, 0, [])), (18, (.if_icmp .ge 0, 3, 60, 0, 0, [])), (21, (.aload 0, 1, 0, 0, 0, [])), (22, (.iload 1, 1, 0, 0, 0, [])), (23, (.ldc 0, 1, 0, 0, 5, [])), (24, (.aload 0, 1, 0, 0, 0, [])), (25, (.iload 1, 1, 0, 0, 0, [])), (26, (.ldc 0, 1, 0, 0, 4, [])), (27, (.invokestatic 1, 3, 141, 3, 1166, [(0, 10)])), (30, (.iadd, 1, 0, 0, 0, [])), (31, (.aload 0, 1, 0, 0, 0, []))],
  [(32, (.getfield 1, 3, 10, 4, 0, [(0, 1025)])), (35, (.iload 3, 1, 0, 0, 0, [])), (36, (.iaload, 1, 0, 0, 0, [])), (37, (.invokestatic 0, 3, 142, 4, 1154, [(0, 10)])), (40, (.aload 0, 1, 0, 0, 0, [])), (41, (.iload 1, 1, 0, 0, 0, [])), (42, (.ldc 0, 1, 0, 0, 4, [])), (43, (.aload 0, 1, 0, 0, 0, [])), (44, (.iload 1, 1, 0, 0, 0, [])), (45, (.ldc 0, 1, 0, 0, 4, [])), (46, (.invokestatic 1, 3, 141, 3, 1166, [(0, 10)])), (49, (.ldc 0, 1, 0, 0, 1, [])), (50, (.iadd, 1, 0, 0, 0, [])), (51, (.invokestatic 0, 3, 142, 4, 1154, [(0, 10)])), (54, (.iinc 3 0, 3, 0, 0, 1, [])), (57, (.goto 0, 3, 16, 0, 0, [])), (60, (.aload 0, 1, 0, 0, 0, [])), (61, (.iload 1, 1, 0, 0, 0, [])), (62, (.ldc 0, 1, 0, 0, 4, [])), (63, (.invokestatic 1, 3, 141, 3, 1166, [(0, 10)]))],
  [(66, (.aload 0, 1, 0, 0, 0, [])), (67, (.iload 1, 1, 0, 0, 0, [])), (68, (.invokestatic 1, 3, 147, 2, 1174, [(0, 10)])), (71, (.if_icmp .le 0, 3, 82, 0, 0, [])), (74, (.aload 0, 1, 0, 0, 0, [])), (75, (.iload 1, 1, 0, 0, 0, [])), (76, (.invokestatic 0, 3, 158, 2, 1241, [(0, 10)])), (79, (.goto 0, 3, 60, 0, 0, [])), (82, (.return_, 1, 0, 0, 0, []))]]
abbrev m_M_hears : Nat := 159
/-- M_speaksOne -/
def pm_t160 : pm_T := [[(0, (.iload 1, 1, 0, 0, 0, [])), (1, (.ifCond .lt 0, 3, 24, 0, 0, [])), (4, (.aload 0, 1, 0, 0, 0, [])), (5, (.getfield 1, 3, 10, 4, 0, [(0, 1025)])), (8, (.aload 0, 1, 0, 0, 0, [])), (9, (.getfield 0, 3, 10, 5, 0, [(0, 1026)])), (12, (.iload 1, 1, 0, 0, 0, [])), (13, (.iastore, 1, 0, 0, 0, [])), (14, (.aload 0, 1, 0, 0, 0, [])), (15, (.dup, 1, 0, 0, 0, [])), (16, (.getfield 0, 3, 10, 5, 0, [(0, 1026)])), (19, (.ldc 0, 1, 0, 0, 1, [])), (20, (.iadd, 1, 0, 0, 0, [])), (21, (.putfield 0, 3, 10, 5, 0, [(0, 1026)])), (24, (.return_, 1, 0, 0, 0, []))]]
abbrev m_M_speaksOne : Nat := 160
/-- M_speaks -/
def pm_t161 : pm_T := [[(0, (.aload 0, 1, 0, 0, 0, [])), (1, (.iload 1, 1, 0, 0, 0, [])), (2, (.invokestatic 1, 3, 139, 2, 1162, [(0, 10)])), (5, (.ifCond .eq 0, 3, 39, 0, 0, [])), (8, (.iload 2, 1, 0, 0, 0, [])), (9, (.ldc 0, 1, 0, 0, (-1), [])), (10, (.ldc 0, 2, 0, 0, 19, [])), (12, (.invokestatic 1, 3, 136, 3, 1142, [])), (15, (.ifCond .eq 0, 3, 39, 0, 0, [])), (18, (.iload 3, 1, 0, 0, 0, [])), (19, (.ldc 0, 1, 0, 0, (-1), [])), (20, (.ldc 0, 2, 0, 0, 19, [])), (22, (.invokestatic 1, 3, 136, 3, 1142, [])), (25, (.ifCond .eq 0, 3, 39, 0, 0, [])), (28, (.iload 4, 2, 0, 0, 0, [])), (30, (.ldc 0, 1, 0, 0, (-1), [])), (31, (.ldc 0, 2, 0, 0, 19, []))],
  [(33, (.invokestatic 1, 3, 136, 3, 1142, [])), (36, (.ifCond .ne 0, 3, 42, 0, 0, [])), (39, (.ldc 0, 2, 1148, 0, (-1000000001), [])), (41, (.ireturn, 1, 0, 0, 0, [])), (42, (.aload 0, 1, 0, 0, 0, [])), (43, (.ldc 0, 1, 0, 0, 0, [])), (44, (.putfield 0, 3, 10, 5, 0, [(0, 1026)])), (47, (.aload 0, 1, 0, 0, 0, [])), (48, (.iload 2, 1, 0, 0, 0, [])), (49, (.invokestatic 0, 3, 160, 2, 1233, [(0, 10)])), (52, (.aload 0, 1, 0, 0, 0, [])), (53, (.iload 3, 1, 0, 0, 0, [])), (54, (.invokestatic 0, 3, 160, 2, 1233, [(0, 10)])), (57, (.aload 0, 1, 0, 0, 0, [])), (58, (.iload 4, 2, 0, 0, 0, [])), (60, (.invokestatic 0, 3, 160, 2, 1233, [(0, 10)])), (63, (.aload 0, 1, 0, 0, 0, []))],
  [(64, (.iload 1, 1, 0, 0, 0, [])), (65, (.invokestatic 0, 3, 159, 2, 1237, [(0, 10)])), (68, (.aload 0, 1, 0, 0, 0, [])), (69, (.iload 1, 1, 0, 0, 0, [])), (70, (.ldc 0, 1, 0, 0, 4, [])), (71, (.invokestatic 1, 3, 141, 3, 1166, [(0, 10)])), (74, (.ireturn, 1, 0, 0, 0, []))]]
abbrev m_M_speaks : Nat := 161
/-- M_begins -/
def pm_t162 : pm_T := [[(0, (.aload 0, 1, 0, 0, 0, [])), (1, (.ldc 0, 1, 0, 0, 0, [])), (2, (.putfield 0, 3, 10, 5, 0, [(0, 1026)])), (5, (.iload 2, 1, 0, 0, 0, [])), (6, (.istore 4, 2, 0, 0, 0, [])), (8, (.iload 4, 2, 0, 0, 0, [])), (10, (.aload 0, 1, 0, 0, 0, [])), (11, (.iload 1, 1, 0, 0, 0, [])), (12, (.ldc 0, 1, 0, 0, 4, [])), (13, (.invokestatic 1, 3, 141, 3, 1166, [(0, 10)])), (16, (.if_icmp .ge 0, 3, 46, 0, 0, [])), (19, (.aload 0, 1, 0, 0, 0, [])), (20, (.getfield 0, 3, 10, 5, 0, [(0, 1026)])), (23, (.iload 3, 1, 0, 0, 0, [])), (24, (.if_icmp .ge 0, 3, 46, 0, 0, [])), (27, (.aload 0, 1, 0, 0, 0, [])), (28, (.aload 0, 1, 0, 0, 0, [])), (29, (.iload 1, 1, 0, 0, 0, [])), (30, (.ldc 0, 1, 0, 0, 5, [])), (31, (.iload 4, 2, 0, 0, 0, []))],
  [(33, (.iadd, 1, 0, 0, 0, [])), (34, (.invokestatic 1, 3, 141, 3, 1166, [(0, 10)])), (37, (.invokestatic 0, 3, 160, 2, 1233, [(0, 10)])), (40, (.iinc 4 0, 3, 0, 0, 1, [])), (43, (.goto 0, 3, 8, 0, 0, [])), (46, (.return_, 1, 0, 0, 0, []))]]
abbrev m_M_begins : Nat := 162
/-- M_tells -/
def pm_t163 : pm_T := [[(0, (.aload 0, 1, 0, 0, 0, [])), (1, (.iload 1, 1, 0, 0, 0, [])), (2, (.iload 3, 1, 0, 0, 0, [])), (3, (.aload 0, 1, 0, 0, 0, [])), (4, (.iload 1, 1, 0, 0, 0, [])), (5, (.invokestatic 1, 3, 149, 2, 1196, [(0, 10)])), (8, (.invokestatic 0, 3, 162, 4, 1253, [(0, 10)])), (11, (.aload 0, 1, 0, 0, 0, [])), (12, (.iload 1, 1, 0, 0, 0, [])), (13, (.ldc 0, 1, 0, 0, 3, [])), (14, (.aload 0, 1, 0, 0, 0, [])), (15, (.iload 1, 1, 0, 0, 0, [])), (16, (.ldc 0, 1, 0, 0, 3, [])), (17, (.invokestatic 1, 3, 141, 3, 1166, [(0, 10)])), (20, (.aload 0, 1, 0, 0, 0, [])), (21, (.getfield 0, 3, 10, 5, 0, [(0, 1026)])), (24, (.iadd, 1, 0, 0, 0, [])), (25, (.invokestatic 0, 3, 142, 4, 1154, [(0, 10)])), (28, (.aload 0, 1, 0, 0, 0, [])), (29, (.getfield 1, 3, 10, 0, 0, [(0, 1021)]))],
  [(32, (.ldc 0, 1, 0, 0, 4, [])), (33, (.dup2, 1, 0, 0, 0, [])), (34, (.iaload, 1, 0, 0, 0, [])), (35, (.ldc 0, 1, 0, 0, 1, [])), (36, (.iadd, 1, 0, 0, 0, [])), (37, (.iastore, 1, 0, 0, 0, [])), (38, (.aload 0, 1, 0, 0, 0, [])), (39, (.iload 2, 1, 0, 0, 0, [])), (40, (.invokestatic 0, 3, 159, 2, 1237, [(0, 10)])), (43, (.aload 0, 1, 0, 0, 0, [])), (44, (.getfield 0, 3, 10, 5, 0, [(0, 1026)])), (47, (.ireturn, 1, 0, 0, 0, []))]]
abbrev m_M_tells : Nat := 163
/-- M_says -/
def pm_t164 : pm_T := [[(0, (.aload 0, 1, 0, 0, 0, [])), (1, (.iload 1, 1, 0, 0, 0, [])), (2, (.invokestatic 1, 3, 139, 2, 1162, [(0, 10)])), (5, (.ifCond .eq 0, 3, 31, 0, 0, [])), (8, (.aload 0, 1, 0, 0, 0, [])), (9, (.iload 2, 1, 0, 0, 0, [])), (10, (.invokestatic 1, 3, 139, 2, 1162, [(0, 10)])), (13, (.ifCond .eq 0, 3, 31, 0, 0, [])), (16, (.iload 1, 1, 0, 0, 0, [])), (17, (.iload 2, 1, 0, 0, 0, [])), (18, (.if_icmp .eq 0, 3, 31, 0, 0, [])), (21, (.iload 3, 1, 0, 0, 0, [])), (22, (.ldc 0, 1, 0, 0, 0, [])), (23, (.ldc 0, 2, 0, 0, 11, [])), (25, (.invokestatic 1, 3, 136, 3, 1142, [])), (28, (.ifCond .ne 0, 3, 34, 0, 0, [])), (31, (.ldc 0, 2, 1148, 0, (-1000000001), []))],
  [(33, (.ireturn, 1, 0, 0, 0, [])), (34, (.iload 3, 1, 0, 0, 0, [])), (35, (.aload 0, 1, 0, 0, 0, [])), (36, (.iload 1, 1, 0, 0, 0, [])), (37, (.ldc 0, 1, 0, 0, 4, [])), (38, (.invokestatic 1, 3, 141, 3, 1166, [(0, 10)])), (41, (.if_icmp .ge 0, 3, 54, 0, 0, [])), (44, (.aload 0, 1, 0, 0, 0, [])), (45, (.iload 1, 1, 0, 0, 0, [])), (46, (.iload 2, 1, 0, 0, 0, [])), (47, (.iload 3, 1, 0, 0, 0, [])), (48, (.invokestatic 1, 3, 163, 4, 1249, [(0, 10)])), (51, (.goto 0, 3, 56, 0, 0, [])), (54, (.ldc 0, 2, 1208, 0, (-1000000005), [])), (56, (.ireturn, 1, 0, 0, 0, []))]]
abbrev m_M_says : Nat := 164
/-- M_forgets -/
def pm_t165 : pm_T := [[(0, (.aload 0, 1, 0, 0, 0, [])), (1, (.iload 1, 1, 0, 0, 0, [])), (2, (.invokestatic 1, 3, 139, 2, 1162, [(0, 10)])), (5, (.ifCond .ne 0, 3, 11, 0, 0, [])), (8, (.ldc 0, 2, 1148, 0, (-1000000001), [])), (10, (.ireturn, 1, 0, 0, 0, [])), (11, (.aload 0, 1, 0, 0, 0, [])), (12, (.iload 1, 1, 0, 0, 0, [])), (13, (.ldc 0, 1, 0, 0, 4, [])), (14, (.invokestatic 1, 3, 141, 3, 1166, [(0, 10)])), (17, (.istore 2, 1, 0, 0, 0, [])), (18, (.aload 0, 1, 0, 0, 0, [])), (19, (.getfield 1, 3, 10, 0, 0, [(0, 1021)])), (22, (.ldc 0, 1, 0, 0, 5, [])), (23, (.dup2, 1, 0, 0, 0, [])), (24, (.iaload, 1, 0, 0, 0, [])), (25, (.iload 2, 1, 0, 0, 0, [])), (26, (.iadd, 1, 0, 0, 0, [])), (27, (.iastore, 1, 0, 0, 0, [])), (28, (.aload 0, 1, 0, 0, 0, [])), (29, (.iload 1, 1, 0, 0, 0, [])), (30, (.ldc 0, 1, 0, 0, 4, [])), (31, (.ldc 0, 1, 0, 0, 0, []))],
  [(32, (.invokestatic 0, 3, 142, 4, 1154, [(0, 10)])), (35, (.iload 2, 1, 0, 0, 0, [])), (36, (.ireturn, 1, 0, 0, 0, []))]]
abbrev m_M_forgets : Nat := 165
/-- M_talk -/
def pm_t166 : pm_T := [[(0, (.iload 1, 1, 0, 0, 0, [])), (1, (.ldc 0, 1, 0, 0, 0, [])), (2, (.ldc 0, 2, 0, 0, 100, [])), (4, (.invokestatic 1, 3, 136, 3, 1142, [])), (7, (.ifCond .eq 0, 3, 19, 0, 0, [])), (10, (.aload 0, 1, 0, 0, 0, [])), (11, (.ldc 0, 1, 0, 0, 3, [])), (12, (.iload 1, 1, 0, 0, 0, [])), (13, (.invokestatic 1, 3, 143, 3, 1221, [(0, 10)])), (16, (.goto 0, 3, 21, 0, 0, [])), (19, (.ldc 0, 2, 1148, 0, (-1000000001), [])), (21, (.ireturn, 1, 0, 0, 0, []))]]
abbrev m_M_talk : Nat := 166
/-- M_draw -/
def pm_t167 : pm_T := [[(0, (.aload 0, 1, 0, 0, 0, [])), (1, (.getfield 1, 3, 10, 0, 0, [(0, 1021)])), (4, (.ldc 0, 1, 0, 0, 0, [])), (5, (.aload 0, 1, 0, 0, 0, [])), (6, (.getfield 1, 3, 10, 0, 0, [(0, 1021)])), (9, (.ldc 0, 1, 0, 0, 0, [])), (10, (.iaload, 1, 0, 0, 0, [])), (11, (.ldc 0, 2, 1273, 0, 1103515245, [])), (13, (.imul, 1, 0, 0, 0, [])), (14, (.ldc 0, 3, 0, 0, 12345, [])), (17, (.iadd, 1, 0, 0, 0, [])), (18, (.iastore, 1, 0, 0, 0, [])), (19, (.aload 0, 1, 0, 0, 0, [])), (20, (.getfield 1, 3, 10, 0, 0, [(0, 1021)])), (23, (.ldc 0, 1, 0, 0, 0, [])), (24, (.iaload, 1, 0, 0, 0, [])), (25, (.ldc 0, 2, 0, 0, 8, [])), (27, (.iushr, 1, 0, 0, 0, [])), (28, (.ireturn, 1, 0, 0, 0, []))]]
abbrev m_M_draw : Nat := 167
/-- M_deal -/
def pm_t168 : pm_T := [[(0, (.iload 1, 1, 0, 0, 0, [])), (1, (.ldc 0, 1, 0, 0, 1, [])), (2, (.ldc 0, 2, 0, 0, 8, [])), (4, (.invokestatic 1, 3, 136, 3, 1142, [])), (7, (.ifCond .ne 0, 3, 13, 0, 0, [])), (10, (.ldc 0, 2, 1148, 0, (-1000000001), [])), (12, (.ireturn, 1, 0, 0, 0, [])), (13, (.ldc 0, 1, 0, 0, 0, [])), (14, (.istore 2, 1, 0, 0, 0, [])), (15, (.iload 2, 1, 0, 0, 0, [])), (16, (.iload 1, 1, 0, 0, 0, [])), (17, (.if_icmp .ge 0, 3, 72, 0, 0, [])), (20, (.aload 0, 1, 0, 0, 0, [])), (21, (.getfield 1, 3, 10, 0, 0, [(0, 1021)])), (24, (.ldc 0, 1, 0, 0, 1, [])), (25, (.iaload, 1, 0, 0, 0, [])), (26, (.ldc 0, 2, 0, 0, 8, [])), (28, (.if_icmp .ge 0, 3, 72, 0, 0, [])), (31, (.aload 0, 1, 0, 0, 0, []))],
  [(32, (.invokestatic 1, 3, 167, 1, 1269, [(0, 10)])), (35, (.ldc 0, 2, 0, 0, 6, [])), (37, (.irem, 1, 0, 0, 0, [])), (38, (.istore 3, 1, 0, 0, 0, [])), (39, (.ldc 0, 1, 0, 0, 1, [])), (40, (.aload 0, 1, 0, 0, 0, [])), (41, (.invokestatic 1, 3, 167, 1, 1269, [(0, 10)])), (44, (.ldc 0, 2, 0, 0, 9, [])), (46, (.irem, 1, 0, 0, 0, [])), (47, (.iadd, 1, 0, 0, 0, [])), (48, (.istore 4, 2, 0, 0, 0, [])), (50, (.aload 0, 1, 0, 0, 0, [])), (51, (.iload 3, 1, 0, 0, 0, [])), (52, (.iload 4, 2, 0, 0, 0, [])), (54, (.aload 0, 1, 0, 0, 0, [])), (55, (.invokestatic 1, 3, 167, 1, 1269, [(0, 10)])), (58, (.ldc 0, 2, 0, 0, 100, [])), (60, (.irem, 1, 0, 0, 0, [])), (61, (.invokestatic 1, 3, 144, 4, 1150, [(0, 10)]))],
  [(64, (.istore 5, 2, 0, 0, 0, [])), (66, (.iinc 2 0, 3, 0, 0, 1, [])), (69, (.goto 0, 3, 15, 0, 0, [])), (72, (.iload 2, 1, 0, 0, 0, [])), (73, (.ireturn, 1, 0, 0, 0, []))]]
abbrev m_M_deal : Nat := 168
/-- M_seed -/
def pm_t169 : pm_T := [[(0, (.aload 0, 1, 0, 0, 0, [])), (1, (.ldc 0, 1, 0, 0, 0, [])), (2, (.iload 1, 1, 0, 0, 0, [])), (3, (.invokestatic 1, 3, 143, 3, 1221, [(0, 10)])), (6, (.ireturn, 1, 0, 0, 0, []))]]
abbrev m_M_seed : Nat := 169
/-- M_talks -/
def pm_t170 : pm_T := [[(0, (.aload 0, 1, 0, 0, 0, [])), (1, (.invokestatic 1, 3, 167, 1, 1269, [(0, 10)])), (4, (.aload 0, 1, 0, 0, 0, [])), (5, (.getfield 1, 3, 10, 0, 0, [(0, 1021)])), (8, (.ldc 0, 1, 0, 0, 1, [])), (9, (.iaload, 1, 0, 0, 0, [])), (10, (.irem, 1, 0, 0, 0, [])), (11, (.istore 1, 1, 0, 0, 0, [])), (12, (.aload 0, 1, 0, 0, 0, [])), (13, (.invokestatic 1, 3, 167, 1, 1269, [(0, 10)])), (16, (.aload 0, 1, 0, 0, 0, [])), (17, (.getfield 1, 3, 10, 0, 0, [(0, 1021)])), (20, (.ldc 0, 1, 0, 0, 1, [])), (21, (.iaload, 1, 0, 0, 0, [])), (22, (.ldc 0, 1, 0, 0, 1, [])), (23, (.isub, 1, 0, 0, 0, [])), (24, (.irem, 1, 0, 0, 0, [])), (25, (.istore 2, 1, 0, 0, 0, [])), (26, (.iload 2, 1, 0, 0, 0, [])), (27, (.iload 2, 1, 0, 0, 0, [])), (28, (.iload 1, 1, 0, 0, 0, [])), (29, (.if_icmp .lt 0, 3, 36, 0, 0, []))],
  [(32, (.ldc 0, 1, 0, 0, 1, [])), (33, (.goto 0, 3, 37, 0, 0, [])), (36, (.ldc 0, 1, 0, 0, 0, [])), (37, (.iadd, 1, 0, 0, 0, [])), (38, (.istore 2, 1, 0, 0, 0, [])), (39, (.aload 0, 1, 0, 0, 0, [])), (40, (.iload 1, 1, 0, 0, 0, [])), (41, (.ldc 0, 1, 0, 0, 4, [])), (42, (.invokestatic 1, 3, 141, 3, 1166, [(0, 10)])), (45, (.ifCond .le 0, 3, 66, 0, 0, [])), (48, (.aload 0, 1, 0, 0, 0, [])), (49, (.iload 1, 1, 0, 0, 0, [])), (50, (.iload 2, 1, 0, 0, 0, [])), (51, (.aload 0, 1, 0, 0, 0, [])), (52, (.invokestatic 1, 3, 167, 1, 1269, [(0, 10)])), (55, (.aload 0, 1, 0, 0, 0, [])), (56, (.iload 1, 1, 0, 0, 0, [])), (57, (.ldc 0, 1, 0, 0, 4, [])), (58, (.invokestatic 1, 3, 141, 3, 1166, [(0, 10)])), (61, (.irem, 1, 0, 0, 0, [])), (62, (.invokestatic 1, 3, 163, 4, 1249, [(0, 10)]))],
  [(65, (.istore 3, 1, 0, 0, 0, [])), (66, (.return_, 1, 0, 0, 0, []))]]
abbrev m_M_talks : Nat := 170
/-- M_day -/
def pm_t171 : pm_T := [[(0, (.aload 0, 1, 0, 0, 0, [])), (1, (.invokestatic 1, 3, 167, 1, 1269, [(0, 10)])), (4, (.ldc 0, 2, 0, 0, 100, [])), (6, (.irem, 1, 0, 0, 0, [])), (7, (.aload 0, 1, 0, 0, 0, [])), (8, (.getfield 1, 3, 10, 0, 0, [(0, 1021)])), (11, (.ldc 0, 1, 0, 0, 3, [])), (12, (.iaload, 1, 0, 0, 0, [])), (13, (.if_icmp .ge 0, 3, 20, 0, 0, [])), (16, (.ldc 0, 1, 0, 0, 1, [])), (17, (.goto 0, 3, 21, 0, 0, [])), (20, (.ldc 0, 1, 0, 0, 0, [])), (21, (.istore 1, 1, 0, 0, 0, [])), (22, (.iload 1, 1, 0, 0, 0, [])), (23, (.ifCond .eq 0, 3, 40, 0, 0, [])), (26, (.aload 0, 1, 0, 0, 0, [])), (27, (.getfield 1, 3, 10, 0, 0, [(0, 1021)])), (30, (.ldc 0, 1, 0, 0, 1, [])), (31, (.iaload, 1, 0, 0, 0, []))],
  [(32, (.ldc 0, 1, 0, 0, 1, [])), (33, (.if_icmp .le 0, 3, 40, 0, 0, [])), (36, (.aload 0, 1, 0, 0, 0, [])), (37, (.invokestatic 0, 3, 170, 1, 1290, [(0, 10)])), (40, (.aload 0, 1, 0, 0, 0, [])), (41, (.getfield 1, 3, 10, 0, 0, [(0, 1021)])), (44, (.ldc 0, 1, 0, 0, 2, [])), (45, (.dup2, 1, 0, 0, 0, [])), (46, (.iaload, 1, 0, 0, 0, [])), (47, (.ldc 0, 1, 0, 0, 1, [])), (48, (.iadd, 1, 0, 0, 0, [])), (49, (.iastore, 1, 0, 0, 0, [])), (50, (.return_, 1, 0, 0, 0, []))]]
abbrev m_M_day : Nat := 171
/-- M_goesOn -/
def pm_t172 : pm_T := [[(0, (.ldc 0, 1, 0, 0, 0, [])), (1, (.istore 2, 1, 0, 0, 0, [])), (2, (.iload 2, 1, 0, 0, 0, [])), (3, (.iload 1, 1, 0, 0, 0, [])), (4, (.if_icmp .ge 0, 3, 17, 0, 0, [])), (7, (.aload 0, 1, 0, 0, 0, [])), (8, (.invokestatic 0, 3, 171, 1, 1286, [(0, 10)])), (11, (.iinc 2 0, 3, 0, 0, 1, [])), (14, (.goto 0, 3, 2, 0, 0, [])), (17, (.return_, 1, 0, 0, 0, []))]]
abbrev m_M_goesOn : Nat := 172
/-- M_days -/
def pm_t173 : pm_T := [[(0, (.iload 1, 1, 0, 0, 0, [])), (1, (.ldc 0, 1, 0, 0, 1, [])), (2, (.ldc 0, 2, 0, 0, 100, [])), (4, (.invokestatic 1, 3, 136, 3, 1142, [])), (7, (.ifCond .ne 0, 3, 13, 0, 0, [])), (10, (.ldc 0, 2, 1148, 0, (-1000000001), [])), (12, (.ireturn, 1, 0, 0, 0, [])), (13, (.aload 0, 1, 0, 0, 0, [])), (14, (.getfield 1, 3, 10, 0, 0, [(0, 1021)])), (17, (.ldc 0, 1, 0, 0, 4, [])), (18, (.iaload, 1, 0, 0, 0, [])), (19, (.istore 2, 1, 0, 0, 0, [])), (20, (.aload 0, 1, 0, 0, 0, [])), (21, (.ldc 0, 3, 0, 0, 9999, [])), (24, (.aload 0, 1, 0, 0, 0, [])), (25, (.getfield 1, 3, 10, 0, 0, [(0, 1021)])), (28, (.ldc 0, 1, 0, 0, 2, [])), (29, (.iaload, 1, 0, 0, 0, [])), (30, (.isub, 1, 0, 0, 0, [])), (31, (.ldc 0, 1, 0, 0, 0, []))],
  [(32, (.iload 1, 1, 0, 0, 0, [])), (33, (.invokestatic 1, 3, 137, 3, 1189, [])), (36, (.invokestatic 0, 3, 172, 2, 1282, [(0, 10)])), (39, (.aload 0, 1, 0, 0, 0, [])), (40, (.getfield 1, 3, 10, 0, 0, [(0, 1021)])), (43, (.ldc 0, 1, 0, 0, 4, [])), (44, (.iaload, 1, 0, 0, 0, [])), (45, (.iload 2, 1, 0, 0, 0, [])), (46, (.isub, 1, 0, 0, 0, [])), (47, (.ireturn, 1, 0, 0, 0, []))]]
abbrev m_M_days : Nat := 173
/-- M_wordsOfAll -/
def pm_t174 : pm_T := [[(0, (.ldc 0, 1, 0, 0, 0, [])), (1, (.istore 1, 1, 0, 0, 0, [])), (2, (.ldc 0, 1, 0, 0, 0, [])), (3, (.istore 2, 1, 0, 0, 0, [])), (4, (.iload 2, 1, 0, 0, 0, [])), (5, (.aload 0, 1, 0, 0, 0, [])), (6, (.getfield 1, 3, 10, 0, 0, [(0, 1021)])), (9, (.ldc 0, 1, 0, 0, 1, [])), (10, (.iaload, 1, 0, 0, 0, [])), (11, (.if_icmp .ge 0, 3, 29, 0, 0, [])), (14, (.iload 1, 1, 0, 0, 0, [])), (15, (.aload 0, 1, 0, 0, 0, [])), (16, (.iload 2, 1, 0, 0, 0, [])), (17, (.ldc 0, 1, 0, 0, 4, [])), (18, (.invokestatic 1, 3, 141, 3, 1166, [(0, 10)])), (21, (.iadd, 1, 0, 0, 0, [])), (22, (.istore 1, 1, 0, 0, 0, [])), (23, (.iinc 2 0, 3, 0, 0, 1, [])), (26, (.goto 0, 3, 4, 0, 0, [])), (29, (.iload 1, 1, 0, 0, 0, [])), (30, (.ireturn, 1, 0, 0, 0, []))]]
abbrev m_M_wordsOfAll : Nat := 174
/-- M_known -/
def pm_t175 : pm_T := [[(0, (.ldc 0, 1, 0, 0, 0, [])), (1, (.istore 1, 1, 0, 0, 0, [])), (2, (.ldc 0, 1, 0, 0, 0, [])), (3, (.istore 2, 1, 0, 0, 0, [])), (4, (.iload 2, 1, 0, 0, 0, [])), (5, (.aload 0, 1, 0, 0, 0, [])), (6, (.getfield 1, 3, 10, 0, 0, [(0, 1021)])), (9, (.ldc 0, 1, 0, 0, 1, [])), (10, (.iaload, 1, 0, 0, 0, [])), (11, (.if_icmp .ge 0, 3, 28, 0, 0, [])), (14, (.iload 1, 1, 0, 0, 0, [])), (15, (.aload 0, 1, 0, 0, 0, [])), (16, (.iload 2, 1, 0, 0, 0, [])), (17, (.invokestatic 1, 3, 151, 2, 1170, [(0, 10)])), (20, (.ior, 1, 0, 0, 0, [])), (21, (.istore 1, 1, 0, 0, 0, [])), (22, (.iinc 2 0, 3, 0, 0, 1, [])), (25, (.goto 0, 3, 4, 0, 0, [])), (28, (.iload 1, 1, 0, 0, 0, [])), (29, (.ireturn, 1, 0, 0, 0, []))]]
abbrev m_M_known : Nat := 175
/-- M_knownToAll -/
def pm_t176 : pm_T := [[(0, (.aload 0, 1, 0, 0, 0, [])), (1, (.getfield 1, 3, 10, 0, 0, [(0, 1021)])), (4, (.ldc 0, 1, 0, 0, 1, [])), (5, (.iaload, 1, 0, 0, 0, [])), (6, (.ifCond .ne 0, 3, 13, 0, 0, [])), (9, (.ldc 0, 1, 0, 0, 0, [])), (10, (.goto 0, 3, 15, 0, 0, [])), (13, (.ldc 0, 2, 1310, 0, 1048575, [])), (15, (.istore 1, 1, 0, 0, 0, [])), (16, (.ldc 0, 1, 0, 0, 0, [])), (17, (.istore 2, 1, 0, 0, 0, [])), (18, (.iload 2, 1, 0, 0, 0, [])), (19, (.aload 0, 1, 0, 0, 0, [])), (20, (.getfield 1, 3, 10, 0, 0, [(0, 1021)])), (23, (.ldc 0, 1, 0, 0, 1, [])), (24, (.iaload, 1, 0, 0, 0, [])), (25, (.if_icmp .ge 0, 3, 42, 0, 0, [])), (28, (.iload 1, 1, 0, 0, 0, [])), (29, (.aload 0, 1, 0, 0, 0, [])), (30, (.iload 2, 1, 0, 0, 0, [])), (31, (.invokestatic 1, 3, 151, 2, 1170, [(0, 10)]))],
  [(34, (.iand, 1, 0, 0, 0, [])), (35, (.istore 1, 1, 0, 0, 0, [])), (36, (.iinc 2 0, 3, 0, 0, 1, [])), (39, (.goto 0, 3, 18, 0, 0, [])), (42, (.iload 1, 1, 0, 0, 0, [])), (43, (.ireturn, 1, 0, 0, 0, []))]]
abbrev m_M_knownToAll : Nat := 176
/-- M_folk -/
def pm_t177 : pm_T := [[(0, (.iload 1, 1, 0, 0, 0, [])), (1, (.lookupswitch 0 #[], 35, 60, 0, 0, [(0, 36), (1, 36), (2, 45), (3, 50), (4, 55)]))],
  [(36, (.aload 0, 1, 0, 0, 0, [])), (37, (.getfield 1, 3, 10, 0, 0, [(0, 1021)])), (40, (.ldc 0, 1, 0, 0, 4, [])), (41, (.iload 1, 1, 0, 0, 0, [])), (42, (.iadd, 1, 0, 0, 0, [])), (43, (.iaload, 1, 0, 0, 0, [])), (44, (.ireturn, 1, 0, 0, 0, [])), (45, (.aload 0, 1, 0, 0, 0, [])), (46, (.invokestatic 1, 3, 174, 1, 1298, [(0, 10)])), (49, (.ireturn, 1, 0, 0, 0, [])), (50, (.aload 0, 1, 0, 0, 0, [])), (51, (.invokestatic 1, 3, 175, 1, 1302, [(0, 10)])), (54, (.ireturn, 1, 0, 0, 0, [])), (55, (.aload 0, 1, 0, 0, 0, [])), (56, (.invokestatic 1, 3, 176, 1, 1306, [(0, 10)])), (59, (.ireturn, 1, 0, 0, 0, [])), (60, (.ldc 0, 2, 1148, 0, (-1000000001), [])), (62, (.ireturn, 1, 0, 0, 0, []))]]
abbrev m_M_folk : Nat := 177
/-- M_readsSaying -/
def pm_t178 : pm_T := [[(0, (.aload 0, 1, 0, 0, 0, [])), (1, (.ldc 0, 1, 0, 0, 0, [])), (2, (.putfield 0, 3, 10, 7, 0, [(0, 1028)])), (5, (.aload 0, 1, 0, 0, 0, [])), (6, (.getfield 0, 3, 10, 7, 0, [(0, 1028)])), (9, (.ldc 0, 2, 0, 0, 12, [])), (11, (.if_icmp .ge 0, 3, 83, 0, 0, [])), (14, (.aload 0, 1, 0, 0, 0, [])), (15, (.getfield 0, 3, 10, 7, 0, [(0, 1028)])), (18, (.aload 0, 1, 0, 0, 0, [])), (19, (.getfield 1, 3, 10, 29, 0, [(0, 1050)])), (22, (.iload 1, 1, 0, 0, 0, [])), (23, (.iaload, 1, 0, 0, 0, [])), (24, (.if_icmp .ge 0, 3, 83, 0, 0, [])), (27, (.aload 0, 1, 0, 0, 0, [])), (28, (.getfield 1, 3, 10, 30, 0, [(0, 1051)])), (31, (.ldc 0, 2, 0, 0, 24, []))],
  [(33, (.iload 1, 1, 0, 0, 0, [])), (34, (.imul, 1, 0, 0, 0, [])), (35, (.aload 0, 1, 0, 0, 0, [])), (36, (.getfield 0, 3, 10, 7, 0, [(0, 1028)])), (39, (.iadd, 1, 0, 0, 0, [])), (40, (.iaload, 1, 0, 0, 0, [])), (41, (.invokestatic 1, 3, 140, 1, 1323, [])), (44, (.ifCond .eq 0, 3, 83, 0, 0, [])), (47, (.aload 0, 1, 0, 0, 0, [])), (48, (.getfield 1, 3, 10, 6, 0, [(0, 1027)])), (51, (.aload 0, 1, 0, 0, 0, [])), (52, (.getfield 0, 3, 10, 7, 0, [(0, 1028)])), (55, (.aload 0, 1, 0, 0, 0, [])), (56, (.getfield 1, 3, 10, 30, 0, [(0, 1051)])), (59, (.ldc 0, 2, 0, 0, 24, [])), (61, (.iload 1, 1, 0, 0, 0, [])), (62, (.imul, 1, 0, 0, 0, [])), (63, (.aload 0, 1, 0, 0, 0, []))],
  [(64, (.getfield 0, 3, 10, 7, 0, [(0, 1028)])), (67, (.iadd, 1, 0, 0, 0, [])), (68, (.iaload, 1, 0, 0, 0, [])), (69, (.iastore, 1, 0, 0, 0, [])), (70, (.aload 0, 1, 0, 0, 0, [])), (71, (.dup, 1, 0, 0, 0, [])), (72, (.getfield 0, 3, 10, 7, 0, [(0, 1028)])), (75, (.ldc 0, 1, 0, 0, 1, [])), (76, (.iadd, 1, 0, 0, 0, [])), (77, (.putfield 0, 3, 10, 7, 0, [(0, 1028)])), (80, (.goto 0, 3, 5, 0, 0, [])), (83, (.return_, 1, 0, 0, 0, []))]]
abbrev m_M_readsSaying : Nat := 178
/-- M_hasHeard -/
def pm_t179 : pm_T := [[(0, (.ldc 0, 1, 0, 0, 0, [])), (1, (.istore 4, 2, 0, 0, 0, [])), (3, (.iload 4, 2, 0, 0, 0, [])), (5, (.iload 3, 1, 0, 0, 0, [])), (6, (.iadd, 1, 0, 0, 0, [])), (7, (.iload 2, 1, 0, 0, 0, [])), (8, (.isub, 1, 0, 0, 0, [])), (9, (.aload 0, 1, 0, 0, 0, [])), (10, (.iload 1, 1, 0, 0, 0, [])), (11, (.ldc 0, 1, 0, 0, 4, [])), (12, (.invokestatic 1, 3, 141, 3, 1166, [(0, 10)])), (15, (.if_icmp .gt 0, 3, 75, 0, 0, [])), (18, (.ldc 0, 1, 0, 0, 0, [])), (19, (.istore 5, 2, 0, 0, 0, [])), (21, (.iload 2, 1, 0, 0, 0, [])), (22, (.iload 5, 2, 0, 0, 0, [])), (24, (.iadd, 1, 0, 0, 0, [])), (25, (.iload 3, 1, 0, 0, 0, [])), (26, (.if_icmp .ge 0, 3, 59, 0, 0, [])), (29, (.aload 0, 1, 0, 0, 0, [])), (30, (.iload 1, 1, 0, 0, 0, [])), (31, (.ldc 0, 1, 0, 0, 5, []))],
  [(32, (.iload 4, 2, 0, 0, 0, [])), (34, (.iadd, 1, 0, 0, 0, [])), (35, (.iload 5, 2, 0, 0, 0, [])), (37, (.iadd, 1, 0, 0, 0, [])), (38, (.invokestatic 1, 3, 141, 3, 1166, [(0, 10)])), (41, (.aload 0, 1, 0, 0, 0, [])), (42, (.getfield 1, 3, 10, 6, 0, [(0, 1027)])), (45, (.iload 2, 1, 0, 0, 0, [])), (46, (.iload 5, 2, 0, 0, 0, [])), (48, (.iadd, 1, 0, 0, 0, [])), (49, (.iaload, 1, 0, 0, 0, [])), (50, (.if_icmp .ne 0, 3, 59, 0, 0, [])), (53, (.iinc 5 0, 3, 0, 0, 1, [])), (56, (.goto 0, 3, 21, 0, 0, [])), (59, (.iload 2, 1, 0, 0, 0, [])), (60, (.iload 5, 2, 0, 0, 0, [])), (62, (.iadd, 1, 0, 0, 0, [])), (63, (.iload 3, 1, 0, 0, 0, []))],
  [(64, (.if_icmp .ne 0, 3, 69, 0, 0, [])), (67, (.ldc 0, 1, 0, 0, 1, [])), (68, (.ireturn, 1, 3, 0, 0, [])), (69, (.iinc 4 0, 3, 0, 0, 1, [])), (72, (.goto 0, 3, 3, 0, 0, [])), (75, (.ldc 0, 1, 0, 0, 0, [])), (76, (.ireturn, 1, 3, 0, 0, []))]]
abbrev m_M_hasHeard : Nat := 179
/-- M_breathsOf -/
def pm_t180 : pm_T := [[(0, (.aload 0, 1, 0, 0, 0, [])), (1, (.iload 1, 1, 0, 0, 0, [])), (2, (.invokestatic 1, 3, 149, 2, 1196, [(0, 10)])), (5, (.istore 2, 1, 0, 0, 0, [])), (6, (.aload 0, 1, 0, 0, 0, [])), (7, (.getfield 1, 3, 10, 8, 0, [(0, 1029)])), (10, (.ldc 0, 1, 0, 0, 0, [])), (11, (.ldc 0, 1, 0, 0, 0, [])), (12, (.iastore, 1, 0, 0, 0, [])), (13, (.ldc 0, 1, 0, 0, 1, [])), (14, (.istore 3, 1, 0, 0, 0, [])), (15, (.iload 3, 1, 0, 0, 0, [])), (16, (.aload 0, 1, 0, 0, 0, [])), (17, (.getfield 0, 3, 10, 7, 0, [(0, 1028)])), (20, (.if_icmp .gt 0, 3, 142, 0, 0, [])), (23, (.aload 0, 1, 0, 0, 0, [])), (24, (.getfield 1, 3, 10, 8, 0, [(0, 1029)])), (27, (.iload 3, 1, 0, 0, 0, [])), (28, (.ldc 0, 1, 0, 0, (-1), [])), (29, (.iastore, 1, 0, 0, 0, [])), (30, (.iload 3, 1, 0, 0, 0, [])), (31, (.iload 2, 1, 0, 0, 0, []))],
  [(32, (.isub, 1, 0, 0, 0, [])), (33, (.ldc 0, 1, 0, 0, 0, [])), (34, (.iload 3, 1, 0, 0, 0, [])), (35, (.invokestatic 1, 3, 137, 3, 1189, [])), (38, (.istore 4, 2, 0, 0, 0, [])), (40, (.iload 4, 2, 0, 0, 0, [])), (42, (.iload 3, 1, 0, 0, 0, [])), (43, (.if_icmp .ge 0, 3, 136, 0, 0, [])), (46, (.aload 0, 1, 0, 0, 0, [])), (47, (.getfield 1, 3, 10, 8, 0, [(0, 1029)])), (50, (.iload 4, 2, 0, 0, 0, [])), (52, (.iaload, 1, 0, 0, 0, [])), (53, (.ifCond .lt 0, 3, 98, 0, 0, [])), (56, (.aload 0, 1, 0, 0, 0, [])), (57, (.getfield 1, 3, 10, 8, 0, [(0, 1029)])), (60, (.iload 3, 1, 0, 0, 0, [])), (61, (.iaload, 1, 0, 0, 0, [])), (62, (.ifCond .lt 0, 3, 83, 0, 0, []))],
  [(65, (.aload 0, 1, 0, 0, 0, [])), (66, (.getfield 1, 3, 10, 8, 0, [(0, 1029)])), (69, (.iload 4, 2, 0, 0, 0, [])), (71, (.iaload, 1, 0, 0, 0, [])), (72, (.ldc 0, 1, 0, 0, 1, [])), (73, (.iadd, 1, 0, 0, 0, [])), (74, (.aload 0, 1, 0, 0, 0, [])), (75, (.getfield 1, 3, 10, 8, 0, [(0, 1029)])), (78, (.iload 3, 1, 0, 0, 0, [])), (79, (.iaload, 1, 0, 0, 0, [])), (80, (.if_icmp .ge 0, 3, 98, 0, 0, [])), (83, (.aload 0, 1, 0, 0, 0, [])), (84, (.iload 1, 1, 0, 0, 0, [])), (85, (.iload 4, 2, 0, 0, 0, [])), (87, (.iload 3, 1, 0, 0, 0, [])), (88, (.invokestatic 1, 3, 179, 4, 1330, [(0, 10)])), (91, (.ifCond .eq 0, 3, 98, 0, 0, [])), (94, (.ldc 0, 1, 0, 0, 1, [])), (95, (.goto 0, 3, 99, 0, 0, []))],
  [(98, (.ldc 0, 1, 0, 0, 0, [])), (99, (.istore 5, 2, 0, 0, 0, [])), (101, (.aload 0, 1, 0, 0, 0, [])), (102, (.getfield 1, 3, 10, 8, 0, [(0, 1029)])), (105, (.iload 3, 1, 0, 0, 0, [])), (106, (.iload 5, 2, 0, 0, 0, [])), (108, (.ifCond .eq 0, 3, 123, 0, 0, [])), (111, (.aload 0, 1, 0, 0, 0, [])), (112, (.getfield 1, 3, 10, 8, 0, [(0, 1029)])), (115, (.iload 4, 2, 0, 0, 0, [])), (117, (.iaload, 1, 0, 0, 0, [])), (118, (.ldc 0, 1, 0, 0, 1, [])), (119, (.iadd, 1, 0, 0, 0, [])), (120, (.goto 0, 3, 129, 0, 0, [])), (123, (.aload 0, 1, 0, 0, 0, [])), (124, (.getfield 1, 3, 10, 8, 0, [(0, 1029)])), (127, (.iload 3, 1, 0, 0, 0, []))],
  [(128, (.iaload, 1, 0, 0, 0, [])), (129, (.iastore, 1, 0, 0, 0, [])), (130, (.iinc 4 0, 3, 0, 0, 1, [])), (133, (.goto 0, 3, 40, 0, 0, [])), (136, (.iinc 3 0, 3, 0, 0, 1, [])), (139, (.goto 0, 3, 15, 0, 0, [])), (142, (.aload 0, 1, 0, 0, 0, [])), (143, (.getfield 1, 3, 10, 8, 0, [(0, 1029)])), (146, (.aload 0, 1, 0, 0, 0, [])), (147, (.getfield 0, 3, 10, 7, 0, [(0, 1028)])), (150, (.iaload, 1, 0, 0, 0, [])), (151, (.ireturn, 1, 0, 0, 0, []))]]
abbrev m_M_breathsOf : Nat := 180
/-- M_breaths -/
def pm_t181 : pm_T := [[(0, (.iload 1, 1, 0, 0, 0, [])), (1, (.invokestatic 1, 3, 215, 1, 1315, [])), (4, (.ifCond .eq 0, 3, 15, 0, 0, [])), (7, (.aload 0, 1, 0, 0, 0, [])), (8, (.iload 2, 1, 0, 0, 0, [])), (9, (.invokestatic 1, 3, 139, 2, 1162, [(0, 10)])), (12, (.ifCond .ne 0, 3, 18, 0, 0, [])), (15, (.ldc 0, 2, 1148, 0, (-1000000001), [])), (17, (.ireturn, 1, 0, 0, 0, [])), (18, (.aload 0, 1, 0, 0, 0, [])), (19, (.getfield 1, 3, 10, 28, 0, [(0, 1049)])), (22, (.iload 1, 1, 0, 0, 0, [])), (23, (.iaload, 1, 0, 0, 0, [])), (24, (.ifCond .ge 0, 3, 30, 0, 0, [])), (27, (.ldc 0, 2, 1318, 0, (-1000000011), [])), (29, (.ireturn, 1, 0, 0, 0, [])), (30, (.aload 0, 1, 0, 0, 0, [])), (31, (.iload 1, 1, 0, 0, 0, []))],
  [(32, (.invokestatic 0, 3, 178, 2, 1319, [(0, 10)])), (35, (.aload 0, 1, 0, 0, 0, [])), (36, (.getfield 0, 3, 10, 7, 0, [(0, 1028)])), (39, (.ifCond .ne 0, 3, 46, 0, 0, [])), (42, (.ldc 0, 1, 0, 0, 0, [])), (43, (.goto 0, 3, 51, 0, 0, [])), (46, (.aload 0, 1, 0, 0, 0, [])), (47, (.iload 2, 1, 0, 0, 0, [])), (48, (.invokestatic 1, 3, 180, 2, 1326, [(0, 10)])), (51, (.istore 3, 1, 0, 0, 0, [])), (52, (.aload 0, 1, 0, 0, 0, [])), (53, (.getfield 0, 3, 10, 7, 0, [(0, 1028)])), (56, (.ifCond .ne 0, 3, 64, 0, 0, [])), (59, (.ldc 0, 2, 1334, 0, (-1000000014), [])), (61, (.goto 0, 3, 74, 0, 0, []))],
  [(64, (.iload 3, 1, 0, 0, 0, [])), (65, (.ifCond .ge 0, 3, 73, 0, 0, [])), (68, (.ldc 0, 2, 1208, 0, (-1000000005), [])), (70, (.goto 0, 3, 74, 0, 0, [])), (73, (.iload 3, 1, 0, 0, 0, [])), (74, (.ireturn, 1, 0, 0, 0, []))]]
abbrev m_M_breaths : Nat := 181
/-- M_wanting -/
def pm_t182 : pm_T := [[(0, (.iload 1, 1, 0, 0, 0, [])), (1, (.invokestatic 1, 3, 215, 1, 1315, [])), (4, (.ifCond .ne 0, 3, 10, 0, 0, [])), (7, (.ldc 0, 2, 1148, 0, (-1000000001), [])), (9, (.ireturn, 1, 0, 0, 0, [])), (10, (.aload 0, 1, 0, 0, 0, [])), (11, (.getfield 1, 3, 10, 28, 0, [(0, 1049)])), (14, (.iload 1, 1, 0, 0, 0, [])), (15, (.iaload, 1, 0, 0, 0, [])), (16, (.ifCond .ge 0, 3, 22, 0, 0, [])), (19, (.ldc 0, 2, 1318, 0, (-1000000011), [])), (21, (.ireturn, 1, 0, 0, 0, [])), (22, (.aload 0, 1, 0, 0, 0, [])), (23, (.iload 1, 1, 0, 0, 0, [])), (24, (.invokestatic 0, 3, 178, 2, 1319, [(0, 10)])), (27, (.aload 0, 1, 0, 0, 0, [])), (28, (.invokestatic 1, 3, 175, 1, 1302, [(0, 10)])), (31, (.istore 2, 1, 0, 0, 0, []))],
  [(32, (.ldc 0, 1, 0, 0, 0, [])), (33, (.istore 3, 1, 0, 0, 0, [])), (34, (.iload 3, 1, 0, 0, 0, [])), (35, (.aload 0, 1, 0, 0, 0, [])), (36, (.getfield 0, 3, 10, 7, 0, [(0, 1028)])), (39, (.if_icmp .ge 0, 3, 68, 0, 0, [])), (42, (.iload 2, 1, 0, 0, 0, [])), (43, (.aload 0, 1, 0, 0, 0, [])), (44, (.getfield 1, 3, 10, 6, 0, [(0, 1027)])), (47, (.iload 3, 1, 0, 0, 0, [])), (48, (.iaload, 1, 0, 0, 0, [])), (49, (.ishr, 1, 0, 0, 0, [])), (50, (.ldc 0, 1, 0, 0, 1, [])), (51, (.iand, 1, 0, 0, 0, [])), (52, (.ifCond .ne 0, 3, 62, 0, 0, [])), (55, (.aload 0, 1, 0, 0, 0, [])), (56, (.getfield 1, 3, 10, 6, 0, [(0, 1027)])), (59, (.iload 3, 1, 0, 0, 0, [])), (60, (.iaload, 1, 0, 0, 0, [])), (61, (.ireturn, 1, 0, 0, 0, [])), (62, (.iinc 3 0, 3, 0, 0, 1, []))],
  [(65, (.goto 0, 3, 34, 0, 0, [])), (68, (.ldc 0, 2, 1208, 0, (-1000000005), [])), (70, (.ireturn, 1, 0, 0, 0, []))]]
abbrev m_M_wanting : Nat := 182
/-- M_who -/
def pm_t183 : pm_T := [[(0, (.iload 1, 1, 0, 0, 0, [])), (1, (.invokestatic 1, 3, 215, 1, 1315, [])), (4, (.ifCond .ne 0, 3, 10, 0, 0, [])), (7, (.ldc 0, 2, 1148, 0, (-1000000001), [])), (9, (.ireturn, 1, 0, 0, 0, [])), (10, (.aload 0, 1, 0, 0, 0, [])), (11, (.getfield 1, 3, 10, 28, 0, [(0, 1049)])), (14, (.iload 1, 1, 0, 0, 0, [])), (15, (.iaload, 1, 0, 0, 0, [])), (16, (.ifCond .ge 0, 3, 22, 0, 0, [])), (19, (.ldc 0, 2, 1318, 0, (-1000000011), [])), (21, (.ireturn, 1, 0, 0, 0, [])), (22, (.aload 0, 1, 0, 0, 0, [])), (23, (.iload 1, 1, 0, 0, 0, [])), (24, (.invokestatic 0, 3, 178, 2, 1319, [(0, 10)])), (27, (.ldc 0, 1, 0, 0, 0, [])), (28, (.istore 2, 1, 0, 0, 0, [])), (29, (.ldc 0, 1, 0, 0, 0, [])), (30, (.istore 3, 1, 0, 0, 0, [])), (31, (.iload 3, 1, 0, 0, 0, []))],
  [(32, (.aload 0, 1, 0, 0, 0, [])), (33, (.getfield 1, 3, 10, 0, 0, [(0, 1021)])), (36, (.ldc 0, 1, 0, 0, 1, [])), (37, (.iaload, 1, 0, 0, 0, [])), (38, (.if_icmp .ge 0, 3, 72, 0, 0, [])), (41, (.aload 0, 1, 0, 0, 0, [])), (42, (.getfield 0, 3, 10, 7, 0, [(0, 1028)])), (45, (.ifCond .le 0, 3, 72, 0, 0, [])), (48, (.iload 2, 1, 0, 0, 0, [])), (49, (.aload 0, 1, 0, 0, 0, [])), (50, (.iload 3, 1, 0, 0, 0, [])), (51, (.invokestatic 1, 3, 180, 2, 1326, [(0, 10)])), (54, (.ifCond .le 0, 3, 63, 0, 0, [])), (57, (.ldc 0, 1, 0, 0, 1, [])), (58, (.iload 3, 1, 0, 0, 0, [])), (59, (.ishl, 1, 0, 0, 0, [])), (60, (.goto 0, 3, 64, 0, 0, [])), (63, (.ldc 0, 1, 0, 0, 0, []))],
  [(64, (.ior, 1, 0, 0, 0, [])), (65, (.istore 2, 1, 0, 0, 0, [])), (66, (.iinc 3 0, 3, 0, 0, 1, [])), (69, (.goto 0, 3, 31, 0, 0, [])), (72, (.aload 0, 1, 0, 0, 0, [])), (73, (.getfield 0, 3, 10, 7, 0, [(0, 1028)])), (76, (.ifCond .ne 0, 3, 84, 0, 0, [])), (79, (.ldc 0, 2, 1334, 0, (-1000000014), [])), (81, (.goto 0, 3, 85, 0, 0, [])), (84, (.iload 2, 1, 0, 0, 0, [])), (85, (.ireturn, 1, 0, 0, 0, []))]]
abbrev m_M_who : Nat := 183
/-- M_thinks -/
def pm_t184 : pm_T := [[(0, (.ldc 0, 1, 0, 0, 0, [])), (1, (.istore 1, 1, 0, 0, 0, [])), (2, (.iload 1, 1, 0, 0, 0, [])), (3, (.ldc 0, 3, 0, 0, 239, [])), (6, (.if_icmp .ge 0, 3, 27, 0, 0, [])), (9, (.aload 0, 1, 0, 0, 0, [])), (10, (.getfield 1, 3, 10, 9, 0, [(0, 1030)])), (13, (.iload 1, 1, 0, 0, 0, [])), (14, (.aload 0, 1, 0, 0, 0, [])), (15, (.getfield 1, 3, 10, 0, 0, [(0, 1021)])), (18, (.iload 1, 1, 0, 0, 0, [])), (19, (.iaload, 1, 0, 0, 0, [])), (20, (.iastore, 1, 0, 0, 0, [])), (21, (.iinc 1 0, 3, 0, 0, 1, [])), (24, (.goto 0, 3, 2, 0, 0, [])), (27, (.return_, 1, 0, 0, 0, []))]]
abbrev m_M_thinks : Nat := 184
/-- M_putsBack -/
def pm_t185 : pm_T := [[(0, (.ldc 0, 1, 0, 0, 0, [])), (1, (.istore 1, 1, 0, 0, 0, [])), (2, (.iload 1, 1, 0, 0, 0, [])), (3, (.ldc 0, 3, 0, 0, 239, [])), (6, (.if_icmp .ge 0, 3, 27, 0, 0, [])), (9, (.aload 0, 1, 0, 0, 0, [])), (10, (.getfield 1, 3, 10, 0, 0, [(0, 1021)])), (13, (.iload 1, 1, 0, 0, 0, [])), (14, (.aload 0, 1, 0, 0, 0, [])), (15, (.getfield 1, 3, 10, 9, 0, [(0, 1030)])), (18, (.iload 1, 1, 0, 0, 0, [])), (19, (.iaload, 1, 0, 0, 0, [])), (20, (.iastore, 1, 0, 0, 0, [])), (21, (.iinc 1 0, 3, 0, 0, 1, [])), (24, (.goto 0, 3, 2, 0, 0, [])), (27, (.return_, 1, 0, 0, 0, []))]]
abbrev m_M_putsBack : Nat := 185
/-- M_teacher -/
def pm_t186 : pm_T := [[(0, (.iload 1, 1, 0, 0, 0, [])), (1, (.invokestatic 1, 3, 215, 1, 1315, [])), (4, (.ifCond .eq 0, 3, 24, 0, 0, [])), (7, (.aload 0, 1, 0, 0, 0, [])), (8, (.iload 2, 1, 0, 0, 0, [])), (9, (.invokestatic 1, 3, 139, 2, 1162, [(0, 10)])), (12, (.ifCond .eq 0, 3, 24, 0, 0, [])), (15, (.iload 3, 1, 0, 0, 0, [])), (16, (.ldc 0, 1, 0, 0, 0, [])), (17, (.ldc 0, 1, 0, 0, 1, [])), (18, (.invokestatic 1, 3, 136, 3, 1142, [])), (21, (.ifCond .ne 0, 3, 27, 0, 0, [])), (24, (.ldc 0, 2, 1148, 0, (-1000000001), [])), (26, (.ireturn, 1, 0, 0, 0, [])), (27, (.aload 0, 1, 0, 0, 0, [])), (28, (.getfield 1, 3, 10, 28, 0, [(0, 1049)])), (31, (.iload 1, 1, 0, 0, 0, []))],
  [(32, (.iaload, 1, 0, 0, 0, [])), (33, (.ifCond .ge 0, 3, 39, 0, 0, [])), (36, (.ldc 0, 2, 1318, 0, (-1000000011), [])), (38, (.ireturn, 1, 0, 0, 0, [])), (39, (.aload 0, 1, 0, 0, 0, [])), (40, (.iload 1, 1, 0, 0, 0, [])), (41, (.invokestatic 0, 3, 178, 2, 1319, [(0, 10)])), (44, (.aload 0, 1, 0, 0, 0, [])), (45, (.getfield 0, 3, 10, 7, 0, [(0, 1028)])), (48, (.ifCond .ne 0, 3, 54, 0, 0, [])), (51, (.ldc 0, 2, 1334, 0, (-1000000014), [])), (53, (.ireturn, 1, 0, 0, 0, [])), (54, (.aload 0, 1, 0, 0, 0, [])), (55, (.invokestatic 0, 3, 184, 1, 1347, [(0, 10)])), (58, (.ldc 0, 1, 0, 0, (-1), [])), (59, (.istore 4, 2, 0, 0, 0, [])), (61, (.ldc 0, 1, 0, 0, 0, [])), (62, (.istore 5, 2, 0, 0, 0, []))],
  [(64, (.ldc 0, 1, 0, 0, 0, [])), (65, (.istore 6, 2, 0, 0, 0, [])), (67, (.iload 6, 2, 0, 0, 0, [])), (69, (.aload 0, 1, 0, 0, 0, [])), (70, (.getfield 1, 3, 10, 0, 0, [(0, 1021)])), (73, (.ldc 0, 1, 0, 0, 1, [])), (74, (.iaload, 1, 0, 0, 0, [])), (75, (.if_icmp .ge 0, 3, 150, 0, 0, [])), (78, (.aload 0, 1, 0, 0, 0, [])), (79, (.iload 6, 2, 0, 0, 0, [])), (81, (.ldc 0, 1, 0, 0, 0, [])), (82, (.iload 6, 2, 0, 0, 0, [])), (84, (.iload 2, 1, 0, 0, 0, [])), (85, (.if_icmp .ne 0, 3, 92, 0, 0, [])), (88, (.ldc 0, 1, 0, 0, 0, [])), (89, (.goto 0, 3, 94, 0, 0, [])), (92, (.ldc 0, 2, 0, 0, 12, [])), (94, (.invokestatic 0, 3, 162, 4, 1253, [(0, 10)]))],
  [(97, (.aload 0, 1, 0, 0, 0, [])), (98, (.iload 2, 1, 0, 0, 0, [])), (99, (.invokestatic 0, 3, 159, 2, 1237, [(0, 10)])), (102, (.aload 0, 1, 0, 0, 0, [])), (103, (.iload 2, 1, 0, 0, 0, [])), (104, (.invokestatic 1, 3, 180, 2, 1326, [(0, 10)])), (107, (.istore 7, 2, 0, 0, 0, [])), (109, (.aload 0, 1, 0, 0, 0, [])), (110, (.invokestatic 0, 3, 185, 1, 1351, [(0, 10)])), (113, (.iload 6, 2, 0, 0, 0, [])), (115, (.iload 2, 1, 0, 0, 0, [])), (116, (.if_icmp .eq 0, 3, 144, 0, 0, [])), (119, (.iload 7, 2, 0, 0, 0, [])), (121, (.ifCond .le 0, 3, 144, 0, 0, [])), (124, (.iload 4, 2, 0, 0, 0, [])), (126, (.ifCond .lt 0, 3, 136, 0, 0, []))],
  [(129, (.iload 7, 2, 0, 0, 0, [])), (131, (.iload 5, 2, 0, 0, 0, [])), (133, (.if_icmp .ge 0, 3, 144, 0, 0, [])), (136, (.iload 6, 2, 0, 0, 0, [])), (138, (.istore 4, 2, 0, 0, 0, [])), (140, (.iload 7, 2, 0, 0, 0, [])), (142, (.istore 5, 2, 0, 0, 0, [])), (144, (.iinc 6 0, 3, 0, 0, 1, [])), (147, (.goto 0, 3, 67, 0, 0, [])), (150, (.iload 4, 2, 0, 0, 0, [])), (152, (.ifCond .ge 0, 3, 160, 0, 0, [])), (155, (.ldc 0, 2, 1208, 0, (-1000000005), [])), (157, (.goto 0, 3, 171, 0, 0, []))],
  [(160, (.iload 3, 1, 0, 0, 0, [])), (161, (.ifCond .ne 0, 3, 169, 0, 0, [])), (164, (.iload 4, 2, 0, 0, 0, [])), (166, (.goto 0, 3, 171, 0, 0, [])), (169, (.iload 5, 2, 0, 0, 0, [])), (171, (.ireturn, 1, 0, 0, 0, []))]]
abbrev m_M_teacher : Nat := 186
/-- M_behind -/
def pm_t187 : pm_T := [[(0, (.iload 1, 1, 0, 0, 0, [])), (1, (.ldc 0, 1, 0, 0, 0, [])), (2, (.ldc 0, 2, 0, 0, 100, [])), (4, (.invokestatic 1, 3, 136, 3, 1142, [])), (7, (.ifCond .eq 0, 3, 29, 0, 0, [])), (10, (.iload 2, 1, 0, 0, 0, [])), (11, (.ifCond .lt 0, 3, 29, 0, 0, [])), (14, (.iload 2, 1, 0, 0, 0, [])), (15, (.ldc 0, 1, 0, 0, 2, [])), (16, (.if_icmp .le 0, 3, 32, 0, 0, [])), (19, (.aload 0, 1, 0, 0, 0, [])), (20, (.iload 2, 1, 0, 0, 0, [])), (21, (.ldc 0, 1, 0, 0, 3, [])), (22, (.isub, 1, 0, 0, 0, [])), (23, (.invokestatic 1, 3, 139, 2, 1162, [(0, 10)])), (26, (.ifCond .ne 0, 3, 32, 0, 0, [])), (29, (.ldc 0, 2, 1148, 0, (-1000000001), [])), (31, (.ireturn, 1, 0, 0, 0, []))],
  [(32, (.aload 0, 1, 0, 0, 0, [])), (33, (.invokestatic 0, 3, 184, 1, 1347, [(0, 10)])), (36, (.aload 0, 1, 0, 0, 0, [])), (37, (.iload 1, 1, 0, 0, 0, [])), (38, (.invokestatic 0, 3, 172, 2, 1282, [(0, 10)])), (41, (.iload 2, 1, 0, 0, 0, [])), (42, (.ifCond .ne 0, 3, 54, 0, 0, [])), (45, (.aload 0, 1, 0, 0, 0, [])), (46, (.getfield 1, 3, 10, 0, 0, [(0, 1021)])), (49, (.ldc 0, 1, 0, 0, 4, [])), (50, (.iaload, 1, 0, 0, 0, [])), (51, (.goto 0, 3, 87, 0, 0, [])), (54, (.iload 2, 1, 0, 0, 0, [])), (55, (.ldc 0, 1, 0, 0, 1, [])), (56, (.if_icmp .ne 0, 3, 68, 0, 0, [])), (59, (.aload 0, 1, 0, 0, 0, [])), (60, (.getfield 1, 3, 10, 0, 0, [(0, 1021)])), (63, (.ldc 0, 1, 0, 0, 5, []))],
  [(64, (.iaload, 1, 0, 0, 0, [])), (65, (.goto 0, 3, 87, 0, 0, [])), (68, (.iload 2, 1, 0, 0, 0, [])), (69, (.ldc 0, 1, 0, 0, 2, [])), (70, (.if_icmp .ne 0, 3, 80, 0, 0, [])), (73, (.aload 0, 1, 0, 0, 0, [])), (74, (.invokestatic 1, 3, 174, 1, 1298, [(0, 10)])), (77, (.goto 0, 3, 87, 0, 0, [])), (80, (.aload 0, 1, 0, 0, 0, [])), (81, (.iload 2, 1, 0, 0, 0, [])), (82, (.ldc 0, 1, 0, 0, 3, [])), (83, (.isub, 1, 0, 0, 0, [])), (84, (.invokestatic 1, 3, 151, 2, 1170, [(0, 10)])), (87, (.istore 3, 1, 0, 0, 0, [])), (88, (.aload 0, 1, 0, 0, 0, [])), (89, (.invokestatic 0, 3, 185, 1, 1351, [(0, 10)])), (92, (.iload 3, 1, 0, 0, 0, [])), (93, (.ireturn, 1, 0, 0, 0, []))]]
abbrev m_M_behind : Nat := 187
/-- M_hasCome -/
def pm_t188 : pm_T := [[(0, (.ldc 0, 1, 0, 0, 1, [])), (1, (.istore 2, 1, 0, 0, 0, [])), (2, (.ldc 0, 1, 0, 0, 0, [])), (3, (.istore 3, 1, 0, 0, 0, [])), (4, (.iload 3, 1, 0, 0, 0, [])), (5, (.aload 0, 1, 0, 0, 0, [])), (6, (.getfield 1, 3, 10, 0, 0, [(0, 1021)])), (9, (.ldc 0, 1, 0, 0, 1, [])), (10, (.iaload, 1, 0, 0, 0, [])), (11, (.if_icmp .ge 0, 3, 53, 0, 0, [])), (14, (.iload 2, 1, 0, 0, 0, [])), (15, (.ifCond .eq 0, 3, 45, 0, 0, [])), (18, (.aload 0, 1, 0, 0, 0, [])), (19, (.iload 3, 1, 0, 0, 0, [])), (20, (.ldc 0, 1, 0, 0, 0, [])), (21, (.invokestatic 1, 3, 141, 3, 1166, [(0, 10)])), (24, (.ldc 0, 1, 0, 0, 5, [])), (25, (.if_icmp .eq 0, 3, 41, 0, 0, [])), (28, (.aload 0, 1, 0, 0, 0, [])), (29, (.iload 3, 1, 0, 0, 0, [])), (30, (.invokestatic 1, 3, 151, 2, 1170, [(0, 10)]))],
  [(33, (.iload 1, 1, 0, 0, 0, [])), (34, (.ishr, 1, 0, 0, 0, [])), (35, (.ldc 0, 1, 0, 0, 1, [])), (36, (.iand, 1, 0, 0, 0, [])), (37, (.ldc 0, 1, 0, 0, 1, [])), (38, (.if_icmp .ne 0, 3, 45, 0, 0, [])), (41, (.ldc 0, 1, 0, 0, 1, [])), (42, (.goto 0, 3, 46, 0, 0, [])), (45, (.ldc 0, 1, 0, 0, 0, [])), (46, (.istore 2, 1, 0, 0, 0, [])), (47, (.iinc 3 0, 3, 0, 0, 1, [])), (50, (.goto 0, 3, 4, 0, 0, [])), (53, (.iload 2, 1, 0, 0, 0, [])), (54, (.ireturn, 1, 3, 0, 0, []))]]
abbrev m_M_hasCome : Nat := 188
/-- M_spreads -/
def pm_t189 : pm_T := [[(0, (.iload 1, 1, 0, 0, 0, [])), (1, (.invokestatic 1, 3, 140, 1, 1323, [])), (4, (.ifCond .ne 0, 3, 10, 0, 0, [])), (7, (.ldc 0, 2, 1148, 0, (-1000000001), [])), (9, (.ireturn, 1, 0, 0, 0, [])), (10, (.aload 0, 1, 0, 0, 0, [])), (11, (.invokestatic 0, 3, 184, 1, 1347, [(0, 10)])), (14, (.ldc 0, 1, 0, 0, 0, [])), (15, (.istore 2, 1, 0, 0, 0, [])), (16, (.iload 2, 1, 0, 0, 0, [])), (17, (.ldc 0, 3, 0, 0, 200, [])), (20, (.if_icmp .gt 0, 3, 41, 0, 0, [])), (23, (.aload 0, 1, 0, 0, 0, [])), (24, (.iload 1, 1, 0, 0, 0, [])), (25, (.invokestatic 1, 3, 188, 2, 1363, [(0, 10)])), (28, (.ifCond .ne 0, 3, 41, 0, 0, [])), (31, (.aload 0, 1, 0, 0, 0, []))],
  [(32, (.invokestatic 0, 3, 171, 1, 1286, [(0, 10)])), (35, (.iinc 2 0, 3, 0, 0, 1, [])), (38, (.goto 0, 3, 16, 0, 0, [])), (41, (.aload 0, 1, 0, 0, 0, [])), (42, (.invokestatic 0, 3, 185, 1, 1351, [(0, 10)])), (45, (.iload 2, 1, 0, 0, 0, [])), (46, (.ldc 0, 3, 0, 0, 200, [])), (49, (.if_icmp .le 0, 3, 57, 0, 0, [])), (52, (.ldc 0, 2, 1208, 0, (-1000000005), [])), (54, (.goto 0, 3, 58, 0, 0, [])), (57, (.iload 2, 1, 0, 0, 0, [])), (58, (.ireturn, 1, 0, 0, 0, []))]]
abbrev m_M_spreads : Nat := 189
/-- M_learns -/
def pm_t190 : pm_T := [[(0, (.aload 0, 1, 0, 0, 0, [])), (1, (.iload 1, 1, 0, 0, 0, [])), (2, (.invokestatic 1, 3, 139, 2, 1162, [(0, 10)])), (5, (.ifCond .eq 0, 3, 18, 0, 0, [])), (8, (.iload 2, 1, 0, 0, 0, [])), (9, (.ldc 0, 1, 0, 0, 1, [])), (10, (.ldc 0, 2, 0, 0, 100, [])), (12, (.invokestatic 1, 3, 136, 3, 1142, [])), (15, (.ifCond .ne 0, 3, 21, 0, 0, [])), (18, (.ldc 0, 2, 1148, 0, (-1000000001), [])), (20, (.ireturn, 1, 0, 0, 0, [])), (21, (.aload 0, 1, 0, 0, 0, [])), (22, (.invokestatic 0, 3, 184, 1, 1347, [(0, 10)])), (25, (.aload 0, 1, 0, 0, 0, [])), (26, (.iload 1, 1, 0, 0, 0, [])), (27, (.invokestatic 1, 3, 151, 2, 1170, [(0, 10)])), (30, (.istore 3, 1, 0, 0, 0, [])), (31, (.aload 0, 1, 0, 0, 0, []))],
  [(32, (.iload 2, 1, 0, 0, 0, [])), (33, (.invokestatic 0, 3, 172, 2, 1282, [(0, 10)])), (36, (.aload 0, 1, 0, 0, 0, [])), (37, (.iload 1, 1, 0, 0, 0, [])), (38, (.invokestatic 1, 3, 151, 2, 1170, [(0, 10)])), (41, (.istore 4, 2, 0, 0, 0, [])), (43, (.aload 0, 1, 0, 0, 0, [])), (44, (.invokestatic 0, 3, 185, 1, 1351, [(0, 10)])), (47, (.ldc 0, 1, 0, 0, 0, [])), (48, (.istore 5, 2, 0, 0, 0, [])), (50, (.iload 5, 2, 0, 0, 0, [])), (52, (.ldc 0, 2, 0, 0, 20, [])), (54, (.if_icmp .ge 0, 3, 86, 0, 0, [])), (57, (.iload 4, 2, 0, 0, 0, [])), (59, (.iload 5, 2, 0, 0, 0, [])), (61, (.ishr, 1, 0, 0, 0, [])), (62, (.ldc 0, 1, 0, 0, 1, [])), (63, (.iand, 1, 0, 0, 0, []))],
  [(64, (.ldc 0, 1, 0, 0, 1, [])), (65, (.if_icmp .ne 0, 3, 80, 0, 0, [])), (68, (.iload 3, 1, 0, 0, 0, [])), (69, (.iload 5, 2, 0, 0, 0, [])), (71, (.ishr, 1, 0, 0, 0, [])), (72, (.ldc 0, 1, 0, 0, 1, [])), (73, (.iand, 1, 0, 0, 0, [])), (74, (.ifCond .ne 0, 3, 80, 0, 0, [])), (77, (.iload 5, 2, 0, 0, 0, [])), (79, (.ireturn, 1, 0, 0, 0, [])), (80, (.iinc 5 0, 3, 0, 0, 1, [])), (83, (.goto 0, 3, 50, 0, 0, [])), (86, (.ldc 0, 2, 1208, 0, (-1000000005), [])), (88, (.ireturn, 1, 0, 0, 0, []))]]
abbrev m_M_learns : Nat := 190
/-- M_quiet -/
def pm_t191 : pm_T := [[(0, (.iload 1, 1, 0, 0, 0, [])), (1, (.ldc 0, 1, 0, 0, 1, [])), (2, (.ldc 0, 2, 0, 0, 100, [])), (4, (.invokestatic 1, 3, 136, 3, 1142, [])), (7, (.ifCond .eq 0, 3, 19, 0, 0, [])), (10, (.iload 2, 1, 0, 0, 0, [])), (11, (.ldc 0, 1, 0, 0, 0, [])), (12, (.ldc 0, 1, 0, 0, 1, [])), (13, (.invokestatic 1, 3, 136, 3, 1142, [])), (16, (.ifCond .ne 0, 3, 22, 0, 0, [])), (19, (.ldc 0, 2, 1148, 0, (-1000000001), [])), (21, (.ireturn, 1, 0, 0, 0, [])), (22, (.aload 0, 1, 0, 0, 0, [])), (23, (.invokestatic 0, 3, 184, 1, 1347, [(0, 10)])), (26, (.ldc 0, 1, 0, 0, (-1), [])), (27, (.istore 3, 1, 0, 0, 0, [])), (28, (.ldc 0, 1, 0, 0, 0, [])), (29, (.istore 4, 2, 0, 0, 0, [])), (31, (.ldc 0, 1, 0, 0, 0, []))],
  [(32, (.istore 5, 2, 0, 0, 0, [])), (34, (.iload 5, 2, 0, 0, 0, [])), (36, (.aload 0, 1, 0, 0, 0, [])), (37, (.getfield 1, 3, 10, 0, 0, [(0, 1021)])), (40, (.ldc 0, 1, 0, 0, 1, [])), (41, (.iaload, 1, 0, 0, 0, [])), (42, (.if_icmp .ge 0, 3, 94, 0, 0, [])), (45, (.aload 0, 1, 0, 0, 0, [])), (46, (.iload 5, 2, 0, 0, 0, [])), (48, (.ldc 0, 1, 0, 0, 4, [])), (49, (.ldc 0, 1, 0, 0, 0, [])), (50, (.invokestatic 0, 3, 142, 4, 1154, [(0, 10)])), (53, (.aload 0, 1, 0, 0, 0, [])), (54, (.iload 1, 1, 0, 0, 0, [])), (55, (.invokestatic 0, 3, 172, 2, 1282, [(0, 10)])), (58, (.aload 0, 1, 0, 0, 0, [])), (59, (.getfield 1, 3, 10, 0, 0, [(0, 1021)])), (62, (.ldc 0, 1, 0, 0, 4, [])), (63, (.iaload, 1, 0, 0, 0, []))],
  [(64, (.istore 6, 2, 0, 0, 0, [])), (66, (.aload 0, 1, 0, 0, 0, [])), (67, (.invokestatic 0, 3, 185, 1, 1351, [(0, 10)])), (70, (.iload 3, 1, 0, 0, 0, [])), (71, (.ifCond .lt 0, 3, 81, 0, 0, [])), (74, (.iload 6, 2, 0, 0, 0, [])), (76, (.iload 4, 2, 0, 0, 0, [])), (78, (.if_icmp .ge 0, 3, 88, 0, 0, [])), (81, (.iload 5, 2, 0, 0, 0, [])), (83, (.istore 3, 1, 0, 0, 0, [])), (84, (.iload 6, 2, 0, 0, 0, [])), (86, (.istore 4, 2, 0, 0, 0, [])), (88, (.iinc 5 0, 3, 0, 0, 1, [])), (91, (.goto 0, 3, 34, 0, 0, [])), (94, (.iload 3, 1, 0, 0, 0, [])), (95, (.ifCond .ge 0, 3, 103, 0, 0, []))],
  [(98, (.ldc 0, 2, 1208, 0, (-1000000005), [])), (100, (.goto 0, 3, 113, 0, 0, [])), (103, (.iload 2, 1, 0, 0, 0, [])), (104, (.ifCond .ne 0, 3, 111, 0, 0, [])), (107, (.iload 3, 1, 0, 0, 0, [])), (108, (.goto 0, 3, 113, 0, 0, [])), (111, (.iload 4, 2, 0, 0, 0, [])), (113, (.ireturn, 1, 0, 0, 0, []))]]
abbrev m_M_quiet : Nat := 191
/-- M_manyOf -/
def pm_t192 : pm_T := [[(0, (.ldc 0, 1, 0, 0, 0, [])), (1, (.istore 1, 1, 0, 0, 0, [])), (2, (.iload 0, 1, 0, 0, 0, [])), (3, (.istore 2, 1, 0, 0, 0, [])), (4, (.iload 2, 1, 0, 0, 0, [])), (5, (.ifCond .eq 0, 3, 20, 0, 0, [])), (8, (.iinc 1 0, 3, 0, 0, 1, [])), (11, (.iload 2, 1, 0, 0, 0, [])), (12, (.iload 2, 1, 0, 0, 0, [])), (13, (.ldc 0, 1, 0, 0, 1, [])), (14, (.isub, 1, 0, 0, 0, [])), (15, (.iand, 1, 0, 0, 0, [])), (16, (.istore 2, 1, 0, 0, 0, [])), (17, (.goto 0, 3, 4, 0, 0, [])), (20, (.iload 1, 1, 0, 0, 0, [])), (21, (.ireturn, 1, 0, 0, 0, []))]]
abbrev m_M_manyOf : Nat := 192
/-- M_ears -/
def pm_t193 : pm_T := [[(0, (.aload 0, 1, 0, 0, 0, [])), (1, (.iload 1, 1, 0, 0, 0, [])), (2, (.invokestatic 1, 3, 139, 2, 1162, [(0, 10)])), (5, (.ifCond .eq 0, 3, 27, 0, 0, [])), (8, (.iload 2, 1, 0, 0, 0, [])), (9, (.ldc 0, 1, 0, 0, 1, [])), (10, (.ldc 0, 2, 0, 0, 60, [])), (12, (.invokestatic 1, 3, 136, 3, 1142, [])), (15, (.ifCond .eq 0, 3, 27, 0, 0, [])), (18, (.iload 3, 1, 0, 0, 0, [])), (19, (.ldc 0, 1, 0, 0, 0, [])), (20, (.ldc 0, 1, 0, 0, 1, [])), (21, (.invokestatic 1, 3, 136, 3, 1142, [])), (24, (.ifCond .ne 0, 3, 30, 0, 0, [])), (27, (.ldc 0, 2, 1148, 0, (-1000000001), [])), (29, (.ireturn, 1, 0, 0, 0, [])), (30, (.aload 0, 1, 0, 0, 0, [])), (31, (.invokestatic 0, 3, 184, 1, 1347, [(0, 10)]))],
  [(34, (.ldc 0, 1, 0, 0, 0, [])), (35, (.istore 4, 2, 0, 0, 0, [])), (37, (.ldc 0, 1, 0, 0, (-1), [])), (38, (.istore 5, 2, 0, 0, 0, [])), (40, (.ldc 0, 1, 0, 0, 1, [])), (41, (.istore 6, 2, 0, 0, 0, [])), (43, (.iload 6, 2, 0, 0, 0, [])), (45, (.ldc 0, 2, 0, 0, 10, [])), (47, (.if_icmp .ge 0, 3, 115, 0, 0, [])), (50, (.aload 0, 1, 0, 0, 0, [])), (51, (.iload 1, 1, 0, 0, 0, [])), (52, (.ldc 0, 1, 0, 0, 1, [])), (53, (.iload 6, 2, 0, 0, 0, [])), (55, (.invokestatic 0, 3, 142, 4, 1154, [(0, 10)])), (58, (.aload 0, 1, 0, 0, 0, [])), (59, (.iload 2, 1, 0, 0, 0, [])), (60, (.invokestatic 0, 3, 172, 2, 1282, [(0, 10)])), (63, (.aload 0, 1, 0, 0, 0, []))],
  [(64, (.iload 1, 1, 0, 0, 0, [])), (65, (.invokestatic 1, 3, 151, 2, 1170, [(0, 10)])), (68, (.invokestatic 1, 3, 192, 1, 1379, [])), (71, (.istore 7, 2, 0, 0, 0, [])), (73, (.aload 0, 1, 0, 0, 0, [])), (74, (.invokestatic 0, 3, 185, 1, 1351, [(0, 10)])), (77, (.iload 7, 2, 0, 0, 0, [])), (79, (.iload 5, 2, 0, 0, 0, [])), (81, (.if_icmp .le 0, 3, 89, 0, 0, [])), (84, (.iload 6, 2, 0, 0, 0, [])), (86, (.goto 0, 3, 91, 0, 0, [])), (89, (.iload 4, 2, 0, 0, 0, [])), (91, (.istore 4, 2, 0, 0, 0, [])), (93, (.iload 7, 2, 0, 0, 0, [])), (95, (.iload 5, 2, 0, 0, 0, []))],
  [(97, (.if_icmp .le 0, 3, 105, 0, 0, [])), (100, (.iload 7, 2, 0, 0, 0, [])), (102, (.goto 0, 3, 107, 0, 0, [])), (105, (.iload 5, 2, 0, 0, 0, [])), (107, (.istore 5, 2, 0, 0, 0, [])), (109, (.iinc 6 0, 3, 0, 0, 1, [])), (112, (.goto 0, 3, 43, 0, 0, [])), (115, (.iload 3, 1, 0, 0, 0, [])), (116, (.ifCond .ne 0, 3, 124, 0, 0, [])), (119, (.iload 4, 2, 0, 0, 0, [])), (121, (.goto 0, 3, 126, 0, 0, [])), (124, (.iload 5, 2, 0, 0, 0, [])), (126, (.ireturn, 1, 0, 0, 0, []))]]
abbrev m_M_ears : Nat := 193
/-- M_fee -/
def pm_t194 : pm_T := [[(0, (.aload 0, 1, 0, 0, 0, [])), (1, (.ldc 0, 1, 0, 0, 1, [])), (2, (.invokestatic 1, 3, 211, 2, 1178, [(0, 10)])), (5, (.istore 1, 1, 0, 0, 0, [])), (6, (.aload 0, 1, 0, 0, 0, [])), (7, (.getfield 1, 3, 10, 27, 0, [(0, 1048)])), (10, (.ldc 0, 1, 0, 0, 0, [])), (11, (.aload 0, 1, 0, 0, 0, [])), (12, (.getfield 1, 3, 10, 0, 0, [(0, 1021)])), (15, (.ldc 0, 1, 0, 0, 4, [])), (16, (.iaload, 1, 0, 0, 0, [])), (17, (.iastore, 1, 0, 0, 0, [])), (18, (.aload 0, 1, 0, 0, 0, [])), (19, (.getfield 1, 3, 10, 27, 0, [(0, 1048)])), (22, (.ldc 0, 1, 0, 0, 1, [])), (23, (.aload 0, 1, 0, 0, 0, [])), (24, (.getfield 1, 3, 10, 0, 0, [(0, 1021)])), (27, (.ldc 0, 1, 0, 0, 5, [])), (28, (.iaload, 1, 0, 0, 0, [])), (29, (.iastore, 1, 0, 0, 0, [])), (30, (.iload 1, 1, 0, 0, 0, [])), (31, (.ifCond .ge 0, 3, 43, 0, 0, []))],
  [(34, (.aload 0, 1, 0, 0, 0, [])), (35, (.getfield 1, 3, 10, 0, 0, [(0, 1021)])), (38, (.ldc 0, 1, 0, 0, 4, [])), (39, (.iaload, 1, 0, 0, 0, [])), (40, (.goto 0, 3, 48, 0, 0, [])), (43, (.aload 0, 1, 0, 0, 0, [])), (44, (.iload 1, 1, 0, 0, 0, [])), (45, (.invokestatic 1, 3, 214, 2, 1182, [(0, 10)])), (48, (.ireturn, 1, 0, 0, 0, []))]]
abbrev m_M_fee : Nat := 194
/-- M_fine -/
def pm_t195 : pm_T := [[(0, (.aload 0, 1, 0, 0, 0, [])), (1, (.iload 1, 1, 0, 0, 0, [])), (2, (.invokestatic 1, 3, 139, 2, 1162, [(0, 10)])), (5, (.ifCond .ne 0, 3, 11, 0, 0, [])), (8, (.ldc 0, 2, 1148, 0, (-1000000001), [])), (10, (.ireturn, 1, 0, 0, 0, [])), (11, (.aload 0, 1, 0, 0, 0, [])), (12, (.ldc 0, 1, 0, 0, 2, [])), (13, (.invokestatic 1, 3, 211, 2, 1178, [(0, 10)])), (16, (.istore 2, 1, 0, 0, 0, [])), (17, (.aload 0, 1, 0, 0, 0, [])), (18, (.getfield 1, 3, 10, 27, 0, [(0, 1048)])), (21, (.ldc 0, 1, 0, 0, 0, [])), (22, (.aload 0, 1, 0, 0, 0, [])), (23, (.iload 1, 1, 0, 0, 0, [])), (24, (.ldc 0, 1, 0, 0, 3, [])), (25, (.invokestatic 1, 3, 141, 3, 1166, [(0, 10)])), (28, (.iastore, 1, 0, 0, 0, [])), (29, (.aload 0, 1, 0, 0, 0, [])), (30, (.getfield 1, 3, 10, 27, 0, [(0, 1048)]))],
  [(33, (.ldc 0, 1, 0, 0, 1, [])), (34, (.aload 0, 1, 0, 0, 0, [])), (35, (.iload 1, 1, 0, 0, 0, [])), (36, (.ldc 0, 1, 0, 0, 2, [])), (37, (.invokestatic 1, 3, 141, 3, 1166, [(0, 10)])), (40, (.iastore, 1, 0, 0, 0, [])), (41, (.iload 2, 1, 0, 0, 0, [])), (42, (.ifCond .ge 0, 3, 54, 0, 0, [])), (45, (.aload 0, 1, 0, 0, 0, [])), (46, (.iload 1, 1, 0, 0, 0, [])), (47, (.ldc 0, 1, 0, 0, 3, [])), (48, (.invokestatic 1, 3, 141, 3, 1166, [(0, 10)])), (51, (.goto 0, 3, 59, 0, 0, [])), (54, (.aload 0, 1, 0, 0, 0, [])), (55, (.iload 2, 1, 0, 0, 0, [])), (56, (.invokestatic 1, 3, 214, 2, 1182, [(0, 10)])), (59, (.ireturn, 1, 0, 0, 0, []))]]
abbrev m_M_fine : Nat := 195
/-- M_feed -/
def pm_t196 : pm_T := [[(0, (.aload 0, 1, 0, 0, 0, [])), (1, (.getfield 0, 3, 10, 11, 0, [(0, 1032)])), (4, (.ldc 0, 2, 0, 0, 12, [])), (6, (.iadd, 1, 0, 0, 0, [])), (7, (.ldc 0, 2, 0, 0, 96, [])), (9, (.if_icmp .le 0, 3, 15, 0, 0, [])), (12, (.ldc 0, 2, 1149, 0, (-1000000003), [])), (14, (.ireturn, 1, 0, 0, 0, [])), (15, (.ldc 0, 1, 0, 0, 0, [])), (16, (.istore 4, 2, 0, 0, 0, [])), (18, (.iload 4, 2, 0, 0, 0, [])), (20, (.ldc 0, 2, 0, 0, 12, [])), (22, (.if_icmp .ge 0, 3, 84, 0, 0, [])), (25, (.iload 4, 2, 0, 0, 0, [])), (27, (.ldc 0, 1, 0, 0, 4, [])), (28, (.if_icmp .ge 0, 3, 35, 0, 0, [])), (31, (.iload 1, 1, 0, 0, 0, []))],
  [(32, (.goto 0, 3, 47, 0, 0, [])), (35, (.iload 4, 2, 0, 0, 0, [])), (37, (.ldc 0, 2, 0, 0, 8, [])), (39, (.if_icmp .ge 0, 3, 46, 0, 0, [])), (42, (.iload 2, 1, 0, 0, 0, [])), (43, (.goto 0, 3, 47, 0, 0, [])), (46, (.iload 3, 1, 0, 0, 0, [])), (47, (.istore 5, 2, 0, 0, 0, [])), (49, (.aload 0, 1, 0, 0, 0, [])), (50, (.getfield 1, 3, 10, 10, 0, [(0, 1031)])), (53, (.aload 0, 1, 0, 0, 0, [])), (54, (.getfield 0, 3, 10, 11, 0, [(0, 1032)])), (57, (.iload 4, 2, 0, 0, 0, [])), (59, (.iadd, 1, 0, 0, 0, [])), (60, (.iload 5, 2, 0, 0, 0, [])), (62, (.ldc 0, 2, 0, 0, 24, []))],
  [(64, (.ldc 0, 2, 0, 0, 8, [])), (66, (.iload 4, 2, 0, 0, 0, [])), (68, (.ldc 0, 1, 0, 0, 4, [])), (69, (.irem, 1, 0, 0, 0, [])), (70, (.imul, 1, 0, 0, 0, [])), (71, (.isub, 1, 0, 0, 0, [])), (72, (.ishr, 1, 0, 0, 0, [])), (73, (.ldc 0, 3, 0, 0, 255, [])), (76, (.iand, 1, 0, 0, 0, [])), (77, (.iastore, 1, 0, 0, 0, [])), (78, (.iinc 4 0, 3, 0, 0, 1, [])), (81, (.goto 0, 3, 18, 0, 0, [])), (84, (.aload 0, 1, 0, 0, 0, [])), (85, (.dup, 1, 0, 0, 0, [])), (86, (.getfield 0, 3, 10, 11, 0, [(0, 1032)])), (89, (.ldc 0, 2, 0, 0, 12, [])), (91, (.iadd, 1, 0, 0, 0, [])), (92, (.putfield 0, 3, 10, 11, 0, [(0, 1032)])), (95, (.aload 0, 1, 0, 0, 0, []))],
  [(96, (.getfield 0, 3, 10, 11, 0, [(0, 1032)])), (99, (.ireturn, 1, 0, 0, 0, []))]]
abbrev m_M_feed : Nat := 196
/-- M_trim -/
def pm_t197 : pm_T := [[(0, (.iload 1, 1, 0, 0, 0, [])), (1, (.ldc 0, 1, 0, 0, 0, [])), (2, (.aload 0, 1, 0, 0, 0, [])), (3, (.getfield 0, 3, 10, 11, 0, [(0, 1032)])), (6, (.invokestatic 1, 3, 136, 3, 1142, [])), (9, (.ifCond .ne 0, 3, 15, 0, 0, [])), (12, (.ldc 0, 2, 1148, 0, (-1000000001), [])), (14, (.ireturn, 1, 0, 0, 0, [])), (15, (.aload 0, 1, 0, 0, 0, [])), (16, (.iload 1, 1, 0, 0, 0, [])), (17, (.putfield 0, 3, 10, 11, 0, [(0, 1032)])), (20, (.iload 1, 1, 0, 0, 0, [])), (21, (.ireturn, 1, 0, 0, 0, []))]]
abbrev m_M_trim : Nat := 197
/-- M_isLetter -/
def pm_t198 : pm_T := [[(0, (.iload 1, 1, 0, 0, 0, [])), (1, (.aload 0, 1, 0, 0, 0, [])), (2, (.getfield 0, 3, 10, 11, 0, [(0, 1032)])), (5, (.if_icmp .ge 0, 3, 34, 0, 0, [])), (8, (.aload 0, 1, 0, 0, 0, [])), (9, (.getfield 1, 3, 10, 10, 0, [(0, 1031)])), (12, (.iload 1, 1, 0, 0, 0, [])), (13, (.iaload, 1, 0, 0, 0, [])), (14, (.ldc 0, 2, 0, 0, 97, [])), (16, (.if_icmp .lt 0, 3, 34, 0, 0, [])), (19, (.aload 0, 1, 0, 0, 0, [])), (20, (.getfield 1, 3, 10, 10, 0, [(0, 1031)])), (23, (.iload 1, 1, 0, 0, 0, [])), (24, (.iaload, 1, 0, 0, 0, [])), (25, (.ldc 0, 2, 0, 0, 122, [])), (27, (.if_icmp .gt 0, 3, 34, 0, 0, [])), (30, (.ldc 0, 1, 0, 0, 1, [])), (31, (.goto 0, 3, 35, 0, 0, []))],
  [(34, (.ldc 0, 1, 0, 0, 0, [])), (35, (.ireturn, 1, 3, 0, 0, []))]]
abbrev m_M_isLetter : Nat := 198
/-- M_isFigure -/
def pm_t199 : pm_T := [[(0, (.iload 1, 1, 0, 0, 0, [])), (1, (.aload 0, 1, 0, 0, 0, [])), (2, (.getfield 0, 3, 10, 11, 0, [(0, 1032)])), (5, (.if_icmp .ge 0, 3, 34, 0, 0, [])), (8, (.aload 0, 1, 0, 0, 0, [])), (9, (.getfield 1, 3, 10, 10, 0, [(0, 1031)])), (12, (.iload 1, 1, 0, 0, 0, [])), (13, (.iaload, 1, 0, 0, 0, [])), (14, (.ldc 0, 2, 0, 0, 48, [])), (16, (.if_icmp .lt 0, 3, 34, 0, 0, [])), (19, (.aload 0, 1, 0, 0, 0, [])), (20, (.getfield 1, 3, 10, 10, 0, [(0, 1031)])), (23, (.iload 1, 1, 0, 0, 0, [])), (24, (.iaload, 1, 0, 0, 0, [])), (25, (.ldc 0, 2, 0, 0, 57, [])), (27, (.if_icmp .gt 0, 3, 34, 0, 0, [])), (30, (.ldc 0, 1, 0, 0, 1, [])), (31, (.goto 0, 3, 35, 0, 0, []))],
  [(34, (.ldc 0, 1, 0, 0, 0, [])), (35, (.ireturn, 1, 3, 0, 0, []))]]
abbrev m_M_isFigure : Nat := 199
/-- M_go -/
def pm_t200 : pm_T := [[(0, (.aload 0, 1, 0, 0, 0, [])), (1, (.getfield 0, 3, 10, 12, 0, [(0, 1033)])), (4, (.aload 0, 1, 0, 0, 0, [])), (5, (.getfield 0, 3, 10, 11, 0, [(0, 1032)])), (8, (.if_icmp .ge 0, 3, 38, 0, 0, [])), (11, (.aload 0, 1, 0, 0, 0, [])), (12, (.getfield 1, 3, 10, 10, 0, [(0, 1031)])), (15, (.aload 0, 1, 0, 0, 0, [])), (16, (.getfield 0, 3, 10, 12, 0, [(0, 1033)])), (19, (.iaload, 1, 0, 0, 0, [])), (20, (.ldc 0, 2, 0, 0, 32, [])), (22, (.if_icmp .ne 0, 3, 38, 0, 0, [])), (25, (.aload 0, 1, 0, 0, 0, [])), (26, (.dup, 1, 0, 0, 0, [])), (27, (.getfield 0, 3, 10, 12, 0, [(0, 1033)])), (30, (.ldc 0, 1, 0, 0, 1, [])), (31, (.iadd, 1, 0, 0, 0, []))],
  [(32, (.putfield 0, 3, 10, 12, 0, [(0, 1033)])), (35, (.goto 0, 3, 0, 0, 0, [])), (38, (.aload 0, 1, 0, 0, 0, [])), (39, (.aload 0, 1, 0, 0, 0, [])), (40, (.getfield 0, 3, 10, 12, 0, [(0, 1033)])), (43, (.putfield 0, 3, 10, 13, 0, [(0, 1034)])), (46, (.aload 0, 1, 0, 0, 0, [])), (47, (.getfield 0, 3, 10, 13, 0, [(0, 1034)])), (50, (.aload 0, 1, 0, 0, 0, [])), (51, (.getfield 0, 3, 10, 16, 0, [(0, 1037)])), (54, (.if_icmp .ne 0, 3, 61, 0, 0, [])), (57, (.ldc 0, 1, 0, 0, 1, [])), (58, (.goto 0, 3, 62, 0, 0, [])), (61, (.ldc 0, 1, 0, 0, 0, [])), (62, (.istore 1, 1, 0, 0, 0, [])), (63, (.aload 0, 1, 0, 0, 0, []))],
  [(64, (.getfield 0, 3, 10, 13, 0, [(0, 1034)])), (67, (.aload 0, 1, 0, 0, 0, [])), (68, (.getfield 0, 3, 10, 11, 0, [(0, 1032)])), (71, (.if_icmp .ne 0, 3, 82, 0, 0, [])), (74, (.aload 0, 1, 0, 0, 0, [])), (75, (.ldc 0, 1, 0, 0, 0, [])), (76, (.putfield 0, 3, 10, 14, 0, [(0, 1035)])), (79, (.goto 0, 3, 303, 0, 0, [])), (82, (.aload 0, 1, 0, 0, 0, [])), (83, (.aload 0, 1, 0, 0, 0, [])), (84, (.getfield 0, 3, 10, 13, 0, [(0, 1034)])), (87, (.invokestatic 1, 3, 198, 2, 1406, [(0, 10)])), (90, (.ifCond .eq 0, 3, 154, 0, 0, [])), (93, (.aload 0, 1, 0, 0, 0, [])), (94, (.aload 0, 1, 0, 0, 0, [])), (95, (.getfield 0, 3, 10, 12, 0, [(0, 1033)]))],
  [(98, (.invokestatic 1, 3, 198, 2, 1406, [(0, 10)])), (101, (.ifCond .eq 0, 3, 117, 0, 0, [])), (104, (.aload 0, 1, 0, 0, 0, [])), (105, (.dup, 1, 0, 0, 0, [])), (106, (.getfield 0, 3, 10, 12, 0, [(0, 1033)])), (109, (.ldc 0, 1, 0, 0, 1, [])), (110, (.iadd, 1, 0, 0, 0, [])), (111, (.putfield 0, 3, 10, 12, 0, [(0, 1033)])), (114, (.goto 0, 3, 93, 0, 0, [])), (117, (.aload 0, 1, 0, 0, 0, [])), (118, (.iload 1, 1, 0, 0, 0, [])), (119, (.ifCond .eq 0, 3, 126, 0, 0, [])), (122, (.ldc 0, 1, 0, 0, 4, [])), (123, (.goto 0, 3, 127, 0, 0, [])), (126, (.ldc 0, 1, 0, 0, 1, [])), (127, (.putfield 0, 3, 10, 14, 0, [(0, 1035)]))],
  [(130, (.aload 0, 1, 0, 0, 0, [])), (131, (.aload 0, 1, 0, 0, 0, [])), (132, (.getfield 1, 3, 10, 10, 0, [(0, 1031)])), (135, (.aload 0, 1, 0, 0, 0, [])), (136, (.getfield 0, 3, 10, 13, 0, [(0, 1034)])), (139, (.iaload, 1, 0, 0, 0, [])), (140, (.putfield 0, 3, 10, 15, 0, [(0, 1036)])), (143, (.aload 0, 1, 0, 0, 0, [])), (144, (.aload 0, 1, 0, 0, 0, [])), (145, (.getfield 0, 3, 10, 12, 0, [(0, 1033)])), (148, (.putfield 0, 3, 10, 16, 0, [(0, 1037)])), (151, (.goto 0, 3, 303, 0, 0, [])), (154, (.aload 0, 1, 0, 0, 0, [])), (155, (.aload 0, 1, 0, 0, 0, [])), (156, (.getfield 0, 3, 10, 13, 0, [(0, 1034)])), (159, (.invokestatic 1, 3, 199, 2, 1410, [(0, 10)]))],
  [(162, (.ifCond .eq 0, 3, 275, 0, 0, [])), (165, (.aload 0, 1, 0, 0, 0, [])), (166, (.ldc 0, 1, 0, 0, 0, [])), (167, (.putfield 0, 3, 10, 15, 0, [(0, 1036)])), (170, (.aload 0, 1, 0, 0, 0, [])), (171, (.aload 0, 1, 0, 0, 0, [])), (172, (.getfield 0, 3, 10, 12, 0, [(0, 1033)])), (175, (.invokestatic 1, 3, 199, 2, 1410, [(0, 10)])), (178, (.ifCond .eq 0, 3, 238, 0, 0, [])), (181, (.aload 0, 1, 0, 0, 0, [])), (182, (.aload 0, 1, 0, 0, 0, [])), (183, (.getfield 0, 3, 10, 12, 0, [(0, 1033)])), (186, (.aload 0, 1, 0, 0, 0, [])), (187, (.getfield 0, 3, 10, 13, 0, [(0, 1034)])), (190, (.isub, 1, 0, 0, 0, [])), (191, (.ldc 0, 1, 0, 0, 4, []))],
  [(192, (.if_icmp .ge 0, 3, 218, 0, 0, [])), (195, (.ldc 0, 2, 0, 0, 10, [])), (197, (.aload 0, 1, 0, 0, 0, [])), (198, (.getfield 0, 3, 10, 15, 0, [(0, 1036)])), (201, (.imul, 1, 0, 0, 0, [])), (202, (.aload 0, 1, 0, 0, 0, [])), (203, (.getfield 1, 3, 10, 10, 0, [(0, 1031)])), (206, (.aload 0, 1, 0, 0, 0, [])), (207, (.getfield 0, 3, 10, 12, 0, [(0, 1033)])), (210, (.iaload, 1, 0, 0, 0, [])), (211, (.iadd, 1, 0, 0, 0, [])), (212, (.ldc 0, 2, 0, 0, 48, [])), (214, (.isub, 1, 0, 0, 0, [])), (215, (.goto 0, 3, 222, 0, 0, [])), (218, (.aload 0, 1, 0, 0, 0, [])), (219, (.getfield 0, 3, 10, 15, 0, [(0, 1036)])), (222, (.putfield 0, 3, 10, 15, 0, [(0, 1036)]))],
  [(225, (.aload 0, 1, 0, 0, 0, [])), (226, (.dup, 1, 0, 0, 0, [])), (227, (.getfield 0, 3, 10, 12, 0, [(0, 1033)])), (230, (.ldc 0, 1, 0, 0, 1, [])), (231, (.iadd, 1, 0, 0, 0, [])), (232, (.putfield 0, 3, 10, 12, 0, [(0, 1033)])), (235, (.goto 0, 3, 170, 0, 0, [])), (238, (.aload 0, 1, 0, 0, 0, [])), (239, (.iload 1, 1, 0, 0, 0, [])), (240, (.ifCond .ne 0, 3, 256, 0, 0, [])), (243, (.aload 0, 1, 0, 0, 0, [])), (244, (.getfield 0, 3, 10, 12, 0, [(0, 1033)])), (247, (.aload 0, 1, 0, 0, 0, [])), (248, (.getfield 0, 3, 10, 13, 0, [(0, 1034)])), (251, (.isub, 1, 0, 0, 0, [])), (252, (.ldc 0, 1, 0, 0, 4, [])), (253, (.if_icmp .le 0, 3, 260, 0, 0, []))],
  [(256, (.ldc 0, 1, 0, 0, 4, [])), (257, (.goto 0, 3, 261, 0, 0, [])), (260, (.ldc 0, 1, 0, 0, 2, [])), (261, (.putfield 0, 3, 10, 14, 0, [(0, 1035)])), (264, (.aload 0, 1, 0, 0, 0, [])), (265, (.aload 0, 1, 0, 0, 0, [])), (266, (.getfield 0, 3, 10, 12, 0, [(0, 1033)])), (269, (.putfield 0, 3, 10, 16, 0, [(0, 1037)])), (272, (.goto 0, 3, 303, 0, 0, [])), (275, (.aload 0, 1, 0, 0, 0, [])), (276, (.ldc 0, 1, 0, 0, 3, [])), (277, (.putfield 0, 3, 10, 14, 0, [(0, 1035)])), (280, (.aload 0, 1, 0, 0, 0, [])), (281, (.aload 0, 1, 0, 0, 0, [])), (282, (.getfield 1, 3, 10, 10, 0, [(0, 1031)])), (285, (.aload 0, 1, 0, 0, 0, [])), (286, (.getfield 0, 3, 10, 13, 0, [(0, 1034)]))],
  [(289, (.iaload, 1, 0, 0, 0, [])), (290, (.putfield 0, 3, 10, 15, 0, [(0, 1036)])), (293, (.aload 0, 1, 0, 0, 0, [])), (294, (.dup, 1, 0, 0, 0, [])), (295, (.getfield 0, 3, 10, 12, 0, [(0, 1033)])), (298, (.ldc 0, 1, 0, 0, 1, [])), (299, (.iadd, 1, 0, 0, 0, [])), (300, (.putfield 0, 3, 10, 12, 0, [(0, 1033)])), (303, (.return_, 1, 0, 0, 0, []))]]
abbrev m_M_go : Nat := 200
/-- M_takesKey -/
def pm_t201 : pm_T := [[(0, (.aload 0, 1, 0, 0, 0, [])), (1, (.getfield 0, 3, 10, 14, 0, [(0, 1035)])), (4, (.ldc 0, 1, 0, 0, 1, [])), (5, (.if_icmp .eq 0, 3, 10, 0, 0, [])), (8, (.ldc 0, 1, 0, 0, 0, [])), (9, (.ireturn, 1, 3, 0, 0, [])), (10, (.ldc 0, 1, 0, 0, 0, [])), (11, (.istore 1, 1, 0, 0, 0, [])), (12, (.iload 1, 1, 0, 0, 0, [])), (13, (.ldc 0, 1, 0, 0, 3, [])), (14, (.if_icmp .ge 0, 3, 127, 0, 0, [])), (17, (.aload 0, 1, 0, 0, 0, [])), (18, (.getfield 1, 3, 10, 19, 0, [(0, 1040)])), (21, (.iload 1, 1, 0, 0, 0, [])), (22, (.ldc 0, 1, 0, 0, 1, [])), (23, (.iadd, 1, 0, 0, 0, [])), (24, (.iaload, 1, 0, 0, 0, [])), (25, (.aload 0, 1, 0, 0, 0, [])), (26, (.getfield 1, 3, 10, 19, 0, [(0, 1040)])), (29, (.iload 1, 1, 0, 0, 0, [])), (30, (.iaload, 1, 0, 0, 0, [])), (31, (.isub, 1, 0, 0, 0, []))],
  [(32, (.istore 2, 1, 0, 0, 0, [])), (33, (.iload 2, 1, 0, 0, 0, [])), (34, (.aload 0, 1, 0, 0, 0, [])), (35, (.getfield 0, 3, 10, 12, 0, [(0, 1033)])), (38, (.aload 0, 1, 0, 0, 0, [])), (39, (.getfield 0, 3, 10, 13, 0, [(0, 1034)])), (42, (.isub, 1, 0, 0, 0, [])), (43, (.if_icmp .ne 0, 3, 50, 0, 0, [])), (46, (.ldc 0, 1, 0, 0, 1, [])), (47, (.goto 0, 3, 51, 0, 0, [])), (50, (.ldc 0, 1, 0, 0, 0, [])), (51, (.istore 3, 1, 0, 0, 0, [])), (52, (.ldc 0, 1, 0, 0, 0, [])), (53, (.istore 4, 2, 0, 0, 0, [])), (55, (.iload 4, 2, 0, 0, 0, [])), (57, (.iload 2, 1, 0, 0, 0, [])), (58, (.if_icmp .ge 0, 3, 106, 0, 0, [])), (61, (.iload 3, 1, 0, 0, 0, [])), (62, (.ifCond .eq 0, 3, 106, 0, 0, []))],
  [(65, (.aload 0, 1, 0, 0, 0, [])), (66, (.getfield 1, 3, 10, 10, 0, [(0, 1031)])), (69, (.aload 0, 1, 0, 0, 0, [])), (70, (.getfield 0, 3, 10, 13, 0, [(0, 1034)])), (73, (.iload 4, 2, 0, 0, 0, [])), (75, (.iadd, 1, 0, 0, 0, [])), (76, (.iaload, 1, 0, 0, 0, [])), (77, (.aload 0, 1, 0, 0, 0, [])), (78, (.getfield 1, 3, 10, 18, 0, [(0, 1039)])), (81, (.aload 0, 1, 0, 0, 0, [])), (82, (.getfield 1, 3, 10, 19, 0, [(0, 1040)])), (85, (.iload 1, 1, 0, 0, 0, [])), (86, (.iaload, 1, 0, 0, 0, [])), (87, (.iload 4, 2, 0, 0, 0, [])), (89, (.iadd, 1, 0, 0, 0, [])), (90, (.iaload, 1, 2, 0, 0, [])), (91, (.if_icmp .ne 0, 3, 98, 0, 0, [])), (94, (.ldc 0, 1, 0, 0, 1, [])), (95, (.goto 0, 3, 99, 0, 0, []))],
  [(98, (.ldc 0, 1, 0, 0, 0, [])), (99, (.istore 3, 1, 0, 0, 0, [])), (100, (.iinc 4 0, 3, 0, 0, 1, [])), (103, (.goto 0, 3, 55, 0, 0, [])), (106, (.iload 3, 1, 0, 0, 0, [])), (107, (.ifCond .eq 0, 3, 121, 0, 0, [])), (110, (.aload 0, 1, 0, 0, 0, [])), (111, (.iload 1, 1, 0, 0, 0, [])), (112, (.putfield 0, 3, 10, 17, 0, [(0, 1038)])), (115, (.aload 0, 1, 0, 0, 0, [])), (116, (.invokestatic 0, 3, 200, 1, 1402, [(0, 10)])), (119, (.ldc 0, 1, 0, 0, 1, [])), (120, (.ireturn, 1, 3, 0, 0, [])), (121, (.iinc 1 0, 3, 0, 0, 1, [])), (124, (.goto 0, 3, 12, 0, 0, [])), (127, (.ldc 0, 1, 0, 0, 0, []))],
  [(128, (.ireturn, 1, 3, 0, 0, []))]]
abbrev m_M_takesKey : Nat := 201
/-- M_nameOf -/
def pm_t202 : pm_T := [[(0, (.aload 0, 1, 0, 0, 0, [])), (1, (.getfield 0, 3, 10, 17, 0, [(0, 1038)])), (4, (.lookupswitch 0 #[], 28, 86, 0, 0, [(0, 32), (1, 64)]))],
  [(32, (.iload 1, 1, 0, 0, 0, [])), (33, (.ldc 0, 2, 0, 0, 101, [])), (35, (.if_icmp .ne 0, 3, 42, 0, 0, [])), (38, (.ldc 0, 1, 0, 0, 0, [])), (39, (.goto 0, 3, 63, 0, 0, [])), (42, (.iload 1, 1, 0, 0, 0, [])), (43, (.ldc 0, 2, 0, 0, 102, [])), (45, (.if_icmp .ne 0, 3, 52, 0, 0, [])), (48, (.ldc 0, 1, 0, 0, 1, [])), (49, (.goto 0, 3, 63, 0, 0, [])), (52, (.iload 1, 1, 0, 0, 0, [])), (53, (.ldc 0, 2, 0, 0, 119, [])), (55, (.if_icmp .ne 0, 3, 62, 0, 0, [])), (58, (.ldc 0, 1, 0, 0, 2, [])), (59, (.goto 0, 3, 63, 0, 0, [])), (62, (.ldc 0, 1, 0, 0, (-1), [])), (63, (.ireturn, 1, 0, 0, 0, []))],
  [(64, (.iload 1, 1, 0, 0, 0, [])), (65, (.ldc 0, 2, 0, 0, 115, [])), (67, (.if_icmp .ne 0, 3, 74, 0, 0, [])), (70, (.ldc 0, 1, 0, 0, 0, [])), (71, (.goto 0, 3, 85, 0, 0, [])), (74, (.iload 1, 1, 0, 0, 0, [])), (75, (.ldc 0, 2, 0, 0, 108, [])), (77, (.if_icmp .ne 0, 3, 84, 0, 0, [])), (80, (.ldc 0, 1, 0, 0, 1, [])), (81, (.goto 0, 3, 85, 0, 0, [])), (84, (.ldc 0, 1, 0, 0, (-1), [])), (85, (.ireturn, 1, 0, 0, 0, [])), (86, (.iload 1, 1, 0, 0, 0, [])), (87, (.ldc 0, 2, 0, 0, 115, [])), (89, (.if_icmp .ne 0, 3, 96, 0, 0, [])), (92, (.ldc 0, 1, 0, 0, 0, [])), (93, (.goto 0, 3, 107, 0, 0, []))],
  [(96, (.iload 1, 1, 0, 0, 0, [])), (97, (.ldc 0, 2, 0, 0, 102, [])), (99, (.if_icmp .ne 0, 3, 106, 0, 0, [])), (102, (.ldc 0, 1, 0, 0, 1, [])), (103, (.goto 0, 3, 107, 0, 0, [])), (106, (.ldc 0, 1, 0, 0, (-1), [])), (107, (.ireturn, 1, 0, 0, 0, []))]]
abbrev m_M_nameOf : Nat := 202
/-- M_rank -/
def pm_t203 : pm_T := [[(0, (.iload 0, 1, 0, 0, 0, [])), (1, (.ldc 0, 1, 0, 0, (-1), [])), (2, (.if_icmp .ne 0, 3, 9, 0, 0, [])), (5, (.ldc 0, 1, 0, 0, 1, [])), (6, (.goto 0, 3, 51, 0, 0, [])), (9, (.iload 0, 1, 0, 0, 0, [])), (10, (.ldc 0, 2, 0, 0, (-2), [])), (12, (.if_icmp .ne 0, 3, 19, 0, 0, [])), (15, (.ldc 0, 1, 0, 0, 2, [])), (16, (.goto 0, 3, 51, 0, 0, [])), (19, (.iload 0, 1, 0, 0, 0, [])), (20, (.ldc 0, 2, 0, 0, (-5), [])), (22, (.if_icmp .lt 0, 3, 29, 0, 0, [])), (25, (.ldc 0, 1, 0, 0, 3, [])), (26, (.goto 0, 3, 51, 0, 0, [])), (29, (.iload 0, 1, 0, 0, 0, [])), (30, (.ldc 0, 2, 0, 0, (-7), []))],
  [(32, (.if_icmp .lt 0, 3, 39, 0, 0, [])), (35, (.ldc 0, 1, 0, 0, 4, [])), (36, (.goto 0, 3, 51, 0, 0, [])), (39, (.iload 0, 1, 0, 0, 0, [])), (40, (.ldc 0, 2, 0, 0, (-9), [])), (42, (.if_icmp .lt 0, 3, 49, 0, 0, [])), (45, (.ldc 0, 1, 0, 0, 5, [])), (46, (.goto 0, 3, 51, 0, 0, [])), (49, (.ldc 0, 2, 0, 0, 6, [])), (51, (.ireturn, 1, 0, 0, 0, []))]]
abbrev m_M_rank : Nat := 203
/-- M_settle -/
def pm_t204 : pm_T := [[(0, (.aload 0, 1, 0, 0, 0, [])), (1, (.getfield 0, 3, 10, 24, 0, [(0, 1045)])), (4, (.ifCond .le 0, 3, 82, 0, 0, [])), (7, (.aload 0, 1, 0, 0, 0, [])), (8, (.getfield 1, 3, 10, 23, 0, [(0, 1044)])), (11, (.aload 0, 1, 0, 0, 0, [])), (12, (.getfield 0, 3, 10, 24, 0, [(0, 1045)])), (15, (.ldc 0, 1, 0, 0, 1, [])), (16, (.isub, 1, 0, 0, 0, [])), (17, (.iaload, 1, 0, 0, 0, [])), (18, (.ldc 0, 2, 0, 0, (-11), [])), (20, (.if_icmp .eq 0, 3, 82, 0, 0, [])), (23, (.aload 0, 1, 0, 0, 0, [])), (24, (.getfield 1, 3, 10, 23, 0, [(0, 1044)])), (27, (.aload 0, 1, 0, 0, 0, [])), (28, (.getfield 0, 3, 10, 24, 0, [(0, 1045)])), (31, (.ldc 0, 1, 0, 0, 1, []))],
  [(32, (.isub, 1, 0, 0, 0, [])), (33, (.iaload, 1, 0, 0, 0, [])), (34, (.invokestatic 1, 3, 203, 1, 1434, [])), (37, (.iload 1, 1, 0, 0, 0, [])), (38, (.if_icmp .lt 0, 3, 82, 0, 0, [])), (41, (.aload 0, 1, 0, 0, 0, [])), (42, (.dup, 1, 0, 0, 0, [])), (43, (.getfield 0, 3, 10, 24, 0, [(0, 1045)])), (46, (.ldc 0, 1, 0, 0, 1, [])), (47, (.isub, 1, 0, 0, 0, [])), (48, (.putfield 0, 3, 10, 24, 0, [(0, 1045)])), (51, (.aload 0, 1, 0, 0, 0, [])), (52, (.getfield 1, 3, 10, 20, 0, [(0, 1041)])), (55, (.aload 0, 1, 0, 0, 0, [])), (56, (.getfield 0, 3, 10, 21, 0, [(0, 1042)])), (59, (.aload 0, 1, 0, 0, 0, [])), (60, (.getfield 1, 3, 10, 23, 0, [(0, 1044)])), (63, (.aload 0, 1, 0, 0, 0, []))],
  [(64, (.getfield 0, 3, 10, 24, 0, [(0, 1045)])), (67, (.iaload, 1, 0, 0, 0, [])), (68, (.iastore, 1, 0, 0, 0, [])), (69, (.aload 0, 1, 0, 0, 0, [])), (70, (.dup, 1, 0, 0, 0, [])), (71, (.getfield 0, 3, 10, 21, 0, [(0, 1042)])), (74, (.ldc 0, 1, 0, 0, 1, [])), (75, (.iadd, 1, 0, 0, 0, [])), (76, (.putfield 0, 3, 10, 21, 0, [(0, 1042)])), (79, (.goto 0, 3, 0, 0, 0, [])), (82, (.return_, 1, 0, 0, 0, []))]]
abbrev m_M_settle : Nat := 204
/-- M_signHere -/
def pm_t205 : pm_T := [[(0, (.aload 0, 1, 0, 0, 0, [])), (1, (.getfield 0, 3, 10, 14, 0, [(0, 1035)])), (4, (.ldc 0, 1, 0, 0, 3, [])), (5, (.if_icmp .eq 0, 3, 10, 0, 0, [])), (8, (.ldc 0, 1, 0, 0, 0, [])), (9, (.ireturn, 1, 0, 0, 0, [])), (10, (.aload 0, 1, 0, 0, 0, [])), (11, (.getfield 0, 3, 10, 15, 0, [(0, 1036)])), (14, (.lookupswitch 0 #[], 82, 122, 0, 0, [(38, 98), (42, 116), (43, 110), (45, 113), (47, 119), (60, 101), (61, 104), (62, 107), (124, 96)]))],
  [],
  [],
  [(96, (.ldc 0, 1, 0, 0, (-1), [])), (97, (.ireturn, 1, 0, 0, 0, [])), (98, (.ldc 0, 2, 0, 0, (-2), [])), (100, (.ireturn, 1, 0, 0, 0, [])), (101, (.ldc 0, 2, 0, 0, (-3), [])), (103, (.ireturn, 1, 0, 0, 0, [])), (104, (.ldc 0, 2, 0, 0, (-4), [])), (106, (.ireturn, 1, 0, 0, 0, [])), (107, (.ldc 0, 2, 0, 0, (-5), [])), (109, (.ireturn, 1, 0, 0, 0, [])), (110, (.ldc 0, 2, 0, 0, (-6), [])), (112, (.ireturn, 1, 0, 0, 0, [])), (113, (.ldc 0, 2, 0, 0, (-7), [])), (115, (.ireturn, 1, 0, 0, 0, [])), (116, (.ldc 0, 2, 0, 0, (-8), [])), (118, (.ireturn, 1, 0, 0, 0, [])), (119, (.ldc 0, 2, 0, 0, (-9), [])), (121, (.ireturn, 1, 0, 0, 0, [])), (122, (.ldc 0, 1, 0, 0, 0, [])), (123, (.ireturn, 1, 0, 0, 0, []))]]
abbrev m_M_signHere : Nat := 205
/-- M_takesPart -/
def pm_t206 : pm_T := [[(0, (.aload 0, 1, 0, 0, 0, [])), (1, (.getfield 0, 3, 10, 14, 0, [(0, 1035)])), (4, (.ldc 0, 1, 0, 0, 1, [])), (5, (.if_icmp .ne 0, 3, 36, 0, 0, [])), (8, (.aload 0, 1, 0, 0, 0, [])), (9, (.getfield 0, 3, 10, 12, 0, [(0, 1033)])), (12, (.aload 0, 1, 0, 0, 0, [])), (13, (.getfield 0, 3, 10, 13, 0, [(0, 1034)])), (16, (.isub, 1, 0, 0, 0, [])), (17, (.ldc 0, 1, 0, 0, 1, [])), (18, (.if_icmp .ne 0, 3, 36, 0, 0, [])), (21, (.aload 0, 1, 0, 0, 0, [])), (22, (.aload 0, 1, 0, 0, 0, [])), (23, (.getfield 0, 3, 10, 15, 0, [(0, 1036)])), (26, (.invokestatic 1, 3, 202, 2, 1426, [(0, 10)])), (29, (.ifCond .lt 0, 3, 36, 0, 0, []))],
  [(32, (.ldc 0, 1, 0, 0, 1, [])), (33, (.goto 0, 3, 37, 0, 0, [])), (36, (.ldc 0, 1, 0, 0, 0, [])), (37, (.istore 1, 1, 0, 0, 0, [])), (38, (.aload 0, 1, 0, 0, 0, [])), (39, (.getfield 0, 3, 10, 14, 0, [(0, 1035)])), (42, (.ldc 0, 1, 0, 0, 2, [])), (43, (.if_icmp .eq 0, 3, 52, 0, 0, [])), (46, (.iload 1, 1, 0, 0, 0, [])), (47, (.ifCond .ne 0, 3, 52, 0, 0, [])), (50, (.ldc 0, 1, 0, 0, 0, [])), (51, (.ireturn, 1, 3, 0, 0, [])), (52, (.aload 0, 1, 0, 0, 0, [])), (53, (.getfield 1, 3, 10, 20, 0, [(0, 1041)])), (56, (.aload 0, 1, 0, 0, 0, [])), (57, (.getfield 0, 3, 10, 21, 0, [(0, 1042)])), (60, (.aload 0, 1, 0, 0, 0, [])), (61, (.getfield 0, 3, 10, 14, 0, [(0, 1035)]))],
  [(64, (.ldc 0, 1, 0, 0, 2, [])), (65, (.if_icmp .ne 0, 3, 75, 0, 0, [])), (68, (.aload 0, 1, 0, 0, 0, [])), (69, (.getfield 0, 3, 10, 15, 0, [(0, 1036)])), (72, (.goto 0, 3, 87, 0, 0, [])), (75, (.ldc 0, 3, 0, 0, 10000, [])), (78, (.aload 0, 1, 0, 0, 0, [])), (79, (.aload 0, 1, 0, 0, 0, [])), (80, (.getfield 0, 3, 10, 15, 0, [(0, 1036)])), (83, (.invokestatic 1, 3, 202, 2, 1426, [(0, 10)])), (86, (.iadd, 1, 0, 0, 0, [])), (87, (.iastore, 1, 0, 0, 0, [])), (88, (.aload 0, 1, 0, 0, 0, [])), (89, (.dup, 1, 0, 0, 0, [])), (90, (.getfield 0, 3, 10, 21, 0, [(0, 1042)])), (93, (.ldc 0, 1, 0, 0, 1, [])), (94, (.iadd, 1, 0, 0, 0, [])), (95, (.putfield 0, 3, 10, 21, 0, [(0, 1042)]))],
  [(98, (.aload 0, 1, 0, 0, 0, [])), (99, (.dup, 1, 0, 0, 0, [])), (100, (.getfield 0, 3, 10, 22, 0, [(0, 1043)])), (103, (.ldc 0, 1, 0, 0, 1, [])), (104, (.iadd, 1, 0, 0, 0, [])), (105, (.putfield 0, 3, 10, 22, 0, [(0, 1043)])), (108, (.aload 0, 1, 0, 0, 0, [])), (109, (.ldc 0, 2, 0, 0, 6, [])), (111, (.invokestatic 0, 3, 204, 2, 1430, [(0, 10)])), (114, (.aload 0, 1, 0, 0, 0, [])), (115, (.invokestatic 0, 3, 200, 1, 1402, [(0, 10)])), (118, (.ldc 0, 1, 0, 0, 1, [])), (119, (.ireturn, 1, 3, 0, 0, []))]]
abbrev m_M_takesPart : Nat := 206
/-- M_takesE -/
def pm_t207 : pm_T := [[(0, (.ldc 0, 1, 0, 0, 0, [])), (1, (.istore 1, 1, 0, 0, 0, [])), (2, (.ldc 0, 1, 0, 0, 0, [])), (3, (.istore 2, 1, 0, 0, 0, [])), (4, (.ldc 0, 1, 0, 0, 1, [])), (5, (.istore 3, 1, 0, 0, 0, [])), (6, (.aload 0, 1, 0, 0, 0, [])), (7, (.ldc 0, 1, 0, 0, 0, [])), (8, (.putfield 0, 3, 10, 21, 0, [(0, 1042)])), (11, (.aload 0, 1, 0, 0, 0, [])), (12, (.ldc 0, 1, 0, 0, 0, [])), (13, (.putfield 0, 3, 10, 22, 0, [(0, 1043)])), (16, (.aload 0, 1, 0, 0, 0, [])), (17, (.ldc 0, 1, 0, 0, 0, [])), (18, (.putfield 0, 3, 10, 24, 0, [(0, 1045)])), (21, (.aload 0, 1, 0, 0, 0, [])), (22, (.getfield 1, 3, 10, 25, 0, [(0, 1046)])), (25, (.ldc 0, 1, 0, 0, 0, [])), (26, (.ldc 0, 1, 0, 0, 0, [])), (27, (.iastore, 1, 3, 0, 0, [])), (28, (.iload 3, 1, 0, 0, 0, [])), (29, (.ifCond .ne 0, 3, 39, 0, 0, []))],
  [(32, (.aload 0, 1, 0, 0, 0, [])), (33, (.getfield 0, 3, 10, 14, 0, [(0, 1035)])), (36, (.ifCond .eq 0, 3, 345, 0, 0, [])), (39, (.iload 3, 1, 0, 0, 0, [])), (40, (.ifCond .eq 0, 3, 180, 0, 0, [])), (43, (.aload 0, 1, 0, 0, 0, [])), (44, (.getfield 0, 3, 10, 14, 0, [(0, 1035)])), (47, (.ldc 0, 1, 0, 0, 3, [])), (48, (.if_icmp .ne 0, 3, 97, 0, 0, [])), (51, (.aload 0, 1, 0, 0, 0, [])), (52, (.getfield 0, 3, 10, 15, 0, [(0, 1036)])), (55, (.ldc 0, 2, 0, 0, 33, [])), (57, (.if_icmp .ne 0, 3, 97, 0, 0, [])), (60, (.iload 2, 1, 0, 0, 0, [])), (61, (.ldc 0, 2, 0, 0, 8, [])), (63, (.if_icmp .ge 0, 3, 97, 0, 0, []))],
  [(66, (.aload 0, 1, 0, 0, 0, [])), (67, (.getfield 1, 3, 10, 23, 0, [(0, 1044)])), (70, (.aload 0, 1, 0, 0, 0, [])), (71, (.getfield 0, 3, 10, 24, 0, [(0, 1045)])), (74, (.ldc 0, 2, 0, 0, (-10), [])), (76, (.iastore, 1, 0, 0, 0, [])), (77, (.aload 0, 1, 0, 0, 0, [])), (78, (.dup, 1, 0, 0, 0, [])), (79, (.getfield 0, 3, 10, 24, 0, [(0, 1045)])), (82, (.ldc 0, 1, 0, 0, 1, [])), (83, (.iadd, 1, 0, 0, 0, [])), (84, (.putfield 0, 3, 10, 24, 0, [(0, 1045)])), (87, (.iinc 2 0, 3, 0, 0, 1, [])), (90, (.aload 0, 1, 0, 0, 0, [])), (91, (.invokestatic 0, 3, 200, 1, 1402, [(0, 10)])), (94, (.goto 0, 3, 172, 0, 0, []))],
  [(97, (.aload 0, 1, 0, 0, 0, [])), (98, (.getfield 0, 3, 10, 14, 0, [(0, 1035)])), (101, (.ldc 0, 1, 0, 0, 3, [])), (102, (.if_icmp .ne 0, 3, 158, 0, 0, [])), (105, (.aload 0, 1, 0, 0, 0, [])), (106, (.getfield 0, 3, 10, 15, 0, [(0, 1036)])), (109, (.ldc 0, 2, 0, 0, 40, [])), (111, (.if_icmp .ne 0, 3, 158, 0, 0, [])), (114, (.iload 1, 1, 0, 0, 0, [])), (115, (.ldc 0, 2, 0, 0, 8, [])), (117, (.if_icmp .ge 0, 3, 158, 0, 0, [])), (120, (.aload 0, 1, 0, 0, 0, [])), (121, (.getfield 1, 3, 10, 23, 0, [(0, 1044)])), (124, (.aload 0, 1, 0, 0, 0, [])), (125, (.getfield 0, 3, 10, 24, 0, [(0, 1045)]))],
  [(128, (.ldc 0, 2, 0, 0, (-11), [])), (130, (.iastore, 1, 0, 0, 0, [])), (131, (.aload 0, 1, 0, 0, 0, [])), (132, (.dup, 1, 0, 0, 0, [])), (133, (.getfield 0, 3, 10, 24, 0, [(0, 1045)])), (136, (.ldc 0, 1, 0, 0, 1, [])), (137, (.iadd, 1, 0, 0, 0, [])), (138, (.putfield 0, 3, 10, 24, 0, [(0, 1045)])), (141, (.iinc 1 0, 3, 0, 0, 1, [])), (144, (.aload 0, 1, 0, 0, 0, [])), (145, (.getfield 1, 3, 10, 25, 0, [(0, 1046)])), (148, (.iload 1, 1, 0, 0, 0, [])), (149, (.ldc 0, 1, 0, 0, 0, [])), (150, (.iastore, 1, 3, 0, 0, [])), (151, (.aload 0, 1, 0, 0, 0, [])), (152, (.invokestatic 0, 3, 200, 1, 1402, [(0, 10)])), (155, (.goto 0, 3, 172, 0, 0, [])), (158, (.aload 0, 1, 0, 0, 0, [])), (159, (.invokestatic 1, 3, 206, 1, 1422, [(0, 10)]))],
  [(162, (.ifCond .eq 0, 3, 170, 0, 0, [])), (165, (.ldc 0, 1, 0, 0, 0, [])), (166, (.istore 3, 1, 0, 0, 0, [])), (167, (.goto 0, 3, 172, 0, 0, [])), (170, (.ldc 0, 1, 0, 0, 0, [])), (171, (.ireturn, 1, 3, 0, 0, [])), (172, (.aload 0, 1, 0, 0, 0, [])), (173, (.invokestatic 1, 3, 208, 1, 1437, [(0, 10)])), (176, (.istore 2, 1, 0, 0, 0, [])), (177, (.goto 0, 3, 28, 0, 0, [])), (180, (.aload 0, 1, 0, 0, 0, [])), (181, (.getfield 0, 3, 10, 14, 0, [(0, 1035)])), (184, (.ldc 0, 1, 0, 0, 3, [])), (185, (.if_icmp .ne 0, 3, 237, 0, 0, [])), (188, (.aload 0, 1, 0, 0, 0, [])), (189, (.getfield 0, 3, 10, 15, 0, [(0, 1036)]))],
  [(192, (.ldc 0, 2, 0, 0, 41, [])), (194, (.if_icmp .ne 0, 3, 237, 0, 0, [])), (197, (.iload 1, 1, 0, 0, 0, [])), (198, (.ifCond .le 0, 3, 237, 0, 0, [])), (201, (.aload 0, 1, 0, 0, 0, [])), (202, (.ldc 0, 1, 0, 0, 0, [])), (203, (.invokestatic 0, 3, 204, 2, 1430, [(0, 10)])), (206, (.aload 0, 1, 0, 0, 0, [])), (207, (.dup, 1, 0, 0, 0, [])), (208, (.getfield 0, 3, 10, 24, 0, [(0, 1045)])), (211, (.ldc 0, 1, 0, 0, 1, [])), (212, (.isub, 1, 0, 0, 0, [])), (213, (.putfield 0, 3, 10, 24, 0, [(0, 1045)])), (216, (.iinc 1 0, 3, 0, 0, (-1), [])), (219, (.aload 0, 1, 0, 0, 0, [])), (220, (.ldc 0, 2, 0, 0, 6, [])), (222, (.invokestatic 0, 3, 204, 2, 1430, [(0, 10)]))],
  [(225, (.aload 0, 1, 0, 0, 0, [])), (226, (.invokestatic 1, 3, 208, 1, 1437, [(0, 10)])), (229, (.istore 2, 1, 0, 0, 0, [])), (230, (.aload 0, 1, 0, 0, 0, [])), (231, (.invokestatic 0, 3, 200, 1, 1402, [(0, 10)])), (234, (.goto 0, 3, 28, 0, 0, [])), (237, (.aload 0, 1, 0, 0, 0, [])), (238, (.invokestatic 1, 3, 205, 1, 1441, [(0, 10)])), (241, (.istore 4, 2, 0, 0, 0, [])), (243, (.iload 4, 2, 0, 0, 0, [])), (245, (.ifCond .eq 0, 3, 266, 0, 0, [])), (248, (.iload 4, 2, 0, 0, 0, [])), (250, (.invokestatic 1, 3, 203, 1, 1434, [])), (253, (.ldc 0, 1, 0, 0, 3, [])), (254, (.if_icmp .ne 0, 3, 268, 0, 0, []))],
  [(257, (.aload 0, 1, 0, 0, 0, [])), (258, (.getfield 1, 3, 10, 25, 0, [(0, 1046)])), (261, (.iload 1, 1, 0, 0, 0, [])), (262, (.iaload, 1, 3, 0, 0, [])), (263, (.ifCond .eq 0, 3, 268, 0, 0, [])), (266, (.ldc 0, 1, 0, 0, 0, [])), (267, (.ireturn, 1, 3, 0, 0, [])), (268, (.aload 0, 1, 0, 0, 0, [])), (269, (.getfield 1, 3, 10, 25, 0, [(0, 1046)])), (272, (.iload 1, 1, 0, 0, 0, [])), (273, (.iload 4, 2, 0, 0, 0, [])), (275, (.invokestatic 1, 3, 203, 1, 1434, [])), (278, (.ldc 0, 1, 0, 0, 3, [])), (279, (.if_icmp .eq 0, 3, 300, 0, 0, [])), (282, (.iload 4, 2, 0, 0, 0, [])), (284, (.invokestatic 1, 3, 203, 1, 1434, [])), (287, (.ldc 0, 1, 0, 0, 3, []))],
  [(288, (.if_icmp .le 0, 3, 304, 0, 0, [])), (291, (.aload 0, 1, 0, 0, 0, [])), (292, (.getfield 1, 3, 10, 25, 0, [(0, 1046)])), (295, (.iload 1, 1, 0, 0, 0, [])), (296, (.iaload, 1, 3, 0, 0, [])), (297, (.ifCond .eq 0, 3, 304, 0, 0, [])), (300, (.ldc 0, 1, 0, 0, 1, [])), (301, (.goto 0, 3, 305, 0, 0, [])), (304, (.ldc 0, 1, 0, 0, 0, [])), (305, (.iastore, 1, 3, 0, 0, [])), (306, (.aload 0, 1, 0, 0, 0, [])), (307, (.iload 4, 2, 0, 0, 0, [])), (309, (.invokestatic 1, 3, 203, 1, 1434, [])), (312, (.invokestatic 0, 3, 204, 2, 1430, [(0, 10)])), (315, (.aload 0, 1, 0, 0, 0, [])), (316, (.getfield 1, 3, 10, 23, 0, [(0, 1044)])), (319, (.aload 0, 1, 0, 0, 0, []))],
  [(320, (.getfield 0, 3, 10, 24, 0, [(0, 1045)])), (323, (.iload 4, 2, 0, 0, 0, [])), (325, (.iastore, 1, 0, 0, 0, [])), (326, (.aload 0, 1, 0, 0, 0, [])), (327, (.dup, 1, 0, 0, 0, [])), (328, (.getfield 0, 3, 10, 24, 0, [(0, 1045)])), (331, (.ldc 0, 1, 0, 0, 1, [])), (332, (.iadd, 1, 0, 0, 0, [])), (333, (.putfield 0, 3, 10, 24, 0, [(0, 1045)])), (336, (.ldc 0, 1, 0, 0, 1, [])), (337, (.istore 3, 1, 0, 0, 0, [])), (338, (.aload 0, 1, 0, 0, 0, [])), (339, (.invokestatic 0, 3, 200, 1, 1402, [(0, 10)])), (342, (.goto 0, 3, 28, 0, 0, [])), (345, (.aload 0, 1, 0, 0, 0, [])), (346, (.ldc 0, 1, 0, 0, 0, [])), (347, (.invokestatic 0, 3, 204, 2, 1430, [(0, 10)])), (350, (.iload 1, 1, 0, 0, 0, [])), (351, (.ifCond .ne 0, 3, 358, 0, 0, []))],
  [(354, (.ldc 0, 1, 0, 0, 1, [])), (355, (.goto 0, 3, 359, 0, 0, [])), (358, (.ldc 0, 1, 0, 0, 0, [])), (359, (.ireturn, 1, 3, 0, 0, []))]]
abbrev m_M_takesE : Nat := 207
/-- M_notsOpen -/
def pm_t208 : pm_T := [[(0, (.ldc 0, 1, 0, 0, 0, [])), (1, (.istore 1, 1, 0, 0, 0, [])), (2, (.ldc 0, 1, 0, 0, 0, [])), (3, (.istore 2, 1, 0, 0, 0, [])), (4, (.iload 2, 1, 0, 0, 0, [])), (5, (.aload 0, 1, 0, 0, 0, [])), (6, (.getfield 0, 3, 10, 24, 0, [(0, 1045)])), (9, (.if_icmp .ge 0, 3, 37, 0, 0, [])), (12, (.iload 1, 1, 0, 0, 0, [])), (13, (.aload 0, 1, 0, 0, 0, [])), (14, (.getfield 1, 3, 10, 23, 0, [(0, 1044)])), (17, (.iload 2, 1, 0, 0, 0, [])), (18, (.iaload, 1, 0, 0, 0, [])), (19, (.ldc 0, 2, 0, 0, (-10), [])), (21, (.if_icmp .ne 0, 3, 28, 0, 0, [])), (24, (.ldc 0, 1, 0, 0, 1, [])), (25, (.goto 0, 3, 29, 0, 0, [])), (28, (.ldc 0, 1, 0, 0, 0, [])), (29, (.iadd, 1, 0, 0, 0, [])), (30, (.istore 1, 1, 0, 0, 0, [])), (31, (.iinc 2 0, 3, 0, 0, 1, []))],
  [(34, (.goto 0, 3, 4, 0, 0, [])), (37, (.iload 1, 1, 0, 0, 0, [])), (38, (.ireturn, 1, 0, 0, 0, []))]]
abbrev m_M_notsOpen : Nat := 208
/-- M_text -/
def pm_t209 : pm_T := [[(0, (.aload 0, 1, 0, 0, 0, [])), (1, (.ldc 0, 1, 0, 0, 0, [])), (2, (.putfield 0, 3, 10, 12, 0, [(0, 1033)])), (5, (.aload 0, 1, 0, 0, 0, [])), (6, (.ldc 0, 1, 0, 0, (-1), [])), (7, (.putfield 0, 3, 10, 16, 0, [(0, 1037)])), (10, (.aload 0, 1, 0, 0, 0, [])), (11, (.invokestatic 0, 3, 200, 1, 1402, [(0, 10)])), (14, (.aload 0, 1, 0, 0, 0, [])), (15, (.invokestatic 1, 3, 201, 1, 1414, [(0, 10)])), (18, (.ifCond .eq 0, 3, 32, 0, 0, [])), (21, (.aload 0, 1, 0, 0, 0, [])), (22, (.invokestatic 1, 3, 207, 1, 1418, [(0, 10)])), (25, (.ifCond .eq 0, 3, 32, 0, 0, [])), (28, (.ldc 0, 1, 0, 0, 1, [])), (29, (.goto 0, 3, 33, 0, 0, []))],
  [(32, (.ldc 0, 1, 0, 0, 0, [])), (33, (.istore 1, 1, 0, 0, 0, [])), (34, (.aload 0, 1, 0, 0, 0, [])), (35, (.ldc 0, 1, 0, 0, 0, [])), (36, (.putfield 0, 3, 10, 11, 0, [(0, 1032)])), (39, (.iload 1, 1, 0, 0, 0, [])), (40, (.ifCond .ne 0, 3, 51, 0, 0, [])), (43, (.ldc 0, 2, 0, 0, (-100), [])), (45, (.aload 0, 1, 0, 0, 0, [])), (46, (.getfield 0, 3, 10, 13, 0, [(0, 1034)])), (49, (.isub, 1, 0, 0, 0, [])), (50, (.ireturn, 1, 0, 0, 0, [])), (51, (.aload 0, 1, 0, 0, 0, [])), (52, (.getfield 1, 3, 10, 0, 0, [(0, 1021)])), (55, (.ldc 0, 2, 0, 0, 6, [])), (57, (.iaload, 1, 0, 0, 0, [])), (58, (.ldc 0, 2, 0, 0, 14, [])), (60, (.if_icmp .ne 0, 3, 66, 0, 0, [])), (63, (.ldc 0, 2, 1149, 0, (-1000000003), []))],
  [(65, (.ireturn, 1, 0, 0, 0, [])), (66, (.aload 0, 1, 0, 0, 0, [])), (67, (.getfield 1, 3, 10, 0, 0, [(0, 1021)])), (70, (.ldc 0, 2, 0, 0, 6, [])), (72, (.iaload, 1, 0, 0, 0, [])), (73, (.istore 2, 1, 0, 0, 0, [])), (74, (.aload 0, 1, 0, 0, 0, [])), (75, (.getfield 1, 3, 10, 0, 0, [(0, 1021)])), (78, (.ldc 0, 3, 0, 0, 239, [])), (81, (.ldc 0, 1, 0, 0, 2, [])), (82, (.iload 2, 1, 0, 0, 0, [])), (83, (.imul, 1, 0, 0, 0, [])), (84, (.iadd, 1, 0, 0, 0, [])), (85, (.ldc 0, 3, 0, 0, 1000, [])), (88, (.aload 0, 1, 0, 0, 0, [])), (89, (.getfield 0, 3, 10, 17, 0, [(0, 1038)])), (92, (.imul, 1, 0, 0, 0, [])), (93, (.aload 0, 1, 0, 0, 0, [])), (94, (.getfield 0, 3, 10, 21, 0, [(0, 1042)]))],
  [(97, (.iadd, 1, 0, 0, 0, [])), (98, (.iastore, 1, 0, 0, 0, [])), (99, (.aload 0, 1, 0, 0, 0, [])), (100, (.getfield 1, 3, 10, 0, 0, [(0, 1021)])), (103, (.ldc 0, 3, 0, 0, 239, [])), (106, (.ldc 0, 1, 0, 0, 2, [])), (107, (.iload 2, 1, 0, 0, 0, [])), (108, (.imul, 1, 0, 0, 0, [])), (109, (.iadd, 1, 0, 0, 0, [])), (110, (.ldc 0, 1, 0, 0, 1, [])), (111, (.iadd, 1, 0, 0, 0, [])), (112, (.aload 0, 1, 0, 0, 0, [])), (113, (.getfield 0, 3, 10, 22, 0, [(0, 1043)])), (116, (.iastore, 1, 0, 0, 0, [])), (117, (.ldc 0, 1, 0, 0, 0, [])), (118, (.istore 3, 1, 0, 0, 0, [])), (119, (.iload 3, 1, 0, 0, 0, [])), (120, (.aload 0, 1, 0, 0, 0, [])), (121, (.getfield 0, 3, 10, 21, 0, [(0, 1042)])), (124, (.if_icmp .ge 0, 3, 154, 0, 0, [])), (127, (.aload 0, 1, 0, 0, 0, []))],
  [(128, (.getfield 1, 3, 10, 0, 0, [(0, 1021)])), (131, (.ldc 0, 3, 0, 0, 267, [])), (134, (.ldc 0, 2, 0, 0, 96, [])), (136, (.iload 2, 1, 0, 0, 0, [])), (137, (.imul, 1, 0, 0, 0, [])), (138, (.iadd, 1, 0, 0, 0, [])), (139, (.iload 3, 1, 0, 0, 0, [])), (140, (.iadd, 1, 0, 0, 0, [])), (141, (.aload 0, 1, 0, 0, 0, [])), (142, (.getfield 1, 3, 10, 20, 0, [(0, 1041)])), (145, (.iload 3, 1, 0, 0, 0, [])), (146, (.iaload, 1, 0, 0, 0, [])), (147, (.iastore, 1, 0, 0, 0, [])), (148, (.iinc 3 0, 3, 0, 0, 1, [])), (151, (.goto 0, 3, 119, 0, 0, [])), (154, (.aload 0, 1, 0, 0, 0, [])), (155, (.getfield 1, 3, 10, 0, 0, [(0, 1021)])), (158, (.ldc 0, 2, 0, 0, 6, []))],
  [(160, (.dup2, 1, 0, 0, 0, [])), (161, (.iaload, 1, 0, 0, 0, [])), (162, (.ldc 0, 1, 0, 0, 1, [])), (163, (.iadd, 1, 0, 0, 0, [])), (164, (.iastore, 1, 0, 0, 0, [])), (165, (.iload 2, 1, 0, 0, 0, [])), (166, (.ireturn, 1, 0, 0, 0, []))]]
abbrev m_M_text : Nat := 209
/-- M_textTold -/
def pm_t210 : pm_T := [[(0, (.iload 1, 1, 0, 0, 0, [])), (1, (.ldc 0, 1, 0, 0, 0, [])), (2, (.aload 0, 1, 0, 0, 0, [])), (3, (.getfield 1, 3, 10, 0, 0, [(0, 1021)])), (6, (.ldc 0, 2, 0, 0, 6, [])), (8, (.iaload, 1, 0, 0, 0, [])), (9, (.ldc 0, 1, 0, 0, 1, [])), (10, (.isub, 1, 0, 0, 0, [])), (11, (.invokestatic 1, 3, 136, 3, 1142, [])), (14, (.ifCond .eq 0, 3, 26, 0, 0, [])), (17, (.iload 2, 1, 0, 0, 0, [])), (18, (.ldc 0, 1, 0, 0, 0, [])), (19, (.ldc 0, 1, 0, 0, 1, [])), (20, (.invokestatic 1, 3, 136, 3, 1142, [])), (23, (.ifCond .ne 0, 3, 29, 0, 0, [])), (26, (.ldc 0, 2, 1148, 0, (-1000000001), [])), (28, (.ireturn, 1, 0, 0, 0, [])), (29, (.iload 2, 1, 0, 0, 0, [])), (30, (.ifCond .ne 0, 3, 52, 0, 0, []))],
  [(33, (.aload 0, 1, 0, 0, 0, [])), (34, (.getfield 1, 3, 10, 0, 0, [(0, 1021)])), (37, (.ldc 0, 3, 0, 0, 239, [])), (40, (.ldc 0, 1, 0, 0, 2, [])), (41, (.iload 1, 1, 0, 0, 0, [])), (42, (.imul, 1, 0, 0, 0, [])), (43, (.iadd, 1, 0, 0, 0, [])), (44, (.iaload, 1, 0, 0, 0, [])), (45, (.ldc 0, 3, 0, 0, 1000, [])), (48, (.idiv, 1, 0, 0, 0, [])), (49, (.goto 0, 3, 66, 0, 0, [])), (52, (.aload 0, 1, 0, 0, 0, [])), (53, (.getfield 1, 3, 10, 0, 0, [(0, 1021)])), (56, (.ldc 0, 3, 0, 0, 239, [])), (59, (.ldc 0, 1, 0, 0, 2, [])), (60, (.iload 1, 1, 0, 0, 0, [])), (61, (.imul, 1, 0, 0, 0, [])), (62, (.iadd, 1, 0, 0, 0, [])), (63, (.ldc 0, 1, 0, 0, 1, []))],
  [(64, (.iadd, 1, 0, 0, 0, [])), (65, (.iaload, 1, 0, 0, 0, [])), (66, (.ireturn, 1, 0, 0, 0, []))]]
abbrev m_M_textTold : Nat := 210
/-- M_counts -/
def pm_t211 : pm_T := [[(0, (.aload 0, 1, 0, 0, 0, [])), (1, (.getfield 1, 3, 10, 0, 0, [(0, 1021)])), (4, (.ldc 0, 2, 0, 0, 6, [])), (6, (.iaload, 1, 0, 0, 0, [])), (7, (.ldc 0, 1, 0, 0, 1, [])), (8, (.isub, 1, 0, 0, 0, [])), (9, (.istore 2, 1, 0, 0, 0, [])), (10, (.iload 2, 1, 0, 0, 0, [])), (11, (.ifCond .lt 0, 3, 42, 0, 0, [])), (14, (.aload 0, 1, 0, 0, 0, [])), (15, (.getfield 1, 3, 10, 0, 0, [(0, 1021)])), (18, (.ldc 0, 3, 0, 0, 239, [])), (21, (.ldc 0, 1, 0, 0, 2, [])), (22, (.iload 2, 1, 0, 0, 0, [])), (23, (.imul, 1, 0, 0, 0, [])), (24, (.iadd, 1, 0, 0, 0, [])), (25, (.iaload, 1, 0, 0, 0, [])), (26, (.ldc 0, 3, 0, 0, 1000, [])), (29, (.idiv, 1, 0, 0, 0, [])), (30, (.iload 1, 1, 0, 0, 0, [])), (31, (.if_icmp .ne 0, 3, 36, 0, 0, []))],
  [(34, (.iload 2, 1, 0, 0, 0, [])), (35, (.ireturn, 1, 0, 0, 0, [])), (36, (.iinc 2 0, 3, 0, 0, (-1), [])), (39, (.goto 0, 3, 10, 0, 0, [])), (42, (.ldc 0, 1, 0, 0, (-1), [])), (43, (.ireturn, 1, 0, 0, 0, []))]]
abbrev m_M_counts : Nat := 211
/-- M_why -/
def pm_t212 : pm_T := [[(0, (.iload 1, 1, 0, 0, 0, [])), (1, (.ldc 0, 1, 0, 0, 0, [])), (2, (.ldc 0, 1, 0, 0, 2, [])), (3, (.invokestatic 1, 3, 136, 3, 1142, [])), (6, (.ifCond .ne 0, 3, 12, 0, 0, [])), (9, (.ldc 0, 2, 1148, 0, (-1000000001), [])), (11, (.ireturn, 1, 0, 0, 0, [])), (12, (.aload 0, 1, 0, 0, 0, [])), (13, (.iload 1, 1, 0, 0, 0, [])), (14, (.invokestatic 1, 3, 211, 2, 1178, [(0, 10)])), (17, (.istore 2, 1, 0, 0, 0, [])), (18, (.iload 2, 1, 0, 0, 0, [])), (19, (.ifCond .ge 0, 3, 27, 0, 0, [])), (22, (.ldc 0, 2, 1208, 0, (-1000000005), [])), (24, (.goto 0, 3, 28, 0, 0, [])), (27, (.iload 2, 1, 0, 0, 0, [])), (28, (.ireturn, 1, 0, 0, 0, []))]]
abbrev m_M_why : Nat := 212
/-- M_two -/
def pm_t213 : pm_T := [[(0, (.iload 0, 1, 0, 0, 0, [])), (1, (.lookupswitch 0 #[], 47, 121, 0, 0, [((-8), 117), ((-7), 113), ((-6), 109), ((-5), 98), ((-4), 87), ((-3), 76), ((-2), 62), ((-1), 48)]))],
  [(48, (.iload 1, 1, 0, 0, 0, [])), (49, (.ifCond .ne 0, 3, 56, 0, 0, [])), (52, (.iload 2, 1, 0, 0, 0, [])), (53, (.ifCond .eq 0, 3, 60, 0, 0, [])), (56, (.ldc 0, 1, 0, 0, 1, [])), (57, (.goto 0, 3, 61, 0, 0, [])), (60, (.ldc 0, 1, 0, 0, 0, [])), (61, (.ireturn, 1, 0, 0, 0, [])), (62, (.iload 1, 1, 0, 0, 0, [])), (63, (.ifCond .eq 0, 3, 74, 0, 0, []))],
  [(66, (.iload 2, 1, 0, 0, 0, [])), (67, (.ifCond .eq 0, 3, 74, 0, 0, [])), (70, (.ldc 0, 1, 0, 0, 1, [])), (71, (.goto 0, 3, 75, 0, 0, [])), (74, (.ldc 0, 1, 0, 0, 0, [])), (75, (.ireturn, 1, 0, 0, 0, [])), (76, (.iload 1, 1, 0, 0, 0, [])), (77, (.iload 2, 1, 0, 0, 0, [])), (78, (.if_icmp .ge 0, 3, 85, 0, 0, [])), (81, (.ldc 0, 1, 0, 0, 1, [])), (82, (.goto 0, 3, 86, 0, 0, [])), (85, (.ldc 0, 1, 0, 0, 0, [])), (86, (.ireturn, 1, 0, 0, 0, [])), (87, (.iload 1, 1, 0, 0, 0, [])), (88, (.iload 2, 1, 0, 0, 0, [])), (89, (.if_icmp .ne 0, 3, 96, 0, 0, [])), (92, (.ldc 0, 1, 0, 0, 1, [])), (93, (.goto 0, 3, 97, 0, 0, []))],
  [(96, (.ldc 0, 1, 0, 0, 0, [])), (97, (.ireturn, 1, 0, 0, 0, [])), (98, (.iload 1, 1, 0, 0, 0, [])), (99, (.iload 2, 1, 0, 0, 0, [])), (100, (.if_icmp .le 0, 3, 107, 0, 0, [])), (103, (.ldc 0, 1, 0, 0, 1, [])), (104, (.goto 0, 3, 108, 0, 0, [])), (107, (.ldc 0, 1, 0, 0, 0, [])), (108, (.ireturn, 1, 0, 0, 0, [])), (109, (.iload 1, 1, 0, 0, 0, [])), (110, (.iload 2, 1, 0, 0, 0, [])), (111, (.iadd, 1, 0, 0, 0, [])), (112, (.ireturn, 1, 0, 0, 0, [])), (113, (.iload 1, 1, 0, 0, 0, [])), (114, (.iload 2, 1, 0, 0, 0, [])), (115, (.isub, 1, 0, 0, 0, [])), (116, (.ireturn, 1, 0, 0, 0, [])), (117, (.iload 1, 1, 0, 0, 0, [])), (118, (.iload 2, 1, 0, 0, 0, [])), (119, (.imul, 1, 0, 0, 0, [])), (120, (.ireturn, 1, 0, 0, 0, [])), (121, (.iload 2, 1, 0, 0, 0, [])), (122, (.ifCond .ne 0, 3, 129, 0, 0, [])), (125, (.ldc 0, 1, 0, 0, 0, [])), (126, (.goto 0, 3, 132, 0, 0, []))],
  [(129, (.iload 1, 1, 0, 0, 0, [])), (130, (.iload 2, 1, 0, 0, 0, [])), (131, (.idiv, 1, 0, 0, 0, [])), (132, (.ireturn, 1, 0, 0, 0, []))]]
abbrev m_M_two : Nat := 213
/-- M_worksOut -/
def pm_t214 : pm_T := [[(0, (.ldc 0, 1, 0, 0, 0, [])), (1, (.istore 2, 1, 0, 0, 0, [])), (2, (.aload 0, 1, 0, 0, 0, [])), (3, (.getfield 1, 3, 10, 0, 0, [(0, 1021)])), (6, (.ldc 0, 3, 0, 0, 239, [])), (9, (.ldc 0, 1, 0, 0, 2, [])), (10, (.iload 1, 1, 0, 0, 0, [])), (11, (.imul, 1, 0, 0, 0, [])), (12, (.iadd, 1, 0, 0, 0, [])), (13, (.iaload, 1, 0, 0, 0, [])), (14, (.ldc 0, 3, 0, 0, 1000, [])), (17, (.irem, 1, 0, 0, 0, [])), (18, (.istore 3, 1, 0, 0, 0, [])), (19, (.ldc 0, 1, 0, 0, 0, [])), (20, (.istore 4, 2, 0, 0, 0, [])), (22, (.iload 4, 2, 0, 0, 0, [])), (24, (.iload 3, 1, 0, 0, 0, [])), (25, (.if_icmp .ge 0, 3, 157, 0, 0, [])), (28, (.aload 0, 1, 0, 0, 0, [])), (29, (.getfield 1, 3, 10, 0, 0, [(0, 1021)]))],
  [(32, (.ldc 0, 3, 0, 0, 267, [])), (35, (.ldc 0, 2, 0, 0, 96, [])), (37, (.iload 1, 1, 0, 0, 0, [])), (38, (.imul, 1, 0, 0, 0, [])), (39, (.iadd, 1, 0, 0, 0, [])), (40, (.iload 4, 2, 0, 0, 0, [])), (42, (.iadd, 1, 0, 0, 0, [])), (43, (.iaload, 1, 0, 0, 0, [])), (44, (.istore 5, 2, 0, 0, 0, [])), (46, (.iload 5, 2, 0, 0, 0, [])), (48, (.ifCond .lt 0, 3, 87, 0, 0, [])), (51, (.aload 0, 1, 0, 0, 0, [])), (52, (.getfield 1, 3, 10, 26, 0, [(0, 1047)])), (55, (.iload 2, 1, 0, 0, 0, [])), (56, (.iload 5, 2, 0, 0, 0, [])), (58, (.ldc 0, 3, 0, 0, 10000, [])), (61, (.if_icmp .ge 0, 3, 69, 0, 0, []))],
  [(64, (.iload 5, 2, 0, 0, 0, [])), (66, (.goto 0, 3, 80, 0, 0, [])), (69, (.aload 0, 1, 0, 0, 0, [])), (70, (.getfield 1, 3, 10, 27, 0, [(0, 1048)])), (73, (.iload 5, 2, 0, 0, 0, [])), (75, (.ldc 0, 3, 0, 0, 10000, [])), (78, (.isub, 1, 0, 0, 0, [])), (79, (.iaload, 1, 0, 0, 0, [])), (80, (.iastore, 1, 0, 0, 0, [])), (81, (.iinc 2 0, 3, 0, 0, 1, [])), (84, (.goto 0, 3, 151, 0, 0, [])), (87, (.iload 5, 2, 0, 0, 0, [])), (89, (.ldc 0, 2, 0, 0, (-10), [])), (91, (.if_icmp .ne 0, 3, 121, 0, 0, [])), (94, (.aload 0, 1, 0, 0, 0, [])), (95, (.getfield 1, 3, 10, 26, 0, [(0, 1047)]))],
  [(98, (.iload 2, 1, 0, 0, 0, [])), (99, (.ldc 0, 1, 0, 0, 1, [])), (100, (.isub, 1, 0, 0, 0, [])), (101, (.aload 0, 1, 0, 0, 0, [])), (102, (.getfield 1, 3, 10, 26, 0, [(0, 1047)])), (105, (.iload 2, 1, 0, 0, 0, [])), (106, (.ldc 0, 1, 0, 0, 1, [])), (107, (.isub, 1, 0, 0, 0, [])), (108, (.iaload, 1, 0, 0, 0, [])), (109, (.ifCond .ne 0, 3, 116, 0, 0, [])), (112, (.ldc 0, 1, 0, 0, 1, [])), (113, (.goto 0, 3, 117, 0, 0, [])), (116, (.ldc 0, 1, 0, 0, 0, [])), (117, (.iastore, 1, 0, 0, 0, [])), (118, (.goto 0, 3, 151, 0, 0, [])), (121, (.iinc 2 0, 3, 0, 0, (-1), [])), (124, (.aload 0, 1, 0, 0, 0, [])), (125, (.getfield 1, 3, 10, 26, 0, [(0, 1047)]))],
  [(128, (.iload 2, 1, 0, 0, 0, [])), (129, (.ldc 0, 1, 0, 0, 1, [])), (130, (.isub, 1, 0, 0, 0, [])), (131, (.iload 5, 2, 0, 0, 0, [])), (133, (.aload 0, 1, 0, 0, 0, [])), (134, (.getfield 1, 3, 10, 26, 0, [(0, 1047)])), (137, (.iload 2, 1, 0, 0, 0, [])), (138, (.ldc 0, 1, 0, 0, 1, [])), (139, (.isub, 1, 0, 0, 0, [])), (140, (.iaload, 1, 0, 0, 0, [])), (141, (.aload 0, 1, 0, 0, 0, [])), (142, (.getfield 1, 3, 10, 26, 0, [(0, 1047)])), (145, (.iload 2, 1, 0, 0, 0, [])), (146, (.iaload, 1, 0, 0, 0, [])), (147, (.invokestatic 1, 3, 213, 3, 1186, [])), (150, (.iastore, 1, 0, 0, 0, [])), (151, (.iinc 4 0, 3, 0, 0, 1, [])), (154, (.goto 0, 3, 22, 0, 0, [])), (157, (.aload 0, 1, 0, 0, 0, [])), (158, (.getfield 1, 3, 10, 26, 0, [(0, 1047)]))],
  [(161, (.ldc 0, 1, 0, 0, 0, [])), (162, (.iaload, 1, 0, 0, 0, [])), (163, (.ireturn, 1, 0, 0, 0, []))]]
abbrev m_M_worksOut : Nat := 214
/-- M_isSheet -/
def pm_t215 : pm_T := [[(0, (.iload 0, 1, 0, 0, 0, [])), (1, (.ldc 0, 1, 0, 0, 0, [])), (2, (.ldc 0, 1, 0, 0, 3, [])), (3, (.invokestatic 1, 3, 136, 3, 1142, [])), (6, (.ireturn, 1, 3, 0, 0, []))]]
abbrev m_M_isSheet : Nat := 215
/-- M_isSlot -/
def pm_t216 : pm_T := [[(0, (.iload 0, 1, 0, 0, 0, [])), (1, (.ldc 0, 1, 0, 0, 0, [])), (2, (.ldc 0, 1, 0, 0, 4, [])), (3, (.invokestatic 1, 3, 136, 3, 1142, [])), (6, (.ireturn, 1, 3, 0, 0, []))]]
abbrev m_M_isSlot : Nat := 216
/-- M_sheet -/
def pm_t217 : pm_T := [[(0, (.iload 1, 1, 0, 0, 0, [])), (1, (.invokestatic 1, 3, 215, 1, 1315, [])), (4, (.ifCond .eq 0, 3, 26, 0, 0, [])), (7, (.iload 2, 1, 0, 0, 0, [])), (8, (.ldc 0, 1, 0, 0, (-1), [])), (9, (.ldc 0, 1, 0, 0, 1, [])), (10, (.invokestatic 1, 3, 136, 3, 1142, [])), (13, (.ifCond .eq 0, 3, 26, 0, 0, [])), (16, (.iload 2, 1, 0, 0, 0, [])), (17, (.ifCond .lt 0, 3, 29, 0, 0, [])), (20, (.iload 3, 1, 0, 0, 0, [])), (21, (.ldc 0, 2, 0, 0, 24, [])), (23, (.if_icmp .le 0, 3, 29, 0, 0, [])), (26, (.ldc 0, 2, 1148, 0, (-1000000001), [])), (28, (.ireturn, 1, 0, 0, 0, [])), (29, (.iload 2, 1, 0, 0, 0, [])), (30, (.ifCond .lt 0, 3, 40, 0, 0, []))],
  [(33, (.iload 3, 1, 0, 0, 0, [])), (34, (.ifCond .ge 0, 3, 40, 0, 0, [])), (37, (.ldc 0, 2, 1334, 0, (-1000000014), [])), (39, (.ireturn, 1, 0, 0, 0, [])), (40, (.aload 0, 1, 0, 0, 0, [])), (41, (.getfield 1, 3, 10, 28, 0, [(0, 1049)])), (44, (.iload 1, 1, 0, 0, 0, [])), (45, (.iload 2, 1, 0, 0, 0, [])), (46, (.iastore, 1, 0, 0, 0, [])), (47, (.aload 0, 1, 0, 0, 0, [])), (48, (.getfield 1, 3, 10, 29, 0, [(0, 1050)])), (51, (.iload 1, 1, 0, 0, 0, [])), (52, (.iload 2, 1, 0, 0, 0, [])), (53, (.ifCond .ge 0, 3, 60, 0, 0, [])), (56, (.ldc 0, 1, 0, 0, 0, [])), (57, (.goto 0, 3, 61, 0, 0, [])), (60, (.iload 3, 1, 0, 0, 0, [])), (61, (.iastore, 1, 0, 0, 0, [])), (62, (.ldc 0, 1, 0, 0, 0, [])), (63, (.istore 4, 2, 0, 0, 0, []))],
  [(65, (.iload 4, 2, 0, 0, 0, [])), (67, (.ldc 0, 2, 0, 0, 24, [])), (69, (.if_icmp .ge 0, 3, 91, 0, 0, [])), (72, (.aload 0, 1, 0, 0, 0, [])), (73, (.getfield 1, 3, 10, 30, 0, [(0, 1051)])), (76, (.ldc 0, 2, 0, 0, 24, [])), (78, (.iload 1, 1, 0, 0, 0, [])), (79, (.imul, 1, 0, 0, 0, [])), (80, (.iload 4, 2, 0, 0, 0, [])), (82, (.iadd, 1, 0, 0, 0, [])), (83, (.ldc 0, 1, 0, 0, 0, [])), (84, (.iastore, 1, 0, 0, 0, [])), (85, (.iinc 4 0, 3, 0, 0, 1, [])), (88, (.goto 0, 3, 65, 0, 0, [])), (91, (.aload 0, 1, 0, 0, 0, [])), (92, (.getfield 1, 3, 10, 29, 0, [(0, 1050)])), (95, (.iload 1, 1, 0, 0, 0, []))],
  [(96, (.iaload, 1, 0, 0, 0, [])), (97, (.ireturn, 1, 0, 0, 0, []))]]
abbrev m_M_sheet : Nat := 217
/-- M_mark -/
def pm_t218 : pm_T := [[(0, (.iload 1, 1, 0, 0, 0, [])), (1, (.invokestatic 1, 3, 215, 1, 1315, [])), (4, (.ifCond .ne 0, 3, 10, 0, 0, [])), (7, (.ldc 0, 2, 1148, 0, (-1000000001), [])), (9, (.ireturn, 1, 0, 0, 0, [])), (10, (.aload 0, 1, 0, 0, 0, [])), (11, (.getfield 1, 3, 10, 28, 0, [(0, 1049)])), (14, (.iload 1, 1, 0, 0, 0, [])), (15, (.iaload, 1, 0, 0, 0, [])), (16, (.ifCond .ge 0, 3, 22, 0, 0, [])), (19, (.ldc 0, 2, 1318, 0, (-1000000011), [])), (21, (.ireturn, 1, 0, 0, 0, [])), (22, (.iload 2, 1, 0, 0, 0, [])), (23, (.ldc 0, 1, 0, 0, 0, [])), (24, (.aload 0, 1, 0, 0, 0, [])), (25, (.getfield 1, 3, 10, 29, 0, [(0, 1050)])), (28, (.iload 1, 1, 0, 0, 0, [])), (29, (.iaload, 1, 0, 0, 0, [])), (30, (.ldc 0, 1, 0, 0, 1, [])), (31, (.isub, 1, 0, 0, 0, []))],
  [(32, (.invokestatic 1, 3, 136, 3, 1142, [])), (35, (.ifCond .ne 0, 3, 42, 0, 0, [])), (38, (.ldc 0, 3, 1461, 0, (-1000000013), [])), (41, (.ireturn, 1, 0, 0, 0, [])), (42, (.aload 0, 1, 0, 0, 0, [])), (43, (.getfield 1, 3, 10, 28, 0, [(0, 1049)])), (46, (.iload 1, 1, 0, 0, 0, [])), (47, (.iaload, 1, 0, 0, 0, [])), (48, (.ifCond .ne 0, 3, 60, 0, 0, [])), (51, (.iload 3, 1, 0, 0, 0, [])), (52, (.ldc 0, 2, 1208, 0, (-1000000005), [])), (54, (.if_icmp .ne 0, 3, 60, 0, 0, [])), (57, (.ldc 0, 2, 1216, 0, (-1000000012), [])), (59, (.ireturn, 1, 0, 0, 0, [])), (60, (.aload 0, 1, 0, 0, 0, [])), (61, (.getfield 1, 3, 10, 28, 0, [(0, 1049)]))],
  [(64, (.iload 1, 1, 0, 0, 0, [])), (65, (.iaload, 1, 0, 0, 0, [])), (66, (.ldc 0, 1, 0, 0, 1, [])), (67, (.if_icmp .ne 0, 3, 92, 0, 0, [])), (70, (.iload 3, 1, 0, 0, 0, [])), (71, (.ldc 0, 2, 1208, 0, (-1000000005), [])), (73, (.if_icmp .eq 0, 3, 92, 0, 0, [])), (76, (.iload 3, 1, 0, 0, 0, [])), (77, (.ldc 0, 3, 1462, 0, (-99999), [])), (80, (.ldc 0, 3, 1463, 0, 99999, [])), (83, (.invokestatic 1, 3, 136, 3, 1142, [])), (86, (.ifCond .ne 0, 3, 92, 0, 0, [])), (89, (.ldc 0, 2, 1148, 0, (-1000000001), [])), (91, (.ireturn, 1, 0, 0, 0, [])), (92, (.aload 0, 1, 0, 0, 0, [])), (93, (.getfield 1, 3, 10, 30, 0, [(0, 1051)]))],
  [(96, (.ldc 0, 2, 0, 0, 24, [])), (98, (.iload 1, 1, 0, 0, 0, [])), (99, (.imul, 1, 0, 0, 0, [])), (100, (.iload 2, 1, 0, 0, 0, [])), (101, (.iadd, 1, 0, 0, 0, [])), (102, (.aload 0, 1, 0, 0, 0, [])), (103, (.getfield 1, 3, 10, 28, 0, [(0, 1049)])), (106, (.iload 1, 1, 0, 0, 0, [])), (107, (.iaload, 1, 0, 0, 0, [])), (108, (.ifCond .ne 0, 3, 116, 0, 0, [])), (111, (.iload 3, 1, 0, 0, 0, [])), (112, (.i2s, 1, 0, 0, 0, [])), (113, (.goto 0, 3, 117, 0, 0, [])), (116, (.iload 3, 1, 0, 0, 0, [])), (117, (.iastore, 1, 0, 0, 0, [])), (118, (.ldc 0, 1, 0, 0, 1, [])), (119, (.ireturn, 1, 0, 0, 0, []))]]
abbrev m_M_mark : Nat := 218
/-- M_pour -/
def pm_t219 : pm_T := [[(0, (.iload 1, 1, 0, 0, 0, [])), (1, (.invokestatic 1, 3, 215, 1, 1315, [])), (4, (.ifCond .ne 0, 3, 10, 0, 0, [])), (7, (.ldc 0, 2, 1148, 0, (-1000000001), [])), (9, (.ireturn, 1, 0, 0, 0, [])), (10, (.aload 0, 1, 0, 0, 0, [])), (11, (.getfield 1, 3, 10, 28, 0, [(0, 1049)])), (14, (.iload 1, 1, 0, 0, 0, [])), (15, (.iaload, 1, 0, 0, 0, [])), (16, (.ifCond .ge 0, 3, 22, 0, 0, [])), (19, (.ldc 0, 2, 1318, 0, (-1000000011), [])), (21, (.ireturn, 1, 0, 0, 0, [])), (22, (.ldc 0, 1, 0, 0, 0, [])), (23, (.istore 2, 1, 0, 0, 0, [])), (24, (.ldc 0, 1, 0, 0, 0, [])), (25, (.istore 3, 1, 0, 0, 0, [])), (26, (.iload 3, 1, 0, 0, 0, [])), (27, (.aload 0, 1, 0, 0, 0, [])), (28, (.getfield 1, 3, 10, 29, 0, [(0, 1050)])), (31, (.iload 1, 1, 0, 0, 0, []))],
  [(32, (.iaload, 1, 0, 0, 0, [])), (33, (.if_icmp .ge 0, 3, 119, 0, 0, [])), (36, (.iload 3, 1, 0, 0, 0, [])), (37, (.aload 0, 1, 0, 0, 0, [])), (38, (.getfield 1, 3, 10, 0, 0, [(0, 1021)])), (41, (.ldc 0, 1, 0, 0, 1, [])), (42, (.iaload, 1, 0, 0, 0, [])), (43, (.if_icmp .ge 0, 3, 119, 0, 0, [])), (46, (.aload 0, 1, 0, 0, 0, [])), (47, (.getfield 1, 3, 10, 30, 0, [(0, 1051)])), (50, (.ldc 0, 2, 0, 0, 24, [])), (52, (.iload 1, 1, 0, 0, 0, [])), (53, (.imul, 1, 0, 0, 0, [])), (54, (.iload 3, 1, 0, 0, 0, [])), (55, (.iadd, 1, 0, 0, 0, [])), (56, (.iaload, 1, 0, 0, 0, [])), (57, (.istore 4, 2, 0, 0, 0, [])), (59, (.iload 4, 2, 0, 0, 0, [])), (61, (.ldc 0, 2, 1208, 0, (-1000000005), [])), (63, (.if_icmp .ne 0, 3, 75, 0, 0, []))],
  [(66, (.aload 0, 1, 0, 0, 0, [])), (67, (.iload 3, 1, 0, 0, 0, [])), (68, (.ldc 0, 1, 0, 0, 2, [])), (69, (.invokestatic 1, 3, 141, 3, 1166, [(0, 10)])), (72, (.goto 0, 3, 83, 0, 0, [])), (75, (.iload 4, 2, 0, 0, 0, [])), (77, (.ldc 0, 1, 0, 0, 0, [])), (78, (.ldc 0, 2, 0, 0, 99, [])), (80, (.invokestatic 1, 3, 137, 3, 1189, [])), (83, (.istore 5, 2, 0, 0, 0, [])), (85, (.iload 2, 1, 0, 0, 0, [])), (86, (.aload 0, 1, 0, 0, 0, [])), (87, (.ldc 0, 2, 0, 0, 7, [])), (89, (.ldc 0, 2, 0, 0, 29, [])), (91, (.iload 3, 1, 0, 0, 0, [])), (92, (.imul, 1, 0, 0, 0, [])), (93, (.iadd, 1, 0, 0, 0, [])), (94, (.ldc 0, 1, 0, 0, 2, [])), (95, (.iadd, 1, 0, 0, 0, []))],
  [(96, (.iload 5, 2, 0, 0, 0, [])), (98, (.invokestatic 1, 3, 143, 3, 1221, [(0, 10)])), (101, (.iload 5, 2, 0, 0, 0, [])), (103, (.if_icmp .ne 0, 3, 110, 0, 0, [])), (106, (.ldc 0, 1, 0, 0, 0, [])), (107, (.goto 0, 3, 111, 0, 0, [])), (110, (.ldc 0, 1, 0, 0, 1, [])), (111, (.iadd, 1, 0, 0, 0, [])), (112, (.istore 2, 1, 0, 0, 0, [])), (113, (.iinc 3 0, 3, 0, 0, 1, [])), (116, (.goto 0, 3, 26, 0, 0, [])), (119, (.iload 2, 1, 0, 0, 0, [])), (120, (.ireturn, 1, 0, 0, 0, []))]]
abbrev m_M_pour : Nat := 219
/-- M_reads -/
def pm_t220 : pm_T := [[(0, (.iload 1, 1, 0, 0, 0, [])), (1, (.invokestatic 1, 3, 215, 1, 1315, [])), (4, (.ifCond .ne 0, 3, 10, 0, 0, [])), (7, (.ldc 0, 2, 1148, 0, (-1000000001), [])), (9, (.ireturn, 1, 0, 0, 0, [])), (10, (.aload 0, 1, 0, 0, 0, [])), (11, (.getfield 1, 3, 10, 28, 0, [(0, 1049)])), (14, (.iload 1, 1, 0, 0, 0, [])), (15, (.iaload, 1, 0, 0, 0, [])), (16, (.ifCond .ge 0, 3, 22, 0, 0, [])), (19, (.ldc 0, 2, 1318, 0, (-1000000011), [])), (21, (.ireturn, 1, 0, 0, 0, [])), (22, (.ldc 0, 1, 0, 0, 0, [])), (23, (.istore 2, 1, 0, 0, 0, [])), (24, (.iload 2, 1, 0, 0, 0, [])), (25, (.aload 0, 1, 0, 0, 0, [])), (26, (.getfield 1, 3, 10, 29, 0, [(0, 1050)])), (29, (.iload 1, 1, 0, 0, 0, [])), (30, (.iaload, 1, 0, 0, 0, [])), (31, (.if_icmp .ge 0, 3, 78, 0, 0, []))],
  [(34, (.aload 0, 1, 0, 0, 0, [])), (35, (.getfield 1, 3, 10, 30, 0, [(0, 1051)])), (38, (.ldc 0, 2, 0, 0, 24, [])), (40, (.iload 1, 1, 0, 0, 0, [])), (41, (.imul, 1, 0, 0, 0, [])), (42, (.iload 2, 1, 0, 0, 0, [])), (43, (.iadd, 1, 0, 0, 0, [])), (44, (.iaload, 1, 0, 0, 0, [])), (45, (.istore 3, 1, 0, 0, 0, [])), (46, (.iload 3, 1, 0, 0, 0, [])), (47, (.ldc 0, 2, 1208, 0, (-1000000005), [])), (49, (.if_icmp .eq 0, 3, 72, 0, 0, [])), (52, (.aload 0, 1, 0, 0, 0, [])), (53, (.iload 2, 1, 0, 0, 0, [])), (54, (.invokestatic 1, 3, 139, 2, 1162, [(0, 10)])), (57, (.ifCond .eq 0, 3, 70, 0, 0, [])), (60, (.iload 3, 1, 0, 0, 0, [])), (61, (.aload 0, 1, 0, 0, 0, [])), (62, (.iload 2, 1, 0, 0, 0, [])), (63, (.ldc 0, 1, 0, 0, 4, []))],
  [(64, (.invokestatic 1, 3, 141, 3, 1166, [(0, 10)])), (67, (.if_icmp .eq 0, 3, 72, 0, 0, [])), (70, (.iload 2, 1, 0, 0, 0, [])), (71, (.ireturn, 1, 0, 0, 0, [])), (72, (.iinc 2 0, 3, 0, 0, 1, [])), (75, (.goto 0, 3, 24, 0, 0, [])), (78, (.ldc 0, 2, 1208, 0, (-1000000005), [])), (80, (.ireturn, 1, 0, 0, 0, []))]]
abbrev m_M_reads : Nat := 220
/-- M_copy -/
def pm_t221 : pm_T := [[(0, (.iload 1, 1, 0, 0, 0, [])), (1, (.invokestatic 1, 3, 215, 1, 1315, [])), (4, (.ifCond .eq 0, 3, 14, 0, 0, [])), (7, (.iload 3, 1, 0, 0, 0, [])), (8, (.invokestatic 1, 3, 215, 1, 1315, [])), (11, (.ifCond .ne 0, 3, 17, 0, 0, [])), (14, (.ldc 0, 2, 1148, 0, (-1000000001), [])), (16, (.ireturn, 1, 0, 0, 0, [])), (17, (.aload 0, 1, 0, 0, 0, [])), (18, (.getfield 1, 3, 10, 28, 0, [(0, 1049)])), (21, (.iload 1, 1, 0, 0, 0, [])), (22, (.iaload, 1, 0, 0, 0, [])), (23, (.ifCond .lt 0, 3, 35, 0, 0, [])), (26, (.aload 0, 1, 0, 0, 0, [])), (27, (.getfield 1, 3, 10, 28, 0, [(0, 1049)])), (30, (.iload 3, 1, 0, 0, 0, [])), (31, (.iaload, 1, 0, 0, 0, []))],
  [(32, (.ifCond .ge 0, 3, 38, 0, 0, [])), (35, (.ldc 0, 2, 1318, 0, (-1000000011), [])), (37, (.ireturn, 1, 0, 0, 0, [])), (38, (.aload 0, 1, 0, 0, 0, [])), (39, (.getfield 1, 3, 10, 28, 0, [(0, 1049)])), (42, (.iload 1, 1, 0, 0, 0, [])), (43, (.iaload, 1, 0, 0, 0, [])), (44, (.aload 0, 1, 0, 0, 0, [])), (45, (.getfield 1, 3, 10, 28, 0, [(0, 1049)])), (48, (.iload 3, 1, 0, 0, 0, [])), (49, (.iaload, 1, 0, 0, 0, [])), (50, (.if_icmp .eq 0, 3, 56, 0, 0, [])), (53, (.ldc 0, 2, 1216, 0, (-1000000012), [])), (55, (.ireturn, 1, 0, 0, 0, [])), (56, (.iload 2, 1, 0, 0, 0, [])), (57, (.ifCond .lt 0, 3, 97, 0, 0, [])), (60, (.iload 4, 2, 0, 0, 0, [])), (62, (.ifCond .lt 0, 3, 97, 0, 0, []))],
  [(65, (.iload 5, 2, 0, 0, 0, [])), (67, (.ifCond .lt 0, 3, 97, 0, 0, [])), (70, (.iload 2, 1, 0, 0, 0, [])), (71, (.aload 0, 1, 0, 0, 0, [])), (72, (.getfield 1, 3, 10, 29, 0, [(0, 1050)])), (75, (.iload 1, 1, 0, 0, 0, [])), (76, (.iaload, 1, 0, 0, 0, [])), (77, (.iload 5, 2, 0, 0, 0, [])), (79, (.isub, 1, 0, 0, 0, [])), (80, (.if_icmp .gt 0, 3, 97, 0, 0, [])), (83, (.iload 4, 2, 0, 0, 0, [])), (85, (.aload 0, 1, 0, 0, 0, [])), (86, (.getfield 1, 3, 10, 29, 0, [(0, 1050)])), (89, (.iload 3, 1, 0, 0, 0, [])), (90, (.iaload, 1, 0, 0, 0, [])), (91, (.iload 5, 2, 0, 0, 0, [])), (93, (.isub, 1, 0, 0, 0, [])), (94, (.if_icmp .le 0, 3, 101, 0, 0, []))],
  [(97, (.ldc 0, 3, 1461, 0, (-1000000013), [])), (100, (.ireturn, 1, 0, 0, 0, [])), (101, (.ldc 0, 1, 0, 0, 0, [])), (102, (.istore 6, 2, 0, 0, 0, [])), (104, (.iload 6, 2, 0, 0, 0, [])), (106, (.iload 5, 2, 0, 0, 0, [])), (108, (.if_icmp .ge 0, 3, 138, 0, 0, [])), (111, (.aload 0, 1, 0, 0, 0, [])), (112, (.getfield 1, 3, 10, 35, 0, [(0, 1056)])), (115, (.iload 6, 2, 0, 0, 0, [])), (117, (.aload 0, 1, 0, 0, 0, [])), (118, (.getfield 1, 3, 10, 30, 0, [(0, 1051)])), (121, (.ldc 0, 2, 0, 0, 24, [])), (123, (.iload 1, 1, 0, 0, 0, [])), (124, (.imul, 1, 0, 0, 0, [])), (125, (.iload 2, 1, 0, 0, 0, [])), (126, (.iadd, 1, 0, 0, 0, [])), (127, (.iload 6, 2, 0, 0, 0, []))],
  [(129, (.iadd, 1, 0, 0, 0, [])), (130, (.iaload, 1, 0, 0, 0, [])), (131, (.iastore, 1, 0, 0, 0, [])), (132, (.iinc 6 0, 3, 0, 0, 1, [])), (135, (.goto 0, 3, 104, 0, 0, [])), (138, (.ldc 0, 1, 0, 0, 0, [])), (139, (.istore 6, 2, 0, 0, 0, [])), (141, (.iload 6, 2, 0, 0, 0, [])), (143, (.iload 5, 2, 0, 0, 0, [])), (145, (.if_icmp .ge 0, 3, 176, 0, 0, [])), (148, (.aload 0, 1, 0, 0, 0, [])), (149, (.getfield 1, 3, 10, 30, 0, [(0, 1051)])), (152, (.ldc 0, 2, 0, 0, 24, [])), (154, (.iload 3, 1, 0, 0, 0, [])), (155, (.imul, 1, 0, 0, 0, [])), (156, (.iload 4, 2, 0, 0, 0, [])), (158, (.iadd, 1, 0, 0, 0, [])), (159, (.iload 6, 2, 0, 0, 0, []))],
  [(161, (.iadd, 1, 0, 0, 0, [])), (162, (.aload 0, 1, 0, 0, 0, [])), (163, (.getfield 1, 3, 10, 35, 0, [(0, 1056)])), (166, (.iload 6, 2, 0, 0, 0, [])), (168, (.iaload, 1, 0, 0, 0, [])), (169, (.iastore, 1, 0, 0, 0, [])), (170, (.iinc 6 0, 3, 0, 0, 1, [])), (173, (.goto 0, 3, 141, 0, 0, [])), (176, (.iload 5, 2, 0, 0, 0, [])), (178, (.ireturn, 1, 0, 0, 0, []))]]
abbrev m_M_copy : Nat := 221
/-- M_lay -/
def pm_t222 : pm_T := [[(0, (.iload 1, 1, 0, 0, 0, [])), (1, (.invokestatic 1, 3, 216, 1, 1480, [])), (4, (.ifCond .eq 0, 3, 41, 0, 0, [])), (7, (.iload 2, 1, 0, 0, 0, [])), (8, (.ldc 0, 1, 0, 0, 0, [])), (9, (.ldc 0, 1, 0, 0, 3, [])), (10, (.invokestatic 1, 3, 136, 3, 1142, [])), (13, (.ifCond .eq 0, 3, 41, 0, 0, [])), (16, (.iload 2, 1, 0, 0, 0, [])), (17, (.ldc 0, 1, 0, 0, 1, [])), (18, (.if_icmp .ne 0, 3, 29, 0, 0, [])), (21, (.aload 0, 1, 0, 0, 0, [])), (22, (.iload 3, 1, 0, 0, 0, [])), (23, (.invokestatic 1, 3, 139, 2, 1162, [(0, 10)])), (26, (.ifCond .eq 0, 3, 41, 0, 0, [])), (29, (.iload 2, 1, 0, 0, 0, [])), (30, (.ldc 0, 1, 0, 0, 2, [])), (31, (.if_icmp .ne 0, 3, 44, 0, 0, []))],
  [(34, (.iload 3, 1, 0, 0, 0, [])), (35, (.invokestatic 1, 3, 215, 1, 1315, [])), (38, (.ifCond .ne 0, 3, 44, 0, 0, [])), (41, (.ldc 0, 2, 1148, 0, (-1000000001), [])), (43, (.ireturn, 1, 0, 0, 0, [])), (44, (.iload 2, 1, 0, 0, 0, [])), (45, (.ldc 0, 1, 0, 0, 2, [])), (46, (.if_icmp .ne 0, 3, 61, 0, 0, [])), (49, (.aload 0, 1, 0, 0, 0, [])), (50, (.getfield 1, 3, 10, 28, 0, [(0, 1049)])), (53, (.iload 3, 1, 0, 0, 0, [])), (54, (.iaload, 1, 0, 0, 0, [])), (55, (.ifCond .ge 0, 3, 61, 0, 0, [])), (58, (.ldc 0, 2, 1318, 0, (-1000000011), [])), (60, (.ireturn, 1, 0, 0, 0, [])), (61, (.aload 0, 1, 0, 0, 0, [])), (62, (.getfield 1, 3, 10, 31, 0, [(0, 1052)]))],
  [(65, (.iload 1, 1, 0, 0, 0, [])), (66, (.iaload, 1, 0, 0, 0, [])), (67, (.istore 4, 2, 0, 0, 0, [])), (69, (.aload 0, 1, 0, 0, 0, [])), (70, (.getfield 1, 3, 10, 31, 0, [(0, 1052)])), (73, (.iload 1, 1, 0, 0, 0, [])), (74, (.iload 2, 1, 0, 0, 0, [])), (75, (.iastore, 1, 0, 0, 0, [])), (76, (.aload 0, 1, 0, 0, 0, [])), (77, (.getfield 1, 3, 10, 32, 0, [(0, 1053)])), (80, (.iload 1, 1, 0, 0, 0, [])), (81, (.iload 2, 1, 0, 0, 0, [])), (82, (.ldc 0, 1, 0, 0, 1, [])), (83, (.if_icmp .ne 0, 3, 95, 0, 0, [])), (86, (.aload 0, 1, 0, 0, 0, [])), (87, (.iload 3, 1, 0, 0, 0, [])), (88, (.ldc 0, 1, 0, 0, 0, [])), (89, (.invokestatic 1, 3, 141, 3, 1166, [(0, 10)])), (92, (.goto 0, 3, 110, 0, 0, [])), (95, (.iload 2, 1, 0, 0, 0, []))],
  [(96, (.ldc 0, 1, 0, 0, 2, [])), (97, (.if_icmp .ne 0, 3, 109, 0, 0, [])), (100, (.aload 0, 1, 0, 0, 0, [])), (101, (.getfield 1, 3, 10, 29, 0, [(0, 1050)])), (104, (.iload 3, 1, 0, 0, 0, [])), (105, (.iaload, 1, 0, 0, 0, [])), (106, (.goto 0, 3, 110, 0, 0, [])), (109, (.iload 3, 1, 0, 0, 0, [])), (110, (.iastore, 1, 0, 0, 0, [])), (111, (.aload 0, 1, 0, 0, 0, [])), (112, (.getfield 1, 3, 10, 33, 0, [(0, 1054)])), (115, (.iload 1, 1, 0, 0, 0, [])), (116, (.iload 2, 1, 0, 0, 0, [])), (117, (.ldc 0, 1, 0, 0, 1, [])), (118, (.if_icmp .ne 0, 3, 129, 0, 0, [])), (121, (.aload 0, 1, 0, 0, 0, [])), (122, (.iload 3, 1, 0, 0, 0, [])), (123, (.invokestatic 1, 3, 150, 2, 1200, [(0, 10)])), (126, (.goto 0, 3, 130, 0, 0, []))],
  [(129, (.ldc 0, 1, 0, 0, 0, [])), (130, (.iastore, 1, 0, 0, 0, [])), (131, (.ldc 0, 1, 0, 0, 0, [])), (132, (.istore 5, 2, 0, 0, 0, [])), (134, (.iload 5, 2, 0, 0, 0, [])), (136, (.ldc 0, 2, 0, 0, 24, [])), (138, (.if_icmp .ge 0, 3, 176, 0, 0, [])), (141, (.iload 2, 1, 0, 0, 0, [])), (142, (.ldc 0, 1, 0, 0, 2, [])), (143, (.if_icmp .ne 0, 3, 176, 0, 0, [])), (146, (.aload 0, 1, 0, 0, 0, [])), (147, (.getfield 1, 3, 10, 34, 0, [(0, 1055)])), (150, (.ldc 0, 2, 0, 0, 24, [])), (152, (.iload 1, 1, 0, 0, 0, [])), (153, (.imul, 1, 0, 0, 0, [])), (154, (.iload 5, 2, 0, 0, 0, [])), (156, (.iadd, 1, 0, 0, 0, [])), (157, (.aload 0, 1, 0, 0, 0, [])), (158, (.getfield 1, 3, 10, 30, 0, [(0, 1051)]))],
  [(161, (.ldc 0, 2, 0, 0, 24, [])), (163, (.iload 3, 1, 0, 0, 0, [])), (164, (.imul, 1, 0, 0, 0, [])), (165, (.iload 5, 2, 0, 0, 0, [])), (167, (.iadd, 1, 0, 0, 0, [])), (168, (.iaload, 1, 0, 0, 0, [])), (169, (.iastore, 1, 0, 0, 0, [])), (170, (.iinc 5 0, 3, 0, 0, 1, [])), (173, (.goto 0, 3, 134, 0, 0, [])), (176, (.iload 4, 2, 0, 0, 0, [])), (178, (.ireturn, 1, 0, 0, 0, []))]]
abbrev m_M_lay : Nat := 222
/-- M_ask -/
def pm_t223 : pm_T := [[(0, (.iload 1, 1, 0, 0, 0, [])), (1, (.invokestatic 1, 3, 216, 1, 1480, [])), (4, (.ifCond .eq 0, 3, 16, 0, 0, [])), (7, (.iload 2, 1, 0, 0, 0, [])), (8, (.ldc 0, 1, 0, 0, 0, [])), (9, (.ldc 0, 1, 0, 0, 5, [])), (10, (.invokestatic 1, 3, 136, 3, 1142, [])), (13, (.ifCond .ne 0, 3, 19, 0, 0, [])), (16, (.ldc 0, 2, 1148, 0, (-1000000001), [])), (18, (.ireturn, 1, 0, 0, 0, [])), (19, (.aload 0, 1, 0, 0, 0, [])), (20, (.getfield 1, 3, 10, 31, 0, [(0, 1052)])), (23, (.iload 1, 1, 0, 0, 0, [])), (24, (.iaload, 1, 0, 0, 0, [])), (25, (.ifCond .ne 0, 3, 31, 0, 0, [])), (28, (.ldc 0, 2, 1318, 0, (-1000000011), [])), (30, (.ireturn, 1, 0, 0, 0, [])), (31, (.aload 0, 1, 0, 0, 0, []))],
  [(32, (.getfield 1, 3, 10, 31, 0, [(0, 1052)])), (35, (.iload 1, 1, 0, 0, 0, [])), (36, (.iaload, 1, 0, 0, 0, [])), (37, (.ldc 0, 1, 0, 0, 1, [])), (38, (.if_icmp .ne 0, 3, 63, 0, 0, [])), (41, (.aload 0, 1, 0, 0, 0, [])), (42, (.getfield 1, 3, 10, 32, 0, [(0, 1053)])), (45, (.iload 1, 1, 0, 0, 0, [])), (46, (.iaload, 1, 0, 0, 0, [])), (47, (.iload 2, 1, 0, 0, 0, [])), (48, (.invokestatic 1, 3, 154, 2, 1213, [])), (51, (.ifCond .eq 0, 3, 63, 0, 0, [])), (54, (.aload 0, 1, 0, 0, 0, [])), (55, (.getfield 1, 3, 10, 33, 0, [(0, 1054)])), (58, (.iload 1, 1, 0, 0, 0, [])), (59, (.iaload, 1, 0, 0, 0, [])), (60, (.goto 0, 3, 65, 0, 0, [])), (63, (.ldc 0, 2, 1216, 0, (-1000000012), []))],
  [(65, (.ireturn, 1, 0, 0, 0, []))]]
abbrev m_M_ask : Nat := 223
/-- M_item -/
def pm_t224 : pm_T := [[(0, (.iload 1, 1, 0, 0, 0, [])), (1, (.invokestatic 1, 3, 216, 1, 1480, [])), (4, (.ifCond .ne 0, 3, 10, 0, 0, [])), (7, (.ldc 0, 2, 1148, 0, (-1000000001), [])), (9, (.ireturn, 1, 0, 0, 0, [])), (10, (.aload 0, 1, 0, 0, 0, [])), (11, (.getfield 1, 3, 10, 31, 0, [(0, 1052)])), (14, (.iload 1, 1, 0, 0, 0, [])), (15, (.iaload, 1, 0, 0, 0, [])), (16, (.ifCond .ne 0, 3, 22, 0, 0, [])), (19, (.ldc 0, 2, 1318, 0, (-1000000011), [])), (21, (.ireturn, 1, 0, 0, 0, [])), (22, (.aload 0, 1, 0, 0, 0, [])), (23, (.getfield 1, 3, 10, 31, 0, [(0, 1052)])), (26, (.iload 1, 1, 0, 0, 0, [])), (27, (.iaload, 1, 0, 0, 0, [])), (28, (.ldc 0, 1, 0, 0, 2, [])), (29, (.if_icmp .eq 0, 3, 35, 0, 0, []))],
  [(32, (.ldc 0, 2, 1216, 0, (-1000000012), [])), (34, (.ireturn, 1, 0, 0, 0, [])), (35, (.iload 2, 1, 0, 0, 0, [])), (36, (.ldc 0, 1, 0, 0, 0, [])), (37, (.aload 0, 1, 0, 0, 0, [])), (38, (.getfield 1, 3, 10, 32, 0, [(0, 1053)])), (41, (.iload 1, 1, 0, 0, 0, [])), (42, (.iaload, 1, 0, 0, 0, [])), (43, (.ldc 0, 1, 0, 0, 1, [])), (44, (.isub, 1, 0, 0, 0, [])), (45, (.invokestatic 1, 3, 136, 3, 1142, [])), (48, (.ifCond .ne 0, 3, 55, 0, 0, [])), (51, (.ldc 0, 3, 1461, 0, (-1000000013), [])), (54, (.ireturn, 1, 0, 0, 0, [])), (55, (.aload 0, 1, 0, 0, 0, [])), (56, (.getfield 1, 3, 10, 34, 0, [(0, 1055)])), (59, (.ldc 0, 2, 0, 0, 24, [])), (61, (.iload 1, 1, 0, 0, 0, [])), (62, (.imul, 1, 0, 0, 0, [])), (63, (.iload 2, 1, 0, 0, 0, []))],
  [(64, (.iadd, 1, 0, 0, 0, [])), (65, (.iaload, 1, 0, 0, 0, [])), (66, (.istore 3, 1, 0, 0, 0, [])), (67, (.iload 3, 1, 0, 0, 0, [])), (68, (.ldc 0, 2, 1208, 0, (-1000000005), [])), (70, (.if_icmp .ne 0, 3, 78, 0, 0, [])), (73, (.ldc 0, 2, 1216, 0, (-1000000012), [])), (75, (.goto 0, 3, 79, 0, 0, [])), (78, (.iload 3, 1, 0, 0, 0, [])), (79, (.ireturn, 1, 0, 0, 0, []))]]
abbrev m_M_item : Nat := 224
/-- M_rest -/
def pm_t225 : pm_T := [[(0, (.iload 1, 1, 0, 0, 0, [])), (1, (.invokestatic 1, 3, 216, 1, 1480, [])), (4, (.ifCond .ne 0, 3, 10, 0, 0, [])), (7, (.ldc 0, 2, 1148, 0, (-1000000001), [])), (9, (.ireturn, 1, 0, 0, 0, [])), (10, (.aload 0, 1, 0, 0, 0, [])), (11, (.getfield 1, 3, 10, 31, 0, [(0, 1052)])), (14, (.iload 1, 1, 0, 0, 0, [])), (15, (.iaload, 1, 0, 0, 0, [])), (16, (.ifCond .ne 0, 3, 22, 0, 0, [])), (19, (.ldc 0, 2, 1318, 0, (-1000000011), [])), (21, (.ireturn, 1, 0, 0, 0, [])), (22, (.aload 0, 1, 0, 0, 0, [])), (23, (.getfield 1, 3, 10, 31, 0, [(0, 1052)])), (26, (.iload 1, 1, 0, 0, 0, [])), (27, (.iaload, 1, 0, 0, 0, [])), (28, (.ldc 0, 1, 0, 0, 3, [])), (29, (.if_icmp .eq 0, 3, 35, 0, 0, []))],
  [(32, (.ldc 0, 2, 1216, 0, (-1000000012), [])), (34, (.ireturn, 1, 0, 0, 0, [])), (35, (.iload 2, 1, 0, 0, 0, [])), (36, (.ifCond .ne 0, 3, 45, 0, 0, [])), (39, (.ldc 0, 3, 1495, 0, (-1000000002), [])), (42, (.goto 0, 3, 62, 0, 0, [])), (45, (.iload 2, 1, 0, 0, 0, [])), (46, (.ldc 0, 1, 0, 0, (-1), [])), (47, (.if_icmp .ne 0, 3, 54, 0, 0, [])), (50, (.ldc 0, 1, 0, 0, 0, [])), (51, (.goto 0, 3, 62, 0, 0, [])), (54, (.aload 0, 1, 0, 0, 0, [])), (55, (.getfield 1, 3, 10, 32, 0, [(0, 1053)])), (58, (.iload 1, 1, 0, 0, 0, [])), (59, (.iaload, 1, 0, 0, 0, [])), (60, (.iload 2, 1, 0, 0, 0, [])), (61, (.irem, 1, 0, 0, 0, [])), (62, (.ireturn, 1, 0, 0, 0, []))]]
abbrev m_M_rest : Nat := 225
/-- M_tell -/
def pm_t226 : pm_T := [[(0, (.aload 0, 1, 0, 0, 0, [])), (1, (.getfield 0, 3, 10, 37, 0, [(0, 1058)])), (4, (.ldc 0, 2, 0, 0, 60, [])), (6, (.if_icmp .ne 0, 3, 12, 0, 0, [])), (9, (.ldc 0, 2, 1149, 0, (-1000000003), [])), (11, (.ireturn, 1, 0, 0, 0, [])), (12, (.aload 0, 1, 0, 0, 0, [])), (13, (.getfield 1, 3, 10, 36, 0, [(0, 1057)])), (16, (.aload 0, 1, 0, 0, 0, [])), (17, (.getfield 0, 3, 10, 37, 0, [(0, 1058)])), (20, (.iload 1, 1, 0, 0, 0, [])), (21, (.iastore, 1, 0, 0, 0, [])), (22, (.aload 0, 1, 0, 0, 0, [])), (23, (.dup, 1, 0, 0, 0, [])), (24, (.getfield 0, 3, 10, 37, 0, [(0, 1058)])), (27, (.ldc 0, 1, 0, 0, 1, [])), (28, (.iadd, 1, 0, 0, 0, [])), (29, (.putfield 0, 3, 10, 37, 0, [(0, 1058)]))],
  [(32, (.aload 0, 1, 0, 0, 0, [])), (33, (.getfield 0, 3, 10, 37, 0, [(0, 1058)])), (36, (.ireturn, 1, 0, 0, 0, []))]]
abbrev m_M_tell : Nat := 226
/-- M_check -/
def pm_t227 : pm_T := [[(0, (.aload 0, 1, 0, 0, 0, [])), (1, (.getfield 0, 3, 10, 37, 0, [(0, 1058)])), (4, (.istore 2, 1, 0, 0, 0, [])), (5, (.aload 0, 1, 0, 0, 0, [])), (6, (.ldc 0, 1, 0, 0, 0, [])), (7, (.putfield 0, 3, 10, 37, 0, [(0, 1058)])), (10, (.iload 1, 1, 0, 0, 0, [])), (11, (.ldc 0, 1, 0, 0, 1, [])), (12, (.ldc 0, 2, 0, 0, 30, [])), (14, (.invokestatic 1, 3, 136, 3, 1142, [])), (17, (.ifCond .ne 0, 3, 23, 0, 0, [])), (20, (.ldc 0, 2, 1148, 0, (-1000000001), [])), (22, (.ireturn, 1, 0, 0, 0, [])), (23, (.aload 0, 1, 0, 0, 0, [])), (24, (.getfield 0, 3, 10, 3, 0, [(0, 1024)])), (27, (.ifCond .ne 0, 3, 34, 0, 0, [])), (30, (.ldc 0, 3, 1495, 0, (-1000000002), []))],
  [(33, (.ireturn, 1, 0, 0, 0, [])), (34, (.aload 0, 1, 0, 0, 0, [])), (35, (.getfield 1, 3, 10, 0, 0, [(0, 1021)])), (38, (.aload 0, 1, 0, 0, 0, [])), (39, (.getfield 1, 3, 10, 2, 0, [(0, 1023)])), (42, (.invokestatic 0, 3, 138, 2, 1504, [])), (45, (.aload 0, 1, 0, 0, 0, [])), (46, (.getfield 1, 3, 10, 1, 0, [(0, 1022)])), (49, (.aload 0, 1, 0, 0, 0, [])), (50, (.getfield 1, 3, 10, 0, 0, [(0, 1021)])), (53, (.invokestatic 0, 3, 138, 2, 1504, [])), (56, (.ldc 0, 1, 0, 0, 2, [])), (57, (.ldc 0, 3, 0, 0, 9999, [])), (60, (.aload 0, 1, 0, 0, 0, [])), (61, (.getfield 1, 3, 10, 0, 0, [(0, 1021)]))],
  [(64, (.ldc 0, 1, 0, 0, 2, [])), (65, (.iaload, 1, 0, 0, 0, [])), (66, (.isub, 1, 0, 0, 0, [])), (67, (.ldc 0, 1, 0, 0, 0, [])), (68, (.iload 1, 1, 0, 0, 0, [])), (69, (.invokestatic 1, 3, 137, 3, 1189, [])), (72, (.imul, 1, 0, 0, 0, [])), (73, (.istore 3, 1, 0, 0, 0, [])), (74, (.ldc 0, 1, 0, 0, 0, [])), (75, (.istore 4, 2, 0, 0, 0, [])), (77, (.ldc 0, 1, 0, 0, 0, [])), (78, (.istore 5, 2, 0, 0, 0, [])), (80, (.ldc 0, 1, 0, 0, 2, [])), (81, (.iload 5, 2, 0, 0, 0, [])), (83, (.imul, 1, 0, 0, 0, [])), (84, (.iload 3, 1, 0, 0, 0, [])), (85, (.if_icmp .ge 0, 3, 180, 0, 0, [])), (88, (.iload 4, 2, 0, 0, 0, [])), (90, (.ldc 0, 1, 0, 0, 2, [])), (91, (.iload 5, 2, 0, 0, 0, [])), (93, (.imul, 1, 0, 0, 0, [])), (94, (.if_icmp .ne 0, 3, 180, 0, 0, []))],
  [(97, (.aload 0, 1, 0, 0, 0, [])), (98, (.invokestatic 0, 3, 171, 1, 1286, [(0, 10)])), (101, (.iload 4, 2, 0, 0, 0, [])), (103, (.iload 4, 2, 0, 0, 0, [])), (105, (.iload 2, 1, 0, 0, 0, [])), (106, (.if_icmp .ge 0, 3, 129, 0, 0, [])), (109, (.aload 0, 1, 0, 0, 0, [])), (110, (.getfield 1, 3, 10, 36, 0, [(0, 1057)])), (113, (.iload 4, 2, 0, 0, 0, [])), (115, (.iaload, 1, 0, 0, 0, [])), (116, (.aload 0, 1, 0, 0, 0, [])), (117, (.getfield 1, 3, 10, 0, 0, [(0, 1021)])), (120, (.ldc 0, 1, 0, 0, 4, [])), (121, (.iaload, 1, 0, 0, 0, [])), (122, (.if_icmp .ne 0, 3, 129, 0, 0, [])), (125, (.ldc 0, 1, 0, 0, 1, [])), (126, (.goto 0, 3, 130, 0, 0, []))],
  [(129, (.ldc 0, 1, 0, 0, 0, [])), (130, (.iadd, 1, 0, 0, 0, [])), (131, (.istore 4, 2, 0, 0, 0, [])), (133, (.iload 4, 2, 0, 0, 0, [])), (135, (.iload 4, 2, 0, 0, 0, [])), (137, (.ldc 0, 1, 0, 0, 2, [])), (138, (.iload 5, 2, 0, 0, 0, [])), (140, (.imul, 1, 0, 0, 0, [])), (141, (.ldc 0, 1, 0, 0, 1, [])), (142, (.iadd, 1, 0, 0, 0, [])), (143, (.if_icmp .ne 0, 3, 170, 0, 0, [])), (146, (.iload 4, 2, 0, 0, 0, [])), (148, (.iload 2, 1, 0, 0, 0, [])), (149, (.if_icmp .ge 0, 3, 170, 0, 0, [])), (152, (.aload 0, 1, 0, 0, 0, [])), (153, (.getfield 1, 3, 10, 36, 0, [(0, 1057)])), (156, (.iload 4, 2, 0, 0, 0, [])), (158, (.iaload, 1, 0, 0, 0, [])), (159, (.aload 0, 1, 0, 0, 0, []))],
  [(160, (.invokestatic 1, 3, 174, 1, 1298, [(0, 10)])), (163, (.if_icmp .ne 0, 3, 170, 0, 0, [])), (166, (.ldc 0, 1, 0, 0, 1, [])), (167, (.goto 0, 3, 171, 0, 0, [])), (170, (.ldc 0, 1, 0, 0, 0, [])), (171, (.iadd, 1, 0, 0, 0, [])), (172, (.istore 4, 2, 0, 0, 0, [])), (174, (.iinc 5 0, 3, 0, 0, 1, [])), (177, (.goto 0, 3, 80, 0, 0, [])), (180, (.aload 0, 1, 0, 0, 0, [])), (181, (.getfield 1, 3, 10, 2, 0, [(0, 1023)])), (184, (.aload 0, 1, 0, 0, 0, [])), (185, (.getfield 1, 3, 10, 0, 0, [(0, 1021)])), (188, (.invokestatic 0, 3, 138, 2, 1504, [])), (191, (.iload 4, 2, 0, 0, 0, []))],
  [(193, (.iload 2, 1, 0, 0, 0, [])), (194, (.if_icmp .ne 0, 3, 207, 0, 0, [])), (197, (.iload 4, 2, 0, 0, 0, [])), (199, (.iload 3, 1, 0, 0, 0, [])), (200, (.if_icmp .ne 0, 3, 207, 0, 0, [])), (203, (.ldc 0, 1, 0, 0, 0, [])), (204, (.goto 0, 3, 211, 0, 0, [])), (207, (.ldc 0, 1, 0, 0, 1, [])), (208, (.iload 4, 2, 0, 0, 0, [])), (210, (.iadd, 1, 0, 0, 0, [])), (211, (.ireturn, 1, 0, 0, 0, []))]]
abbrev m_M_check : Nat := 227
/-- M_keep -/
def pm_t228 : pm_T := [[(0, (.aload 0, 1, 0, 0, 0, [])), (1, (.getfield 1, 3, 10, 0, 0, [(0, 1021)])), (4, (.aload 0, 1, 0, 0, 0, [])), (5, (.getfield 1, 3, 10, 1, 0, [(0, 1022)])), (8, (.invokestatic 0, 3, 138, 2, 1504, [])), (11, (.aload 0, 1, 0, 0, 0, [])), (12, (.ldc 0, 1, 0, 0, 1, [])), (13, (.putfield 0, 3, 10, 3, 3, [(0, 1024)])), (16, (.aload 0, 1, 0, 0, 0, [])), (17, (.getfield 1, 3, 10, 0, 0, [(0, 1021)])), (20, (.ldc 0, 1, 0, 0, 1, [])), (21, (.iaload, 1, 0, 0, 0, [])), (22, (.ireturn, 1, 0, 0, 0, []))]]
abbrev m_M_keep : Nat := 228
/-- M_back -/
def pm_t229 : pm_T := [[(0, (.aload 0, 1, 0, 0, 0, [])), (1, (.getfield 0, 3, 10, 3, 0, [(0, 1024)])), (4, (.ifCond .ne 0, 3, 11, 0, 0, [])), (7, (.ldc 0, 3, 1495, 0, (-1000000002), [])), (10, (.ireturn, 1, 0, 0, 0, [])), (11, (.aload 0, 1, 0, 0, 0, [])), (12, (.getfield 1, 3, 10, 1, 0, [(0, 1022)])), (15, (.aload 0, 1, 0, 0, 0, [])), (16, (.getfield 1, 3, 10, 0, 0, [(0, 1021)])), (19, (.invokestatic 0, 3, 138, 2, 1504, [])), (22, (.aload 0, 1, 0, 0, 0, [])), (23, (.getfield 1, 3, 10, 0, 0, [(0, 1021)])), (26, (.ldc 0, 1, 0, 0, 1, [])), (27, (.iaload, 1, 0, 0, 0, [])), (28, (.ireturn, 1, 0, 0, 0, []))]]
abbrev m_M_back : Nat := 229
/-- M_count -/
def pm_t230 : pm_T := [[(0, (.iload 1, 1, 0, 0, 0, [])), (1, (.lookupswitch 0 #[], 43, 90, 0, 0, [(0, 44), (1, 51), (2, 58), (3, 65), (4, 73), (5, 78), (6, 83)]))],
  [(44, (.aload 0, 1, 0, 0, 0, [])), (45, (.getfield 1, 3, 10, 0, 0, [(0, 1021)])), (48, (.ldc 0, 1, 0, 0, 1, [])), (49, (.iaload, 1, 0, 0, 0, [])), (50, (.ireturn, 1, 0, 0, 0, [])), (51, (.aload 0, 1, 0, 0, 0, [])), (52, (.getfield 1, 3, 10, 0, 0, [(0, 1021)])), (55, (.ldc 0, 1, 0, 0, 2, [])), (56, (.iaload, 1, 0, 0, 0, [])), (57, (.ireturn, 1, 0, 0, 0, [])), (58, (.aload 0, 1, 0, 0, 0, [])), (59, (.getfield 1, 3, 10, 0, 0, [(0, 1021)])), (62, (.ldc 0, 1, 0, 0, 3, [])), (63, (.iaload, 1, 0, 0, 0, []))],
  [(64, (.ireturn, 1, 0, 0, 0, [])), (65, (.aload 0, 1, 0, 0, 0, [])), (66, (.getfield 1, 3, 10, 0, 0, [(0, 1021)])), (69, (.ldc 0, 2, 0, 0, 6, [])), (71, (.iaload, 1, 0, 0, 0, [])), (72, (.ireturn, 1, 0, 0, 0, [])), (73, (.aload 0, 1, 0, 0, 0, [])), (74, (.getfield 0, 3, 10, 37, 0, [(0, 1058)])), (77, (.ireturn, 1, 0, 0, 0, [])), (78, (.aload 0, 1, 0, 0, 0, [])), (79, (.getfield 0, 3, 10, 11, 0, [(0, 1032)])), (82, (.ireturn, 1, 0, 0, 0, [])), (83, (.aload 0, 1, 0, 0, 0, [])), (84, (.getfield 1, 3, 10, 0, 0, [(0, 1021)])), (87, (.ldc 0, 1, 0, 0, 0, [])), (88, (.iaload, 1, 0, 0, 0, [])), (89, (.ireturn, 1, 0, 0, 0, [])), (90, (.ldc 0, 2, 1148, 0, (-1000000001), [])), (92, (.ireturn, 1, 0, 0, 0, []))]]
abbrev m_M_count : Nat := 230
/-- Integer_bitCount -/
def pm_t231 : pm_T := [[(0, (.iload 0, 1, 0, 0, 0, [])), (1, (.iload 0, 1, 0, 0, 0, [])), (2, (.ldc 0, 1, 0, 0, 1, [])), (3, (.iushr, 1, 0, 0, 0, [])), (4, (.ldc 0, 3, 689, 0, 1431655765, [])), (7, (.iand, 1, 0, 0, 0, [])), (8, (.isub, 1, 0, 0, 0, [])), (9, (.istore 0, 1, 0, 0, 0, [])), (10, (.iload 0, 1, 0, 0, 0, [])), (11, (.ldc 0, 3, 690, 0, 858993459, [])), (14, (.iand, 1, 0, 0, 0, [])), (15, (.iload 0, 1, 0, 0, 0, [])), (16, (.ldc 0, 1, 0, 0, 2, [])), (17, (.iushr, 1, 0, 0, 0, [])), (18, (.ldc 0, 3, 690, 0, 858993459, [])), (21, (.iand, 1, 0, 0, 0, [])), (22, (.iadd, 1, 0, 0, 0, [])), (23, (.istore 0, 1, 0, 0, 0, [])), (24, (.iload 0, 1, 0, 0, 0, [])), (25, (.iload 0, 1, 0, 0, 0, [])), (26, (.ldc 0, 1, 0, 0, 4, [])), (27, (.iushr, 1, 0, 0, 0, [])), (28, (.iadd, 1, 0, 0, 0, [])), (29, (.ldc 0, 3, 691, 0, 252645135, []))],
  [(32, (.iand, 1, 0, 0, 0, [])), (33, (.istore 0, 1, 0, 0, 0, [])), (34, (.iload 0, 1, 0, 0, 0, [])), (35, (.iload 0, 1, 0, 0, 0, [])), (36, (.ldc 0, 2, 0, 0, 8, [])), (38, (.iushr, 1, 0, 0, 0, [])), (39, (.iadd, 1, 0, 0, 0, [])), (40, (.istore 0, 1, 0, 0, 0, [])), (41, (.iload 0, 1, 0, 0, 0, [])), (42, (.iload 0, 1, 0, 0, 0, [])), (43, (.ldc 0, 2, 0, 0, 16, [])), (45, (.iushr, 1, 0, 0, 0, [])), (46, (.iadd, 1, 0, 0, 0, [])), (47, (.istore 0, 1, 0, 0, 0, [])), (48, (.iload 0, 1, 0, 0, 0, [])), (49, (.ldc 0, 2, 0, 0, 63, [])), (51, (.iand, 1, 0, 0, 0, [])), (52, (.ireturn, 1, 0, 0, 0, []))]]
abbrev m_Integer_bitCount : Nat := 231
/-- String_length -/
def pm_t232 : pm_T := [[(0, (.aload 0, 1, 0, 0, 0, [])), (1, (.getfield 1, 3, 11, 0, 0, [(0, 1519)])), (4, (.arraylength, 1, 0, 0, 0, [])), (5, (.aload 0, 1, 0, 0, 0, [])), (6, (.invokestatic 1, 3, 236, 1, 751, [(0, 11)])), (9, (.ishr, 1, 0, 0, 0, [])), (10, (.ireturn, 1, 0, 0, 0, []))]]
abbrev m_String_length : Nat := 232
/-- String_charAt -/
def pm_t233 : pm_T := [[(0, (.aload 0, 1, 0, 0, 0, [])), (1, (.invokestatic 1, 3, 237, 1, 761, [(0, 11)])), (4, (.ifCond .eq 0, 3, 16, 0, 0, [])), (7, (.aload 0, 1, 0, 0, 0, [])), (8, (.getfield 1, 3, 11, 0, 0, [(0, 1519)])), (11, (.iload 1, 1, 0, 0, 0, [])), (12, (.invokestatic 1, 3, 240, 2, 765, [])), (15, (.ireturn, 1, 2, 0, 0, [])), (16, (.aload 0, 1, 0, 0, 0, [])), (17, (.getfield 1, 3, 11, 0, 0, [(0, 1519)])), (20, (.iload 1, 1, 0, 0, 0, [])), (24, (.ireturn, 1, 2, 0, 0, []))]]
abbrev m_String_charAt : Nat := 233
/-- String_indexOf -/
def pm_t234 : pm_T := [[(0, (.aload 0, 1, 0, 0, 0, [])), (1, (.iload 1, 1, 0, 0, 0, [])), (2, (.ldc 0, 1, 0, 0, 0, [])), (3, (.invokestatic 1, 3, 235, 3, 851, [(0, 11)])), (6, (.ireturn, 1, 0, 0, 0, []))]]
abbrev m_String_indexOf : Nat := 234
/-- String_indexOf2 -/
def pm_t235 : pm_T := [[(0, (.aload 0, 1, 0, 0, 0, [])), (1, (.invokestatic 1, 3, 237, 1, 761, [(0, 11)])), (4, (.ifCond .eq 0, 3, 23, 0, 0, [])), (7, (.aload 0, 1, 0, 0, 0, [])), (8, (.getfield 1, 3, 11, 0, 0, [(0, 1519)])), (11, (.iload 1, 1, 0, 0, 0, [])), (12, (.iload 2, 1, 0, 0, 0, [])), (13, (.aload 0, 1, 0, 0, 0, [])), (14, (.invokestatic 1, 3, 232, 1, 855, [(0, 11)])), (17, (.invokestatic 1, 3, 242, 4, 856, [])), (20, (.goto 0, 3, 36, 0, 0, [])), (23, (.aload 0, 1, 0, 0, 0, [])), (24, (.getfield 1, 3, 11, 0, 0, [(0, 1519)])), (27, (.iload 1, 1, 0, 0, 0, [])), (28, (.iload 2, 1, 0, 0, 0, [])), (29, (.aload 0, 1, 0, 0, 0, [])), (30, (.invokestatic 1, 3, 232, 1, 855, [(0, 11)]))],
  [(36, (.ireturn, 1, 0, 0, 0, []))]]
abbrev m_String_indexOf2 : Nat := 235
/-- String_coder -/
def pm_t236 : pm_T := [[(0, (.ldc 0, 3, 755, 0, 1, [])), (3, (.ifCond .eq 0, 3, 13, 0, 0, [])), (6, (.aload 0, 1, 0, 0, 0, [])), (7, (.getfield 0, 3, 11, 1, 0, [(0, 1520)])), (10, (.goto 0, 3, 14, 0, 0, [])), (13, (.ldc 0, 1, 0, 0, 1, [])), (14, (.ireturn, 1, 1, 0, 0, []))]]
abbrev m_String_coder : Nat := 236
/-- String_isLatin1 -/
def pm_t237 : pm_T := [[(0, (.ldc 0, 3, 755, 0, 1, [])), (3, (.ifCond .eq 0, 3, 17, 0, 0, [])), (6, (.aload 0, 1, 0, 0, 0, [])), (7, (.getfield 0, 3, 11, 1, 0, [(0, 1520)])), (10, (.ifCond .ne 0, 3, 17, 0, 0, [])), (13, (.ldc 0, 1, 0, 0, 1, [])), (14, (.goto 0, 3, 18, 0, 0, [])), (17, (.ldc 0, 1, 0, 0, 0, [])), (18, (.ireturn, 1, 3, 0, 0, []))]]
abbrev m_String_isLatin1 : Nat := 237
/-- String_checkIndex -/
def pm_t238 : pm_T := [[(0, (.iload 0, 1, 0, 0, 0, [])), (1, (.iload 1, 1, 0, 0, 0, [])), (2, (.ldc_w 0, 3, 15, 771, 0, [])), (5, (.invokestatic 1, 3, 244, 3, 773, [])), (8, (.pop, 1, 0, 0, 0, [])), (9, (.return_, 1, 0, 0, 0, []))]]
abbrev m_String_checkIndex : Nat := 238
/-- String_checkBoundsBeginEnd -/
def pm_t239 : pm_T := [[(0, (.iload 0, 1, 0, 0, 0, [])), (1, (.iload 1, 1, 0, 0, 0, [])), (2, (.iload 2, 1, 0, 0, 0, [])), (3, (.ldc_w 0, 3, 15, 771, 0, [])), (6, (.invokestatic 1, 3, 245, 4, 882, [])), (9, (.pop, 1, 0, 0, 0, [])), (10, (.return_, 1, 0, 0, 0, []))]]
abbrev m_String_checkBoundsBeginEnd : Nat := 239
/-- StringLatin1_charAt -/
def pm_t240 : pm_T := [[(0, (.iload 1, 1, 0, 0, 0, [])), (1, (.aload 0, 1, 0, 0, 0, [])), (2, (.arraylength, 1, 0, 0, 0, [])), (3, (.invokestatic 0, 3, 238, 2, 768, [])), (6, (.aload 0, 1, 0, 0, 0, [])), (7, (.iload 1, 1, 0, 0, 0, [])), (8, (.iaload, 1, 1, 0, 0, [])), (9, (.ldc 0, 3, 0, 0, 255, [])), (12, (.iand, 1, 0, 0, 0, [])), (13, (.i2c, 1, 0, 0, 0, [])), (14, (.ireturn, 1, 2, 0, 0, []))]]
abbrev m_StringLatin1_charAt : Nat := 240
/-- StringLatin1_canEncode -/
def pm_t241 : pm_T := [[(0, (.iload 0, 1, 0, 0, 0, [])), (1, (.ifCond .lt 0, 3, 15, 0, 0, [])), (4, (.iload 0, 1, 0, 0, 0, [])), (5, (.ldc 0, 3, 0, 0, 255, [])), (8, (.if_icmp .gt 0, 3, 15, 0, 0, [])), (11, (.ldc 0, 1, 0, 0, 1, [])), (12, (.goto 0, 3, 16, 0, 0, [])), (15, (.ldc 0, 1, 0, 0, 0, [])), (16, (.ireturn, 1, 3, 0, 0, []))]]
abbrev m_StringLatin1_canEncode : Nat := 241
/-- StringLatin1_indexOf -/
def pm_t242 : pm_T := [[(0, (.iload 1, 1, 0, 0, 0, [])), (1, (.invokestatic 1, 3, 241, 1, 859, [])), (4, (.ifCond .ne 0, 3, 9, 0, 0, [])), (7, (.ldc 0, 1, 0, 0, (-1), [])), (8, (.ireturn, 1, 0, 0, 0, [])), (9, (.iload 2, 1, 0, 0, 0, [])), (10, (.ldc 0, 1, 0, 0, 0, [])), (11, (.ladd, 3, 862, 0, 0, [])), (14, (.istore 2, 1, 0, 0, 0, [])), (15, (.iload 3, 1, 0, 0, 0, [])), (16, (.aload 0, 1, 0, 0, 0, [])), (17, (.arraylength, 1, 0, 0, 0, [])), (18, (.lsub, 3, 863, 0, 0, [])), (21, (.istore 3, 1, 0, 0, 0, [])), (22, (.iload 2, 1, 0, 0, 0, [])), (23, (.iload 3, 1, 0, 0, 0, [])), (24, (.if_icmp .lt 0, 3, 29, 0, 0, [])), (27, (.ldc 0, 1, 0, 0, (-1), [])), (28, (.ireturn, 1, 0, 0, 0, [])), (29, (.aload 0, 1, 0, 0, 0, [])), (30, (.iload 1, 1, 0, 0, 0, [])), (31, (.iload 2, 1, 0, 0, 0, []))],
  [(32, (.iload 3, 1, 0, 0, 0, [])), (33, (.invokestatic 1, 3, 243, 4, 864, [])), (36, (.ireturn, 1, 0, 0, 0, []))]]
abbrev m_StringLatin1_indexOf : Nat := 242
/-- StringLatin1_indexOfChar -/
def pm_t243 : pm_T := [[(0, (.iload 1, 1, 0, 0, 0, [])), (1, (.i2b, 1, 0, 0, 0, [])), (2, (.istore 4, 2, 0, 0, 0, [])), (4, (.iload 2, 1, 0, 0, 0, [])), (5, (.istore 5, 2, 0, 0, 0, [])), (7, (.iload 5, 2, 0, 0, 0, [])), (9, (.iload 3, 1, 0, 0, 0, [])), (10, (.if_icmp .ge 0, 3, 31, 0, 0, [])), (13, (.aload 0, 1, 0, 0, 0, [])), (14, (.iload 5, 2, 0, 0, 0, [])), (16, (.iaload, 1, 1, 0, 0, [])), (17, (.iload 4, 2, 0, 0, 0, [])), (19, (.if_icmp .ne 0, 3, 25, 0, 0, [])), (22, (.iload 5, 2, 0, 0, 0, [])), (24, (.ireturn, 1, 0, 0, 0, [])), (25, (.iinc 5 0, 3, 0, 0, 1, [])), (28, (.goto 0, 3, 7, 0, 0, [])), (31, (.ldc 0, 1, 0, 0, (-1), []))],
  [(32, (.ireturn, 1, 0, 0, 0, []))]]
abbrev m_StringLatin1_indexOfChar : Nat := 243
/-- Preconditions_checkIndex -/
def pm_t244 : pm_T := [[(0, (.iload 0, 1, 0, 0, 0, [])), (1, (.ifCond .lt 0, 3, 9, 0, 0, [])), (4, (.iload 0, 1, 0, 0, 0, [])), (5, (.iload 1, 1, 0, 0, 0, [])), (6, (.if_icmp .lt 0, 3, 16, 0, 0, [])), (9, (.aload 2, 1, 0, 0, 0, [])), (10, (.iload 0, 1, 0, 0, 0, [])), (11, (.iload 1, 1, 0, 0, 0, [])), (16, (.iload 0, 1, 0, 0, 0, [])), (17, (.ireturn, 1, 0, 0, 0, []))]]
abbrev m_Preconditions_checkIndex : Nat := 244
/-- Preconditions_checkFromToIndex -/
def pm_t245 : pm_T := [[(0, (.iload 0, 1, 0, 0, 0, [])), (1, (.ifCond .lt 0, 3, 14, 0, 0, [])), (4, (.iload 0, 1, 0, 0, 0, [])), (5, (.iload 1, 1, 0, 0, 0, [])), (6, (.if_icmp .gt 0, 3, 14, 0, 0, [])), (9, (.iload 1, 1, 0, 0, 0, [])), (10, (.iload 2, 1, 0, 0, 0, [])), (11, (.if_icmp .le 0, 3, 22, 0, 0, [])), (14, (.aload 3, 1, 0, 0, 0, [])), (15, (.iload 0, 1, 0, 0, 0, [])), (16, (.iload 1, 1, 0, 0, 0, [])), (17, (.iload 2, 1, 0, 0, 0, [])), (22, (.iload 0, 1, 0, 0, 0, [])), (23, (.ireturn, 1, 0, 0, 0, []))]]
abbrev m_Preconditions_checkFromToIndex : Nat := 245
/-- Law_law -/
def pm_t246 : pm_T := [[(0, (.new 0, 3, 9, 85, 0, [])), (3, (.dup, 1, 0, 0, 0, [])), (4, (.invokestatic 0, 3, 73, 1, 87, [(0, 9)])), (7, (.astore 1, 1, 0, 0, 0, [])), (8, (.new 0, 3, 10, 1015, 0, [])), (11, (.dup, 1, 0, 0, 0, [])), (12, (.invokestatic 0, 3, 135, 1, 1017, [(0, 10)])), (15, (.astore 2, 1, 0, 0, 0, [])), (16, (.ldc 0, 1, 0, 0, 0, [])), (17, (.istore 3, 1, 0, 0, 0, [])), (18, (.iload 3, 1, 0, 0, 0, [])), (19, (.aload 0, 1, 0, 0, 0, [])), (20, (.arraylength, 1, 0, 0, 0, [])), (21, (.ldc 0, 2, 0, 0, 6, [])), (23, (.isub, 1, 0, 0, 0, [])), (24, (.if_icmp .gt 0, 3, 1572, 0, 0, [])), (27, (.aload 0, 1, 0, 0, 0, [])), (28, (.iload 3, 1, 0, 0, 0, [])), (29, (.iaload, 1, 0, 0, 0, [])), (30, (.ldc 0, 2, 0, 0, 63, []))],
  [(32, (.iand, 1, 0, 0, 0, [])), (33, (.lookupswitch 0 #[], 191, 1566, 0, 0, [(0, 224), (1, 267), (2, 300), (3, 333), (4, 366), (5, 399), (6, 442), (7, 495), (8, 538), (9, 561), (10, 584), (11, 607), (12, 630), (13, 653), (14, 676), (15, 709), (16, 732), (17, 755), (18, 798), (19, 831), (20, 854), (21, 887), (22, 920), (23, 963), (24, 976), (25, 999), (26, 1042), (27, 1065), (28, 1078), (29, 1111), (30, 1134), (31, 1177), (32, 1220), (33, 1243), (34, 1266), (35, 1329), (36, 1372), (37, 1405), (38, 1438), (39, 1471), (40, 1494), (41, 1517), (42, 1530), (43, 1543)]))],
  [],
  [],
  [],
  [],
  [],
  [(224, (.aload 1, 1, 0, 0, 0, [])), (225, (.aload 0, 1, 0, 0, 0, [])), (226, (.iload 3, 1, 0, 0, 0, [])), (227, (.ldc 0, 1, 0, 0, 1, [])), (228, (.iadd, 1, 0, 0, 0, [])), (229, (.iaload, 1, 0, 0, 0, [])), (230, (.aload 0, 1, 0, 0, 0, [])), (231, (.iload 3, 1, 0, 0, 0, [])), (232, (.ldc 0, 1, 0, 0, 2, [])), (233, (.iadd, 1, 0, 0, 0, [])), (234, (.iaload, 1, 0, 0, 0, [])), (235, (.aload 0, 1, 0, 0, 0, [])), (236, (.iload 3, 1, 0, 0, 0, [])), (237, (.ldc 0, 1, 0, 0, 3, [])), (238, (.iadd, 1, 0, 0, 0, [])), (239, (.iaload, 1, 0, 0, 0, [])), (240, (.invokestatic 1, 3, 74, 4, 372, [(0, 9)])), (243, (.aload 2, 1, 0, 0, 0, [])), (244, (.aload 0, 1, 0, 0, 0, [])), (245, (.iload 3, 1, 0, 0, 0, [])), (246, (.ldc 0, 1, 0, 0, 1, [])), (247, (.iadd, 1, 0, 0, 0, [])), (248, (.iaload, 1, 0, 0, 0, [])), (249, (.aload 0, 1, 0, 0, 0, [])), (250, (.iload 3, 1, 0, 0, 0, [])), (251, (.ldc 0, 1, 0, 0, 2, [])), (252, (.iadd, 1, 0, 0, 0, [])), (253, (.iaload, 1, 0, 0, 0, [])), (254, (.aload 0, 1, 0, 0, 0, [])), (255, (.iload 3, 1, 0, 0, 0, []))],
  [(256, (.ldc 0, 1, 0, 0, 3, [])), (257, (.iadd, 1, 0, 0, 0, [])), (258, (.iaload, 1, 0, 0, 0, [])), (259, (.invokestatic 1, 3, 146, 4, 1138, [(0, 10)])), (262, (.if_icmp .eq 0, 3, 1566, 0, 0, [])), (265, (.ldc 0, 1, 0, 0, 0, [])), (266, (.ireturn, 1, 3, 0, 0, [])), (267, (.aload 1, 1, 0, 0, 0, [])), (268, (.aload 0, 1, 0, 0, 0, [])), (269, (.iload 3, 1, 0, 0, 0, [])), (270, (.ldc 0, 1, 0, 0, 1, [])), (271, (.iadd, 1, 0, 0, 0, [])), (272, (.iaload, 1, 0, 0, 0, [])), (273, (.aload 0, 1, 0, 0, 0, [])), (274, (.iload 3, 1, 0, 0, 0, [])), (275, (.ldc 0, 1, 0, 0, 2, [])), (276, (.iadd, 1, 0, 0, 0, [])), (277, (.iaload, 1, 0, 0, 0, [])), (278, (.invokestatic 1, 3, 75, 3, 400, [(0, 9)])), (281, (.aload 2, 1, 0, 0, 0, [])), (282, (.aload 0, 1, 0, 0, 0, [])), (283, (.iload 3, 1, 0, 0, 0, [])), (284, (.ldc 0, 1, 0, 0, 1, [])), (285, (.iadd, 1, 0, 0, 0, [])), (286, (.iaload, 1, 0, 0, 0, [])), (287, (.aload 0, 1, 0, 0, 0, []))],
  [(288, (.iload 3, 1, 0, 0, 0, [])), (289, (.ldc 0, 1, 0, 0, 2, [])), (290, (.iadd, 1, 0, 0, 0, [])), (291, (.iaload, 1, 0, 0, 0, [])), (292, (.invokestatic 1, 3, 152, 3, 1158, [(0, 10)])), (295, (.if_icmp .eq 0, 3, 1566, 0, 0, [])), (298, (.ldc 0, 1, 0, 0, 0, [])), (299, (.ireturn, 1, 3, 0, 0, [])), (300, (.aload 1, 1, 0, 0, 0, [])), (301, (.aload 0, 1, 0, 0, 0, [])), (302, (.iload 3, 1, 0, 0, 0, [])), (303, (.ldc 0, 1, 0, 0, 1, [])), (304, (.iadd, 1, 0, 0, 0, [])), (305, (.iaload, 1, 0, 0, 0, [])), (306, (.aload 0, 1, 0, 0, 0, [])), (307, (.iload 3, 1, 0, 0, 0, [])), (308, (.ldc 0, 1, 0, 0, 2, [])), (309, (.iadd, 1, 0, 0, 0, [])), (310, (.iaload, 1, 0, 0, 0, [])), (311, (.invokestatic 1, 3, 76, 3, 455, [(0, 9)])), (314, (.aload 2, 1, 0, 0, 0, [])), (315, (.aload 0, 1, 0, 0, 0, [])), (316, (.iload 3, 1, 0, 0, 0, [])), (317, (.ldc 0, 1, 0, 0, 1, [])), (318, (.iadd, 1, 0, 0, 0, [])), (319, (.iaload, 1, 0, 0, 0, []))],
  [(320, (.aload 0, 1, 0, 0, 0, [])), (321, (.iload 3, 1, 0, 0, 0, [])), (322, (.ldc 0, 1, 0, 0, 2, [])), (323, (.iadd, 1, 0, 0, 0, [])), (324, (.iaload, 1, 0, 0, 0, [])), (325, (.invokestatic 1, 3, 153, 3, 1204, [(0, 10)])), (328, (.if_icmp .eq 0, 3, 1566, 0, 0, [])), (331, (.ldc 0, 1, 0, 0, 0, [])), (332, (.ireturn, 1, 3, 0, 0, [])), (333, (.aload 1, 1, 0, 0, 0, [])), (334, (.aload 0, 1, 0, 0, 0, [])), (335, (.iload 3, 1, 0, 0, 0, [])), (336, (.ldc 0, 1, 0, 0, 1, [])), (337, (.iadd, 1, 0, 0, 0, [])), (338, (.iaload, 1, 0, 0, 0, [])), (339, (.aload 0, 1, 0, 0, 0, [])), (340, (.iload 3, 1, 0, 0, 0, [])), (341, (.ldc 0, 1, 0, 0, 2, [])), (342, (.iadd, 1, 0, 0, 0, [])), (343, (.iaload, 1, 0, 0, 0, [])), (344, (.invokestatic 1, 3, 77, 3, 467, [(0, 9)])), (347, (.aload 2, 1, 0, 0, 0, [])), (348, (.aload 0, 1, 0, 0, 0, [])), (349, (.iload 3, 1, 0, 0, 0, [])), (350, (.ldc 0, 1, 0, 0, 1, [])), (351, (.iadd, 1, 0, 0, 0, []))],
  [(352, (.iaload, 1, 0, 0, 0, [])), (353, (.aload 0, 1, 0, 0, 0, [])), (354, (.iload 3, 1, 0, 0, 0, [])), (355, (.ldc 0, 1, 0, 0, 2, [])), (356, (.iadd, 1, 0, 0, 0, [])), (357, (.iaload, 1, 0, 0, 0, [])), (358, (.invokestatic 1, 3, 155, 3, 1209, [(0, 10)])), (361, (.if_icmp .eq 0, 3, 1566, 0, 0, [])), (364, (.ldc 0, 1, 0, 0, 0, [])), (365, (.ireturn, 1, 3, 0, 0, [])), (366, (.aload 1, 1, 0, 0, 0, [])), (367, (.aload 0, 1, 0, 0, 0, [])), (368, (.iload 3, 1, 0, 0, 0, [])), (369, (.ldc 0, 1, 0, 0, 1, [])), (370, (.iadd, 1, 0, 0, 0, [])), (371, (.iaload, 1, 0, 0, 0, [])), (372, (.aload 0, 1, 0, 0, 0, [])), (373, (.iload 3, 1, 0, 0, 0, [])), (374, (.ldc 0, 1, 0, 0, 2, [])), (375, (.iadd, 1, 0, 0, 0, [])), (376, (.iaload, 1, 0, 0, 0, [])), (377, (.invokestatic 1, 3, 78, 3, 477, [(0, 9)])), (380, (.aload 2, 1, 0, 0, 0, [])), (381, (.aload 0, 1, 0, 0, 0, [])), (382, (.iload 3, 1, 0, 0, 0, [])), (383, (.ldc 0, 1, 0, 0, 1, []))],
  [(384, (.iadd, 1, 0, 0, 0, [])), (385, (.iaload, 1, 0, 0, 0, [])), (386, (.aload 0, 1, 0, 0, 0, [])), (387, (.iload 3, 1, 0, 0, 0, [])), (388, (.ldc 0, 1, 0, 0, 2, [])), (389, (.iadd, 1, 0, 0, 0, [])), (390, (.iaload, 1, 0, 0, 0, [])), (391, (.invokestatic 1, 3, 156, 3, 1217, [(0, 10)])), (394, (.if_icmp .eq 0, 3, 1566, 0, 0, [])), (397, (.ldc 0, 1, 0, 0, 0, [])), (398, (.ireturn, 1, 3, 0, 0, [])), (399, (.aload 1, 1, 0, 0, 0, [])), (400, (.aload 0, 1, 0, 0, 0, [])), (401, (.iload 3, 1, 0, 0, 0, [])), (402, (.ldc 0, 1, 0, 0, 1, [])), (403, (.iadd, 1, 0, 0, 0, [])), (404, (.iaload, 1, 0, 0, 0, [])), (405, (.aload 0, 1, 0, 0, 0, [])), (406, (.iload 3, 1, 0, 0, 0, [])), (407, (.ldc 0, 1, 0, 0, 2, [])), (408, (.iadd, 1, 0, 0, 0, [])), (409, (.iaload, 1, 0, 0, 0, [])), (410, (.aload 0, 1, 0, 0, 0, [])), (411, (.iload 3, 1, 0, 0, 0, [])), (412, (.ldc 0, 1, 0, 0, 3, [])), (413, (.iadd, 1, 0, 0, 0, [])), (414, (.iaload, 1, 0, 0, 0, [])), (415, (.invokestatic 1, 3, 79, 4, 481, [(0, 9)]))],
  [(418, (.aload 2, 1, 0, 0, 0, [])), (419, (.aload 0, 1, 0, 0, 0, [])), (420, (.iload 3, 1, 0, 0, 0, [])), (421, (.ldc 0, 1, 0, 0, 1, [])), (422, (.iadd, 1, 0, 0, 0, [])), (423, (.iaload, 1, 0, 0, 0, [])), (424, (.aload 0, 1, 0, 0, 0, [])), (425, (.iload 3, 1, 0, 0, 0, [])), (426, (.ldc 0, 1, 0, 0, 2, [])), (427, (.iadd, 1, 0, 0, 0, [])), (428, (.iaload, 1, 0, 0, 0, [])), (429, (.aload 0, 1, 0, 0, 0, [])), (430, (.iload 3, 1, 0, 0, 0, [])), (431, (.ldc 0, 1, 0, 0, 3, [])), (432, (.iadd, 1, 0, 0, 0, [])), (433, (.iaload, 1, 0, 0, 0, [])), (434, (.invokestatic 1, 3, 157, 4, 1225, [(0, 10)])), (437, (.if_icmp .eq 0, 3, 1566, 0, 0, [])), (440, (.ldc 0, 1, 0, 0, 0, [])), (441, (.ireturn, 1, 3, 0, 0, [])), (442, (.aload 1, 1, 0, 0, 0, [])), (443, (.aload 0, 1, 0, 0, 0, [])), (444, (.iload 3, 1, 0, 0, 0, [])), (445, (.ldc 0, 1, 0, 0, 1, [])), (446, (.iadd, 1, 0, 0, 0, [])), (447, (.iaload, 1, 0, 0, 0, []))],
  [(448, (.aload 0, 1, 0, 0, 0, [])), (449, (.iload 3, 1, 0, 0, 0, [])), (450, (.ldc 0, 1, 0, 0, 2, [])), (451, (.iadd, 1, 0, 0, 0, [])), (452, (.iaload, 1, 0, 0, 0, [])), (453, (.aload 0, 1, 0, 0, 0, [])), (454, (.iload 3, 1, 0, 0, 0, [])), (455, (.ldc 0, 1, 0, 0, 3, [])), (456, (.iadd, 1, 0, 0, 0, [])), (457, (.iaload, 1, 0, 0, 0, [])), (458, (.aload 0, 1, 0, 0, 0, [])), (459, (.iload 3, 1, 0, 0, 0, [])), (460, (.ldc 0, 1, 0, 0, 4, [])), (461, (.iadd, 1, 0, 0, 0, [])), (462, (.iaload, 1, 0, 0, 0, [])), (463, (.invokestatic 1, 3, 80, 5, 485, [(0, 9)])), (466, (.aload 2, 1, 0, 0, 0, [])), (467, (.aload 0, 1, 0, 0, 0, [])), (468, (.iload 3, 1, 0, 0, 0, [])), (469, (.ldc 0, 1, 0, 0, 1, [])), (470, (.iadd, 1, 0, 0, 0, [])), (471, (.iaload, 1, 0, 0, 0, [])), (472, (.aload 0, 1, 0, 0, 0, [])), (473, (.iload 3, 1, 0, 0, 0, [])), (474, (.ldc 0, 1, 0, 0, 2, [])), (475, (.iadd, 1, 0, 0, 0, [])), (476, (.iaload, 1, 0, 0, 0, [])), (477, (.aload 0, 1, 0, 0, 0, [])), (478, (.iload 3, 1, 0, 0, 0, [])), (479, (.ldc 0, 1, 0, 0, 3, []))],
  [(480, (.iadd, 1, 0, 0, 0, [])), (481, (.iaload, 1, 0, 0, 0, [])), (482, (.aload 0, 1, 0, 0, 0, [])), (483, (.iload 3, 1, 0, 0, 0, [])), (484, (.ldc 0, 1, 0, 0, 4, [])), (485, (.iadd, 1, 0, 0, 0, [])), (486, (.iaload, 1, 0, 0, 0, [])), (487, (.invokestatic 1, 3, 161, 5, 1229, [(0, 10)])), (490, (.if_icmp .eq 0, 3, 1566, 0, 0, [])), (493, (.ldc 0, 1, 0, 0, 0, [])), (494, (.ireturn, 1, 3, 0, 0, [])), (495, (.aload 1, 1, 0, 0, 0, [])), (496, (.aload 0, 1, 0, 0, 0, [])), (497, (.iload 3, 1, 0, 0, 0, [])), (498, (.ldc 0, 1, 0, 0, 1, [])), (499, (.iadd, 1, 0, 0, 0, [])), (500, (.iaload, 1, 0, 0, 0, [])), (501, (.aload 0, 1, 0, 0, 0, [])), (502, (.iload 3, 1, 0, 0, 0, [])), (503, (.ldc 0, 1, 0, 0, 2, [])), (504, (.iadd, 1, 0, 0, 0, [])), (505, (.iaload, 1, 0, 0, 0, [])), (506, (.aload 0, 1, 0, 0, 0, [])), (507, (.iload 3, 1, 0, 0, 0, [])), (508, (.ldc 0, 1, 0, 0, 3, [])), (509, (.iadd, 1, 0, 0, 0, [])), (510, (.iaload, 1, 0, 0, 0, [])), (511, (.invokestatic 1, 3, 81, 4, 514, [(0, 9)]))],
  [(514, (.aload 2, 1, 0, 0, 0, [])), (515, (.aload 0, 1, 0, 0, 0, [])), (516, (.iload 3, 1, 0, 0, 0, [])), (517, (.ldc 0, 1, 0, 0, 1, [])), (518, (.iadd, 1, 0, 0, 0, [])), (519, (.iaload, 1, 0, 0, 0, [])), (520, (.aload 0, 1, 0, 0, 0, [])), (521, (.iload 3, 1, 0, 0, 0, [])), (522, (.ldc 0, 1, 0, 0, 2, [])), (523, (.iadd, 1, 0, 0, 0, [])), (524, (.iaload, 1, 0, 0, 0, [])), (525, (.aload 0, 1, 0, 0, 0, [])), (526, (.iload 3, 1, 0, 0, 0, [])), (527, (.ldc 0, 1, 0, 0, 3, [])), (528, (.iadd, 1, 0, 0, 0, [])), (529, (.iaload, 1, 0, 0, 0, [])), (530, (.invokestatic 1, 3, 164, 4, 1245, [(0, 10)])), (533, (.if_icmp .eq 0, 3, 1566, 0, 0, [])), (536, (.ldc 0, 1, 0, 0, 0, [])), (537, (.ireturn, 1, 3, 0, 0, [])), (538, (.aload 1, 1, 0, 0, 0, [])), (539, (.aload 0, 1, 0, 0, 0, [])), (540, (.iload 3, 1, 0, 0, 0, [])), (541, (.ldc 0, 1, 0, 0, 1, [])), (542, (.iadd, 1, 0, 0, 0, [])), (543, (.iaload, 1, 0, 0, 0, []))],
  [(544, (.invokestatic 1, 3, 82, 2, 525, [(0, 9)])), (547, (.aload 2, 1, 0, 0, 0, [])), (548, (.aload 0, 1, 0, 0, 0, [])), (549, (.iload 3, 1, 0, 0, 0, [])), (550, (.ldc 0, 1, 0, 0, 1, [])), (551, (.iadd, 1, 0, 0, 0, [])), (552, (.iaload, 1, 0, 0, 0, [])), (553, (.invokestatic 1, 3, 165, 2, 1257, [(0, 10)])), (556, (.if_icmp .eq 0, 3, 1566, 0, 0, [])), (559, (.ldc 0, 1, 0, 0, 0, [])), (560, (.ireturn, 1, 3, 0, 0, [])), (561, (.aload 1, 1, 0, 0, 0, [])), (562, (.aload 0, 1, 0, 0, 0, [])), (563, (.iload 3, 1, 0, 0, 0, [])), (564, (.ldc 0, 1, 0, 0, 1, [])), (565, (.iadd, 1, 0, 0, 0, [])), (566, (.iaload, 1, 0, 0, 0, [])), (567, (.invokestatic 1, 3, 83, 2, 530, [(0, 9)])), (570, (.aload 2, 1, 0, 0, 0, [])), (571, (.aload 0, 1, 0, 0, 0, [])), (572, (.iload 3, 1, 0, 0, 0, [])), (573, (.ldc 0, 1, 0, 0, 1, [])), (574, (.iadd, 1, 0, 0, 0, [])), (575, (.iaload, 1, 0, 0, 0, []))],
  [(576, (.invokestatic 1, 3, 166, 2, 1261, [(0, 10)])), (579, (.if_icmp .eq 0, 3, 1566, 0, 0, [])), (582, (.ldc 0, 1, 0, 0, 0, [])), (583, (.ireturn, 1, 3, 0, 0, [])), (584, (.aload 1, 1, 0, 0, 0, [])), (585, (.aload 0, 1, 0, 0, 0, [])), (586, (.iload 3, 1, 0, 0, 0, [])), (587, (.ldc 0, 1, 0, 0, 1, [])), (588, (.iadd, 1, 0, 0, 0, [])), (589, (.iaload, 1, 0, 0, 0, [])), (590, (.invokestatic 1, 3, 84, 2, 534, [(0, 9)])), (593, (.aload 2, 1, 0, 0, 0, [])), (594, (.aload 0, 1, 0, 0, 0, [])), (595, (.iload 3, 1, 0, 0, 0, [])), (596, (.ldc 0, 1, 0, 0, 1, [])), (597, (.iadd, 1, 0, 0, 0, [])), (598, (.iaload, 1, 0, 0, 0, [])), (599, (.invokestatic 1, 3, 168, 2, 1265, [(0, 10)])), (602, (.if_icmp .eq 0, 3, 1566, 0, 0, [])), (605, (.ldc 0, 1, 0, 0, 0, [])), (606, (.ireturn, 1, 3, 0, 0, [])), (607, (.aload 1, 1, 0, 0, 0, []))],
  [(608, (.aload 0, 1, 0, 0, 0, [])), (609, (.iload 3, 1, 0, 0, 0, [])), (610, (.ldc 0, 1, 0, 0, 1, [])), (611, (.iadd, 1, 0, 0, 0, [])), (612, (.iaload, 1, 0, 0, 0, [])), (613, (.invokestatic 1, 3, 85, 2, 548, [(0, 9)])), (616, (.aload 2, 1, 0, 0, 0, [])), (617, (.aload 0, 1, 0, 0, 0, [])), (618, (.iload 3, 1, 0, 0, 0, [])), (619, (.ldc 0, 1, 0, 0, 1, [])), (620, (.iadd, 1, 0, 0, 0, [])), (621, (.iaload, 1, 0, 0, 0, [])), (622, (.invokestatic 1, 3, 169, 2, 1274, [(0, 10)])), (625, (.if_icmp .eq 0, 3, 1566, 0, 0, [])), (628, (.ldc 0, 1, 0, 0, 0, [])), (629, (.ireturn, 1, 3, 0, 0, [])), (630, (.aload 1, 1, 0, 0, 0, [])), (631, (.aload 0, 1, 0, 0, 0, [])), (632, (.iload 3, 1, 0, 0, 0, [])), (633, (.ldc 0, 1, 0, 0, 1, [])), (634, (.iadd, 1, 0, 0, 0, [])), (635, (.iaload, 1, 0, 0, 0, [])), (636, (.invokestatic 1, 3, 86, 2, 552, [(0, 9)])), (639, (.aload 2, 1, 0, 0, 0, []))],
  [(640, (.aload 0, 1, 0, 0, 0, [])), (641, (.iload 3, 1, 0, 0, 0, [])), (642, (.ldc 0, 1, 0, 0, 1, [])), (643, (.iadd, 1, 0, 0, 0, [])), (644, (.iaload, 1, 0, 0, 0, [])), (645, (.invokestatic 1, 3, 173, 2, 1278, [(0, 10)])), (648, (.if_icmp .eq 0, 3, 1566, 0, 0, [])), (651, (.ldc 0, 1, 0, 0, 0, [])), (652, (.ireturn, 1, 3, 0, 0, [])), (653, (.aload 1, 1, 0, 0, 0, [])), (654, (.aload 0, 1, 0, 0, 0, [])), (655, (.iload 3, 1, 0, 0, 0, [])), (656, (.ldc 0, 1, 0, 0, 1, [])), (657, (.iadd, 1, 0, 0, 0, [])), (658, (.iaload, 1, 0, 0, 0, [])), (659, (.invokestatic 1, 3, 87, 2, 565, [(0, 9)])), (662, (.aload 2, 1, 0, 0, 0, [])), (663, (.aload 0, 1, 0, 0, 0, [])), (664, (.iload 3, 1, 0, 0, 0, [])), (665, (.ldc 0, 1, 0, 0, 1, [])), (666, (.iadd, 1, 0, 0, 0, [])), (667, (.iaload, 1, 0, 0, 0, [])), (668, (.invokestatic 1, 3, 177, 2, 1294, [(0, 10)])), (671, (.if_icmp .eq 0, 3, 1566, 0, 0, []))],
  [(674, (.ldc 0, 1, 0, 0, 0, [])), (675, (.ireturn, 1, 3, 0, 0, [])), (676, (.aload 1, 1, 0, 0, 0, [])), (677, (.aload 0, 1, 0, 0, 0, [])), (678, (.iload 3, 1, 0, 0, 0, [])), (679, (.ldc 0, 1, 0, 0, 1, [])), (680, (.iadd, 1, 0, 0, 0, [])), (681, (.iaload, 1, 0, 0, 0, [])), (682, (.aload 0, 1, 0, 0, 0, [])), (683, (.iload 3, 1, 0, 0, 0, [])), (684, (.ldc 0, 1, 0, 0, 2, [])), (685, (.iadd, 1, 0, 0, 0, [])), (686, (.iaload, 1, 0, 0, 0, [])), (687, (.invokestatic 1, 3, 88, 3, 583, [(0, 9)])), (690, (.aload 2, 1, 0, 0, 0, [])), (691, (.aload 0, 1, 0, 0, 0, [])), (692, (.iload 3, 1, 0, 0, 0, [])), (693, (.ldc 0, 1, 0, 0, 1, [])), (694, (.iadd, 1, 0, 0, 0, [])), (695, (.iaload, 1, 0, 0, 0, [])), (696, (.aload 0, 1, 0, 0, 0, [])), (697, (.iload 3, 1, 0, 0, 0, [])), (698, (.ldc 0, 1, 0, 0, 2, [])), (699, (.iadd, 1, 0, 0, 0, [])), (700, (.iaload, 1, 0, 0, 0, [])), (701, (.invokestatic 1, 3, 181, 3, 1311, [(0, 10)]))],
  [(704, (.if_icmp .eq 0, 3, 1566, 0, 0, [])), (707, (.ldc 0, 1, 0, 0, 0, [])), (708, (.ireturn, 1, 3, 0, 0, [])), (709, (.aload 1, 1, 0, 0, 0, [])), (710, (.aload 0, 1, 0, 0, 0, [])), (711, (.iload 3, 1, 0, 0, 0, [])), (712, (.ldc 0, 1, 0, 0, 1, [])), (713, (.iadd, 1, 0, 0, 0, [])), (714, (.iaload, 1, 0, 0, 0, [])), (715, (.invokestatic 1, 3, 89, 2, 622, [(0, 9)])), (718, (.aload 2, 1, 0, 0, 0, [])), (719, (.aload 0, 1, 0, 0, 0, [])), (720, (.iload 3, 1, 0, 0, 0, [])), (721, (.ldc 0, 1, 0, 0, 1, [])), (722, (.iadd, 1, 0, 0, 0, [])), (723, (.iaload, 1, 0, 0, 0, [])), (724, (.invokestatic 1, 3, 182, 2, 1335, [(0, 10)])), (727, (.if_icmp .eq 0, 3, 1566, 0, 0, [])), (730, (.ldc 0, 1, 0, 0, 0, [])), (731, (.ireturn, 1, 3, 0, 0, [])), (732, (.aload 1, 1, 0, 0, 0, [])), (733, (.aload 0, 1, 0, 0, 0, [])), (734, (.iload 3, 1, 0, 0, 0, [])), (735, (.ldc 0, 1, 0, 0, 1, []))],
  [(736, (.iadd, 1, 0, 0, 0, [])), (737, (.iaload, 1, 0, 0, 0, [])), (738, (.invokestatic 1, 3, 90, 2, 630, [(0, 9)])), (741, (.aload 2, 1, 0, 0, 0, [])), (742, (.aload 0, 1, 0, 0, 0, [])), (743, (.iload 3, 1, 0, 0, 0, [])), (744, (.ldc 0, 1, 0, 0, 1, [])), (745, (.iadd, 1, 0, 0, 0, [])), (746, (.iaload, 1, 0, 0, 0, [])), (747, (.invokestatic 1, 3, 183, 2, 1339, [(0, 10)])), (750, (.if_icmp .eq 0, 3, 1566, 0, 0, [])), (753, (.ldc 0, 1, 0, 0, 0, [])), (754, (.ireturn, 1, 3, 0, 0, [])), (755, (.aload 1, 1, 0, 0, 0, [])), (756, (.aload 0, 1, 0, 0, 0, [])), (757, (.iload 3, 1, 0, 0, 0, [])), (758, (.ldc 0, 1, 0, 0, 1, [])), (759, (.iadd, 1, 0, 0, 0, [])), (760, (.iaload, 1, 0, 0, 0, [])), (761, (.aload 0, 1, 0, 0, 0, [])), (762, (.iload 3, 1, 0, 0, 0, [])), (763, (.ldc 0, 1, 0, 0, 2, [])), (764, (.iadd, 1, 0, 0, 0, [])), (765, (.iaload, 1, 0, 0, 0, [])), (766, (.aload 0, 1, 0, 0, 0, [])), (767, (.iload 3, 1, 0, 0, 0, []))],
  [(768, (.ldc 0, 1, 0, 0, 3, [])), (769, (.iadd, 1, 0, 0, 0, [])), (770, (.iaload, 1, 0, 0, 0, [])), (771, (.invokestatic 1, 3, 91, 4, 634, [(0, 9)])), (774, (.aload 2, 1, 0, 0, 0, [])), (775, (.aload 0, 1, 0, 0, 0, [])), (776, (.iload 3, 1, 0, 0, 0, [])), (777, (.ldc 0, 1, 0, 0, 1, [])), (778, (.iadd, 1, 0, 0, 0, [])), (779, (.iaload, 1, 0, 0, 0, [])), (780, (.aload 0, 1, 0, 0, 0, [])), (781, (.iload 3, 1, 0, 0, 0, [])), (782, (.ldc 0, 1, 0, 0, 2, [])), (783, (.iadd, 1, 0, 0, 0, [])), (784, (.iaload, 1, 0, 0, 0, [])), (785, (.aload 0, 1, 0, 0, 0, [])), (786, (.iload 3, 1, 0, 0, 0, [])), (787, (.ldc 0, 1, 0, 0, 3, [])), (788, (.iadd, 1, 0, 0, 0, [])), (789, (.iaload, 1, 0, 0, 0, [])), (790, (.invokestatic 1, 3, 186, 4, 1343, [(0, 10)])), (793, (.if_icmp .eq 0, 3, 1566, 0, 0, [])), (796, (.ldc 0, 1, 0, 0, 0, [])), (797, (.ireturn, 1, 3, 0, 0, [])), (798, (.aload 1, 1, 0, 0, 0, [])), (799, (.aload 0, 1, 0, 0, 0, []))],
  [(800, (.iload 3, 1, 0, 0, 0, [])), (801, (.ldc 0, 1, 0, 0, 1, [])), (802, (.iadd, 1, 0, 0, 0, [])), (803, (.iaload, 1, 0, 0, 0, [])), (804, (.aload 0, 1, 0, 0, 0, [])), (805, (.iload 3, 1, 0, 0, 0, [])), (806, (.ldc 0, 1, 0, 0, 2, [])), (807, (.iadd, 1, 0, 0, 0, [])), (808, (.iaload, 1, 0, 0, 0, [])), (809, (.invokestatic 1, 3, 92, 3, 654, [(0, 9)])), (812, (.aload 2, 1, 0, 0, 0, [])), (813, (.aload 0, 1, 0, 0, 0, [])), (814, (.iload 3, 1, 0, 0, 0, [])), (815, (.ldc 0, 1, 0, 0, 1, [])), (816, (.iadd, 1, 0, 0, 0, [])), (817, (.iaload, 1, 0, 0, 0, [])), (818, (.aload 0, 1, 0, 0, 0, [])), (819, (.iload 3, 1, 0, 0, 0, [])), (820, (.ldc 0, 1, 0, 0, 2, [])), (821, (.iadd, 1, 0, 0, 0, [])), (822, (.iaload, 1, 0, 0, 0, [])), (823, (.invokestatic 1, 3, 187, 3, 1355, [(0, 10)])), (826, (.if_icmp .eq 0, 3, 1566, 0, 0, [])), (829, (.ldc 0, 1, 0, 0, 0, [])), (830, (.ireturn, 1, 3, 0, 0, [])), (831, (.aload 1, 1, 0, 0, 0, []))],
  [(832, (.aload 0, 1, 0, 0, 0, [])), (833, (.iload 3, 1, 0, 0, 0, [])), (834, (.ldc 0, 1, 0, 0, 1, [])), (835, (.iadd, 1, 0, 0, 0, [])), (836, (.iaload, 1, 0, 0, 0, [])), (837, (.invokestatic 1, 3, 93, 2, 658, [(0, 9)])), (840, (.aload 2, 1, 0, 0, 0, [])), (841, (.aload 0, 1, 0, 0, 0, [])), (842, (.iload 3, 1, 0, 0, 0, [])), (843, (.ldc 0, 1, 0, 0, 1, [])), (844, (.iadd, 1, 0, 0, 0, [])), (845, (.iaload, 1, 0, 0, 0, [])), (846, (.invokestatic 1, 3, 189, 2, 1359, [(0, 10)])), (849, (.if_icmp .eq 0, 3, 1566, 0, 0, [])), (852, (.ldc 0, 1, 0, 0, 0, [])), (853, (.ireturn, 1, 3, 0, 0, [])), (854, (.aload 1, 1, 0, 0, 0, [])), (855, (.aload 0, 1, 0, 0, 0, [])), (856, (.iload 3, 1, 0, 0, 0, [])), (857, (.ldc 0, 1, 0, 0, 1, [])), (858, (.iadd, 1, 0, 0, 0, [])), (859, (.iaload, 1, 0, 0, 0, [])), (860, (.aload 0, 1, 0, 0, 0, [])), (861, (.iload 3, 1, 0, 0, 0, [])), (862, (.ldc 0, 1, 0, 0, 2, [])), (863, (.iadd, 1, 0, 0, 0, []))],
  [(864, (.iaload, 1, 0, 0, 0, [])), (865, (.invokestatic 1, 3, 94, 3, 666, [(0, 9)])), (868, (.aload 2, 1, 0, 0, 0, [])), (869, (.aload 0, 1, 0, 0, 0, [])), (870, (.iload 3, 1, 0, 0, 0, [])), (871, (.ldc 0, 1, 0, 0, 1, [])), (872, (.iadd, 1, 0, 0, 0, [])), (873, (.iaload, 1, 0, 0, 0, [])), (874, (.aload 0, 1, 0, 0, 0, [])), (875, (.iload 3, 1, 0, 0, 0, [])), (876, (.ldc 0, 1, 0, 0, 2, [])), (877, (.iadd, 1, 0, 0, 0, [])), (878, (.iaload, 1, 0, 0, 0, [])), (879, (.invokestatic 1, 3, 190, 3, 1367, [(0, 10)])), (882, (.if_icmp .eq 0, 3, 1566, 0, 0, [])), (885, (.ldc 0, 1, 0, 0, 0, [])), (886, (.ireturn, 1, 3, 0, 0, [])), (887, (.aload 1, 1, 0, 0, 0, [])), (888, (.aload 0, 1, 0, 0, 0, [])), (889, (.iload 3, 1, 0, 0, 0, [])), (890, (.ldc 0, 1, 0, 0, 1, [])), (891, (.iadd, 1, 0, 0, 0, [])), (892, (.iaload, 1, 0, 0, 0, [])), (893, (.aload 0, 1, 0, 0, 0, [])), (894, (.iload 3, 1, 0, 0, 0, [])), (895, (.ldc 0, 1, 0, 0, 2, []))],
  [(896, (.iadd, 1, 0, 0, 0, [])), (897, (.iaload, 1, 0, 0, 0, [])), (898, (.invokestatic 1, 3, 95, 3, 670, [(0, 9)])), (901, (.aload 2, 1, 0, 0, 0, [])), (902, (.aload 0, 1, 0, 0, 0, [])), (903, (.iload 3, 1, 0, 0, 0, [])), (904, (.ldc 0, 1, 0, 0, 1, [])), (905, (.iadd, 1, 0, 0, 0, [])), (906, (.iaload, 1, 0, 0, 0, [])), (907, (.aload 0, 1, 0, 0, 0, [])), (908, (.iload 3, 1, 0, 0, 0, [])), (909, (.ldc 0, 1, 0, 0, 2, [])), (910, (.iadd, 1, 0, 0, 0, [])), (911, (.iaload, 1, 0, 0, 0, [])), (912, (.invokestatic 1, 3, 191, 3, 1371, [(0, 10)])), (915, (.if_icmp .eq 0, 3, 1566, 0, 0, [])), (918, (.ldc 0, 1, 0, 0, 0, [])), (919, (.ireturn, 1, 3, 0, 0, [])), (920, (.aload 1, 1, 0, 0, 0, [])), (921, (.aload 0, 1, 0, 0, 0, [])), (922, (.iload 3, 1, 0, 0, 0, [])), (923, (.ldc 0, 1, 0, 0, 1, [])), (924, (.iadd, 1, 0, 0, 0, [])), (925, (.iaload, 1, 0, 0, 0, [])), (926, (.aload 0, 1, 0, 0, 0, [])), (927, (.iload 3, 1, 0, 0, 0, []))],
  [(928, (.ldc 0, 1, 0, 0, 2, [])), (929, (.iadd, 1, 0, 0, 0, [])), (930, (.iaload, 1, 0, 0, 0, [])), (931, (.aload 0, 1, 0, 0, 0, [])), (932, (.iload 3, 1, 0, 0, 0, [])), (933, (.ldc 0, 1, 0, 0, 3, [])), (934, (.iadd, 1, 0, 0, 0, [])), (935, (.iaload, 1, 0, 0, 0, [])), (936, (.invokestatic 1, 3, 96, 4, 678, [(0, 9)])), (939, (.aload 2, 1, 0, 0, 0, [])), (940, (.aload 0, 1, 0, 0, 0, [])), (941, (.iload 3, 1, 0, 0, 0, [])), (942, (.ldc 0, 1, 0, 0, 1, [])), (943, (.iadd, 1, 0, 0, 0, [])), (944, (.iaload, 1, 0, 0, 0, [])), (945, (.aload 0, 1, 0, 0, 0, [])), (946, (.iload 3, 1, 0, 0, 0, [])), (947, (.ldc 0, 1, 0, 0, 2, [])), (948, (.iadd, 1, 0, 0, 0, [])), (949, (.iaload, 1, 0, 0, 0, [])), (950, (.aload 0, 1, 0, 0, 0, [])), (951, (.iload 3, 1, 0, 0, 0, [])), (952, (.ldc 0, 1, 0, 0, 3, [])), (953, (.iadd, 1, 0, 0, 0, [])), (954, (.iaload, 1, 0, 0, 0, [])), (955, (.invokestatic 1, 3, 193, 4, 1375, [(0, 10)])), (958, (.if_icmp .eq 0, 3, 1566, 0, 0, []))],
  [(961, (.ldc 0, 1, 0, 0, 0, [])), (962, (.ireturn, 1, 3, 0, 0, [])), (963, (.aload 1, 1, 0, 0, 0, [])), (964, (.invokestatic 1, 3, 97, 1, 692, [(0, 9)])), (967, (.aload 2, 1, 0, 0, 0, [])), (968, (.invokestatic 1, 3, 194, 1, 1382, [(0, 10)])), (971, (.if_icmp .eq 0, 3, 1566, 0, 0, [])), (974, (.ldc 0, 1, 0, 0, 0, [])), (975, (.ireturn, 1, 3, 0, 0, [])), (976, (.aload 1, 1, 0, 0, 0, [])), (977, (.aload 0, 1, 0, 0, 0, [])), (978, (.iload 3, 1, 0, 0, 0, [])), (979, (.ldc 0, 1, 0, 0, 1, [])), (980, (.iadd, 1, 0, 0, 0, [])), (981, (.iaload, 1, 0, 0, 0, [])), (982, (.invokestatic 1, 3, 98, 2, 698, [(0, 9)])), (985, (.aload 2, 1, 0, 0, 0, [])), (986, (.aload 0, 1, 0, 0, 0, [])), (987, (.iload 3, 1, 0, 0, 0, [])), (988, (.ldc 0, 1, 0, 0, 1, [])), (989, (.iadd, 1, 0, 0, 0, [])), (990, (.iaload, 1, 0, 0, 0, [])), (991, (.invokestatic 1, 3, 195, 2, 1386, [(0, 10)]))],
  [(994, (.if_icmp .eq 0, 3, 1566, 0, 0, [])), (997, (.ldc 0, 1, 0, 0, 0, [])), (998, (.ireturn, 1, 3, 0, 0, [])), (999, (.aload 1, 1, 0, 0, 0, [])), (1000, (.aload 0, 1, 0, 0, 0, [])), (1001, (.iload 3, 1, 0, 0, 0, [])), (1002, (.ldc 0, 1, 0, 0, 1, [])), (1003, (.iadd, 1, 0, 0, 0, [])), (1004, (.iaload, 1, 0, 0, 0, [])), (1005, (.aload 0, 1, 0, 0, 0, [])), (1006, (.iload 3, 1, 0, 0, 0, [])), (1007, (.ldc 0, 1, 0, 0, 2, [])), (1008, (.iadd, 1, 0, 0, 0, [])), (1009, (.iaload, 1, 0, 0, 0, [])), (1010, (.aload 0, 1, 0, 0, 0, [])), (1011, (.iload 3, 1, 0, 0, 0, [])), (1012, (.ldc 0, 1, 0, 0, 3, [])), (1013, (.iadd, 1, 0, 0, 0, [])), (1014, (.iaload, 1, 0, 0, 0, [])), (1015, (.invokestatic 1, 3, 99, 4, 702, [(0, 9)])), (1018, (.aload 2, 1, 0, 0, 0, [])), (1019, (.aload 0, 1, 0, 0, 0, [])), (1020, (.iload 3, 1, 0, 0, 0, [])), (1021, (.ldc 0, 1, 0, 0, 1, [])), (1022, (.iadd, 1, 0, 0, 0, [])), (1023, (.iaload, 1, 0, 0, 0, []))],
  [(1024, (.aload 0, 1, 0, 0, 0, [])), (1025, (.iload 3, 1, 0, 0, 0, [])), (1026, (.ldc 0, 1, 0, 0, 2, [])), (1027, (.iadd, 1, 0, 0, 0, [])), (1028, (.iaload, 1, 0, 0, 0, [])), (1029, (.aload 0, 1, 0, 0, 0, [])), (1030, (.iload 3, 1, 0, 0, 0, [])), (1031, (.ldc 0, 1, 0, 0, 3, [])), (1032, (.iadd, 1, 0, 0, 0, [])), (1033, (.iaload, 1, 0, 0, 0, [])), (1034, (.invokestatic 1, 3, 196, 4, 1390, [(0, 10)])), (1037, (.if_icmp .eq 0, 3, 1566, 0, 0, [])), (1040, (.ldc 0, 1, 0, 0, 0, [])), (1041, (.ireturn, 1, 3, 0, 0, [])), (1042, (.aload 1, 1, 0, 0, 0, [])), (1043, (.aload 0, 1, 0, 0, 0, [])), (1044, (.iload 3, 1, 0, 0, 0, [])), (1045, (.ldc 0, 1, 0, 0, 1, [])), (1046, (.iadd, 1, 0, 0, 0, [])), (1047, (.iaload, 1, 0, 0, 0, [])), (1048, (.invokestatic 1, 3, 100, 2, 710, [(0, 9)])), (1051, (.aload 2, 1, 0, 0, 0, [])), (1052, (.aload 0, 1, 0, 0, 0, [])), (1053, (.iload 3, 1, 0, 0, 0, [])), (1054, (.ldc 0, 1, 0, 0, 1, [])), (1055, (.iadd, 1, 0, 0, 0, []))],
  [(1056, (.iaload, 1, 0, 0, 0, [])), (1057, (.invokestatic 1, 3, 197, 2, 1394, [(0, 10)])), (1060, (.if_icmp .eq 0, 3, 1566, 0, 0, [])), (1063, (.ldc 0, 1, 0, 0, 0, [])), (1064, (.ireturn, 1, 3, 0, 0, [])), (1065, (.aload 1, 1, 0, 0, 0, [])), (1066, (.invokestatic 1, 3, 101, 1, 714, [(0, 9)])), (1069, (.aload 2, 1, 0, 0, 0, [])), (1070, (.invokestatic 1, 3, 209, 1, 1398, [(0, 10)])), (1073, (.if_icmp .eq 0, 3, 1566, 0, 0, [])), (1076, (.ldc 0, 1, 0, 0, 0, [])), (1077, (.ireturn, 1, 3, 0, 0, [])), (1078, (.aload 1, 1, 0, 0, 0, [])), (1079, (.aload 0, 1, 0, 0, 0, [])), (1080, (.iload 3, 1, 0, 0, 0, [])), (1081, (.ldc 0, 1, 0, 0, 1, [])), (1082, (.iadd, 1, 0, 0, 0, [])), (1083, (.iaload, 1, 0, 0, 0, [])), (1084, (.aload 0, 1, 0, 0, 0, [])), (1085, (.iload 3, 1, 0, 0, 0, [])), (1086, (.ldc 0, 1, 0, 0, 2, [])), (1087, (.iadd, 1, 0, 0, 0, []))],
  [(1088, (.iaload, 1, 0, 0, 0, [])), (1089, (.invokestatic 1, 3, 102, 3, 919, [(0, 9)])), (1092, (.aload 2, 1, 0, 0, 0, [])), (1093, (.aload 0, 1, 0, 0, 0, [])), (1094, (.iload 3, 1, 0, 0, 0, [])), (1095, (.ldc 0, 1, 0, 0, 1, [])), (1096, (.iadd, 1, 0, 0, 0, [])), (1097, (.iaload, 1, 0, 0, 0, [])), (1098, (.aload 0, 1, 0, 0, 0, [])), (1099, (.iload 3, 1, 0, 0, 0, [])), (1100, (.ldc 0, 1, 0, 0, 2, [])), (1101, (.iadd, 1, 0, 0, 0, [])), (1102, (.iaload, 1, 0, 0, 0, [])), (1103, (.invokestatic 1, 3, 210, 3, 1445, [(0, 10)])), (1106, (.if_icmp .eq 0, 3, 1566, 0, 0, [])), (1109, (.ldc 0, 1, 0, 0, 0, [])), (1110, (.ireturn, 1, 3, 0, 0, [])), (1111, (.aload 1, 1, 0, 0, 0, [])), (1112, (.aload 0, 1, 0, 0, 0, [])), (1113, (.iload 3, 1, 0, 0, 0, [])), (1114, (.ldc 0, 1, 0, 0, 1, [])), (1115, (.iadd, 1, 0, 0, 0, [])), (1116, (.iaload, 1, 0, 0, 0, [])), (1117, (.invokestatic 1, 3, 103, 2, 923, [(0, 9)]))],
  [(1120, (.aload 2, 1, 0, 0, 0, [])), (1121, (.aload 0, 1, 0, 0, 0, [])), (1122, (.iload 3, 1, 0, 0, 0, [])), (1123, (.ldc 0, 1, 0, 0, 1, [])), (1124, (.iadd, 1, 0, 0, 0, [])), (1125, (.iaload, 1, 0, 0, 0, [])), (1126, (.invokestatic 1, 3, 212, 2, 1449, [(0, 10)])), (1129, (.if_icmp .eq 0, 3, 1566, 0, 0, [])), (1132, (.ldc 0, 1, 0, 0, 0, [])), (1133, (.ireturn, 1, 3, 0, 0, [])), (1134, (.aload 1, 1, 0, 0, 0, [])), (1135, (.aload 0, 1, 0, 0, 0, [])), (1136, (.iload 3, 1, 0, 0, 0, [])), (1137, (.ldc 0, 1, 0, 0, 1, [])), (1138, (.iadd, 1, 0, 0, 0, [])), (1139, (.iaload, 1, 0, 0, 0, [])), (1140, (.aload 0, 1, 0, 0, 0, [])), (1141, (.iload 3, 1, 0, 0, 0, [])), (1142, (.ldc 0, 1, 0, 0, 2, [])), (1143, (.iadd, 1, 0, 0, 0, [])), (1144, (.iaload, 1, 0, 0, 0, [])), (1145, (.aload 0, 1, 0, 0, 0, [])), (1146, (.iload 3, 1, 0, 0, 0, [])), (1147, (.ldc 0, 1, 0, 0, 3, [])), (1148, (.iadd, 1, 0, 0, 0, [])), (1149, (.iaload, 1, 0, 0, 0, [])), (1150, (.invokestatic 1, 3, 104, 4, 927, [(0, 9)]))],
  [(1153, (.aload 2, 1, 0, 0, 0, [])), (1154, (.aload 0, 1, 0, 0, 0, [])), (1155, (.iload 3, 1, 0, 0, 0, [])), (1156, (.ldc 0, 1, 0, 0, 1, [])), (1157, (.iadd, 1, 0, 0, 0, [])), (1158, (.iaload, 1, 0, 0, 0, [])), (1159, (.aload 0, 1, 0, 0, 0, [])), (1160, (.iload 3, 1, 0, 0, 0, [])), (1161, (.ldc 0, 1, 0, 0, 2, [])), (1162, (.iadd, 1, 0, 0, 0, [])), (1163, (.iaload, 1, 0, 0, 0, [])), (1164, (.aload 0, 1, 0, 0, 0, [])), (1165, (.iload 3, 1, 0, 0, 0, [])), (1166, (.ldc 0, 1, 0, 0, 3, [])), (1167, (.iadd, 1, 0, 0, 0, [])), (1168, (.iaload, 1, 0, 0, 0, [])), (1169, (.invokestatic 1, 3, 217, 4, 1453, [(0, 10)])), (1172, (.if_icmp .eq 0, 3, 1566, 0, 0, [])), (1175, (.ldc 0, 1, 0, 0, 0, [])), (1176, (.ireturn, 1, 3, 0, 0, [])), (1177, (.aload 1, 1, 0, 0, 0, [])), (1178, (.aload 0, 1, 0, 0, 0, [])), (1179, (.iload 3, 1, 0, 0, 0, [])), (1180, (.ldc 0, 1, 0, 0, 1, [])), (1181, (.iadd, 1, 0, 0, 0, [])), (1182, (.iaload, 1, 0, 0, 0, [])), (1183, (.aload 0, 1, 0, 0, 0, []))],
  [(1184, (.iload 3, 1, 0, 0, 0, [])), (1185, (.ldc 0, 1, 0, 0, 2, [])), (1186, (.iadd, 1, 0, 0, 0, [])), (1187, (.iaload, 1, 0, 0, 0, [])), (1188, (.aload 0, 1, 0, 0, 0, [])), (1189, (.iload 3, 1, 0, 0, 0, [])), (1190, (.ldc 0, 1, 0, 0, 3, [])), (1191, (.iadd, 1, 0, 0, 0, [])), (1192, (.iaload, 1, 0, 0, 0, [])), (1193, (.invokestatic 1, 3, 105, 4, 935, [(0, 9)])), (1196, (.aload 2, 1, 0, 0, 0, [])), (1197, (.aload 0, 1, 0, 0, 0, [])), (1198, (.iload 3, 1, 0, 0, 0, [])), (1199, (.ldc 0, 1, 0, 0, 1, [])), (1200, (.iadd, 1, 0, 0, 0, [])), (1201, (.iaload, 1, 0, 0, 0, [])), (1202, (.aload 0, 1, 0, 0, 0, [])), (1203, (.iload 3, 1, 0, 0, 0, [])), (1204, (.ldc 0, 1, 0, 0, 2, [])), (1205, (.iadd, 1, 0, 0, 0, [])), (1206, (.iaload, 1, 0, 0, 0, [])), (1207, (.aload 0, 1, 0, 0, 0, [])), (1208, (.iload 3, 1, 0, 0, 0, [])), (1209, (.ldc 0, 1, 0, 0, 3, [])), (1210, (.iadd, 1, 0, 0, 0, [])), (1211, (.iaload, 1, 0, 0, 0, [])), (1212, (.invokestatic 1, 3, 218, 4, 1457, [(0, 10)])), (1215, (.if_icmp .eq 0, 3, 1566, 0, 0, []))],
  [(1218, (.ldc 0, 1, 0, 0, 0, [])), (1219, (.ireturn, 1, 3, 0, 0, [])), (1220, (.aload 1, 1, 0, 0, 0, [])), (1221, (.aload 0, 1, 0, 0, 0, [])), (1222, (.iload 3, 1, 0, 0, 0, [])), (1223, (.ldc 0, 1, 0, 0, 1, [])), (1224, (.iadd, 1, 0, 0, 0, [])), (1225, (.iaload, 1, 0, 0, 0, [])), (1226, (.invokestatic 1, 3, 106, 2, 943, [(0, 9)])), (1229, (.aload 2, 1, 0, 0, 0, [])), (1230, (.aload 0, 1, 0, 0, 0, [])), (1231, (.iload 3, 1, 0, 0, 0, [])), (1232, (.ldc 0, 1, 0, 0, 1, [])), (1233, (.iadd, 1, 0, 0, 0, [])), (1234, (.iaload, 1, 0, 0, 0, [])), (1235, (.invokestatic 1, 3, 219, 2, 1464, [(0, 10)])), (1238, (.if_icmp .eq 0, 3, 1566, 0, 0, [])), (1241, (.ldc 0, 1, 0, 0, 0, [])), (1242, (.ireturn, 1, 3, 0, 0, [])), (1243, (.aload 1, 1, 0, 0, 0, [])), (1244, (.aload 0, 1, 0, 0, 0, [])), (1245, (.iload 3, 1, 0, 0, 0, [])), (1246, (.ldc 0, 1, 0, 0, 1, [])), (1247, (.iadd, 1, 0, 0, 0, []))],
  [(1248, (.iaload, 1, 0, 0, 0, [])), (1249, (.invokestatic 1, 3, 107, 2, 948, [(0, 9)])), (1252, (.aload 2, 1, 0, 0, 0, [])), (1253, (.aload 0, 1, 0, 0, 0, [])), (1254, (.iload 3, 1, 0, 0, 0, [])), (1255, (.ldc 0, 1, 0, 0, 1, [])), (1256, (.iadd, 1, 0, 0, 0, [])), (1257, (.iaload, 1, 0, 0, 0, [])), (1258, (.invokestatic 1, 3, 220, 2, 1468, [(0, 10)])), (1261, (.if_icmp .eq 0, 3, 1566, 0, 0, [])), (1264, (.ldc 0, 1, 0, 0, 0, [])), (1265, (.ireturn, 1, 3, 0, 0, [])), (1266, (.aload 1, 1, 0, 0, 0, [])), (1267, (.aload 0, 1, 0, 0, 0, [])), (1268, (.iload 3, 1, 0, 0, 0, [])), (1269, (.ldc 0, 1, 0, 0, 1, [])), (1270, (.iadd, 1, 0, 0, 0, [])), (1271, (.iaload, 1, 0, 0, 0, [])), (1272, (.aload 0, 1, 0, 0, 0, [])), (1273, (.iload 3, 1, 0, 0, 0, [])), (1274, (.ldc 0, 1, 0, 0, 2, [])), (1275, (.iadd, 1, 0, 0, 0, [])), (1276, (.iaload, 1, 0, 0, 0, [])), (1277, (.aload 0, 1, 0, 0, 0, [])), (1278, (.iload 3, 1, 0, 0, 0, [])), (1279, (.ldc 0, 1, 0, 0, 3, []))],
  [(1280, (.iadd, 1, 0, 0, 0, [])), (1281, (.iaload, 1, 0, 0, 0, [])), (1282, (.aload 0, 1, 0, 0, 0, [])), (1283, (.iload 3, 1, 0, 0, 0, [])), (1284, (.ldc 0, 1, 0, 0, 4, [])), (1285, (.iadd, 1, 0, 0, 0, [])), (1286, (.iaload, 1, 0, 0, 0, [])), (1287, (.aload 0, 1, 0, 0, 0, [])), (1288, (.iload 3, 1, 0, 0, 0, [])), (1289, (.ldc 0, 1, 0, 0, 5, [])), (1290, (.iadd, 1, 0, 0, 0, [])), (1291, (.iaload, 1, 0, 0, 0, [])), (1292, (.invokestatic 1, 3, 108, 6, 952, [(0, 9)])), (1295, (.aload 2, 1, 0, 0, 0, [])), (1296, (.aload 0, 1, 0, 0, 0, [])), (1297, (.iload 3, 1, 0, 0, 0, [])), (1298, (.ldc 0, 1, 0, 0, 1, [])), (1299, (.iadd, 1, 0, 0, 0, [])), (1300, (.iaload, 1, 0, 0, 0, [])), (1301, (.aload 0, 1, 0, 0, 0, [])), (1302, (.iload 3, 1, 0, 0, 0, [])), (1303, (.ldc 0, 1, 0, 0, 2, [])), (1304, (.iadd, 1, 0, 0, 0, [])), (1305, (.iaload, 1, 0, 0, 0, [])), (1306, (.aload 0, 1, 0, 0, 0, [])), (1307, (.iload 3, 1, 0, 0, 0, [])), (1308, (.ldc 0, 1, 0, 0, 3, [])), (1309, (.iadd, 1, 0, 0, 0, [])), (1310, (.iaload, 1, 0, 0, 0, [])), (1311, (.aload 0, 1, 0, 0, 0, []))],
  [(1312, (.iload 3, 1, 0, 0, 0, [])), (1313, (.ldc 0, 1, 0, 0, 4, [])), (1314, (.iadd, 1, 0, 0, 0, [])), (1315, (.iaload, 1, 0, 0, 0, [])), (1316, (.aload 0, 1, 0, 0, 0, [])), (1317, (.iload 3, 1, 0, 0, 0, [])), (1318, (.ldc 0, 1, 0, 0, 5, [])), (1319, (.iadd, 1, 0, 0, 0, [])), (1320, (.iaload, 1, 0, 0, 0, [])), (1321, (.invokestatic 1, 3, 221, 6, 1472, [(0, 10)])), (1324, (.if_icmp .eq 0, 3, 1566, 0, 0, [])), (1327, (.ldc 0, 1, 0, 0, 0, [])), (1328, (.ireturn, 1, 3, 0, 0, [])), (1329, (.aload 1, 1, 0, 0, 0, [])), (1330, (.aload 0, 1, 0, 0, 0, [])), (1331, (.iload 3, 1, 0, 0, 0, [])), (1332, (.ldc 0, 1, 0, 0, 1, [])), (1333, (.iadd, 1, 0, 0, 0, [])), (1334, (.iaload, 1, 0, 0, 0, [])), (1335, (.aload 0, 1, 0, 0, 0, [])), (1336, (.iload 3, 1, 0, 0, 0, [])), (1337, (.ldc 0, 1, 0, 0, 2, [])), (1338, (.iadd, 1, 0, 0, 0, [])), (1339, (.iaload, 1, 0, 0, 0, [])), (1340, (.aload 0, 1, 0, 0, 0, [])), (1341, (.iload 3, 1, 0, 0, 0, [])), (1342, (.ldc 0, 1, 0, 0, 3, [])), (1343, (.iadd, 1, 0, 0, 0, []))],
  [(1344, (.iaload, 1, 0, 0, 0, [])), (1345, (.invokestatic 1, 3, 109, 4, 963, [(0, 9)])), (1348, (.aload 2, 1, 0, 0, 0, [])), (1349, (.aload 0, 1, 0, 0, 0, [])), (1350, (.iload 3, 1, 0, 0, 0, [])), (1351, (.ldc 0, 1, 0, 0, 1, [])), (1352, (.iadd, 1, 0, 0, 0, [])), (1353, (.iaload, 1, 0, 0, 0, [])), (1354, (.aload 0, 1, 0, 0, 0, [])), (1355, (.iload 3, 1, 0, 0, 0, [])), (1356, (.ldc 0, 1, 0, 0, 2, [])), (1357, (.iadd, 1, 0, 0, 0, [])), (1358, (.iaload, 1, 0, 0, 0, [])), (1359, (.aload 0, 1, 0, 0, 0, [])), (1360, (.iload 3, 1, 0, 0, 0, [])), (1361, (.ldc 0, 1, 0, 0, 3, [])), (1362, (.iadd, 1, 0, 0, 0, [])), (1363, (.iaload, 1, 0, 0, 0, [])), (1364, (.invokestatic 1, 3, 222, 4, 1476, [(0, 10)])), (1367, (.if_icmp .eq 0, 3, 1566, 0, 0, [])), (1370, (.ldc 0, 1, 0, 0, 0, [])), (1371, (.ireturn, 1, 3, 0, 0, [])), (1372, (.aload 1, 1, 0, 0, 0, [])), (1373, (.aload 0, 1, 0, 0, 0, [])), (1374, (.iload 3, 1, 0, 0, 0, [])), (1375, (.ldc 0, 1, 0, 0, 1, []))],
  [(1376, (.iadd, 1, 0, 0, 0, [])), (1377, (.iaload, 1, 0, 0, 0, [])), (1378, (.aload 0, 1, 0, 0, 0, [])), (1379, (.iload 3, 1, 0, 0, 0, [])), (1380, (.ldc 0, 1, 0, 0, 2, [])), (1381, (.iadd, 1, 0, 0, 0, [])), (1382, (.iaload, 1, 0, 0, 0, [])), (1383, (.invokestatic 1, 3, 110, 3, 978, [(0, 9)])), (1386, (.aload 2, 1, 0, 0, 0, [])), (1387, (.aload 0, 1, 0, 0, 0, [])), (1388, (.iload 3, 1, 0, 0, 0, [])), (1389, (.ldc 0, 1, 0, 0, 1, [])), (1390, (.iadd, 1, 0, 0, 0, [])), (1391, (.iaload, 1, 0, 0, 0, [])), (1392, (.aload 0, 1, 0, 0, 0, [])), (1393, (.iload 3, 1, 0, 0, 0, [])), (1394, (.ldc 0, 1, 0, 0, 2, [])), (1395, (.iadd, 1, 0, 0, 0, [])), (1396, (.iaload, 1, 0, 0, 0, [])), (1397, (.invokestatic 1, 3, 223, 3, 1483, [(0, 10)])), (1400, (.if_icmp .eq 0, 3, 1566, 0, 0, [])), (1403, (.ldc 0, 1, 0, 0, 0, [])), (1404, (.ireturn, 1, 3, 0, 0, [])), (1405, (.aload 1, 1, 0, 0, 0, [])), (1406, (.aload 0, 1, 0, 0, 0, [])), (1407, (.iload 3, 1, 0, 0, 0, []))],
  [(1408, (.ldc 0, 1, 0, 0, 1, [])), (1409, (.iadd, 1, 0, 0, 0, [])), (1410, (.iaload, 1, 0, 0, 0, [])), (1411, (.aload 0, 1, 0, 0, 0, [])), (1412, (.iload 3, 1, 0, 0, 0, [])), (1413, (.ldc 0, 1, 0, 0, 2, [])), (1414, (.iadd, 1, 0, 0, 0, [])), (1415, (.iaload, 1, 0, 0, 0, [])), (1416, (.invokestatic 1, 3, 111, 3, 982, [(0, 9)])), (1419, (.aload 2, 1, 0, 0, 0, [])), (1420, (.aload 0, 1, 0, 0, 0, [])), (1421, (.iload 3, 1, 0, 0, 0, [])), (1422, (.ldc 0, 1, 0, 0, 1, [])), (1423, (.iadd, 1, 0, 0, 0, [])), (1424, (.iaload, 1, 0, 0, 0, [])), (1425, (.aload 0, 1, 0, 0, 0, [])), (1426, (.iload 3, 1, 0, 0, 0, [])), (1427, (.ldc 0, 1, 0, 0, 2, [])), (1428, (.iadd, 1, 0, 0, 0, [])), (1429, (.iaload, 1, 0, 0, 0, [])), (1430, (.invokestatic 1, 3, 224, 3, 1487, [(0, 10)])), (1433, (.if_icmp .eq 0, 3, 1566, 0, 0, [])), (1436, (.ldc 0, 1, 0, 0, 0, [])), (1437, (.ireturn, 1, 3, 0, 0, [])), (1438, (.aload 1, 1, 0, 0, 0, [])), (1439, (.aload 0, 1, 0, 0, 0, []))],
  [(1440, (.iload 3, 1, 0, 0, 0, [])), (1441, (.ldc 0, 1, 0, 0, 1, [])), (1442, (.iadd, 1, 0, 0, 0, [])), (1443, (.iaload, 1, 0, 0, 0, [])), (1444, (.aload 0, 1, 0, 0, 0, [])), (1445, (.iload 3, 1, 0, 0, 0, [])), (1446, (.ldc 0, 1, 0, 0, 2, [])), (1447, (.iadd, 1, 0, 0, 0, [])), (1448, (.iaload, 1, 0, 0, 0, [])), (1449, (.invokestatic 1, 3, 112, 3, 986, [(0, 9)])), (1452, (.aload 2, 1, 0, 0, 0, [])), (1453, (.aload 0, 1, 0, 0, 0, [])), (1454, (.iload 3, 1, 0, 0, 0, [])), (1455, (.ldc 0, 1, 0, 0, 1, [])), (1456, (.iadd, 1, 0, 0, 0, [])), (1457, (.iaload, 1, 0, 0, 0, [])), (1458, (.aload 0, 1, 0, 0, 0, [])), (1459, (.iload 3, 1, 0, 0, 0, [])), (1460, (.ldc 0, 1, 0, 0, 2, [])), (1461, (.iadd, 1, 0, 0, 0, [])), (1462, (.iaload, 1, 0, 0, 0, [])), (1463, (.invokestatic 1, 3, 225, 3, 1491, [(0, 10)])), (1466, (.if_icmp .eq 0, 3, 1566, 0, 0, [])), (1469, (.ldc 0, 1, 0, 0, 0, [])), (1470, (.ireturn, 1, 3, 0, 0, [])), (1471, (.aload 1, 1, 0, 0, 0, []))],
  [(1472, (.aload 0, 1, 0, 0, 0, [])), (1473, (.iload 3, 1, 0, 0, 0, [])), (1474, (.ldc 0, 1, 0, 0, 1, [])), (1475, (.iadd, 1, 0, 0, 0, [])), (1476, (.iaload, 1, 0, 0, 0, [])), (1477, (.invokestatic 1, 3, 113, 2, 991, [(0, 9)])), (1480, (.aload 2, 1, 0, 0, 0, [])), (1481, (.aload 0, 1, 0, 0, 0, [])), (1482, (.iload 3, 1, 0, 0, 0, [])), (1483, (.ldc 0, 1, 0, 0, 1, [])), (1484, (.iadd, 1, 0, 0, 0, [])), (1485, (.iaload, 1, 0, 0, 0, [])), (1486, (.invokestatic 1, 3, 226, 2, 1496, [(0, 10)])), (1489, (.if_icmp .eq 0, 3, 1566, 0, 0, [])), (1492, (.ldc 0, 1, 0, 0, 0, [])), (1493, (.ireturn, 1, 3, 0, 0, [])), (1494, (.aload 1, 1, 0, 0, 0, [])), (1495, (.aload 0, 1, 0, 0, 0, [])), (1496, (.iload 3, 1, 0, 0, 0, [])), (1497, (.ldc 0, 1, 0, 0, 1, [])), (1498, (.iadd, 1, 0, 0, 0, [])), (1499, (.iaload, 1, 0, 0, 0, [])), (1500, (.invokestatic 1, 3, 114, 2, 995, [(0, 9)])), (1503, (.aload 2, 1, 0, 0, 0, []))],
  [(1504, (.aload 0, 1, 0, 0, 0, [])), (1505, (.iload 3, 1, 0, 0, 0, [])), (1506, (.ldc 0, 1, 0, 0, 1, [])), (1507, (.iadd, 1, 0, 0, 0, [])), (1508, (.iaload, 1, 0, 0, 0, [])), (1509, (.invokestatic 1, 3, 227, 2, 1500, [(0, 10)])), (1512, (.if_icmp .eq 0, 3, 1566, 0, 0, [])), (1515, (.ldc 0, 1, 0, 0, 0, [])), (1516, (.ireturn, 1, 3, 0, 0, [])), (1517, (.aload 1, 1, 0, 0, 0, [])), (1518, (.invokestatic 1, 3, 115, 1, 1003, [(0, 9)])), (1521, (.aload 2, 1, 0, 0, 0, [])), (1522, (.invokestatic 1, 3, 228, 1, 1507, [(0, 10)])), (1525, (.if_icmp .eq 0, 3, 1566, 0, 0, [])), (1528, (.ldc 0, 1, 0, 0, 0, [])), (1529, (.ireturn, 1, 3, 0, 0, [])), (1530, (.aload 1, 1, 0, 0, 0, [])), (1531, (.invokestatic 1, 3, 116, 1, 1007, [(0, 9)])), (1534, (.aload 2, 1, 0, 0, 0, [])), (1535, (.invokestatic 1, 3, 229, 1, 1511, [(0, 10)]))],
  [(1538, (.if_icmp .eq 0, 3, 1566, 0, 0, [])), (1541, (.ldc 0, 1, 0, 0, 0, [])), (1542, (.ireturn, 1, 3, 0, 0, [])), (1543, (.aload 1, 1, 0, 0, 0, [])), (1544, (.aload 0, 1, 0, 0, 0, [])), (1545, (.iload 3, 1, 0, 0, 0, [])), (1546, (.ldc 0, 1, 0, 0, 1, [])), (1547, (.iadd, 1, 0, 0, 0, [])), (1548, (.iaload, 1, 0, 0, 0, [])), (1549, (.invokestatic 1, 3, 117, 2, 1011, [(0, 9)])), (1552, (.aload 2, 1, 0, 0, 0, [])), (1553, (.aload 0, 1, 0, 0, 0, [])), (1554, (.iload 3, 1, 0, 0, 0, [])), (1555, (.ldc 0, 1, 0, 0, 1, [])), (1556, (.iadd, 1, 0, 0, 0, [])), (1557, (.iaload, 1, 0, 0, 0, [])), (1558, (.invokestatic 1, 3, 230, 2, 1515, [(0, 10)])), (1561, (.if_icmp .eq 0, 3, 1566, 0, 0, [])), (1564, (.ldc 0, 1, 0, 0, 0, [])), (1565, (.ireturn, 1, 3, 0, 0, [])), (1566, (.iinc 3 0, 3, 0, 0, 6, []))],
  [(1569, (.goto 0, 3, 18, 0, 0, [])), (1572, (.ldc 0, 1, 0, 0, 1, [])), (1573, (.ireturn, 1, 3, 0, 0, []))]]
abbrev m_Law_law : Nat := 246
def pm_g0 : List (Nat × pm_T) := [(3, pm_t0), (3, pm_t1), (2, pm_t2), (1, pm_t3), (4, pm_t4), (4, pm_t5), (2, pm_t6), (2, pm_t7), (2, pm_t8), (5, pm_t9), (7, pm_t10), (5, pm_t11), (5, pm_t12), (3, pm_t13), (3, pm_t14), (3, pm_t15)]
def pm_g1 : List (Nat × pm_T) := [(4, pm_t16), (4, pm_t17), (2, pm_t18), (2, pm_t19), (1, pm_t20), (2, pm_t21), (2, pm_t22), (9, pm_t23), (4, pm_t24), (3, pm_t25), (1, pm_t26), (2, pm_t27), (2, pm_t28), (1, pm_t29), (4, pm_t30), (1, pm_t31)]
def pm_g2 : List (Nat × pm_T) := [(2, pm_t32), (3, pm_t33), (1, pm_t34), (2, pm_t35), (2, pm_t36), (2, pm_t37), (3, pm_t38), (3, pm_t39), (1, pm_t40), (3, pm_t41), (2, pm_t42), (1, pm_t43), (2, pm_t44), (1, pm_t45), (1, pm_t46), (1, pm_t47)]
def pm_g3 : List (Nat × pm_T) := [(3, pm_t48), (3, pm_t49), (7, pm_t50), (6, pm_t51), (7, pm_t52), (1, pm_t53), (4, pm_t54), (3, pm_t55), (2, pm_t56), (3, pm_t57), (1, pm_t58), (2, pm_t59), (1, pm_t60), (4, pm_t61), (3, pm_t62), (2, pm_t63)]
def pm_g4 : List (Nat × pm_T) := [(3, pm_t64), (6, pm_t65), (3, pm_t66), (1, pm_t67), (3, pm_t68), (2, pm_t69), (1, pm_t70), (1, pm_t71), (2, pm_t72), (2, pm_t73), (4, pm_t74), (4, pm_t75), (3, pm_t76), (4, pm_t77), (5, pm_t78), (6, pm_t79)]
def pm_g5 : List (Nat × pm_T) := [(7, pm_t80), (5, pm_t81), (4, pm_t82), (3, pm_t83), (4, pm_t84), (3, pm_t85), (4, pm_t86), (2, pm_t87), (4, pm_t88), (2, pm_t89), (5, pm_t90), (9, pm_t91), (4, pm_t92), (3, pm_t93), (5, pm_t94), (7, pm_t95)]
def pm_g6 : List (Nat × pm_T) := [(8, pm_t96), (2, pm_t97), (4, pm_t98), (4, pm_t99), (2, pm_t100), (4, pm_t101), (3, pm_t102), (2, pm_t103), (4, pm_t104), (5, pm_t105), (6, pm_t106), (4, pm_t107), (8, pm_t108), (6, pm_t109), (4, pm_t110), (4, pm_t111)]
def pm_g7 : List (Nat × pm_T) := [(3, pm_t112), (2, pm_t113), (5, pm_t114), (1, pm_t115), (1, pm_t116), (2, pm_t117), (1, pm_t118), (1, pm_t119), (1, pm_t120), (1, pm_t121), (1, pm_t122), (1, pm_t123), (1, pm_t124), (3, pm_t125), (1, pm_t126), (1, pm_t127)]
def pm_g8 : List (Nat × pm_T) := [(3, pm_t128), (3, pm_t129), (2, pm_t130), (5, pm_t131), (5, pm_t132), (5, pm_t133), (4, pm_t134), (1, pm_t135), (3, pm_t136), (3, pm_t137), (3, pm_t138), (2, pm_t139), (1, pm_t140), (3, pm_t141), (4, pm_t142), (4, pm_t143)]
def pm_g9 : List (Nat × pm_T) := [(5, pm_t144), (2, pm_t145), (4, pm_t146), (4, pm_t147), (3, pm_t148), (2, pm_t149), (3, pm_t150), (4, pm_t151), (3, pm_t152), (3, pm_t153), (2, pm_t154), (3, pm_t155), (3, pm_t156), (4, pm_t157), (4, pm_t158), (4, pm_t159)]
def pm_g10 : List (Nat × pm_T) := [(2, pm_t160), (5, pm_t161), (5, pm_t162), (4, pm_t163), (4, pm_t164), (3, pm_t165), (2, pm_t166), (1, pm_t167), (6, pm_t168), (2, pm_t169), (4, pm_t170), (2, pm_t171), (3, pm_t172), (3, pm_t173), (3, pm_t174), (3, pm_t175)]
def pm_g11 : List (Nat × pm_T) := [(3, pm_t176), (2, pm_t177), (2, pm_t178), (6, pm_t179), (6, pm_t180), (4, pm_t181), (4, pm_t182), (4, pm_t183), (2, pm_t184), (2, pm_t185), (8, pm_t186), (4, pm_t187), (4, pm_t188), (3, pm_t189), (6, pm_t190), (7, pm_t191)]
def pm_g12 : List (Nat × pm_T) := [(3, pm_t192), (8, pm_t193), (2, pm_t194), (3, pm_t195), (6, pm_t196), (2, pm_t197), (2, pm_t198), (2, pm_t199), (2, pm_t200), (5, pm_t201), (2, pm_t202), (1, pm_t203), (2, pm_t204), (1, pm_t205), (2, pm_t206), (5, pm_t207)]
def pm_g13 : List (Nat × pm_T) := [(3, pm_t208), (4, pm_t209), (3, pm_t210), (3, pm_t211), (3, pm_t212), (3, pm_t213), (6, pm_t214), (1, pm_t215), (1, pm_t216), (5, pm_t217), (4, pm_t218), (6, pm_t219), (4, pm_t220), (7, pm_t221), (6, pm_t222), (3, pm_t223)]
def pm_g14 : List (Nat × pm_T) := [(4, pm_t224), (3, pm_t225), (2, pm_t226), (6, pm_t227), (1, pm_t228), (1, pm_t229), (2, pm_t230), (1, pm_t231), (1, pm_t232), (2, pm_t233), (2, pm_t234), (3, pm_t235), (1, pm_t236), (1, pm_t237), (2, pm_t238), (3, pm_t239)]
def pm_g15 : List (Nat × pm_T) := [(2, pm_t240), (1, pm_t241), (4, pm_t242), (6, pm_t243), (3, pm_t244), (4, pm_t245), (4, pm_t246)]
def pm_gs : List (List (Nat × pm_T)) := [pm_g0, pm_g1, pm_g2, pm_g3, pm_g4, pm_g5, pm_g6, pm_g7, pm_g8, pm_g9, pm_g10, pm_g11, pm_g12, pm_g13, pm_g14, pm_g15]
def pm_g : pm_G := fun m => (pm_gs.getD (m / 16) [])[m % 16]?
end
section
/-! ===== what a run needs, as a statement (pm_vs, pm_vc), and that it suffices; the shape and the references stay ===== -/
theorem pm_step_mono {c1 c2 : Nat → List pm_V → pm_S → pm_A → pm_B → pm_O} {k1 k2 : Nat → pm_L → List pm_V → pm_S → pm_A → pm_B → pm_O} (hc : ∀ m a sh hr hi r, c1 m a sh hr hi = some r → c2 m a sh hr hi = some r) (hk : ∀ pc ls st sh hr hi r, k1 pc ls st sh hr hi = some r → k2 pc ls st sh hr hi = some r)
    {r : pm_I} {pc : Nat} {ls : pm_L} {st : List pm_V} {sh : pm_S} {hr : pm_A} {hi : pm_B} {o : Option pm_V × pm_S × pm_A × pm_B} (h : pm_step c1 k1 r pc ls st sh hr hi = some o) : pm_step c2 k2 r pc ls st sh hr hi = some o := by
  obtain ⟨op, len, a, b, c, sw⟩ := r
  unfold pm_step at h ⊢
  dsimp only at h ⊢
  split at h <;> (try dsimp only at h ⊢)
  all_goals first
    | exact hk _ _ _ _ _ _ _ h
    | exact h
    | (cases h; done)
    | (split at h <;> rename_i hq <;> first
        | (cases h; done)
        | (exact hk _ _ _ _ _ _ _ h)
        | (rw [if_pos hq]
           first
             | exact hk _ _ _ _ _ _ _ h
             | exact h
             | (split at h
                · cases h
                · rename_i hcall
                  rw [hc _ _ _ _ _ _ hcall]
                  exact hk _ _ _ _ _ _ _ h))
        | (rw [if_neg hq]; exact hk _ _ _ _ _ _ _ h)
        | (rw [hq]; exact hk _ _ _ _ _ _ _ h))
theorem pm_exec_mono {c1 c2 : Nat → List pm_V → pm_S → pm_A → pm_B → pm_O} (hc : ∀ m a sh hr hi r, c1 m a sh hr hi = some r → c2 m a sh hr hi = some r) (t : pm_T) : ∀ (n n' : Nat), n ≤ n' → ∀ pc ls st sh hr hi r, pm_exec c1 t n pc ls st sh hr hi = some r → pm_exec c2 t n' pc ls st sh hr hi = some r
  | 0, _, _, pc, ls, st, sh, hr, hi, r, h => by cases h
  | n + 1, 0, hn, pc, ls, st, sh, hr, hi, r, h => by omega
  | n + 1, n' + 1, hn, pc, ls, st, sh, hr, hi, r, h => by
    unfold pm_exec at h ⊢
    split at h
    · cases h
    · rename_i row he
      exact pm_step_mono hc (pm_exec_mono hc t n n' (by omega)) h
theorem pm_call_mono (G : pm_G) {N N' : Nat} (hN : N ≤ N') : ∀ (d d' : Nat), d ≤ d' → ∀ m a sh hr hi r, pm_call G N d m a sh hr hi = some r → pm_call G N' d' m a sh hr hi = some r
  | 0, _, _, m, a, sh, hr, hi, r, h => by cases h
  | d + 1, 0, hd, m, a, sh, hr, hi, r, h => by omega
  | d + 1, d' + 1, hd, m, a, sh, hr, hi, r, h => by
    unfold pm_call at h ⊢
    split at h
    · cases h
    · rename_i maxL t he
      split at h
      · rename_i hl
        rw [if_pos hl]
        exact pm_exec_mono (pm_call_mono G hN d d' (by omega)) t N N' hN _ _ _ _ _ _ _ h
      · cases h
abbrev pm_Q : Type := Option pm_V → pm_B → Prop
/-- from a place of a method: it ends, with Q; nothing is made -/
def pm_W (G : pm_G) (sh : pm_S) (hr : pm_A) (d : Nat) (t : pm_T) (pc : Nat) (ls : pm_L) (st : List pm_V) (hi : pm_B) (Q : pm_Q) : Prop := ∃ (N : Nat) (v : Option pm_V) (hi' : pm_B), pm_exec (pm_call G N d) t N pc ls st sh hr hi = some (v, sh, hr, hi') ∧ Q v hi'
/-- a call: it ends, with Q -/
def pm_C (G : pm_G) (sh : pm_S) (hr : pm_A) (d m : Nat) (args : List pm_V) (hi : pm_B) (Q : pm_Q) : Prop := ∃ (N : Nat) (v : Option pm_V) (hi' : pm_B), pm_call G N d m args sh hr hi = some (v, sh, hr, hi') ∧ Q v hi'
def pm_rc (sh : pm_S) (sw : List (Int32 × Nat)) (args : List pm_V) : Prop := match sw, args with
  | [], _ => True
  | [z], .inr q :: _ => sh[q]? = some (0, z.2, 0)
  | _, _ => False
/-- what a call hands back: 0 nothing, 1 a number, else a reference -/
def pm_rv (k : Nat) (v : Option pm_V) (F : List pm_V → Prop) : Prop := match k with
  | 0 => v = none ∧ F []
  | 1 => ∃ x : Int32, v = some (.inl x) ∧ F [.inl x]
  | _ => ∃ q : Nat, v = some (.inr q) ∧ F [.inr q]
def pm_vs (C : Nat → List pm_V → pm_B → pm_Q → Prop) (sh : pm_S) (hr : pm_A) (K : Nat → pm_L → List pm_V → pm_B → Prop) (Q : pm_Q) (r : pm_I) (pc : Nat) (ls : pm_L) (st : List pm_V) (hi : pm_B) : Prop :=
  match r with
  | (op, len, a, b, c, sw) => match op, st with
    | .iload j, st => (match ls[j]? with | some (some (.inl x)) => K (pc + len) ls (.inl x :: st) hi | _ => False)
    | .aload j, st => (match ls[j]? with | some (some (.inr x)) => K (pc + len) ls (.inr x :: st) hi | _ => False)
    | .istore j, .inl x :: st => bif Nat.blt j ls.length then K (pc + len) (ls.set j (some (.inl x))) st hi else False
    | .astore j, .inr x :: st => bif Nat.blt j ls.length then K (pc + len) (ls.set j (some (.inr x))) st hi else False
    | .iinc j _, st => (match ls[j]? with | some (some (.inl x)) => K (pc + len) (ls.set j (some (.inl (x + c)))) st hi | _ => False)
    | .ldc _, st => K (pc + len) ls (.inl c :: st) hi
    | .ldc_w _, st => K (pc + len) ls (.inr a :: st) hi
    | .dup, v :: st => K (pc + len) ls (v :: v :: st) hi
    | .dup2, v :: w :: st => K (pc + len) ls (v :: w :: v :: w :: st) hi
    | .pop, v :: st => K (pc + len) ls st hi
    | .iadd, .inl y :: .inl x :: st => K (pc + len) ls (.inl (x + y) :: st) hi
    | .isub, .inl y :: .inl x :: st => K (pc + len) ls (.inl (x - y) :: st) hi
    | .imul, .inl y :: .inl x :: st => K (pc + len) ls (.inl (x * y) :: st) hi
    | .iand, .inl y :: .inl x :: st => K (pc + len) ls (.inl (x &&& y) :: st) hi
    | .ior, .inl y :: .inl x :: st => K (pc + len) ls (.inl (x ||| y) :: st) hi
    | .ixor, .inl y :: .inl x :: st => K (pc + len) ls (.inl (x ^^^ y) :: st) hi
    | .idiv, .inl y :: .inl x :: st => ¬ y = 0 ∧ K (pc + len) ls (.inl (x / y) :: st) hi
    | .irem, .inl y :: .inl x :: st => ¬ y = 0 ∧ K (pc + len) ls (.inl (x - x / y * y) :: st) hi
    | .ineg, .inl x :: st => K (pc + len) ls (.inl (-x) :: st) hi
    | .ishl, .inl y :: .inl x :: st => K (pc + len) ls (.inl (x <<< (y &&& 31)) :: st) hi
    | .ishr, .inl y :: .inl x :: st => K (pc + len) ls (.inl (x >>> (y &&& 31)) :: st) hi
    | .iushr, .inl y :: .inl x :: st => K (pc + len) ls (.inl ((x.toUInt32 >>> (y.toUInt32 &&& Int32.toUInt32 31)).toInt32) :: st) hi
    | .i2s, .inl x :: st => K (pc + len) ls (.inl x.toInt16.toInt32 :: st) hi
    | .i2b, .inl x :: st => K (pc + len) ls (.inl x.toInt8.toInt32 :: st) hi
    | .i2c, .inl x :: st => K (pc + len) ls (.inl (x.toUInt32 % 65536).toInt32 :: st) hi
    | .ifCond cd _, .inl x :: st => (pm_cd cd x 0 → K a ls st hi) ∧ (¬ pm_cd cd x 0 → K (pc + len) ls st hi)
    | .if_icmp cd _, .inl y :: .inl x :: st => (pm_cd cd x y → K a ls st hi) ∧ (¬ pm_cd cd x y → K (pc + len) ls st hi)
    | .goto _, st => K a ls st hi
    | .lookupswitch _ _, .inl x :: st => ∀ pc', pm_sw x a sw = pc' → K pc' ls st hi
    | .getfield 0, .inr q :: st => sh[q]? = some (0, a, 0) ∧ K (pc + len) ls (.inl (hi q b) :: st) hi
    | .getfield 1, .inr q :: st => sh[q]? = some (0, a, 0) ∧ K (pc + len) ls (.inr (hr q b) :: st) hi
    | .getfield _, .inr q :: st => sh[q]? = some (0, a, 0) ∧ K (pc + len) ls (.inr (hi q b).toNatClampNeg :: st) hi
    | .putfield 0, .inl v :: .inr q :: st => (sh[q]? = some (0, a, 0) ∧ pm_fit c.toNatClampNeg v) ∧ K (pc + len) ls st (pm_u hi q b v)
    | .putfield 2, .inr v :: .inr q :: st => (sh[q]? = some (0, a, 0) ∧ v < 2147483648) ∧ K (pc + len) ls st (pm_u hi q b (nI v))
    | .iaload, .inl i :: .inr q :: st => pm_ao sh q a i ∧ K (pc + len) ls (.inl (hi q i.toNatClampNeg) :: st) hi
    | .aaload, .inl i :: .inr q :: st => pm_ao sh q a i ∧ K (pc + len) ls (.inr (hr q i.toNatClampNeg) :: st) hi
    | .iastore, .inl v :: .inl i :: .inr q :: st => (pm_aw sh q a i ∧ pm_fit a v) ∧ K (pc + len) ls st (pm_u hi q i.toNatClampNeg v)
    | .arraylength, .inr q :: st => ∃ n, pm_len sh q n ∧ K (pc + len) ls (.inl (nI n) :: st) hi
    | .invokestatic k, st => bif Nat.ble b st.length && Nat.ble (st.drop b).length 8 then pm_rc sh sw (st.take b).reverse ∧ C a (st.take b).reverse hi (fun v hi' => pm_rv k v (fun x => K (pc + len) ls (x ++ st.drop b) hi')) else False
    | .swap, .inl n :: .inl dp :: .inr d :: .inl sp :: .inr q :: st => bif Nat.ble st.length 8 then pm_cpy sh q d sp dp n ∧ K (pc + len) ls st (pm_cp hi q sp.toNatClampNeg d dp.toNatClampNeg n.toNatClampNeg) else False
    | .ladd, .inl y :: .inl x :: st => bif Nat.ble st.length 8 then K (pc + len) ls (.inl (if x < y then y else x) :: st) hi else False
    | .lsub, .inl y :: .inl x :: st => bif Nat.ble st.length 8 then K (pc + len) ls (.inl (if y < x then y else x) :: st) hi else False
    | .ireturn, [.inl v] => pm_fit a v ∧ Q (some (.inl v)) hi
    | .areturn, [.inr v] => Q (some (.inr v)) hi
    | .return_, [] => Q none hi
    | _, _ => False
def pm_vc (C : Nat → List pm_V → pm_B → pm_Q → Prop) (sh : pm_S) (hr : pm_A) (t : pm_T) (stops : List Nat) (Z : Nat → pm_L → List pm_V → pm_B → Prop) (Q : pm_Q) : Nat → Nat → pm_L → List pm_V → pm_B → Prop
  | 0, pc, ls, st, hi => Z pc ls st hi
  | n + 1, pc, ls, st, hi => bif stops.elem pc then Z pc ls st hi else match pm_at t pc with
    | none => False
    | some r => pm_vs C sh hr (pm_vc C sh hr t stops Z Q n) Q r pc ls st hi
theorem pm_W_k {G : pm_G} {d : Nat} {t : pm_T} {pc pc' : Nat} {ls ls' : pm_L} {st st' : List pm_V} {sh : pm_S} {hr : pm_A} {hi hi' : pm_B} {Q : pm_Q} {r : pm_I} (he : pm_at t pc = some r) (h : pm_W G sh hr d t pc' ls' st' hi' Q)
    (hs : ∀ call k, pm_step call k r pc ls st sh hr hi = k pc' ls' st' sh hr hi') : pm_W G sh hr d t pc ls st hi Q := by
  obtain ⟨N, v, i1, h1, h2⟩ := h
  refine ⟨N + 1, v, i1, ?_, h2⟩
  unfold pm_exec
  rw [he]
  dsimp only
  rw [hs]
  exact pm_exec_mono (pm_call_mono G (Nat.le_succ N) d d (Nat.le_refl d)) t N N (Nat.le_refl N) _ _ _ _ _ _ _ h1
theorem pm_W_r {G : pm_G} {d : Nat} {t : pm_T} {pc : Nat} {ls : pm_L} {st : List pm_V} {sh : pm_S} {hr : pm_A} {hi hi' : pm_B} {Q : pm_Q} {r : pm_I} {v : Option pm_V} (he : pm_at t pc = some r) (h : Q v hi')
    (hs : ∀ call k, pm_step call k r pc ls st sh hr hi = some (v, sh, hr, hi')) : pm_W G sh hr d t pc ls st hi Q := by
  refine ⟨1, v, hi', ?_, h⟩
  unfold pm_exec
  rw [he]
  dsimp only
  rw [hs]
theorem pm_rc_b {sh : pm_S} {sw : List (Int32 × Nat)} {args : List pm_V} (h : pm_rc sh sw args) : (sw.all fun z => pm_rcv sh z.2 args) = true := by
  unfold pm_rc at h
  split at h
  · rfl
  · simp [pm_rcv, h]
  · cases h
theorem pm_W_call {G : pm_G} {d : Nat} {t : pm_T} {pc k len a b : Nat} {c : Int32} {sw : List (Int32 × Nat)} {ls : pm_L} {st : List pm_V} {sh : pm_S} {hr : pm_A} {hi : pm_B} {Q : pm_Q} (he : pm_at t pc = some (.invokestatic k, len, a, b, c, sw))
    (h1 : b ≤ st.length ∧ (st.drop b).length ≤ 8) (h2 : pm_rc sh sw (st.take b).reverse) (h3 : pm_C G sh hr d a (st.take b).reverse hi (fun v hi' => pm_W G sh hr d t (pc + len) ls (v.toList ++ st.drop b) hi' Q)) : pm_W G sh hr d t pc ls st hi Q := by
  obtain ⟨N1, v1, i1, hc, N2, v2, i2, h4, h5⟩ := h3
  refine ⟨max N1 N2 + 1, v2, i2, ?_, h5⟩
  unfold pm_exec
  rw [he]
  simp only [pm_step]
  rw [if_pos ⟨h1.1, h1.2, pm_rc_b h2⟩, pm_call_mono G (show N1 ≤ max N1 N2 + 1 by omega) d d (Nat.le_refl d) _ _ _ _ _ _ hc]
  exact pm_exec_mono (pm_call_mono G (show N2 ≤ max N1 N2 + 1 by omega) d d (Nat.le_refl d)) t N2 (max N1 N2) (by omega) _ _ _ _ _ _ _ h4
theorem pm_C_imp {G : pm_G} {sh : pm_S} {hr : pm_A} {d m : Nat} {args : List pm_V} {hi : pm_B} {Q Q' : pm_Q} (h : pm_C G sh hr d m args hi Q) (hq : ∀ v hi', Q v hi' → Q' v hi') : pm_C G sh hr d m args hi Q' := by
  obtain ⟨N, v, i, h1, h2⟩ := h
  exact ⟨N, v, i, h1, hq _ _ h2⟩
theorem pm_C_up {G : pm_G} {sh : pm_S} {hr : pm_A} {d d' m : Nat} {args : List pm_V} {hi : pm_B} {Q : pm_Q} (hd : d ≤ d') (h : pm_C G sh hr d m args hi Q) : pm_C G sh hr d' m args hi Q := by
  obtain ⟨N, v, i, h1, h2⟩ := h
  exact ⟨N, v, i, pm_call_mono G (Nat.le_refl N) d d' hd _ _ _ _ _ _ h1, h2⟩
theorem pm_rv_of {k : Nat} {v : Option pm_V} {F : List pm_V → Prop} (h : pm_rv k v F) : F v.toList := by
  unfold pm_rv at h
  split at h
  · obtain ⟨rfl, h⟩ := h
    exact h
  · obtain ⟨x, rfl, h⟩ := h
    exact h
  · obtain ⟨x, rfl, h⟩ := h
    exact h
set_option maxHeartbeats 4000000 in
theorem pm_vs_sound {G : pm_G} {d : Nat} {t : pm_T} {K : Nat → pm_L → List pm_V → pm_B → Prop} {Q : pm_Q} {sh : pm_S} {hr : pm_A} (hK : ∀ pc ls st hi, K pc ls st hi → pm_W G sh hr d t pc ls st hi Q)
    {r : pm_I} {pc : Nat} {ls : pm_L} {st : List pm_V} {hi : pm_B} (he : pm_at t pc = some r) (h : pm_vs (pm_C G sh hr d) sh hr K Q r pc ls st hi) : pm_W G sh hr d t pc ls st hi Q := by
  obtain ⟨op, len, a, b, c, sw⟩ := r
  unfold pm_vs at h
  dsimp only at h
  split at h <;> (try dsimp only at h)
  all_goals first
    | exact pm_W_k he (hK _ _ _ _ h) (fun _ _ => rfl)
    | (cases h; done)
    | (exact pm_W_r he h (fun _ _ => rfl); done)
    | (split at h
       · rename_i x hx
         exact pm_W_k he (hK _ _ _ _ h) (fun _ _ => by simp only [pm_step]; rw [hx])
       · cases h)
    | (cases hq : Nat.blt _ _ with
       | true =>
         rw [hq] at h
         rw [Nat.blt_eq] at hq
         exact pm_W_k he (hK _ _ _ _ h) (fun _ _ => by simp only [pm_step]; rw [if_pos hq])
       | false => rw [hq] at h; cases h)
    | (exact pm_W_k he (hK _ _ _ _ h.2) (fun _ _ => by simp only [pm_step]; rw [if_neg h.1]); done)
    | (exact pm_W_k he (hK _ _ _ _ h.2) (fun _ _ => by simp only [pm_step]; rw [if_pos h.1]); done)
    | (exact pm_W_k he (hK _ _ _ _ h.2) (fun _ _ => by simp only [pm_step]; rw [if_pos (pm_aob_iff.mpr h.1)]); done)
    | (exact pm_W_k he (hK _ _ _ _ h.2) (have hx := pm_awb_iff.mpr h.1.1; fun _ _ => by simp only [pm_step]; rw [if_pos ⟨hx, pm_fib_iff.mpr h.1.2⟩]); done)
    | (exact pm_W_k he (hK _ _ _ _ h.2) (fun _ _ => by simp only [pm_step]; rw [if_pos ⟨h.1.1, pm_fib_iff.mpr h.1.2⟩]); done)
    | (exact pm_W_k he (hK _ _ _ _ (h _ rfl)) (fun _ _ => by simp only [pm_step]); done)
    | (exact pm_W_r he h.2 (fun _ _ => by simp only [pm_step]; rw [if_pos (pm_fib_iff.mpr h.1)]); done)
    | (obtain ⟨n, ⟨t', ti, hn⟩, h⟩ := h
       exact pm_W_k he (hK _ _ _ _ h) (fun _ _ => by simp only [pm_step]; rw [hn]); done)
    | (rename_i cd off x st'
       by_cases hq : pm_cd cd x 0
       · exact pm_W_k he (hK _ _ _ _ (h.1 hq)) (fun _ _ => by simp only [pm_step]; rw [if_pos ((pm_cb_iff _ _ _).mpr hq)])
       · exact pm_W_k he (hK _ _ _ _ (h.2 hq)) (fun _ _ => by simp only [pm_step]; rw [if_neg (fun z => hq ((pm_cb_iff _ _ _).mp z))]))
    | (rename_i cd off y x st'
       by_cases hq : pm_cd cd x y
       · exact pm_W_k he (hK _ _ _ _ (h.1 hq)) (fun _ _ => by simp only [pm_step]; rw [if_pos ((pm_cb_iff _ _ _).mpr hq)])
       · exact pm_W_k he (hK _ _ _ _ (h.2 hq)) (fun _ _ => by simp only [pm_step]; rw [if_neg (fun z => hq ((pm_cb_iff _ _ _).mp z))]))
    | (cases hq : Nat.ble _ _ && Nat.ble _ _ with
       | true =>
         rw [hq] at h
         rw [Bool.and_eq_true, Nat.ble_eq, Nat.ble_eq] at hq
         exact pm_W_call he hq h.1 (pm_C_imp h.2 (fun v hi' h => hK _ _ _ _ (pm_rv_of h)))
       | false => rw [hq] at h; cases h)
    | (cases hq : Nat.ble _ _ with
       | true =>
         rw [hq] at h
         rw [Nat.ble_eq] at hq
         exact pm_W_k he (hK _ _ _ _ h) (fun _ _ => by simp only [pm_step]; rw [if_pos hq])
       | false => rw [hq] at h; cases h)
    | (cases hq : Nat.ble _ _ with
       | true =>
         rw [hq] at h
         rw [Nat.ble_eq] at hq
         exact pm_W_k he (hK _ _ _ _ h.2) (fun _ _ => by simp only [pm_step]; rw [if_pos ⟨pm_cpb_iff.mpr h.1, hq⟩])
       | false => rw [hq] at h; cases h)
    | skip
theorem pm_vc_sound {G : pm_G} {d : Nat} {t : pm_T} {stops : List Nat} {Q : pm_Q} {sh : pm_S} {hr : pm_A} : ∀ (n pc : Nat) (ls : pm_L) (st : List pm_V) (hi : pm_B), pm_vc (pm_C G sh hr d) sh hr t stops (fun pc ls st hi => pm_W G sh hr d t pc ls st hi Q) Q n pc ls st hi → pm_W G sh hr d t pc ls st hi Q
  | 0, pc, ls, st, hi, h => h
  | n + 1, pc, ls, st, hi, h => by
    unfold pm_vc at h
    cases hq : stops.elem pc with
    | true => rw [hq] at h; exact h
    | false =>
      rw [hq] at h
      dsimp only [cond] at h
      split at h
      · cases h
      · rename_i r he
        exact pm_vs_sound (pm_vc_sound n) he h
/-- a stretch that begins at a stop -/
theorem pm_W_of {G : pm_G} {d : Nat} {t : pm_T} (n : Nat) (stops : List Nat) {Q : pm_Q} {sh : pm_S} {hr : pm_A} {r : pm_I} {pc : Nat} {ls : pm_L} {st : List pm_V} {hi : pm_B} (he : pm_at t pc = some r)
    (h : pm_vs (pm_C G sh hr d) sh hr (pm_vc (pm_C G sh hr d) sh hr t stops (fun pc ls st hi => pm_W G sh hr d t pc ls st hi Q) Q n) Q r pc ls st hi) : pm_W G sh hr d t pc ls st hi Q := pm_vs_sound (pm_vc_sound n) he h
theorem pm_C_of {G : pm_G} {d m maxL : Nat} {t : pm_T} {Q : pm_Q} {sh : pm_S} {hr : pm_A} {args : List pm_V} {hi : pm_B} (hg : G m = some (maxL, t)) (hl : args.length ≤ maxL) (h : pm_W G sh hr d t 0 (pm_ent maxL args) [] hi Q) : pm_C G sh hr (d + 1) m args hi Q := by
  obtain ⟨N, v, i, h1, h2⟩ := h
  refine ⟨N, v, i, ?_, h2⟩
  unfold pm_call
  rw [hg]
  dsimp only
  rw [if_pos hl]
  exact h1
theorem pm_W_imp {G : pm_G} {d : Nat} {t : pm_T} {pc : Nat} {ls : pm_L} {st : List pm_V} {sh : pm_S} {hr : pm_A} {hi : pm_B} {Q Q' : pm_Q} (h : pm_W G sh hr d t pc ls st hi Q) (hq : ∀ v hi', Q v hi' → Q' v hi') : pm_W G sh hr d t pc ls st hi Q' := by
  obtain ⟨N, v, i, h1, h2⟩ := h
  exact ⟨N, v, i, h1, hq _ _ h2⟩
end
section
/-! ===== THE PLAIN HEAP AND THE MACHINE'S: the relation ===== -/
def pm_ty (ti : Nat) : FieldType := match ti with
  | 0 => .int
  | 1 => .byte
  | 2 => .char
  | 3 => .boolean
  | 4 => .object "EchoFolk$Speaker"
  | 5 => .object "EchoFolk$Sheet"
  | 6 => .object "EchoFolk$Slot"
  | _ => .object "EchoFolk$Text"
abbrev pm_N : Type := Nat → Value
def pm_vl (vl : pm_N) (v : pm_V) : Value := match v with
  | .inl x => .int x
  | .inr q => vl q
/-- a field's kind: 0 a number, 1 a reference, 2 a reference kept among the numbers (the one that is written again) -/
def pm_fk (ci k : Nat) : Nat := if ci = 2 ∧ k = 1 then 2 else if (pm_fty ci k).isReference then 1 else 0
def pm_fv (vl : pm_N) (hr : pm_A) (hi : pm_B) (q ci k : Nat) : Value := match pm_fk ci k with
  | 0 => .int (hi q k)
  | 1 => vl (hr q k)
  | _ => vl (hi q k).toNatClampNeg
def pm_ev (vl : pm_N) (hr : pm_A) (hi : pm_B) (q ti j : Nat) : Value := if ti < 4 then .int (hi q j) else vl (hr q j)
/-- the cells that are there at the start: null, the script, the row ABOVE, six texts, their bytes, a formatter -/
def pm_sh0 (L : Nat) : pm_S := [(0, 99, 0), (2, 0, L), (2, 0, 6), (0, 11, 0), (0, 11, 0), (0, 11, 0), (0, 11, 0), (0, 11, 0), (0, 11, 0), (2, 1, 4), (2, 1, 3), (2, 1, 4), (2, 1, 3), (2, 1, 2), (2, 1, 2), (0, 99, 0)]
def pm_strs : List (String × Nat × String) := [("EchoFolk$Parser", 76, "keep"), ("EchoFolk$Parser", 85, "fee"), ("EchoFolk$Parser", 87, "fine"), ("EchoFolk$Parser", 134, "efw"), ("EchoFolk$Parser", 136, "sl"), ("EchoFolk$Parser", 138, "sf")]
/-- the environment: what cells name, the heap's size at the start, the classes, their slots, the array classes -/
abbrev pm_E : Type := pm_N × Nat × (Nat → ClassId) × (Nat → Nat → Nat) × (Nat → ClassId)
def pm_kc (E : pm_E) (hr : pm_A) (hi : pm_B) (q : Nat) (k : pm_K) (H : Heap) : Prop := match k with
  | (0, ci, _) => ∃ r : vw_C, pm_cl[ci]? = some r ∧ t_OB (E.2.1 + (q - 16)) (E.2.2.1 ci) r.2.2 (E.2.2.2.1 ci) H (pm_fv E.1 hr hi q ci)
  | (1, ti, n) => ti < 8 ∧ n < 100000 ∧ H[E.2.1 + (q - 16)]? = some (arrV (E.2.2.2.2 ti) n (pm_ev E.1 hr hi q ti))
  | _ => False
def pm_R (E : pm_E) (L : Nat) (r0 : pm_A) (h0 : pm_B) (sh : pm_S) (hr : pm_A) (hi : pm_B) (H : Heap) : Prop :=
  H.size = E.2.1 + (sh.length - 16) ∧ sh.take 16 = pm_sh0 L ∧ (∀ q j, q < 16 → hi q j = h0 q j ∧ hr q j = r0 q j) ∧ ∀ q k, 16 ≤ q → sh[q]? = some k → pm_kc E hr hi q k H
abbrev pm_Af (E : pm_E) : Nat → Prop := fun q => E.2.1 ≤ q
/-- what stays as it was at the start, said at a state -/
def pm_Cx (E : pm_E) (L : Nat) (r0 : pm_A) (h0 : pm_B) (U : State) : Prop :=
  (∀ ci r, pm_cl[ci]? = some r → u_Kn U r.1 r.2.1 r.2.2 (E.2.2.1 ci) (E.2.2.2.1 ci)) ∧
  (∀ ti, ti < 8 → ArrOfT U (E.2.2.2.2 ti) (pm_ty ti) ∧ va_RA U (E.2.2.2.2 ti) (pm_ty ti)) ∧
  (∀ q ti n, (pm_sh0 L)[q]? = some (2, ti, n) → ∃ a, E.1 q = .ref a ∧ va_T (pm_ty ti) a n (fun j => .int (h0 q j)) (pm_Af E) U U.heap) ∧
  (∀ q, (pm_sh0 L)[q]? = some (0, 11, 0) → ∃ a, E.1 q = .ref a ∧ va_O "java/lang/String" a (pm_Af E) U U.heap ∧ va_OF "java/lang/String" "coder" "B" (.int (h0 q 1)) a (pm_Af E) U U.heap ∧ va_OF "java/lang/String" "value" "[B" (E.1 (r0 q 0)) a (pm_Af E) U U.heap) ∧
  va_Z "EchoFolk$Kinds" "ABOVE" "[I" (E.1 2) (pm_Af E) U U.heap ∧ va_Z "java/lang/String" "COMPACT_STRINGS" "Z" (.int 1) (pm_Af E) U U.heap ∧ va_Z "jdk/internal/util/Preconditions" "SIOOBE_FORMATTER" "Ljava/util/function/BiFunction;" (E.1 15) (pm_Af E) U U.heap ∧
  (∀ i q, pm_strs[i]? = some q → ∃ a, E.1 (3 + i) = .ref a ∧ vk_R q.1 q.2.1 q.2.2 a U) ∧
  (va_Nw (.methodLinkNest "EchoFolk$Folk" 87 ⟨"EchoFolk", "held", "(III)I"⟩ "EchoFolk") U ∧ va_Nw (.methodLinkNest "EchoFolk$Saying" 28 ⟨"EchoFolk", "isWord", "(I)Z"⟩ "EchoFolk") U) ∧
  (va_AO "EchoFolk$Speaker" U ∧ va_AO "EchoFolk$Sheet" U ∧ va_AO "EchoFolk$Slot" U ∧ va_AO "EchoFolk$Text" U) ∧
  (∀ q, (E.1 q).isRef = true) ∧ (∀ q, 16 ≤ q → E.1 q = .ref (E.2.1 + (q - 16))) ∧ E.1 0 = .null
theorem pm_Cx.to {E : pm_E} {L : Nat} {r0 : pm_A} {h0 : pm_B} {u U : State} (h : pm_Cx E L r0 h0 u) (hvm : u.vm.Alike U.vm) (hq : ∀ a : Nat, a < u.heap.size → ¬ pm_Af E a → U.heap[a]? = u.heap[a]?)
    (hR : ∀ own k tx a, vk_R own k tx a u → vk_R own k tx a U) (hN : ∀ a i x y, va_Nw (.methodLinkNest a i x y) u → va_Nw (.methodLinkNest a i x y) U) : pm_Cx E L r0 h0 U := by
  obtain ⟨h1, h2, h3, h4, h5, h6, h7, h8, h9, h10, h11⟩ := h
  refine ⟨fun ci r hr => u_Kn_moved hvm (h1 ci r hr), fun ti ht => ⟨arrOfT_moved hvm (h2 ti ht).1, (h2 ti ht).2.moved hvm⟩, fun q ti n hs => ?_, fun q hs => ?_, (h5.moved hvm).kept hq, (h6.moved hvm).kept hq, (h7.moved hvm).kept hq, fun i q hs => ?_, ⟨hN _ _ _ _ h9.1, hN _ _ _ _ h9.2⟩, ⟨h10.1.moved hvm, h10.2.1.moved hvm, h10.2.2.1.moved hvm, h10.2.2.2.moved hvm⟩, h11⟩
  · obtain ⟨a, e, ht⟩ := h3 q ti n hs
    exact ⟨a, e, (ht.moved hvm).kept hq⟩
  · obtain ⟨a, e, a1, a2, a3⟩ := h4 q hs
    exact ⟨a, e, (a1.moved hvm).kept hq, (a2.moved hvm).kept hq, (a3.moved hvm).kept hq⟩
  · obtain ⟨a, e, ht⟩ := h8 i q hs
    exact ⟨a, e, hR _ _ _ _ ht⟩
theorem pm_Cx.warm {E : pm_E} {L : Nat} {r0 : pm_A} {h0 : pm_B} {u U : State} (h : pm_Cx E L r0 h0 u) (hW : u.WarmedH U.vm) (hq : ∀ a : Nat, a < u.heap.size → ¬ pm_Af E a → U.heap[a]? = u.heap[a]?) : pm_Cx E L r0 h0 U :=
  h.to hW.alike hq (fun _ _ _ _ x => x.warm hW) (fun _ _ _ _ x => x.warmM hW)
theorem pm_Cx.same {E : pm_E} {L : Nat} {r0 : pm_A} {h0 : pm_B} {u U : State} (h : pm_Cx E L r0 h0 u) (hv : U.vm = u.vm) (hh : U.heap = u.heap) : pm_Cx E L r0 h0 U :=
  h.to (by rw [hv]; exact Vm.Alike.refl _) (fun a _ _ => by rw [hh]) (fun _ _ _ _ x => x.same hv) (fun _ _ _ _ x => x.same rfl hv.symm)
theorem pm_R.len {E : pm_E} {L : Nat} {r0 : pm_A} {h0 : pm_B} {sh : pm_S} {hr : pm_A} {hi : pm_B} {H : Heap} (h : pm_R E L r0 h0 sh hr hi H) : 16 ≤ sh.length := by
  have h1 := congrArg List.length h.2.1
  rw [List.length_take] at h1
  have h2 : (pm_sh0 L).length = 16 := rfl
  omega
theorem pm_R.lo {E : pm_E} {L : Nat} {r0 : pm_A} {h0 : pm_B} {sh : pm_S} {hr : pm_A} {hi : pm_B} {H : Heap} (h : pm_R E L r0 h0 sh hr hi H) {q : Nat} (hq : q < 16) : sh[q]? = (pm_sh0 L)[q]? := by
  rw [← h.2.1, List.getElem?_take_of_lt hq]
/-- which of the cells that are there at the start -/
theorem pm_sh0_lt {L q : Nat} {k : pm_K} (h : (pm_sh0 L)[q]? = some k) : q < 16 := (List.getElem?_eq_some_iff.mp h).1
theorem pm_sh0_obj {L q a : Nat} (h : (pm_sh0 L)[q]? = some (0, a, 0)) (ha : a ≠ 99) : a = 11 := by
  have hq := pm_sh0_lt h
  unfold pm_sh0 at h
  match q, hq with
  | 0, _ => cases h; exact absurd rfl ha
  | 1, _ => cases h
  | 2, _ => cases h
  | 3, _ => cases h; rfl
  | 4, _ => cases h; rfl
  | 5, _ => cases h; rfl
  | 6, _ => cases h; rfl
  | 7, _ => cases h; rfl
  | 8, _ => cases h; rfl
  | 9, _ => cases h
  | 10, _ => cases h
  | 11, _ => cases h
  | 12, _ => cases h
  | 13, _ => cases h
  | 14, _ => cases h
  | 15, _ => cases h; exact absurd rfl ha
theorem pm_sh0_arr {L q t ti n : Nat} (h : (pm_sh0 L)[q]? = some (t + 1, ti, n)) : t = 1 := by
  have hq := pm_sh0_lt h
  unfold pm_sh0 at h
  match q, hq with
  | 0, _ => cases h
  | 1, _ => cases h; rfl
  | 2, _ => cases h; rfl
  | 3, _ => cases h
  | 4, _ => cases h
  | 5, _ => cases h
  | 6, _ => cases h
  | 7, _ => cases h
  | 8, _ => cases h
  | 9, _ => cases h; rfl
  | 10, _ => cases h; rfl
  | 11, _ => cases h; rfl
  | 12, _ => cases h; rfl
  | 13, _ => cases h; rfl
  | 14, _ => cases h; rfl
  | 15, _ => cases h
/-- an object of the own classes -/
theorem pm_R.obj {E : pm_E} {L : Nat} {r0 : pm_A} {h0 : pm_B} {sh : pm_S} {hr : pm_A} {hi : pm_B} {H : Heap} (h : pm_R E L r0 h0 sh hr hi H) {q a : Nat} (hs : sh[q]? = some (0, a, 0)) (ha : a ≠ 99) (hb : a ≠ 11) : 16 ≤ q ∧ ∃ r : vw_C, pm_cl[a]? = some r ∧ t_OB (E.2.1 + (q - 16)) (E.2.2.1 a) r.2.2 (E.2.2.2.1 a) H (pm_fv E.1 hr hi q a) := by
  by_cases hq : q < 16
  · rw [h.lo hq] at hs
    exact absurd (pm_sh0_obj hs ha) hb
  · exact ⟨by omega, h.2.2.2 q _ (by omega) hs⟩
/-- a text -/
theorem pm_R.str {E : pm_E} {L : Nat} {r0 : pm_A} {h0 : pm_B} {sh : pm_S} {hr : pm_A} {hi : pm_B} {H : Heap} (h : pm_R E L r0 h0 sh hr hi H) {q : Nat} (hs : sh[q]? = some (0, 11, 0)) : q < 16 ∧ (pm_sh0 L)[q]? = some (0, 11, 0) := by
  by_cases hq : q < 16
  · rw [h.lo hq] at hs
    exact ⟨hq, hs⟩
  · obtain ⟨r, hr, -⟩ := h.2.2.2 q _ (by omega) hs
    have h11 : pm_cl[11]? = none := rfl
    rw [h11] at hr
    cases hr
/-- an array: one that is made here, or one that was there -/
theorem pm_R.arr {E : pm_E} {L : Nat} {r0 : pm_A} {h0 : pm_B} {sh : pm_S} {hr : pm_A} {hi : pm_B} {H : Heap} (h : pm_R E L r0 h0 sh hr hi H) {q t ti n : Nat} (hs : sh[q]? = some (t + 1, ti, n)) :
    (16 ≤ q ∧ t = 0 ∧ ti < 8 ∧ n < 100000 ∧ H[E.2.1 + (q - 16)]? = some (arrV (E.2.2.2.2 ti) n (pm_ev E.1 hr hi q ti))) ∨ (q < 16 ∧ t = 1 ∧ (pm_sh0 L)[q]? = some (2, ti, n)) := by
  by_cases hq : q < 16
  · rw [h.lo hq] at hs
    have := pm_sh0_arr hs
    subst this
    exact Or.inr ⟨hq, rfl, hs⟩
  · have h1 := h.2.2.2 q _ (by omega) hs
    cases t with
    | zero => exact Or.inl ⟨by omega, rfl, h1⟩
    | succ t => exact h1.elim
/-! the locals -/
def pm_lv (vl : pm_N) (ls : pm_L) : List (Nat × Value) := (List.range ls.length).filterMap (fun j => match ls[j]? with
  | some (some v) => some (j, pm_vl vl v)
  | _ => none)
theorem pm_lv_mem {vl : pm_N} {ls : pm_L} {j : Nat} {w : Value} : (j, w) ∈ pm_lv vl ls ↔ ∃ v, ls[j]? = some (some v) ∧ w = pm_vl vl v := by
  unfold pm_lv
  rw [List.mem_filterMap]
  constructor
  · rintro ⟨i, -, h⟩
    split at h
    · rename_i v hv
      cases h
      exact ⟨v, hv, rfl⟩
    · cases h
  · rintro ⟨v, hv, rfl⟩
    refine ⟨j, List.mem_range.mpr (List.getElem?_eq_some_iff.mp hv).1, ?_⟩
    rw [hv]
def pm_LR (vl : pm_N) (nL : Nat) (ls : pm_L) (lsA : Array Slot) : Prop := ls.length = nL ∧ lv_has lsA nL (pm_lv vl ls)
theorem pm_LR.at {vl : pm_N} {nL : Nat} {ls : pm_L} {lsA : Array Slot} (h : pm_LR vl nL ls lsA) {j : Nat} {v : pm_V} (hv : ls[j]? = some (some v)) : lsA[j]? = some (.val (pm_vl vl v)) := h.2.2.2 (j, _) (pm_lv_mem.mpr ⟨v, hv, rfl⟩)
theorem pm_cat {vl : pm_N} (hvl : ∀ q, (vl q).isRef = true) (v : pm_V) : (pm_vl vl v).category = 1 := by
  cases v with
  | inl x => rfl
  | inr q =>
    show (vl q).category = 1
    have h := hvl q
    cases hq : vl q <;> rw [hq] at h <;> first | rfl | cases h
theorem pm_LR.set {vl : pm_N} (hvl : ∀ q, (vl q).isRef = true) {nL : Nat} {ls : pm_L} {lsA lsB : Array Slot} (h : pm_LR vl nL ls lsA) {i : Nat} {v : pm_V} (hB : lv_has lsB nL ((i, pm_vl vl v) :: (pm_lv vl ls).filter (fun q => !(q.1 == i) && !(q.1 + 1 == i && q.2.category == 2)))) : pm_LR vl nL (ls.set i (some v)) lsB := by
  refine ⟨by rw [List.length_set]; exact h.1, hB.1, hB.2.1, ?_⟩
  rintro ⟨j, w⟩ hj
  obtain ⟨u, hu, rfl⟩ := pm_lv_mem.mp hj
  apply hB.2.2
  by_cases hji : j = i
  · subst hji
    rw [List.getElem?_set] at hu
    split at hu
    · split at hu
      · cases hu
        exact List.mem_cons_self
      · cases hu
    · exact absurd rfl (by assumption)
  · rw [List.getElem?_set_ne (Ne.symm hji)] at hu
    refine List.mem_cons_of_mem _ (List.mem_filter.mpr ⟨pm_lv_mem.mpr ⟨u, hu, rfl⟩, ?_⟩)
    simp [hji, pm_cat hvl u]
/-- how many fields and elements -/
def pm_ks (k : pm_K) : Nat := match k with
  | (0, ci, _) => (pm_cl.map (fun r => r.2.2)).getD ci 0
  | (_, _, n) => n
def pm_sl (sh : pm_S) : Nat := (sh.map pm_ks).sum
end
section
/-! ===== A ROW OF THE PLAIN MACHINE IS A STEP OF THE MACHINE: the check of a row against its bytes and the tables' words, and the steps ===== -/
/-- a word of the tables, at its place -/
def pm_w (a : Nat) (w : Cond) : Bool := decide (lw_tbl[a]? = some w) && goodWord w
theorem pm_w_in {a : Nat} {w : Cond} (h : pm_w a w = true) : w ∈ pm_ts := by
  unfold pm_w at h
  rw [Bool.and_eq_true, decide_eq_true_eq] at h
  exact pm_ts_in (List.mem_of_getElem? h.1) h.2
def pm_k_cst (own : String) (a : Nat) (c : Int32) (len : Nat) (ins : Instr) : Bool := match ins with
  | .iconst n => decide (Int32.ofInt n = c ∧ len = 1)
  | .bipush n => decide ((Int8.ofInt n).toInt32 = c ∧ len = 2)
  | .sipush n => decide ((Int16.ofInt n).toInt32 = c ∧ len = 3)
  | .ldc i => pm_w a (.constant own i c) && decide (len = 2)
  | .ldc_w i => pm_w a (.constant own i c) && decide (len = 3)
  | .getstatic i => pm_w a (.fieldLink own i "java/lang/String" "COMPACT_STRINGS" "Z") && decide (c = 1 ∧ len = 3)
  | _ => false
def pm_k_ref (own : String) (a b len : Nat) (ins : Instr) : Bool := match ins with
  | .ldc i => decide (3 ≤ a ∧ len = 2) && (match pm_strs[a - 3]? with
    | some q => decide (q.1 = own ∧ q.2.1 = i)
    | none => false)
  | .getstatic i => (decide (a = 2 ∧ len = 3) && pm_w b (.fieldLink own i "EchoFolk$Kinds" "ABOVE" "[I")) || (decide (a = 15 ∧ len = 3) && pm_w b (.fieldLink own i "jdk/internal/util/Preconditions" "SIOOBE_FORMATTER" "Ljava/util/function/BiFunction;"))
  | _ => false
/-- the switches: keys and targets, side by side -/
def pm_tsw (pc : Nat) : Int → List (Int32 × Nat) → List Int → Bool
  | _, [], [] => true
  | k, (x, t) :: l, o :: os => decide (x.toInt = k ∧ (pc : Int) + o = (t : Int)) && pm_tsw pc (k + 1) l os
  | _, _, _ => false
def pm_lsw (pc : Nat) : List (Int32 × Nat) → List (Int × Int) → Bool
  | [], [] => true
  | (x, t) :: l, (k, o) :: os => decide (x.toInt = k ∧ (pc : Int) + o = (t : Int)) && pm_lsw pc l os
  | _, _ => false
theorem pm_i32 {x y : Int32} (h : x.toInt = y.toInt) : x = y := Int32.toInt_inj.mp h
theorem pm_tsw_spec {pc a : Nat} {x : Int32} : ∀ (sw : List (Int32 × Nat)) (k : Int) (os : List Int), pm_tsw pc k sw os = true →
    ((x.toInt < k ∨ k + os.length ≤ x.toInt) → pm_sw x a sw = a) ∧ (k ≤ x.toInt → x.toInt < k + os.length → ∃ o, os[(x.toInt - k).toNat]? = some o ∧ (pc : Int) + o = (pm_sw x a sw : Nat))
  | [], k, [], _ => ⟨fun _ => rfl, fun h1 h2 => by simp at h2; omega⟩
  | [], k, _ :: _, h => by cases h
  | (y, t) :: l, k, [], h => by cases h
  | (y, t) :: l, k, o :: os, h => by
    unfold pm_tsw at h
    rw [Bool.and_eq_true, decide_eq_true_eq] at h
    obtain ⟨⟨h1, h2⟩, h3⟩ := h
    have ih := pm_tsw_spec l (k + 1) os h3 (a := a) (x := x)
    have hl : ((o :: os).length : Int) = (os.length : Int) + 1 := by simp
    unfold pm_sw
    by_cases hx : x = y
    · subst hx
      rw [if_pos rfl]
      refine ⟨fun h => by omega, fun _ _ => ⟨o, ?_, h2⟩⟩
      rw [show (x.toInt - k).toNat = 0 by omega]
      rfl
    · rw [if_neg hx]
      have hn : x.toInt ≠ k := fun e => hx (pm_i32 (e.trans h1.symm))
      refine ⟨fun h => ih.1 (by omega), fun g1 g2 => ?_⟩
      obtain ⟨o', g3, g4⟩ := ih.2 (by omega) (by omega)
      refine ⟨o', ?_, g4⟩
      rw [show (x.toInt - k).toNat = (x.toInt - (k + 1)).toNat + 1 by omega]
      exact g3
theorem pm_lsw_spec {pc a : Nat} {x : Int32} {d : Int} (hd : (pc : Int) + d = (a : Int)) : ∀ (sw : List (Int32 × Nat)) (os : List (Int × Int)), pm_lsw pc sw os = true → (pc : Int) + Op.lookupswitch.offset os d x.toInt = (pm_sw x a sw : Nat)
  | [], [], _ => hd
  | [], _ :: _, h => by cases h
  | _ :: _, [], h => by cases h
  | (y, t) :: l, (k, o) :: os, h => by
    unfold pm_lsw at h
    rw [Bool.and_eq_true, decide_eq_true_eq] at h
    obtain ⟨⟨h1, h2⟩, h3⟩ := h
    unfold pm_sw
    rw [Op.lookupswitch.offset_cons]
    by_cases hx : x = y
    · subst hx
      rw [if_pos rfl, if_pos (by first | exact h1.symm | exact h1)]
      exact h2
    · rw [if_neg hx, if_neg (fun e => hx (pm_i32 (by first | exact (h1.trans e).symm | exact (h1.trans e.symm).symm)))]
      exact pm_lsw_spec hd l os h3
def pm_k_sw (pc a : Nat) (sw : List (Int32 × Nat)) (len : Nat) (ins : Instr) : Bool := match ins with
  | .tableswitch d lo hi os => decide ((pc : Int) + d = (a : Int) ∧ hi = lo + os.size - 1) && pm_tsw pc lo sw os.toList
  | .lookupswitch d ps => decide ((pc : Int) + d = (a : Int)) && (ps.toList.zip (ps.toList.drop 1)).all (fun (a, next) => a.1 < next.1) && pm_lsw pc sw ps.toList
  | _ => false
def pm_k_gf (own : String) (f a b : Nat) (sw : List (Int32 × Nat)) (len : Nat) (ins : Instr) : Bool := match ins, sw with
  | .getfield i, [z] => decide (len = 3) && (match pm_cl[a]? with
    | some r => decide (b < r.2.2 ∧ pm_fk a b = f ∧ a < 11) && pm_w z.2 (.fieldLink own i (r.2.1 b).1 (r.2.1 b).2.1 (r.2.1 b).2.2.1)
    | none => decide (a = 11) && ((decide (b = 0 ∧ f = 1) && pm_w z.2 (.fieldLink own i "java/lang/String" "value" "[B")) || (decide (b = 1 ∧ f = 0) && pm_w z.2 (.fieldLink own i "java/lang/String" "coder" "B"))))
  | _, _ => false
def pm_k_pf (own nm : String) (f a b : Nat) (c : Int32) (sw : List (Int32 × Nat)) (len : Nat) (ins : Instr) : Bool := match ins, sw with
  | .putfield i, [z] => decide (len = 3) && (match pm_cl[a]? with
    | some r => decide (b < r.2.2 ∧ pm_fk a b = f ∧ a < 11) && pm_w z.2 (.fieldLink own i (r.2.1 b).1 (r.2.1 b).2.1 (r.2.1 b).2.2.1) && (decide ((r.2.1 b).2.2.2 = false) || decide ((r.2.1 b).2.2.2 = true ∧ nm = "<init>" ∧ (r.2.1 b).1 = own)) && (decide (f ≠ 0) || decide (pm_fty a b = .int ∧ c = 0) || decide (pm_fty a b = .boolean ∧ c = 3))
    | none => false)
  | _, _ => false
def pm_k_new (own : String) (a b len : Nat) (ins : Instr) : Bool := match ins with
  | .new i => decide (len = 3 ∧ a < 11) && (match pm_cl[a]? with
    | some r => pm_w b (.classLink own i r.1)
    | none => false)
  | _ => false
def pm_k_newa (own : String) (a b len : Nat) (ins : Instr) : Bool := match ins with
  | .newarray .int => decide (a = 0 ∧ len = 2) && pm_w b (.arrayClass .int)
  | .newarray .char => decide (a = 2 ∧ len = 2) && pm_w b (.arrayClass .char)
  | .newarray .boolean => decide (a = 3 ∧ len = 2) && pm_w b (.arrayClass .boolean)
  | .anewarray i => decide (4 ≤ a ∧ a < 8 ∧ len = 3) && (match pm_ty a with
    | .object C => pm_w b (.classLink own i C)
    | _ => false)
  | _ => false
/-- a method: its name, bytes, most locals, what it returns; the places of its words: code, initialized, static or instanceMethod, selects; whether it is static -/
abbrev pm_M : Type := MethodName × ByteArray × Nat × Option FieldType × Nat × Nat × Nat × Nat × Bool
def pm_rk (ret : Option FieldType) : Nat := match ret with
  | none => 0
  | some t => if t.isReference then 2 else 1
def pm_k_inv (MI : Nat → Option pm_M) (own : String) (k a b : Nat) (c : Int32) (sw : List (Int32 × Nat)) (len : Nat) (ins : Instr) : Bool := match MI a with
  | none => false
  | some (y, _, _, ret, _, _, _, _, st) => decide (len = 3 ∧ pm_rk ret = k) && (match ins with
    | .invokestatic i => st && decide (sw = [] ∧ (parseMethodDescriptor y.desc).map (fun d => d.parameters.length) = some b) && (pm_w c.toNatClampNeg (.methodLink own i y) || (decide (own = "EchoFolk$Folk" ∧ i = 87 ∧ y = ⟨"EchoFolk", "held", "(III)I"⟩) || decide (own = "EchoFolk$Saying" ∧ i = 28 ∧ y = ⟨"EchoFolk", "isWord", "(I)Z"⟩)))
    | .invokevirtual i => !st && decide (y.name ≠ "<init>" ∧ (parseMethodDescriptor y.desc).map (fun d => d.parameters.length + 1) = some b) && pm_w c.toNatClampNeg (.methodLink own i y) && (match sw with
      | [z] => (match pm_cl[z.2]? with
        | some r => decide (r.1 = y.cls ∧ z.2 < 11)
        | none => decide (z.2 = 11 ∧ y.cls = "java/lang/String"))
      | _ => false)
    | .invokespecial i => !st && decide (y.name = "<init>" ∧ (parseMethodDescriptor y.desc).map (fun d => d.parameters.length + 1) = some b) && pm_w c.toNatClampNeg (.methodLink own i y) && (match sw with
      | [z] => (match pm_cl[z.2]? with
        | some r => decide (r.1 = y.cls ∧ z.2 < 11)
        | none => false)
      | _ => false)
    | _ => false)
/-- the check of a row -/
def pm_okb (MI : Nat → Option pm_M) (own nm : String) (ret : Option FieldType) (cc : ByteArray) (pc : Nat) (r : pm_I) : Bool := match decode cc pc with
  | .error _ => false
  | .ok (ins, n) => match r with
    | (op, len, a, b, c, sw) => decide (n = len) && (match op with
      | .iload j => decide (ins = .iload j ∧ len = 2) || decide (j < 4 ∧ ins = .iload_n (Fin.ofNat 4 j) ∧ len = 1)
      | .aload j => decide (ins = .aload j ∧ len = 2) || decide (j < 4 ∧ ins = .aload_n (Fin.ofNat 4 j) ∧ len = 1)
      | .istore j => decide (ins = .istore j ∧ len = 2) || decide (j < 4 ∧ ins = .istore_n (Fin.ofNat 4 j) ∧ len = 1)
      | .astore j => decide (ins = .astore j ∧ len = 2) || decide (j < 4 ∧ ins = .astore_n (Fin.ofNat 4 j) ∧ len = 1)
      | .iinc j _ => (match ins with
        | .iinc i n => decide (i = j ∧ Int32.ofInt n = c ∧ len = 3)
        | _ => false)
      | .ldc _ => pm_k_cst own a c len ins
      | .ldc_w _ => pm_k_ref own a b len ins
      | .dup => decide (ins = .dup ∧ len = 1)
      | .dup2 => decide (ins = .dup2 ∧ len = 1)
      | .pop => decide (ins = .pop ∧ len = 1)
      | .ladd => (match ins with
        | .invokestatic i => decide (len = 3) && pm_w a (.methodLink own i Lib.Math.max.name)
        | _ => false)
      | .lsub => (match ins with
        | .invokestatic i => decide (len = 3) && pm_w a (.methodLink own i Lib.Math.min.name)
        | _ => false)
      | .nop => (match ins with
        | .invokespecial i => decide (len = 3 ∧ b < 11) && pm_w a (.methodLink own i objectInit)
        | _ => false)
      | .iadd => decide (ins = .iadd ∧ len = 1)
      | .isub => decide (ins = .isub ∧ len = 1)
      | .imul => decide (ins = .imul ∧ len = 1)
      | .iand => decide (ins = .iand ∧ len = 1)
      | .ior => decide (ins = .ior ∧ len = 1)
      | .ixor => decide (ins = .ixor ∧ len = 1)
      | .idiv => decide (ins = .idiv ∧ len = 1)
      | .irem => decide (ins = .irem ∧ len = 1)
      | .ineg => decide (ins = .ineg ∧ len = 1)
      | .ishl => decide (ins = .ishl ∧ len = 1)
      | .ishr => decide (ins = .ishr ∧ len = 1)
      | .iushr => decide (ins = .iushr ∧ len = 1)
      | .i2s => decide (ins = .i2s ∧ len = 1)
      | .i2b => decide (ins = .i2b ∧ len = 1)
      | .i2c => decide (ins = .i2c ∧ len = 1)
      | .ifCond cd _ => (match ins with
        | .ifCond cd' off => decide (cd' = cd ∧ (pc : Int) + off = (a : Int) ∧ len = 3)
        | _ => false)
      | .if_icmp cd _ => (match ins with
        | .if_icmp cd' off => decide (cd' = cd ∧ (pc : Int) + off = (a : Int) ∧ len = 3)
        | _ => false)
      | .goto _ => (match ins with
        | .goto off => decide ((pc : Int) + off = (a : Int) ∧ len = 3)
        | _ => false)
      | .lookupswitch _ _ => pm_k_sw pc a sw len ins
      | .getfield f => pm_k_gf own f a b sw len ins
      | .putfield f => pm_k_pf own nm f a b c sw len ins
      | .iaload => decide (len = 1) && (decide (ins = .iaload ∧ a = 0) || decide (ins = .baload ∧ a = 1) || decide (ins = .caload ∧ a = 2) || decide (ins = .baload ∧ a = 3))
      | .aaload => decide (ins = .aaload ∧ len = 1 ∧ 4 ≤ a ∧ a < 8)
      | .iastore => decide (len = 1) && (decide (ins = .iastore ∧ a = 0) || decide (ins = .castore ∧ a = 2) || decide (ins = .bastore ∧ a = 3))
      | .aastore => decide (ins = .aastore ∧ len = 1 ∧ 4 ≤ a ∧ a < 8 ∧ b < 11) && (match pm_cl[b]? with
        | some r => decide (pm_ty a = .object r.1)
        | none => false)
      | .arraylength => decide (ins = .arraylength ∧ len = 1)
      | .newarray _ => pm_k_newa own a b len ins
      | .new _ => pm_k_new own a b len ins
      | .invokestatic k => pm_k_inv MI own k a b c sw len ins
      | .swap => (match ins with
        | .invokestatic i => decide (len = 3) && pm_w a (.methodLink own i arraycopyName)
        | _ => false)
      | .ireturn => decide (ins = .ireturn ∧ len = 1 ∧ ((ret = some .int ∧ a = 0) ∨ (ret = some .byte ∧ a = 1) ∨ (ret = some .char ∧ a = 2) ∨ (ret = some .boolean ∧ a = 3)))
      | .areturn => decide (ins = .areturn ∧ len = 1) && (match ret with
        | some t => t.isReference
        | none => false)
      | .return_ => decide (ins = .return_ ∧ len = 1 ∧ ret = none)
      | _ => false)
end
section
/-! ===== the steps ===== -/
theorem pm_good {w : Cond} (h : (w.onTables && w.keeps) = true ∨ ∃ ty, w = .arrayClass ty) : goodWord w = true := by
  rcases h with h | ⟨ty, rfl⟩
  · cases w <;> first | rfl | exact h
  · rfl
theorem pm_goodIn {ws : List Cond} (h : GoodIn lw_tbl ws) : ∀ w ∈ ws, w ∈ pm_ts := fun w hw => pm_ts_in (h w hw).1 (pm_good (h w hw).2)
theorem pm_cl_in : ∀ (ci : Nat) (r : vw_C), pm_cl[ci]? = some r → ∀ w ∈ u_ws r.1 r.2.1 r.2.2, w ∈ pm_ts
  | 0, _, h => by cases h; exact pm_goodIn pm_in0
  | 1, _, h => by cases h; exact pm_goodIn pm_in1
  | 2, _, h => by cases h; exact pm_goodIn pm_in2
  | 3, _, h => by cases h; exact pm_goodIn pm_in3
  | 4, _, h => by cases h; exact pm_goodIn pm_in4
  | 5, _, h => by cases h; exact pm_goodIn pm_in5
  | 6, _, h => by cases h; exact pm_goodIn pm_in6
  | 7, _, h => by cases h; exact pm_goodIn pm_in7
  | 8, _, h => by cases h; exact pm_goodIn pm_in8
  | 9, _, h => by cases h; exact pm_goodIn pm_in9
  | 10, _, h => by cases h; exact pm_goodIn pm_in10
  | n + 11, _, h => by cases h
theorem pm_cl_ty : ∀ (ci : Nat) (r : vw_C), pm_cl[ci]? = some r → (∀ k, k < r.2.2 → parseFieldDescriptor (r.2.1 k).2.2.1 = some (pm_fty ci k)) ∧ ∀ a, a < r.2.2 → ∀ b, b < r.2.2 → a ≠ b → (r.2.1 a).2.1 ≠ (r.2.1 b).2.1
  | 0, _, h => by cases h; exact ⟨tyX0_ok, nmX0⟩
  | 1, _, h => by cases h; exact ⟨tyX2_ok, nmX2⟩
  | 2, _, h => by cases h; exact ⟨tyX3_ok, nmX3⟩
  | 3, _, h => by cases h; exact ⟨tyX4_ok, nmX4⟩
  | 4, _, h => by cases h; exact ⟨tyX5_ok, nmX5⟩
  | 5, _, h => by cases h; exact ⟨tyX6_ok, nmX6⟩
  | 6, _, h => by cases h; exact ⟨tyX7_ok, nmX7⟩
  | 7, _, h => by cases h; exact ⟨tyX8_ok, nmX8⟩
  | 8, _, h => by cases h; exact ⟨tyX9_ok, nmX9⟩
  | 9, _, h => by cases h; exact ⟨tyX10_ok, nmX10⟩
  | 10, _, h => by cases h; exact ⟨tyX11_ok, nmX11⟩
  | n + 11, _, h => by cases h
theorem pm_kc.kept {E : pm_E} {hr hr' : pm_A} {hi hi' : pm_B} {q : Nat} {k : pm_K} {H H' : Heap} (h : pm_kc E hr hi q k H) (hv : ∀ j, hi' q j = hi q j ∧ hr' q j = hr q j) (hh : H'[E.2.1 + (q - 16)]? = H[E.2.1 + (q - 16)]?) : pm_kc E hr' hi' q k H' := by
  obtain ⟨t, ti, n⟩ := k
  have e1 : ∀ ci j, pm_fv E.1 hr hi q ci j = pm_fv E.1 hr' hi' q ci j := fun ci j => by unfold pm_fv; rw [(hv j).1, (hv j).2]
  have e2 : pm_ev E.1 hr hi q ti = pm_ev E.1 hr' hi' q ti := funext fun j => by unfold pm_ev; rw [(hv j).1, (hv j).2]
  match t with
  | 0 =>
    obtain ⟨r, h1, h2⟩ := h
    exact ⟨r, h1, (h2.kept hh).to (fun j _ => e1 ti j)⟩
  | 1 =>
    obtain ⟨h1, h2, h3⟩ := h
    exact ⟨h1, h2, by rw [hh, h3, e2]⟩
  | _ + 2 => exact h.elim
theorem pm_R.upd {E : pm_E} {L : Nat} {r0 : pm_A} {h0 : pm_B} {sh : pm_S} {hr hr' : pm_A} {hi hi' : pm_B} {H H' : Heap} (h : pm_R E L r0 h0 sh hr hi H) {q : Nat} {k : pm_K} (hq : 16 ≤ q) (hs : sh[q]? = some k) (hv : ∀ q' j, q' ≠ q → hi' q' j = hi q' j ∧ hr' q' j = hr q' j) (hz : H'.size = H.size) (hh : ∀ x, x ≠ E.2.1 + (q - 16) → H'[x]? = H[x]?) (hk : pm_kc E hr' hi' q k H') : pm_R E L r0 h0 sh hr' hi' H' := by
  refine ⟨hz.trans h.1, h.2.1, fun q' j hq' => ?_, fun q' k' hq' hs' => ?_⟩
  · have := h.2.2.1 q' j hq'
    have h2 := hv q' j (by omega)
    rw [h2.1, h2.2]
    exact this
  · by_cases e : q' = q
    · subst e
      cases hs.symm.trans hs'
      exact hk
    · exact (h.2.2.2 q' k' hq' hs').kept (fun j => hv q' j e) (hh _ (by omega))
theorem pm_R.grow {E : pm_E} {L : Nat} {r0 : pm_A} {h0 : pm_B} {sh : pm_S} {hr hr' : pm_A} {hi hi' : pm_B} {H H' : Heap} (h : pm_R E L r0 h0 sh hr hi H) {k : pm_K} (hv : ∀ q' j, q' ≠ sh.length → hi' q' j = hi q' j ∧ hr' q' j = hr q' j) (hz : H'.size = H.size + 1) (hh : ∀ x, x < H.size → H'[x]? = H[x]?) (hk : pm_kc E hr' hi' sh.length k H') : pm_R E L r0 h0 (sh ++ [k]) hr' hi' H' := by
  have hl := h.len
  have h1 := h.1
  refine ⟨by rw [hz, h1, List.length_append]; simp; omega, ?_, fun q' j hq' => ?_, fun q' k' hq' hs' => ?_⟩
  · rw [List.take_append_of_le_length hl]
    exact h.2.1
  · have := h.2.2.1 q' j hq'
    have h2 := hv q' j (by omega)
    rw [h2.1, h2.2]
    exact this
  · by_cases e : q' < sh.length
    · rw [List.getElem?_append_left e] at hs'
      exact (h.2.2.2 q' k' hq' hs').kept (fun j => hv q' j (by omega)) (hh _ (by omega))
    · have hb : q' < (sh ++ [k]).length := (List.getElem?_eq_some_iff.mp hs').1
      rw [List.length_append] at hb
      have e2 : q' = sh.length := by simp at hb; omega
      subst e2
      rw [List.getElem?_append_right (Nat.le_refl _)] at hs'
      simp at hs'
      subst hs'
      exact hk
section PMS
variable {p : Program} {l : Launch} {e : Env} {R : Room} {s : State} {m : MethodId} {args : Array Value} {below : List Frame} {meth : Method} {c : Code} {Q : State → Prop}
variable {E : pm_E} {L : Nat} {r0 : pm_A} {h0 : pm_B} {own : String} {cc : ByteArray} {nL n0 s0 : Nat}
/-- what holds all through a method -/
def pm_X (p : Program) (s : State) (m : MethodId) (args : Array Value) (c : Code) (E : pm_E) (L : Nat) (r0 : pm_A) (h0 : pm_B) (own : String) (cc : ByteArray) (nL : Nat) : Prop :=
  p.tables.exec = Jvm.exec ∧ c.code = cc ∧ s.vm.findClass own = some m.cls ∧ (∀ w ∈ pm_ts, w.before args s = true) ∧ c.maxLocals = nL ∧ pm_Cx E L r0 h0 s ∧ E.2.1 ≤ s.heap.size
/-- from a place of a method, the machine comes to Q -/
def pm_KK (p : Program) (l : Launch) (e : Env) (R : Room) (s : State) (m : MethodId) (args : Array Value) (below : List Frame) (meth : Method) (c : Code) (Q : State → Prop) (E : pm_E) (L : Nat) (r0 : pm_A) (h0 : pm_B) (nL n0 s0 : Nat) (pc : Nat) (ls : pm_L) (st : List pm_V) (sh : pm_S) (hr : pm_A) (hi : pm_B) : Prop :=
  ∀ (H : Heap) (locs : List Loc) (lsA : Array Slot), n0 ≤ sh.length → s0 ≤ pm_sl sh → pm_R E L r0 h0 sh hr hi H → va_S (pm_Af E) s.heap H locs → pm_LR E.1 nL ls lsA → W p l e R s m args below meth c H locs (sh.length - n0) (pm_sl sh - s0) Q (F0 m pc lsA (st.map (pm_vl E.1)))
variable {pc len a b j q : Nat} {ins : Instr} {ls : pm_L} {st : List pm_V} {sh : pm_S} {hr : pm_A} {hi : pm_B} {x y : Int32}
theorem pm_X.rf (hX : pm_X p s m args c E L r0 h0 own cc nL) : ∀ q, (E.1 q).isRef = true := hX.2.2.2.2.2.1.2.2.2.2.2.2.2.2.2.2.1
theorem pm_X.ad (hX : pm_X p s m args c E L r0 h0 own cc nL) : ∀ q, 16 ≤ q → E.1 q = .ref (E.2.1 + (q - 16)) := hX.2.2.2.2.2.1.2.2.2.2.2.2.2.2.2.2.2.1
theorem pm_X.nu (hX : pm_X p s m args c E L r0 h0 own cc nL) : E.1 0 = .null := hX.2.2.2.2.2.1.2.2.2.2.2.2.2.2.2.2.2.2
theorem pm_s_iload (hX : pm_X p s m args c E L r0 h0 own cc nL) (hd : decode cc pc = .ok (ins, len)) (ho : (decide (ins = .iload j ∧ len = 2) || decide (j < 4 ∧ ins = .iload_n (Fin.ofNat 4 j) ∧ len = 1)) = true) (hl : ls[j]? = some (some (.inl x))) (k : pm_KK p l e R s m args below meth c Q E L r0 h0 nL n0 s0 (pc + len) ls (.inl x :: st) sh hr hi) : pm_KK p l e R s m args below meth c Q E L r0 h0 nL n0 s0 pc ls st sh hr hi := by
  intro H locs lsA hn hs hR hS hL
  have hv := hL.at hl
  have k := k H locs lsA hn hs hR hS hL
  rw [Bool.or_eq_true, decide_eq_true_eq, decide_eq_true_eq] at ho
  rcases ho with ⟨rfl, rfl⟩ | ⟨hj, rfl, rfl⟩
  · exact lv_iload hX.1 hX.2.1 hd hv k
  · exact lv_iload_n hX.1 hX.2.1 hd (Nat.mod_eq_of_lt hj) hv k
theorem pm_s_aload (hX : pm_X p s m args c E L r0 h0 own cc nL) (hd : decode cc pc = .ok (ins, len)) (ho : (decide (ins = .aload j ∧ len = 2) || decide (j < 4 ∧ ins = .aload_n (Fin.ofNat 4 j) ∧ len = 1)) = true) (hl : ls[j]? = some (some (.inr q))) (k : pm_KK p l e R s m args below meth c Q E L r0 h0 nL n0 s0 (pc + len) ls (.inr q :: st) sh hr hi) : pm_KK p l e R s m args below meth c Q E L r0 h0 nL n0 s0 pc ls st sh hr hi := by
  intro H locs lsA hn hs hR hS hL
  have hv : lsA[j]? = some (.val (E.1 q)) := hL.at hl
  have k : W p l e R s m args below meth c H locs (sh.length - n0) (pm_sl sh - s0) Q (F0 m (pc + len) lsA (E.1 q :: st.map (pm_vl E.1))) := k H locs lsA hn hs hR hS hL
  have hrf := hX.rf q
  rw [Bool.or_eq_true, decide_eq_true_eq, decide_eq_true_eq] at ho
  cases hq : E.1 q with
  | ref a =>
    rw [hq] at hv k
    rcases ho with ⟨rfl, rfl⟩ | ⟨hj, rfl, rfl⟩
    · exact lv_aload hX.1 hX.2.1 hd hv k
    · exact lv_aload_n hX.1 hX.2.1 hd (Nat.mod_eq_of_lt hj) hv k
  | null =>
    rw [hq] at hv k
    rcases ho with ⟨rfl, rfl⟩ | ⟨hj, rfl, rfl⟩
    · exact lv_aloadN hX.1 hX.2.1 hd hv k
    · exact lv_aload_nN hX.1 hX.2.1 hd (Nat.mod_eq_of_lt hj) hv k
  | int _ => rw [hq] at hrf; cases hrf
  | long _ => rw [hq] at hrf; cases hrf
  | float _ => rw [hq] at hrf; cases hrf
  | double _ => rw [hq] at hrf; cases hrf
  | retAddr _ => rw [hq] at hrf; cases hrf
theorem pm_s_istore (hX : pm_X p s m args c E L r0 h0 own cc nL) (hd : decode cc pc = .ok (ins, len)) (ho : (decide (ins = .istore j ∧ len = 2) || decide (j < 4 ∧ ins = .istore_n (Fin.ofNat 4 j) ∧ len = 1)) = true) (hl : j < ls.length) (k : pm_KK p l e R s m args below meth c Q E L r0 h0 nL n0 s0 (pc + len) (ls.set j (some (.inl x))) st sh hr hi) : pm_KK p l e R s m args below meth c Q E L r0 h0 nL n0 s0 pc ls (.inl x :: st) sh hr hi := by
  intro H locs lsA hn hs hR hS hL
  have hl : j < nL := by rw [← hL.1]; exact hl
  rw [Bool.or_eq_true, decide_eq_true_eq, decide_eq_true_eq] at ho
  rcases ho with ⟨rfl, rfl⟩ | ⟨hj, rfl, rfl⟩
  · exact lv_istore hX.1 hX.2.1 hd hL.2 hl rfl (fun ls' h' => k H locs ls' hn hs hR hS (hL.set hX.rf (v := .inl x) h'))
  · exact lv_istore_n hX.1 hX.2.1 hd (Nat.mod_eq_of_lt hj) hL.2 hl rfl (fun ls' h' => k H locs ls' hn hs hR hS (hL.set hX.rf (v := .inl x) h'))
theorem pm_s_astore (hX : pm_X p s m args c E L r0 h0 own cc nL) (hd : decode cc pc = .ok (ins, len)) (ho : (decide (ins = .astore j ∧ len = 2) || decide (j < 4 ∧ ins = .astore_n (Fin.ofNat 4 j) ∧ len = 1)) = true) (hl : j < ls.length) (k : pm_KK p l e R s m args below meth c Q E L r0 h0 nL n0 s0 (pc + len) (ls.set j (some (.inr q))) st sh hr hi) : pm_KK p l e R s m args below meth c Q E L r0 h0 nL n0 s0 pc ls (.inr q :: st) sh hr hi := by
  intro H locs lsA hn hs hR hS hL
  have hl : j < nL := by rw [← hL.1]; exact hl
  have hrf := hX.rf q
  rw [Bool.or_eq_true, decide_eq_true_eq, decide_eq_true_eq] at ho
  show W p l e R s m args below meth c H locs (sh.length - n0) (pm_sl sh - s0) Q (F0 m pc lsA (E.1 q :: st.map (pm_vl E.1)))
  have k : ∀ ls', lv_has ls' nL ((j, E.1 q) :: (pm_lv E.1 ls).filter (fun q => !(q.1 == j) && !(q.1 + 1 == j && q.2.category == 2))) → W p l e R s m args below meth c H locs (sh.length - n0) (pm_sl sh - s0) Q (F0 m (pc + len) ls' (st.map (pm_vl E.1))) := fun ls' h' => k H locs ls' hn hs hR hS (hL.set hX.rf (v := .inr q) h')
  cases hq : E.1 q with
  | ref a =>
    rw [hq] at k
    rcases ho with ⟨rfl, rfl⟩ | ⟨hj, rfl, rfl⟩
    · exact lv_astore hX.1 hX.2.1 hd hL.2 hl rfl k
    · exact lv_astore_n hX.1 hX.2.1 hd (Nat.mod_eq_of_lt hj) hL.2 hl rfl k
  | null =>
    rw [hq] at k
    rcases ho with ⟨rfl, rfl⟩ | ⟨hj, rfl, rfl⟩
    · exact lv_astoreN hX.1 hX.2.1 hd hL.2 hl rfl k
    · exact lv_astore_nN hX.1 hX.2.1 hd (Nat.mod_eq_of_lt hj) hL.2 hl rfl k
  | int _ => rw [hq] at hrf; cases hrf
  | long _ => rw [hq] at hrf; cases hrf
  | float _ => rw [hq] at hrf; cases hrf
  | double _ => rw [hq] at hrf; cases hrf
  | retAddr _ => rw [hq] at hrf; cases hrf
theorem pm_s_iinc (hX : pm_X p s m args c E L r0 h0 own cc nL) {n : Int} {cv : Int32} (hd : decode cc pc = .ok (.iinc j n, 3)) (hc : Int32.ofInt n = cv) (hl : ls[j]? = some (some (.inl x))) (k : pm_KK p l e R s m args below meth c Q E L r0 h0 nL n0 s0 (pc + 3) (ls.set j (some (.inl (x + cv)))) st sh hr hi) : pm_KK p l e R s m args below meth c Q E L r0 h0 nL n0 s0 pc ls st sh hr hi := by
  intro H locs lsA hn hs hR hS hL
  have hlt : j < nL := by rw [← hL.1]; exact (List.getElem?_eq_some_iff.mp hl).1
  obtain ⟨kk, hk⟩ := List.getElem?_of_mem (pm_lv_mem.mpr ⟨.inl x, hl, rfl⟩ : (j, pm_vl E.1 (.inl x)) ∈ pm_lv E.1 ls)
  exact lv_iinc hX.1 hX.2.1 hd hL.2 hk (v := x + cv) (by rw [hc]) hlt rfl (fun ls' h' => k H locs ls' hn hs hR hS (hL.set hX.rf (v := .inl (x + cv)) h'))
theorem pm_s_cst (hX : pm_X p s m args c E L r0 h0 own cc nL) {cv : Int32} (hd : decode cc pc = .ok (ins, len)) (ho : pm_k_cst own a cv len ins = true) (k : pm_KK p l e R s m args below meth c Q E L r0 h0 nL n0 s0 (pc + len) ls (.inl cv :: st) sh hr hi) : pm_KK p l e R s m args below meth c Q E L r0 h0 nL n0 s0 pc ls st sh hr hi := by
  intro H locs lsA hn hs hR hS hL
  have k := k H locs lsA hn hs hR hS hL
  obtain ⟨hx, hb, hown, hts, hml, hC, hz⟩ := hX
  unfold pm_k_cst at ho
  split at ho
  · obtain ⟨h1, rfl⟩ := of_decide_eq_true ho
    exact lv_iconst hx hb hd h1 k
  · obtain ⟨h1, rfl⟩ := of_decide_eq_true ho
    exact lv_bipush hx hb hd h1 k
  · obtain ⟨h1, rfl⟩ := of_decide_eq_true ho
    exact lv_sipush hx hb hd h1 k
  · rw [Bool.and_eq_true, decide_eq_true_eq] at ho
    obtain ⟨h1, rfl⟩ := ho
    exact lv_ldc hx hb hown (hts _ (pm_w_in h1)) hd k
  · rw [Bool.and_eq_true, decide_eq_true_eq] at ho
    obtain ⟨h1, rfl⟩ := ho
    exact lv_ldcw hx hb hown (hts _ (pm_w_in h1)) hd k
  · rw [Bool.and_eq_true, decide_eq_true_eq] at ho
    obtain ⟨h1, rfl, rfl⟩ := ho
    exact va_gets hx hb hC.2.2.2.2.2.1 hS hown (hts _ (pm_w_in h1)) (fun _ h => h) hd k
  · cases ho
theorem pm_s_ref (hX : pm_X p s m args c E L r0 h0 own cc nL) (hd : decode cc pc = .ok (ins, len)) (ho : pm_k_ref own a b len ins = true) (k : pm_KK p l e R s m args below meth c Q E L r0 h0 nL n0 s0 (pc + len) ls (.inr a :: st) sh hr hi) : pm_KK p l e R s m args below meth c Q E L r0 h0 nL n0 s0 pc ls st sh hr hi := by
  intro H locs lsA hn hs hR hS hL
  have k : W p l e R s m args below meth c H locs (sh.length - n0) (pm_sl sh - s0) Q (F0 m (pc + len) lsA (E.1 a :: st.map (pm_vl E.1))) := k H locs lsA hn hs hR hS hL
  obtain ⟨hx, hb, hown, hts, hml, hC, hz⟩ := hX
  unfold pm_k_ref at ho
  split at ho
  · rw [Bool.and_eq_true, decide_eq_true_eq] at ho
    obtain ⟨⟨h3, rfl⟩, ho⟩ := ho
    split at ho
    · rename_i z hz
      obtain ⟨rfl, rfl⟩ := of_decide_eq_true ho
      obtain ⟨ad, h1, h2⟩ := hC.2.2.2.2.2.2.2.1 _ _ hz
      rw [show 3 + (a - 3) = a by omega] at h1
      rw [h1] at k
      exact va_ldcS hx hb hown h2 hd k
    · cases ho
  · rw [Bool.or_eq_true, Bool.and_eq_true, Bool.and_eq_true, decide_eq_true_eq, decide_eq_true_eq] at ho
    rcases ho with ⟨⟨rfl, rfl⟩, h1⟩ | ⟨⟨rfl, rfl⟩, h1⟩
    · exact va_gets hx hb hC.2.2.2.2.1 hS hown (hts _ (pm_w_in h1)) (fun _ h => h) hd k
    · exact va_gets hx hb hC.2.2.2.2.2.2.1 hS hown (hts _ (pm_w_in h1)) (fun _ h => h) hd k
  · cases ho
theorem pm_s_sw (hX : pm_X p s m args c E L r0 h0 own cc nL) {sw : List (Int32 × Nat)} (hd : decode cc pc = .ok (ins, len)) (ho : pm_k_sw pc a sw len ins = true) (k : pm_KK p l e R s m args below meth c Q E L r0 h0 nL n0 s0 (pm_sw x a sw) ls st sh hr hi) : pm_KK p l e R s m args below meth c Q E L r0 h0 nL n0 s0 pc ls (.inl x :: st) sh hr hi := by
  intro H locs lsA hn hs hR hS hL
  have k := k H locs lsA hn hs hR hS hL
  unfold pm_k_sw at ho
  split at ho
  · rename_i d lo hi' os
    rw [Bool.and_eq_true, decide_eq_true_eq] at ho
    obtain ⟨⟨h1, h2⟩, h3⟩ := ho
    have h4 := pm_tsw_spec (a := a) (x := x) sw lo os.toList h3
    rw [Array.length_toList] at h4
    by_cases hin : lo ≤ x.toInt ∧ x.toInt < lo + os.size
    · obtain ⟨o, h5, h6⟩ := h4.2 hin.1 hin.2
      exact lv_tableIn hX.1 hX.2.1 hd (by omega) (by omega) (by rw [← Array.getElem?_toList]; exact h5) h6 k
    · rw [h4.1 (by omega)] at k
      exact lv_tableOut hX.1 hX.2.1 hd (by omega) h1 k
  · rename_i d ps
    rw [Bool.and_eq_true, Bool.and_eq_true, decide_eq_true_eq] at ho
    obtain ⟨⟨h1, h2⟩, h3⟩ := ho
    exact lv_lookup hX.1 hX.2.1 hd h2 rfl (pm_lsw_spec h1 sw ps.toList h3) k
  · cases ho
theorem pm_s_if (hX : pm_X p s m args c E L r0 h0 own cc nL) {cd : ClassFile.Cond} {off : Int} (hd : decode cc pc = .ok (.ifCond cd off, 3)) (ht : (pc : Int) + off = (a : Int)) (kt : pm_cb cd x 0 = true → pm_KK p l e R s m args below meth c Q E L r0 h0 nL n0 s0 a ls st sh hr hi) (kf : ¬ pm_cb cd x 0 = true → pm_KK p l e R s m args below meth c Q E L r0 h0 nL n0 s0 (pc + 3) ls st sh hr hi) : pm_KK p l e R s m args below meth c Q E L r0 h0 nL n0 s0 pc ls (.inl x :: st) sh hr hi := by
  intro H locs lsA hn hs hR hS hL
  rw [pm_cb_iff] at kt kf
  cases cd
  · exact lv_if_eq hX.1 hX.2.1 hd ht (fun h => kt h H locs lsA hn hs hR hS hL) (fun h => kf h H locs lsA hn hs hR hS hL)
  · exact lv_if_ne hX.1 hX.2.1 hd ht (fun h => kt h H locs lsA hn hs hR hS hL) (fun h => kf (fun z => z h) H locs lsA hn hs hR hS hL)
  · exact lv_if_lt hX.1 hX.2.1 hd ht (fun h => kt h H locs lsA hn hs hR hS hL) (fun h => kf h H locs lsA hn hs hR hS hL)
  · exact lv_if_ge hX.1 hX.2.1 hd ht (fun h => kt h H locs lsA hn hs hR hS hL) (fun h => kf h H locs lsA hn hs hR hS hL)
  · exact lv_if_gt hX.1 hX.2.1 hd ht (fun h => kt h H locs lsA hn hs hR hS hL) (fun h => kf h H locs lsA hn hs hR hS hL)
  · exact lv_if_le hX.1 hX.2.1 hd ht (fun h => kt h H locs lsA hn hs hR hS hL) (fun h => kf h H locs lsA hn hs hR hS hL)
theorem pm_s_icmp (hX : pm_X p s m args c E L r0 h0 own cc nL) {cd : ClassFile.Cond} {off : Int} (hd : decode cc pc = .ok (.if_icmp cd off, 3)) (ht : (pc : Int) + off = (a : Int)) (kt : pm_cb cd x y = true → pm_KK p l e R s m args below meth c Q E L r0 h0 nL n0 s0 a ls st sh hr hi) (kf : ¬ pm_cb cd x y = true → pm_KK p l e R s m args below meth c Q E L r0 h0 nL n0 s0 (pc + 3) ls st sh hr hi) : pm_KK p l e R s m args below meth c Q E L r0 h0 nL n0 s0 pc ls (.inl y :: .inl x :: st) sh hr hi := by
  intro H locs lsA hn hs hR hS hL
  rw [pm_cb_iff] at kt kf
  cases cd
  · exact lv_icmp_eq hX.1 hX.2.1 hd ht (fun h => kt h H locs lsA hn hs hR hS hL) (fun h => kf h H locs lsA hn hs hR hS hL)
  · exact lv_icmp_ne hX.1 hX.2.1 hd ht (fun h => kt h H locs lsA hn hs hR hS hL) (fun h => kf (fun z => z h) H locs lsA hn hs hR hS hL)
  · exact lv_icmp_lt hX.1 hX.2.1 hd ht (fun h => kt h H locs lsA hn hs hR hS hL) (fun h => kf h H locs lsA hn hs hR hS hL)
  · exact lv_icmp_ge hX.1 hX.2.1 hd ht (fun h => kt h H locs lsA hn hs hR hS hL) (fun h => kf h H locs lsA hn hs hR hS hL)
  · exact lv_icmp_gt hX.1 hX.2.1 hd ht (fun h => kt h H locs lsA hn hs hR hS hL) (fun h => kf h H locs lsA hn hs hR hS hL)
  · exact lv_icmp_le hX.1 hX.2.1 hd ht (fun h => kt h H locs lsA hn hs hR hS hL) (fun h => kf h H locs lsA hn hs hR hS hL)
end PMS
end
section
/-! ===== the steps at the heap ===== -/
section PMH
variable {p : Program} {l : Launch} {e : Env} {R : Room} {s : State} {m : MethodId} {args : Array Value} {below : List Frame} {meth : Method} {c : Code} {Q : State → Prop}
variable {E : pm_E} {L : Nat} {r0 : pm_A} {h0 : pm_B} {own nm : String} {cc : ByteArray} {nL n0 s0 : Nat}
variable {pc len a b f j q : Nat} {ins : Instr} {ls : pm_L} {st : List pm_V} {sh : pm_S} {hr : pm_A} {hi : pm_B} {x y i : Int32} {sw : List (Int32 × Nat)}
theorem pm_fv_0 {vl : pm_N} (h : pm_fk a b = 0) : pm_fv vl hr hi q a b = .int (hi q b) := by simp only [pm_fv, h]
theorem pm_fv_1 {vl : pm_N} (h : pm_fk a b = 1) : pm_fv vl hr hi q a b = vl (hr q b) := by simp only [pm_fv, h]
theorem pm_fv_2 {vl : pm_N} (h : pm_fk a b = 2) : pm_fv vl hr hi q a b = vl (hi q b).toNatClampNeg := by simp only [pm_fv, h]
theorem pm_fits {t : FieldType} {v : Value} (ht : t.isReference = true) (hv : v.isRef = true) : narrow t v = v ∧ fits t v = true := by
  cases t <;> first | (cases ht; done) | (cases v <;> first | (cases hv; done) | exact ⟨rfl, rfl⟩)
theorem pm_fk_lt (a b : Nat) : pm_fk a b < 3 := by unfold pm_fk; split <;> first | omega | (split <;> omega)
theorem pm_s_get (hX : pm_X p s m args c E L r0 h0 own cc nL) (hd : decode cc pc = .ok (ins, len)) (ho : pm_k_gf own f a b sw len ins = true) (hs : sh[q]? = some (0, a, 0)) {w : pm_V} (hw : (f = 0 ∧ w = .inl (hi q b)) ∨ (f = 1 ∧ w = .inr (hr q b)) ∨ (f ≠ 0 ∧ f ≠ 1 ∧ w = .inr (hi q b).toNatClampNeg)) (k : pm_KK p l e R s m args below meth c Q E L r0 h0 nL n0 s0 (pc + len) ls (w :: st) sh hr hi) : pm_KK p l e R s m args below meth c Q E L r0 h0 nL n0 s0 pc ls (.inr q :: st) sh hr hi := by
  intro H locs lsA hn hs' hR hS hL
  have k : W p l e R s m args below meth c H locs (sh.length - n0) (pm_sl sh - s0) Q (F0 m (pc + len) lsA (pm_vl E.1 w :: st.map (pm_vl E.1))) := k H locs lsA hn hs' hR hS hL
  have had := hX.ad
  obtain ⟨hx, hb, hown, hts, hml, hC, hz⟩ := hX
  show W p l e R s m args below meth c H locs (sh.length - n0) (pm_sl sh - s0) Q (F0 m pc lsA (E.1 q :: st.map (pm_vl E.1)))
  unfold pm_k_gf at ho
  split at ho
  · rename_i ix z
    rw [Bool.and_eq_true, decide_eq_true_eq] at ho
    obtain ⟨rfl, ho⟩ := ho
    split at ho
    · rename_i r hrr
      rw [Bool.and_eq_true, decide_eq_true_eq] at ho
      obtain ⟨⟨hbn, hf, ha⟩, hlw⟩ := ho
      obtain ⟨hq, r', hrr', hob⟩ := hR.obj hs (by omega) (by omega)
      cases hrr.symm.trans hrr'
      have hval : pm_fv E.1 hr hi q a b = pm_vl E.1 w := by
        have h3 := pm_fk_lt a b
        rcases hw with ⟨rfl, rfl⟩ | ⟨rfl, rfl⟩ | ⟨h1, h2, rfl⟩
        · exact pm_fv_0 hf
        · exact pm_fv_1 hf
        · exact pm_fv_2 (by omega)
      obtain ⟨cell, q1, q2, q3, q4⟩ := hob
      obtain ⟨hSl, hfc, kC, hkC, hkind⟩ := hC.1 a r hrr
      obtain ⟨cf, kf, fi, fd, hi', hsl⟩ := hSl b hbn
      rw [had q hq]
      refine W.getf hx hb hown (hts _ (pm_w_in hlw)) hi' (u_facts hfc hkC (u_lays hts (pm_cl_in a r hrr) hbn) hi').1 q1 (by rw [q3]; exact fun h => by cases h) (v := pm_vl E.1 w) ?_ rfl rfl hd k
      rw [hsl, q4 b hbn, hval]
    · rw [Bool.and_eq_true, decide_eq_true_eq] at ho
      obtain ⟨rfl, ho⟩ := ho
      obtain ⟨hq, hst⟩ := hR.str hs
      obtain ⟨ad, e1, h1, h2, h3⟩ := hC.2.2.2.1 q hst
      rw [e1]
      rw [Bool.or_eq_true, Bool.and_eq_true, Bool.and_eq_true, decide_eq_true_eq, decide_eq_true_eq] at ho
      have hlo := hR.2.2.1 q
      rcases ho with ⟨⟨rfl, rfl⟩, hlw⟩ | ⟨⟨rfl, rfl⟩, hlw⟩
      · have hwv : pm_vl E.1 w = E.1 (r0 q 0) := by
          rcases hw with ⟨h, -⟩ | ⟨-, rfl⟩ | ⟨-, h, -⟩
          · cases h
          · show E.1 (hr q 0) = _
            rw [(hlo 0 hq).2]
          · exact absurd rfl h
        rw [hwv] at k
        exact vk_getf hx hb h3 hS hown (hts _ (pm_w_in hlw)) (fun _ h => h) hd k
      · have hwv : pm_vl E.1 w = .int (h0 q 1) := by
          rcases hw with ⟨-, rfl⟩ | ⟨h, -⟩ | ⟨h, -⟩
          · show Value.int (hi q 1) = _
            rw [(hlo 1 hq).1]
          · cases h
          · exact absurd rfl h
        rw [hwv] at k
        exact vk_getf hx hb h2 hS hown (hts _ (pm_w_in hlw)) (fun _ h => h) hd k
  · cases ho
theorem pm_u_at {α : Type} {g : Nat → Nat → α} {q j : Nat} {v : α} : pm_u g q j v q j = v := by unfold pm_u; rw [if_pos ⟨rfl, rfl⟩]
theorem pm_u_ne {α : Type} {g : Nat → Nat → α} {q j q' j' : Nat} {v : α} (h : q' ≠ q ∨ j' ≠ j) : pm_u g q j v q' j' = g q' j' := by unfold pm_u; rw [if_neg (fun z => by rcases h with h | h; exact h z.1; exact h z.2)]
/-- a field is written: the new pictures hr', hi' differ from the old at this field alone, and have w there -/
theorem pm_s_put (hX : pm_X p s m args c E L r0 h0 own cc nL) (hini : nm = "<init>" → meth.name = "<init>") (hd : decode cc pc = .ok (ins, len)) {cv : Int32} (ho : pm_k_pf own nm f a b cv sw len ins = true) (hs : sh[q]? = some (0, a, 0)) {w : pm_V} {hr' : pm_A} {hi' : pm_B}
    (hw : (f = 0 ∧ (∃ z, w = .inl z ∧ pm_fit cv.toNatClampNeg z ∧ hi' = pm_u hi q b z) ∧ hr' = hr) ∨ (f = 1 ∧ hi' = hi ∧ ∃ z, w = .inr z ∧ hr' = pm_u hr q b z) ∨ (f ≠ 0 ∧ f ≠ 1 ∧ hr' = hr ∧ ∃ z, w = .inr z ∧ z < 2147483648 ∧ hi' = pm_u hi q b (nI z)))
    (k : pm_KK p l e R s m args below meth c Q E L r0 h0 nL n0 s0 (pc + len) ls st sh hr' hi') : pm_KK p l e R s m args below meth c Q E L r0 h0 nL n0 s0 pc ls (w :: .inr q :: st) sh hr hi := by
  intro H locs lsA hn hs' hR hS hL
  have had := hX.ad
  have hrf := hX.rf
  obtain ⟨hx, hb, hown, hts, hml, hC, hz⟩ := hX
  show W p l e R s m args below meth c H locs (sh.length - n0) (pm_sl sh - s0) Q (F0 m pc lsA (pm_vl E.1 w :: E.1 q :: st.map (pm_vl E.1)))
  unfold pm_k_pf at ho
  split at ho
  · rename_i ix z
    rw [Bool.and_eq_true, decide_eq_true_eq] at ho
    obtain ⟨rfl, ho⟩ := ho
    split at ho
    · rename_i r hrr
      rw [Bool.and_eq_true, Bool.and_eq_true, Bool.and_eq_true, decide_eq_true_eq, Bool.or_eq_true, decide_eq_true_eq, decide_eq_true_eq] at ho
      obtain ⟨⟨⟨⟨hbn, hf, ha⟩, hlw⟩, hfin⟩, hty⟩ := ho
      obtain ⟨hq, r', hrr', hob⟩ := hR.obj hs (by omega) (by omega)
      cases hrr.symm.trans hrr'
      obtain ⟨hpt, hnm⟩ := pm_cl_ty a r hrr
      have h3 := pm_fk_lt a b
      have hd1 : ∀ q' j, (q' ≠ q ∨ j ≠ b) → hi' q' j = hi q' j ∧ hr' q' j = hr q' j := by
        intro q' j hne
        rcases hw with ⟨-, ⟨z, -, -, rfl⟩, rfl⟩ | ⟨-, rfl, z, -, rfl⟩ | ⟨-, -, rfl, z, -, -, rfl⟩
        · exact ⟨pm_u_ne hne, rfl⟩
        · exact ⟨rfl, pm_u_ne hne⟩
        · exact ⟨pm_u_ne hne, rfl⟩
      have hval : pm_fv E.1 hr' hi' q a b = pm_vl E.1 w := by
        rcases hw with ⟨rfl, ⟨z, rfl, -, rfl⟩, rfl⟩ | ⟨rfl, rfl, z, rfl, rfl⟩ | ⟨h1, h2, rfl, z, rfl, hlt, rfl⟩
        · rw [pm_fv_0 hf, pm_u_at]
          rfl
        · rw [pm_fv_1 hf, pm_u_at]
          rfl
        · rw [pm_fv_2 (by omega), pm_u_at, nI_clamp (by omega)]
          rfl
      have hnf : narrow (pm_fty a b) (pm_vl E.1 w) = pm_vl E.1 w ∧ fits (pm_fty a b) (pm_vl E.1 w) = true := by
        have hrefs : f ≠ 0 → (pm_fty a b).isReference = true := by
          intro h
          unfold pm_fk at hf
          split at hf
          · rename_i h2
            obtain ⟨rfl, rfl⟩ := h2
            rfl
          · split at hf
            · assumption
            · omega
        rcases hw with ⟨rfl, ⟨z, rfl, hfit, -⟩, -⟩ | ⟨rfl, -, z, rfl, -⟩ | ⟨h1, h2, -, z, rfl, -, -⟩
        · rw [Bool.or_eq_true, Bool.or_eq_true, decide_eq_true_eq, decide_eq_true_eq, decide_eq_true_eq] at hty
          rcases hty with (h | ⟨h, rfl⟩) | ⟨h, rfl⟩
          · exact absurd rfl h
          · rw [h]
            exact ⟨rfl, rfl⟩
          · rw [h]
            have hfit : z = 0 ∨ z = 1 := hfit
            rcases hfit with rfl | rfl
            · exact ⟨rfl, rfl⟩
            · exact ⟨rfl, rfl⟩
        · exact pm_fits (hrefs (by decide)) (hrf z)
        · exact pm_fits (hrefs h1) (hrf z)
      have hap : ∀ x y, x < r.2.2 → y < r.2.2 → x ≠ y → (E.2.2.2.1 a) x ≠ (E.2.2.2.1 a) y := va_apart (D := (E.2.2.1, E.2.2.2.1)) (cl := pm_cl) (tys := []) (own := own) hts (pm_cl_in a r hrr) (pm_fty a) hpt hnm ⟨hC.1, fun k q hk => by cases hk⟩ hrr
      obtain ⟨cell, q1, q2, q3, q4⟩ := hob
      obtain ⟨hSl, hfc, kC, hkC, hkind⟩ := hC.1 a r hrr
      obtain ⟨cf, kf, fi, fd, hfi, hsl⟩ := hSl b hbn
      have hst := (u_facts hfc hkC (u_lays hts (pm_cl_in a r hrr) hbn) hfi).1
      have hlay := hts _ (pm_cl_in a r hrr _ (u_in_lay hbn))
      have fin : ∀ H' : Heap, H'[E.2.1 + (q - 16)]? = some (cell.setSlot fd.slot (pm_vl E.1 w)) → H'.size = H.size → (∀ x, x ≠ E.2.1 + (q - 16) → H'[x]? = H[x]?) → W p l e R s m args below meth c H' (locs ++ [⟨E.2.1 + (q - 16), fd.slot⟩]) (sh.length - n0) (pm_sl sh - s0) Q (F0 m (pc + 3) lsA (st.map (pm_vl E.1))) := by
        intro H' e1 e2 e3
        refine k H' _ lsA hn hs' (hR.upd hq hs (fun q' j hne => hd1 q' j (Or.inl hne)) e2 e3 ⟨r, hrr, ?_⟩) (hS.put e2 e3 (show E.2.1 ≤ E.2.1 + (q - 16) by omega)) hL
        rw [hsl] at e1
        refine t_OB.to (V := updV (pm_fv E.1 hr hi q a) b (pm_vl E.1 w)) ⟨_, e1, q2, q3, t_set q4 hap hbn _⟩ (fun j hj => ?_)
        unfold updV
        split
        · rename_i hj
          subst hj
          exact hval.symm
        · rename_i hj
          unfold pm_fv
          rw [(hd1 q j (Or.inr hj)).1, (hd1 q j (Or.inr hj)).2]
      rw [had q hq]
      unfold u_lay at hlay
      rcases hfin with hfin | ⟨hfin, hn1, hn2⟩
      · rw [if_neg (by rw [hfin]; decide)] at hlay
        have h6 := u_store hfc hkC hkind hlay hfi (hpt b hbn) hnf.1 hnf.2
        exact W.putK hx hb (f := fd) ⟨hown, hts _ (pm_w_in hlw), ⟨_, _, _, hfi⟩, hst⟩ (by rw [q2]; exact h6) q1 q3 (by rw [hsl]; exact k2_hasslot (q4 b hbn)) rfl rfl hd fin
      · rw [if_pos hfin] at hlay
        have hcf : m.cls = cf := by
          obtain ⟨_, _, c', _, _, _, -, -, hf', -, -, -, hown2, -⟩ := Cond.laysFinal_spec hlay
          have e1 : c' = cf := by have := hfi.symm.trans hf'; simp at this; exact this.1.symm
          rw [hn2] at hown2
          rw [← e1]; exact Option.some.inj (hown.symm.trans hown2)
        have h6 := u_fits hfc hkC hkind (Or.inr hlay) hfi (hpt b hbn) hnf.1 hnf.2
        exact W.putFinK hx hb hown (hts _ (pm_w_in hlw)) hfi hst hcf (hini hn1) (by rw [q2]; exact h6) q1 q3 (by rw [hsl]; exact k2_hasslot (q4 b hbn)) rfl rfl hd fin
    · cases ho
  · cases ho
theorem pm_in_of (h1 : ¬ i < 0) {n : Nat} (h2 : i.toNatClampNeg < n) : ¬ (i < 0 ∨ n ≤ i.toNatClampNeg) := fun h => by rcases h with h | h; exact h1 h; omega
theorem pm_s_iald (hX : pm_X p s m args c E L r0 h0 own cc nL) (hd : decode cc pc = .ok (ins, len)) (ho : (decide (len = 1) && (decide (ins = .iaload ∧ a = 0) || decide (ins = .baload ∧ a = 1) || decide (ins = .caload ∧ a = 2) || decide (ins = .baload ∧ a = 3))) = true) (hs : pm_ao sh q a i) (k : pm_KK p l e R s m args below meth c Q E L r0 h0 nL n0 s0 (pc + len) ls (.inl (hi q i.toNatClampNeg) :: st) sh hr hi) : pm_KK p l e R s m args below meth c Q E L r0 h0 nL n0 s0 pc ls (.inl i :: .inr q :: st) sh hr hi := by
  intro H locs lsA hn hs' hR hS hL
  have k : W p l e R s m args below meth c H locs (sh.length - n0) (pm_sl sh - s0) Q (F0 m (pc + len) lsA (.int (hi q i.toNatClampNeg) :: st.map (pm_vl E.1))) := k H locs lsA hn hs' hR hS hL
  have had := hX.ad
  obtain ⟨hx, hb, hown, hts, hml, hC, hz⟩ := hX
  show W p l e R s m args below meth c H locs (sh.length - n0) (pm_sl sh - s0) Q (F0 m pc lsA (.int i :: E.1 q :: st.map (pm_vl E.1)))
  rw [Bool.and_eq_true, decide_eq_true_eq, Bool.or_eq_true, Bool.or_eq_true, Bool.or_eq_true, decide_eq_true_eq, decide_eq_true_eq, decide_eq_true_eq, decide_eq_true_eq] at ho
  obtain ⟨rfl, ho⟩ := ho
  obtain ⟨t, n, hsq, hi0, hin⟩ := hs
  have key : ∃ (ad : Nat) (cell : Cell), E.1 q = .ref ad ∧ H[ad]? = some cell ∧ s.isArrayOf cell (pm_ty a) ∧ cell.vm ≠ .unknown ∧ ¬ (i < 0 ∨ cell.slots.size ≤ i.toNatClampNeg) ∧ cell.slots[i.toNatClampNeg]? = some (.int (hi q i.toNatClampNeg)) := by
    rcases hR.arr hsq with ⟨hq, rfl, ha8, hn1, hc⟩ | ⟨hq, rfl, hc⟩
    · refine ⟨_, _, had q hq, hc, (hC.2.1 a ha8).1 n _, (fun h => by cases h), (by rw [arrV_size]; exact pm_in_of hi0 hin), ?_⟩
      rw [arrV_read _ _ hin]
      unfold pm_ev
      rw [if_pos (by omega)]
    · obtain ⟨ad, e1, cell, t1, t2, t3, t4, t5, t6, t7⟩ := hC.2.2.1 q a n hc
      refine ⟨ad, cell, e1, by rw [hS.2.1 ad (Array.getElem?_eq_some_iff.mp t1).1 t7]; exact t1, t2, t3, pm_in_of hi0 (by omega), ?_⟩
      rw [t6 _ hin, (hR.2.2.1 q _ hq).1]
  obtain ⟨ad, cell, e1, c1, c2, c3, c4, c5⟩ := key
  rw [e1]
  rcases ho with ((⟨rfl, rfl⟩ | ⟨rfl, rfl⟩) | ⟨rfl, rfl⟩) | ⟨rfl, rfl⟩
  · exact W.iald hx hb c1 c2 c3 c4 c5 rfl rfl hd k
  · exact W.bald hx hb c1 c2 c3 c4 c5 rfl rfl hd k
  · exact W.cald hx hb c1 c2 c3 c4 c5 rfl rfl hd k
  · exact W.zald hx hb c1 c2 c3 c4 c5 rfl rfl hd k
theorem pm_ty_ref (h : 4 ≤ a) : (pm_ty a).isReference = true := by
  match a, h with
  | 4, _ => rfl
  | 5, _ => rfl
  | 6, _ => rfl
  | n + 7, _ => rfl
theorem pm_s_aald (hX : pm_X p s m args c E L r0 h0 own cc nL) (hd : decode cc pc = .ok (.aaload, 1)) (ha : 4 ≤ a ∧ a < 8) (hs : pm_ao sh q a i) (k : pm_KK p l e R s m args below meth c Q E L r0 h0 nL n0 s0 (pc + 1) ls (.inr (hr q i.toNatClampNeg) :: st) sh hr hi) : pm_KK p l e R s m args below meth c Q E L r0 h0 nL n0 s0 pc ls (.inl i :: .inr q :: st) sh hr hi := by
  intro H locs lsA hn hs' hR hS hL
  have k : W p l e R s m args below meth c H locs (sh.length - n0) (pm_sl sh - s0) Q (F0 m (pc + 1) lsA (E.1 (hr q i.toNatClampNeg) :: st.map (pm_vl E.1))) := k H locs lsA hn hs' hR hS hL
  have had := hX.ad
  obtain ⟨hx, hb, hown, hts, hml, hC, hz⟩ := hX
  show W p l e R s m args below meth c H locs (sh.length - n0) (pm_sl sh - s0) Q (F0 m pc lsA (.int i :: E.1 q :: st.map (pm_vl E.1)))
  obtain ⟨t, n, hsq, hi0, hin⟩ := hs
  rcases hR.arr hsq with ⟨hq, rfl, ha8, hn1, hc⟩ | ⟨hq, rfl, hc⟩
  · rw [had q hq]
    refine W.aald hx hb hc ((hC.2.1 a ha8).1 n _) (pm_ty_ref ha.1) (fun h => by cases h) (by rw [arrV_size]; exact pm_in_of hi0 hin) (v := E.1 (hr q i.toNatClampNeg)) ?_ rfl rfl hd k
    rw [arrV_read _ _ hin]
    unfold pm_ev
    rw [if_neg (by omega)]
  · exfalso
    have hq2 := pm_sh0_lt hc
    unfold pm_sh0 at hc
    match q, hq2 with
    | 0, _ => cases hc
    | 1, _ => cases hc; omega
    | 2, _ => cases hc; omega
    | 3, _ => cases hc
    | 4, _ => cases hc
    | 5, _ => cases hc
    | 6, _ => cases hc
    | 7, _ => cases hc
    | 8, _ => cases hc
    | 9, _ => cases hc; omega
    | 10, _ => cases hc; omega
    | 11, _ => cases hc; omega
    | 12, _ => cases hc; omega
    | 13, _ => cases hc; omega
    | 14, _ => cases hc; omega
    | 15, _ => cases hc
theorem pm_s_alen (hX : pm_X p s m args c E L r0 h0 own cc nL) (hd : decode cc pc = .ok (.arraylength, 1)) {t ti n : Nat} (hs : sh[q]? = some (t + 1, ti, n)) (k : pm_KK p l e R s m args below meth c Q E L r0 h0 nL n0 s0 (pc + 1) ls (.inl (nI n) :: st) sh hr hi) : pm_KK p l e R s m args below meth c Q E L r0 h0 nL n0 s0 pc ls (.inr q :: st) sh hr hi := by
  intro H locs lsA hn hs' hR hS hL
  have k := k H locs lsA hn hs' hR hS hL
  have had := hX.ad
  obtain ⟨hx, hb, hown, hts, hml, hC, hz⟩ := hX
  show W p l e R s m args below meth c H locs (sh.length - n0) (pm_sl sh - s0) Q (F0 m pc lsA (E.1 q :: st.map (pm_vl E.1)))
  rcases hR.arr hs with ⟨hq, rfl, ha8, hn1, hc⟩ | ⟨hq, rfl, hc⟩
  · rw [had q hq]
    exact W.alen hx hb hc ((hC.2.1 ti ha8).1 n _) (n := nI n) (by rw [arrV_size] <;> rfl) rfl rfl hd k
  · obtain ⟨ad, e1, cell, t1, t2, t3, t4, t5, t6, t7⟩ := hC.2.2.1 q ti n hc
    rw [e1]
    exact W.alen hx hb (by rw [hS.2.1 ad (Array.getElem?_eq_some_iff.mp t1).1 t7]; exact t1) t2 (n := nI n) t5 rfl rfl hd k
/-- an element of an array that is made here is written -/
theorem pm_R.ast {v : pm_V} {n : Nat} {hr' : pm_A} {hi' : pm_B} {H H' : Heap} (hR : pm_R E L r0 h0 sh hr hi H) (hq : 16 ≤ q) (hs : sh[q]? = some (1, a, n)) (ha8 : a < 8) (hn1 : n < 100000) (hv : ∀ q' j', (q' ≠ q ∨ j' ≠ j) → hi' q' j' = hi q' j' ∧ hr' q' j' = hr q' j') (hw : pm_ev E.1 hr' hi' q a j = pm_vl E.1 v)
    (e1 : H'[E.2.1 + (q - 16)]? = some ((arrV (E.2.2.2.2 a) n (pm_ev E.1 hr hi q a)).setSlot j (pm_vl E.1 v))) (e2 : H'.size = H.size) (e3 : ∀ x, x ≠ E.2.1 + (q - 16) → H'[x]? = H[x]?) : pm_R E L r0 h0 sh hr' hi' H' := by
  refine hR.upd hq hs (fun q' j' hne => hv q' j' (Or.inl hne)) e2 e3 ⟨ha8, hn1, ?_⟩
  rw [e1, arrV_store]
  congr 2
  funext j'
  unfold updV
  split
  · rename_i hj
    subst hj
    exact hw.symm
  · rename_i hj
    unfold pm_ev
    rw [(hv q j' (Or.inr hj)).1, (hv q j' (Or.inr hj)).2]
theorem pm_s_iast (hX : pm_X p s m args c E L r0 h0 own cc nL) (hd : decode cc pc = .ok (ins, len)) (ho : (decide (len = 1) && (decide (ins = .iastore ∧ a = 0) || decide (ins = .castore ∧ a = 2) || decide (ins = .bastore ∧ a = 3))) = true) (hs : pm_aw sh q a i) (hfit : pm_fit a x) (k : pm_KK p l e R s m args below meth c Q E L r0 h0 nL n0 s0 (pc + len) ls st sh hr (pm_u hi q i.toNatClampNeg x)) : pm_KK p l e R s m args below meth c Q E L r0 h0 nL n0 s0 pc ls (.inl x :: .inl i :: .inr q :: st) sh hr hi := by
  intro H locs lsA hn hs' hR hS hL
  have had := hX.ad
  obtain ⟨hx, hb, hown, hts, hml, hC, hz⟩ := hX
  show W p l e R s m args below meth c H locs (sh.length - n0) (pm_sl sh - s0) Q (F0 m pc lsA (.int x :: .int i :: E.1 q :: st.map (pm_vl E.1)))
  rw [Bool.and_eq_true, decide_eq_true_eq, Bool.or_eq_true, Bool.or_eq_true, decide_eq_true_eq, decide_eq_true_eq, decide_eq_true_eq] at ho
  obtain ⟨rfl, ho⟩ := ho
  obtain ⟨n, hsq, hi0, hin⟩ := hs
  rcases hR.arr (t := 0) hsq with ⟨hq, -, ha8, hn1, hc⟩ | ⟨-, h, -⟩
  · have ha4 : a < 4 := by rcases ho with (⟨-, rfl⟩ | ⟨-, rfl⟩) | ⟨-, rfl⟩ <;> omega
    have fin : ∀ H' : Heap, H'[E.2.1 + (q - 16)]? = some ((arrV (E.2.2.2.2 a) n (pm_ev E.1 hr hi q a)).setSlot i.toNatClampNeg (.int x)) → H'.size = H.size → (∀ z, z ≠ E.2.1 + (q - 16) → H'[z]? = H[z]?) → W p l e R s m args below meth c H' (locs ++ [⟨E.2.1 + (q - 16), i.toNatClampNeg⟩]) (sh.length - n0) (pm_sl sh - s0) Q (F0 m (pc + 1) lsA (st.map (pm_vl E.1))) := by
      intro H' e1 e2 e3
      refine k H' _ lsA hn hs' (hR.ast (v := .inl x) hq hsq ha8 hn1 (fun q' j' hne => ⟨pm_u_ne hne, rfl⟩) ?_ e1 e2 e3) (hS.put e2 e3 (show E.2.1 ≤ E.2.1 + (q - 16) by omega)) hL
      unfold pm_ev
      rw [if_pos ha4, pm_u_at]
      rfl
    have c2 := (hC.2.1 a ha8).1 n (pm_ev E.1 hr hi q a)
    have c3 : (arrV (E.2.2.2.2 a) n (pm_ev E.1 hr hi q a)).vm ≠ .unknown := fun h => by cases h
    have c4 : ¬ (i < 0 ∨ (arrV (E.2.2.2.2 a) n (pm_ev E.1 hr hi q a)).slots.size ≤ i.toNatClampNeg) := by rw [arrV_size]; exact pm_in_of hi0 hin
    rw [had q hq]
    rcases ho with (⟨rfl, rfl⟩ | ⟨rfl, rfl⟩) | ⟨rfl, rfl⟩
    · exact W.iast hx hb hc c2 c3 c4 rfl rfl hd fin
    · have hx : narrow .char (.int x) = .int x := by
        have h1 : (x.toUInt32 % 65536).toInt32 = x := hfit
        rw [← h1]
        exact pk_nc x
      refine W.cast (by assumption) hb hc c2 c3 c4 rfl rfl hd (fun H' e1 e2 e3 => fin H' (by rw [e1, hx]) e2 e3)
    · have hx : narrow .boolean (.int x) = .int x := by
        have h1 : x = 0 ∨ x = 1 := hfit
        rcases h1 with rfl | rfl <;> rfl
      refine W.zast (by assumption) hb hc c2 c3 c4 rfl rfl hd (fun H' e1 e2 e3 => fin H' (by rw [e1, hx]) e2 e3)
  · cases h
end PMH
end
section
/-! ===== what is made, what is called ===== -/
theorem pm_cl_new : ∀ (ci : Nat) (r : vw_C), pm_cl[ci]? = some r → (Cond.instantiable r.1 r.2.2) ∈ pm_ts ∧ (Cond.initialized r.1) ∈ pm_ts ∧ ∀ k, k < r.2.2 → defaultValue (pm_fty ci k) = if pm_fk ci k = 0 then .int 0 else .null
  | 0, _, h => by cases h; exact ⟨pm_w_in (a := 135) (by decide +kernel), pm_w_in (a := 68) (by decide +kernel), by decide +kernel⟩
  | 1, _, h => by cases h; exact ⟨pm_w_in (a := 94) (by decide +kernel), pm_w_in (a := 66) (by decide +kernel), by decide +kernel⟩
  | 2, _, h => by cases h; exact ⟨pm_w_in (a := 237) (by decide +kernel), pm_w_in (a := 71) (by decide +kernel), by decide +kernel⟩
  | 3, _, h => by cases h; exact ⟨pm_w_in (a := 319) (by decide +kernel), pm_w_in (a := 74) (by decide +kernel), by decide +kernel⟩
  | 4, _, h => by cases h; exact ⟨pm_w_in (a := 271) (by decide +kernel), pm_w_in (a := 72) (by decide +kernel), by decide +kernel⟩
  | 5, _, h => by cases h; exact ⟨pm_w_in (a := 291) (by decide +kernel), pm_w_in (a := 73) (by decide +kernel), by decide +kernel⟩
  | 6, _, h => by cases h; exact ⟨pm_w_in (a := 142) (by decide +kernel), pm_w_in (a := 69) (by decide +kernel), by decide +kernel⟩
  | 7, _, h => by cases h; exact ⟨pm_w_in (a := 223) (by decide +kernel), pm_w_in (a := 70) (by decide +kernel), by decide +kernel⟩
  | 8, _, h => by cases h; exact ⟨pm_w_in (a := 101) (by decide +kernel), pm_w_in (a := 67) (by decide +kernel), by decide +kernel⟩
  | 9, _, h => by cases h; exact ⟨pm_w_in (a := 86) (by decide +kernel), pm_w_in (a := 65) (by decide +kernel), by decide +kernel⟩
  | 10, _, h => by cases h; exact ⟨pm_w_in (a := 1016) (by decide +kernel), pm_w_in (a := 75) (by decide +kernel), by decide +kernel⟩
  | n + 11, _, h => by cases h
theorem pm_w_ao {a : Nat} {C : String} {E : pm_E} {L : Nat} {r0 : pm_A} {h0 : pm_B} {U : State} (hC : pm_Cx E L r0 h0 U) (h4 : 4 ≤ a) (h8 : a < 8) (hty : pm_ty a = .object C) : va_AO C U := by
  obtain ⟨g1, g2, g3, g4⟩ := hC.2.2.2.2.2.2.2.2.2.1
  match a, h4, h8 with
  | 4, _, _ => cases hty; exact g1
  | 5, _, _ => cases hty; exact g2
  | 6, _, _ => cases hty; exact g3
  | 7, _, _ => cases hty; exact g4
theorem pm_sl_app (sh : pm_S) (k : pm_K) : pm_sl (sh ++ [k]) = pm_sl sh + pm_ks k := by
  unfold pm_sl
  simp
theorem pm_z_ne {α : Type} {g : Nat → Nat → α} {q q' j : Nat} {v : α} (h : q' ≠ q) : pm_z g q v q' j = g q' j := by unfold pm_z; rw [if_neg h]
theorem pm_z_at {α : Type} {g : Nat → Nat → α} {q j : Nat} {v : α} : pm_z g q v q j = v := by unfold pm_z; rw [if_pos rfl]
section PMC
variable {p : Program} {l : Launch} {e : Env} {R : Room} {s : State} {m : MethodId} {args : Array Value} {below : List Frame} {meth : Method} {c : Code} {Q : State → Prop}
variable {E : pm_E} {L : Nat} {r0 : pm_A} {h0 : pm_B} {own nm : String} {cc : ByteArray} {nL n0 s0 : Nat}
variable {pc len a b f j q : Nat} {ins : Instr} {ls : pm_L} {st : List pm_V} {sh : pm_S} {hr : pm_A} {hi : pm_B} {x y i : Int32} {sw : List (Int32 × Nat)}
theorem pm_s_aast (hX : pm_X p s m args c E L r0 h0 own cc nL) (hd : decode cc pc = .ok (.aastore, 1)) (ha : 4 ≤ a ∧ a < 8 ∧ b < 11) {r : vw_C} (hrr : pm_cl[b]? = some r) (hty : pm_ty a = .object r.1) (hs : pm_aw sh q a i) {v : Nat} (hv : sh[v]? = some (0, b, 0)) (k : pm_KK p l e R s m args below meth c Q E L r0 h0 nL n0 s0 (pc + 1) ls st sh (pm_u hr q i.toNatClampNeg v) hi) : pm_KK p l e R s m args below meth c Q E L r0 h0 nL n0 s0 pc ls (.inr v :: .inl i :: .inr q :: st) sh hr hi := by
  intro H locs lsA hn hs' hR hS hL
  have had := hX.ad
  obtain ⟨hx, hb, hown, hts, hml, hC, hz⟩ := hX
  show W p l e R s m args below meth c H locs (sh.length - n0) (pm_sl sh - s0) Q (F0 m pc lsA (E.1 v :: .int i :: E.1 q :: st.map (pm_vl E.1)))
  obtain ⟨n, hsq, hi0, hin⟩ := hs
  rcases hR.arr (t := 0) hsq with ⟨hq, -, ha8, hn1, hc⟩ | ⟨-, h, -⟩
  · obtain ⟨hqv, r', hr', cellV, g1, g2, g3, -⟩ := hR.obj hv (by omega) (by omega)
    have hcls := (hC.1 b r hrr).2
    have hra := (hC.2.1 a ha8).2
    rw [hty] at hra
    obtain ⟨kA, comp, k1, k2, k3, -⟩ := hra
    have hcomp : comp = E.2.2.1 b := Option.some.inj (k3.symm.trans hcls.1)
    subst hcomp
    obtain ⟨kC, hkC, -⟩ := hcls.2
    rw [had q hq, had v hqv]
    refine W.aast hx hb hc (fun q h => by cases h) (fun h => by cases h) k1 k2 rfl hkC ⟨hi0, by rw [arrV_size]; exact hin⟩ g1 (fun q h => by rw [g3] at h; cases h) (by rw [g2]; exact hkC) (by rw [g2]; exact va_assign hcls) rfl rfl hd fun H' e1 e2 e3 => ?_
    refine k H' _ lsA hn hs' (hR.ast (v := .inr v) (j := i.toNatClampNeg) hq hsq ha8 hn1 (fun q' j' hne => ⟨rfl, pm_u_ne hne⟩) ?_ (by rw [e1]; show _ = some ((arrV _ _ _).setSlot _ (E.1 v)); rw [had v hqv]) e2 e3) (hS.put e2 e3 (show E.2.1 ≤ E.2.1 + (q - 16) by omega)) hL
    unfold pm_ev
    rw [if_neg (by omega), pm_u_at]
    rfl
  · cases h
theorem pm_s_new (hX : pm_X p s m args c E L r0 h0 own cc nL) (hd : decode cc pc = .ok (ins, len)) (ho : pm_k_new own a b len ins = true) (hroom : (sh ++ [((0, a, 0) : pm_K)]).length - n0 ≤ R.cells ∧ pm_sl (sh ++ [((0, a, 0) : pm_K)]) - s0 ≤ R.slots) (k : pm_KK p l e R s m args below meth c Q E L r0 h0 nL n0 s0 (pc + len) ls (.inr sh.length :: st) (sh ++ [((0, a, 0) : pm_K)]) (pm_z hr sh.length 0) (pm_z hi sh.length 0)) : pm_KK p l e R s m args below meth c Q E L r0 h0 nL n0 s0 pc ls st sh hr hi := by
  intro H locs lsA hn hs' hR hS hL
  have had := hX.ad
  have hnu := hX.nu
  obtain ⟨hx, hb, hown, hts, hml, hC, hz⟩ := hX
  have hlen := hR.len
  unfold pm_k_new at ho
  split at ho
  · rw [Bool.and_eq_true, decide_eq_true_eq] at ho
    obtain ⟨⟨rfl, ha⟩, ho⟩ := ho
    split at ho
    · rename_i r hrr
      obtain ⟨w1, w2, w3⟩ := pm_cl_new a r hrr
      have hKn := hC.1 a r hrr
      have hks : pm_ks (0, a, 0) = r.2.2 := by
        show (pm_cl.map (fun r => r.2.2)).getD a 0 = r.2.2
        rw [List.getD_eq_getElem?_getD, List.getElem?_map, hrr]
        rfl
      rw [pm_sl_app, hks, List.length_append] at hroom
      have hk1 : (sh ++ [((0, a, 0) : pm_K)]).length - n0 = (sh.length - n0) + 1 := by rw [List.length_append]; simp; omega
      have hk2 : pm_sl (sh ++ [((0, a, 0) : pm_K)]) - s0 = (pm_sl sh - s0) + r.2.2 := by rw [pm_sl_app, hks]; omega
      refine W.newcK hx hb hown (hts _ (pm_w_in ho)) (hts _ w1) (hts _ w2) rfl hd (by simp at hroom; omega) (by omega) hKn.2.1 rfl fun H1 kC hkC e1 z1 o1 => ?_
      have k := k H1 locs lsA (by rw [List.length_append]; omega) (by rw [pm_sl_app]; omega) (hR.grow (fun q' j hne => ⟨pm_z_ne hne, pm_z_ne hne⟩) z1 o1 ⟨r, hrr, ?_⟩) ⟨Nat.le_trans hS.1 (by omega), fun x h1 h2 => (o1 x (Nat.lt_of_lt_of_le h1 hS.1)).trans (hS.2.1 x h1 h2), hS.2.2⟩ hL
      · rw [hk1, hk2] at k
        have eref : pm_vl E.1 (.inr sh.length) = .ref H.size := by
          show E.1 sh.length = _
          rw [had _ hlen, hR.1]
        have k : W p l e R s m args below meth c H1 locs (sh.length - n0 + 1) (pm_sl sh - s0 + r.2.2) Q (F0 m (pc + 3) lsA (pm_vl E.1 (.inr sh.length) :: st.map (pm_vl E.1))) := k
        rw [eref] at k
        exact k
      · rw [← hR.1]
        refine (u_born (pm_fty a) hts (pm_cl_in a r hrr) hKn hkC e1 (pm_cl_ty a r hrr).1).to (fun j hj => ?_)
        rw [w3 j hj]
        have h3 := pm_fk_lt a j
        by_cases h0 : pm_fk a j = 0
        · rw [if_pos h0, pm_fv_0 h0, pm_z_at]
        · rw [if_neg h0]
          by_cases h1 : pm_fk a j = 1
          · rw [pm_fv_1 h1, pm_z_at, hnu]
          · rw [pm_fv_2 (by omega), pm_z_at]
            exact hnu.symm
    · cases ho
  · cases ho
theorem pm_s_newa (hX : pm_X p s m args c E L r0 h0 own cc nL) (hd : decode cc pc = .ok (ins, len)) (ho : pm_k_newa own a b len ins = true) (hn0 : ¬ (x < 0 ∨ 100000 ≤ x.toNatClampNeg)) (hroom : (sh ++ [((1, a, x.toNatClampNeg) : pm_K)]).length - n0 ≤ R.cells ∧ pm_sl (sh ++ [((1, a, x.toNatClampNeg) : pm_K)]) - s0 ≤ R.slots)
    (k : pm_KK p l e R s m args below meth c Q E L r0 h0 nL n0 s0 (pc + len) ls (.inr sh.length :: st) (sh ++ [((1, a, x.toNatClampNeg) : pm_K)]) (pm_z hr sh.length 0) (pm_z hi sh.length 0)) : pm_KK p l e R s m args below meth c Q E L r0 h0 nL n0 s0 pc ls (.inl x :: st) sh hr hi := by
  intro H locs lsA hn hs' hR hS hL
  have had := hX.ad
  have hnu := hX.nu
  obtain ⟨hx, hb, hown, hts, hml, hC, hz⟩ := hX
  have hlen := hR.len
  have hx0 : ¬ x < 0 := fun h => hn0 (Or.inl h)
  have hx1 : x.toNatClampNeg < 100000 := by
    by_cases h : x.toNatClampNeg < 100000
    · exact h
    · exact absurd (Or.inr (by omega)) hn0
  have hks : pm_ks (1, a, x.toNatClampNeg) = x.toNatClampNeg := rfl
  rw [pm_sl_app, hks, List.length_append] at hroom
  have hr1 : sh.length - n0 + 1 ≤ R.cells := by simp at hroom; omega
  have hr2 : pm_sl sh - s0 + x.toNatClampNeg ≤ R.slots := by omega
  have hk1 : (sh ++ [((1, a, x.toNatClampNeg) : pm_K)]).length - n0 = (sh.length - n0) + 1 := by rw [List.length_append]; simp; omega
  have hk2 : pm_sl (sh ++ [((1, a, x.toNatClampNeg) : pm_K)]) - s0 = (pm_sl sh - s0) + x.toNatClampNeg := by rw [pm_sl_app, hks]; omega
  have eref : pm_vl E.1 (.inr sh.length) = .ref H.size := by
    show E.1 sh.length = _
    rw [had _ hlen, hR.1]
  have fin : ∀ (H1 : Heap), a < 8 → H1[H.size]? = some (arrV (E.2.2.2.2 a) x.toNatClampNeg (fun _ => if a < 4 then .int 0 else .null)) → H1.size = H.size + 1 → (∀ z, z < H.size → H1[z]? = H[z]?) → W p l e R s m args below meth c H1 locs (sh.length - n0 + 1) (pm_sl sh - s0 + x.toNatClampNeg) Q (F0 m (pc + len) lsA (.ref H.size :: st.map (pm_vl E.1))) := by
    intro H1 ha8 e1 z1 o1
    have k := k H1 locs lsA (by rw [List.length_append]; omega) (by rw [pm_sl_app]; omega) (hR.grow (fun q' j hne => ⟨pm_z_ne hne, pm_z_ne hne⟩) z1 o1 ⟨ha8, hx1, ?_⟩) ⟨Nat.le_trans hS.1 (by omega), fun x h1 h2 => (o1 x (Nat.lt_of_lt_of_le h1 hS.1)).trans (hS.2.1 x h1 h2), hS.2.2⟩ hL
    · rw [hk1, hk2] at k
      have k : W p l e R s m args below meth c H1 locs (sh.length - n0 + 1) (pm_sl sh - s0 + x.toNatClampNeg) Q (F0 m (pc + len) lsA (pm_vl E.1 (.inr sh.length) :: st.map (pm_vl E.1))) := k
      rw [eref] at k
      exact k
    · rw [← hR.1, e1]
      congr 2
      funext j
      unfold pm_ev
      rw [pm_z_at, pm_z_at, hnu]
  have hcls : ∀ {ti : Nat} {cA : ClassId}, ti < 4 → s.vm.findClass ("[" ++ (pm_ty ti).toString) = some cA → cA = E.2.2.2.2 ti := by
    intro ti cA h4 h
    have h2 := (hC.2.1 ti (by omega)).2
    match ti, h4 with
    | 0, _ => exact Option.some.inj (h.symm.trans h2)
    | 1, _ => exact Option.some.inj (h.symm.trans h2)
    | 2, _ => exact Option.some.inj (h.symm.trans h2)
    | 3, _ => exact Option.some.inj (h.symm.trans h2)
  show W p l e R s m args below meth c H locs (sh.length - n0) (pm_sl sh - s0) Q (F0 m pc lsA (.int x :: st.map (pm_vl E.1)))
  unfold pm_k_newa at ho
  split at ho
  · rw [Bool.and_eq_true, decide_eq_true_eq] at ho
    obtain ⟨⟨rfl, rfl⟩, ho⟩ := ho
    refine va_newaK (atype := .int) hx hb (hts _ (pm_w_in ho)) rfl hd rfl hx0 rfl (by show x.toNatClampNeg * 4 ≤ _; omega) hr1 hr2 rfl fun H1 cA e1 z1 o1 hAr hNm => ?_
    rw [hcls (ti := 0) (by omega) hNm] at e1
    exact fin H1 (by omega) e1 z1 o1
  · rw [Bool.and_eq_true, decide_eq_true_eq] at ho
    obtain ⟨⟨rfl, rfl⟩, ho⟩ := ho
    refine va_newaK (atype := .char) hx hb (hts _ (pm_w_in ho)) rfl hd rfl hx0 rfl (by show x.toNatClampNeg * 2 ≤ _; omega) hr1 hr2 rfl fun H1 cA e1 z1 o1 hAr hNm => ?_
    rw [hcls (ti := 2) (by omega) hNm] at e1
    exact fin H1 (by omega) e1 z1 o1
  · rw [Bool.and_eq_true, decide_eq_true_eq] at ho
    obtain ⟨⟨rfl, rfl⟩, ho⟩ := ho
    refine va_newaK (atype := .boolean) hx hb (hts _ (pm_w_in ho)) rfl hd rfl hx0 rfl (by show x.toNatClampNeg * 1 ≤ _; omega) hr1 hr2 rfl fun H1 cA e1 z1 o1 hAr hNm => ?_
    rw [hcls (ti := 3) (by omega) hNm] at e1
    exact fin H1 (by omega) e1 z1 o1
  · rw [Bool.and_eq_true, decide_eq_true_eq] at ho
    obtain ⟨⟨h4, h8, rfl⟩, ho⟩ := ho
    split at ho
    · rename_i C hty
      refine W.anew hx hb hown (hts _ (pm_w_in ho)) (va_AO.use (pm_w_ao hC h4 h8 hty)) rfl hd rfl hx0 (by omega) hr1 hr2 fun cA kA comp h1 h2 h3 h5 => ?_
      have hra := (hC.2.1 a h8).2
      rw [hty] at hra
      obtain ⟨kA', comp', k1, k2, k3, k4⟩ := hra
      have hcA : cA = E.2.2.2.2 a := Option.some.inj (h1.symm.trans k4)
      subst hcA
      refine fin _ h8 ?_ (by simp) (fun z hz => by rw [Array.getElem?_push, if_neg (Nat.ne_of_lt hz)])
      rw [arrV_new, show (fun _ : Nat => if a < 4 then Value.int 0 else Value.null) = fun _ => Value.null from funext fun _ => if_neg (by omega)]
      simp
    · cases ho
  · cases ho
theorem pm_s_copy (hX : pm_X p s m args c E L r0 h0 own cc nL) (hd : decode cc pc = .ok (.invokestatic a, 3)) (hl : pm_w b (.methodLink own a arraycopyName) = true) {d : Nat} {sp dp n : Int32} (hc : pm_cpy sh q d sp dp n) (hst : st.length ≤ 8) (hroom : 1 ≤ R.frames ∧ 100 ≤ R.locals)
    (k : pm_KK p l e R s m args below meth c Q E L r0 h0 nL n0 s0 (pc + 3) ls st sh hr (pm_cp hi q sp.toNatClampNeg d dp.toNatClampNeg n.toNatClampNeg)) : pm_KK p l e R s m args below meth c Q E L r0 h0 nL n0 s0 pc ls (.inl n :: .inl dp :: .inr d :: .inl sp :: .inr q :: st) sh hr hi := by
  intro H locs lsA hn hs' hR hS hL
  have had := hX.ad
  have hrf := hX.rf
  obtain ⟨hx, hb, hown, hts, hml, hC, hz⟩ := hX
  obtain ⟨m1, m2, hs1, hs2, h1, h2, h3, h4, h5⟩ := hc
  rcases hR.arr (t := 0) hs1 with ⟨hq, -, -, hm1, hc0⟩ | ⟨-, h, -⟩
  case inr => cases h
  rcases hR.arr (t := 0) hs2 with ⟨hqd, -, -, hm2, hc1⟩ | ⟨-, h, -⟩
  case inr => cases h
  show W p l e R s m args below meth c H locs (sh.length - n0) (pm_sl sh - s0) Q (F0 m pc lsA (.int n :: .int dp :: E.1 d :: .int sp :: E.1 q :: st.map (pm_vl E.1)))
  rw [had q hq, had d hqd]
  have nn : ∀ z : Int32, ¬ z < 0 → z.toInt = (z.toNatClampNeg : Int) := by
    intro z hz
    have hz0 : (0 : Int) ≤ z.toInt := by
      have := Int32.not_lt.mp hz
      simpa using Int32.le_iff_toInt_le.mp this
    show z.toInt = ((z.toInt.toNat : Nat) : Int)
    omega
  have ev : ∀ q', pm_ev E.1 hr hi q' 0 = fun j => .int (hi q' j) := fun q' => funext fun j => by unfold pm_ev; rw [if_pos (by omega)]
  rw [ev] at hc0 hc1
  have hc0 : H[E.2.1 + (q - 16)]? = some (vp_cell (E.2.2.2.2 0) (m1, .inl (hi q))) := hc0
  have hc1 : H[E.2.1 + (d - 16)]? = some (vp_cell (E.2.2.2.2 0) (m2, .inl (hi d))) := hc1
  intro T hT X
  obtain ⟨-, k0, hk0, cm0, hkk0⟩ := (hC.2.1 0 (by omega)).1 m1 (fun j => .int (hi q j))
  obtain ⟨-, k1, hk1, cm1, hkk1⟩ := (hC.2.1 0 (by omega)).1 m2 (fun j => .int (hi d j))
  have hsum : ((st.map (pm_vl E.1)).map fun v => v.category).sum ≤ 8 := by
    have : ∀ l : List pm_V, ((l.map (pm_vl E.1)).map fun v => v.category).sum = l.length := by
      intro l
      induction l with
      | nil => rfl
      | cons a l ih => simp only [List.map_cons, List.sum_cons, List.length_cons, ih, pm_cat hrf a]; omega
    rw [this]
    exact hst
  have hnat : nativeFrameWords "java/lang/System" "arraycopy" 5 = 7 := by decide +kernel
  obtain ⟨vm', X', step⟩ := X.arraycopy hx hown (hts _ (pm_w_in hl)) (hts (.native arraycopyName) (pm_w_in (a := 962) (by decide +kernel))) (hts (.static arraycopyName) (pm_w_in (a := 961) (by decide +kernel))) (hts (.initialized "java/lang/System") (pm_w_in (a := 84) (by decide +kernel))) (src := E.2.1 + (q - 16)) (dst := E.2.1 + (d - 16)) (cs := vp_cell (E.2.2.2.2 0) (m1, .inl (hi q))) (cd := vp_cell (E.2.2.2.2 0) (m2, .inl (hi d))) (srcPos := sp) (destPos := dp) (n := n) (by rw [hT]; exact hc0) (by rw [hT]; exact hc1)
    (fun _ h => by cases h) (fun _ h => by cases h) (fun h => by cases h) (fun h => by cases h) hk0 hk1 hkk0 hkk1 (by simp [refKind, pm_ty]) h1 h2 h3
    (by rw [nn sp h1, nn n h3]; show ¬ _ > ((arrV (E.2.2.2.2 0) m1 (fun j => .int (hi q j))).slots.size : Int); rw [arrV_size]; omega)
    (by rw [nn dp h2, nn n h3]; show ¬ _ > ((arrV (E.2.2.2.2 0) m2 (fun j => .int (hi d j))).slots.size : Int); rw [arrV_size]; omega)
    (fun vm₁ _ i hi' => by
      have e : (vp_cell (E.2.2.2.2 0) (m1, .inl (hi q))).slots.getD (sp.toNatClampNeg + i) .null = .int (hi q (sp.toNatClampNeg + i)) := by
        show (arrV (E.2.2.2.2 0) m1 (fun j => .int (hi q j))).slots.getD _ _ = _
        rw [Array.getD_eq_getD_getElem?, arrV_read _ _ (by omega)]
        rfl
      refine ⟨?_, ?_⟩
      · rw [e]
        rfl
      · rw [e]
        exact trivial)
    (g := F0 m pc lsA (.int n :: .int dp :: .ref (E.2.1 + (d - 16)) :: .int sp :: .ref (E.2.1 + (q - 16)) :: st.map (pm_vl E.1))) rfl (by rw [hml, hL.2.1]) (rest := st.map (pm_vl E.1)) rfl (by rw [hb]; exact hd) hroom.1 (by show 2 * 0 + _ + (nativeFrameWords "java/lang/System" "arraycopy" 5 + 11) ≤ _; rw [hnat]; omega)
  have e1 : copied (vp_cell (E.2.2.2.2 0) (m1, .inl (hi q))) (vp_cell (E.2.2.2.2 0) (m2, .inl (hi d))) sp dp n = vp_cell (E.2.2.2.2 0) (m2, .inl (va_cpy (hi q) (hi d) sp.toNatClampNeg dp.toNatClampNeg n.toNatClampNeg)) := va_copied (fun z => .int z) (E.2.2.2.2 0) (E.2.2.2.2 0) (hi q) (hi d) h4
  rw [e1] at X' step
  have hl2 : E.2.1 + (d - 16) < H.size := (Array.getElem?_eq_some_iff.mp hc1).1
  have hheap : ((T.setVm vm').setCell (E.2.1 + (d - 16)) (vp_cell (E.2.2.2.2 0) (m2, .inl (va_cpy (hi q) (hi d) sp.toNatClampNeg dp.toNatClampNeg n.toNatClampNeg)))).heap = H.setIfInBounds (E.2.1 + (d - 16)) (vp_cell (E.2.2.2.2 0) (m2, .inl (va_cpy (hi q) (hi d) sp.toNatClampNeg dp.toNatClampNeg n.toNatClampNeg))) := by rw [← hT]; rfl
  have oq : ∀ z : Nat, z ≠ E.2.1 + (d - 16) → (H.setIfInBounds (E.2.1 + (d - 16)) (vp_cell (E.2.2.2.2 0) (m2, .inl (va_cpy (hi q) (hi d) sp.toNatClampNeg dp.toNatClampNeg n.toNatClampNeg))))[z]? = H[z]? := fun z hz => by simp [Array.getElem?_setIfInBounds, Ne.symm hz]
  have hnew : (H.setIfInBounds (E.2.1 + (d - 16)) (vp_cell (E.2.2.2.2 0) (m2, .inl (va_cpy (hi q) (hi d) sp.toNatClampNeg dp.toNatClampNeg n.toNatClampNeg))))[E.2.1 + (d - 16)]? = some (arrV (E.2.2.2.2 0) m2 (pm_ev E.1 hr (pm_cp hi q sp.toNatClampNeg d dp.toNatClampNeg n.toNatClampNeg) d 0)) := by
    rw [Array.getElem?_setIfInBounds, if_pos rfl, if_pos hl2, vp_cell_i]
    congr 2
    funext j
    rw [show pm_ev E.1 hr (pm_cp hi q sp.toNatClampNeg d dp.toNatClampNeg n.toNatClampNeg) d 0 j = .int (pm_cp hi q sp.toNatClampNeg d dp.toNatClampNeg n.toNatClampNeg d j) from if_pos (by omega)]
    congr 1
    unfold pm_cp va_cpy
    by_cases hj : dp.toNatClampNeg ≤ j ∧ j < dp.toNatClampNeg + n.toNatClampNeg
    · rw [if_pos hj, if_pos ⟨rfl, hj⟩]
    · rw [if_neg hj, if_neg (fun z => hj z.2)]
  obtain ⟨t, a1, b1⟩ := k _ _ lsA hn hs' (hR.upd hqd hs2 (fun q' j hne => ⟨by unfold pm_cp; rw [if_neg (fun z => hne z.1)], rfl⟩) (by simp) oq ⟨by omega, hm2, hnew⟩) ⟨by simp; exact hS.1, fun z g1 g2 => by
      rw [oq z (fun e => g2 (by rw [e]; show E.2.1 ≤ _; omega))]
      exact hS.2.1 z g1 g2, fun z hz => by
      rcases List.mem_append.mp hz with h | h
      · exact hS.2.2 z h
      · obtain ⟨u, -, hu⟩ := List.mem_map.mp h
        rw [← hu]
        show E.2.1 ≤ E.2.1 + (d - 16)
        omega⟩ hL _ hheap X'
  exact ⟨t, step t a1, b1⟩
end PMC
end
section
/-! ===== THE PLAIN MACHINE'S RUNS ARE THE MACHINE'S ===== -/
def pm_Pc (E : pm_E) (L : Nat) (r0 : pm_A) (h0 : pm_B) (av : List pm_V) (sh : pm_S) (hr : pm_A) (hi : pm_B) : Array Value → State → Prop := fun a U => a = (av.map (pm_vl E.1)).toArray ∧ pm_Cx E L r0 h0 U ∧ pm_R E L r0 h0 sh hr hi U.heap
def pm_Qc (E : pm_E) (L : Nat) (r0 : pm_A) (h0 : pm_B) (v : Option pm_V) (sh : pm_S) (hr : pm_A) (hi : pm_B) : Array Value → State → Outcome → State → Prop := fun _ st oc t => oc = .returned (v.map (pm_vl E.1)) ∧ pm_R E L r0 h0 sh hr hi t.heap ∧ va_F (pm_Af E) st t
def pm_rm (d mc ms : Nat) : Room := { frames := d + 1, cells := mc, slots := ms, locals := 40 * d + 100 }
def pm_Met (l : Launch) (E : pm_E) (L : Nat) (r0 : pm_A) (h0 : pm_B) (M : pm_M) (d : Nat) (av : List pm_V) (sh : pm_S) (hr : pm_A) (hi : pm_B) (v : Option pm_V) (sh' : pm_S) (hr' : pm_A) (hi' : pm_B) : Prop :=
  Met l M.1 (Cond.code M.1 M.2.1 M.2.2.1 M.2.2.2.1 :: pm_ts) (pm_rm d (sh'.length - sh.length) (pm_sl sh' - pm_sl sh)) (pm_Pc E L r0 h0 av sh hr hi) (pm_Qc E L r0 h0 v sh' hr' hi') (sh'.length - sh.length) (pm_sl sh' - pm_sl sh) (pm_Af E)
def pm_mokb (M : pm_M) : Bool := match M with
  | (y, bytes, maxL, ret, cw, iw, kw, lw, stt) => pm_w cw (.code y bytes maxL ret) && pm_w iw (.initialized y.cls) && (bif stt then pm_w kw (.static y) else pm_w kw (.instanceMethod y) && (bif decide (y.name = "<init>") then decide (ret = none) else pm_w lw (.selects y.cls y y))) && decide (y.cls ≠ "java/lang/invoke/MethodHandle" ∧ y.cls ≠ "java/lang/invoke/VarHandle" ∧ maxL ≤ 21) && plainName y.cls
theorem hsz_cells {n0 a b : Nat} (h : n0 ≤ a) (h2 : a ≤ b) : b - n0 = a - n0 + (b - a) := by omega
theorem pm_ts_good : GoodIn pm_ts pm_ts := fun w hw => ⟨hw, good_of_word (List.mem_filter.mp hw).2⟩
theorem pm_code_good {y : MethodName} {bytes : ByteArray} {maxL : Nat} {ret : Option FieldType} (h : Cond.code y bytes maxL ret ∈ pm_ts) : GoodIn pm_ts (Cond.code y bytes maxL ret :: pm_ts) := fun w hw => by
  rcases List.mem_cons.mp hw with rfl | hw
  · exact pm_ts_good _ h
  · exact pm_ts_good w hw
theorem pm_blind {E : pm_E} {L : Nat} {r0 : pm_A} {h0 : pm_B} {av : List pm_V} {sh : pm_S} {hr : pm_A} {hi : pm_B} : FrameBlind (pm_Pc E L r0 h0 av sh hr hi) := fun _ _ _ _ h => ⟨h.1, h.2.1.same rfl rfl, h.2.2⟩
section PMM
variable {p : Program} {l : Launch} {e : Env} {R : Room} {s : State} {m : MethodId} {args : Array Value} {below : List Frame} {meth : Method} {c : Code} {Q : State → Prop}
variable {E : pm_E} {L : Nat} {r0 : pm_A} {h0 : pm_B} {own nm : String} {cc : ByteArray} {nL n0 s0 : Nat}
variable {pc len a b f j q : Nat} {ins : Instr} {ls : pm_L} {st : List pm_V} {sh : pm_S} {hr : pm_A} {hi : pm_B} {x y i : Int32} {sw : List (Int32 × Nat)}
theorem pm_callW {lsA : Array Slot} {H : Heap} {locs : List Loc} {cells slots mc ms : Nat} {st0 rest : List Value} {av : Array Value} {v : Option pm_V} {sh' : pm_S} {hr' : pm_A} {hi' : pm_B} (hr : va_Run p l e R s m args below meth c H locs cells slots mc ms (F0 m pc lsA st0) rest (pm_Qc E L r0 h0 v sh' hr' hi' av) (pm_Af E)) (hS : va_S (pm_Af E) s.heap H locs)
    (kk : ∀ (H1 : Heap) (locs1 : List Loc), pm_R E L r0 h0 sh' hr' hi' H1 → va_S (pm_Af E) s.heap H1 locs1 → W p l e R s m args below meth c H1 locs1 (cells + mc) (slots + ms) Q (F0 m (pc + 3) lsA ((v.map (pm_vl E.1)).toList ++ rest))) : W p l e R s m args below meth c H locs cells slots Q (F0 m pc lsA st0) := by
  intro T hT X
  obtain ⟨w, st₀, t, T', LL, g0, X', hL, e1, e2, ⟨hv, hb, hz, hk⟩, st⟩ := hr T hT X
  cases hv
  rw [g0] at hz hk
  obtain ⟨t2, a1, b1⟩ := kk T'.heap (locs ++ LL) (by rw [e1]; exact hb)
    ⟨Nat.le_trans hS.1 (by rw [e1]; exact hz), fun q h1 h2 => by rw [e1, hk q (Nat.lt_of_lt_of_le h1 hS.1) h2]; exact hS.2.1 q h1 h2, fun q hq => by
      rcases List.mem_append.mp hq with h | h
      · exact hS.2.2 q h
      · exact hL q h⟩ T' rfl X'
  exact ⟨t2, st t2 a1, b1⟩
theorem pm_sum (hrf : ∀ q, (E.1 q).isRef = true) (l : List pm_V) : ((l.map (pm_vl E.1)).map fun v => v.category).sum = l.length := by
  induction l with
  | nil => rfl
  | cons a l ih => simp only [List.map_cons, List.sum_cons, List.length_cons, ih, pm_cat hrf a]; omega
/-- an object that is called upon -/
theorem pm_recv {H : Heap} {locs : List Loc} {z : Nat} {C : String} (hC : pm_Cx E L r0 h0 s) (hR : pm_R E L r0 h0 sh hr hi H) (hS : va_S (pm_Af E) s.heap H locs) (hs : sh[q]? = some (0, z, 0)) (hz : (match pm_cl[z]? with
      | some r => decide (r.1 = C ∧ z < 11)
      | none => decide (z = 11 ∧ C = "java/lang/String")) = true) : ∃ ad, E.1 q = .ref ad ∧ ∃ cell : Cell, H[ad]? = some cell ∧ cell.vm.isStatics = false ∧ s.vm.findClass C = some cell.cls := by
  split at hz
  · rename_i r hrr
    obtain ⟨rfl, hz⟩ := of_decide_eq_true hz
    obtain ⟨hq, r', hrr', cell, g1, g2, g3, -⟩ := hR.obj hs (by omega) (by omega)
    exact ⟨_, hC.2.2.2.2.2.2.2.2.2.2.2.1 q hq, cell, g1, by rw [g3]; rfl, by rw [g2]; exact (hC.1 z r hrr).2.1⟩
  · obtain ⟨rfl, rfl⟩ := of_decide_eq_true hz
    obtain ⟨hq, hst⟩ := hR.str hs
    obtain ⟨ad, e1, h1, -⟩ := hC.2.2.2.1 q hst
    obtain ⟨cell, g1, g2, g3, -⟩ := h1.kept hS.2.1
    exact ⟨ad, e1, cell, g1, g2, g3⟩
theorem pm_rcv_spec {z : Nat} {av : List pm_V} (h : pm_rcv sh z av = true) : ∃ q tl, av = .inr q :: tl ∧ sh[q]? = some (0, z, 0) := by
  unfold pm_rcv at h
  split at h
  · exact ⟨_, _, rfl, of_decide_eq_true h⟩
  · cases h
set_option maxHeartbeats 1000000 in
theorem pm_s_call (hX : pm_X p s m args c E L r0 h0 own cc nL) {MI : Nat → Option pm_M} {M : pm_M} {k d : Nat} {cv : Int32} {v : Option pm_V} {sh' : pm_S} {hr' : pm_A} {hi' : pm_B} (hMI : MI a = some M) (hmok : pm_mokb M = true) (hd : decode cc pc = .ok (ins, len)) (ho : pm_k_inv MI own k a b cv sw len ins = true)
    (hbl : b ≤ st.length ∧ (st.drop b).length ≤ 8) (hrc : (sw.all fun z => pm_rcv sh z.2 (st.take b).reverse) = true) (hM : pm_Met l E L r0 h0 M d (st.take b).reverse sh hr hi v sh' hr' hi') (hgr : ∃ ext, sh' = sh ++ ext)
    (hroom : sh'.length - n0 ≤ R.cells ∧ pm_sl sh' - s0 ≤ R.slots ∧ d + 2 ≤ R.frames ∧ 40 * d + 140 ≤ R.locals) (kk : pm_KK p l e R s m args below meth c Q E L r0 h0 nL n0 s0 (pc + len) ls (v.toList ++ st.drop b) sh' hr' hi') : pm_KK p l e R s m args below meth c Q E L r0 h0 nL n0 s0 pc ls st sh hr hi := by
  intro H locs lsA hn hs' hR hS hL
  have hrf := hX.rf
  obtain ⟨hx, hb, hown, hts, hml, hC, hz⟩ := hX
  obtain ⟨y, bytes, maxL, ret, cw, iw, kw, lw, stt⟩ := M
  have hg1 : sh.length ≤ sh'.length := by obtain ⟨ext, rfl⟩ := hgr; rw [List.length_append]; omega
  have hg2 : pm_sl sh ≤ pm_sl sh' := by
    obtain ⟨ext, rfl⟩ := hgr
    unfold pm_sl
    rw [List.map_append, List.sum_append]
    omega
  simp only [pm_mokb, Bool.and_eq_true, decide_eq_true_eq] at hmok
  obtain ⟨⟨⟨⟨wc, wi⟩, wk⟩, ⟨wh1, wh2, hmax⟩⟩, wp⟩ := hmok
  have hcl := hsz_cells hn hg1
  have hsl := hsz_cells hs' hg2
  have hf : sh.length - n0 + (sh'.length - sh.length) ≤ R.cells ∧ pm_sl sh - s0 + (pm_sl sh' - pm_sl sh) ≤ R.slots := ⟨by omega, by omega⟩
  have hstk : st.map (pm_vl E.1) = (((st.take b).reverse.map (pm_vl E.1)).reverse) ++ (st.drop b).map (pm_vl E.1) := by
    rw [← List.map_reverse, List.reverse_reverse, ← List.map_append, List.take_append_drop]
  have hPre : ∀ U : State, U.heap = H → s.WarmedH U.vm → pm_Pc E L r0 h0 (st.take b).reverse sh hr hi (((st.take b).reverse.map (pm_vl E.1))).toArray U := fun U hU hW => ⟨rfl, hC.warm hW (fun q h1 h2 => by rw [hU]; exact hS.2.1 q h1 h2), by rw [hU]; exact hR⟩
  have hcw : 2 * (F0 m pc lsA (st.map (pm_vl E.1))).monitorRoom + (((st.drop b).map (pm_vl E.1)).map fun v => v.category).sum ≤ 8 := by
    show 2 * 0 + _ ≤ _
    rw [pm_sum hrf]
    omega
  have hlen : ((st.take b).reverse.map (pm_vl E.1)).length = b := by simp; omega
  have hroomC : (pm_rm d (sh'.length - sh.length) (pm_sl sh' - pm_sl sh)).frames + 1 ≤ R.frames ∧ 8 + (maxL + 11) + (pm_rm d (sh'.length - sh.length) (pm_sl sh' - pm_sl sh)).locals ≤ R.locals := by
    unfold pm_rm
    dsimp only
    omega
  have hGood := pm_code_good (pm_w_in wc)
  have S : CallFix p m c cc nL s args pm_ts own := ⟨hx, hb, hml, hown, hts⟩
  have fin : ∀ {g : List Value → Prop}, va_Run p l e R s m args below meth c H locs (sh.length - n0) (pm_sl sh - s0) (sh'.length - sh.length) (pm_sl sh' - pm_sl sh) (F0 m pc lsA (st.map (pm_vl E.1))) ((st.drop b).map (pm_vl E.1)) (pm_Qc E L r0 h0 v sh' hr' hi' ((st.take b).reverse.map (pm_vl E.1)).toArray) (pm_Af E) → len = 3 → W p l e R s m args below meth c H locs (sh.length - n0) (pm_sl sh - s0) Q (F0 m pc lsA (st.map (pm_vl E.1))) := by
    intro g hrun hl3
    subst hl3
    refine pm_callW hrun hS (fun H1 locs1 hR1 hS1 => ?_)
    have k := kk H1 locs1 lsA (by omega) (by omega) hR1 hS1 hL
    rw [List.map_append, hcl, hsl] at k
    cases v with
    | none => exact k
    | some v => exact k
  unfold pm_k_inv at ho
  rw [hMI] at ho
  dsimp only at ho
  rw [Bool.and_eq_true, decide_eq_true_eq] at ho
  obtain ⟨⟨hl3, -⟩, ho⟩ := ho
  split at ho
  · rename_i ix
    rw [Bool.and_eq_true, Bool.and_eq_true, decide_eq_true_eq, Bool.or_eq_true] at ho
    obtain ⟨⟨hst, hsw, hpar⟩, hlk⟩ := ho
    rw [hst] at wk
    have wk : pm_w kw (.static y) = true := wk
    subst hl3
    rcases hlk with hlk | hlk
    · exact fin (g := fun _ => True) (va_runS S hM ⟨callB_of b hts hGood rfl rfl rfl (hts _ (pm_w_in wi)) (hts _ (pm_w_in hlk)) ⟨wh1, wh2, hpar⟩ hroomC, hts _ (pm_w_in wk)⟩ ⟨pm_blind, hPre⟩ rfl hlen (hL.2.1) hstk hcw hd hf) rfl
    · rw [Bool.or_eq_true, decide_eq_true_eq, decide_eq_true_eq] at hlk
      obtain ⟨nw1, nw2⟩ := hC.2.2.2.2.2.2.2.2.1
      rcases hlk with ⟨rfl, rfl, rfl⟩ | ⟨rfl, rfl, rfl⟩
      · exact fin (g := fun _ => True) (va_runSN S hM ⟨va_cnB b hts hGood rfl rfl rfl nw1 (hts _ (pm_w_in wi)) ⟨wh1, wh2, hpar⟩ hroomC, hts _ (pm_w_in wk), trivial⟩ ⟨pm_blind, hPre⟩ rfl hlen (hL.2.1) hstk hcw hd hf) rfl
      · exact fin (g := fun _ => True) (va_runSN S hM ⟨va_cnB b hts hGood rfl rfl rfl nw2 (hts _ (pm_w_in wi)) ⟨wh1, wh2, hpar⟩ hroomC, hts _ (pm_w_in wk), trivial⟩ ⟨pm_blind, hPre⟩ rfl hlen (hL.2.1) hstk hcw hd hf) rfl
  · rename_i ix
    rw [Bool.and_eq_true, Bool.and_eq_true, Bool.and_eq_true, decide_eq_true_eq] at ho
    obtain ⟨⟨⟨hst, hnini, hpar⟩, hlk⟩, hcls⟩ := ho
    have hst : stt = false := by cases stt <;> first | rfl | cases hst
    subst hst
    have wk : (pm_w kw (.instanceMethod y) && (bif decide (y.name = "<init>") then decide (ret = none) else pm_w lw (.selects y.cls y y))) = true := wk
    rw [Bool.and_eq_true, decide_eq_false hnini] at wk
    have wsel : pm_w lw (.selects y.cls y y) = true := wk.2
    subst hl3
    split at hcls
    · rename_i z
      have hrc : pm_rcv sh z.2 (st.take b).reverse = true := by simpa using hrc
      obtain ⟨q, tl, hav, hsq⟩ := pm_rcv_spec hrc
      obtain ⟨ad, e1, hcell⟩ := pm_recv (C := y.cls) hC hR hS hsq hcls
      have hmapv : (st.take b).reverse.map (pm_vl E.1) = .ref ad :: tl.map (pm_vl E.1) := by
        rw [hav]
        show E.1 q :: _ = _
        rw [e1]
      rw [hmapv] at hstk hPre hlen fin
      have hpar' : (parseMethodDescriptor y.desc).map (fun d => d.parameters.length) = some (tl.map (pm_vl E.1)).length := by
        cases hp : parseMethodDescriptor y.desc with
        | none => rw [hp] at hpar; cases hpar
        | some sig =>
          rw [hp] at hpar
          have h1 : sig.parameters.length + 1 = b := Option.some.inj hpar
          have h2 : (tl.map (pm_vl E.1)).length + 1 = b := hlen
          show some sig.parameters.length = some (tl.map (pm_vl E.1)).length
          congr 1
          omega
      refine fin (g := fun _ => True) (va_runV (As := tl.map (pm_vl E.1)) S hM ⟨callB_of _ hts hGood rfl rfl rfl (hts _ (pm_w_in wi)) (hts _ (pm_w_in hlk)) ⟨wh1, wh2, hpar'⟩ hroomC, hts _ (pm_w_in wk.1), hts _ (pm_w_in wsel)⟩ ⟨pm_blind, hcell, hPre⟩ rfl rfl (hL.2.1) ?_ hcw hd hf) rfl
      show st.map (pm_vl E.1) = _
      rw [hstk]
      simp
    · cases hcls
  · rename_i ix
    rw [Bool.and_eq_true, Bool.and_eq_true, Bool.and_eq_true, decide_eq_true_eq] at ho
    obtain ⟨⟨⟨hst, hini, hpar⟩, hlk⟩, hcls⟩ := ho
    have hst : stt = false := by cases stt <;> first | rfl | cases hst
    subst hst
    have wk : (pm_w kw (.instanceMethod y) && (bif decide (y.name = "<init>") then decide (ret = none) else pm_w lw (.selects y.cls y y))) = true := wk
    rw [Bool.and_eq_true, decide_eq_true hini] at wk
    subst hl3
    split at hcls
    · rename_i z
      have hrc : pm_rcv sh z.2 (st.take b).reverse = true := by simpa using hrc
      obtain ⟨q, tl, hav, hsq⟩ := pm_rcv_spec hrc
      have hcls' : (match pm_cl[z.2]? with
        | some r => decide (r.1 = y.cls ∧ z.2 < 11)
        | none => decide (z.2 = 11 ∧ y.cls = "java/lang/String")) = true := by
        split at hcls
        · rename_i r hrr
          rw [hrr]
          exact hcls
        · cases hcls
      obtain ⟨ad, e1, hcell⟩ := pm_recv (C := y.cls) hC hR hS hsq hcls'
      have hmapv : (st.take b).reverse.map (pm_vl E.1) = .ref ad :: tl.map (pm_vl E.1) := by
        rw [hav]
        show E.1 q :: _ = _
        rw [e1]
      rw [hmapv] at hstk hPre hlen fin
      have hpar' : (parseMethodDescriptor y.desc).map (fun d => d.parameters.length) = some (tl.map (pm_vl E.1)).length := by
        cases hp : parseMethodDescriptor y.desc with
        | none => rw [hp] at hpar; cases hpar
        | some sig =>
          rw [hp] at hpar
          have h1 : sig.parameters.length + 1 = b := Option.some.inj hpar
          have h2 : (tl.map (pm_vl E.1)).length + 1 = b := hlen
          show some sig.parameters.length = some (tl.map (pm_vl E.1)).length
          congr 1
          omega
      have hret : ret = none := of_decide_eq_true wk.2
      subst hret
      refine fin (g := fun _ => True) (va_runI (As := tl.map (pm_vl E.1)) S hM ⟨callB_of _ hts hGood rfl rfl rfl (hts _ (pm_w_in wi)) (hts _ (pm_w_in hlk)) ⟨wh1, wh2, hpar'⟩ hroomC, hini, hts _ (pm_w_in wk.1)⟩ ⟨pm_blind, hPre⟩ rfl rfl (hL.2.1) ?_ hcw hd hf) rfl
      show st.map (pm_vl E.1) = _
      rw [hstk]
      simp
    · cases hcls
  · cases ho
end PMM
end
section
/-! ===== the whole simulation ===== -/
theorem pm_step_grow {call : Nat → List pm_V → pm_S → pm_A → pm_B → pm_O} {k : Nat → pm_L → List pm_V → pm_S → pm_A → pm_B → pm_O} {o : Option pm_V × pm_S × pm_A × pm_B} (hc : ∀ a av sh hr hi v sh' hr' hi', call a av sh hr hi = some (v, sh', hr', hi') → ∃ ext, sh' = sh ++ ext) (hk : ∀ pc ls st sh hr hi, k pc ls st sh hr hi = some o → ∃ ext, o.2.1 = sh ++ ext)
    {r : pm_I} {pc : Nat} {ls : pm_L} {st : List pm_V} {sh : pm_S} {hr : pm_A} {hi : pm_B} (h : pm_step call k r pc ls st sh hr hi = some o) : ∃ ext, o.2.1 = sh ++ ext := by
  obtain ⟨op, len, a, b, c, sw⟩ := r
  have app : ∀ {x : pm_K}, (∃ ext, o.2.1 = (sh ++ [x]) ++ ext) → ∃ ext, o.2.1 = sh ++ ext := fun ⟨ext, h⟩ => ⟨_ :: ext, by rw [h, List.append_assoc]; rfl⟩
  unfold pm_step at h
  dsimp only at h
  split at h <;> (try dsimp only at h)
  all_goals first
    | exact hk _ _ _ _ _ _ h
    | (cases h; done)
    | (cases h; exact ⟨[], (List.append_nil _).symm⟩)
    | exact app (hk _ _ _ _ _ _ h)
    | (split at h <;> first
        | (cases h; done)
        | exact hk _ _ _ _ _ _ h
        | exact app (hk _ _ _ _ _ _ h)
        | (cases h; exact ⟨[], (List.append_nil _).symm⟩)
        | (split at h
           · cases h
           · rename_i hcall
             obtain ⟨e1, g1⟩ := hc _ _ _ _ _ _ _ _ _ hcall
             obtain ⟨e2, g2⟩ := hk _ _ _ _ _ _ h
             exact ⟨e1 ++ e2, by rw [g2, g1, List.append_assoc]⟩))
theorem pm_exec_grow {call : Nat → List pm_V → pm_S → pm_A → pm_B → pm_O} (hc : ∀ a av sh hr hi v sh' hr' hi', call a av sh hr hi = some (v, sh', hr', hi') → ∃ ext, sh' = sh ++ ext) (t : pm_T) : ∀ (n pc : Nat) (ls : pm_L) (st : List pm_V) (sh : pm_S) (hr : pm_A) (hi : pm_B) (o : Option pm_V × pm_S × pm_A × pm_B), pm_exec call t n pc ls st sh hr hi = some o → ∃ ext, o.2.1 = sh ++ ext
  | 0, _, _, _, _, _, _, _, h => by cases h
  | n + 1, pc, ls, st, sh, hr, hi, o, h => by
    unfold pm_exec at h
    split at h
    · cases h
    · exact pm_step_grow hc (fun pc ls st sh hr hi h => pm_exec_grow hc t n pc ls st sh hr hi o h) h
theorem pm_call_grow (G : pm_G) (N : Nat) : ∀ (d a : Nat) (av : List pm_V) (sh : pm_S) (hr : pm_A) (hi : pm_B) (v : Option pm_V) (sh' : pm_S) (hr' : pm_A) (hi' : pm_B), pm_call G N d a av sh hr hi = some (v, sh', hr', hi') → ∃ ext, sh' = sh ++ ext
  | 0, _, _, _, _, _, _, _, _, _, h => by cases h
  | d + 1, a, av, sh, hr, hi, v, sh', hr', hi', h => by
    unfold pm_call at h
    split at h
    · cases h
    · split at h
      · exact pm_exec_grow (pm_call_grow G N d) _ _ _ _ _ _ _ _ _ h
      · cases h
section PMR
variable {p : Program} {l : Launch} {e : Env} {R : Room} {s : State} {m : MethodId} {args : Array Value} {below : List Frame} {meth : Method} {c : Code} {Q : State → Prop}
variable {E : pm_E} {L : Nat} {r0 : pm_A} {h0 : pm_B} {own nm : String} {cc : ByteArray} {nL n0 s0 : Nat}
variable {pc len a b f j q : Nat} {ins : Instr} {ls : pm_L} {st : List pm_V} {sh : pm_S} {hr : pm_A} {hi : pm_B} {x y i : Int32} {sw : List (Int32 × Nat)}
theorem pm_s_simple (hX : pm_X p s m args c E L r0 h0 own cc nL) {st' : List pm_V} (k : pm_KK p l e R s m args below meth c Q E L r0 h0 nL n0 s0 (pc + 1) ls st' sh hr hi) (hw : ∀ (H : Heap) (locs : List Loc) (lsA : Array Slot) (u v : Nat), W p l e R s m args below meth c H locs u v Q (F0 m (pc + 1) lsA (st'.map (pm_vl E.1))) → W p l e R s m args below meth c H locs u v Q (F0 m pc lsA (st.map (pm_vl E.1)))) : pm_KK p l e R s m args below meth c Q E L r0 h0 nL n0 s0 pc ls st sh hr hi :=
  fun H locs lsA hn hs hR hS hL => hw H locs lsA _ _ (k H locs lsA hn hs hR hS hL)
set_option maxHeartbeats 4000000 in
theorem pm_sim_step {call : Nat → List pm_V → pm_S → pm_A → pm_B → pm_O} {kf : Nat → pm_L → List pm_V → pm_S → pm_A → pm_B → pm_O} {MI : Nat → Option pm_M} {r : pm_I} {o : Option pm_V × pm_S × pm_A × pm_B} {ret : Option FieldType} {d : Nat} (hX : pm_X p s m args c E L r0 h0 own cc nL) (hini : nm = "<init>" → meth.name = "<init>") (hmi : ∀ a M, MI a = some M → pm_mokb M = true)
    (hok : pm_okb MI own nm ret cc pc r = true) (hroom : o.2.1.length - n0 ≤ R.cells ∧ pm_sl o.2.1 - s0 ≤ R.slots ∧ d + 2 ≤ R.frames ∧ 40 * d + 140 ≤ R.locals)
    (hcall : ∀ a av sh hr hi v sh' hr' hi', call a av sh hr hi = some (v, sh', hr', hi') → (∃ ext, sh' = sh ++ ext) ∧ ∀ M, MI a = some M → pm_Met l E L r0 h0 M d av sh hr hi v sh' hr' hi')
    (hk : ∀ pc ls st sh hr hi, kf pc ls st sh hr hi = some o → (∃ ext, o.2.1 = sh ++ ext) ∧ pm_KK p l e R s m args below meth c Q E L r0 h0 nL n0 s0 pc ls st sh hr hi)
    (hret : ∀ v, ((∃ x, r.1 = .ireturn ∧ v = some (.inl x) ∧ pm_fib r.2.2.1 x = true) ∨ (∃ q, r.1 = .areturn ∧ v = some (.inr q)) ∨ (r.1 = .return_ ∧ v = none)) → o = (v, sh, hr, hi) → pm_KK p l e R s m args below meth c Q E L r0 h0 nL n0 s0 pc ls v.toList sh hr hi)
    (h : pm_step call kf r pc ls st sh hr hi = some o) : pm_KK p l e R s m args below meth c Q E L r0 h0 nL n0 s0 pc ls st sh hr hi := by
  obtain ⟨op, len, a, b, cv, sw⟩ := r
  have hx := hX.1
  have hb := hX.2.1
  have hrf := hX.rf
  unfold pm_okb at hok
  cases hd : decode cc pc with
  | error _ => rw [hd] at hok; cases hok
  | ok il =>
  rw [hd] at hok
  obtain ⟨ins, n⟩ := il
  dsimp only at hok
  rw [Bool.and_eq_true, decide_eq_true_eq] at hok
  obtain ⟨rfl, hok⟩ := hok
  have room1 : ∀ {k : pm_K}, (∃ ext, o.2.1 = (sh ++ [k]) ++ ext) → (sh ++ [k]).length - n0 ≤ R.cells ∧ pm_sl (sh ++ [k]) - s0 ≤ R.slots := by
    rintro k ⟨ext, he⟩
    rw [he] at hroom
    obtain ⟨g1, g2, -⟩ := hroom
    have e2 : pm_sl ((sh ++ [k]) ++ ext) = pm_sl (sh ++ [k]) + pm_sl ext := by unfold pm_sl; rw [List.map_append, List.sum_append]
    rw [e2] at g2
    rw [List.length_append] at g1
    exact ⟨by omega, by omega⟩
  have room0 : (∃ ext, o.2.1 = sh ++ ext) → sh.length - n0 ≤ R.cells ∧ pm_sl sh - s0 ≤ R.slots := by
    rintro ⟨ext, he⟩
    rw [he] at hroom
    obtain ⟨g1, g2, -⟩ := hroom
    have e2 : pm_sl (sh ++ ext) = pm_sl sh + pm_sl ext := by unfold pm_sl; rw [List.map_append, List.sum_append]
    rw [e2] at g2
    rw [List.length_append] at g1
    exact ⟨by omega, by omega⟩
  unfold pm_step at h
  dsimp only at h
  split at h
  case h_1 =>
    split at h
    · rename_i hl
      exact pm_s_iload hX hd hok hl (hk _ _ _ _ _ _ h).2
    · cases h
  case h_2 =>
    split at h
    · rename_i hl
      exact pm_s_aload hX hd hok hl (hk _ _ _ _ _ _ h).2
    · cases h
  case h_3 =>
    split at h
    · rename_i hl
      exact pm_s_istore hX hd hok hl (hk _ _ _ _ _ _ h).2
    · cases h
  case h_4 =>
    split at h
    · rename_i hl
      exact pm_s_astore hX hd hok hl (hk _ _ _ _ _ _ h).2
    · cases h
  case h_5 =>
    split at h
    · rename_i hl
      dsimp only at hok
      split at hok
      · obtain ⟨rfl, h2, rfl⟩ := of_decide_eq_true hok
        exact pm_s_iinc hX hd h2 hl (hk _ _ _ _ _ _ h).2
      · cases hok
    · cases h
  case h_6 => exact pm_s_cst hX hd hok (hk _ _ _ _ _ _ h).2
  case h_7 => exact pm_s_ref hX hd hok (hk _ _ _ _ _ _ h).2
  case h_8 =>
    obtain ⟨rfl, rfl⟩ := of_decide_eq_true hok
    exact pm_s_simple hX (hk _ _ _ _ _ _ h).2 (fun H locs lsA u v w => lv_dup hx hb hd (pm_cat hrf _) w)
  case h_9 =>
    obtain ⟨rfl, rfl⟩ := of_decide_eq_true hok
    exact pm_s_simple hX (hk _ _ _ _ _ _ h).2 (fun H locs lsA u v w => lv_dup2_11 hx hb hd (pm_cat hrf _) (pm_cat hrf _) w)
  case h_10 =>
    obtain ⟨rfl, rfl⟩ := of_decide_eq_true hok
    exact pm_s_simple hX (hk _ _ _ _ _ _ h).2 (fun H locs lsA u v w => lv_pop hx hb hd (pm_cat hrf _) w)
  case h_11 =>
    obtain ⟨rfl, rfl⟩ := of_decide_eq_true hok
    exact pm_s_simple hX (hk _ _ _ _ _ _ h).2 (fun H locs lsA u v w => lv_iadd hx hb hd w)
  case h_12 =>
    obtain ⟨rfl, rfl⟩ := of_decide_eq_true hok
    exact pm_s_simple hX (hk _ _ _ _ _ _ h).2 (fun H locs lsA u v w => lv_isub hx hb hd w)
  case h_13 =>
    obtain ⟨rfl, rfl⟩ := of_decide_eq_true hok
    exact pm_s_simple hX (hk _ _ _ _ _ _ h).2 (fun H locs lsA u v w => lv_imul hx hb hd w)
  case h_14 =>
    obtain ⟨rfl, rfl⟩ := of_decide_eq_true hok
    exact pm_s_simple hX (hk _ _ _ _ _ _ h).2 (fun H locs lsA u v w => lv_iand hx hb hd w)
  case h_15 =>
    obtain ⟨rfl, rfl⟩ := of_decide_eq_true hok
    exact pm_s_simple hX (hk _ _ _ _ _ _ h).2 (fun H locs lsA u v w => lv_ior hx hb hd w)
  case h_16 =>
    obtain ⟨rfl, rfl⟩ := of_decide_eq_true hok
    exact pm_s_simple hX (hk _ _ _ _ _ _ h).2 (fun H locs lsA u v w => lv_ixor hx hb hd w)
  case h_17 =>
    obtain ⟨rfl, rfl⟩ := of_decide_eq_true hok
    split at h
    · cases h
    · rename_i hy
      exact pm_s_simple hX (hk _ _ _ _ _ _ h).2 (fun H locs lsA u v w => lv_idiv hx hb hd hy w)
  case h_18 =>
    obtain ⟨rfl, rfl⟩ := of_decide_eq_true hok
    split at h
    · cases h
    · rename_i hy
      exact pm_s_simple hX (hk _ _ _ _ _ _ h).2 (fun H locs lsA u v w => lv_irem hx hb hd hy w)
  case h_19 =>
    obtain ⟨rfl, rfl⟩ := of_decide_eq_true hok
    exact pm_s_simple hX (hk _ _ _ _ _ _ h).2 (fun H locs lsA u v w => lv_ineg hx hb hd w)
  case h_20 =>
    obtain ⟨rfl, rfl⟩ := of_decide_eq_true hok
    exact pm_s_simple hX (hk _ _ _ _ _ _ h).2 (fun H locs lsA u v w => lv_ishl hx hb hd w)
  case h_21 =>
    obtain ⟨rfl, rfl⟩ := of_decide_eq_true hok
    exact pm_s_simple hX (hk _ _ _ _ _ _ h).2 (fun H locs lsA u v w => lv_ishr hx hb hd w)
  case h_22 =>
    obtain ⟨rfl, rfl⟩ := of_decide_eq_true hok
    exact pm_s_simple hX (hk _ _ _ _ _ _ h).2 (fun H locs lsA u v w => lv_iushr hx hb hd rfl w)
  case h_23 =>
    obtain ⟨rfl, rfl⟩ := of_decide_eq_true hok
    exact pm_s_simple hX (hk _ _ _ _ _ _ h).2 (fun H locs lsA u v w => lv_i2s hx hb hd rfl w)
  case h_24 =>
    obtain ⟨rfl, rfl⟩ := of_decide_eq_true hok
    exact pm_s_simple hX (hk _ _ _ _ _ _ h).2 (fun H locs lsA u v w => lv_i2b hx hb hd rfl w)
  case h_25 =>
    obtain ⟨rfl, rfl⟩ := of_decide_eq_true hok
    exact pm_s_simple hX (hk _ _ _ _ _ _ h).2 (fun H locs lsA u v w => lv_i2c hx hb hd rfl w)
  case h_26 =>
    dsimp only at hok
    split at hok
    · obtain ⟨rfl, h2, rfl⟩ := of_decide_eq_true hok
      refine pm_s_if hX hd h2 (fun hc => ?_) (fun hc => ?_)
      · rw [if_pos hc] at h
        exact (hk _ _ _ _ _ _ h).2
      · rw [if_neg hc] at h
        exact (hk _ _ _ _ _ _ h).2
    · cases hok
  case h_27 =>
    dsimp only at hok
    split at hok
    · obtain ⟨rfl, h2, rfl⟩ := of_decide_eq_true hok
      refine pm_s_icmp hX hd h2 (fun hc => ?_) (fun hc => ?_)
      · rw [if_pos hc] at h
        exact (hk _ _ _ _ _ _ h).2
      · rw [if_neg hc] at h
        exact (hk _ _ _ _ _ _ h).2
    · cases hok
  case h_28 =>
    dsimp only at hok
    split at hok
    · obtain ⟨h2, rfl⟩ := of_decide_eq_true hok
      have k := (hk _ _ _ _ _ _ h).2
      exact fun H locs lsA hn hs hR hS hL => lv_goto hx hb hd h2 (k H locs lsA hn hs hR hS hL)
    · cases hok
  case h_29 => exact pm_s_sw hX hd hok (hk _ _ _ _ _ _ h).2
  case h_30 =>
    split at h
    · rename_i hs
      exact pm_s_get hX hd hok hs (Or.inl ⟨rfl, rfl⟩) (hk _ _ _ _ _ _ h).2
    · cases h
  case h_31 =>
    split at h
    · rename_i hs
      exact pm_s_get hX hd hok hs (Or.inr (Or.inl ⟨rfl, rfl⟩)) (hk _ _ _ _ _ _ h).2
    · cases h
  case h_32 h30 h31 =>
    split at h
    · rename_i hs
      exact pm_s_get hX hd hok hs (Or.inr (Or.inr ⟨fun z => h30 z, fun z => h31 z, rfl⟩)) (hk _ _ _ _ _ _ h).2
    · cases h
  case h_33 =>
    split at h
    · rename_i hs
      exact pm_s_put hX hini hd hok hs.1 (Or.inl ⟨rfl, ⟨_, rfl, pm_fib_iff.mp hs.2, rfl⟩, rfl⟩) (hk _ _ _ _ _ _ h).2
    · cases h
  case h_34 =>
    split at h
    · rename_i hs
      exact pm_s_put hX hini hd hok hs (Or.inr (Or.inl ⟨rfl, rfl, _, rfl, rfl⟩)) (hk _ _ _ _ _ _ h).2
    · cases h
  case h_35 =>
    split at h
    · rename_i hs
      exact pm_s_put hX hini hd hok hs.1 (Or.inr (Or.inr ⟨by decide, by decide, rfl, _, rfl, hs.2, rfl⟩)) (hk _ _ _ _ _ _ h).2
    · cases h
  case h_36 =>
    split at h
    · rename_i hs
      exact pm_s_iald hX hd hok (pm_aob_iff.mp hs) (hk _ _ _ _ _ _ h).2
    · cases h
  case h_37 =>
    obtain ⟨rfl, rfl, h4, h8⟩ := of_decide_eq_true hok
    split at h
    · rename_i hs
      exact pm_s_aald hX hd ⟨h4, h8⟩ (pm_aob_iff.mp hs) (hk _ _ _ _ _ _ h).2
    · cases h
  case h_38 =>
    split at h
    · rename_i hs
      exact pm_s_iast hX hd hok (pm_awb_iff.mp hs.1) (pm_fib_iff.mp hs.2) (hk _ _ _ _ _ _ h).2
    · cases h
  case h_39 =>
    dsimp only at hok
    rw [Bool.and_eq_true, decide_eq_true_eq] at hok
    obtain ⟨⟨rfl, rfl, h4, h8, hb11⟩, hok⟩ := hok
    split at hok
    · rename_i r hrr
      split at h
      · rename_i hs
        exact pm_s_aast hX hd ⟨h4, h8, hb11⟩ hrr (of_decide_eq_true hok) (pm_awb_iff.mp hs.1) hs.2 (hk _ _ _ _ _ _ h).2
      · cases h
    · cases hok
  case h_40 =>
    obtain ⟨rfl, rfl⟩ := of_decide_eq_true hok
    split at h
    · rename_i hs
      exact pm_s_alen hX hd hs (hk _ _ _ _ _ _ h).2
    · cases h
  case h_41 =>
    split at h
    · cases h
    · rename_i hn
      have k := hk _ _ _ _ _ _ h
      exact pm_s_newa hX hd hok hn (room1 k.1) k.2
  case h_42 =>
    have k := hk _ _ _ _ _ _ h
    exact pm_s_new hX hd hok (room1 k.1) k.2
  case h_43 =>
    split at h
    · rename_i hs
      split at h
      · cases h
      · rename_i v' sh' hr' hi' hcl
        have k := hk _ _ _ _ _ _ h
        obtain ⟨hgr, hM⟩ := hcall _ _ _ _ _ _ _ _ _ hcl
        cases hMI : MI a with
        | none =>
          have hok : pm_k_inv MI own _ a b cv sw n ins = true := hok
          unfold pm_k_inv at hok
          rw [hMI] at hok
          cases hok
        | some M =>
          refine pm_s_call hX hMI (hmi a M hMI) hd hok ⟨hs.1, hs.2.1⟩ hs.2.2 (hM M hMI) hgr ?_ k.2
          obtain ⟨ext, he⟩ := k.1
          obtain ⟨g1, g2, g3⟩ := hroom
          rw [he] at g1 g2
          have e2 : pm_sl (sh' ++ ext) = pm_sl sh' + pm_sl ext := by unfold pm_sl; rw [List.map_append, List.sum_append]
          rw [e2] at g2
          rw [List.length_append] at g1
          exact ⟨by omega, by omega, g3⟩
    · cases h
  case h_44 =>
    split at h
    · rename_i hs
      dsimp only at hok
      split at hok
      · rw [Bool.and_eq_true, decide_eq_true_eq] at hok
        obtain ⟨rfl, hok⟩ := hok
        exact pm_s_copy hX hd hok (pm_cpb_iff.mp hs.1) hs.2 ⟨by omega, by omega⟩ (hk _ _ _ _ _ _ h).2
      · cases hok
    · cases h
  case h_45 =>
    split at h
    · rename_i hs
      cases h
      exact hret (some (.inl _)) (Or.inl ⟨_, rfl, rfl, hs⟩) rfl
    · cases h
  case h_46 =>
    cases h
    exact hret (some (.inr _)) (Or.inr (Or.inl ⟨_, rfl, rfl⟩)) rfl
  case h_47 =>
    cases h
    exact hret none (Or.inr (Or.inr ⟨rfl, rfl⟩)) rfl
  case h_48 =>
    dsimp only at hok
    split at h
    · rename_i hs
      split at hok
      · rw [Bool.and_eq_true, decide_eq_true_eq] at hok
        obtain ⟨rfl, hok⟩ := hok
        have k := hk _ _ _ _ _ _ h
        have hrm := room0 k.1
        intro H locs lsA hn hs2 hR hS hL
        have k := k.2 H locs lsA hn hs2 hR hS hL
        obtain ⟨-, -, hown, hts, hml, hC, hz⟩ := hX
        exact va_mmax hx hb (by rw [hml, hL.2.1]) hown (hts _ (pm_w_in hok)) (hts (.static Lib.Math.max.name) (pm_w_in (a := 440) (by decide +kernel))) (hts (.initialized "java/lang/Math") (pm_w_in (a := 76) (by decide +kernel))) (hts (.code Lib.Math.max.name Lib.Math.max.code 2 (some .int)) (pm_w_in (a := 441) (by decide +kernel))) (by omega) (by rw [pm_sum hrf]; omega) hrm.1 hrm.2 hd k
      · cases hok
    · cases h
  case h_49 =>
    dsimp only at hok
    split at h
    · rename_i hs
      split at hok
      · rw [Bool.and_eq_true, decide_eq_true_eq] at hok
        obtain ⟨rfl, hok⟩ := hok
        have k := hk _ _ _ _ _ _ h
        have hrm := room0 k.1
        intro H locs lsA hn hs2 hR hS hL
        have k := k.2 H locs lsA hn hs2 hR hS hL
        obtain ⟨-, -, hown, hts, hml, hC, hz⟩ := hX
        exact va_mmin hx hb (by rw [hml, hL.2.1]) hown (hts _ (pm_w_in hok)) (hts (.static Lib.Math.min.name) (pm_w_in (a := 437) (by decide +kernel))) (hts (.initialized "java/lang/Math") (pm_w_in (a := 76) (by decide +kernel))) (hts (.code Lib.Math.min.name Lib.Math.min.code 2 (some .int)) (pm_w_in (a := 438) (by decide +kernel))) (by omega) (by rw [pm_sum hrf]; omega) hrm.1 hrm.2 hd k
      · cases hok
    · cases h
  case h_50 =>
    dsimp only at hok
    split at h
    · rename_i hs
      split at hok
      · rw [Bool.and_eq_true, decide_eq_true_eq] at hok
        obtain ⟨⟨rfl, hb11⟩, hok⟩ := hok
        have k := (hk _ _ _ _ _ _ h).2
        intro H locs lsA hn hs2 hR hS hL
        obtain ⟨hq, -⟩ := hR.obj hs.1 (by omega) (by omega)
        have k := k H locs lsA hn hs2 hR hS hL
        have had := hX.ad
        obtain ⟨-, -, hown, hts, hml, hC, hz⟩ := hX
        have hsum := pm_sum hrf (E := E)
        show W p l e R s m args below meth c H locs (sh.length - n0) (pm_sl sh - s0) Q (F0 m pc lsA (E.1 _ :: _))
        rw [had _ hq]
        refine W.objInit hx hb hown (hts _ (pm_w_in hok)) (hts (.instanceMethod objectInit) (pm_w_in (a := 91) (by decide +kernel))) (hts (.code objectInit ⟨#[0xb1]⟩ 1 none) (pm_w_in (a := 92) (by decide +kernel))) rfl (by rw [hml]; exact hL.2.1) rfl hd (by omega) ?_ k
        show 2 * 0 + _ + 12 ≤ _
        rw [pm_sum hrf]
        omega
      · cases hok
    · cases h
  case h_51 => cases h
end PMR
end
section
/-! ===== runs and calls ===== -/
section PMX
variable {p : Program} {l : Launch} {e : Env} {R : Room} {s : State} {m : MethodId} {args : Array Value} {below : List Frame} {meth : Method} {c : Code} {Q : State → Prop}
variable {E : pm_E} {L : Nat} {r0 : pm_A} {h0 : pm_B} {own nm : String} {cc : ByteArray} {nL n0 s0 : Nat}
/-- the shapes of an end -/
def pm_rt (r : pm_I) (v : Option pm_V) : Prop := (∃ x, r.1 = .ireturn ∧ v = some (.inl x) ∧ pm_fib r.2.2.1 x = true) ∨ (∃ q, r.1 = .areturn ∧ v = some (.inr q)) ∨ (r.1 = .return_ ∧ v = none)
theorem pm_sim_exec {call : Nat → List pm_V → pm_S → pm_A → pm_B → pm_O} {MI : Nat → Option pm_M} {t : pm_T} {o : Option pm_V × pm_S × pm_A × pm_B} {ret : Option FieldType} {d : Nat} (hX : pm_X p s m args c E L r0 h0 own cc nL) (hini : nm = "<init>" → meth.name = "<init>") (hmi : ∀ a M, MI a = some M → pm_mokb M = true)
    (hrows : ∀ pc r, pm_at t pc = some r → pm_okb MI own nm ret cc pc r = true) (hroom : o.2.1.length - n0 ≤ R.cells ∧ pm_sl o.2.1 - s0 ≤ R.slots ∧ d + 2 ≤ R.frames ∧ 40 * d + 140 ≤ R.locals)
    (hcall : ∀ a av sh hr hi v sh' hr' hi', call a av sh hr hi = some (v, sh', hr', hi') → (∃ ext, sh' = sh ++ ext) ∧ ∀ M, MI a = some M → pm_Met l E L r0 h0 M d av sh hr hi v sh' hr' hi')
    (hret : ∀ pc r ls v sh hr hi, pm_at t pc = some r → pm_rt r v → o = (v, sh, hr, hi) → pm_KK p l e R s m args below meth c Q E L r0 h0 nL n0 s0 pc ls v.toList sh hr hi) :
    ∀ (n pc : Nat) (ls : pm_L) (st : List pm_V) (sh : pm_S) (hr : pm_A) (hi : pm_B), pm_exec call t n pc ls st sh hr hi = some o → pm_KK p l e R s m args below meth c Q E L r0 h0 nL n0 s0 pc ls st sh hr hi
  | 0, _, _, _, _, _, _, h => by cases h
  | n + 1, pc, ls, st, sh, hr, hi, h => by
    unfold pm_exec at h
    split at h
    · cases h
    · rename_i r he
      exact pm_sim_step hX hini hmi (hrows pc r he) hroom hcall (fun pc ls st sh hr hi h => ⟨pm_exec_grow (fun a av sh hr hi v sh' hr' hi' h => (hcall a av sh hr hi v sh' hr' hi' h).1) t n pc ls st sh hr hi o h, pm_sim_exec hX hini hmi hrows hroom hcall hret n pc ls st sh hr hi h⟩) (fun v h1 h2 => hret pc r ls v sh hr hi he h1 h2) h
end PMX
theorem pm_lg_sl {vl : pm_N} (hvl : ∀ q, (vl q).isRef = true) : ∀ (av : List pm_V), lg_sl (av.map (pm_vl vl)) = av.map (fun v => Slot.val (pm_vl vl v))
  | [] => rfl
  | v :: av => by
    have ih := pm_lg_sl hvl av
    unfold lg_sl at ih ⊢
    rw [List.map_cons, List.flatMap_cons, ih, if_neg (by rw [pm_cat hvl v]; decide)]
    rfl
theorem pm_LR_ent {vl : pm_N} (hvl : ∀ q, (vl q).isRef = true) {av : List pm_V} {maxL : Nat} (h : av.length ≤ maxL) : pm_LR vl maxL (pm_ent maxL av) ((lg_sl (av.map (pm_vl vl)) ++ List.replicate (maxL - (lg_sl (av.map (pm_vl vl))).length) Slot.unset).toArray) := by
  have hsl := pm_lg_sl hvl av
  have h1 := lv_entry (av.map (pm_vl vl)) (n := maxL) (by rw [hsl, List.length_map]; exact h)
  refine ⟨by unfold pm_ent; rw [List.length_append, List.length_map, List.length_replicate]; omega, h1.1, h1.2.1, ?_⟩
  rintro ⟨j, w⟩ hj
  obtain ⟨v, hv, rfl⟩ := pm_lv_mem.mp hj
  unfold pm_ent at hv
  have hlt : j < av.length := by
    by_cases hlt : j < av.length
    · exact hlt
    · rw [List.getElem?_append_right (by rw [List.length_map]; omega)] at hv
      rw [List.getElem?_replicate] at hv
      split at hv <;> cases hv
  rw [List.getElem?_append_left (by rw [List.length_map]; exact hlt), List.getElem?_map] at hv
  cases ha : av[j]? with
  | none => rw [ha] at hv; cases hv
  | some u =>
    rw [ha] at hv
    have hu : u = v := Option.some.inj (Option.some.inj hv)
    subst hu
    rw [List.getElem?_toArray, List.getElem?_append_left (by rw [hsl, List.length_map]; exact hlt), hsl, List.getElem?_map, ha]
    rfl
theorem pm_narrow {ret : Option FieldType} {a : Nat} {x : Int32} (h : (ret = some .int ∧ a = 0) ∨ (ret = some .byte ∧ a = 1) ∨ (ret = some .char ∧ a = 2) ∨ (ret = some .boolean ∧ a = 3)) (hf : pm_fit a x) : ∃ ty, ret = some ty ∧ narrow ty (.int x) = .int x := by
  rcases h with ⟨rfl, rfl⟩ | ⟨rfl, rfl⟩ | ⟨rfl, rfl⟩ | ⟨rfl, rfl⟩
  · exact ⟨_, rfl, rfl⟩
  · have hf : x.toInt8.toInt32 = x := hf
    exact ⟨_, rfl, by rw [← hf]; exact pk_nb x⟩
  · have hf : (x.toUInt32 % 65536).toInt32 = x := hf
    exact ⟨_, rfl, by rw [← hf]; exact pk_nc x⟩
  · have hf : x = 0 ∨ x = 1 := hf
    exact ⟨_, rfl, by rcases hf with rfl | rfl <;> rfl⟩
/-- what the program's tables must be -/
def pm_good_G (G : pm_G) (MI : Nat → Option pm_M) : Prop := (∀ a M, MI a = some M → pm_mokb M = true) ∧ ∀ m maxL t, G m = some (maxL, t) → ∀ M, MI m = some M → M.2.2.1 = maxL ∧ ∀ pc r, pm_at t pc = some r → pm_okb MI M.1.cls M.1.name M.2.2.2.1 M.2.1 pc r = true
set_option maxHeartbeats 1000000 in
theorem pm_sim_call {l : Launch} {E : pm_E} {L : Nat} {r0 : pm_A} {h0 : pm_B} {G : pm_G} {MI : Nat → Option pm_M} (hG : pm_good_G G MI) (N : Nat) : ∀ (d a : Nat) (av : List pm_V) (sh : pm_S) (hr : pm_A) (hi : pm_B) (v : Option pm_V) (sh' : pm_S) (hr' : pm_A) (hi' : pm_B), pm_call G N d a av sh hr hi = some (v, sh', hr', hi') → ∀ M, MI a = some M → pm_Met l E L r0 h0 M d av sh hr hi v sh' hr' hi'
  | 0, _, _, _, _, _, _, _, _, _, h => by cases h
  | d + 1, a, av, sh, hr, hi, v, sh', hr', hi', h => by
    intro M hMI
    have hgr := pm_call_grow G N (d + 1) a av sh hr hi v sh' hr' hi' h
    have hmok := hG.1 a M hMI
    unfold pm_call at h
    split at h
    · cases h
    rename_i maxL t hGa
    obtain ⟨hmaxL, hrows⟩ := hG.2 a maxL t hGa M hMI
    by_cases hlav : av.length ≤ maxL
    case neg =>
      rw [if_neg hlav] at h
      cases h
    rw [if_pos hlav] at h
    obtain ⟨y, bytes, maxL', ret, cw, iw, kw, lw, stt⟩ := M
    subst hmaxL
    dsimp only at hlav h hrows
    simp only [pm_mokb, Bool.and_eq_true, decide_eq_true_eq] at hmok
    obtain ⟨⟨⟨⟨wc, wi⟩, wk⟩, ⟨wh1, wh2, hmax⟩⟩, wp⟩ := hmok
    refine Met.ofW (cc := bytes) (maxL := maxL') (ret := ret) wp rfl ?_
    intro p e s m args below meth c s₁ B hml hv
    obtain ⟨rfl, hC, hR⟩ := hv
    have hts0 := atoms_spec (ws := Cond.code y bytes maxL' ret :: pm_ts) B.pre
    have hown : s.vm.findClass y.cls = some m.cls := findClass_of_methodNamed B.named
    have hlocks := B.notSynchronized
    have hretT := B.returns
    have hnam : meth.name = y.name := (name_of_methodNamed B.named B.method).1
    have hX : pm_X p s m (av.map (pm_vl E.1)).toArray c E L r0 h0 y.cls bytes maxL' := ⟨B.exec, B.bytes, hown, fun w hw => hts0 w (List.mem_cons_of_mem _ hw), hml, hC, by rw [hR.1]; omega⟩
    have hrf := hX.rf
    rw [lg_entry_eq]
    have hg1 : sh.length ≤ sh'.length := by obtain ⟨ext, rfl⟩ := hgr; rw [List.length_append]; omega
    have key := pm_sim_exec (p := p) (l := l) (e := e) (below := below) (meth := meth) (R := (headSpec (Cond.code y bytes maxL' ret :: pm_ts) (pm_rm (d + 1) (sh'.length - sh.length) (pm_sl sh' - pm_sl sh))).room) (nm := y.name) (ret := ret) (d := d) (n0 := sh.length) (s0 := pm_sl sh) (Q := MQ below (pm_Qc E L r0 h0 v sh' hr' hi') (av.map (pm_vl E.1)).toArray s (sh'.length - sh.length) (pm_sl sh' - pm_sl sh) (pm_Af E)) (o := (v, sh', hr', hi')) hX (fun hn => hnam.trans hn) hG.1 hrows
      ⟨Nat.le_refl _, Nat.le_refl _, Nat.le_refl _, by show 40 * d + 140 ≤ 40 * (d + 1) + 100; omega⟩ (fun a av sh hr hi v sh' hr' hi' h => ⟨pm_call_grow G N d a av sh hr hi v sh' hr' hi' h, pm_sim_call hG N d a av sh hr hi v sh' hr' hi' h⟩) ?_ N 0 (pm_ent maxL' av) [] sh hr hi h s.heap [] _ (Nat.le_refl _) (Nat.le_refl _) hR va_S.rf (pm_LR_ent hrf hlav)
    · rw [Nat.sub_self, Nat.sub_self] at key
      exact key
    · intro pc r ls v2 sh2 hr2 hi2 he hrt heq
      cases heq
      intro H locs lsA hn hs hR2 hS hL
      have hok := hrows pc r he
      obtain ⟨op, len, a2, b2, c2, sw2⟩ := r
      unfold pm_okb at hok
      cases hd : decode bytes pc with
      | error _ => rw [hd] at hok; cases hok
      | ok il =>
      rw [hd] at hok
      obtain ⟨ins, n⟩ := il
      dsimp only at hok
      rw [Bool.and_eq_true, decide_eq_true_eq] at hok
      obtain ⟨rfl, hok⟩ := hok
      rcases hrt with ⟨x, h1, rfl, hfib⟩ | ⟨q, h1, rfl⟩ | ⟨h1, rfl⟩
      · dsimp only at h1 hfib
        subst h1
        obtain ⟨rfl, rfl, hty⟩ := of_decide_eq_true hok
        obtain ⟨ty, hrty, hnar⟩ := pm_narrow hty (pm_fib_iff.mp hfib)
        exact W.zret B.exec B.bytes (hretT.trans hrty) hnar (fun t ht hW => ⟨rfl, by rw [ht]; exact hR2, hS.F ht⟩) hS.2.2 hd
      · dsimp only at h1
        subst h1
        dsimp only at hok
        rw [Bool.and_eq_true, decide_eq_true_eq] at hok
        obtain ⟨⟨rfl, rfl⟩, hok⟩ := hok
        cases hrr : ret with
        | none => rw [hrr] at hok; cases hok
        | some ty =>
          rw [hrr] at hok
          refine W.aret (rt := ty) (v := E.1 q) B.exec B.bytes (hretT.trans hrr) ?_ ?_ (fun t ht hW => ⟨rfl, by rw [ht]; exact hR2, hS.F ht⟩) hS.2.2 hd
          · cases ty <;> first | (cases hok; done) | exact Or.inl ⟨_, rfl⟩ | exact Or.inr ⟨_, rfl⟩
          · have h2 := hrf q
            cases hq : E.1 q <;> rw [hq] at h2 <;> first | (cases h2; done) | exact Or.inl rfl | exact Or.inr ⟨_, rfl⟩
      · dsimp only at h1
        subst h1
        obtain ⟨rfl, rfl, hrn⟩ := of_decide_eq_true hok
        exact W.vret B.exec B.bytes (hretT.trans hrn) (fun t ht hW => ⟨rfl, by rw [ht]; exact hR2, hS.F ht⟩) hS.2.2 hd
end
section
/-! printed by program (wip/whole/gen.py): the methods: name, bytes, locals, result, places of their words -/
def pm_mi0 : List pm_M := [(⟨"EchoFolk$Folk", "<init>", "(LEchoFolk$Laws;)V"⟩, prog_2_method_1_code, 3, (Option.none : Option FieldType), 138, 68, 137, 0, false),
  (⟨"EchoFolk$Folk", "become", "(LEchoFolk$Folk;)V"⟩, prog_2_method_2_code, 3, (Option.none : Option FieldType), 644, 68, 642, 643, false),
  (⟨"EchoFolk$Folk", "hasSpeaker", "(I)Z"⟩, prog_2_method_3_code, 2, (Option.some FieldType.boolean), 407, 68, 405, 406, false),
  (⟨"EchoFolk$Folk", "hasRoom", "()Z"⟩, prog_2_method_4_code, 1, (Option.some FieldType.boolean), 389, 68, 387, 388, false),
  (⟨"EchoFolk$Folk", "enter", "(III)V"⟩, prog_2_method_5_code, 4, (Option.none : Option FieldType), 394, 68, 392, 393, false),
  (⟨"EchoFolk$Folk", "enterByLot", "()V"⟩, prog_2_method_6_code, 4, (Option.none : Option FieldType), 541, 68, 539, 540, false),
  (⟨"EchoFolk$Folk", "drawBelow", "(I)I"⟩, prog_2_method_7_code, 2, (Option.some FieldType.int), 545, 68, 543, 544, false),
  (⟨"EchoFolk$Folk", "lawOf", "(I)I"⟩, prog_2_method_8_code, 2, (Option.some FieldType.int), 419, 68, 417, 418, false),
  (⟨"EchoFolk$Folk", "takeLaw", "(I)V"⟩, prog_2_method_9_code, 2, (Option.none : Option FieldType), 917, 68, 915, 916, false),
  (⟨"EchoFolk$Folk", "keepsOf", "(LEchoFolk$Speaker;I)I"⟩, prog_2_method_10_code, 5, (Option.some FieldType.int), 415, 68, 413, 414, false),
  (⟨"EchoFolk$Folk", "hears", "(LEchoFolk$Speaker;[III)V"⟩, prog_2_method_11_code, 7, (Option.none : Option FieldType), 502, 68, 500, 501, false),
  (⟨"EchoFolk$Folk", "speakTo", "(LEchoFolk$Speaker;LEchoFolk$Speaker;I)I"⟩, prog_2_method_12_code, 5, (Option.some FieldType.int), 522, 68, 520, 521, false),
  (⟨"EchoFolk$Folk", "passDay", "()V"⟩, prog_2_method_13_code, 5, (Option.none : Option FieldType), 562, 68, 560, 561, false),
  (⟨"EchoFolk$Folk", "wordsTogether", "()I"⟩, prog_2_method_14_code, 3, (Option.some FieldType.int), 572, 68, 570, 571, false),
  (⟨"EchoFolk$Folk", "wordsOfSomebody", "()I"⟩, prog_2_method_15_code, 3, (Option.some FieldType.int), 576, 68, 574, 575, false),
  (⟨"EchoFolk$Folk", "wordsOfAll", "()I"⟩, prog_2_method_16_code, 3, (Option.some FieldType.int), 581, 68, 579, 580, false)]
def pm_mi1 : List pm_M := [(⟨"EchoFolk$Folk", "allButDeafHave", "(I)Z"⟩, prog_2_method_17_code, 4, (Option.some FieldType.boolean), 665, 68, 663, 664, false),
  (⟨"EchoFolk$Kinds", "isOf", "(II)Z"⟩, prog_3_method_2_code, 4, (Option.some FieldType.boolean), 473, 77, 472, 0, true),
  (⟨"EchoFolk$Kinds", "keepsOf", "(II)I"⟩, prog_3_method_3_code, 2, (Option.some FieldType.int), 444, 77, 443, 0, true),
  (⟨"EchoFolk$Kinds", "takesOf", "(II)I"⟩, prog_3_method_4_code, 2, (Option.some FieldType.int), 448, 77, 447, 0, true),
  (⟨"EchoFolk$Kinds", "goesOf", "(I)I"⟩, prog_3_method_5_code, 1, (Option.some FieldType.int), 451, 77, 450, 0, true),
  (⟨"EchoFolk$Kinds", "worthOf", "(II)I"⟩, prog_3_method_6_code, 2, (Option.some FieldType.int), 454, 77, 453, 0, true),
  (⟨"EchoFolk$Laws", "<init>", "()V"⟩, prog_4_method_1_code, 2, (Option.none : Option FieldType), 97, 66, 96, 0, false),
  (⟨"EchoFolk$Laws", "valueOf", "(IIII)I"⟩, prog_4_method_2_code, 9, (Option.some FieldType.int), 423, 66, 421, 422, false),
  (⟨"EchoFolk$Laws", "leafOf", "(IIII)I"⟩, prog_4_method_3_code, 4, (Option.some FieldType.int), 426, 66, 425, 0, true),
  (⟨"EchoFolk$Laws", "joined", "(III)I"⟩, prog_4_method_4_code, 3, (Option.some FieldType.int), 432, 66, 431, 0, true),
  (⟨"EchoFolk$Laws", "truth", "(Z)I"⟩, prog_4_method_5_code, 1, (Option.some FieldType.int), 429, 66, 428, 0, true),
  (⟨"EchoFolk$Parser", "<init>", "(LEchoFolk$Tape;)V"⟩, prog_5_method_1_code, 2, (Option.none : Option FieldType), 240, 71, 239, 0, false),
  (⟨"EchoFolk$Parser", "parse", "(LEchoFolk$Text;)I"⟩, prog_5_method_2_code, 2, (Option.some FieldType.int), 721, 71, 719, 720, false),
  (⟨"EchoFolk$Parser", "fail", "()V"⟩, prog_5_method_3_code, 1, (Option.none : Option FieldType), 800, 71, 799, 10, false),
  (⟨"EchoFolk$Parser", "step", "()V"⟩, prog_5_method_4_code, 4, (Option.none : Option FieldType), 730, 71, 729, 7, false),
  (⟨"EchoFolk$Parser", "sortOf", "(I)I"⟩, prog_5_method_5_code, 1, (Option.some FieldType.int), 737, 71, 736, 0, true)]
def pm_mi2 : List pm_M := [(⟨"EchoFolk$Parser", "isSign", "(C)Z"⟩, prog_5_method_6_code, 2, (Option.some FieldType.boolean), 905, 71, 904, 20, false),
  (⟨"EchoFolk$Parser", "isWordOf", "(Ljava/lang/String;)Z"⟩, prog_5_method_7_code, 3, (Option.some FieldType.boolean), 746, 71, 745, 9, false),
  (⟨"EchoFolk$Parser", "readKey", "()V"⟩, prog_5_method_8_code, 1, (Option.none : Option FieldType), 741, 71, 740, 8, false),
  (⟨"EchoFolk$Parser", "readOr", "()V"⟩, prog_5_method_9_code, 2, (Option.none : Option FieldType), 804, 71, 803, 11, false),
  (⟨"EchoFolk$Parser", "readAnd", "()V"⟩, prog_5_method_10_code, 2, (Option.none : Option FieldType), 808, 71, 807, 12, false),
  (⟨"EchoFolk$Parser", "readTest", "()V"⟩, prog_5_method_11_code, 2, (Option.none : Option FieldType), 812, 71, 811, 13, false),
  (⟨"EchoFolk$Parser", "readSum", "()V"⟩, prog_5_method_12_code, 3, (Option.none : Option FieldType), 816, 71, 815, 14, false),
  (⟨"EchoFolk$Parser", "readTerm", "()V"⟩, prog_5_method_13_code, 3, (Option.none : Option FieldType), 820, 71, 819, 15, false),
  (⟨"EchoFolk$Parser", "readPiece", "()V"⟩, prog_5_method_14_code, 1, (Option.none : Option FieldType), 824, 71, 823, 16, false),
  (⟨"EchoFolk$Parser", "readNumber", "()V"⟩, prog_5_method_15_code, 3, (Option.none : Option FieldType), 828, 71, 827, 17, false),
  (⟨"EchoFolk$Parser", "readName", "()V"⟩, prog_5_method_16_code, 2, (Option.none : Option FieldType), 840, 71, 839, 19, false),
  (⟨"EchoFolk$Parser", "namesOf", "(I)Ljava/lang/String;"⟩, prog_5_method_17_code, 1, (Option.some (FieldType.object "java/lang/String")), 843, 71, 842, 0, true),
  (⟨"EchoFolk$Parser", "putLeaf", "(I)V"⟩, prog_5_method_18_code, 2, (Option.none : Option FieldType), 832, 71, 831, 18, false),
  (⟨"EchoFolk$Parser", "readNot", "()V"⟩, prog_5_method_19_code, 1, (Option.none : Option FieldType), 909, 71, 908, 21, false),
  (⟨"EchoFolk$Parser", "readBrackets", "()V"⟩, prog_5_method_20_code, 1, (Option.none : Option FieldType), 913, 71, 912, 22, false),
  (⟨"EchoFolk$Saying", "<init>", "()V"⟩, prog_6_method_1_code, 1, (Option.none : Option FieldType), 322, 74, 321, 0, false)]
def pm_mi3 : List pm_M := [(⟨"EchoFolk$Saying", "read", "(LEchoFolk$Sheet;)V"⟩, prog_6_method_2_code, 3, (Option.none : Option FieldType), 598, 74, 596, 597, false),
  (⟨"EchoFolk$Saying", "firstOutside", "(I)I"⟩, prog_6_method_3_code, 3, (Option.some FieldType.int), 629, 74, 627, 628, false),
  (⟨"EchoFolk$Saying", "breathsOf", "(LEchoFolk$Speaker;)I"⟩, prog_6_method_4_code, 7, (Option.some FieldType.int), 608, 74, 606, 607, false),
  (⟨"EchoFolk$Saying", "longestPiece", "(LEchoFolk$Speaker;II)I"⟩, prog_6_method_5_code, 6, (Option.some FieldType.int), 613, 74, 612, 2, false),
  (⟨"EchoFolk$Saying", "sameWords", "(LEchoFolk$Speaker;II)I"⟩, prog_6_method_6_code, 7, (Option.some FieldType.int), 617, 74, 616, 3, false),
  (⟨"EchoFolk$Sheet", "<init>", "()V"⟩, prog_7_method_1_code, 1, (Option.none : Option FieldType), 274, 72, 273, 0, false),
  (⟨"EchoFolk$Sheet", "begin", "(II)V"⟩, prog_7_method_2_code, 4, (Option.none : Option FieldType), 934, 72, 932, 933, false),
  (⟨"EchoFolk$Sheet", "become", "(LEchoFolk$Sheet;)V"⟩, prog_7_method_3_code, 3, (Option.none : Option FieldType), 977, 72, 975, 976, false),
  (⟨"EchoFolk$Sheet", "hasPlace", "(I)Z"⟩, prog_7_method_4_code, 2, (Option.some FieldType.boolean), 602, 72, 600, 601, false),
  (⟨"EchoFolk$Sheet", "hasPlaces", "(II)Z"⟩, prog_7_method_5_code, 3, (Option.some FieldType.boolean), 959, 72, 957, 958, false),
  (⟨"EchoFolk$Slot", "<init>", "()V"⟩, prog_8_method_1_code, 1, (Option.none : Option FieldType), 294, 73, 293, 0, false),
  (⟨"EchoFolk$Slot", "holdSpeaker", "(LEchoFolk$Speaker;)V"⟩, prog_8_method_2_code, 2, (Option.none : Option FieldType), 973, 73, 971, 972, false),
  (⟨"EchoFolk$Speaker", "<init>", "()V"⟩, prog_9_method_1_code, 1, (Option.none : Option FieldType), 145, 69, 144, 0, false),
  (⟨"EchoFolk$Speaker", "begin", "(III)V"⟩, prog_9_method_2_code, 4, (Option.none : Option FieldType), 399, 69, 397, 398, false),
  (⟨"EchoFolk$Speaker", "become", "(LEchoFolk$Speaker;)V"⟩, prog_9_method_3_code, 3, (Option.none : Option FieldType), 648, 69, 646, 647, false),
  (⟨"EchoFolk$Speaker", "wordAt", "(I)I"⟩, prog_9_method_4_code, 2, (Option.some FieldType.int), 465, 69, 463, 464, false)]
def pm_mi4 : List pm_M := [(⟨"EchoFolk$Speaker", "wordSet", "()I"⟩, prog_9_method_5_code, 3, (Option.some FieldType.int), 411, 69, 409, 410, false),
  (⟨"EchoFolk$Speaker", "putBehind", "([III)V"⟩, prog_9_method_6_code, 6, (Option.none : Option FieldType), 508, 69, 506, 507, false),
  (⟨"EchoFolk$Speaker", "forgetOldest", "(I)V"⟩, prog_9_method_7_code, 3, (Option.none : Option FieldType), 513, 69, 511, 512, false),
  (⟨"EchoFolk$Tape", "<init>", "()V"⟩, prog_10_method_1_code, 1, (Option.none : Option FieldType), 226, 70, 225, 0, false),
  (⟨"EchoFolk$Tape", "putNumber", "(I)V"⟩, prog_10_method_2_code, 3, (Option.none : Option FieldType), 709, 70, 707, 708, false),
  (⟨"EchoFolk$Tape", "byteAt", "(I)I"⟩, prog_10_method_3_code, 2, (Option.some FieldType.int), 734, 70, 732, 733, false),
  (⟨"EchoFolk$Text", "<init>", "()V"⟩, prog_11_method_1_code, 1, (Option.none : Option FieldType), 104, 67, 103, 0, false),
  (⟨"EchoFolk$Text", "begin", "()V"⟩, prog_11_method_2_code, 1, (Option.none : Option FieldType), 725, 67, 723, 724, false),
  (⟨"EchoFolk$Text", "put", "(I)V"⟩, prog_11_method_3_code, 2, (Option.none : Option FieldType), 836, 67, 834, 835, false),
  (⟨"EchoFolk", "<init>", "()V"⟩, prog_1_method_1_code, 2, (Option.none : Option FieldType), 89, 65, 88, 0, false),
  (⟨"EchoFolk", "speaker", "(III)I"⟩, prog_1_method_2_code, 4, (Option.some FieldType.int), 375, 65, 373, 374, false),
  (⟨"EchoFolk", "told", "(II)I"⟩, prog_1_method_3_code, 4, (Option.some FieldType.int), 403, 65, 401, 402, false),
  (⟨"EchoFolk", "heard", "(II)I"⟩, prog_1_method_4_code, 3, (Option.some FieldType.int), 458, 65, 456, 457, false),
  (⟨"EchoFolk", "as", "(II)I"⟩, prog_1_method_5_code, 4, (Option.some FieldType.int), 470, 65, 468, 469, false),
  (⟨"EchoFolk", "turns", "(II)I"⟩, prog_1_method_6_code, 5, (Option.some FieldType.int), 480, 65, 478, 479, false),
  (⟨"EchoFolk", "set", "(III)I"⟩, prog_1_method_7_code, 6, (Option.some FieldType.int), 484, 65, 482, 483, false)]
def pm_mi5 : List pm_M := [(⟨"EchoFolk", "speaks", "(IIII)I"⟩, prog_1_method_8_code, 7, (Option.some FieldType.int), 488, 65, 486, 487, false),
  (⟨"EchoFolk", "says", "(III)I"⟩, prog_1_method_9_code, 5, (Option.some FieldType.int), 517, 65, 515, 516, false),
  (⟨"EchoFolk", "forgets", "(I)I"⟩, prog_1_method_10_code, 4, (Option.some FieldType.int), 528, 65, 526, 527, false),
  (⟨"EchoFolk", "talk", "(I)I"⟩, prog_1_method_11_code, 3, (Option.some FieldType.int), 533, 65, 531, 532, false),
  (⟨"EchoFolk", "deal", "(I)I"⟩, prog_1_method_12_code, 4, (Option.some FieldType.int), 537, 65, 535, 536, false),
  (⟨"EchoFolk", "seed", "(I)I"⟩, prog_1_method_13_code, 3, (Option.some FieldType.int), 551, 65, 549, 550, false),
  (⟨"EchoFolk", "days", "(I)I"⟩, prog_1_method_14_code, 4, (Option.some FieldType.int), 555, 65, 553, 554, false),
  (⟨"EchoFolk", "folk", "(I)I"⟩, prog_1_method_15_code, 2, (Option.some FieldType.int), 568, 65, 566, 567, false),
  (⟨"EchoFolk", "breaths", "(II)I"⟩, prog_1_method_16_code, 4, (Option.some FieldType.int), 586, 65, 584, 585, false),
  (⟨"EchoFolk", "wanting", "(I)I"⟩, prog_1_method_17_code, 2, (Option.some FieldType.int), 625, 65, 623, 624, false),
  (⟨"EchoFolk", "who", "(I)I"⟩, prog_1_method_18_code, 5, (Option.some FieldType.int), 633, 65, 631, 632, false),
  (⟨"EchoFolk", "teacher", "(III)I"⟩, prog_1_method_19_code, 9, (Option.some FieldType.int), 637, 65, 635, 636, false),
  (⟨"EchoFolk", "behind", "(II)I"⟩, prog_1_method_20_code, 4, (Option.some FieldType.int), 657, 65, 655, 656, false),
  (⟨"EchoFolk", "spreads", "(I)I"⟩, prog_1_method_21_code, 3, (Option.some FieldType.int), 661, 65, 659, 660, false),
  (⟨"EchoFolk", "learns", "(II)I"⟩, prog_1_method_22_code, 5, (Option.some FieldType.int), 669, 65, 667, 668, false),
  (⟨"EchoFolk", "quiet", "(II)I"⟩, prog_1_method_23_code, 7, (Option.some FieldType.int), 673, 65, 671, 672, false)]
def pm_mi6 : List pm_M := [(⟨"EchoFolk", "ears", "(III)I"⟩, prog_1_method_24_code, 8, (Option.some FieldType.int), 681, 65, 679, 680, false),
  (⟨"EchoFolk", "fee", "()I"⟩, prog_1_method_25_code, 2, (Option.some FieldType.int), 695, 65, 693, 694, false),
  (⟨"EchoFolk", "fine", "(I)I"⟩, prog_1_method_26_code, 4, (Option.some FieldType.int), 701, 65, 699, 700, false),
  (⟨"EchoFolk", "feed", "(III)I"⟩, prog_1_method_27_code, 4, (Option.some FieldType.int), 705, 65, 703, 704, false),
  (⟨"EchoFolk", "trim", "(I)I"⟩, prog_1_method_28_code, 2, (Option.some FieldType.int), 713, 65, 711, 712, false),
  (⟨"EchoFolk", "text", "()I"⟩, prog_1_method_29_code, 4, (Option.some FieldType.int), 717, 65, 715, 716, false),
  (⟨"EchoFolk", "textTold", "(II)I"⟩, prog_1_method_30_code, 3, (Option.some FieldType.int), 922, 65, 920, 921, false),
  (⟨"EchoFolk", "why", "(I)I"⟩, prog_1_method_31_code, 2, (Option.some FieldType.int), 926, 65, 924, 925, false),
  (⟨"EchoFolk", "sheet", "(III)I"⟩, prog_1_method_32_code, 4, (Option.some FieldType.int), 930, 65, 928, 929, false),
  (⟨"EchoFolk", "mark", "(III)I"⟩, prog_1_method_33_code, 5, (Option.some FieldType.int), 938, 65, 936, 937, false),
  (⟨"EchoFolk", "pour", "(I)I"⟩, prog_1_method_34_code, 6, (Option.some FieldType.int), 946, 65, 944, 945, false),
  (⟨"EchoFolk", "reads", "(I)I"⟩, prog_1_method_35_code, 4, (Option.some FieldType.int), 951, 65, 949, 950, false),
  (⟨"EchoFolk", "copy", "(IIIII)I"⟩, prog_1_method_36_code, 8, (Option.some FieldType.int), 955, 65, 953, 954, false),
  (⟨"EchoFolk", "lay", "(III)I"⟩, prog_1_method_37_code, 6, (Option.some FieldType.int), 966, 65, 964, 965, false),
  (⟨"EchoFolk", "ask", "(II)I"⟩, prog_1_method_38_code, 4, (Option.some FieldType.int), 981, 65, 979, 980, false),
  (⟨"EchoFolk", "item", "(II)I"⟩, prog_1_method_39_code, 4, (Option.some FieldType.int), 985, 65, 983, 984, false)]
def pm_mi7 : List pm_M := [(⟨"EchoFolk", "rest", "(II)I"⟩, prog_1_method_40_code, 3, (Option.some FieldType.int), 989, 65, 987, 988, false),
  (⟨"EchoFolk", "tell", "(I)I"⟩, prog_1_method_41_code, 2, (Option.some FieldType.int), 994, 65, 992, 993, false),
  (⟨"EchoFolk", "check", "(I)I"⟩, prog_1_method_42_code, 5, (Option.some FieldType.int), 998, 65, 996, 997, false),
  (⟨"EchoFolk", "keep", "()I"⟩, prog_1_method_43_code, 1, (Option.some FieldType.int), 1006, 65, 1004, 1005, false),
  (⟨"EchoFolk", "back", "()I"⟩, prog_1_method_44_code, 1, (Option.some FieldType.int), 1010, 65, 1008, 1009, false),
  (⟨"EchoFolk", "count", "(I)I"⟩, prog_1_method_45_code, 2, (Option.some FieldType.int), 1014, 65, 1012, 1013, false),
  (⟨"EchoFolk", "isKind", "(I)Z"⟩, prog_1_method_46_code, 1, (Option.some FieldType.boolean), 378, 65, 377, 0, true),
  (⟨"EchoFolk", "isEar", "(I)Z"⟩, prog_1_method_47_code, 1, (Option.some FieldType.boolean), 381, 65, 380, 0, true),
  (⟨"EchoFolk", "isFame", "(I)Z"⟩, prog_1_method_48_code, 1, (Option.some FieldType.boolean), 384, 65, 383, 0, true),
  (⟨"EchoFolk", "isWord", "(I)Z"⟩, prog_1_method_49_code, 1, (Option.some FieldType.boolean), 494, 65, 493, 0, true),
  (⟨"EchoFolk", "isWordOrNone", "(I)Z"⟩, prog_1_method_50_code, 1, (Option.some FieldType.boolean), 491, 65, 490, 0, true),
  (⟨"EchoFolk", "isHeardPlace", "(I)Z"⟩, prog_1_method_51_code, 1, (Option.some FieldType.boolean), 461, 65, 460, 0, true),
  (⟨"EchoFolk", "isZeroOrOne", "(I)Z"⟩, prog_1_method_52_code, 1, (Option.some FieldType.boolean), 640, 65, 639, 0, true),
  (⟨"EchoFolk", "isDays", "(III)Z"⟩, prog_1_method_53_code, 3, (Option.some FieldType.boolean), 558, 65, 557, 0, true),
  (⟨"EchoFolk", "isSheet", "(I)Z"⟩, prog_1_method_54_code, 1, (Option.some FieldType.boolean), 589, 65, 588, 0, true),
  (⟨"EchoFolk", "isSlot", "(I)Z"⟩, prog_1_method_55_code, 1, (Option.some FieldType.boolean), 969, 65, 968, 0, true)]
def pm_mi8 : List pm_M := [(⟨"EchoFolk", "held", "(III)I"⟩, prog_1_method_56_code, 3, (Option.some FieldType.int), 435, 65, 434, 0, true),
  (⟨"EchoFolk", "putFromWithout", "(II)I"⟩, prog_1_method_57_code, 3, (Option.some FieldType.int), 498, 65, 497, 0, false),
  (⟨"EchoFolk", "readSaying", "(I)I"⟩, prog_1_method_58_code, 2, (Option.some FieldType.int), 593, 65, 592, 1, false),
  (⟨"EchoFolk", "breathsTaught", "(II)I"⟩, prog_1_method_59_code, 5, (Option.some FieldType.int), 652, 65, 651, 4, false),
  (⟨"EchoFolk", "spokenWithout", "(II)I"⟩, prog_1_method_60_code, 5, (Option.some FieldType.int), 677, 65, 676, 5, false),
  (⟨"EchoFolk", "unlikeWithEar", "(III)I"⟩, prog_1_method_61_code, 5, (Option.some FieldType.int), 685, 65, 684, 6, false),
  (⟨"EchoFolk", "isTold", "(III)Z"⟩, prog_1_method_62_code, 4, (Option.some FieldType.boolean), 1002, 65, 1001, 23, false),
  (⟨"EchoFolkModel", "<init>", "()V"⟩, prog_13_method_1_code, 1, (Option.none : Option FieldType), 1019, 75, 1018, 0, false),
  (⟨"EchoFolkModel", "in", "(III)Z"⟩, prog_13_method_2_code, 3, (Option.some FieldType.boolean), 1144, 75, 1143, 0, true),
  (⟨"EchoFolkModel", "within", "(III)I"⟩, prog_13_method_3_code, 3, (Option.some FieldType.int), 1191, 75, 1190, 0, true),
  (⟨"EchoFolkModel", "copyAll", "([I[I)V"⟩, prog_13_method_4_code, 3, (Option.none : Option FieldType), 1506, 75, 1505, 0, true),
  (⟨"EchoFolkModel", "isSpeaker", "(I)Z"⟩, prog_13_method_5_code, 2, (Option.some FieldType.boolean), 1165, 75, 1164, 26, false),
  (⟨"EchoFolkModel", "isWord", "(I)Z"⟩, prog_13_method_6_code, 1, (Option.some FieldType.boolean), 1325, 75, 1324, 0, true),
  (⟨"EchoFolkModel", "of", "(II)I"⟩, prog_13_method_7_code, 3, (Option.some FieldType.int), 1169, 75, 1168, 27, false),
  (⟨"EchoFolkModel", "put", "(III)V"⟩, prog_13_method_8_code, 4, (Option.none : Option FieldType), 1157, 75, 1156, 25, false),
  (⟨"EchoFolkModel", "becomes", "(II)I"⟩, prog_13_method_9_code, 4, (Option.some FieldType.int), 1224, 75, 1223, 35, false)]
def pm_mi9 : List pm_M := [(⟨"EchoFolkModel", "comes", "(III)I"⟩, prog_13_method_10_code, 5, (Option.some FieldType.int), 1153, 75, 1152, 24, false),
  (⟨"EchoFolkModel", "isOf", "(II)Z"⟩, prog_13_method_11_code, 2, (Option.some FieldType.boolean), 1147, 75, 1146, 0, true),
  (⟨"EchoFolkModel", "speaker", "(III)I"⟩, prog_13_method_12_code, 4, (Option.some FieldType.int), 1141, 75, 1139, 1140, false),
  (⟨"EchoFolkModel", "keepsOf", "(I)I"⟩, prog_13_method_13_code, 4, (Option.some FieldType.int), 1177, 75, 1176, 29, false),
  (⟨"EchoFolkModel", "takesOf", "(I)I"⟩, prog_13_method_14_code, 3, (Option.some FieldType.int), 1195, 75, 1194, 32, false),
  (⟨"EchoFolkModel", "goesOf", "(I)I"⟩, prog_13_method_15_code, 2, (Option.some FieldType.int), 1199, 75, 1198, 33, false),
  (⟨"EchoFolkModel", "worthOf", "(I)I"⟩, prog_13_method_16_code, 3, (Option.some FieldType.int), 1203, 75, 1202, 34, false),
  (⟨"EchoFolkModel", "wordsOf", "(I)I"⟩, prog_13_method_17_code, 4, (Option.some FieldType.int), 1173, 75, 1172, 28, false),
  (⟨"EchoFolkModel", "told", "(II)I"⟩, prog_13_method_18_code, 3, (Option.some FieldType.int), 1161, 75, 1159, 1160, false),
  (⟨"EchoFolkModel", "heard", "(II)I"⟩, prog_13_method_19_code, 3, (Option.some FieldType.int), 1207, 75, 1205, 1206, false),
  (⟨"EchoFolkModel", "isUnder", "(II)Z"⟩, prog_13_method_20_code, 2, (Option.some FieldType.boolean), 1215, 75, 1214, 0, true),
  (⟨"EchoFolkModel", "as", "(II)I"⟩, prog_13_method_21_code, 3, (Option.some FieldType.int), 1212, 75, 1210, 1211, false),
  (⟨"EchoFolkModel", "turns", "(II)I"⟩, prog_13_method_22_code, 3, (Option.some FieldType.int), 1220, 75, 1218, 1219, false),
  (⟨"EchoFolkModel", "set", "(III)I"⟩, prog_13_method_23_code, 4, (Option.some FieldType.int), 1228, 75, 1226, 1227, false),
  (⟨"EchoFolkModel", "forgetsOldest", "(I)V"⟩, prog_13_method_24_code, 4, (Option.none : Option FieldType), 1244, 75, 1243, 38, false),
  (⟨"EchoFolkModel", "hears", "(I)V"⟩, prog_13_method_25_code, 4, (Option.none : Option FieldType), 1240, 75, 1239, 37, false)]
def pm_mi10 : List pm_M := [(⟨"EchoFolkModel", "speaksOne", "(I)V"⟩, prog_13_method_26_code, 2, (Option.none : Option FieldType), 1236, 75, 1235, 36, false),
  (⟨"EchoFolkModel", "speaks", "(IIII)I"⟩, prog_13_method_27_code, 5, (Option.some FieldType.int), 1232, 75, 1230, 1231, false),
  (⟨"EchoFolkModel", "begins", "(III)V"⟩, prog_13_method_28_code, 5, (Option.none : Option FieldType), 1256, 75, 1255, 40, false),
  (⟨"EchoFolkModel", "tells", "(III)I"⟩, prog_13_method_29_code, 4, (Option.some FieldType.int), 1252, 75, 1251, 39, false),
  (⟨"EchoFolkModel", "says", "(III)I"⟩, prog_13_method_30_code, 4, (Option.some FieldType.int), 1248, 75, 1246, 1247, false),
  (⟨"EchoFolkModel", "forgets", "(I)I"⟩, prog_13_method_31_code, 3, (Option.some FieldType.int), 1260, 75, 1258, 1259, false),
  (⟨"EchoFolkModel", "talk", "(I)I"⟩, prog_13_method_32_code, 2, (Option.some FieldType.int), 1264, 75, 1262, 1263, false),
  (⟨"EchoFolkModel", "draw", "()I"⟩, prog_13_method_33_code, 1, (Option.some FieldType.int), 1272, 75, 1271, 41, false),
  (⟨"EchoFolkModel", "deal", "(I)I"⟩, prog_13_method_34_code, 6, (Option.some FieldType.int), 1268, 75, 1266, 1267, false),
  (⟨"EchoFolkModel", "seed", "(I)I"⟩, prog_13_method_35_code, 2, (Option.some FieldType.int), 1277, 75, 1275, 1276, false),
  (⟨"EchoFolkModel", "talks", "()V"⟩, prog_13_method_36_code, 4, (Option.none : Option FieldType), 1293, 75, 1292, 44, false),
  (⟨"EchoFolkModel", "day", "()V"⟩, prog_13_method_37_code, 2, (Option.none : Option FieldType), 1289, 75, 1288, 43, false),
  (⟨"EchoFolkModel", "goesOn", "(I)V"⟩, prog_13_method_38_code, 3, (Option.none : Option FieldType), 1285, 75, 1284, 42, false),
  (⟨"EchoFolkModel", "days", "(I)I"⟩, prog_13_method_39_code, 3, (Option.some FieldType.int), 1281, 75, 1279, 1280, false),
  (⟨"EchoFolkModel", "wordsOfAll", "()I"⟩, prog_13_method_40_code, 3, (Option.some FieldType.int), 1301, 75, 1300, 45, false),
  (⟨"EchoFolkModel", "known", "()I"⟩, prog_13_method_41_code, 3, (Option.some FieldType.int), 1305, 75, 1304, 46, false)]
def pm_mi11 : List pm_M := [(⟨"EchoFolkModel", "knownToAll", "()I"⟩, prog_13_method_42_code, 3, (Option.some FieldType.int), 1309, 75, 1308, 47, false),
  (⟨"EchoFolkModel", "folk", "(I)I"⟩, prog_13_method_43_code, 2, (Option.some FieldType.int), 1297, 75, 1295, 1296, false),
  (⟨"EchoFolkModel", "readsSaying", "(I)V"⟩, prog_13_method_44_code, 2, (Option.none : Option FieldType), 1322, 75, 1321, 48, false),
  (⟨"EchoFolkModel", "hasHeard", "(III)Z"⟩, prog_13_method_45_code, 6, (Option.some FieldType.boolean), 1333, 75, 1332, 50, false),
  (⟨"EchoFolkModel", "breathsOf", "(I)I"⟩, prog_13_method_46_code, 6, (Option.some FieldType.int), 1329, 75, 1328, 49, false),
  (⟨"EchoFolkModel", "breaths", "(II)I"⟩, prog_13_method_47_code, 4, (Option.some FieldType.int), 1314, 75, 1312, 1313, false),
  (⟨"EchoFolkModel", "wanting", "(I)I"⟩, prog_13_method_48_code, 4, (Option.some FieldType.int), 1338, 75, 1336, 1337, false),
  (⟨"EchoFolkModel", "who", "(I)I"⟩, prog_13_method_49_code, 4, (Option.some FieldType.int), 1342, 75, 1340, 1341, false),
  (⟨"EchoFolkModel", "thinks", "()V"⟩, prog_13_method_50_code, 2, (Option.none : Option FieldType), 1350, 75, 1349, 51, false),
  (⟨"EchoFolkModel", "putsBack", "()V"⟩, prog_13_method_51_code, 2, (Option.none : Option FieldType), 1354, 75, 1353, 52, false),
  (⟨"EchoFolkModel", "teacher", "(III)I"⟩, prog_13_method_52_code, 8, (Option.some FieldType.int), 1346, 75, 1344, 1345, false),
  (⟨"EchoFolkModel", "behind", "(II)I"⟩, prog_13_method_53_code, 4, (Option.some FieldType.int), 1358, 75, 1356, 1357, false),
  (⟨"EchoFolkModel", "hasCome", "(I)Z"⟩, prog_13_method_54_code, 4, (Option.some FieldType.boolean), 1366, 75, 1365, 53, false),
  (⟨"EchoFolkModel", "spreads", "(I)I"⟩, prog_13_method_55_code, 3, (Option.some FieldType.int), 1362, 75, 1360, 1361, false),
  (⟨"EchoFolkModel", "learns", "(II)I"⟩, prog_13_method_56_code, 6, (Option.some FieldType.int), 1370, 75, 1368, 1369, false),
  (⟨"EchoFolkModel", "quiet", "(II)I"⟩, prog_13_method_57_code, 7, (Option.some FieldType.int), 1374, 75, 1372, 1373, false)]
def pm_mi12 : List pm_M := [(⟨"EchoFolkModel", "manyOf", "(I)I"⟩, prog_13_method_58_code, 3, (Option.some FieldType.int), 1381, 75, 1380, 0, true),
  (⟨"EchoFolkModel", "ears", "(III)I"⟩, prog_13_method_59_code, 8, (Option.some FieldType.int), 1378, 75, 1376, 1377, false),
  (⟨"EchoFolkModel", "fee", "()I"⟩, prog_13_method_60_code, 2, (Option.some FieldType.int), 1385, 75, 1383, 1384, false),
  (⟨"EchoFolkModel", "fine", "(I)I"⟩, prog_13_method_61_code, 3, (Option.some FieldType.int), 1389, 75, 1387, 1388, false),
  (⟨"EchoFolkModel", "feed", "(III)I"⟩, prog_13_method_62_code, 6, (Option.some FieldType.int), 1393, 75, 1391, 1392, false),
  (⟨"EchoFolkModel", "trim", "(I)I"⟩, prog_13_method_63_code, 2, (Option.some FieldType.int), 1397, 75, 1395, 1396, false),
  (⟨"EchoFolkModel", "isLetter", "(I)Z"⟩, prog_13_method_64_code, 2, (Option.some FieldType.boolean), 1409, 75, 1408, 55, false),
  (⟨"EchoFolkModel", "isFigure", "(I)Z"⟩, prog_13_method_65_code, 2, (Option.some FieldType.boolean), 1413, 75, 1412, 56, false),
  (⟨"EchoFolkModel", "go", "()V"⟩, prog_13_method_66_code, 2, (Option.none : Option FieldType), 1405, 75, 1404, 54, false),
  (⟨"EchoFolkModel", "takesKey", "()Z"⟩, prog_13_method_67_code, 5, (Option.some FieldType.boolean), 1417, 75, 1416, 57, false),
  (⟨"EchoFolkModel", "nameOf", "(I)I"⟩, prog_13_method_68_code, 2, (Option.some FieldType.int), 1429, 75, 1428, 60, false),
  (⟨"EchoFolkModel", "rank", "(I)I"⟩, prog_13_method_69_code, 1, (Option.some FieldType.int), 1436, 75, 1435, 0, true),
  (⟨"EchoFolkModel", "settle", "(I)V"⟩, prog_13_method_70_code, 2, (Option.none : Option FieldType), 1433, 75, 1432, 61, false),
  (⟨"EchoFolkModel", "signHere", "()I"⟩, prog_13_method_71_code, 1, (Option.some FieldType.int), 1444, 75, 1443, 63, false),
  (⟨"EchoFolkModel", "takesPart", "()Z"⟩, prog_13_method_72_code, 2, (Option.some FieldType.boolean), 1425, 75, 1424, 59, false),
  (⟨"EchoFolkModel", "takesE", "()Z"⟩, prog_13_method_73_code, 5, (Option.some FieldType.boolean), 1421, 75, 1420, 58, false)]
def pm_mi13 : List pm_M := [(⟨"EchoFolkModel", "notsOpen", "()I"⟩, prog_13_method_74_code, 3, (Option.some FieldType.int), 1440, 75, 1439, 62, false),
  (⟨"EchoFolkModel", "text", "()I"⟩, prog_13_method_75_code, 4, (Option.some FieldType.int), 1401, 75, 1399, 1400, false),
  (⟨"EchoFolkModel", "textTold", "(II)I"⟩, prog_13_method_76_code, 3, (Option.some FieldType.int), 1448, 75, 1446, 1447, false),
  (⟨"EchoFolkModel", "counts", "(I)I"⟩, prog_13_method_77_code, 3, (Option.some FieldType.int), 1181, 75, 1180, 30, false),
  (⟨"EchoFolkModel", "why", "(I)I"⟩, prog_13_method_78_code, 3, (Option.some FieldType.int), 1452, 75, 1450, 1451, false),
  (⟨"EchoFolkModel", "two", "(III)I"⟩, prog_13_method_79_code, 3, (Option.some FieldType.int), 1188, 75, 1187, 0, true),
  (⟨"EchoFolkModel", "worksOut", "(I)I"⟩, prog_13_method_80_code, 6, (Option.some FieldType.int), 1185, 75, 1184, 31, false),
  (⟨"EchoFolkModel", "isSheet", "(I)Z"⟩, prog_13_method_81_code, 1, (Option.some FieldType.boolean), 1317, 75, 1316, 0, true),
  (⟨"EchoFolkModel", "isSlot", "(I)Z"⟩, prog_13_method_82_code, 1, (Option.some FieldType.boolean), 1482, 75, 1481, 0, true),
  (⟨"EchoFolkModel", "sheet", "(III)I"⟩, prog_13_method_83_code, 5, (Option.some FieldType.int), 1456, 75, 1454, 1455, false),
  (⟨"EchoFolkModel", "mark", "(III)I"⟩, prog_13_method_84_code, 4, (Option.some FieldType.int), 1460, 75, 1458, 1459, false),
  (⟨"EchoFolkModel", "pour", "(I)I"⟩, prog_13_method_85_code, 6, (Option.some FieldType.int), 1467, 75, 1465, 1466, false),
  (⟨"EchoFolkModel", "reads", "(I)I"⟩, prog_13_method_86_code, 4, (Option.some FieldType.int), 1471, 75, 1469, 1470, false),
  (⟨"EchoFolkModel", "copy", "(IIIII)I"⟩, prog_13_method_87_code, 7, (Option.some FieldType.int), 1475, 75, 1473, 1474, false),
  (⟨"EchoFolkModel", "lay", "(III)I"⟩, prog_13_method_88_code, 6, (Option.some FieldType.int), 1479, 75, 1477, 1478, false),
  (⟨"EchoFolkModel", "ask", "(II)I"⟩, prog_13_method_89_code, 3, (Option.some FieldType.int), 1486, 75, 1484, 1485, false)]
def pm_mi14 : List pm_M := [(⟨"EchoFolkModel", "item", "(II)I"⟩, prog_13_method_90_code, 4, (Option.some FieldType.int), 1490, 75, 1488, 1489, false),
  (⟨"EchoFolkModel", "rest", "(II)I"⟩, prog_13_method_91_code, 3, (Option.some FieldType.int), 1494, 75, 1492, 1493, false),
  (⟨"EchoFolkModel", "tell", "(I)I"⟩, prog_13_method_92_code, 2, (Option.some FieldType.int), 1499, 75, 1497, 1498, false),
  (⟨"EchoFolkModel", "check", "(I)I"⟩, prog_13_method_93_code, 6, (Option.some FieldType.int), 1503, 75, 1501, 1502, false),
  (⟨"EchoFolkModel", "keep", "()I"⟩, prog_13_method_94_code, 1, (Option.some FieldType.int), 1510, 75, 1508, 1509, false),
  (⟨"EchoFolkModel", "back", "()I"⟩, prog_13_method_95_code, 1, (Option.some FieldType.int), 1514, 75, 1512, 1513, false),
  (⟨"EchoFolkModel", "count", "(I)I"⟩, prog_13_method_96_code, 2, (Option.some FieldType.int), 1518, 75, 1516, 1517, false),
  (⟨"java/lang/Integer", "bitCount", "(I)I"⟩, prog_15_method_49_code, 1, (Option.some FieldType.int), 688, 78, 687, 0, true),
  (⟨"java/lang/String", "length", "()I"⟩, prog_17_method_54_code, 1, (Option.some FieldType.int), 750, 79, 748, 749, false),
  (⟨"java/lang/String", "charAt", "(I)C"⟩, prog_17_method_56_code, 2, (Option.some FieldType.char), 760, 79, 758, 759, false),
  (⟨"java/lang/String", "indexOf", "(I)I"⟩, prog_17_method_79_code, 2, (Option.some FieldType.int), 850, 79, 848, 849, false),
  (⟨"java/lang/String", "indexOf", "(II)I"⟩, prog_17_method_80_code, 3, (Option.some FieldType.int), 854, 79, 852, 853, false),
  (⟨"java/lang/String", "coder", "()B"⟩, prog_17_method_152_code, 1, (Option.some FieldType.byte), 754, 79, 752, 753, false),
  (⟨"java/lang/String", "isLatin1", "()Z"⟩, prog_17_method_154_code, 1, (Option.some FieldType.boolean), 764, 79, 762, 763, false),
  (⟨"java/lang/String", "checkIndex", "(II)V"⟩, prog_17_method_155_code, 2, (Option.none : Option FieldType), 770, 79, 769, 0, true),
  (⟨"java/lang/String", "checkBoundsBeginEnd", "(III)V"⟩, prog_17_method_158_code, 3, (Option.none : Option FieldType), 881, 79, 880, 0, true)]
def pm_mi15 : List pm_M := [(⟨"java/lang/StringLatin1", "charAt", "([BI)C"⟩, prog_18_method_2_code, 2, (Option.some FieldType.char), 767, 80, 766, 0, true),
  (⟨"java/lang/StringLatin1", "canEncode", "(I)Z"⟩, prog_18_method_4_code, 1, (Option.some FieldType.boolean), 861, 80, 860, 0, true),
  (⟨"java/lang/StringLatin1", "indexOf", "([BIII)I"⟩, prog_18_method_22_code, 4, (Option.some FieldType.int), 858, 80, 857, 0, true),
  (⟨"java/lang/StringLatin1", "indexOfChar", "([BIII)I"⟩, prog_18_method_23_code, 6, (Option.some FieldType.int), 866, 80, 865, 0, true),
  (⟨"jdk/internal/util/Preconditions", "checkIndex", "(IILjava/util/function/BiFunction;)I"⟩, prog_21_method_11_code, 3, (Option.some FieldType.int), 775, 81, 774, 0, true),
  (⟨"jdk/internal/util/Preconditions", "checkFromToIndex", "(IIILjava/util/function/BiFunction;)I"⟩, prog_21_method_12_code, 4, (Option.some FieldType.int), 884, 81, 883, 0, true)]
def pm_mis : List (List pm_M) := [pm_mi0, pm_mi1, pm_mi2, pm_mi3, pm_mi4, pm_mi5, pm_mi6, pm_mi7, pm_mi8, pm_mi9, pm_mi10, pm_mi11, pm_mi12, pm_mi13, pm_mi14, pm_mi15]
def pm_mi : Nat → Option pm_M := fun m => (pm_mis.getD (m / 16) [])[m % 16]?
def pm_chk (m : Nat) : Bool := match pm_mi m with
  | none => true
  | some M => pm_mokb M && (match pm_g m with
    | none => true
    | some (maxL, t) => decide (M.2.2.1 = maxL) && t.flatten.all (fun q => pm_okb pm_mi M.1.cls M.1.name M.2.2.2.1 M.2.1 q.1 q.2))
theorem pm_lookup_mem {l : List (Nat × pm_I)} {pc : Nat} {r : pm_I} (h : l.lookup pc = some r) : (pc, r) ∈ l := by
  induction l with
  | nil => cases h
  | cons a l ih =>
    obtain ⟨k, v⟩ := a
    rw [List.lookup_cons] at h
    split at h
    · rename_i hk
      have hk : pc = k := by simpa using hk
      cases h
      subst hk
      exact List.mem_cons_self
    · exact List.mem_cons_of_mem _ (ih h)
theorem pm_at_mem {t : pm_T} {pc : Nat} {r : pm_I} (h : pm_at t pc = some r) : (pc, r) ∈ t.flatten := by
  unfold pm_at at h
  have h1 := pm_lookup_mem h
  rw [List.getD_eq_getElem?_getD] at h1
  cases hl : t[pc / 32]? with
  | none => rw [hl] at h1; cases h1
  | some l =>
    rw [hl] at h1
    exact List.mem_flatten.mpr ⟨l, List.mem_of_getElem? hl, h1⟩
theorem pm_good_of (h : ∀ m, pm_chk m = true) : pm_good_G pm_g pm_mi := by
  refine ⟨fun a M hM => ?_, fun m maxL t hg M hM => ?_⟩
  · have h1 := h a
    unfold pm_chk at h1
    rw [hM] at h1
    dsimp only at h1
    rw [Bool.and_eq_true] at h1
    exact h1.1
  · have h1 := h m
    unfold pm_chk at h1
    rw [hM] at h1
    dsimp only at h1
    rw [Bool.and_eq_true, hg] at h1
    have h2 := h1.2
    dsimp only at h2
    rw [Bool.and_eq_true, decide_eq_true_eq] at h2
    exact ⟨h2.1, fun pc r hr => List.all_eq_true.mp h2.2 (pc, r) (pm_at_mem hr)⟩
end
section
/-! printed by program: the methods checked against their bytes and words (part 0) -/
set_option maxRecDepth 100000 in
theorem pm_k0 : pm_chk 0 = true := by decide +kernel
set_option maxRecDepth 100000 in
theorem pm_k1 : pm_chk 1 = true := by decide +kernel
set_option maxRecDepth 100000 in
theorem pm_k2 : pm_chk 2 = true := by decide +kernel
set_option maxRecDepth 100000 in
theorem pm_k3 : pm_chk 3 = true := by decide +kernel
set_option maxRecDepth 100000 in
theorem pm_k4 : pm_chk 4 = true := by decide +kernel
set_option maxRecDepth 100000 in
theorem pm_k5 : pm_chk 5 = true := by decide +kernel
set_option maxRecDepth 100000 in
theorem pm_k6 : pm_chk 6 = true := by decide +kernel
set_option maxRecDepth 100000 in
theorem pm_k7 : pm_chk 7 = true := by decide +kernel
set_option maxRecDepth 100000 in
theorem pm_k8 : pm_chk 8 = true := by decide +kernel
set_option maxRecDepth 100000 in
theorem pm_k9 : pm_chk 9 = true := by decide +kernel
set_option maxRecDepth 100000 in
theorem pm_k10 : pm_chk 10 = true := by decide +kernel
set_option maxRecDepth 100000 in
theorem pm_k11 : pm_chk 11 = true := by decide +kernel
set_option maxRecDepth 100000 in
theorem pm_k12 : pm_chk 12 = true := by decide +kernel
set_option maxRecDepth 100000 in
theorem pm_k13 : pm_chk 13 = true := by decide +kernel
set_option maxRecDepth 100000 in
theorem pm_k14 : pm_chk 14 = true := by decide +kernel
set_option maxRecDepth 100000 in
theorem pm_k15 : pm_chk 15 = true := by decide +kernel
set_option maxRecDepth 100000 in
theorem pm_k16 : pm_chk 16 = true := by decide +kernel
set_option maxRecDepth 100000 in
theorem pm_k17 : pm_chk 17 = true := by decide +kernel
set_option maxRecDepth 100000 in
theorem pm_k18 : pm_chk 18 = true := by decide +kernel
set_option maxRecDepth 100000 in
theorem pm_k19 : pm_chk 19 = true := by decide +kernel
set_option maxRecDepth 100000 in
theorem pm_k20 : pm_chk 20 = true := by decide +kernel
set_option maxRecDepth 100000 in
theorem pm_k21 : pm_chk 21 = true := by decide +kernel
set_option maxRecDepth 100000 in
theorem pm_k22 : pm_chk 22 = true := by decide +kernel
set_option maxRecDepth 100000 in
theorem pm_k23 : pm_chk 23 = true := by decide +kernel
set_option maxRecDepth 100000 in
theorem pm_k24 : pm_chk 24 = true := by decide +kernel
set_option maxRecDepth 100000 in
theorem pm_k25 : pm_chk 25 = true := by decide +kernel
set_option maxRecDepth 100000 in
theorem pm_k26 : pm_chk 26 = true := by decide +kernel
set_option maxRecDepth 100000 in
theorem pm_k27 : pm_chk 27 = true := by decide +kernel
set_option maxRecDepth 100000 in
theorem pm_k28 : pm_chk 28 = true := by decide +kernel
set_option maxRecDepth 100000 in
theorem pm_k29 : pm_chk 29 = true := by decide +kernel
set_option maxRecDepth 100000 in
theorem pm_k30 : pm_chk 30 = true := by decide +kernel
set_option maxRecDepth 100000 in
theorem pm_k31 : pm_chk 31 = true := by decide +kernel
set_option maxRecDepth 100000 in
theorem pm_k32 : pm_chk 32 = true := by decide +kernel
set_option maxRecDepth 100000 in
theorem pm_k33 : pm_chk 33 = true := by decide +kernel
set_option maxRecDepth 100000 in
theorem pm_k34 : pm_chk 34 = true := by decide +kernel
set_option maxRecDepth 100000 in
theorem pm_k35 : pm_chk 35 = true := by decide +kernel
set_option maxRecDepth 100000 in
theorem pm_k36 : pm_chk 36 = true := by decide +kernel
set_option maxRecDepth 100000 in
theorem pm_k37 : pm_chk 37 = true := by decide +kernel
set_option maxRecDepth 100000 in
theorem pm_k38 : pm_chk 38 = true := by decide +kernel
set_option maxRecDepth 100000 in
theorem pm_k39 : pm_chk 39 = true := by decide +kernel
set_option maxRecDepth 100000 in
theorem pm_k40 : pm_chk 40 = true := by decide +kernel
set_option maxRecDepth 100000 in
theorem pm_k41 : pm_chk 41 = true := by decide +kernel
set_option maxRecDepth 100000 in
theorem pm_k42 : pm_chk 42 = true := by decide +kernel
set_option maxRecDepth 100000 in
theorem pm_k43 : pm_chk 43 = true := by decide +kernel
set_option maxRecDepth 100000 in
theorem pm_k44 : pm_chk 44 = true := by decide +kernel
set_option maxRecDepth 100000 in
theorem pm_k45 : pm_chk 45 = true := by decide +kernel
set_option maxRecDepth 100000 in
theorem pm_k46 : pm_chk 46 = true := by decide +kernel
set_option maxRecDepth 100000 in
theorem pm_k47 : pm_chk 47 = true := by decide +kernel
end
section
/-! printed by program: the methods checked against their bytes and words (part 1) -/
set_option maxRecDepth 100000 in
theorem pm_k48 : pm_chk 48 = true := by decide +kernel
set_option maxRecDepth 100000 in
theorem pm_k49 : pm_chk 49 = true := by decide +kernel
set_option maxRecDepth 100000 in
theorem pm_k50 : pm_chk 50 = true := by decide +kernel
set_option maxRecDepth 100000 in
theorem pm_k51 : pm_chk 51 = true := by decide +kernel
set_option maxRecDepth 100000 in
theorem pm_k52 : pm_chk 52 = true := by decide +kernel
set_option maxRecDepth 100000 in
theorem pm_k53 : pm_chk 53 = true := by decide +kernel
set_option maxRecDepth 100000 in
theorem pm_k54 : pm_chk 54 = true := by decide +kernel
set_option maxRecDepth 100000 in
theorem pm_k55 : pm_chk 55 = true := by decide +kernel
set_option maxRecDepth 100000 in
theorem pm_k56 : pm_chk 56 = true := by decide +kernel
set_option maxRecDepth 100000 in
theorem pm_k57 : pm_chk 57 = true := by decide +kernel
set_option maxRecDepth 100000 in
theorem pm_k58 : pm_chk 58 = true := by decide +kernel
set_option maxRecDepth 100000 in
theorem pm_k59 : pm_chk 59 = true := by decide +kernel
set_option maxRecDepth 100000 in
theorem pm_k60 : pm_chk 60 = true := by decide +kernel
set_option maxRecDepth 100000 in
theorem pm_k61 : pm_chk 61 = true := by decide +kernel
set_option maxRecDepth 100000 in
theorem pm_k62 : pm_chk 62 = true := by decide +kernel
set_option maxRecDepth 100000 in
theorem pm_k63 : pm_chk 63 = true := by decide +kernel
set_option maxRecDepth 100000 in
theorem pm_k64 : pm_chk 64 = true := by decide +kernel
set_option maxRecDepth 100000 in
theorem pm_k65 : pm_chk 65 = true := by decide +kernel
set_option maxRecDepth 100000 in
theorem pm_k66 : pm_chk 66 = true := by decide +kernel
set_option maxRecDepth 100000 in
theorem pm_k67 : pm_chk 67 = true := by decide +kernel
set_option maxRecDepth 100000 in
theorem pm_k68 : pm_chk 68 = true := by decide +kernel
set_option maxRecDepth 100000 in
theorem pm_k69 : pm_chk 69 = true := by decide +kernel
set_option maxRecDepth 100000 in
theorem pm_k70 : pm_chk 70 = true := by decide +kernel
set_option maxRecDepth 100000 in
theorem pm_k71 : pm_chk 71 = true := by decide +kernel
set_option maxRecDepth 100000 in
theorem pm_k72 : pm_chk 72 = true := by decide +kernel
set_option maxRecDepth 100000 in
theorem pm_k73 : pm_chk 73 = true := by decide +kernel
set_option maxRecDepth 100000 in
theorem pm_k74 : pm_chk 74 = true := by decide +kernel
set_option maxRecDepth 100000 in
theorem pm_k75 : pm_chk 75 = true := by decide +kernel
set_option maxRecDepth 100000 in
theorem pm_k76 : pm_chk 76 = true := by decide +kernel
set_option maxRecDepth 100000 in
theorem pm_k77 : pm_chk 77 = true := by decide +kernel
set_option maxRecDepth 100000 in
theorem pm_k78 : pm_chk 78 = true := by decide +kernel
set_option maxRecDepth 100000 in
theorem pm_k79 : pm_chk 79 = true := by decide +kernel
set_option maxRecDepth 100000 in
theorem pm_k80 : pm_chk 80 = true := by decide +kernel
set_option maxRecDepth 100000 in
theorem pm_k81 : pm_chk 81 = true := by decide +kernel
set_option maxRecDepth 100000 in
theorem pm_k82 : pm_chk 82 = true := by decide +kernel
set_option maxRecDepth 100000 in
theorem pm_k83 : pm_chk 83 = true := by decide +kernel
set_option maxRecDepth 100000 in
theorem pm_k84 : pm_chk 84 = true := by decide +kernel
set_option maxRecDepth 100000 in
theorem pm_k85 : pm_chk 85 = true := by decide +kernel
set_option maxRecDepth 100000 in
theorem pm_k86 : pm_chk 86 = true := by decide +kernel
set_option maxRecDepth 100000 in
theorem pm_k87 : pm_chk 87 = true := by decide +kernel
set_option maxRecDepth 100000 in
theorem pm_k88 : pm_chk 88 = true := by decide +kernel
set_option maxRecDepth 100000 in
theorem pm_k89 : pm_chk 89 = true := by decide +kernel
set_option maxRecDepth 100000 in
theorem pm_k90 : pm_chk 90 = true := by decide +kernel
set_option maxRecDepth 100000 in
theorem pm_k91 : pm_chk 91 = true := by decide +kernel
set_option maxRecDepth 100000 in
theorem pm_k92 : pm_chk 92 = true := by decide +kernel
set_option maxRecDepth 100000 in
theorem pm_k93 : pm_chk 93 = true := by decide +kernel
set_option maxRecDepth 100000 in
theorem pm_k94 : pm_chk 94 = true := by decide +kernel
set_option maxRecDepth 100000 in
theorem pm_k95 : pm_chk 95 = true := by decide +kernel
end
section
/-! printed by program: the methods checked against their bytes and words (part 2) -/
set_option maxRecDepth 100000 in
theorem pm_k96 : pm_chk 96 = true := by decide +kernel
set_option maxRecDepth 100000 in
theorem pm_k97 : pm_chk 97 = true := by decide +kernel
set_option maxRecDepth 100000 in
theorem pm_k98 : pm_chk 98 = true := by decide +kernel
set_option maxRecDepth 100000 in
theorem pm_k99 : pm_chk 99 = true := by decide +kernel
set_option maxRecDepth 100000 in
theorem pm_k100 : pm_chk 100 = true := by decide +kernel
set_option maxRecDepth 100000 in
theorem pm_k101 : pm_chk 101 = true := by decide +kernel
set_option maxRecDepth 100000 in
theorem pm_k102 : pm_chk 102 = true := by decide +kernel
set_option maxRecDepth 100000 in
theorem pm_k103 : pm_chk 103 = true := by decide +kernel
set_option maxRecDepth 100000 in
theorem pm_k104 : pm_chk 104 = true := by decide +kernel
set_option maxRecDepth 100000 in
theorem pm_k105 : pm_chk 105 = true := by decide +kernel
set_option maxRecDepth 100000 in
theorem pm_k106 : pm_chk 106 = true := by decide +kernel
set_option maxRecDepth 100000 in
theorem pm_k107 : pm_chk 107 = true := by decide +kernel
set_option maxRecDepth 100000 in
theorem pm_k108 : pm_chk 108 = true := by decide +kernel
set_option maxRecDepth 100000 in
theorem pm_k109 : pm_chk 109 = true := by decide +kernel
set_option maxRecDepth 100000 in
theorem pm_k110 : pm_chk 110 = true := by decide +kernel
set_option maxRecDepth 100000 in
theorem pm_k111 : pm_chk 111 = true := by decide +kernel
set_option maxRecDepth 100000 in
theorem pm_k112 : pm_chk 112 = true := by decide +kernel
set_option maxRecDepth 100000 in
theorem pm_k113 : pm_chk 113 = true := by decide +kernel
set_option maxRecDepth 100000 in
theorem pm_k114 : pm_chk 114 = true := by decide +kernel
set_option maxRecDepth 100000 in
theorem pm_k115 : pm_chk 115 = true := by decide +kernel
set_option maxRecDepth 100000 in
theorem pm_k116 : pm_chk 116 = true := by decide +kernel
set_option maxRecDepth 100000 in
theorem pm_k117 : pm_chk 117 = true := by decide +kernel
set_option maxRecDepth 100000 in
theorem pm_k118 : pm_chk 118 = true := by decide +kernel
set_option maxRecDepth 100000 in
theorem pm_k119 : pm_chk 119 = true := by decide +kernel
set_option maxRecDepth 100000 in
theorem pm_k120 : pm_chk 120 = true := by decide +kernel
set_option maxRecDepth 100000 in
theorem pm_k121 : pm_chk 121 = true := by decide +kernel
set_option maxRecDepth 100000 in
theorem pm_k122 : pm_chk 122 = true := by decide +kernel
set_option maxRecDepth 100000 in
theorem pm_k123 : pm_chk 123 = true := by decide +kernel
set_option maxRecDepth 100000 in
theorem pm_k124 : pm_chk 124 = true := by decide +kernel
set_option maxRecDepth 100000 in
theorem pm_k125 : pm_chk 125 = true := by decide +kernel
set_option maxRecDepth 100000 in
theorem pm_k126 : pm_chk 126 = true := by decide +kernel
set_option maxRecDepth 100000 in
theorem pm_k127 : pm_chk 127 = true := by decide +kernel
set_option maxRecDepth 100000 in
theorem pm_k128 : pm_chk 128 = true := by decide +kernel
set_option maxRecDepth 100000 in
theorem pm_k129 : pm_chk 129 = true := by decide +kernel
set_option maxRecDepth 100000 in
theorem pm_k130 : pm_chk 130 = true := by decide +kernel
set_option maxRecDepth 100000 in
theorem pm_k131 : pm_chk 131 = true := by decide +kernel
set_option maxRecDepth 100000 in
theorem pm_k132 : pm_chk 132 = true := by decide +kernel
set_option maxRecDepth 100000 in
theorem pm_k133 : pm_chk 133 = true := by decide +kernel
set_option maxRecDepth 100000 in
theorem pm_k134 : pm_chk 134 = true := by decide +kernel
set_option maxRecDepth 100000 in
theorem pm_k135 : pm_chk 135 = true := by decide +kernel
set_option maxRecDepth 100000 in
theorem pm_k136 : pm_chk 136 = true := by decide +kernel
set_option maxRecDepth 100000 in
theorem pm_k137 : pm_chk 137 = true := by decide +kernel
set_option maxRecDepth 100000 in
theorem pm_k138 : pm_chk 138 = true := by decide +kernel
set_option maxRecDepth 100000 in
theorem pm_k139 : pm_chk 139 = true := by decide +kernel
set_option maxRecDepth 100000 in
theorem pm_k140 : pm_chk 140 = true := by decide +kernel
set_option maxRecDepth 100000 in
theorem pm_k141 : pm_chk 141 = true := by decide +kernel
set_option maxRecDepth 100000 in
theorem pm_k142 : pm_chk 142 = true := by decide +kernel
set_option maxRecDepth 100000 in
theorem pm_k143 : pm_chk 143 = true := by decide +kernel
end
section
/-! printed by program: the methods checked against their bytes and words (part 3) -/
set_option maxRecDepth 100000 in
theorem pm_k144 : pm_chk 144 = true := by decide +kernel
set_option maxRecDepth 100000 in
theorem pm_k145 : pm_chk 145 = true := by decide +kernel
set_option maxRecDepth 100000 in
theorem pm_k146 : pm_chk 146 = true := by decide +kernel
set_option maxRecDepth 100000 in
theorem pm_k147 : pm_chk 147 = true := by decide +kernel
set_option maxRecDepth 100000 in
theorem pm_k148 : pm_chk 148 = true := by decide +kernel
set_option maxRecDepth 100000 in
theorem pm_k149 : pm_chk 149 = true := by decide +kernel
set_option maxRecDepth 100000 in
theorem pm_k150 : pm_chk 150 = true := by decide +kernel
set_option maxRecDepth 100000 in
theorem pm_k151 : pm_chk 151 = true := by decide +kernel
set_option maxRecDepth 100000 in
theorem pm_k152 : pm_chk 152 = true := by decide +kernel
set_option maxRecDepth 100000 in
theorem pm_k153 : pm_chk 153 = true := by decide +kernel
set_option maxRecDepth 100000 in
theorem pm_k154 : pm_chk 154 = true := by decide +kernel
set_option maxRecDepth 100000 in
theorem pm_k155 : pm_chk 155 = true := by decide +kernel
set_option maxRecDepth 100000 in
theorem pm_k156 : pm_chk 156 = true := by decide +kernel
set_option maxRecDepth 100000 in
theorem pm_k157 : pm_chk 157 = true := by decide +kernel
set_option maxRecDepth 100000 in
theorem pm_k158 : pm_chk 158 = true := by decide +kernel
set_option maxRecDepth 100000 in
theorem pm_k159 : pm_chk 159 = true := by decide +kernel
set_option maxRecDepth 100000 in
theorem pm_k160 : pm_chk 160 = true := by decide +kernel
set_option maxRecDepth 100000 in
theorem pm_k161 : pm_chk 161 = true := by decide +kernel
set_option maxRecDepth 100000 in
theorem pm_k162 : pm_chk 162 = true := by decide +kernel
set_option maxRecDepth 100000 in
theorem pm_k163 : pm_chk 163 = true := by decide +kernel
set_option maxRecDepth 100000 in
theorem pm_k164 : pm_chk 164 = true := by decide +kernel
set_option maxRecDepth 100000 in
theorem pm_k165 : pm_chk 165 = true := by decide +kernel
set_option maxRecDepth 100000 in
theorem pm_k166 : pm_chk 166 = true := by decide +kernel
set_option maxRecDepth 100000 in
theorem pm_k167 : pm_chk 167 = true := by decide +kernel
set_option maxRecDepth 100000 in
theorem pm_k168 : pm_chk 168 = true := by decide +kernel
set_option maxRecDepth 100000 in
theorem pm_k169 : pm_chk 169 = true := by decide +kernel
set_option maxRecDepth 100000 in
theorem pm_k170 : pm_chk 170 = true := by decide +kernel
set_option maxRecDepth 100000 in
theorem pm_k171 : pm_chk 171 = true := by decide +kernel
set_option maxRecDepth 100000 in
theorem pm_k172 : pm_chk 172 = true := by decide +kernel
set_option maxRecDepth 100000 in
theorem pm_k173 : pm_chk 173 = true := by decide +kernel
set_option maxRecDepth 100000 in
theorem pm_k174 : pm_chk 174 = true := by decide +kernel
set_option maxRecDepth 100000 in
theorem pm_k175 : pm_chk 175 = true := by decide +kernel
set_option maxRecDepth 100000 in
theorem pm_k176 : pm_chk 176 = true := by decide +kernel
set_option maxRecDepth 100000 in
theorem pm_k177 : pm_chk 177 = true := by decide +kernel
set_option maxRecDepth 100000 in
theorem pm_k178 : pm_chk 178 = true := by decide +kernel
set_option maxRecDepth 100000 in
theorem pm_k179 : pm_chk 179 = true := by decide +kernel
set_option maxRecDepth 100000 in
theorem pm_k180 : pm_chk 180 = true := by decide +kernel
set_option maxRecDepth 100000 in
theorem pm_k181 : pm_chk 181 = true := by decide +kernel
set_option maxRecDepth 100000 in
theorem pm_k182 : pm_chk 182 = true := by decide +kernel
set_option maxRecDepth 100000 in
theorem pm_k183 : pm_chk 183 = true := by decide +kernel
set_option maxRecDepth 100000 in
theorem pm_k184 : pm_chk 184 = true := by decide +kernel
set_option maxRecDepth 100000 in
theorem pm_k185 : pm_chk 185 = true := by decide +kernel
set_option maxRecDepth 100000 in
theorem pm_k186 : pm_chk 186 = true := by decide +kernel
set_option maxRecDepth 100000 in
theorem pm_k187 : pm_chk 187 = true := by decide +kernel
set_option maxRecDepth 100000 in
theorem pm_k188 : pm_chk 188 = true := by decide +kernel
set_option maxRecDepth 100000 in
theorem pm_k189 : pm_chk 189 = true := by decide +kernel
set_option maxRecDepth 100000 in
theorem pm_k190 : pm_chk 190 = true := by decide +kernel
set_option maxRecDepth 100000 in
theorem pm_k191 : pm_chk 191 = true := by decide +kernel
end
section
/-! printed by program: the methods checked against their bytes and words (part 4) -/
set_option maxRecDepth 100000 in
theorem pm_k192 : pm_chk 192 = true := by decide +kernel
set_option maxRecDepth 100000 in
theorem pm_k193 : pm_chk 193 = true := by decide +kernel
set_option maxRecDepth 100000 in
theorem pm_k194 : pm_chk 194 = true := by decide +kernel
set_option maxRecDepth 100000 in
theorem pm_k195 : pm_chk 195 = true := by decide +kernel
set_option maxRecDepth 100000 in
theorem pm_k196 : pm_chk 196 = true := by decide +kernel
set_option maxRecDepth 100000 in
theorem pm_k197 : pm_chk 197 = true := by decide +kernel
set_option maxRecDepth 100000 in
theorem pm_k198 : pm_chk 198 = true := by decide +kernel
set_option maxRecDepth 100000 in
theorem pm_k199 : pm_chk 199 = true := by decide +kernel
set_option maxRecDepth 100000 in
theorem pm_k200 : pm_chk 200 = true := by decide +kernel
set_option maxRecDepth 100000 in
theorem pm_k201 : pm_chk 201 = true := by decide +kernel
set_option maxRecDepth 100000 in
theorem pm_k202 : pm_chk 202 = true := by decide +kernel
set_option maxRecDepth 100000 in
theorem pm_k203 : pm_chk 203 = true := by decide +kernel
set_option maxRecDepth 100000 in
theorem pm_k204 : pm_chk 204 = true := by decide +kernel
set_option maxRecDepth 100000 in
theorem pm_k205 : pm_chk 205 = true := by decide +kernel
set_option maxRecDepth 100000 in
theorem pm_k206 : pm_chk 206 = true := by decide +kernel
set_option maxRecDepth 100000 in
theorem pm_k207 : pm_chk 207 = true := by decide +kernel
set_option maxRecDepth 100000 in
theorem pm_k208 : pm_chk 208 = true := by decide +kernel
set_option maxRecDepth 100000 in
theorem pm_k209 : pm_chk 209 = true := by decide +kernel
set_option maxRecDepth 100000 in
theorem pm_k210 : pm_chk 210 = true := by decide +kernel
set_option maxRecDepth 100000 in
theorem pm_k211 : pm_chk 211 = true := by decide +kernel
set_option maxRecDepth 100000 in
theorem pm_k212 : pm_chk 212 = true := by decide +kernel
set_option maxRecDepth 100000 in
theorem pm_k213 : pm_chk 213 = true := by decide +kernel
set_option maxRecDepth 100000 in
theorem pm_k214 : pm_chk 214 = true := by decide +kernel
set_option maxRecDepth 100000 in
theorem pm_k215 : pm_chk 215 = true := by decide +kernel
set_option maxRecDepth 100000 in
theorem pm_k216 : pm_chk 216 = true := by decide +kernel
set_option maxRecDepth 100000 in
theorem pm_k217 : pm_chk 217 = true := by decide +kernel
set_option maxRecDepth 100000 in
theorem pm_k218 : pm_chk 218 = true := by decide +kernel
set_option maxRecDepth 100000 in
theorem pm_k219 : pm_chk 219 = true := by decide +kernel
set_option maxRecDepth 100000 in
theorem pm_k220 : pm_chk 220 = true := by decide +kernel
set_option maxRecDepth 100000 in
theorem pm_k221 : pm_chk 221 = true := by decide +kernel
set_option maxRecDepth 100000 in
theorem pm_k222 : pm_chk 222 = true := by decide +kernel
set_option maxRecDepth 100000 in
theorem pm_k223 : pm_chk 223 = true := by decide +kernel
set_option maxRecDepth 100000 in
theorem pm_k224 : pm_chk 224 = true := by decide +kernel
set_option maxRecDepth 100000 in
theorem pm_k225 : pm_chk 225 = true := by decide +kernel
set_option maxRecDepth 100000 in
theorem pm_k226 : pm_chk 226 = true := by decide +kernel
set_option maxRecDepth 100000 in
theorem pm_k227 : pm_chk 227 = true := by decide +kernel
set_option maxRecDepth 100000 in
theorem pm_k228 : pm_chk 228 = true := by decide +kernel
set_option maxRecDepth 100000 in
theorem pm_k229 : pm_chk 229 = true := by decide +kernel
set_option maxRecDepth 100000 in
theorem pm_k230 : pm_chk 230 = true := by decide +kernel
set_option maxRecDepth 100000 in
theorem pm_k231 : pm_chk 231 = true := by decide +kernel
set_option maxRecDepth 100000 in
theorem pm_k232 : pm_chk 232 = true := by decide +kernel
set_option maxRecDepth 100000 in
theorem pm_k233 : pm_chk 233 = true := by decide +kernel
set_option maxRecDepth 100000 in
theorem pm_k234 : pm_chk 234 = true := by decide +kernel
set_option maxRecDepth 100000 in
theorem pm_k235 : pm_chk 235 = true := by decide +kernel
set_option maxRecDepth 100000 in
theorem pm_k236 : pm_chk 236 = true := by decide +kernel
set_option maxRecDepth 100000 in
theorem pm_k237 : pm_chk 237 = true := by decide +kernel
set_option maxRecDepth 100000 in
theorem pm_k238 : pm_chk 238 = true := by decide +kernel
set_option maxRecDepth 100000 in
theorem pm_k239 : pm_chk 239 = true := by decide +kernel
end
section
/-! printed by program: the methods checked against their bytes and words (part 5) -/
set_option maxRecDepth 100000 in
theorem pm_k240 : pm_chk 240 = true := by decide +kernel
set_option maxRecDepth 100000 in
theorem pm_k241 : pm_chk 241 = true := by decide +kernel
set_option maxRecDepth 100000 in
theorem pm_k242 : pm_chk 242 = true := by decide +kernel
set_option maxRecDepth 100000 in
theorem pm_k243 : pm_chk 243 = true := by decide +kernel
set_option maxRecDepth 100000 in
theorem pm_k244 : pm_chk 244 = true := by decide +kernel
set_option maxRecDepth 100000 in
theorem pm_k245 : pm_chk 245 = true := by decide +kernel
theorem pm_k_no {m : Nat} (h : 246 ≤ m) : pm_chk m = true := by
  have e : pm_mi m = none := by
    unfold pm_mi
    by_cases h2 : m / 16 < 16
    · have e1 : m / 16 = 15 := by omega
      rw [e1]
      have e2 : 6 ≤ m % 16 := by omega
      exact List.getElem?_eq_none (by show pm_mi15.length ≤ _; exact e2)
    · have e1 : pm_mis[m / 16]? = none := List.getElem?_eq_none (by show 16 ≤ _; omega)
      rw [List.getD_eq_getElem?_getD, e1]
      rfl
  unfold pm_chk
  rw [e]
theorem pm_kc0 : ∀ i, i < 16 → pm_chk (0 + i) = true
  | 0, _ => pm_k0
  | 1, _ => pm_k1
  | 2, _ => pm_k2
  | 3, _ => pm_k3
  | 4, _ => pm_k4
  | 5, _ => pm_k5
  | 6, _ => pm_k6
  | 7, _ => pm_k7
  | 8, _ => pm_k8
  | 9, _ => pm_k9
  | 10, _ => pm_k10
  | 11, _ => pm_k11
  | 12, _ => pm_k12
  | 13, _ => pm_k13
  | 14, _ => pm_k14
  | 15, _ => pm_k15
  | n + 16, h => absurd h (by omega)
theorem pm_kc1 : ∀ i, i < 16 → pm_chk (16 + i) = true
  | 0, _ => pm_k16
  | 1, _ => pm_k17
  | 2, _ => pm_k18
  | 3, _ => pm_k19
  | 4, _ => pm_k20
  | 5, _ => pm_k21
  | 6, _ => pm_k22
  | 7, _ => pm_k23
  | 8, _ => pm_k24
  | 9, _ => pm_k25
  | 10, _ => pm_k26
  | 11, _ => pm_k27
  | 12, _ => pm_k28
  | 13, _ => pm_k29
  | 14, _ => pm_k30
  | 15, _ => pm_k31
  | n + 16, h => absurd h (by omega)
theorem pm_kc2 : ∀ i, i < 16 → pm_chk (32 + i) = true
  | 0, _ => pm_k32
  | 1, _ => pm_k33
  | 2, _ => pm_k34
  | 3, _ => pm_k35
  | 4, _ => pm_k36
  | 5, _ => pm_k37
  | 6, _ => pm_k38
  | 7, _ => pm_k39
  | 8, _ => pm_k40
  | 9, _ => pm_k41
  | 10, _ => pm_k42
  | 11, _ => pm_k43
  | 12, _ => pm_k44
  | 13, _ => pm_k45
  | 14, _ => pm_k46
  | 15, _ => pm_k47
  | n + 16, h => absurd h (by omega)
theorem pm_kc3 : ∀ i, i < 16 → pm_chk (48 + i) = true
  | 0, _ => pm_k48
  | 1, _ => pm_k49
  | 2, _ => pm_k50
  | 3, _ => pm_k51
  | 4, _ => pm_k52
  | 5, _ => pm_k53
  | 6, _ => pm_k54
  | 7, _ => pm_k55
  | 8, _ => pm_k56
  | 9, _ => pm_k57
  | 10, _ => pm_k58
  | 11, _ => pm_k59
  | 12, _ => pm_k60
  | 13, _ => pm_k61
  | 14, _ => pm_k62
  | 15, _ => pm_k63
  | n + 16, h => absurd h (by omega)
theorem pm_kc4 : ∀ i, i < 16 → pm_chk (64 + i) = true
  | 0, _ => pm_k64
  | 1, _ => pm_k65
  | 2, _ => pm_k66
  | 3, _ => pm_k67
  | 4, _ => pm_k68
  | 5, _ => pm_k69
  | 6, _ => pm_k70
  | 7, _ => pm_k71
  | 8, _ => pm_k72
  | 9, _ => pm_k73
  | 10, _ => pm_k74
  | 11, _ => pm_k75
  | 12, _ => pm_k76
  | 13, _ => pm_k77
  | 14, _ => pm_k78
  | 15, _ => pm_k79
  | n + 16, h => absurd h (by omega)
theorem pm_kc5 : ∀ i, i < 16 → pm_chk (80 + i) = true
  | 0, _ => pm_k80
  | 1, _ => pm_k81
  | 2, _ => pm_k82
  | 3, _ => pm_k83
  | 4, _ => pm_k84
  | 5, _ => pm_k85
  | 6, _ => pm_k86
  | 7, _ => pm_k87
  | 8, _ => pm_k88
  | 9, _ => pm_k89
  | 10, _ => pm_k90
  | 11, _ => pm_k91
  | 12, _ => pm_k92
  | 13, _ => pm_k93
  | 14, _ => pm_k94
  | 15, _ => pm_k95
  | n + 16, h => absurd h (by omega)
theorem pm_kc6 : ∀ i, i < 16 → pm_chk (96 + i) = true
  | 0, _ => pm_k96
  | 1, _ => pm_k97
  | 2, _ => pm_k98
  | 3, _ => pm_k99
  | 4, _ => pm_k100
  | 5, _ => pm_k101
  | 6, _ => pm_k102
  | 7, _ => pm_k103
  | 8, _ => pm_k104
  | 9, _ => pm_k105
  | 10, _ => pm_k106
  | 11, _ => pm_k107
  | 12, _ => pm_k108
  | 13, _ => pm_k109
  | 14, _ => pm_k110
  | 15, _ => pm_k111
  | n + 16, h => absurd h (by omega)
theorem pm_kc7 : ∀ i, i < 16 → pm_chk (112 + i) = true
  | 0, _ => pm_k112
  | 1, _ => pm_k113
  | 2, _ => pm_k114
  | 3, _ => pm_k115
  | 4, _ => pm_k116
  | 5, _ => pm_k117
  | 6, _ => pm_k118
  | 7, _ => pm_k119
  | 8, _ => pm_k120
  | 9, _ => pm_k121
  | 10, _ => pm_k122
  | 11, _ => pm_k123
  | 12, _ => pm_k124
  | 13, _ => pm_k125
  | 14, _ => pm_k126
  | 15, _ => pm_k127
  | n + 16, h => absurd h (by omega)
theorem pm_kc8 : ∀ i, i < 16 → pm_chk (128 + i) = true
  | 0, _ => pm_k128
  | 1, _ => pm_k129
  | 2, _ => pm_k130
  | 3, _ => pm_k131
  | 4, _ => pm_k132
  | 5, _ => pm_k133
  | 6, _ => pm_k134
  | 7, _ => pm_k135
  | 8, _ => pm_k136
  | 9, _ => pm_k137
  | 10, _ => pm_k138
  | 11, _ => pm_k139
  | 12, _ => pm_k140
  | 13, _ => pm_k141
  | 14, _ => pm_k142
  | 15, _ => pm_k143
  | n + 16, h => absurd h (by omega)
theorem pm_kc9 : ∀ i, i < 16 → pm_chk (144 + i) = true
  | 0, _ => pm_k144
  | 1, _ => pm_k145
  | 2, _ => pm_k146
  | 3, _ => pm_k147
  | 4, _ => pm_k148
  | 5, _ => pm_k149
  | 6, _ => pm_k150
  | 7, _ => pm_k151
  | 8, _ => pm_k152
  | 9, _ => pm_k153
  | 10, _ => pm_k154
  | 11, _ => pm_k155
  | 12, _ => pm_k156
  | 13, _ => pm_k157
  | 14, _ => pm_k158
  | 15, _ => pm_k159
  | n + 16, h => absurd h (by omega)
theorem pm_kc10 : ∀ i, i < 16 → pm_chk (160 + i) = true
  | 0, _ => pm_k160
  | 1, _ => pm_k161
  | 2, _ => pm_k162
  | 3, _ => pm_k163
  | 4, _ => pm_k164
  | 5, _ => pm_k165
  | 6, _ => pm_k166
  | 7, _ => pm_k167
  | 8, _ => pm_k168
  | 9, _ => pm_k169
  | 10, _ => pm_k170
  | 11, _ => pm_k171
  | 12, _ => pm_k172
  | 13, _ => pm_k173
  | 14, _ => pm_k174
  | 15, _ => pm_k175
  | n + 16, h => absurd h (by omega)
theorem pm_kc11 : ∀ i, i < 16 → pm_chk (176 + i) = true
  | 0, _ => pm_k176
  | 1, _ => pm_k177
  | 2, _ => pm_k178
  | 3, _ => pm_k179
  | 4, _ => pm_k180
  | 5, _ => pm_k181
  | 6, _ => pm_k182
  | 7, _ => pm_k183
  | 8, _ => pm_k184
  | 9, _ => pm_k185
  | 10, _ => pm_k186
  | 11, _ => pm_k187
  | 12, _ => pm_k188
  | 13, _ => pm_k189
  | 14, _ => pm_k190
  | 15, _ => pm_k191
  | n + 16, h => absurd h (by omega)
theorem pm_kc12 : ∀ i, i < 16 → pm_chk (192 + i) = true
  | 0, _ => pm_k192
  | 1, _ => pm_k193
  | 2, _ => pm_k194
  | 3, _ => pm_k195
  | 4, _ => pm_k196
  | 5, _ => pm_k197
  | 6, _ => pm_k198
  | 7, _ => pm_k199
  | 8, _ => pm_k200
  | 9, _ => pm_k201
  | 10, _ => pm_k202
  | 11, _ => pm_k203
  | 12, _ => pm_k204
  | 13, _ => pm_k205
  | 14, _ => pm_k206
  | 15, _ => pm_k207
  | n + 16, h => absurd h (by omega)
theorem pm_kc13 : ∀ i, i < 16 → pm_chk (208 + i) = true
  | 0, _ => pm_k208
  | 1, _ => pm_k209
  | 2, _ => pm_k210
  | 3, _ => pm_k211
  | 4, _ => pm_k212
  | 5, _ => pm_k213
  | 6, _ => pm_k214
  | 7, _ => pm_k215
  | 8, _ => pm_k216
  | 9, _ => pm_k217
  | 10, _ => pm_k218
  | 11, _ => pm_k219
  | 12, _ => pm_k220
  | 13, _ => pm_k221
  | 14, _ => pm_k222
  | 15, _ => pm_k223
  | n + 16, h => absurd h (by omega)
theorem pm_kc14 : ∀ i, i < 16 → pm_chk (224 + i) = true
  | 0, _ => pm_k224
  | 1, _ => pm_k225
  | 2, _ => pm_k226
  | 3, _ => pm_k227
  | 4, _ => pm_k228
  | 5, _ => pm_k229
  | 6, _ => pm_k230
  | 7, _ => pm_k231
  | 8, _ => pm_k232
  | 9, _ => pm_k233
  | 10, _ => pm_k234
  | 11, _ => pm_k235
  | 12, _ => pm_k236
  | 13, _ => pm_k237
  | 14, _ => pm_k238
  | 15, _ => pm_k239
  | n + 16, h => absurd h (by omega)
theorem pm_kc15 : ∀ i, i < 6 → pm_chk (240 + i) = true
  | 0, _ => pm_k240
  | 1, _ => pm_k241
  | 2, _ => pm_k242
  | 3, _ => pm_k243
  | 4, _ => pm_k244
  | 5, _ => pm_k245
  | n + 6, h => absurd h (by omega)
theorem pm_chk_all : ∀ m, pm_chk m = true := by
  intro m
  by_cases h : 246 ≤ m
  · exact pm_k_no h
  by_cases h0 : m < 16
  · rw [show m = 0 + (m - 0) by omega]
    exact pm_kc0 _ (by omega)
  by_cases h1 : m < 32
  · rw [show m = 16 + (m - 16) by omega]
    exact pm_kc1 _ (by omega)
  by_cases h2 : m < 48
  · rw [show m = 32 + (m - 32) by omega]
    exact pm_kc2 _ (by omega)
  by_cases h3 : m < 64
  · rw [show m = 48 + (m - 48) by omega]
    exact pm_kc3 _ (by omega)
  by_cases h4 : m < 80
  · rw [show m = 64 + (m - 64) by omega]
    exact pm_kc4 _ (by omega)
  by_cases h5 : m < 96
  · rw [show m = 80 + (m - 80) by omega]
    exact pm_kc5 _ (by omega)
  by_cases h6 : m < 112
  · rw [show m = 96 + (m - 96) by omega]
    exact pm_kc6 _ (by omega)
  by_cases h7 : m < 128
  · rw [show m = 112 + (m - 112) by omega]
    exact pm_kc7 _ (by omega)
  by_cases h8 : m < 144
  · rw [show m = 128 + (m - 128) by omega]
    exact pm_kc8 _ (by omega)
  by_cases h9 : m < 160
  · rw [show m = 144 + (m - 144) by omega]
    exact pm_kc9 _ (by omega)
  by_cases h10 : m < 176
  · rw [show m = 160 + (m - 160) by omega]
    exact pm_kc10 _ (by omega)
  by_cases h11 : m < 192
  · rw [show m = 176 + (m - 176) by omega]
    exact pm_kc11 _ (by omega)
  by_cases h12 : m < 208
  · rw [show m = 192 + (m - 192) by omega]
    exact pm_kc12 _ (by omega)
  by_cases h13 : m < 224
  · rw [show m = 208 + (m - 208) by omega]
    exact pm_kc13 _ (by omega)
  by_cases h14 : m < 240
  · rw [show m = 224 + (m - 224) by omega]
    exact pm_kc14 _ (by omega)
  by_cases h15 : m < 246
  · rw [show m = 240 + (m - 240) by omega]
    exact pm_kc15 _ (by omega)
  omega
theorem pm_goodG : pm_good_G pm_g pm_mi := pm_good_of pm_chk_all
end
section
/-! printed by program: the law checked against its bytes and words -/
def pm_lok (q : Nat × pm_I) : Bool := pm_okb pm_mi "EchoFolkLaw" "law" (some .boolean) code q.1 q.2
set_option maxRecDepth 100000 in
theorem pm_kl0 : (List.range 4).all (fun k => (pm_t246.getD (0 + k) []).all pm_lok) = true := by decide +kernel
set_option maxRecDepth 100000 in
theorem pm_kl1 : (List.range 4).all (fun k => (pm_t246.getD (4 + k) []).all pm_lok) = true := by decide +kernel
set_option maxRecDepth 100000 in
theorem pm_kl2 : (List.range 4).all (fun k => (pm_t246.getD (8 + k) []).all pm_lok) = true := by decide +kernel
set_option maxRecDepth 100000 in
theorem pm_kl3 : (List.range 4).all (fun k => (pm_t246.getD (12 + k) []).all pm_lok) = true := by decide +kernel
set_option maxRecDepth 100000 in
theorem pm_kl4 : (List.range 4).all (fun k => (pm_t246.getD (16 + k) []).all pm_lok) = true := by decide +kernel
set_option maxRecDepth 100000 in
theorem pm_kl5 : (List.range 4).all (fun k => (pm_t246.getD (20 + k) []).all pm_lok) = true := by decide +kernel
set_option maxRecDepth 100000 in
theorem pm_kl6 : (List.range 4).all (fun k => (pm_t246.getD (24 + k) []).all pm_lok) = true := by decide +kernel
set_option maxRecDepth 100000 in
theorem pm_kl7 : (List.range 4).all (fun k => (pm_t246.getD (28 + k) []).all pm_lok) = true := by decide +kernel
set_option maxRecDepth 100000 in
theorem pm_kl8 : (List.range 4).all (fun k => (pm_t246.getD (32 + k) []).all pm_lok) = true := by decide +kernel
set_option maxRecDepth 100000 in
theorem pm_kl9 : (List.range 4).all (fun k => (pm_t246.getD (36 + k) []).all pm_lok) = true := by decide +kernel
set_option maxRecDepth 100000 in
theorem pm_kl10 : (List.range 4).all (fun k => (pm_t246.getD (40 + k) []).all pm_lok) = true := by decide +kernel
set_option maxRecDepth 100000 in
theorem pm_kl11 : (List.range 4).all (fun k => (pm_t246.getD (44 + k) []).all pm_lok) = true := by decide +kernel
set_option maxRecDepth 100000 in
theorem pm_kl12 : (List.range 4).all (fun k => (pm_t246.getD (48 + k) []).all pm_lok) = true := by decide +kernel
theorem pm_lg {j b : Nat} {t : pm_T} {r : pm_I} {pc : Nat} (h : (List.range 4).all (fun k => (t.getD (b + k) []).all pm_lok) = true) (h1 : b ≤ pc / 32) (h2 : pc / 32 < b + 4) (hr : pm_at t pc = some r) : pm_lok (pc, r) = true := by
  have h3 := List.all_eq_true.mp h (pc / 32 - b) (List.mem_range.mpr (by omega))
  rw [show b + (pc / 32 - b) = pc / 32 by omega] at h3
  exact List.all_eq_true.mp h3 (pc, r) (pm_lookup_mem hr)
theorem pm_law_rows : ∀ pc r, pm_at pm_t246 pc = some r → pm_okb pm_mi "EchoFolkLaw" "law" (some .boolean) code pc r = true := by
  intro pc r hr
  by_cases h0 : pc / 32 < 4
  · exact pm_lg (j := 0) (b := 0) pm_kl0 (by omega) (by omega) hr
  by_cases h1 : pc / 32 < 8
  · exact pm_lg (j := 0) (b := 4) pm_kl1 (by omega) (by omega) hr
  by_cases h2 : pc / 32 < 12
  · exact pm_lg (j := 0) (b := 8) pm_kl2 (by omega) (by omega) hr
  by_cases h3 : pc / 32 < 16
  · exact pm_lg (j := 0) (b := 12) pm_kl3 (by omega) (by omega) hr
  by_cases h4 : pc / 32 < 20
  · exact pm_lg (j := 0) (b := 16) pm_kl4 (by omega) (by omega) hr
  by_cases h5 : pc / 32 < 24
  · exact pm_lg (j := 0) (b := 20) pm_kl5 (by omega) (by omega) hr
  by_cases h6 : pc / 32 < 28
  · exact pm_lg (j := 0) (b := 24) pm_kl6 (by omega) (by omega) hr
  by_cases h7 : pc / 32 < 32
  · exact pm_lg (j := 0) (b := 28) pm_kl7 (by omega) (by omega) hr
  by_cases h8 : pc / 32 < 36
  · exact pm_lg (j := 0) (b := 32) pm_kl8 (by omega) (by omega) hr
  by_cases h9 : pc / 32 < 40
  · exact pm_lg (j := 0) (b := 36) pm_kl9 (by omega) (by omega) hr
  by_cases h10 : pc / 32 < 44
  · exact pm_lg (j := 0) (b := 40) pm_kl10 (by omega) (by omega) hr
  by_cases h11 : pc / 32 < 48
  · exact pm_lg (j := 0) (b := 44) pm_kl11 (by omega) (by omega) hr
  by_cases h12 : pc / 32 < 52
  · exact pm_lg (j := 0) (b := 48) pm_kl12 (by omega) (by omega) hr
  exfalso
  unfold pm_at at hr
  rw [List.getD_eq_getElem?_getD, List.getElem?_eq_none (by show 50 ≤ _; omega)] at hr
  cases hr
end
section
/-! ===== the start: what the Statement gives, as the plain machine's (the words R_law .. lw_At are the kit's skeleton) ===== -/
def R_law : String := "EchoFolkLaw"
def lw_P (b : Addr) (xs : List Int32) (args : Array Value) (s : State) : Prop := args = #[.ref b] ∧ s.IntsAt b xs ∧ xs.length ≤ 3072 ∧ (Jvm.Cond.and given_1 narrow_1).before args s = true
def lw_Q (_ : Array Value) (s : State) (o : Outcome) (t : State) : Prop := o = .returned (some (.int 1)) ∧ Framed s o t [] 600000 7302250
def lw_Z (below : List Frame) (a : Array Value) (s : State) : State → Prop := fun t => ∃ o, t.status = .running ∧ Ended t below o ∧ lw_Q a s o t
/-- the law's own end, with 1 on the stack, nothing written that was there before, its room as the claim has it -/
theorem lw_ret {p : Program} {l : Launch} {e : Env} {s : State} {m : MethodId} {below : List Frame} {meth : Method} {c : Code} {b : Nat} (hx : p.tables.exec = Jvm.exec) (hb : c.code = code) (hr : meth.sig.returnType = ret) (hlocks : meth.locks = false) {pc : Nat} {H : Heap} {ls : Array Slot} (hdg : decode code pc = .ok (.ireturn, 1)) : W p l e room_1 s m #[Value.ref b] below meth c H [] 600000 7302250 (lw_Z below #[Value.ref b] s) (F0 m pc ls [.int 1]) := by
  intro T hT X
  obtain ⟨fs, hret, hrun, hended, hW, hframe⟩ := X.leave (v := some (.int 1)) (hlocks := hlocks) (fun h => by rw [hr] at h; cases h)
  have hmeth' : T.vm.method? m = some meth := X.method'
  refine ⟨T.setFrames fs, ?_, .returned (some (.int 1)), hrun, hended, rfl, ⟨_, rfl⟩, hW, hframe⟩
  jvm_step X.here [X.here.top, hx, hb, hdg, hmeth', hr, ret, narrow_b1]
  (try refine ⟨rfl, ?_⟩); (try refine ⟨rfl, ?_⟩)
  first | (intro acts; rw [hret _ acts rfl rfl rfl]) | rw [hret _ _ rfl rfl rfl]
  exact Steps.refl _
/-- what holds at the law's entry: the machine, the code, the tables' words (any of lw_tbl by 'hts w (by decide +kernel)'), the script of L ints xs at the cell b, what the Statement gives of the start (any of its parts by flat_of_before) -/
def lw_At (p : Program) (s : State) (m : MethodId) (meth : Method) (c : Code) (b L : Nat) (xs : Nat → Int32) : Prop :=
  p.tables.exec = Jvm.exec ∧ c.code = code ∧ meth.sig.returnType = ret ∧ c.maxLocals = 4 ∧ s.vm.findClass R_law = some m.cls ∧ (∀ w ∈ lw_tbl, w.before #[Value.ref b] s = true) ∧ va_X b L xs s s.heap ∧ b < s.heap.size ∧ meth.locks = false ∧ (Jvm.Cond.and given_1 narrow_1).before #[Value.ref b] s = true

def pm_r0 : pm_A := fun q j => if 3 ≤ q ∧ q < 9 ∧ j = 0 then q + 6 else 0
def pm_ab : List Int32 := [-1, 0, 0, 1, 2, 0]
def pm_byt : List (List Int32) := [[107, 101, 101, 112], [102, 101, 101], [102, 105, 110, 101], [101, 102, 119], [115, 108], [115, 102]]
def pm_bln : List Nat := [4, 3, 4, 3, 2, 2]
def pm_h0 (xs : Nat → Int32) : pm_B := fun q j => if q = 1 then xs j else if q = 2 then pm_ab.getD j 0 else if 9 ≤ q ∧ q < 15 then (pm_byt.getD (q - 9) []).getD j 0 else 0
def pm_tm (i : Nat) : Term := .string "EchoFolk$Parser" ([76, 85, 87, 134, 136, 138].getD i 0)
abbrev pm_T0 : Jvm.Cond := Jvm.Cond.and given_1 narrow_1
set_option maxRecDepth 100000 in
theorem pm_f1 : ∀ i, i < 6 → (Cond.exactly (pm_tm i) "java/lang/String") ∈ flatC pm_T0 := by decide +kernel
set_option maxRecDepth 100000 in
theorem pm_f2 : ∀ i, i < 6 → (Cond.eq (.field (pm_tm i) "java/lang/String" "coder" "B") (.int 0)) ∈ flatC pm_T0 := by decide +kernel
set_option maxRecDepth 100000 in
theorem pm_f3 : ∀ i, i < 6 → (Cond.arrayOf (.field (pm_tm i) "java/lang/String" "value" "[B") .byte) ∈ flatC pm_T0 := by decide +kernel
set_option maxRecDepth 100000 in
theorem pm_f4 : ∀ i, i < 6 → (Cond.eq (.length (.field (pm_tm i) "java/lang/String" "value" "[B")) (.int (Int32.ofNat (pm_bln.getD i 0)))) ∈ flatC pm_T0 := by decide +kernel
set_option maxRecDepth 100000 in
theorem pm_f5 : ∀ i, i < 6 → ∀ j, j < pm_bln.getD i 0 → (Cond.eq (.elem (.field (pm_tm i) "java/lang/String" "value" "[B") (.int (Int32.ofNat j))) (.int ((pm_byt.getD i []).getD j 0))) ∈ flatC pm_T0 := by decide +kernel
set_option maxRecDepth 100000 in
theorem pm_f6 : ∀ i, i < 6 → ∀ j, j < 6 → i ≠ j → (Cond.not (Cond.eq (pm_tm i) (pm_tm j))) ∈ flatC pm_T0 ∨ (Cond.not (Cond.eq (pm_tm j) (pm_tm i))) ∈ flatC pm_T0 := by decide +kernel
set_option maxRecDepth 100000 in
theorem pm_f7 : ∀ j, j < 6 → (Cond.eq (.elem (.static "EchoFolk$Kinds" "ABOVE" "[I") (.int (Int32.ofNat j))) (.int (pm_ab.getD j 0))) ∈ flatC pm_T0 := by decide +kernel
theorem pm_mem {i : Nat} {w : Cond} (h : decide (lw_tbl[i]? = some w) = true) : w ∈ lw_tbl := List.mem_of_getElem? (of_decide_eq_true h)
theorem pm_arrP {s : State} {args : Array Value} {ty : FieldType} (h : (Cond.arrayClass ty).before args s = true) (hty : ∀ C, ty ≠ .object C) : ∃ cA, ArrOfT s cA ty ∧ va_RA s cA ty := by
  obtain ⟨cA, kA, comp, h1, h2, h3⟩ := Cond.arrayClass_spec h
  refine ⟨cA, fun n z => ⟨fun k h => (by cases h), kA, h2, comp, h3⟩, ?_⟩
  cases ty <;> first | exact h1 | exact absurd rfl (hty _)
theorem pm_arrO {s : State} {C : String} (h : va_AO C s) : ∃ cA, ArrOfT s cA (.object C) ∧ va_RA s cA (.object C) := by
  obtain ⟨comp, cA, kA, h1, h2, h3, h4, h5⟩ := Cond.arrayOver_spec h
  exact ⟨cA, fun n z => ⟨fun k h => (by cases h), kA, h3, comp, h4⟩, kA, comp, h3, h4, h1, h5⟩
set_option maxHeartbeats 1000000 in
theorem pm_start {p : Program} {s : State} {m : MethodId} {meth : Method} {c : Code} {b L : Nat} {xs : Nat → Int32} (hL : L ≤ 3072) (C0 : lw_At p s m meth c b L xs) : ∃ E : pm_E, E.2.1 = s.heap.size ∧ E.1 1 = .ref b ∧ pm_Cx E L pm_r0 (pm_h0 xs) s := by
  obtain ⟨hx, hb, hr, hml, hown, hts, hX, hbl, hlocks, hgv⟩ := C0
  have fl := flat_of_before _ hgv
  have hts' : ∀ w ∈ pm_ts, w.before #[Value.ref b] s = true := fun w hw => hts w (List.mem_filter.mp hw).1
  have hA : ∀ a : Nat, a < s.heap.size → ¬ s.heap.size ≤ a := fun a h => by omega
  obtain ⟨adK, adV, hS, hSe⟩ := vk_Sof (A := fun q => s.heap.size ≤ q) (N := 6) (tm := pm_tm) (len := pm_bln) (byt := pm_byt) (by decide) (fun i hi => fl _ (pm_f1 i hi)) (fun i hi => fl _ (pm_f2 i hi)) (fun i hi => fl _ (pm_f3 i hi)) (fun i hi => fl _ (pm_f4 i hi)) (fun i hi j hj => fl _ (pm_f5 i hi j hj)) (fun i j hi hj hij => (pm_f6 i hi j hj hij).elim (fun h => Or.inl (fl _ h)) (fun h => Or.inr (fl _ h))) hA
  obtain ⟨tA, htA, hTA⟩ := va_Tof (A := fun q => s.heap.size ≤ q) (tm := .static "EchoFolk$Kinds" "ABOVE" "[I") (ty := .int) (N := 6) (f := fun j => .int (pm_ab.getD j 0)) (by omega) (fl _ (by decide +kernel)) (va_eqt (z := Int32.ofNat 6) (fl _ (by decide +kernel))) (fun j hj => va_eqt (fl _ (pm_f7 j hj))) hA
  have hZ1 : va_Z "EchoFolk$Kinds" "ABOVE" "[I" (.ref tA) (fun q => s.heap.size ≤ q) s s.heap := va_Zof (hts _ (pm_mem (i := 475) (by decide +kernel))) (hts _ (pm_mem (i := 77) (by decide +kernel))) htA hA
  have hZ2 : va_Z "java/lang/String" "COMPACT_STRINGS" "Z" (.int 1) (fun q => s.heap.size ≤ q) s s.heap := va_Zof (hts _ (pm_mem (i := 756) (by decide +kernel))) (hts _ (pm_mem (i := 79) (by decide +kernel))) (va_eqi (fl _ (by decide +kernel))) hA
  have href : (Cond.isRef (.static "jdk/internal/util/Preconditions" "SIOOBE_FORMATTER" "Ljava/util/function/BiFunction;")).before #[Value.ref b] s = true := fl _ (by decide +kernel)
  obtain ⟨v15, hv15, hr15⟩ := Cond.isRef_spec href
  have hZ3 : va_Z "jdk/internal/util/Preconditions" "SIOOBE_FORMATTER" "Ljava/util/function/BiFunction;" v15 (fun q => s.heap.size ≤ q) s s.heap := va_Zof (hts _ (pm_mem (i := 772) (by decide +kernel))) (hts _ (pm_mem (i := 81) (by decide +kernel))) hv15 hA
  have hAO : va_AO "EchoFolk$Speaker" s ∧ va_AO "EchoFolk$Sheet" s ∧ va_AO "EchoFolk$Slot" s ∧ va_AO "EchoFolk$Text" s := ⟨va_AO.of (hts _ (pm_mem (i := 141) (by decide +kernel))), va_AO.of (hts _ (pm_mem (i := 270) (by decide +kernel))), va_AO.of (hts _ (pm_mem (i := 290) (by decide +kernel))), va_AO.of (hts _ (pm_mem (i := 100) (by decide +kernel)))⟩
  have hcls : ∀ ci : Nat, ∃ z : ClassId × (Nat → Nat), ∀ r : vw_C, pm_cl[ci]? = some r → u_Kn s r.1 r.2.1 r.2.2 z.1 z.2 := by
    intro ci
    cases hr : pm_cl[ci]? with
    | none => exact ⟨(0, fun _ => 0), fun r h => by cases h⟩
    | some r =>
      obtain ⟨w1, w2, -⟩ := pm_cl_new ci r hr
      obtain ⟨cC, iS, h⟩ := u_known hts' (pm_cl_in ci r hr) (hts' _ w1)
      exact ⟨(cC, iS), fun r' h' => by cases h'; exact h⟩
  obtain ⟨zC, hzC⟩ := Classical.axiomOfChoice hcls
  have harr : ∀ ti : Nat, ∃ cA : ClassId, ti < 8 → ArrOfT s cA (pm_ty ti) ∧ va_RA s cA (pm_ty ti) := by
    intro ti
    match ti with
    | 0 =>
      obtain ⟨cA, h⟩ := pm_arrP (ty := .int) (hts _ (pm_mem (i := 125) (by decide +kernel))) (fun C h => by cases h)
      exact ⟨cA, fun _ => h⟩
    | 1 =>
      obtain ⟨cA, h⟩ := pm_arrP (ty := .byte) (hts _ (pm_mem (i := 918) (by decide +kernel))) (fun C h => by cases h)
      exact ⟨cA, fun _ => h⟩
    | 2 =>
      obtain ⟨cA, h⟩ := pm_arrP (ty := .char) (hts _ (pm_mem (i := 1136) (by decide +kernel))) (fun C h => by cases h)
      exact ⟨cA, fun _ => h⟩
    | 3 =>
      obtain ⟨cA, h⟩ := pm_arrP (ty := .boolean) (hts _ (pm_mem (i := 1137) (by decide +kernel))) (fun C h => by cases h)
      exact ⟨cA, fun _ => h⟩
    | 4 =>
      obtain ⟨cA, h⟩ := pm_arrO hAO.1
      exact ⟨cA, fun _ => h⟩
    | 5 =>
      obtain ⟨cA, h⟩ := pm_arrO hAO.2.1
      exact ⟨cA, fun _ => h⟩
    | 6 =>
      obtain ⟨cA, h⟩ := pm_arrO hAO.2.2.1
      exact ⟨cA, fun _ => h⟩
    | 7 =>
      obtain ⟨cA, h⟩ := pm_arrO hAO.2.2.2
      exact ⟨cA, fun _ => h⟩
    | n + 8 => exact ⟨0, fun h => by omega⟩
  obtain ⟨dA, hdA⟩ := Classical.axiomOfChoice harr
  have hstr : ∀ i tx, i < 6 → (Cond.stringRef "EchoFolk$Parser" ([76, 85, 87, 134, 136, 138].getD i 0) tx) ∈ lw_tbl → vk_R "EchoFolk$Parser" ([76, 85, 87, 134, 136, 138].getD i 0) tx (adK i) s := fun i tx hi hm => vk_R.of (hts _ hm) (hSe i hi)
  refine ⟨(fun q => if q = 0 then .null else if q = 1 then .ref b else if q = 2 then .ref tA else if q < 9 then .ref (adK (q - 3)) else if q < 15 then .ref (adV (q - 9)) else if q = 15 then v15 else .ref (s.heap.size + (q - 16)), s.heap.size, fun ci => (zC ci).1, fun ci => (zC ci).2, dA), rfl, rfl, ?_⟩
  refine ⟨fun ci r h => hzC ci r h, fun ti h => hdA ti h, ?_, ?_, hZ1, hZ2, hZ3, ?_, ⟨va_Nw.of rfl (hts _ (pm_mem (i := 433) (by decide +kernel))), va_Nw.of rfl (hts _ (pm_mem (i := 603) (by decide +kernel)))⟩, hAO, ?_, ?_, rfl⟩
  · intro q ti n h
    have hq := pm_sh0_lt h
    unfold pm_sh0 at h
    match q, hq with
    | 0, _ => cases h
    | 1, _ =>
      cases h
      obtain ⟨scr, x1, x2, x3, x4, x5⟩ := hX
      exact ⟨b, rfl, scr, x1, x2, x3, by omega, by rw [x4] <;> rfl, x5, hA b hbl⟩
    | 2, _ => cases h; exact ⟨tA, rfl, hTA⟩
    | 3, _ => cases h
    | 4, _ => cases h
    | 5, _ => cases h
    | 6, _ => cases h
    | 7, _ => cases h
    | 8, _ => cases h
    | 9, _ => cases h; exact ⟨adV 0, rfl, (hS.1 0 (by omega)).2.2.2⟩
    | 10, _ => cases h; exact ⟨adV 1, rfl, (hS.1 1 (by omega)).2.2.2⟩
    | 11, _ => cases h; exact ⟨adV 2, rfl, (hS.1 2 (by omega)).2.2.2⟩
    | 12, _ => cases h; exact ⟨adV 3, rfl, (hS.1 3 (by omega)).2.2.2⟩
    | 13, _ => cases h; exact ⟨adV 4, rfl, (hS.1 4 (by omega)).2.2.2⟩
    | 14, _ => cases h; exact ⟨adV 5, rfl, (hS.1 5 (by omega)).2.2.2⟩
    | 15, _ => cases h
  · intro q h
    have hq := pm_sh0_lt h
    unfold pm_sh0 at h
    match q, hq with
    | 0, _ => cases h
    | 1, _ => cases h
    | 2, _ => cases h
    | 3, _ => exact ⟨adK 0, rfl, (hS.1 0 (by omega)).1, (hS.1 0 (by omega)).2.1, (hS.1 0 (by omega)).2.2.1⟩
    | 4, _ => exact ⟨adK 1, rfl, (hS.1 1 (by omega)).1, (hS.1 1 (by omega)).2.1, (hS.1 1 (by omega)).2.2.1⟩
    | 5, _ => exact ⟨adK 2, rfl, (hS.1 2 (by omega)).1, (hS.1 2 (by omega)).2.1, (hS.1 2 (by omega)).2.2.1⟩
    | 6, _ => exact ⟨adK 3, rfl, (hS.1 3 (by omega)).1, (hS.1 3 (by omega)).2.1, (hS.1 3 (by omega)).2.2.1⟩
    | 7, _ => exact ⟨adK 4, rfl, (hS.1 4 (by omega)).1, (hS.1 4 (by omega)).2.1, (hS.1 4 (by omega)).2.2.1⟩
    | 8, _ => exact ⟨adK 5, rfl, (hS.1 5 (by omega)).1, (hS.1 5 (by omega)).2.1, (hS.1 5 (by omega)).2.2.1⟩
    | 9, _ => cases h
    | 10, _ => cases h
    | 11, _ => cases h
    | 12, _ => cases h
    | 13, _ => cases h
    | 14, _ => cases h
    | 15, _ => cases h
  · intro i q h
    have hi : i < 6 := (List.getElem?_eq_some_iff.mp h).1
    unfold pm_strs at h
    match i, hi with
    | 0, _ => cases h; exact ⟨adK 0, rfl, hstr 0 _ (by omega) (pm_mem (i := 742) (by decide +kernel))⟩
    | 1, _ => cases h; exact ⟨adK 1, rfl, hstr 1 _ (by omega) (pm_mem (i := 795) (by decide +kernel))⟩
    | 2, _ => cases h; exact ⟨adK 2, rfl, hstr 2 _ (by omega) (pm_mem (i := 796) (by decide +kernel))⟩
    | 3, _ => cases h; exact ⟨adK 3, rfl, hstr 3 _ (by omega) (pm_mem (i := 844) (by decide +kernel))⟩
    | 4, _ => cases h; exact ⟨adK 4, rfl, hstr 4 _ (by omega) (pm_mem (i := 845) (by decide +kernel))⟩
    | 5, _ => cases h; exact ⟨adK 5, rfl, hstr 5 _ (by omega) (pm_mem (i := 846) (by decide +kernel))⟩
  · intro q
    dsimp only
    split
    · rfl
    split
    · rfl
    split
    · rfl
    split
    · rfl
    split
    · rfl
    split
    · exact hr15
    · rfl
  · intro q hq
    dsimp only
    rw [if_neg (by omega), if_neg (by omega), if_neg (by omega), if_neg (by omega), if_neg (by omega), if_neg (by omega)]
/-- the law's run in the plain machine, as a number N of steps and a depth d -/
def pm_Law (L : Nat) (xs : Nat → Int32) : Prop := ∃ (N d : Nat) (sh : pm_S) (hr : pm_A) (hi : pm_B), d ≤ 2000 ∧ pm_exec (pm_call pm_g N d) pm_t246 N 0 (pm_ent 4 [.inr 1]) [] (pm_sh0 L) pm_r0 (pm_h0 xs) = some (some (.inl 1), sh, hr, hi) ∧ sh.length ≤ 500000 ∧ pm_sl sh ≤ 7000000
set_option maxHeartbeats 1000000 in
theorem pm_whole {p : Program} {e : Env} {s : State} {m : MethodId} {below : List Frame} {meth : Method} {c : Code} (l : Launch) {b L : Nat} {xs : Nat → Int32} (hL : L ≤ 3072) (C0 : lw_At p s m meth c b L xs) (hlaw : pm_Law L xs) : W p l e room_1 s m #[Value.ref b] below meth c s.heap [] 0 0 (lw_Z below #[Value.ref b] s) (entryFrame m ([Value.ref b] : List Value).toArray 4) := by
  obtain ⟨E, e1, e2, hC⟩ := pm_start hL C0
  obtain ⟨hx, hb, hr, hml, hown, hts, hX0, hbl, hlocks, hgv⟩ := C0
  obtain ⟨N, d, sh, hrr, hi, hd, hrun, hl1, hl2⟩ := hlaw
  have hX : pm_X p s m #[Value.ref b] c E L pm_r0 (pm_h0 xs) "EchoFolkLaw" code 4 := ⟨hx, hb, hown, fun w hw => hts w (List.mem_filter.mp hw).1, hml, hC, by omega⟩
  have hrf := hX.rf
  have hR : pm_R E L pm_r0 (pm_h0 xs) (pm_sh0 L) pm_r0 (pm_h0 xs) s.heap := by
    refine ⟨by rw [e1]; rfl, rfl, fun q j _ => ⟨rfl, rfl⟩, fun q k hq hs => ?_⟩
    have := pm_sh0_lt hs
    omega
  have hargs : ([Value.ref b] : List Value) = ([.inr 1] : List pm_V).map (pm_vl E.1) := by
    show _ = [E.1 1]
    rw [e2]
  have key := pm_sim_exec (p := p) (l := l) (e := e) (below := below) (meth := meth) (R := room_1) (nm := "law") (ret := some .boolean) (d := d) (n0 := 16) (s0 := pm_sl (pm_sh0 L)) (Q := lw_Z below #[Value.ref b] s) (o := (some (.inl 1), sh, hrr, hi)) hX (fun hn => absurd hn (by decide)) pm_goodG.1 pm_law_rows
    ⟨by show sh.length - 16 ≤ 600000; omega, by show pm_sl sh - _ ≤ 7302250; omega, by show d + 2 ≤ 2048; omega, by show 40 * d + 140 ≤ 84000; omega⟩ (fun a av sh hr hi v sh' hr' hi' h => ⟨pm_call_grow pm_g N d a av sh hr hi v sh' hr' hi' h, pm_sim_call pm_goodG N d a av sh hr hi v sh' hr' hi' h⟩) ?_ N 0 (pm_ent 4 [.inr 1]) [] (pm_sh0 L) pm_r0 (pm_h0 xs) hrun s.heap [] _ (Nat.le_refl _) (Nat.le_refl _) hR va_S.rf (pm_LR_ent hrf (show ([.inr 1] : List pm_V).length ≤ 4 by decide))
  · rw [Nat.sub_self, ← hargs] at key
    rw [lg_entry_eq]
    exact key
  · intro pc r ls v2 sh2 hr2 hi2 he hrt heq
    cases heq
    intro H locs lsA hn hs hR2 hS hL2
    have hok := pm_law_rows pc r he
    obtain ⟨op, len, a2, b2, c2, sw2⟩ := r
    unfold pm_okb at hok
    cases hd : decode code pc with
    | error _ => rw [hd] at hok; cases hok
    | ok il =>
    rw [hd] at hok
    obtain ⟨ins, n⟩ := il
    dsimp only at hok
    rw [Bool.and_eq_true, decide_eq_true_eq] at hok
    obtain ⟨rfl, hok⟩ := hok
    rcases hrt with ⟨x, h1, h2, hfib⟩ | ⟨q, h1, h2⟩ | ⟨h1, h2⟩
    · dsimp only at h1
      subst h1
      obtain ⟨rfl, rfl, hty⟩ := of_decide_eq_true hok
      refine va_forget (fun q hq => ?_) (W.widen (k := 600000) (n := 7302250) (by omega) (by omega) (lw_ret hx hb hr hlocks hd))
      have := hS.2.2 q hq
      show s.heap.size ≤ q.base
      rw [← e1]
      exact this
    · cases h2
    · cases h2
end
section
/-! ===== the constructors, run; the script's cell is not touched by them ===== -/
abbrev pm_D : pm_K := (0, 99999, 0)
def pm_so (k : pm_K) (sh : pm_S) : pm_S := sh.set 1 k
def pm_ov (xs : Nat → Int32) (hi : pm_B) : pm_B := fun q j => if q = 1 then xs j else hi q j
def pm_ltb (r : pm_I) : Bool := Nat.blt r.2.2.1 99999 && Nat.blt r.2.2.2.1 99999 && r.2.2.2.2.2.all (fun z => Nat.blt z.2 99999)
section PMO
variable {k : pm_K} {xs : Nat → Int32} {sh : pm_S} {hr : pm_A} {hi : pm_B} {q : Nat}
theorem pm_so_ne (h : q ≠ 1) : (pm_so k sh)[q]? = sh[q]? := by unfold pm_so; rw [List.getElem?_set_ne (Ne.symm h)]
theorem pm_so_of {t a n : Nat} (h1 : sh[1]? = some pm_D) (ha : (t, a, n) ≠ pm_D) (h : sh[q]? = some (t, a, n)) : q ≠ 1 ∧ (pm_so k sh)[q]? = some (t, a, n) := by
  have hq : q ≠ 1 := by
    rintro rfl
    rw [h1] at h
    exact ha (Option.some.inj h).symm
  exact ⟨hq, by rw [pm_so_ne hq]; exact h⟩
theorem pm_so_obj {a : Nat} (h1 : sh[1]? = some pm_D) (ha : a < 99999) (h : sh[q]? = some (0, a, 0)) : q ≠ 1 ∧ (pm_so k sh)[q]? = some (0, a, 0) := pm_so_of h1 (fun z => by cases z; omega) h
theorem pm_ov_ne (h : q ≠ 1) (j : Nat) : pm_ov xs hi q j = hi q j := by unfold pm_ov; rw [if_neg h]
theorem pm_ov_u (h : q ≠ 1) (j : Nat) (v : Int32) : pm_u (pm_ov xs hi) q j v = pm_ov xs (pm_u hi q j v) := by
  funext a b
  unfold pm_u pm_ov
  by_cases h1 : a = 1
  · rw [if_pos h1, if_pos h1, if_neg (fun z => h (z.1.symm.trans h1))]
  · rw [if_neg h1, if_neg h1]
theorem pm_ov_z (h : q ≠ 1) (v : Int32) : pm_z (pm_ov xs hi) q v = pm_ov xs (pm_z hi q v) := by
  funext a b
  unfold pm_z pm_ov
  by_cases h1 : a = 1
  · rw [if_pos h1, if_pos h1, if_neg (fun z => h (z.symm.trans h1))]
  · rw [if_neg h1, if_neg h1]
theorem pm_so_app (h1 : sh[1]? = some pm_D) (z : pm_K) : pm_so k sh ++ [z] = pm_so k (sh ++ [z]) := by
  have hl : 1 < sh.length := (List.getElem?_eq_some_iff.mp h1).1
  unfold pm_so
  rw [List.set_append_left _ _ hl]
theorem pm_so_len : (pm_so k sh).length = sh.length := by unfold pm_so; rw [List.length_set]
theorem pm_so_ao {a : Nat} {i : Int32} (h1 : sh[1]? = some pm_D) (h : pm_aob sh q a i = true) : q ≠ 1 ∧ pm_aob (pm_so k sh) q a i = true := by
  obtain ⟨t, n, h2, h3⟩ := pm_aob_iff.mp h
  obtain ⟨g1, g2⟩ := pm_so_of (k := k) h1 (fun z => by cases z) h2
  exact ⟨g1, pm_aob_iff.mpr ⟨t, n, g2, h3⟩⟩
theorem pm_so_aw {a : Nat} {i : Int32} (h1 : sh[1]? = some pm_D) (h : pm_awb sh q a i = true) : q ≠ 1 ∧ pm_awb (pm_so k sh) q a i = true := by
  obtain ⟨n, h2, h3⟩ := pm_awb_iff.mp h
  obtain ⟨g1, g2⟩ := pm_so_of (k := k) h1 (fun z => by cases z) h2
  exact ⟨g1, pm_awb_iff.mpr ⟨n, g2, h3⟩⟩
theorem pm_so_rc {sw : List (Int32 × Nat)} {av : List pm_V} (h1 : sh[1]? = some pm_D) (hl : sw.all (fun z => Nat.blt z.2 99999) = true) (h : (sw.all fun z => pm_rcv sh z.2 av) = true) : (sw.all fun z => pm_rcv (pm_so k sh) z.2 av) = true := by
  rw [List.all_eq_true] at h hl ⊢
  intro z hz
  obtain ⟨q, tl, rfl, h2⟩ := pm_rcv_spec (h z hz)
  have h3 := hl z hz
  rw [Nat.blt_eq] at h3
  exact decide_eq_true (pm_so_obj h1 h3 h2).2
theorem pm_so_cp {d : Nat} {sp dp n : Int32} (h1 : sh[1]? = some pm_D) (h : pm_cpb sh q d sp dp n = true) : q ≠ 1 ∧ d ≠ 1 ∧ pm_cpb (pm_so k sh) q d sp dp n = true := by
  obtain ⟨m1, m2, a1, a2, h3⟩ := pm_cpb_iff.mp h
  obtain ⟨g1, g2⟩ := pm_so_of (k := k) h1 (fun z => by cases z) a1
  obtain ⟨g3, g4⟩ := pm_so_of (k := k) h1 (fun z => by cases z) a2
  exact ⟨g1, g3, pm_cpb_iff.mpr ⟨m1, m2, g2, g4, h3⟩⟩
theorem pm_ov_cp {d sp dp n : Nat} (hq : q ≠ 1) (hd : d ≠ 1) : pm_cp (pm_ov xs hi) q sp d dp n = pm_ov xs (pm_cp hi q sp d dp n) := by
  funext a b
  unfold pm_cp pm_ov
  by_cases h1 : a = 1
  · rw [if_pos h1, if_pos h1, if_neg (fun z => hd (z.1.symm.trans h1))]
  · rw [if_neg h1, if_neg h1, if_neg hq]
end PMO
section PMP
variable {k : pm_K} {xs : Nat → Int32} {c1 c2 : Nat → List pm_V → pm_S → pm_A → pm_B → pm_O} {k1 k2 : Nat → pm_L → List pm_V → pm_S → pm_A → pm_B → pm_O} {o : Option pm_V × pm_S × pm_A × pm_B}
def pm_oo (k : pm_K) (xs : Nat → Int32) (o : Option pm_V × pm_S × pm_A × pm_B) : Option pm_V × pm_S × pm_A × pm_B := (o.1, pm_so k o.2.1, o.2.2.1, pm_ov xs o.2.2.2)
set_option maxHeartbeats 4000000 in
theorem pm_step_ov (hc : ∀ m a sh hr hi o, sh[1]? = some pm_D → c1 m a sh hr hi = some o → o.2.1[1]? = some pm_D ∧ c2 m a (pm_so k sh) hr (pm_ov xs hi) = some (pm_oo k xs o))
    (hk : ∀ pc ls st sh hr hi, sh[1]? = some pm_D → k1 pc ls st sh hr hi = some o → o.2.1[1]? = some pm_D ∧ k2 pc ls st (pm_so k sh) hr (pm_ov xs hi) = some (pm_oo k xs o))
    {r : pm_I} (hlt : pm_ltb r = true) {pc : Nat} {ls : pm_L} {st : List pm_V} {sh : pm_S} {hr : pm_A} {hi : pm_B} (h1 : sh[1]? = some pm_D) (h : pm_step c1 k1 r pc ls st sh hr hi = some o) : o.2.1[1]? = some pm_D ∧ pm_step c2 k2 r pc ls st (pm_so k sh) hr (pm_ov xs hi) = some (pm_oo k xs o) := by
  obtain ⟨op, len, a, b, c, sw⟩ := r
  unfold pm_ltb at hlt
  dsimp only at hlt
  rw [Bool.and_eq_true, Bool.and_eq_true, Nat.blt_eq, Nat.blt_eq] at hlt
  obtain ⟨⟨ha, hb⟩, hsw⟩ := hlt
  have happ : ∀ z : pm_K, (sh ++ [z])[1]? = some pm_D := fun z => by rw [List.getElem?_append_left (List.getElem?_eq_some_iff.mp h1).1]; exact h1
  have hl1 : sh.length ≠ 1 := by have := (List.getElem?_eq_some_iff.mp h1).1; omega
  unfold pm_step at h
  dsimp only at h
  split at h
  all_goals simp only [pm_step]
  case h_30 =>
    split at h
    · rename_i hs
      obtain ⟨g1, g2⟩ := pm_so_obj (k := k) h1 ha hs
      rw [if_pos g2, pm_ov_ne g1]
      exact hk _ _ _ _ _ _ h1 h
    · cases h
  case h_31 =>
    split at h
    · rename_i hs
      obtain ⟨g1, g2⟩ := pm_so_obj (k := k) h1 ha hs
      rw [if_pos g2]
      exact hk _ _ _ _ _ _ h1 h
    · cases h
  case h_32 =>
    split at h
    · rename_i hs
      obtain ⟨g1, g2⟩ := pm_so_obj (k := k) h1 ha hs
      rw [if_pos g2, pm_ov_ne g1]
      exact hk _ _ _ _ _ _ h1 h
    · cases h
  case h_33 =>
    split at h
    · rename_i hs
      obtain ⟨g1, g2⟩ := pm_so_obj (k := k) h1 ha hs.1
      rw [if_pos ⟨g2, hs.2⟩, pm_ov_u g1]
      exact hk _ _ _ _ _ _ h1 h
    · cases h
  case h_34 =>
    split at h
    · rename_i hs
      obtain ⟨g1, g2⟩ := pm_so_obj (k := k) h1 ha hs
      rw [if_pos g2]
      exact hk _ _ _ _ _ _ h1 h
    · cases h
  case h_35 =>
    split at h
    · rename_i hs
      obtain ⟨g1, g2⟩ := pm_so_obj (k := k) h1 ha hs.1
      rw [if_pos ⟨g2, hs.2⟩, pm_ov_u g1]
      exact hk _ _ _ _ _ _ h1 h
    · cases h
  case h_36 =>
    split at h
    · rename_i hs
      obtain ⟨g1, g2⟩ := pm_so_ao (k := k) h1 hs
      rw [if_pos g2, pm_ov_ne g1]
      exact hk _ _ _ _ _ _ h1 h
    · cases h
  case h_37 =>
    split at h
    · rename_i hs
      obtain ⟨g1, g2⟩ := pm_so_ao (k := k) h1 hs
      rw [if_pos g2]
      exact hk _ _ _ _ _ _ h1 h
    · cases h
  case h_38 =>
    split at h
    · rename_i hs
      obtain ⟨g1, g2⟩ := pm_so_aw (k := k) h1 hs.1
      rw [if_pos ⟨g2, hs.2⟩, pm_ov_u g1]
      exact hk _ _ _ _ _ _ h1 h
    · cases h
  case h_39 =>
    split at h
    · rename_i hs
      obtain ⟨g1, g2⟩ := pm_so_aw (k := k) h1 hs.1
      obtain ⟨g3, g4⟩ := pm_so_obj (k := k) h1 hb hs.2
      rw [if_pos ⟨g2, g4⟩]
      exact hk _ _ _ _ _ _ h1 h
    · cases h
  case h_40 =>
    split at h
    · rename_i hs
      obtain ⟨g1, g2⟩ := pm_so_of (k := k) h1 (fun z => by cases z) hs
      rw [g2]
      exact hk _ _ _ _ _ _ h1 h
    · cases h
  case h_41 =>
    split at h
    · cases h
    · rename_i hs
      rw [if_neg hs, pm_so_len, pm_so_app h1, pm_ov_z hl1]
      exact hk _ _ _ _ _ _ (happ _) h
  case h_42 =>
    rw [pm_so_len, pm_so_app h1, pm_ov_z hl1]
    exact hk _ _ _ _ _ _ (happ _) h
  case h_43 =>
    split at h
    · rename_i hs
      rw [if_pos ⟨hs.1, hs.2.1, pm_so_rc h1 hsw hs.2.2⟩]
      split at h
      · cases h
      · rename_i v' sh' hr' hi' hcl
        obtain ⟨g1, g2⟩ := hc _ _ _ _ _ _ h1 hcl
        rw [g2]
        exact hk _ _ _ _ _ _ g1 h
    · cases h
  case h_44 =>
    split at h
    · rename_i hs
      obtain ⟨g1, g2, g3⟩ := pm_so_cp (k := k) h1 hs.1
      rw [if_pos ⟨g3, hs.2⟩, pm_ov_cp g1 g2]
      exact hk _ _ _ _ _ _ h1 h
    · cases h
  case h_45 =>
    split at h
    · rename_i hs
      rw [if_pos hs]
      cases h
      exact ⟨h1, rfl⟩
    · cases h
  case h_46 =>
    cases h
    exact ⟨h1, rfl⟩
  case h_47 =>
    cases h
    exact ⟨h1, rfl⟩
  case h_50 =>
    split at h
    · rename_i hs
      obtain ⟨g1, g2⟩ := pm_so_obj (k := k) h1 hb hs.1
      rw [if_pos ⟨g2, hs.2⟩]
      exact hk _ _ _ _ _ _ h1 h
    · cases h
  all_goals first
    | exact hk _ _ _ _ _ _ h1 h
    | (cases h; done)
    | (split at h <;> rename_i hq <;> first
        | (cases h; done)
        | (rw [if_pos hq]; exact hk _ _ _ _ _ _ h1 h)
        | (rw [if_neg hq]; exact hk _ _ _ _ _ _ h1 h)
        | (rw [hq]; exact hk _ _ _ _ _ _ h1 h)
        | exact hk _ _ _ _ _ _ h1 h)
theorem pm_exec_ov {t : pm_T} (ht : ∀ pc r, pm_at t pc = some r → pm_ltb r = true) (hc : ∀ m a sh hr hi o, sh[1]? = some pm_D → c1 m a sh hr hi = some o → o.2.1[1]? = some pm_D ∧ c2 m a (pm_so k sh) hr (pm_ov xs hi) = some (pm_oo k xs o)) : ∀ (n pc : Nat) (ls : pm_L) (st : List pm_V) (sh : pm_S) (hr : pm_A) (hi : pm_B), sh[1]? = some pm_D → pm_exec c1 t n pc ls st sh hr hi = some o → o.2.1[1]? = some pm_D ∧ pm_exec c2 t n pc ls st (pm_so k sh) hr (pm_ov xs hi) = some (pm_oo k xs o)
  | 0, _, _, _, _, _, _, _, h => by cases h
  | n + 1, pc, ls, st, sh, hr, hi, h1, h => by
    unfold pm_exec at h ⊢
    cases he : pm_at t pc with
    | none => rw [he] at h; cases h
    | some r =>
      rw [he] at h
      exact pm_step_ov hc (fun pc ls st sh hr hi h1 h => pm_exec_ov ht hc n pc ls st sh hr hi h1 h) (ht pc r he) h1 h
end PMP
theorem pm_call_ov {k : pm_K} {xs : Nat → Int32} {G : pm_G} (hG : ∀ m maxL t, G m = some (maxL, t) → ∀ pc r, pm_at t pc = some r → pm_ltb r = true) (N : Nat) : ∀ (d m : Nat) (a : List pm_V) (sh : pm_S) (hr : pm_A) (hi : pm_B) (o : Option pm_V × pm_S × pm_A × pm_B), sh[1]? = some pm_D → pm_call G N d m a sh hr hi = some o → o.2.1[1]? = some pm_D ∧ pm_call G N d m a (pm_so k sh) hr (pm_ov xs hi) = some (pm_oo k xs o)
  | 0, _, _, _, _, _, _, _, h => by cases h
  | d + 1, m, a, sh, hr, hi, o, h1, h => by
    unfold pm_call at h ⊢
    cases hg : G m with
    | none => rw [hg] at h; cases h
    | some q =>
      obtain ⟨maxL, t⟩ := q
      rw [hg] at h
      dsimp only at h ⊢
      split at h
      · rename_i hl
        rw [if_pos hl]
        exact pm_exec_ov (hG m maxL t hg) (pm_call_ov hG N d) N 0 _ _ _ _ _ h1 h
      · cases h
set_option maxRecDepth 100000 in
theorem pm_lt_all : pm_gs.all (fun l => l.all (fun q => q.2.flatten.all (fun z => pm_ltb z.2))) = true := by decide +kernel
theorem pm_lt_g : ∀ m maxL t, pm_g m = some (maxL, t) → ∀ pc r, pm_at t pc = some r → pm_ltb r = true := by
  intro m maxL t hg pc r hr
  unfold pm_g at hg
  have h1 := List.mem_of_getElem? hg
  rw [List.getD_eq_getElem?_getD] at h1
  cases hl : pm_gs[m / 16]? with
  | none => rw [hl] at h1; cases h1
  | some l =>
    rw [hl] at h1
    exact List.all_eq_true.mp (List.all_eq_true.mp (List.all_eq_true.mp pm_lt_all l (List.mem_of_getElem? hl)) _ h1) _ (pm_at_mem hr)
/-! the runs, without a script -/
def pm_e1 : pm_O := pm_call pm_g 2000 20 m_E_init [.inr 16] ((pm_sh0 0).set 1 pm_D ++ [(0, 9, 0)]) (pm_z pm_r0 16 0) (pm_z (pm_h0 (fun _ => 0)) 16 0)
def pm_e1o : Option pm_V × pm_S × pm_A × pm_B := pm_e1.getD (none, [], fun _ _ => 0, fun _ _ => 0)
def pm_e2 : pm_O := pm_call pm_g 2000 20 m_M_init [.inr 141] (pm_e1o.2.1 ++ [(0, 10, 0)]) (pm_z pm_e1o.2.2.1 141 0) (pm_z pm_e1o.2.2.2 141 0)
def pm_e2o : Option pm_V × pm_S × pm_A × pm_B := pm_e2.getD (none, [], fun _ _ => 0, fun _ _ => 0)
set_option maxRecDepth 100000 in
theorem pm_e1_ok : pm_e1.isSome = true := by decide +kernel
end
section
/-! ===== the shape behind the constructors, printed by program; the law up to its loop ===== -/
abbrev nowF : Nat := 50
abbrev imgF : Nat := 69
abbrev triF : Nat := 88
/-- the shape: cell by cell -/
def SH (L : Nat) : pm_S := [(0, 99, 0), (2, 0, L), (2, 0, 6), (0, 11, 0), (0, 11, 0), (0, 11, 0), (0, 11, 0), (0, 11, 0), (0, 11, 0), (2, 1, 4), (2, 1, 3), (2, 1, 4), (2, 1, 3), (2, 1, 2), (2, 1, 2), (0, 99, 0),
  (0, 9, 0), (0, 1, 0), (1, 7, 15), (0, 8, 0), (1, 0, 96), (0, 8, 0), (1, 0, 96), (0, 8, 0), (1, 0, 96), (0, 8, 0), (1, 0, 96), (0, 8, 0), (1, 0, 96), (0, 8, 0), (1, 0, 96), (0, 8, 0),
  (1, 0, 96), (0, 8, 0), (1, 0, 96), (0, 8, 0), (1, 0, 96), (0, 8, 0), (1, 0, 96), (0, 8, 0), (1, 0, 96), (0, 8, 0), (1, 0, 96), (0, 8, 0), (1, 0, 96), (0, 8, 0), (1, 0, 96), (0, 8, 0),
  (1, 0, 96), (1, 0, 96), (0, 0, 0), (1, 4, 8), (0, 6, 0), (1, 0, 24), (0, 6, 0), (1, 0, 24), (0, 6, 0), (1, 0, 24), (0, 6, 0), (1, 0, 24), (0, 6, 0), (1, 0, 24), (0, 6, 0), (1, 0, 24),
  (0, 6, 0), (1, 0, 24), (0, 6, 0), (1, 0, 24), (1, 0, 3), (0, 0, 0), (1, 4, 8), (0, 6, 0), (1, 0, 24), (0, 6, 0), (1, 0, 24), (0, 6, 0), (1, 0, 24), (0, 6, 0), (1, 0, 24), (0, 6, 0),
  (1, 0, 24), (0, 6, 0), (1, 0, 24), (0, 6, 0), (1, 0, 24), (0, 6, 0), (1, 0, 24), (1, 0, 3), (0, 0, 0), (1, 4, 8), (0, 6, 0), (1, 0, 24), (0, 6, 0), (1, 0, 24), (0, 6, 0), (1, 0, 24),
  (0, 6, 0), (1, 0, 24), (0, 6, 0), (1, 0, 24), (0, 6, 0), (1, 0, 24), (0, 6, 0), (1, 0, 24), (0, 6, 0), (1, 0, 24), (1, 0, 3), (0, 7, 0), (1, 0, 96), (0, 2, 0), (0, 8, 0), (1, 0, 96),
  (1, 5, 4), (0, 4, 0), (1, 0, 24), (0, 4, 0), (1, 0, 24), (0, 4, 0), (1, 0, 24), (0, 4, 0), (1, 0, 24), (1, 6, 5), (0, 5, 0), (0, 4, 0), (1, 0, 24), (0, 5, 0), (0, 4, 0), (1, 0, 24),
  (0, 5, 0), (0, 4, 0), (1, 0, 24), (0, 5, 0), (0, 4, 0), (1, 0, 24), (0, 5, 0), (0, 4, 0), (1, 0, 24), (0, 3, 0), (1, 0, 12), (1, 0, 3), (1, 0, 60), (0, 10, 0), (1, 0, 1611), (1, 0, 1611),
  (1, 0, 1611), (1, 0, 12), (1, 0, 12), (1, 0, 13), (1, 0, 239), (1, 0, 96), (1, 2, 11), (1, 0, 4), (1, 0, 96), (1, 0, 96), (1, 3, 10), (1, 0, 96), (1, 0, 4), (1, 0, 4), (1, 0, 4), (1, 0, 96),
  (1, 0, 5), (1, 0, 5), (1, 0, 5), (1, 0, 120), (1, 0, 24), (1, 0, 60)]
def HR : pm_A := pm_e2o.2.2.1
def HI (xs : Nat → Int32) : pm_B := pm_ov xs pm_e2o.2.2.2
set_option maxRecDepth 100000 in
theorem pm_e2_ok : pm_e2.isSome = true := by decide +kernel
set_option maxRecDepth 100000 in
theorem pm_e1_len : pm_e1o.2.1.length = 141 := by decide +kernel
set_option maxRecDepth 100000 in
theorem pm_e1_1 : pm_e1o.2.1[1]? = some pm_D := by decide +kernel
set_option maxRecDepth 100000 in
theorem pm_e2_sh : pm_e2o.2.1 = [(0, 99, 0), (0, 99999, 0), (2, 0, 6), (0, 11, 0), (0, 11, 0), (0, 11, 0), (0, 11, 0), (0, 11, 0), (0, 11, 0), (2, 1, 4), (2, 1, 3), (2, 1, 4), (2, 1, 3), (2, 1, 2), (2, 1, 2), (0, 99, 0),
  (0, 9, 0), (0, 1, 0), (1, 7, 15), (0, 8, 0), (1, 0, 96), (0, 8, 0), (1, 0, 96), (0, 8, 0), (1, 0, 96), (0, 8, 0), (1, 0, 96), (0, 8, 0), (1, 0, 96), (0, 8, 0), (1, 0, 96), (0, 8, 0),
  (1, 0, 96), (0, 8, 0), (1, 0, 96), (0, 8, 0), (1, 0, 96), (0, 8, 0), (1, 0, 96), (0, 8, 0), (1, 0, 96), (0, 8, 0), (1, 0, 96), (0, 8, 0), (1, 0, 96), (0, 8, 0), (1, 0, 96), (0, 8, 0),
  (1, 0, 96), (1, 0, 96), (0, 0, 0), (1, 4, 8), (0, 6, 0), (1, 0, 24), (0, 6, 0), (1, 0, 24), (0, 6, 0), (1, 0, 24), (0, 6, 0), (1, 0, 24), (0, 6, 0), (1, 0, 24), (0, 6, 0), (1, 0, 24),
  (0, 6, 0), (1, 0, 24), (0, 6, 0), (1, 0, 24), (1, 0, 3), (0, 0, 0), (1, 4, 8), (0, 6, 0), (1, 0, 24), (0, 6, 0), (1, 0, 24), (0, 6, 0), (1, 0, 24), (0, 6, 0), (1, 0, 24), (0, 6, 0),
  (1, 0, 24), (0, 6, 0), (1, 0, 24), (0, 6, 0), (1, 0, 24), (0, 6, 0), (1, 0, 24), (1, 0, 3), (0, 0, 0), (1, 4, 8), (0, 6, 0), (1, 0, 24), (0, 6, 0), (1, 0, 24), (0, 6, 0), (1, 0, 24),
  (0, 6, 0), (1, 0, 24), (0, 6, 0), (1, 0, 24), (0, 6, 0), (1, 0, 24), (0, 6, 0), (1, 0, 24), (0, 6, 0), (1, 0, 24), (1, 0, 3), (0, 7, 0), (1, 0, 96), (0, 2, 0), (0, 8, 0), (1, 0, 96),
  (1, 5, 4), (0, 4, 0), (1, 0, 24), (0, 4, 0), (1, 0, 24), (0, 4, 0), (1, 0, 24), (0, 4, 0), (1, 0, 24), (1, 6, 5), (0, 5, 0), (0, 4, 0), (1, 0, 24), (0, 5, 0), (0, 4, 0), (1, 0, 24),
  (0, 5, 0), (0, 4, 0), (1, 0, 24), (0, 5, 0), (0, 4, 0), (1, 0, 24), (0, 5, 0), (0, 4, 0), (1, 0, 24), (0, 3, 0), (1, 0, 12), (1, 0, 3), (1, 0, 60), (0, 10, 0), (1, 0, 1611), (1, 0, 1611),
  (1, 0, 1611), (1, 0, 12), (1, 0, 12), (1, 0, 13), (1, 0, 239), (1, 0, 96), (1, 2, 11), (1, 0, 4), (1, 0, 96), (1, 0, 96), (1, 3, 10), (1, 0, 96), (1, 0, 4), (1, 0, 4), (1, 0, 4), (1, 0, 96),
  (1, 0, 5), (1, 0, 5), (1, 0, 5), (1, 0, 120), (1, 0, 24), (1, 0, 60)] := by decide +kernel
theorem pm_e1_eq : pm_e1 = some pm_e1o := by
  have h := pm_e1_ok
  unfold pm_e1o
  cases he : pm_e1 with
  | none => rw [he] at h; cases h
  | some o => rfl
theorem pm_e2_eq : pm_e2 = some pm_e2o := by
  have h := pm_e2_ok
  unfold pm_e2o
  cases he : pm_e2 with
  | none => rw [he] at h; cases h
  | some o => rfl
set_option maxRecDepth 100000 in
theorem pm_e1_v : pm_e1o.1 = none := by decide +kernel
set_option maxRecDepth 100000 in
theorem pm_e2_v : pm_e2o.1 = none := by decide +kernel
theorem pm_SH (L : Nat) : pm_so (2, 0, L) pm_e2o.2.1 = SH L := by rw [pm_e2_sh]; rfl
theorem pm_ov_h0 (xs : Nat → Int32) : pm_h0 xs = pm_ov xs (pm_h0 (fun _ => 0)) := by
  funext q j
  unfold pm_h0 pm_ov
  by_cases h : q = 1
  · rw [if_pos h, if_pos h]
  · rw [if_neg h, if_neg h]
    dsimp only
    rw [if_neg h]
theorem pm_exec_step {call : Nat → List pm_V → pm_S → pm_A → pm_B → pm_O} {t : pm_T} {n pc : Nat} {ls : pm_L} {st : List pm_V} {sh : pm_S} {hr : pm_A} {hi : pm_B} {r : pm_I} (he : pm_at t pc = some r) : pm_exec call t (n + 1) pc ls st sh hr hi = pm_step call (pm_exec call t n) r pc ls st sh hr hi := by
  show (match pm_at t pc with
    | none => none
    | some r => pm_step call (pm_exec call t n) r pc ls st sh hr hi) = _
  rw [he]
theorem pm_sl_2 (a b : pm_K) (l : pm_S) : pm_sl (a :: b :: l) = pm_ks a + (pm_ks b + pm_sl l) := by
  unfold pm_sl
  rw [List.map_cons, List.map_cons, List.sum_cons, List.sum_cons]
theorem pm_SH_2 (L : Nat) : SH L = (0, 99, 0) :: (2, 0, L) :: (SH 0).drop 2 := rfl
theorem pm_sl_SH (L : Nat) : pm_sl (SH L) = pm_ks (0, 99, 0) + (pm_ks (2, 0, L) + pm_sl ((SH 0).drop 2)) := by rw [pm_SH_2, pm_sl_2]
theorem pm_sl_SH0 : pm_ks (0, 99, 0) + pm_sl ((SH 0).drop 2) ≤ 20000 := by decide +kernel
theorem pm_SH_len (L : Nat) : (SH L).length = 166 := by rw [pm_SH_2, List.length_cons, List.length_cons, show ((SH 0).drop 2).length = 164 by decide +kernel]
/-- the law's loop is all that is left -/
theorem pm_pre {L : Nat} {xs : Nat → Int32} {d : Nat} (hd : d ≤ 2000) (hL : L ≤ 3072) (h : pm_W pm_g (SH L) HR d pm_t246 18 [some (.inr 1), some (.inr 16), some (.inr 141), some (.inl 0)] [] (HI xs) (fun v _ => v = some (.inl 1))) : pm_Law L xs := by
  obtain ⟨N, v, hi', hrun, rfl⟩ := h
  have k1 := (pm_call_ov (k := (2, 0, L)) (xs := xs) pm_lt_g 2000 20 _ _ _ _ _ _ (show ((pm_sh0 0).set 1 pm_D ++ [(0, 9, 0)])[1]? = some pm_D from rfl) pm_e1_eq).2
  have k2 := (pm_call_ov (k := (2, 0, L)) (xs := xs) pm_lt_g 2000 20 _ _ _ _ _ _ (show (pm_e1o.2.1 ++ [(0, 10, 0)])[1]? = some pm_D by rw [List.getElem?_append_left (by rw [pm_e1_len]; omega)]; exact pm_e1_1) pm_e2_eq).2
  rw [← pm_ov_z (by omega), ← pm_ov_h0] at k1
  rw [← pm_ov_z (by omega), ← pm_so_app pm_e1_1] at k2
  have m1 := pm_call_mono pm_g (show 2000 ≤ max N 2000 + 10 by omega) 20 (max d 20) (by omega) _ _ _ _ _ _ k1
  have m2 := pm_call_mono pm_g (show 2000 ≤ max N 2000 + 10 by omega) 20 (max d 20) (by omega) _ _ _ _ _ _ k2
  have e1 : pm_so (2, 0, L) ((pm_sh0 0).set 1 pm_D ++ [(0, 9, 0)]) = pm_sh0 L ++ [(0, 9, 0)] := rfl
  rw [e1] at m1
  have hlen1 : (pm_so (2, 0, L) pm_e1o.2.1).length = 141 := by rw [pm_so_len, pm_e1_len]
  have hf := pm_exec_mono (c1 := pm_call pm_g N d) (c2 := pm_call pm_g (max N 2000 + 10) (max d 20)) (fun m a sh hr hi r h => pm_call_mono pm_g (by omega) d (max d 20) (by omega) m a sh hr hi r h) pm_t246 N (max N 2000) (by omega) _ _ _ _ _ _ _ hrun
  refine ⟨max N 2000 + 10, max d 20, SH L, HR, hi', by omega, ?_, ?_, ?_⟩
  · have v1 := pm_e1_v
    have v2 := pm_e2_v
    have hSH := pm_SH L
    have hHR : HR = pm_e2o.2.2.1 := rfl
    have hHI : HI xs = pm_ov xs pm_e2o.2.2.2 := rfl
    generalize SH L = S0 at hSH hf ⊢
    generalize HR = R0 at hHR hf ⊢
    generalize HI xs = I0 at hHI hf ⊢
    generalize pm_e2o = o2 at m2 v2 hSH hHR hHI
    generalize pm_e1o = o1 at m1 m2 hlen1 v1
    subst hSH hHR hHI
    obtain ⟨w1, s1, r1, i1⟩ := o1
    obtain ⟨w2, s2, r2, i2⟩ := o2
    dsimp only at m1 m2 hlen1 v1 v2 hf ⊢
    subst v1 v2
    generalize max N 2000 = M at m1 m2 hf ⊢
    generalize pm_call pm_g (M + 10) (max d 20) = cl at m1 m2 hf ⊢
    have hst : ∀ {n pc : Nat} {ls : pm_L} {st : List pm_V} {sh : pm_S} {hr : pm_A} {hi : pm_B} {r : pm_I}, pm_at pm_t246 pc = some r → pm_exec cl pm_t246 (n + 1) pc ls st sh hr hi = pm_step cl (pm_exec cl pm_t246 n) r pc ls st sh hr hi := fun he => pm_exec_step he
    generalize pm_exec cl pm_t246 = X at hst hf ⊢
    rw [show M + 10 = (M + 9) + 1 from rfl, hst (r := (.new 0, 3, 9, 85, 0, [])) rfl]
    show X (M + 9) 3 (pm_ent 4 [.inr 1]) [.inr 16] (pm_sh0 L ++ [(0, 9, 0)]) (pm_z pm_r0 16 0) (pm_z (pm_h0 xs) 16 0) = _
    rw [show M + 9 = (M + 8) + 1 from rfl, hst (r := (.dup, 1, 0, 0, 0, [])) rfl]
    show X (M + 8) 4 (pm_ent 4 [.inr 1]) [.inr 16, .inr 16] (pm_sh0 L ++ [(0, 9, 0)]) (pm_z pm_r0 16 0) (pm_z (pm_h0 xs) 16 0) = _
    rw [show M + 8 = (M + 7) + 1 from rfl, hst (r := (.invokestatic 0, 3, 73, 1, 87, [(0, 9)])) rfl]
    simp only [pm_step]
    rw [if_pos ⟨by decide, by decide, rfl⟩, show (List.take 1 [Sum.inr 16, Sum.inr 16] : List pm_V).reverse = [.inr 16] from rfl, m1]
    show X (M + 7) 7 (pm_ent 4 [.inr 1]) [.inr 16] (pm_so (2, 0, L) s1) r1 (pm_ov xs i1) = _
    rw [show M + 7 = (M + 6) + 1 from rfl, hst (r := (.astore 1, 1, 0, 0, 0, [])) rfl]
    simp only [pm_step]
    rw [if_pos (by decide)]
    show X (M + 6) 8 [some (.inr 1), some (.inr 16), none, none] [] (pm_so (2, 0, L) s1) r1 (pm_ov xs i1) = _
    rw [show M + 6 = (M + 5) + 1 from rfl, hst (r := (.new 0, 3, 10, 1015, 0, [])) rfl]
    simp only [pm_step]
    rw [hlen1]
    show X (M + 5) 11 [some (.inr 1), some (.inr 16), none, none] [.inr 141] (pm_so (2, 0, L) s1 ++ [(0, 10, 0)]) (pm_z r1 141 0) (pm_z (pm_ov xs i1) 141 0) = _
    rw [show M + 5 = (M + 4) + 1 from rfl, hst (r := (.dup, 1, 0, 0, 0, [])) rfl]
    show X (M + 4) 12 [some (.inr 1), some (.inr 16), none, none] [.inr 141, .inr 141] (pm_so (2, 0, L) s1 ++ [(0, 10, 0)]) (pm_z r1 141 0) (pm_z (pm_ov xs i1) 141 0) = _
    rw [show M + 4 = (M + 3) + 1 from rfl, hst (r := (.invokestatic 0, 3, 135, 1, 1017, [(0, 10)])) rfl]
    simp only [pm_step]
    have hrc : ([((0 : Int32), 10)].all fun z => pm_rcv (pm_so (2, 0, L) s1 ++ [(0, 10, 0)]) z.2 (List.take 1 [Sum.inr 141, Sum.inr 141] : List pm_V).reverse) = true := by
      show (decide ((pm_so (2, 0, L) s1 ++ [(0, 10, 0)])[141]? = some (0, 10, 0)) && true) = true
      rw [List.getElem?_append_right (by rw [hlen1]; omega), hlen1]
      rfl
    rw [if_pos ⟨by decide, by decide, hrc⟩, show (List.take 1 [Sum.inr 141, Sum.inr 141] : List pm_V).reverse = [.inr 141] from rfl, m2]
    show X (M + 3) 15 [some (.inr 1), some (.inr 16), none, none] [.inr 141] (pm_so (2, 0, L) s2) r2 (pm_ov xs i2) = _
    rw [show M + 3 = (M + 2) + 1 from rfl, hst (r := (.astore 2, 1, 0, 0, 0, [])) rfl]
    simp only [pm_step]
    rw [if_pos (by decide)]
    show X (M + 2) 16 [some (.inr 1), some (.inr 16), some (.inr 141), none] [] (pm_so (2, 0, L) s2) r2 (pm_ov xs i2) = _
    rw [show M + 2 = (M + 1) + 1 from rfl, hst (r := (.ldc 0, 1, 0, 0, 0, [])) rfl]
    show X (M + 1) 17 [some (.inr 1), some (.inr 16), some (.inr 141), none] [.inl 0] (pm_so (2, 0, L) s2) r2 (pm_ov xs i2) = _
    rw [hst (r := (.istore 3, 1, 0, 0, 0, [])) rfl]
    simp only [pm_step]
    rw [if_pos (by decide)]
    exact hf
  · rw [pm_SH_len]
    omega
  · rw [pm_sl_SH]
    have h2 := pm_sl_SH0
    have h3 : pm_ks (2, 0, L) = L := rfl
    omega
end
section
/-! ===== the layout: objects and rows by families (printed by program) ===== -/
theorem SH_at {L q : Nat} (h : q ≠ 1) : (SH L)[q]? = (SH 0)[q]? := by
  rw [pm_SH_2 L, pm_SH_2 0]
  match q, h with
  | 0, _ => rfl
  | n + 2, _ => rfl
theorem SH_of {L q : Nat} {k : pm_K} (h : decide (q ≠ 1 ∧ (SH 0)[q]? = some k) = true) : (SH L)[q]? = some k := by
  have h := of_decide_eq_true h
  rw [SH_at h.1]
  exact h.2
theorem sh_script {L : Nat} : (SH L)[1]? = some (2, 0, L) := by rw [pm_SH_2]; rfl
theorem sh_l2 {L : Nat} : (SH L)[2]? = some (2, 0, 6) := SH_of (by decide +kernel)
theorem sh_l3 {L : Nat} : (SH L)[3]? = some (0, 11, 0) := SH_of (by decide +kernel)
theorem sh_l4 {L : Nat} : (SH L)[4]? = some (0, 11, 0) := SH_of (by decide +kernel)
theorem sh_l5 {L : Nat} : (SH L)[5]? = some (0, 11, 0) := SH_of (by decide +kernel)
theorem sh_l6 {L : Nat} : (SH L)[6]? = some (0, 11, 0) := SH_of (by decide +kernel)
theorem sh_l7 {L : Nat} : (SH L)[7]? = some (0, 11, 0) := SH_of (by decide +kernel)
theorem sh_l8 {L : Nat} : (SH L)[8]? = some (0, 11, 0) := SH_of (by decide +kernel)
theorem sh_l9 {L : Nat} : (SH L)[9]? = some (2, 1, 4) := SH_of (by decide +kernel)
theorem sh_l10 {L : Nat} : (SH L)[10]? = some (2, 1, 3) := SH_of (by decide +kernel)
theorem sh_l11 {L : Nat} : (SH L)[11]? = some (2, 1, 4) := SH_of (by decide +kernel)
theorem sh_l12 {L : Nat} : (SH L)[12]? = some (2, 1, 3) := SH_of (by decide +kernel)
theorem sh_l13 {L : Nat} : (SH L)[13]? = some (2, 1, 2) := SH_of (by decide +kernel)
theorem sh_l14 {L : Nat} : (SH L)[14]? = some (2, 1, 2) := SH_of (by decide +kernel)
theorem sh_l15 {L : Nat} : (SH L)[15]? = some (0, 99, 0) := SH_of (by decide +kernel)
theorem sh_l16 {L : Nat} : (SH L)[16]? = some (0, 9, 0) := SH_of (by decide +kernel)
theorem sh_l17 {L : Nat} : (SH L)[17]? = some (0, 1, 0) := SH_of (by decide +kernel)
theorem sh_l18 {L : Nat} : (SH L)[18]? = some (1, 7, 15) := SH_of (by decide +kernel)
theorem sh_l49 {L : Nat} : (SH L)[49]? = some (1, 0, 96) := SH_of (by decide +kernel)
theorem sh_l50 {L : Nat} : (SH L)[50]? = some (0, 0, 0) := SH_of (by decide +kernel)
theorem sh_l51 {L : Nat} : (SH L)[51]? = some (1, 4, 8) := SH_of (by decide +kernel)
theorem sh_l68 {L : Nat} : (SH L)[68]? = some (1, 0, 3) := SH_of (by decide +kernel)
theorem sh_l69 {L : Nat} : (SH L)[69]? = some (0, 0, 0) := SH_of (by decide +kernel)
theorem sh_l70 {L : Nat} : (SH L)[70]? = some (1, 4, 8) := SH_of (by decide +kernel)
theorem sh_l87 {L : Nat} : (SH L)[87]? = some (1, 0, 3) := SH_of (by decide +kernel)
theorem sh_l88 {L : Nat} : (SH L)[88]? = some (0, 0, 0) := SH_of (by decide +kernel)
theorem sh_l89 {L : Nat} : (SH L)[89]? = some (1, 4, 8) := SH_of (by decide +kernel)
theorem sh_l106 {L : Nat} : (SH L)[106]? = some (1, 0, 3) := SH_of (by decide +kernel)
theorem sh_l107 {L : Nat} : (SH L)[107]? = some (0, 7, 0) := SH_of (by decide +kernel)
theorem sh_l108 {L : Nat} : (SH L)[108]? = some (1, 0, 96) := SH_of (by decide +kernel)
theorem sh_l109 {L : Nat} : (SH L)[109]? = some (0, 2, 0) := SH_of (by decide +kernel)
theorem sh_l112 {L : Nat} : (SH L)[112]? = some (1, 5, 4) := SH_of (by decide +kernel)
theorem sh_l121 {L : Nat} : (SH L)[121]? = some (1, 6, 5) := SH_of (by decide +kernel)
theorem sh_l137 {L : Nat} : (SH L)[137]? = some (0, 3, 0) := SH_of (by decide +kernel)
theorem sh_l138 {L : Nat} : (SH L)[138]? = some (1, 0, 12) := SH_of (by decide +kernel)
theorem sh_l139 {L : Nat} : (SH L)[139]? = some (1, 0, 3) := SH_of (by decide +kernel)
theorem sh_l140 {L : Nat} : (SH L)[140]? = some (1, 0, 60) := SH_of (by decide +kernel)
theorem sh_l141 {L : Nat} : (SH L)[141]? = some (0, 10, 0) := SH_of (by decide +kernel)
theorem sh_l142 {L : Nat} : (SH L)[142]? = some (1, 0, 1611) := SH_of (by decide +kernel)
theorem sh_l143 {L : Nat} : (SH L)[143]? = some (1, 0, 1611) := SH_of (by decide +kernel)
theorem sh_l144 {L : Nat} : (SH L)[144]? = some (1, 0, 1611) := SH_of (by decide +kernel)
theorem sh_l145 {L : Nat} : (SH L)[145]? = some (1, 0, 12) := SH_of (by decide +kernel)
theorem sh_l146 {L : Nat} : (SH L)[146]? = some (1, 0, 12) := SH_of (by decide +kernel)
theorem sh_l147 {L : Nat} : (SH L)[147]? = some (1, 0, 13) := SH_of (by decide +kernel)
theorem sh_l148 {L : Nat} : (SH L)[148]? = some (1, 0, 239) := SH_of (by decide +kernel)
theorem sh_l149 {L : Nat} : (SH L)[149]? = some (1, 0, 96) := SH_of (by decide +kernel)
theorem sh_l150 {L : Nat} : (SH L)[150]? = some (1, 2, 11) := SH_of (by decide +kernel)
theorem sh_l151 {L : Nat} : (SH L)[151]? = some (1, 0, 4) := SH_of (by decide +kernel)
theorem sh_l152 {L : Nat} : (SH L)[152]? = some (1, 0, 96) := SH_of (by decide +kernel)
theorem sh_l153 {L : Nat} : (SH L)[153]? = some (1, 0, 96) := SH_of (by decide +kernel)
theorem sh_l154 {L : Nat} : (SH L)[154]? = some (1, 3, 10) := SH_of (by decide +kernel)
theorem sh_l155 {L : Nat} : (SH L)[155]? = some (1, 0, 96) := SH_of (by decide +kernel)
theorem sh_l156 {L : Nat} : (SH L)[156]? = some (1, 0, 4) := SH_of (by decide +kernel)
theorem sh_l157 {L : Nat} : (SH L)[157]? = some (1, 0, 4) := SH_of (by decide +kernel)
theorem sh_l158 {L : Nat} : (SH L)[158]? = some (1, 0, 4) := SH_of (by decide +kernel)
theorem sh_l159 {L : Nat} : (SH L)[159]? = some (1, 0, 96) := SH_of (by decide +kernel)
theorem sh_l160 {L : Nat} : (SH L)[160]? = some (1, 0, 5) := SH_of (by decide +kernel)
theorem sh_l161 {L : Nat} : (SH L)[161]? = some (1, 0, 5) := SH_of (by decide +kernel)
theorem sh_l162 {L : Nat} : (SH L)[162]? = some (1, 0, 5) := SH_of (by decide +kernel)
theorem sh_l163 {L : Nat} : (SH L)[163]? = some (1, 0, 120) := SH_of (by decide +kernel)
theorem sh_l164 {L : Nat} : (SH L)[164]? = some (1, 0, 24) := SH_of (by decide +kernel)
theorem sh_l165 {L : Nat} : (SH L)[165]? = some (1, 0, 60) := SH_of (by decide +kernel)
def hrT : List (Nat × Nat × Nat) := [(3, 0, 9), (4, 0, 10), (5, 0, 11), (6, 0, 12), (7, 0, 13), (8, 0, 14), (16, 0, 17), (16, 1, 50), (16, 2, 69), (16, 3, 88), (16, 5, 107), (16, 6, 109), (16, 7, 112), (16, 8, 121), (16, 9, 137), (16, 10, 139), (16, 11, 140), (17, 0, 18), (17, 1, 49), (18, 0, 19), (18, 1, 21), (18, 2, 23), (18, 3, 25), (18, 4, 27), (18, 5, 29), (18, 6, 31), (18, 7, 33), (18, 8, 35), (18, 9, 37), (18, 10, 39), (18, 11, 41), (18, 12, 43), (18, 13, 45), (18, 14, 47), (19, 3, 20), (21, 3, 22), (23, 3, 24), (25, 3, 26), (27, 3, 28), (29, 3, 30), (31, 3, 32), (33, 3, 34), (35, 3, 36), (37, 3, 38), (39, 3, 40), (41, 3, 42), (43, 3, 44), (45, 3, 46), (47, 3, 48), (50, 0, 17), (50, 1, 51), (50, 9, 68), (51, 0, 52), (51, 1, 54), (51, 2, 56), (51, 3, 58), (51, 4, 60), (51, 5, 62), (51, 6, 64), (51, 7, 66), (52, 5, 53), (54, 5, 55), (56, 5, 57), (58, 5, 59), (60, 5, 61), (62, 5, 63), (64, 5, 65), (66, 5, 67), (69, 0, 17), (69, 1, 70), (69, 9, 87), (70, 0, 71), (70, 1, 73), (70, 2, 75), (70, 3, 77), (70, 4, 79), (70, 5, 81), (70, 6, 83), (70, 7, 85), (71, 5, 72), (73, 5, 74), (75, 5, 76), (77, 5, 78), (79, 5, 80), (81, 5, 82), (83, 5, 84), (85, 5, 86), (88, 0, 17), (88, 1, 89), (88, 9, 106), (89, 0, 90), (89, 1, 92), (89, 2, 94), (89, 3, 96), (89, 4, 98), (89, 5, 100), (89, 6, 102), (89, 7, 104), (90, 5, 91), (92, 5, 93), (94, 5, 95), (96, 5, 97), (98, 5, 99), (100, 5, 101), (102, 5, 103), (104, 5, 105), (107, 0, 108), (109, 0, 107), (110, 3, 111), (112, 0, 113), (112, 1, 115), (112, 2, 117), (112, 3, 119), (113, 2, 114), (115, 2, 116), (117, 2, 118), (119, 2, 120), (121, 0, 122), (121, 1, 125), (121, 2, 128), (121, 3, 131), (121, 4, 134), (122, 4, 123), (123, 2, 124), (125, 4, 126), (126, 2, 127), (128, 4, 129), (129, 2, 130), (131, 4, 132), (132, 2, 133), (134, 4, 135), (135, 2, 136), (137, 0, 138), (141, 0, 142), (141, 1, 143), (141, 2, 144), (141, 4, 145), (141, 6, 146), (141, 8, 147), (141, 9, 148), (141, 10, 149), (141, 18, 150), (141, 19, 151), (141, 20, 152), (141, 23, 153), (141, 25, 154), (141, 26, 155), (141, 27, 156), (141, 28, 157), (141, 29, 158), (141, 30, 159), (141, 31, 160), (141, 32, 161), (141, 33, 162), (141, 34, 163), (141, 35, 164), (141, 36, 165)]
set_option maxRecDepth 100000 in
theorem hr_all : hrT.all (fun t => HR t.1 t.2.1 == t.2.2) = true := by decide +kernel
theorem hr_in {q b v : Nat} (h : hrT.contains (q, b, v) = true) : HR q b = v := by
  have h1 := List.all_eq_true.mp hr_all (q, b, v) (List.contains_iff_mem.mp h)
  simpa using h1
theorem hr_3_0 : HR 3 0 = 9 := hr_in (by decide +kernel)
theorem hr_4_0 : HR 4 0 = 10 := hr_in (by decide +kernel)
theorem hr_5_0 : HR 5 0 = 11 := hr_in (by decide +kernel)
theorem hr_6_0 : HR 6 0 = 12 := hr_in (by decide +kernel)
theorem hr_7_0 : HR 7 0 = 13 := hr_in (by decide +kernel)
theorem hr_8_0 : HR 8 0 = 14 := hr_in (by decide +kernel)
theorem hr_16_0 : HR 16 0 = 17 := hr_in (by decide +kernel)
theorem hr_16_1 : HR 16 1 = 50 := hr_in (by decide +kernel)
theorem hr_16_2 : HR 16 2 = 69 := hr_in (by decide +kernel)
theorem hr_16_3 : HR 16 3 = 88 := hr_in (by decide +kernel)
theorem hr_16_5 : HR 16 5 = 107 := hr_in (by decide +kernel)
theorem hr_16_6 : HR 16 6 = 109 := hr_in (by decide +kernel)
theorem hr_16_7 : HR 16 7 = 112 := hr_in (by decide +kernel)
theorem hr_16_8 : HR 16 8 = 121 := hr_in (by decide +kernel)
theorem hr_16_9 : HR 16 9 = 137 := hr_in (by decide +kernel)
theorem hr_16_10 : HR 16 10 = 139 := hr_in (by decide +kernel)
theorem hr_16_11 : HR 16 11 = 140 := hr_in (by decide +kernel)
theorem hr_17_0 : HR 17 0 = 18 := hr_in (by decide +kernel)
theorem hr_17_1 : HR 17 1 = 49 := hr_in (by decide +kernel)
theorem hr_50_0 : HR 50 0 = 17 := hr_in (by decide +kernel)
theorem hr_50_1 : HR 50 1 = 51 := hr_in (by decide +kernel)
theorem hr_50_9 : HR 50 9 = 68 := hr_in (by decide +kernel)
theorem hr_69_0 : HR 69 0 = 17 := hr_in (by decide +kernel)
theorem hr_69_1 : HR 69 1 = 70 := hr_in (by decide +kernel)
theorem hr_69_9 : HR 69 9 = 87 := hr_in (by decide +kernel)
theorem hr_88_0 : HR 88 0 = 17 := hr_in (by decide +kernel)
theorem hr_88_1 : HR 88 1 = 89 := hr_in (by decide +kernel)
theorem hr_88_9 : HR 88 9 = 106 := hr_in (by decide +kernel)
theorem hr_107_0 : HR 107 0 = 108 := hr_in (by decide +kernel)
theorem hr_109_0 : HR 109 0 = 107 := hr_in (by decide +kernel)
theorem hr_137_0 : HR 137 0 = 138 := hr_in (by decide +kernel)
theorem hr_141_0 : HR 141 0 = 142 := hr_in (by decide +kernel)
theorem hr_141_1 : HR 141 1 = 143 := hr_in (by decide +kernel)
theorem hr_141_2 : HR 141 2 = 144 := hr_in (by decide +kernel)
theorem hr_141_4 : HR 141 4 = 145 := hr_in (by decide +kernel)
theorem hr_141_6 : HR 141 6 = 146 := hr_in (by decide +kernel)
theorem hr_141_8 : HR 141 8 = 147 := hr_in (by decide +kernel)
theorem hr_141_9 : HR 141 9 = 148 := hr_in (by decide +kernel)
theorem hr_141_10 : HR 141 10 = 149 := hr_in (by decide +kernel)
theorem hr_141_18 : HR 141 18 = 150 := hr_in (by decide +kernel)
theorem hr_141_19 : HR 141 19 = 151 := hr_in (by decide +kernel)
theorem hr_141_20 : HR 141 20 = 152 := hr_in (by decide +kernel)
theorem hr_141_23 : HR 141 23 = 153 := hr_in (by decide +kernel)
theorem hr_141_25 : HR 141 25 = 154 := hr_in (by decide +kernel)
theorem hr_141_26 : HR 141 26 = 155 := hr_in (by decide +kernel)
theorem hr_141_27 : HR 141 27 = 156 := hr_in (by decide +kernel)
theorem hr_141_28 : HR 141 28 = 157 := hr_in (by decide +kernel)
theorem hr_141_29 : HR 141 29 = 158 := hr_in (by decide +kernel)
theorem hr_141_30 : HR 141 30 = 159 := hr_in (by decide +kernel)
theorem hr_141_31 : HR 141 31 = 160 := hr_in (by decide +kernel)
theorem hr_141_32 : HR 141 32 = 161 := hr_in (by decide +kernel)
theorem hr_141_33 : HR 141 33 = 162 := hr_in (by decide +kernel)
theorem hr_141_34 : HR 141 34 = 163 := hr_in (by decide +kernel)
theorem hr_141_35 : HR 141 35 = 164 := hr_in (by decide +kernel)
theorem hr_141_36 : HR 141 36 = 165 := hr_in (by decide +kernel)
abbrev pm_fo (F : Nat) : Prop := F = 50 ∨ F = 69 ∨ F = 88
theorem fo_lit (F : Nat) (h : pm_fo F) : pm_fo F := h
theorem sh_fo {L F : Nat} (h : pm_fo F) : (SH L)[F]? = some (0, 0, 0) := by rcases h with rfl | rfl | rfl <;> exact SH_of (by decide +kernel)
theorem sh_fo1 {L F : Nat} (h : pm_fo F) : (SH L)[F + 1]? = some (1, 4, 8) := by rcases h with rfl | rfl | rfl <;> exact SH_of (by decide +kernel)
theorem sh_fo18 {L F : Nat} (h : pm_fo F) : (SH L)[F + 18]? = some (1, 0, 3) := by rcases h with rfl | rfl | rfl <;> exact SH_of (by decide +kernel)
theorem hr_fo0 {F : Nat} (h : pm_fo F) : HR F 0 = 17 := by rcases h with rfl | rfl | rfl <;> exact hr_in (by decide +kernel)
theorem hr_fo1 {F : Nat} (h : pm_fo F) : HR F 1 = F + 1 := by rcases h with rfl | rfl | rfl <;> exact hr_in (by decide +kernel)
theorem hr_fo9 {F : Nat} (h : pm_fo F) : HR F 9 = F + 18 := by rcases h with rfl | rfl | rfl <;> exact hr_in (by decide +kernel)
def ck (q b v : Nat) : Bool := hrT.contains (q, b, v)
def cs (q : Nat) (k : pm_K) : Bool := decide (q ≠ 1 ∧ (SH 0)[q]? = some k)
theorem cs_of {L q : Nat} {k : pm_K} (h : cs q k = true) : (SH L)[q]? = some k := SH_of h
theorem all_lt {n : Nat} {p : Nat → Bool} (h : (List.range n).all p = true) {i : Nat} (hi : i < n) : p i = true := List.all_eq_true.mp h i (List.mem_range.mpr hi)
set_option maxRecDepth 100000 in
theorem hr_sp1 : (List.range 8).all (fun i => ck 51 i (50 + 2 + 2 * i) && ck 70 i (69 + 2 + 2 * i) && ck 89 i (88 + 2 + 2 * i)) = true := by decide +kernel
set_option maxRecDepth 100000 in
theorem hr_sp2 : (List.range 8).all (fun i => ck (50 + 2 + 2 * i) 5 (50 + 2 + 2 * i + 1) && ck (69 + 2 + 2 * i) 5 (69 + 2 + 2 * i + 1) && ck (88 + 2 + 2 * i) 5 (88 + 2 + 2 * i + 1)) = true := by decide +kernel
set_option maxRecDepth 100000 in
theorem sh_sp1 : (List.range 8).all (fun i => cs (50 + 2 + 2 * i) (0, 6, 0) && cs (69 + 2 + 2 * i) (0, 6, 0) && cs (88 + 2 + 2 * i) (0, 6, 0)) = true := by decide +kernel
set_option maxRecDepth 100000 in
theorem sh_sp2 : (List.range 8).all (fun i => cs (50 + 2 + 2 * i + 1) (1, 0, 24) && cs (69 + 2 + 2 * i + 1) (1, 0, 24) && cs (88 + 2 + 2 * i + 1) (1, 0, 24)) = true := by decide +kernel
theorem and3 {a b c : Bool} (h : (a && b && c) = true) : a = true ∧ b = true ∧ c = true := by rw [Bool.and_eq_true, Bool.and_eq_true] at h; exact ⟨h.1.1, h.1.2, h.2⟩
theorem hr_sp {F i : Nat} (h : pm_fo F) (hi : i < 8) : HR (F + 1) i = F + 2 + 2 * i := by
  have h1 := and3 (all_lt hr_sp1 hi)
  rcases h with rfl | rfl | rfl
  · exact hr_in h1.1
  · exact hr_in h1.2.1
  · exact hr_in h1.2.2
def pm_sk (S : Nat) : Prop := ∃ F i, pm_fo F ∧ i < 8 ∧ S = F + 2 + 2 * i
theorem sk_of {F i : Nat} (h : pm_fo F) (hi : i < 8) : pm_sk (F + 2 + 2 * i) := ⟨F, i, h, hi, rfl⟩
theorem sh_sk {L S : Nat} (h : pm_sk S) : (SH L)[S]? = some (0, 6, 0) := by
  obtain ⟨F, i, hF, hi, rfl⟩ := h
  have h1 := and3 (all_lt sh_sp1 hi)
  rcases hF with rfl | rfl | rfl
  · exact cs_of h1.1
  · exact cs_of h1.2.1
  · exact cs_of h1.2.2
theorem sh_sk1 {L S : Nat} (h : pm_sk S) : (SH L)[S + 1]? = some (1, 0, 24) := by
  obtain ⟨F, i, hF, hi, rfl⟩ := h
  have h1 := and3 (all_lt sh_sp2 hi)
  rcases hF with rfl | rfl | rfl
  · exact cs_of h1.1
  · exact cs_of h1.2.1
  · exact cs_of h1.2.2
theorem hr_sk {S : Nat} (h : pm_sk S) : HR S 5 = S + 1 := by
  obtain ⟨F, i, hF, hi, rfl⟩ := h
  have h1 := and3 (all_lt hr_sp2 hi)
  rcases hF with rfl | rfl | rfl
  · exact hr_in h1.1
  · exact hr_in h1.2.1
  · exact hr_in h1.2.2
def pm_st (T : Nat) : Prop := (∃ i, i < 4 ∧ T = 113 + 2 * i) ∨ ∃ i, i < 5 ∧ T = 122 + 3 * i + 1
theorem st_of {i : Nat} (h : i < 4) : pm_st (113 + 2 * i) := Or.inl ⟨i, h, rfl⟩
def pm_su (U : Nat) : Prop := ∃ i, i < 5 ∧ U = 122 + 3 * i
theorem su_of {i : Nat} (h : i < 5) : pm_su (122 + 3 * i) := ⟨i, h, rfl⟩
theorem st_su {U : Nat} (h : pm_su U) : pm_st (U + 1) := by obtain ⟨i, hi, rfl⟩ := h; exact Or.inr ⟨i, hi, rfl⟩
set_option maxRecDepth 100000 in
theorem st_1 : (List.range 4).all (fun i => cs (113 + 2 * i) (0, 4, 0)) = true := by decide +kernel
set_option maxRecDepth 100000 in
theorem st_2 : (List.range 4).all (fun i => cs (113 + 2 * i + 1) (1, 0, 24)) = true := by decide +kernel
set_option maxRecDepth 100000 in
theorem st_3 : (List.range 4).all (fun i => ck (113 + 2 * i) 2 (113 + 2 * i + 1)) = true := by decide +kernel
set_option maxRecDepth 100000 in
theorem st_4 : (List.range 4).all (fun i => ck 112 i (113 + 2 * i)) = true := by decide +kernel
set_option maxRecDepth 100000 in
theorem su_1 : (List.range 5).all (fun i => cs (122 + 3 * i) (0, 5, 0)) = true := by decide +kernel
set_option maxRecDepth 100000 in
theorem su_2 : (List.range 5).all (fun i => cs (122 + 3 * i + 1) (0, 4, 0)) = true := by decide +kernel
set_option maxRecDepth 100000 in
theorem su_3 : (List.range 5).all (fun i => cs (122 + 3 * i + 1 + 1) (1, 0, 24)) = true := by decide +kernel
set_option maxRecDepth 100000 in
theorem su_4 : (List.range 5).all (fun i => ck (122 + 3 * i) 4 (122 + 3 * i + 1)) = true := by decide +kernel
set_option maxRecDepth 100000 in
theorem su_5 : (List.range 5).all (fun i => ck (122 + 3 * i + 1) 2 (122 + 3 * i + 1 + 1)) = true := by decide +kernel
set_option maxRecDepth 100000 in
theorem su_6 : (List.range 5).all (fun i => ck 121 i (122 + 3 * i)) = true := by decide +kernel
theorem sh_st {L T : Nat} (h : pm_st T) : (SH L)[T]? = some (0, 4, 0) := by
  rcases h with ⟨i, hi, rfl⟩ | ⟨i, hi, rfl⟩
  · exact cs_of (all_lt st_1 hi)
  · exact cs_of (all_lt su_2 hi)
theorem sh_st1 {L T : Nat} (h : pm_st T) : (SH L)[T + 1]? = some (1, 0, 24) := by
  rcases h with ⟨i, hi, rfl⟩ | ⟨i, hi, rfl⟩
  · exact cs_of (all_lt st_2 hi)
  · exact cs_of (all_lt su_3 hi)
theorem hr_st {T : Nat} (h : pm_st T) : HR T 2 = T + 1 := by
  rcases h with ⟨i, hi, rfl⟩ | ⟨i, hi, rfl⟩
  · exact hr_in (all_lt st_3 hi)
  · exact hr_in (all_lt su_5 hi)
theorem hr_sh {i : Nat} (h : i < 4) : HR 112 i = 113 + 2 * i := hr_in (all_lt st_4 h)
theorem hr_sl {i : Nat} (h : i < 5) : HR 121 i = 122 + 3 * i := hr_in (all_lt su_6 h)
theorem sh_su {L U : Nat} (h : pm_su U) : (SH L)[U]? = some (0, 5, 0) := by obtain ⟨i, hi, rfl⟩ := h; exact cs_of (all_lt su_1 hi)
theorem hr_su {U : Nat} (h : pm_su U) : HR U 4 = U + 1 := by obtain ⟨i, hi, rfl⟩ := h; exact hr_in (all_lt su_4 hi)
def pm_tx (X : Nat) : Prop := (∃ i, i < 15 ∧ X = 19 + 2 * i) ∨ X = 110
theorem tx_of {i : Nat} (h : i < 15) : pm_tx (19 + 2 * i) := Or.inl ⟨i, h, rfl⟩
theorem tx_lt {X : Nat} (h : pm_tx X) : X < 2147483648 := by rcases h with ⟨i, hi, rfl⟩ | rfl <;> omega
set_option maxRecDepth 100000 in
theorem tx_1 : (List.range 15).all (fun i => cs (19 + 2 * i) (0, 8, 0)) = true := by decide +kernel
set_option maxRecDepth 100000 in
theorem tx_2 : (List.range 15).all (fun i => cs (19 + 2 * i + 1) (1, 0, 96)) = true := by decide +kernel
set_option maxRecDepth 100000 in
theorem tx_3 : (List.range 15).all (fun i => ck (19 + 2 * i) 3 (19 + 2 * i + 1)) = true := by decide +kernel
set_option maxRecDepth 100000 in
theorem tx_4 : (List.range 15).all (fun i => ck 18 i (19 + 2 * i)) = true := by decide +kernel
theorem sh_tx {L X : Nat} (h : pm_tx X) : (SH L)[X]? = some (0, 8, 0) := by
  rcases h with ⟨i, hi, rfl⟩ | rfl
  · exact cs_of (all_lt tx_1 hi)
  · exact SH_of (by decide +kernel)
theorem sh_tx1 {L X : Nat} (h : pm_tx X) : (SH L)[X + 1]? = some (1, 0, 96) := by
  rcases h with ⟨i, hi, rfl⟩ | rfl
  · exact cs_of (all_lt tx_2 hi)
  · exact SH_of (by decide +kernel)
theorem hr_tx {X : Nat} (h : pm_tx X) : HR X 3 = X + 1 := by
  rcases h with ⟨i, hi, rfl⟩ | rfl
  · exact hr_in (all_lt tx_3 hi)
  · exact hr_in (by decide +kernel)
theorem hr_te {i : Nat} (h : i < 15) : HR 18 i = 19 + 2 * i := hr_in (all_lt tx_4 h)
def pm_sr (S : Nat) : Prop := S = 3 ∨ S = 4 ∨ S = 5 ∨ S = 6 ∨ S = 7 ∨ S = 8
theorem sr_lit (S : Nat) (h : S = 3 ∨ S = 4 ∨ S = 5 ∨ S = 6 ∨ S = 7 ∨ S = 8) : pm_sr S := h
def slen (S : Nat) : Nat := [4, 3, 4, 3, 2, 2].getD (S - 3) 0
theorem slen_lt {S : Nat} (h : pm_sr S) : slen S ≤ 2147483648 := by rcases h with rfl | rfl | rfl | rfl | rfl | rfl <;> decide
theorem sh_sr {L S : Nat} (h : pm_sr S) : (SH L)[S]? = some (0, 11, 0) := by rcases h with rfl | rfl | rfl | rfl | rfl | rfl <;> exact SH_of (by decide +kernel)
theorem sh_sr6 {L S : Nat} (h : pm_sr S) : (SH L)[S + 6]? = some (2, 1, slen S) := by rcases h with rfl | rfl | rfl | rfl | rfl | rfl <;> exact SH_of (by decide +kernel)
theorem hr_sr {S : Nat} (h : pm_sr S) : HR S 0 = S + 6 := by rcases h with rfl | rfl | rfl | rfl | rfl | rfl <;> exact hr_in (by decide +kernel)
theorem pm_tn {e : Int32} {k n : Nat} (he : e = nI k) (hk : k < n) (hn : n ≤ 2147483648) : e.toNatClampNeg = k := by subst he; exact nI_clamp (by omega)
theorem pm_tn_le {e : Int32} {k : Nat} (he : e = nI k) (hk : k < 2147483648) : e.toNatClampNeg = k := by subst he; exact nI_clamp hk
theorem pm_tn_tx {e : Int32} {k : Nat} (he : e = nI k) (hk : pm_tx k) : e.toNatClampNeg = k := pm_tn_le he (tx_lt hk)
theorem pm_ao_of {sh : pm_S} {q a n t k : Nat} {e : Int32} (hs : sh[q]? = some (t + 1, a, n)) (hk : k < n) (he : e = nI k) (hn : n ≤ 2147483648) : pm_ao sh q a e := ⟨t, n, hs, by subst he; exact nI_pos (by omega), by rw [pm_tn he hk hn]; exact hk⟩
theorem pm_aw_of {sh : pm_S} {q a n k : Nat} {e : Int32} (hs : sh[q]? = some (1, a, n)) (hk : k < n) (he : e = nI k) (hn : n ≤ 2147483648) : pm_aw sh q a e := ⟨n, hs, by subst he; exact nI_pos (by omega), by rw [pm_tn he hk hn]; exact hk⟩
theorem pm_cpy_of {sh : pm_S} {q d m1 m2 k1 k2 k3 : Nat} {e1 e2 e3 : Int32} (hs : sh[q]? = some (1, 0, m1)) (hd : sh[d]? = some (1, 0, m2)) (h1 : e1 = nI k1) (h2 : e2 = nI k2) (h3 : e3 = nI k3) (l1 : k1 + k3 ≤ m1) (l2 : k2 + k3 ≤ m2) (b1 : m1 < 2147483648) (b2 : m2 < 2147483648) : pm_cpy sh q d e1 e2 e3 := by
  refine ⟨m1, m2, hs, hd, ?_, ?_, ?_, ?_, ?_⟩
  · subst h1; exact nI_pos (by omega)
  · subst h2; exact nI_pos (by omega)
  · subst h3; exact nI_pos (by omega)
  · rw [pm_tn_le h1 (by omega), pm_tn_le h3 (by omega)]; exact l1
  · rw [pm_tn_le h2 (by omega), pm_tn_le h3 (by omega)]; exact l2
theorem pm_cd_t {cd : ClassFile.Cond} {x y : Int32} (h : pm_cb cd x y = true) : pm_cd cd x y := (pm_cb_iff _ _ _).mp h
theorem pm_cd_f {cd : ClassFile.Cond} {x y : Int32} (h : pm_cb cd x y = false) : ¬ pm_cd cd x y := fun z => by rw [(pm_cb_iff _ _ _).mpr z] at h; cases h
theorem pm_sw_t {x k : Int32} {a t : Nat} {l : List (Int32 × Nat)} (h : x = k) : pm_sw x a ((k, t) :: l) = t := by unfold pm_sw; rw [if_pos h]
theorem pm_sw_f {x k : Int32} {a t : Nat} {l : List (Int32 × Nat)} (h : ¬ x = k) : pm_sw x a ((k, t) :: l) = pm_sw x a l := by
  show (if x = k then t else pm_sw x a l) = _
  rw [if_neg h]
end
section
/-! printed by program (wip/whole/vcg.py): small methods, what each needs -/
theorem v_Kinds_keepsOf {L d : Nat} {p1 : Int32} {p2 : Int32} {hi : pm_B} {Q : pm_Q} (h : ((p1 = 1) → Q (some (.inl (p2 / 2))) hi) ∧ ((¬ p1 = 1) → ((p1 = 2) → Q (some (.inl (if 0 < (p2 - 2) then (p2 - 2) else 0))) hi) ∧ ((¬ p1 = 2) → ((p1 = 3) → Q (some (.inl ((p2 / 2) + 3))) hi) ∧ ((¬ p1 = 3) → ((p1 = 4) → Q (some (.inl (if 0 < (p2 - 2) then (p2 - 2) else 0))) hi) ∧ ((¬ p1 = 4) → ((p1 = 5) → Q (some (.inl 0)) hi) ∧ ((¬ p1 = 5) → Q (some (.inl p2)) hi)))))) : pm_C pm_g (SH L) HR (d + 1) m_Kinds_keepsOf [.inl p1, .inl p2] hi Q := by
  refine pm_C_of (maxL := 2) (t := pm_t18) rfl (Nat.le_of_ble_eq_true rfl) ?_
  refine pm_W_of 10 [] rfl ?_
  intro pc1 hsw
  by_cases c1 : p1 = 1
  · rw [pm_sw_t c1] at hsw
    subst hsw
    replace h := h.1 c1
    refine And.intro (by decide) ?_
    refine And.intro trivial ?_
    exact h
  · rw [pm_sw_f c1] at hsw
    replace h := h.2 c1
    by_cases c2 : p1 = 2
    · rw [pm_sw_t c2] at hsw
      subst hsw
      replace h := h.1 c2
      refine And.intro trivial ?_
      exact h
    · rw [pm_sw_f c2] at hsw
      replace h := h.2 c2
      by_cases c3 : p1 = 3
      · rw [pm_sw_t c3] at hsw
        subst hsw
        replace h := h.1 c3
        refine And.intro (by decide) ?_
        refine And.intro trivial ?_
        exact h
      · rw [pm_sw_f c3] at hsw
        replace h := h.2 c3
        by_cases c4 : p1 = 4
        · rw [pm_sw_t c4] at hsw
          subst hsw
          replace h := h.1 c4
          refine And.intro trivial ?_
          exact h
        · rw [pm_sw_f c4] at hsw
          replace h := h.2 c4
          by_cases c5 : p1 = 5
          · rw [pm_sw_t c5] at hsw
            subst hsw
            replace h := h.1 c5
            refine And.intro trivial ?_
            exact h
          · rw [pm_sw_f c5] at hsw
            replace h := h.2 c5
            replace hsw : 56 = pc1 := hsw
            subst hsw
            refine And.intro trivial ?_
            exact h
def f_Kinds_keepsOf (p1 : Int32) (p2 : Int32) : Int32 := (if p1 = 1 then (p2 / 2) else (if p1 = 2 then (if 0 < (p2 - 2) then (p2 - 2) else 0) else (if p1 = 3 then ((p2 / 2) + 3) else (if p1 = 4 then (if 0 < (p2 - 2) then (p2 - 2) else 0) else (if p1 = 5 then 0 else p2)))))
theorem f_Kinds_keepsOf_c {L d : Nat} {p1 : Int32} {p2 : Int32} {hi : pm_B} {Q : pm_Q} (h : Q (some (.inl (f_Kinds_keepsOf p1 p2))) hi) : pm_C pm_g (SH L) HR (d + 1) m_Kinds_keepsOf [.inl p1, .inl p2] hi Q := by
  refine v_Kinds_keepsOf ?_
  unfold f_Kinds_keepsOf at h
  refine And.intro (fun c1 => ?_) (fun c1 => ?_)
  · rw [if_pos c1] at h
    exact h
  · rw [if_neg c1] at h
    refine And.intro (fun c2 => ?_) (fun c2 => ?_)
    · rw [if_pos c2] at h
      exact h
    · rw [if_neg c2] at h
      refine And.intro (fun c3 => ?_) (fun c3 => ?_)
      · rw [if_pos c3] at h
        exact h
      · rw [if_neg c3] at h
        refine And.intro (fun c4 => ?_) (fun c4 => ?_)
        · rw [if_pos c4] at h
          exact h
        · rw [if_neg c4] at h
          refine And.intro (fun c5 => ?_) (fun c5 => ?_)
          · rw [if_pos c5] at h
            exact h
          · rw [if_neg c5] at h
            exact h
theorem v_Kinds_takesOf {L d : Nat} {p1 : Int32} {p2 : Int32} {hi : pm_B} {Q : pm_Q} (h : ((p1 = 1) → Q (some (.inl (p2 + 2))) hi) ∧ ((¬ p1 = 1) → ((p1 = 2) → Q (some (.inl (p2 / 2))) hi) ∧ ((¬ p1 = 2) → ((p1 = 3) → Q (some (.inl (p2 + 2))) hi) ∧ ((¬ p1 = 3) → ((p1 = 4) → Q (some (.inl ((p2 / 2) + 1))) hi) ∧ ((¬ p1 = 4) → ((p1 = 5) → Q (some (.inl 0)) hi) ∧ ((¬ p1 = 5) → Q (some (.inl p2)) hi)))))) : pm_C pm_g (SH L) HR (d + 1) m_Kinds_takesOf [.inl p1, .inl p2] hi Q := by
  refine pm_C_of (maxL := 2) (t := pm_t19) rfl (Nat.le_of_ble_eq_true rfl) ?_
  refine pm_W_of 10 [] rfl ?_
  intro pc1 hsw
  by_cases c1 : p1 = 1
  · rw [pm_sw_t c1] at hsw
    subst hsw
    replace h := h.1 c1
    refine And.intro trivial ?_
    exact h
  · rw [pm_sw_f c1] at hsw
    replace h := h.2 c1
    by_cases c2 : p1 = 2
    · rw [pm_sw_t c2] at hsw
      subst hsw
      replace h := h.1 c2
      refine And.intro (by decide) ?_
      refine And.intro trivial ?_
      exact h
    · rw [pm_sw_f c2] at hsw
      replace h := h.2 c2
      by_cases c3 : p1 = 3
      · rw [pm_sw_t c3] at hsw
        subst hsw
        replace h := h.1 c3
        refine And.intro trivial ?_
        exact h
      · rw [pm_sw_f c3] at hsw
        replace h := h.2 c3
        by_cases c4 : p1 = 4
        · rw [pm_sw_t c4] at hsw
          subst hsw
          replace h := h.1 c4
          refine And.intro (by decide) ?_
          refine And.intro trivial ?_
          exact h
        · rw [pm_sw_f c4] at hsw
          replace h := h.2 c4
          by_cases c5 : p1 = 5
          · rw [pm_sw_t c5] at hsw
            subst hsw
            replace h := h.1 c5
            refine And.intro trivial ?_
            exact h
          · rw [pm_sw_f c5] at hsw
            replace h := h.2 c5
            replace hsw : 52 = pc1 := hsw
            subst hsw
            refine And.intro trivial ?_
            exact h
def f_Kinds_takesOf (p1 : Int32) (p2 : Int32) : Int32 := (if p1 = 1 then (p2 + 2) else (if p1 = 2 then (p2 / 2) else (if p1 = 3 then (p2 + 2) else (if p1 = 4 then ((p2 / 2) + 1) else (if p1 = 5 then 0 else p2)))))
theorem f_Kinds_takesOf_c {L d : Nat} {p1 : Int32} {p2 : Int32} {hi : pm_B} {Q : pm_Q} (h : Q (some (.inl (f_Kinds_takesOf p1 p2))) hi) : pm_C pm_g (SH L) HR (d + 1) m_Kinds_takesOf [.inl p1, .inl p2] hi Q := by
  refine v_Kinds_takesOf ?_
  unfold f_Kinds_takesOf at h
  refine And.intro (fun c1 => ?_) (fun c1 => ?_)
  · rw [if_pos c1] at h
    exact h
  · rw [if_neg c1] at h
    refine And.intro (fun c2 => ?_) (fun c2 => ?_)
    · rw [if_pos c2] at h
      exact h
    · rw [if_neg c2] at h
      refine And.intro (fun c3 => ?_) (fun c3 => ?_)
      · rw [if_pos c3] at h
        exact h
      · rw [if_neg c3] at h
        refine And.intro (fun c4 => ?_) (fun c4 => ?_)
        · rw [if_pos c4] at h
          exact h
        · rw [if_neg c4] at h
          refine And.intro (fun c5 => ?_) (fun c5 => ?_)
          · rw [if_pos c5] at h
            exact h
          · rw [if_neg c5] at h
            exact h
theorem v_Kinds_goesOf {L d : Nat} {p1 : Int32} {hi : pm_B} {Q : pm_Q} (h : ((p1 = 1) → Q (some (.inl 2)) hi) ∧ ((¬ p1 = 1) → ((p1 = 2) → Q (some (.inl 4)) hi) ∧ ((¬ p1 = 2) → ((p1 = 3) → Q (some (.inl 4)) hi) ∧ ((¬ p1 = 3) → ((p1 = 4) → Q (some (.inl 9)) hi) ∧ ((¬ p1 = 4) → Q (some (.inl 3)) hi))))) : pm_C pm_g (SH L) HR (d + 1) m_Kinds_goesOf [.inl p1] hi Q := by
  refine pm_C_of (maxL := 1) (t := pm_t20) rfl (Nat.le_of_ble_eq_true rfl) ?_
  refine pm_W_of 6 [] rfl ?_
  intro pc1 hsw
  by_cases c1 : p1 = 1
  · rw [pm_sw_t c1] at hsw
    subst hsw
    replace h := h.1 c1
    refine And.intro trivial ?_
    exact h
  · rw [pm_sw_f c1] at hsw
    replace h := h.2 c1
    by_cases c2 : p1 = 2
    · rw [pm_sw_t c2] at hsw
      subst hsw
      replace h := h.1 c2
      refine And.intro trivial ?_
      exact h
    · rw [pm_sw_f c2] at hsw
      replace h := h.2 c2
      by_cases c3 : p1 = 3
      · rw [pm_sw_t c3] at hsw
        subst hsw
        replace h := h.1 c3
        refine And.intro trivial ?_
        exact h
      · rw [pm_sw_f c3] at hsw
        replace h := h.2 c3
        by_cases c4 : p1 = 4
        · rw [pm_sw_t c4] at hsw
          subst hsw
          replace h := h.1 c4
          refine And.intro trivial ?_
          exact h
        · rw [pm_sw_f c4] at hsw
          replace h := h.2 c4
          replace hsw : 41 = pc1 := hsw
          subst hsw
          refine And.intro trivial ?_
          exact h
def f_Kinds_goesOf (p1 : Int32) : Int32 := (if p1 = 1 then 2 else (if p1 = 2 then 4 else (if p1 = 3 then 4 else (if p1 = 4 then 9 else 3))))
theorem f_Kinds_goesOf_c {L d : Nat} {p1 : Int32} {hi : pm_B} {Q : pm_Q} (h : Q (some (.inl (f_Kinds_goesOf p1))) hi) : pm_C pm_g (SH L) HR (d + 1) m_Kinds_goesOf [.inl p1] hi Q := by
  refine v_Kinds_goesOf ?_
  unfold f_Kinds_goesOf at h
  refine And.intro (fun c1 => ?_) (fun c1 => ?_)
  · rw [if_pos c1] at h
    exact h
  · rw [if_neg c1] at h
    refine And.intro (fun c2 => ?_) (fun c2 => ?_)
    · rw [if_pos c2] at h
      exact h
    · rw [if_neg c2] at h
      refine And.intro (fun c3 => ?_) (fun c3 => ?_)
      · rw [if_pos c3] at h
        exact h
      · rw [if_neg c3] at h
        refine And.intro (fun c4 => ?_) (fun c4 => ?_)
        · rw [if_pos c4] at h
          exact h
        · rw [if_neg c4] at h
          exact h
theorem v_Kinds_worthOf {L d : Nat} {p1 : Int32} {p2 : Int32} {hi : pm_B} {Q : pm_Q} (h : ((p1 = 1) → Q (some (.inl (p2 + 6))) hi) ∧ ((¬ p1 = 1) → ((p1 = 2) → Q (some (.inl (99 - p2))) hi) ∧ ((¬ p1 = 2) → ((p1 = 3) → Q (some (.inl (2 * (p2 + 6)))) hi) ∧ ((¬ p1 = 3) → ((p1 = 4) → Q (some (.inl (91 - p2))) hi) ∧ ((¬ p1 = 4) → ((p1 = 5) → Q (some (.inl 1)) hi) ∧ ((¬ p1 = 5) → Q (some (.inl p2)) hi)))))) : pm_C pm_g (SH L) HR (d + 1) m_Kinds_worthOf [.inl p1, .inl p2] hi Q := by
  refine pm_C_of (maxL := 2) (t := pm_t21) rfl (Nat.le_of_ble_eq_true rfl) ?_
  refine pm_W_of 10 [] rfl ?_
  intro pc1 hsw
  by_cases c1 : p1 = 1
  · rw [pm_sw_t c1] at hsw
    subst hsw
    replace h := h.1 c1
    refine And.intro trivial ?_
    exact h
  · rw [pm_sw_f c1] at hsw
    replace h := h.2 c1
    by_cases c2 : p1 = 2
    · rw [pm_sw_t c2] at hsw
      subst hsw
      replace h := h.1 c2
      refine And.intro trivial ?_
      exact h
    · rw [pm_sw_f c2] at hsw
      replace h := h.2 c2
      by_cases c3 : p1 = 3
      · rw [pm_sw_t c3] at hsw
        subst hsw
        replace h := h.1 c3
        refine And.intro trivial ?_
        exact h
      · rw [pm_sw_f c3] at hsw
        replace h := h.2 c3
        by_cases c4 : p1 = 4
        · rw [pm_sw_t c4] at hsw
          subst hsw
          replace h := h.1 c4
          refine And.intro trivial ?_
          exact h
        · rw [pm_sw_f c4] at hsw
          replace h := h.2 c4
          by_cases c5 : p1 = 5
          · rw [pm_sw_t c5] at hsw
            subst hsw
            replace h := h.1 c5
            refine And.intro trivial ?_
            exact h
          · rw [pm_sw_f c5] at hsw
            replace h := h.2 c5
            replace hsw : 60 = pc1 := hsw
            subst hsw
            refine And.intro trivial ?_
            exact h
def f_Kinds_worthOf (p1 : Int32) (p2 : Int32) : Int32 := (if p1 = 1 then (p2 + 6) else (if p1 = 2 then (99 - p2) else (if p1 = 3 then (2 * (p2 + 6)) else (if p1 = 4 then (91 - p2) else (if p1 = 5 then 1 else p2)))))
theorem f_Kinds_worthOf_c {L d : Nat} {p1 : Int32} {p2 : Int32} {hi : pm_B} {Q : pm_Q} (h : Q (some (.inl (f_Kinds_worthOf p1 p2))) hi) : pm_C pm_g (SH L) HR (d + 1) m_Kinds_worthOf [.inl p1, .inl p2] hi Q := by
  refine v_Kinds_worthOf ?_
  unfold f_Kinds_worthOf at h
  refine And.intro (fun c1 => ?_) (fun c1 => ?_)
  · rw [if_pos c1] at h
    exact h
  · rw [if_neg c1] at h
    refine And.intro (fun c2 => ?_) (fun c2 => ?_)
    · rw [if_pos c2] at h
      exact h
    · rw [if_neg c2] at h
      refine And.intro (fun c3 => ?_) (fun c3 => ?_)
      · rw [if_pos c3] at h
        exact h
      · rw [if_neg c3] at h
        refine And.intro (fun c4 => ?_) (fun c4 => ?_)
        · rw [if_pos c4] at h
          exact h
        · rw [if_neg c4] at h
          refine And.intro (fun c5 => ?_) (fun c5 => ?_)
          · rw [if_pos c5] at h
            exact h
          · rw [if_neg c5] at h
            exact h
theorem v_E_held {L d : Nat} {p1 : Int32} {p2 : Int32} {p3 : Int32} {hi : pm_B} {Q : pm_Q} (h : Q (some (.inl (if p2 < (if p1 < p3 then p1 else p3) then (if p1 < p3 then p1 else p3) else p2))) hi) : pm_C pm_g (SH L) HR (d + 1) m_E_held [.inl p1, .inl p2, .inl p3] hi Q := by
  refine pm_C_of (maxL := 3) (t := pm_t128) rfl (Nat.le_of_ble_eq_true rfl) ?_
  refine pm_W_of 8 [] rfl ?_
  refine And.intro trivial ?_
  exact h
def f_E_held (p1 : Int32) (p2 : Int32) (p3 : Int32) : Int32 := (if p2 < (if p1 < p3 then p1 else p3) then (if p1 < p3 then p1 else p3) else p2)
theorem f_E_held_c {L d : Nat} {p1 : Int32} {p2 : Int32} {p3 : Int32} {hi : pm_B} {Q : pm_Q} (h : Q (some (.inl (f_E_held p1 p2 p3))) hi) : pm_C pm_g (SH L) HR (d + 1) m_E_held [.inl p1, .inl p2, .inl p3] hi Q := by
  refine v_E_held ?_
  unfold f_E_held at h
  exact h
theorem v_M_within {L d : Nat} {p1 : Int32} {p2 : Int32} {p3 : Int32} {hi : pm_B} {Q : pm_Q} (h : ((p2 ≤ p1) → ((p1 ≤ p3) → Q (some (.inl p1)) hi) ∧ ((¬ (p1 ≤ p3)) → Q (some (.inl p3)) hi)) ∧ ((¬ (p2 ≤ p1)) → Q (some (.inl p2)) hi)) : pm_C pm_g (SH L) HR (d + 1) m_M_within [.inl p1, .inl p2, .inl p3] hi Q := by
  refine pm_C_of (maxL := 3) (t := pm_t137) rfl (Nat.le_of_ble_eq_true rfl) ?_
  refine pm_W_of 11 [] rfl ?_
  refine And.intro (fun c1 => ?_) (fun c1 => ?_)
  · replace h := h.1 c1
    refine And.intro (fun c2 => ?_) (fun c2 => ?_)
    · replace h := h.1 c2
      refine And.intro trivial ?_
      exact h
    · replace h := h.2 c2
      refine And.intro trivial ?_
      exact h
  · replace h := h.2 c1
    refine And.intro trivial ?_
    exact h
def f_M_within (p1 : Int32) (p2 : Int32) (p3 : Int32) : Int32 := (if p2 ≤ p1 then (if p1 ≤ p3 then p1 else p3) else p2)
theorem f_M_within_c {L d : Nat} {p1 : Int32} {p2 : Int32} {p3 : Int32} {hi : pm_B} {Q : pm_Q} (h : Q (some (.inl (f_M_within p1 p2 p3))) hi) : pm_C pm_g (SH L) HR (d + 1) m_M_within [.inl p1, .inl p2, .inl p3] hi Q := by
  refine v_M_within ?_
  unfold f_M_within at h
  refine And.intro (fun c1 => ?_) (fun c1 => ?_)
  · rw [if_pos c1] at h
    refine And.intro (fun c2 => ?_) (fun c2 => ?_)
    · rw [if_pos c2] at h
      exact h
    · rw [if_neg c2] at h
      exact h
  · rw [if_neg c1] at h
    exact h
theorem v_M_isUnder {L d : Nat} {p1 : Int32} {p2 : Int32} {hi : pm_B} {Q : pm_Q} (h : ((p2 = 0) → Q (some (.inl 1)) hi) ∧ ((¬ (p2 = 0)) → ((p1 = p2) → Q (some (.inl 1)) hi) ∧ ((¬ (p1 = p2)) → ((¬ p2 = 1) → ((¬ p2 = 2) → Q (some (.inl 0)) hi) ∧ ((¬ (¬ p2 = 2)) → ((¬ p1 = 4) → Q (some (.inl 0)) hi) ∧ ((¬ (¬ p1 = 4)) → Q (some (.inl 1)) hi))) ∧ ((¬ (¬ p2 = 1)) → ((p1 = 3) → Q (some (.inl 1)) hi) ∧ ((¬ (p1 = 3)) → ((¬ p2 = 2) → Q (some (.inl 0)) hi) ∧ ((¬ (¬ p2 = 2)) → ((¬ p1 = 4) → Q (some (.inl 0)) hi) ∧ ((¬ (¬ p1 = 4)) → Q (some (.inl 1)) hi))))))) : pm_C pm_g (SH L) HR (d + 1) m_M_isUnder [.inl p1, .inl p2] hi Q := by
  refine pm_C_of (maxL := 2) (t := pm_t154) rfl (Nat.le_of_ble_eq_true rfl) ?_
  refine pm_W_of 22 [] rfl ?_
  refine And.intro (fun c1 => ?_) (fun c1 => ?_)
  · replace h := h.1 c1
    refine And.intro (Or.inr rfl) ?_
    exact h
  · replace h := h.2 c1
    refine And.intro (fun c2 => ?_) (fun c2 => ?_)
    · replace h := h.1 c2
      refine And.intro (Or.inr rfl) ?_
      exact h
    · replace h := h.2 c2
      refine And.intro (fun c3 => ?_) (fun c3 => ?_)
      · replace h := h.1 c3
        refine And.intro (fun c4 => ?_) (fun c4 => ?_)
        · replace h := h.1 c4
          refine And.intro (Or.inl rfl) ?_
          exact h
        · replace h := h.2 c4
          refine And.intro (fun c5 => ?_) (fun c5 => ?_)
          · replace h := h.1 c5
            refine And.intro (Or.inl rfl) ?_
            exact h
          · replace h := h.2 c5
            refine And.intro (Or.inr rfl) ?_
            exact h
      · replace h := h.2 c3
        refine And.intro (fun c6 => ?_) (fun c6 => ?_)
        · replace h := h.1 c6
          refine And.intro (Or.inr rfl) ?_
          exact h
        · replace h := h.2 c6
          refine And.intro (fun c7 => ?_) (fun c7 => ?_)
          · replace h := h.1 c7
            refine And.intro (Or.inl rfl) ?_
            exact h
          · replace h := h.2 c7
            refine And.intro (fun c8 => ?_) (fun c8 => ?_)
            · replace h := h.1 c8
              refine And.intro (Or.inl rfl) ?_
              exact h
            · replace h := h.2 c8
              refine And.intro (Or.inr rfl) ?_
              exact h
def f_M_isUnder (p1 : Int32) (p2 : Int32) : Int32 := (if p2 = 0 then 1 else (if p1 = p2 then 1 else (if ¬ p2 = 1 then (if ¬ p2 = 2 then 0 else (if ¬ p1 = 4 then 0 else 1)) else (if p1 = 3 then 1 else (if ¬ p2 = 2 then 0 else (if ¬ p1 = 4 then 0 else 1))))))
theorem f_M_isUnder_c {L d : Nat} {p1 : Int32} {p2 : Int32} {hi : pm_B} {Q : pm_Q} (h : Q (some (.inl (f_M_isUnder p1 p2))) hi) : pm_C pm_g (SH L) HR (d + 1) m_M_isUnder [.inl p1, .inl p2] hi Q := by
  refine v_M_isUnder ?_
  unfold f_M_isUnder at h
  refine And.intro (fun c1 => ?_) (fun c1 => ?_)
  · rw [if_pos c1] at h
    exact h
  · rw [if_neg c1] at h
    refine And.intro (fun c2 => ?_) (fun c2 => ?_)
    · rw [if_pos c2] at h
      exact h
    · rw [if_neg c2] at h
      refine And.intro (fun c3 => ?_) (fun c3 => ?_)
      · rw [if_pos c3] at h
        refine And.intro (fun c4 => ?_) (fun c4 => ?_)
        · rw [if_pos c4] at h
          exact h
        · rw [if_neg c4] at h
          refine And.intro (fun c5 => ?_) (fun c5 => ?_)
          · rw [if_pos c5] at h
            exact h
          · rw [if_neg c5] at h
            exact h
      · rw [if_neg c3] at h
        refine And.intro (fun c6 => ?_) (fun c6 => ?_)
        · rw [if_pos c6] at h
          exact h
        · rw [if_neg c6] at h
          refine And.intro (fun c7 => ?_) (fun c7 => ?_)
          · rw [if_pos c7] at h
            exact h
          · rw [if_neg c7] at h
            refine And.intro (fun c8 => ?_) (fun c8 => ?_)
            · rw [if_pos c8] at h
              exact h
            · rw [if_neg c8] at h
              exact h
theorem v_M_rank {L d : Nat} {p1 : Int32} {hi : pm_B} {Q : pm_Q} (h : ((¬ p1 = (-1)) → ((¬ p1 = (-2)) → ((p1 < (-5)) → ((p1 < (-7)) → ((p1 < (-9)) → Q (some (.inl 6)) hi) ∧ ((¬ (p1 < (-9))) → Q (some (.inl 5)) hi)) ∧ ((¬ (p1 < (-7))) → Q (some (.inl 4)) hi)) ∧ ((¬ (p1 < (-5))) → Q (some (.inl 3)) hi)) ∧ ((¬ (¬ p1 = (-2))) → Q (some (.inl 2)) hi)) ∧ ((¬ (¬ p1 = (-1))) → Q (some (.inl 1)) hi)) : pm_C pm_g (SH L) HR (d + 1) m_M_rank [.inl p1] hi Q := by
  refine pm_C_of (maxL := 1) (t := pm_t203) rfl (Nat.le_of_ble_eq_true rfl) ?_
  refine pm_W_of 20 [] rfl ?_
  refine And.intro (fun c1 => ?_) (fun c1 => ?_)
  · replace h := h.1 c1
    refine And.intro (fun c2 => ?_) (fun c2 => ?_)
    · replace h := h.1 c2
      refine And.intro (fun c3 => ?_) (fun c3 => ?_)
      · replace h := h.1 c3
        refine And.intro (fun c4 => ?_) (fun c4 => ?_)
        · replace h := h.1 c4
          refine And.intro (fun c5 => ?_) (fun c5 => ?_)
          · replace h := h.1 c5
            refine And.intro trivial ?_
            exact h
          · replace h := h.2 c5
            refine And.intro trivial ?_
            exact h
        · replace h := h.2 c4
          refine And.intro trivial ?_
          exact h
      · replace h := h.2 c3
        refine And.intro trivial ?_
        exact h
    · replace h := h.2 c2
      refine And.intro trivial ?_
      exact h
  · replace h := h.2 c1
    refine And.intro trivial ?_
    exact h
def f_M_rank (p1 : Int32) : Int32 := (if ¬ p1 = (-1) then (if ¬ p1 = (-2) then (if p1 < (-5) then (if p1 < (-7) then (if p1 < (-9) then 6 else 5) else 4) else 3) else 2) else 1)
theorem f_M_rank_c {L d : Nat} {p1 : Int32} {hi : pm_B} {Q : pm_Q} (h : Q (some (.inl (f_M_rank p1))) hi) : pm_C pm_g (SH L) HR (d + 1) m_M_rank [.inl p1] hi Q := by
  refine v_M_rank ?_
  unfold f_M_rank at h
  refine And.intro (fun c1 => ?_) (fun c1 => ?_)
  · rw [if_pos c1] at h
    refine And.intro (fun c2 => ?_) (fun c2 => ?_)
    · rw [if_pos c2] at h
      refine And.intro (fun c3 => ?_) (fun c3 => ?_)
      · rw [if_pos c3] at h
        refine And.intro (fun c4 => ?_) (fun c4 => ?_)
        · rw [if_pos c4] at h
          refine And.intro (fun c5 => ?_) (fun c5 => ?_)
          · rw [if_pos c5] at h
            exact h
          · rw [if_neg c5] at h
            exact h
        · rw [if_neg c4] at h
          exact h
      · rw [if_neg c3] at h
        exact h
    · rw [if_neg c2] at h
      exact h
  · rw [if_neg c1] at h
    exact h
theorem v_Laws_leafOf {L d : Nat} {p1 : Int32} {p2 : Int32} {p3 : Int32} {p4 : Int32} {hi : pm_B} {Q : pm_Q} (h : ((p1 = (-3)) → Q (some (.inl p4)) hi) ∧ ((¬ p1 = (-3)) → ((p1 = (-2)) → Q (some (.inl p3)) hi) ∧ ((¬ p1 = (-2)) → ((p1 = (-1)) → Q (some (.inl p2)) hi) ∧ ((¬ p1 = (-1)) → Q (some (.inl p1)) hi)))) : pm_C pm_g (SH L) HR (d + 1) m_Laws_leafOf [.inl p1, .inl p2, .inl p3, .inl p4] hi Q := by
  refine pm_C_of (maxL := 4) (t := pm_t24) rfl (Nat.le_of_ble_eq_true rfl) ?_
  refine pm_W_of 6 [] rfl ?_
  intro pc1 hsw
  by_cases c1 : p1 = (-3)
  · rw [pm_sw_t c1] at hsw
    subst hsw
    replace h := h.1 c1
    refine And.intro trivial ?_
    exact h
  · rw [pm_sw_f c1] at hsw
    replace h := h.2 c1
    by_cases c2 : p1 = (-2)
    · rw [pm_sw_t c2] at hsw
      subst hsw
      replace h := h.1 c2
      refine And.intro trivial ?_
      exact h
    · rw [pm_sw_f c2] at hsw
      replace h := h.2 c2
      by_cases c3 : p1 = (-1)
      · rw [pm_sw_t c3] at hsw
        subst hsw
        replace h := h.1 c3
        refine And.intro trivial ?_
        exact h
      · rw [pm_sw_f c3] at hsw
        replace h := h.2 c3
        replace hsw : 34 = pc1 := hsw
        subst hsw
        refine And.intro trivial ?_
        exact h
def f_Laws_leafOf (p1 : Int32) (p2 : Int32) (p3 : Int32) (p4 : Int32) : Int32 := (if p1 = (-3) then p4 else (if p1 = (-2) then p3 else (if p1 = (-1) then p2 else p1)))
theorem f_Laws_leafOf_c {L d : Nat} {p1 : Int32} {p2 : Int32} {p3 : Int32} {p4 : Int32} {hi : pm_B} {Q : pm_Q} (h : Q (some (.inl (f_Laws_leafOf p1 p2 p3 p4))) hi) : pm_C pm_g (SH L) HR (d + 1) m_Laws_leafOf [.inl p1, .inl p2, .inl p3, .inl p4] hi Q := by
  refine v_Laws_leafOf ?_
  unfold f_Laws_leafOf at h
  refine And.intro (fun c1 => ?_) (fun c1 => ?_)
  · rw [if_pos c1] at h
    exact h
  · rw [if_neg c1] at h
    refine And.intro (fun c2 => ?_) (fun c2 => ?_)
    · rw [if_pos c2] at h
      exact h
    · rw [if_neg c2] at h
      refine And.intro (fun c3 => ?_) (fun c3 => ?_)
      · rw [if_pos c3] at h
        exact h
      · rw [if_neg c3] at h
        exact h
theorem v_Laws_truth {L d : Nat} {p1 : Int32} {hi : pm_B} {Q : pm_Q} (h : ((p1 = 0) → Q (some (.inl 0)) hi) ∧ ((¬ (p1 = 0)) → Q (some (.inl 1)) hi)) : pm_C pm_g (SH L) HR (d + 1) m_Laws_truth [.inl p1] hi Q := by
  refine pm_C_of (maxL := 1) (t := pm_t26) rfl (Nat.le_of_ble_eq_true rfl) ?_
  refine pm_W_of 7 [] rfl ?_
  refine And.intro (fun c1 => ?_) (fun c1 => ?_)
  · replace h := h.1 c1
    refine And.intro trivial ?_
    exact h
  · replace h := h.2 c1
    refine And.intro trivial ?_
    exact h
def f_Laws_truth (p1 : Int32) : Int32 := (if p1 = 0 then 0 else 1)
theorem f_Laws_truth_c {L d : Nat} {p1 : Int32} {hi : pm_B} {Q : pm_Q} (h : Q (some (.inl (f_Laws_truth p1))) hi) : pm_C pm_g (SH L) HR (d + 1) m_Laws_truth [.inl p1] hi Q := by
  refine v_Laws_truth ?_
  unfold f_Laws_truth at h
  refine And.intro (fun c1 => ?_) (fun c1 => ?_)
  · rw [if_pos c1] at h
    exact h
  · rw [if_neg c1] at h
    exact h
theorem v_Parser_sortOf {L d : Nat} {p1 : Int32} {hi : pm_B} {Q : pm_Q} (h : ((0 ≤ p1) → ((p1 < 97) → ((p1 < 48) → Q (some (.inl 3)) hi) ∧ ((¬ (p1 < 48)) → ((57 < p1) → Q (some (.inl 3)) hi) ∧ ((¬ (57 < p1)) → Q (some (.inl 2)) hi))) ∧ ((¬ (p1 < 97)) → ((122 < p1) → ((p1 < 48) → Q (some (.inl 3)) hi) ∧ ((¬ (p1 < 48)) → ((57 < p1) → Q (some (.inl 3)) hi) ∧ ((¬ (57 < p1)) → Q (some (.inl 2)) hi))) ∧ ((¬ (122 < p1)) → Q (some (.inl 1)) hi))) ∧ ((¬ (0 ≤ p1)) → Q (some (.inl 0)) hi)) : pm_C pm_g (SH L) HR (d + 1) m_Parser_sortOf [.inl p1] hi Q := by
  refine pm_C_of (maxL := 1) (t := pm_t31) rfl (Nat.le_of_ble_eq_true rfl) ?_
  refine pm_W_of 19 [] rfl ?_
  refine And.intro (fun c1 => ?_) (fun c1 => ?_)
  · replace h := h.1 c1
    refine And.intro (fun c2 => ?_) (fun c2 => ?_)
    · replace h := h.1 c2
      refine And.intro (fun c3 => ?_) (fun c3 => ?_)
      · replace h := h.1 c3
        refine And.intro trivial ?_
        exact h
      · replace h := h.2 c3
        refine And.intro (fun c4 => ?_) (fun c4 => ?_)
        · replace h := h.1 c4
          refine And.intro trivial ?_
          exact h
        · replace h := h.2 c4
          refine And.intro trivial ?_
          exact h
    · replace h := h.2 c2
      refine And.intro (fun c5 => ?_) (fun c5 => ?_)
      · replace h := h.1 c5
        refine And.intro (fun c6 => ?_) (fun c6 => ?_)
        · replace h := h.1 c6
          refine And.intro trivial ?_
          exact h
        · replace h := h.2 c6
          refine And.intro (fun c7 => ?_) (fun c7 => ?_)
          · replace h := h.1 c7
            refine And.intro trivial ?_
            exact h
          · replace h := h.2 c7
            refine And.intro trivial ?_
            exact h
      · replace h := h.2 c5
        refine And.intro trivial ?_
        exact h
  · replace h := h.2 c1
    refine And.intro trivial ?_
    exact h
def f_Parser_sortOf (p1 : Int32) : Int32 := (if 0 ≤ p1 then (if p1 < 97 then (if p1 < 48 then 3 else (if 57 < p1 then 3 else 2)) else (if 122 < p1 then (if p1 < 48 then 3 else (if 57 < p1 then 3 else 2)) else 1)) else 0)
theorem f_Parser_sortOf_c {L d : Nat} {p1 : Int32} {hi : pm_B} {Q : pm_Q} (h : Q (some (.inl (f_Parser_sortOf p1))) hi) : pm_C pm_g (SH L) HR (d + 1) m_Parser_sortOf [.inl p1] hi Q := by
  refine v_Parser_sortOf ?_
  unfold f_Parser_sortOf at h
  refine And.intro (fun c1 => ?_) (fun c1 => ?_)
  · rw [if_pos c1] at h
    refine And.intro (fun c2 => ?_) (fun c2 => ?_)
    · rw [if_pos c2] at h
      refine And.intro (fun c3 => ?_) (fun c3 => ?_)
      · rw [if_pos c3] at h
        exact h
      · rw [if_neg c3] at h
        refine And.intro (fun c4 => ?_) (fun c4 => ?_)
        · rw [if_pos c4] at h
          exact h
        · rw [if_neg c4] at h
          exact h
    · rw [if_neg c2] at h
      refine And.intro (fun c5 => ?_) (fun c5 => ?_)
      · rw [if_pos c5] at h
        refine And.intro (fun c6 => ?_) (fun c6 => ?_)
        · rw [if_pos c6] at h
          exact h
        · rw [if_neg c6] at h
          refine And.intro (fun c7 => ?_) (fun c7 => ?_)
          · rw [if_pos c7] at h
            exact h
          · rw [if_neg c7] at h
            exact h
      · rw [if_neg c5] at h
        exact h
  · rw [if_neg c1] at h
    exact h
theorem v_M_nameOf {L d : Nat} {p1 : Int32} {hi : pm_B} {Q : pm_Q} (h : (((hi 141 17) = 0) → ((¬ p1 = 101) → ((¬ p1 = 102) → ((¬ p1 = 119) → Q (some (.inl (-1))) hi) ∧ ((¬ (¬ p1 = 119)) → Q (some (.inl 2)) hi)) ∧ ((¬ (¬ p1 = 102)) → Q (some (.inl 1)) hi)) ∧ ((¬ (¬ p1 = 101)) → Q (some (.inl 0)) hi)) ∧ ((¬ (hi 141 17) = 0) → (((hi 141 17) = 1) → ((¬ p1 = 115) → ((¬ p1 = 108) → Q (some (.inl (-1))) hi) ∧ ((¬ (¬ p1 = 108)) → Q (some (.inl 1)) hi)) ∧ ((¬ (¬ p1 = 115)) → Q (some (.inl 0)) hi)) ∧ ((¬ (hi 141 17) = 1) → ((¬ p1 = 115) → ((¬ p1 = 102) → Q (some (.inl (-1))) hi) ∧ ((¬ (¬ p1 = 102)) → Q (some (.inl 1)) hi)) ∧ ((¬ (¬ p1 = 115)) → Q (some (.inl 0)) hi)))) : pm_C pm_g (SH L) HR (d + 1) m_M_nameOf [.inr 141, .inl p1] hi Q := by
  refine pm_C_of (maxL := 2) (t := pm_t202) rfl (Nat.le_of_ble_eq_true rfl) ?_
  refine pm_W_of 17 [] rfl ?_
  refine And.intro sh_l141 ?_
  intro pc1 hsw
  by_cases c1 : (hi 141 17) = 0
  · rw [pm_sw_t c1] at hsw
    subst hsw
    replace h := h.1 c1
    refine And.intro (fun c2 => ?_) (fun c2 => ?_)
    · replace h := h.1 c2
      refine And.intro (fun c3 => ?_) (fun c3 => ?_)
      · replace h := h.1 c3
        refine And.intro (fun c4 => ?_) (fun c4 => ?_)
        · replace h := h.1 c4
          refine And.intro trivial ?_
          exact h
        · replace h := h.2 c4
          refine And.intro trivial ?_
          exact h
      · replace h := h.2 c3
        refine And.intro trivial ?_
        exact h
    · replace h := h.2 c2
      refine And.intro trivial ?_
      exact h
  · rw [pm_sw_f c1] at hsw
    replace h := h.2 c1
    by_cases c5 : (hi 141 17) = 1
    · rw [pm_sw_t c5] at hsw
      subst hsw
      replace h := h.1 c5
      refine And.intro (fun c6 => ?_) (fun c6 => ?_)
      · replace h := h.1 c6
        refine And.intro (fun c7 => ?_) (fun c7 => ?_)
        · replace h := h.1 c7
          refine And.intro trivial ?_
          exact h
        · replace h := h.2 c7
          refine And.intro trivial ?_
          exact h
      · replace h := h.2 c6
        refine And.intro trivial ?_
        exact h
    · rw [pm_sw_f c5] at hsw
      replace h := h.2 c5
      replace hsw : 86 = pc1 := hsw
      subst hsw
      refine And.intro (fun c8 => ?_) (fun c8 => ?_)
      · replace h := h.1 c8
        refine And.intro (fun c9 => ?_) (fun c9 => ?_)
        · replace h := h.1 c9
          refine And.intro trivial ?_
          exact h
        · replace h := h.2 c9
          refine And.intro trivial ?_
          exact h
      · replace h := h.2 c8
        refine And.intro trivial ?_
        exact h
def f_M_nameOf (hi : pm_B) (p1 : Int32) : Int32 := (if (hi 141 17) = 0 then (if ¬ p1 = 101 then (if ¬ p1 = 102 then (if ¬ p1 = 119 then (-1) else 2) else 1) else 0) else (if (hi 141 17) = 1 then (if ¬ p1 = 115 then (if ¬ p1 = 108 then (-1) else 1) else 0) else (if ¬ p1 = 115 then (if ¬ p1 = 102 then (-1) else 1) else 0)))
theorem f_M_nameOf_c {L d : Nat} {p1 : Int32} {hi : pm_B} {Q : pm_Q} (h : Q (some (.inl (f_M_nameOf hi p1))) hi) : pm_C pm_g (SH L) HR (d + 1) m_M_nameOf [.inr 141, .inl p1] hi Q := by
  refine v_M_nameOf ?_
  unfold f_M_nameOf at h
  refine And.intro (fun c1 => ?_) (fun c1 => ?_)
  · rw [if_pos c1] at h
    refine And.intro (fun c2 => ?_) (fun c2 => ?_)
    · rw [if_pos c2] at h
      refine And.intro (fun c3 => ?_) (fun c3 => ?_)
      · rw [if_pos c3] at h
        refine And.intro (fun c4 => ?_) (fun c4 => ?_)
        · rw [if_pos c4] at h
          exact h
        · rw [if_neg c4] at h
          exact h
      · rw [if_neg c3] at h
        exact h
    · rw [if_neg c2] at h
      exact h
  · rw [if_neg c1] at h
    refine And.intro (fun c5 => ?_) (fun c5 => ?_)
    · rw [if_pos c5] at h
      refine And.intro (fun c6 => ?_) (fun c6 => ?_)
      · rw [if_pos c6] at h
        refine And.intro (fun c7 => ?_) (fun c7 => ?_)
        · rw [if_pos c7] at h
          exact h
        · rw [if_neg c7] at h
          exact h
      · rw [if_neg c6] at h
        exact h
    · rw [if_neg c5] at h
      refine And.intro (fun c8 => ?_) (fun c8 => ?_)
      · rw [if_pos c8] at h
        refine And.intro (fun c9 => ?_) (fun c9 => ?_)
        · rw [if_pos c9] at h
          exact h
        · rw [if_neg c9] at h
          exact h
      · rw [if_neg c8] at h
        exact h
theorem v_M_signHere {L d : Nat}  {hi : pm_B} {Q : pm_Q} (h : (((hi 141 14) = 3) → (((hi 141 15) = 38) → Q (some (.inl (-2))) hi) ∧ ((¬ (hi 141 15) = 38) → (((hi 141 15) = 42) → Q (some (.inl (-8))) hi) ∧ ((¬ (hi 141 15) = 42) → (((hi 141 15) = 43) → Q (some (.inl (-6))) hi) ∧ ((¬ (hi 141 15) = 43) → (((hi 141 15) = 45) → Q (some (.inl (-7))) hi) ∧ ((¬ (hi 141 15) = 45) → (((hi 141 15) = 47) → Q (some (.inl (-9))) hi) ∧ ((¬ (hi 141 15) = 47) → (((hi 141 15) = 60) → Q (some (.inl (-3))) hi) ∧ ((¬ (hi 141 15) = 60) → (((hi 141 15) = 61) → Q (some (.inl (-4))) hi) ∧ ((¬ (hi 141 15) = 61) → (((hi 141 15) = 62) → Q (some (.inl (-5))) hi) ∧ ((¬ (hi 141 15) = 62) → (((hi 141 15) = 124) → Q (some (.inl (-1))) hi) ∧ ((¬ (hi 141 15) = 124) → Q (some (.inl 0)) hi)))))))))) ∧ ((¬ ((hi 141 14) = 3)) → Q (some (.inl 0)) hi)) : pm_C pm_g (SH L) HR (d + 1) m_M_signHere [.inr 141] hi Q := by
  refine pm_C_of (maxL := 1) (t := pm_t205) rfl (Nat.le_of_ble_eq_true rfl) ?_
  refine pm_W_of 11 [] rfl ?_
  refine And.intro sh_l141 ?_
  refine And.intro (fun c1 => ?_) (fun c1 => ?_)
  · replace h := h.1 c1
    refine And.intro sh_l141 ?_
    intro pc1 hsw
    by_cases c2 : (hi 141 15) = 38
    · rw [pm_sw_t c2] at hsw
      subst hsw
      replace h := h.1 c2
      refine And.intro trivial ?_
      exact h
    · rw [pm_sw_f c2] at hsw
      replace h := h.2 c2
      by_cases c3 : (hi 141 15) = 42
      · rw [pm_sw_t c3] at hsw
        subst hsw
        replace h := h.1 c3
        refine And.intro trivial ?_
        exact h
      · rw [pm_sw_f c3] at hsw
        replace h := h.2 c3
        by_cases c4 : (hi 141 15) = 43
        · rw [pm_sw_t c4] at hsw
          subst hsw
          replace h := h.1 c4
          refine And.intro trivial ?_
          exact h
        · rw [pm_sw_f c4] at hsw
          replace h := h.2 c4
          by_cases c5 : (hi 141 15) = 45
          · rw [pm_sw_t c5] at hsw
            subst hsw
            replace h := h.1 c5
            refine And.intro trivial ?_
            exact h
          · rw [pm_sw_f c5] at hsw
            replace h := h.2 c5
            by_cases c6 : (hi 141 15) = 47
            · rw [pm_sw_t c6] at hsw
              subst hsw
              replace h := h.1 c6
              refine And.intro trivial ?_
              exact h
            · rw [pm_sw_f c6] at hsw
              replace h := h.2 c6
              by_cases c7 : (hi 141 15) = 60
              · rw [pm_sw_t c7] at hsw
                subst hsw
                replace h := h.1 c7
                refine And.intro trivial ?_
                exact h
              · rw [pm_sw_f c7] at hsw
                replace h := h.2 c7
                by_cases c8 : (hi 141 15) = 61
                · rw [pm_sw_t c8] at hsw
                  subst hsw
                  replace h := h.1 c8
                  refine And.intro trivial ?_
                  exact h
                · rw [pm_sw_f c8] at hsw
                  replace h := h.2 c8
                  by_cases c9 : (hi 141 15) = 62
                  · rw [pm_sw_t c9] at hsw
                    subst hsw
                    replace h := h.1 c9
                    refine And.intro trivial ?_
                    exact h
                  · rw [pm_sw_f c9] at hsw
                    replace h := h.2 c9
                    by_cases c10 : (hi 141 15) = 124
                    · rw [pm_sw_t c10] at hsw
                      subst hsw
                      replace h := h.1 c10
                      refine And.intro trivial ?_
                      exact h
                    · rw [pm_sw_f c10] at hsw
                      replace h := h.2 c10
                      replace hsw : 122 = pc1 := hsw
                      subst hsw
                      refine And.intro trivial ?_
                      exact h
  · replace h := h.2 c1
    refine And.intro trivial ?_
    exact h
def f_M_signHere (hi : pm_B)  : Int32 := (if (hi 141 14) = 3 then (if (hi 141 15) = 38 then (-2) else (if (hi 141 15) = 42 then (-8) else (if (hi 141 15) = 43 then (-6) else (if (hi 141 15) = 45 then (-7) else (if (hi 141 15) = 47 then (-9) else (if (hi 141 15) = 60 then (-3) else (if (hi 141 15) = 61 then (-4) else (if (hi 141 15) = 62 then (-5) else (if (hi 141 15) = 124 then (-1) else 0))))))))) else 0)
theorem f_M_signHere_c {L d : Nat}  {hi : pm_B} {Q : pm_Q} (h : Q (some (.inl (f_M_signHere hi ))) hi) : pm_C pm_g (SH L) HR (d + 1) m_M_signHere [.inr 141] hi Q := by
  refine v_M_signHere ?_
  unfold f_M_signHere at h
  refine And.intro (fun c1 => ?_) (fun c1 => ?_)
  · rw [if_pos c1] at h
    refine And.intro (fun c2 => ?_) (fun c2 => ?_)
    · rw [if_pos c2] at h
      exact h
    · rw [if_neg c2] at h
      refine And.intro (fun c3 => ?_) (fun c3 => ?_)
      · rw [if_pos c3] at h
        exact h
      · rw [if_neg c3] at h
        refine And.intro (fun c4 => ?_) (fun c4 => ?_)
        · rw [if_pos c4] at h
          exact h
        · rw [if_neg c4] at h
          refine And.intro (fun c5 => ?_) (fun c5 => ?_)
          · rw [if_pos c5] at h
            exact h
          · rw [if_neg c5] at h
            refine And.intro (fun c6 => ?_) (fun c6 => ?_)
            · rw [if_pos c6] at h
              exact h
            · rw [if_neg c6] at h
              refine And.intro (fun c7 => ?_) (fun c7 => ?_)
              · rw [if_pos c7] at h
                exact h
              · rw [if_neg c7] at h
                refine And.intro (fun c8 => ?_) (fun c8 => ?_)
                · rw [if_pos c8] at h
                  exact h
                · rw [if_neg c8] at h
                  refine And.intro (fun c9 => ?_) (fun c9 => ?_)
                  · rw [if_pos c9] at h
                    exact h
                  · rw [if_neg c9] at h
                    refine And.intro (fun c10 => ?_) (fun c10 => ?_)
                    · rw [if_pos c10] at h
                      exact h
                    · rw [if_neg c10] at h
                      exact h
  · rw [if_neg c1] at h
    exact h
theorem v_Laws_joined {L d : Nat} {p1 : Int32} {p2 : Int32} {p3 : Int32} {hi : pm_B} {Q : pm_Q} (h : ((p1 = 38) → ((p2 = 0) → Q (some (.inl 0)) hi) ∧ ((¬ (p2 = 0)) → ((p3 = 0) → Q (some (.inl 0)) hi) ∧ ((¬ (p3 = 0)) → Q (some (.inl 1)) hi))) ∧ ((¬ p1 = 38) → ((p1 = 42) → Q (some (.inl (p2 * p3))) hi) ∧ ((¬ p1 = 42) → ((p1 = 43) → Q (some (.inl (p2 + p3))) hi) ∧ ((¬ p1 = 43) → ((p1 = 45) → Q (some (.inl (p2 - p3))) hi) ∧ ((¬ p1 = 45) → ((p1 = 47) → ((¬ p3 = 0) → (¬ p3 = 0) ∧ (Q (some (.inl (p2 / p3))) hi)) ∧ ((¬ (¬ p3 = 0)) → Q (some (.inl 0)) hi)) ∧ ((¬ p1 = 47) → ((p1 = 60) → ((p3 ≤ p2) → Q (some (.inl 0)) hi) ∧ ((¬ (p3 ≤ p2)) → Q (some (.inl 1)) hi)) ∧ ((¬ p1 = 60) → ((p1 = 61) → ((¬ p2 = p3) → Q (some (.inl 0)) hi) ∧ ((¬ (¬ p2 = p3)) → Q (some (.inl 1)) hi)) ∧ ((¬ p1 = 61) → ((p1 = 62) → ((p2 ≤ p3) → Q (some (.inl 0)) hi) ∧ ((¬ (p2 ≤ p3)) → Q (some (.inl 1)) hi)) ∧ ((¬ p1 = 62) → ((p1 = 124) → ((¬ p2 = 0) → Q (some (.inl 1)) hi) ∧ ((¬ (¬ p2 = 0)) → ((p3 = 0) → Q (some (.inl 0)) hi) ∧ ((¬ (p3 = 0)) → Q (some (.inl 1)) hi))) ∧ ((¬ p1 = 124) → Q (some (.inl 0)) hi)))))))))) : pm_C pm_g (SH L) HR (d + 1) m_Laws_joined [.inl p1, .inl p2, .inl p3] hi Q := by
  refine pm_C_of (maxL := 3) (t := pm_t25) rfl (Nat.le_of_ble_eq_true rfl) ?_
  refine pm_W_of 11 [] rfl ?_
  intro pc1 hsw
  by_cases c1 : p1 = 38
  · rw [pm_sw_t c1] at hsw
    subst hsw
    replace h := h.1 c1
    refine And.intro (fun c2 => ?_) (fun c2 => ?_)
    · replace h := h.1 c2
      refine And.intro trivial ?_
      exact h
    · replace h := h.2 c2
      refine And.intro (fun c3 => ?_) (fun c3 => ?_)
      · replace h := h.1 c3
        refine And.intro trivial ?_
        exact h
      · replace h := h.2 c3
        refine And.intro trivial ?_
        exact h
  · rw [pm_sw_f c1] at hsw
    replace h := h.2 c1
    by_cases c4 : p1 = 42
    · rw [pm_sw_t c4] at hsw
      subst hsw
      replace h := h.1 c4
      refine And.intro trivial ?_
      exact h
    · rw [pm_sw_f c4] at hsw
      replace h := h.2 c4
      by_cases c5 : p1 = 43
      · rw [pm_sw_t c5] at hsw
        subst hsw
        replace h := h.1 c5
        refine And.intro trivial ?_
        exact h
      · rw [pm_sw_f c5] at hsw
        replace h := h.2 c5
        by_cases c6 : p1 = 45
        · rw [pm_sw_t c6] at hsw
          subst hsw
          replace h := h.1 c6
          refine And.intro trivial ?_
          exact h
        · rw [pm_sw_f c6] at hsw
          replace h := h.2 c6
          by_cases c7 : p1 = 47
          · rw [pm_sw_t c7] at hsw
            subst hsw
            replace h := h.1 c7
            refine And.intro (fun c8 => ?_) (fun c8 => ?_)
            · replace h := h.1 c8
              refine And.intro h.1 ?_
              replace h := h.2
              refine And.intro trivial ?_
              exact h
            · replace h := h.2 c8
              refine And.intro trivial ?_
              exact h
          · rw [pm_sw_f c7] at hsw
            replace h := h.2 c7
            by_cases c9 : p1 = 60
            · rw [pm_sw_t c9] at hsw
              subst hsw
              replace h := h.1 c9
              refine And.intro (fun c10 => ?_) (fun c10 => ?_)
              · replace h := h.1 c10
                refine And.intro trivial ?_
                exact h
              · replace h := h.2 c10
                refine And.intro trivial ?_
                exact h
            · rw [pm_sw_f c9] at hsw
              replace h := h.2 c9
              by_cases c11 : p1 = 61
              · rw [pm_sw_t c11] at hsw
                subst hsw
                replace h := h.1 c11
                refine And.intro (fun c12 => ?_) (fun c12 => ?_)
                · replace h := h.1 c12
                  refine And.intro trivial ?_
                  exact h
                · replace h := h.2 c12
                  refine And.intro trivial ?_
                  exact h
              · rw [pm_sw_f c11] at hsw
                replace h := h.2 c11
                by_cases c13 : p1 = 62
                · rw [pm_sw_t c13] at hsw
                  subst hsw
                  replace h := h.1 c13
                  refine And.intro (fun c14 => ?_) (fun c14 => ?_)
                  · replace h := h.1 c14
                    refine And.intro trivial ?_
                    exact h
                  · replace h := h.2 c14
                    refine And.intro trivial ?_
                    exact h
                · rw [pm_sw_f c13] at hsw
                  replace h := h.2 c13
                  by_cases c15 : p1 = 124
                  · rw [pm_sw_t c15] at hsw
                    subst hsw
                    replace h := h.1 c15
                    refine And.intro (fun c16 => ?_) (fun c16 => ?_)
                    · replace h := h.1 c16
                      refine And.intro trivial ?_
                      exact h
                    · replace h := h.2 c16
                      refine And.intro (fun c17 => ?_) (fun c17 => ?_)
                      · replace h := h.1 c17
                        refine And.intro trivial ?_
                        exact h
                      · replace h := h.2 c17
                        refine And.intro trivial ?_
                        exact h
                  · rw [pm_sw_f c15] at hsw
                    replace h := h.2 c15
                    replace hsw : 169 = pc1 := hsw
                    subst hsw
                    refine And.intro trivial ?_
                    exact h
def f_Laws_joined (p1 : Int32) (p2 : Int32) (p3 : Int32) : Int32 := (if p1 = 38 then (if p2 = 0 then 0 else (if p3 = 0 then 0 else 1)) else (if p1 = 42 then (p2 * p3) else (if p1 = 43 then (p2 + p3) else (if p1 = 45 then (p2 - p3) else (if p1 = 47 then (if ¬ p3 = 0 then (p2 / p3) else 0) else (if p1 = 60 then (if p3 ≤ p2 then 0 else 1) else (if p1 = 61 then (if ¬ p2 = p3 then 0 else 1) else (if p1 = 62 then (if p2 ≤ p3 then 0 else 1) else (if p1 = 124 then (if ¬ p2 = 0 then 1 else (if p3 = 0 then 0 else 1)) else 0)))))))))
theorem f_Laws_joined_c {L d : Nat} {p1 : Int32} {p2 : Int32} {p3 : Int32} {hi : pm_B} {Q : pm_Q} (h : Q (some (.inl (f_Laws_joined p1 p2 p3))) hi) : pm_C pm_g (SH L) HR (d + 1) m_Laws_joined [.inl p1, .inl p2, .inl p3] hi Q := by
  refine v_Laws_joined ?_
  unfold f_Laws_joined at h
  refine And.intro (fun c1 => ?_) (fun c1 => ?_)
  · rw [if_pos c1] at h
    refine And.intro (fun c2 => ?_) (fun c2 => ?_)
    · rw [if_pos c2] at h
      exact h
    · rw [if_neg c2] at h
      refine And.intro (fun c3 => ?_) (fun c3 => ?_)
      · rw [if_pos c3] at h
        exact h
      · rw [if_neg c3] at h
        exact h
  · rw [if_neg c1] at h
    refine And.intro (fun c4 => ?_) (fun c4 => ?_)
    · rw [if_pos c4] at h
      exact h
    · rw [if_neg c4] at h
      refine And.intro (fun c5 => ?_) (fun c5 => ?_)
      · rw [if_pos c5] at h
        exact h
      · rw [if_neg c5] at h
        refine And.intro (fun c6 => ?_) (fun c6 => ?_)
        · rw [if_pos c6] at h
          exact h
        · rw [if_neg c6] at h
          refine And.intro (fun c7 => ?_) (fun c7 => ?_)
          · rw [if_pos c7] at h
            refine And.intro (fun c8 => ?_) (fun c8 => ?_)
            · rw [if_pos c8] at h
              exact ⟨by assumption, h⟩
            · rw [if_neg c8] at h
              exact h
          · rw [if_neg c7] at h
            refine And.intro (fun c9 => ?_) (fun c9 => ?_)
            · rw [if_pos c9] at h
              refine And.intro (fun c10 => ?_) (fun c10 => ?_)
              · rw [if_pos c10] at h
                exact h
              · rw [if_neg c10] at h
                exact h
            · rw [if_neg c9] at h
              refine And.intro (fun c11 => ?_) (fun c11 => ?_)
              · rw [if_pos c11] at h
                refine And.intro (fun c12 => ?_) (fun c12 => ?_)
                · rw [if_pos c12] at h
                  exact h
                · rw [if_neg c12] at h
                  exact h
              · rw [if_neg c11] at h
                refine And.intro (fun c13 => ?_) (fun c13 => ?_)
                · rw [if_pos c13] at h
                  refine And.intro (fun c14 => ?_) (fun c14 => ?_)
                  · rw [if_pos c14] at h
                    exact h
                  · rw [if_neg c14] at h
                    exact h
                · rw [if_neg c13] at h
                  refine And.intro (fun c15 => ?_) (fun c15 => ?_)
                  · rw [if_pos c15] at h
                    refine And.intro (fun c16 => ?_) (fun c16 => ?_)
                    · rw [if_pos c16] at h
                      exact h
                    · rw [if_neg c16] at h
                      refine And.intro (fun c17 => ?_) (fun c17 => ?_)
                      · rw [if_pos c17] at h
                        exact h
                      · rw [if_neg c17] at h
                        exact h
                  · rw [if_neg c15] at h
                    exact h
theorem v_M_two {L d : Nat} {p1 : Int32} {p2 : Int32} {p3 : Int32} {hi : pm_B} {Q : pm_Q} (h : ((p1 = (-8)) → Q (some (.inl (p2 * p3))) hi) ∧ ((¬ p1 = (-8)) → ((p1 = (-7)) → Q (some (.inl (p2 - p3))) hi) ∧ ((¬ p1 = (-7)) → ((p1 = (-6)) → Q (some (.inl (p2 + p3))) hi) ∧ ((¬ p1 = (-6)) → ((p1 = (-5)) → ((p2 ≤ p3) → Q (some (.inl 0)) hi) ∧ ((¬ (p2 ≤ p3)) → Q (some (.inl 1)) hi)) ∧ ((¬ p1 = (-5)) → ((p1 = (-4)) → ((¬ p2 = p3) → Q (some (.inl 0)) hi) ∧ ((¬ (¬ p2 = p3)) → Q (some (.inl 1)) hi)) ∧ ((¬ p1 = (-4)) → ((p1 = (-3)) → ((p3 ≤ p2) → Q (some (.inl 0)) hi) ∧ ((¬ (p3 ≤ p2)) → Q (some (.inl 1)) hi)) ∧ ((¬ p1 = (-3)) → ((p1 = (-2)) → ((p2 = 0) → Q (some (.inl 0)) hi) ∧ ((¬ (p2 = 0)) → ((p3 = 0) → Q (some (.inl 0)) hi) ∧ ((¬ (p3 = 0)) → Q (some (.inl 1)) hi))) ∧ ((¬ p1 = (-2)) → ((p1 = (-1)) → ((¬ p2 = 0) → Q (some (.inl 1)) hi) ∧ ((¬ (¬ p2 = 0)) → ((p3 = 0) → Q (some (.inl 0)) hi) ∧ ((¬ (p3 = 0)) → Q (some (.inl 1)) hi))) ∧ ((¬ p1 = (-1)) → ((¬ p3 = 0) → (¬ p3 = 0) ∧ (Q (some (.inl (p2 / p3))) hi)) ∧ ((¬ (¬ p3 = 0)) → Q (some (.inl 0)) hi)))))))))) : pm_C pm_g (SH L) HR (d + 1) m_M_two [.inl p1, .inl p2, .inl p3] hi Q := by
  refine pm_C_of (maxL := 3) (t := pm_t213) rfl (Nat.le_of_ble_eq_true rfl) ?_
  refine pm_W_of 11 [] rfl ?_
  intro pc1 hsw
  by_cases c1 : p1 = (-8)
  · rw [pm_sw_t c1] at hsw
    subst hsw
    replace h := h.1 c1
    refine And.intro trivial ?_
    exact h
  · rw [pm_sw_f c1] at hsw
    replace h := h.2 c1
    by_cases c2 : p1 = (-7)
    · rw [pm_sw_t c2] at hsw
      subst hsw
      replace h := h.1 c2
      refine And.intro trivial ?_
      exact h
    · rw [pm_sw_f c2] at hsw
      replace h := h.2 c2
      by_cases c3 : p1 = (-6)
      · rw [pm_sw_t c3] at hsw
        subst hsw
        replace h := h.1 c3
        refine And.intro trivial ?_
        exact h
      · rw [pm_sw_f c3] at hsw
        replace h := h.2 c3
        by_cases c4 : p1 = (-5)
        · rw [pm_sw_t c4] at hsw
          subst hsw
          replace h := h.1 c4
          refine And.intro (fun c5 => ?_) (fun c5 => ?_)
          · replace h := h.1 c5
            refine And.intro trivial ?_
            exact h
          · replace h := h.2 c5
            refine And.intro trivial ?_
            exact h
        · rw [pm_sw_f c4] at hsw
          replace h := h.2 c4
          by_cases c6 : p1 = (-4)
          · rw [pm_sw_t c6] at hsw
            subst hsw
            replace h := h.1 c6
            refine And.intro (fun c7 => ?_) (fun c7 => ?_)
            · replace h := h.1 c7
              refine And.intro trivial ?_
              exact h
            · replace h := h.2 c7
              refine And.intro trivial ?_
              exact h
          · rw [pm_sw_f c6] at hsw
            replace h := h.2 c6
            by_cases c8 : p1 = (-3)
            · rw [pm_sw_t c8] at hsw
              subst hsw
              replace h := h.1 c8
              refine And.intro (fun c9 => ?_) (fun c9 => ?_)
              · replace h := h.1 c9
                refine And.intro trivial ?_
                exact h
              · replace h := h.2 c9
                refine And.intro trivial ?_
                exact h
            · rw [pm_sw_f c8] at hsw
              replace h := h.2 c8
              by_cases c10 : p1 = (-2)
              · rw [pm_sw_t c10] at hsw
                subst hsw
                replace h := h.1 c10
                refine And.intro (fun c11 => ?_) (fun c11 => ?_)
                · replace h := h.1 c11
                  refine And.intro trivial ?_
                  exact h
                · replace h := h.2 c11
                  refine And.intro (fun c12 => ?_) (fun c12 => ?_)
                  · replace h := h.1 c12
                    refine And.intro trivial ?_
                    exact h
                  · replace h := h.2 c12
                    refine And.intro trivial ?_
                    exact h
              · rw [pm_sw_f c10] at hsw
                replace h := h.2 c10
                by_cases c13 : p1 = (-1)
                · rw [pm_sw_t c13] at hsw
                  subst hsw
                  replace h := h.1 c13
                  refine And.intro (fun c14 => ?_) (fun c14 => ?_)
                  · replace h := h.1 c14
                    refine And.intro trivial ?_
                    exact h
                  · replace h := h.2 c14
                    refine And.intro (fun c15 => ?_) (fun c15 => ?_)
                    · replace h := h.1 c15
                      refine And.intro trivial ?_
                      exact h
                    · replace h := h.2 c15
                      refine And.intro trivial ?_
                      exact h
                · rw [pm_sw_f c13] at hsw
                  replace h := h.2 c13
                  replace hsw : 121 = pc1 := hsw
                  subst hsw
                  refine And.intro (fun c16 => ?_) (fun c16 => ?_)
                  · replace h := h.1 c16
                    refine And.intro h.1 ?_
                    replace h := h.2
                    refine And.intro trivial ?_
                    exact h
                  · replace h := h.2 c16
                    refine And.intro trivial ?_
                    exact h
def f_M_two (p1 : Int32) (p2 : Int32) (p3 : Int32) : Int32 := (if p1 = (-8) then (p2 * p3) else (if p1 = (-7) then (p2 - p3) else (if p1 = (-6) then (p2 + p3) else (if p1 = (-5) then (if p2 ≤ p3 then 0 else 1) else (if p1 = (-4) then (if ¬ p2 = p3 then 0 else 1) else (if p1 = (-3) then (if p3 ≤ p2 then 0 else 1) else (if p1 = (-2) then (if p2 = 0 then 0 else (if p3 = 0 then 0 else 1)) else (if p1 = (-1) then (if ¬ p2 = 0 then 1 else (if p3 = 0 then 0 else 1)) else (if ¬ p3 = 0 then (p2 / p3) else 0)))))))))
theorem f_M_two_c {L d : Nat} {p1 : Int32} {p2 : Int32} {p3 : Int32} {hi : pm_B} {Q : pm_Q} (h : Q (some (.inl (f_M_two p1 p2 p3))) hi) : pm_C pm_g (SH L) HR (d + 1) m_M_two [.inl p1, .inl p2, .inl p3] hi Q := by
  refine v_M_two ?_
  unfold f_M_two at h
  refine And.intro (fun c1 => ?_) (fun c1 => ?_)
  · rw [if_pos c1] at h
    exact h
  · rw [if_neg c1] at h
    refine And.intro (fun c2 => ?_) (fun c2 => ?_)
    · rw [if_pos c2] at h
      exact h
    · rw [if_neg c2] at h
      refine And.intro (fun c3 => ?_) (fun c3 => ?_)
      · rw [if_pos c3] at h
        exact h
      · rw [if_neg c3] at h
        refine And.intro (fun c4 => ?_) (fun c4 => ?_)
        · rw [if_pos c4] at h
          refine And.intro (fun c5 => ?_) (fun c5 => ?_)
          · rw [if_pos c5] at h
            exact h
          · rw [if_neg c5] at h
            exact h
        · rw [if_neg c4] at h
          refine And.intro (fun c6 => ?_) (fun c6 => ?_)
          · rw [if_pos c6] at h
            refine And.intro (fun c7 => ?_) (fun c7 => ?_)
            · rw [if_pos c7] at h
              exact h
            · rw [if_neg c7] at h
              exact h
          · rw [if_neg c6] at h
            refine And.intro (fun c8 => ?_) (fun c8 => ?_)
            · rw [if_pos c8] at h
              refine And.intro (fun c9 => ?_) (fun c9 => ?_)
              · rw [if_pos c9] at h
                exact h
              · rw [if_neg c9] at h
                exact h
            · rw [if_neg c8] at h
              refine And.intro (fun c10 => ?_) (fun c10 => ?_)
              · rw [if_pos c10] at h
                refine And.intro (fun c11 => ?_) (fun c11 => ?_)
                · rw [if_pos c11] at h
                  exact h
                · rw [if_neg c11] at h
                  refine And.intro (fun c12 => ?_) (fun c12 => ?_)
                  · rw [if_pos c12] at h
                    exact h
                  · rw [if_neg c12] at h
                    exact h
              · rw [if_neg c10] at h
                refine And.intro (fun c13 => ?_) (fun c13 => ?_)
                · rw [if_pos c13] at h
                  refine And.intro (fun c14 => ?_) (fun c14 => ?_)
                  · rw [if_pos c14] at h
                    exact h
                  · rw [if_neg c14] at h
                    refine And.intro (fun c15 => ?_) (fun c15 => ?_)
                    · rw [if_pos c15] at h
                      exact h
                    · rw [if_neg c15] at h
                      exact h
                · rw [if_neg c13] at h
                  refine And.intro (fun c16 => ?_) (fun c16 => ?_)
                  · rw [if_pos c16] at h
                    exact ⟨by assumption, h⟩
                  · rw [if_neg c16] at h
                    exact h
theorem v_Integer_bitCount {L d : Nat} {p1 : Int32} {hi : pm_B} {Q : pm_Q} (h : Q (some (.inl ((((((((p1 - (((Int32.toUInt32 p1 >>> (Int32.toUInt32 1 &&& Int32.toUInt32 31)).toInt32) &&& 1431655765)) &&& 858993459) + (((Int32.toUInt32 (p1 - (((Int32.toUInt32 p1 >>> (Int32.toUInt32 1 &&& Int32.toUInt32 31)).toInt32) &&& 1431655765)) >>> (Int32.toUInt32 2 &&& Int32.toUInt32 31)).toInt32) &&& 858993459)) + ((Int32.toUInt32 (((p1 - (((Int32.toUInt32 p1 >>> (Int32.toUInt32 1 &&& Int32.toUInt32 31)).toInt32) &&& 1431655765)) &&& 858993459) + (((Int32.toUInt32 (p1 - (((Int32.toUInt32 p1 >>> (Int32.toUInt32 1 &&& Int32.toUInt32 31)).toInt32) &&& 1431655765)) >>> (Int32.toUInt32 2 &&& Int32.toUInt32 31)).toInt32) &&& 858993459)) >>> (Int32.toUInt32 4 &&& Int32.toUInt32 31)).toInt32)) &&& 252645135) + ((Int32.toUInt32 (((((p1 - (((Int32.toUInt32 p1 >>> (Int32.toUInt32 1 &&& Int32.toUInt32 31)).toInt32) &&& 1431655765)) &&& 858993459) + (((Int32.toUInt32 (p1 - (((Int32.toUInt32 p1 >>> (Int32.toUInt32 1 &&& Int32.toUInt32 31)).toInt32) &&& 1431655765)) >>> (Int32.toUInt32 2 &&& Int32.toUInt32 31)).toInt32) &&& 858993459)) + ((Int32.toUInt32 (((p1 - (((Int32.toUInt32 p1 >>> (Int32.toUInt32 1 &&& Int32.toUInt32 31)).toInt32) &&& 1431655765)) &&& 858993459) + (((Int32.toUInt32 (p1 - (((Int32.toUInt32 p1 >>> (Int32.toUInt32 1 &&& Int32.toUInt32 31)).toInt32) &&& 1431655765)) >>> (Int32.toUInt32 2 &&& Int32.toUInt32 31)).toInt32) &&& 858993459)) >>> (Int32.toUInt32 4 &&& Int32.toUInt32 31)).toInt32)) &&& 252645135) >>> (Int32.toUInt32 8 &&& Int32.toUInt32 31)).toInt32)) + ((Int32.toUInt32 ((((((p1 - (((Int32.toUInt32 p1 >>> (Int32.toUInt32 1 &&& Int32.toUInt32 31)).toInt32) &&& 1431655765)) &&& 858993459) + (((Int32.toUInt32 (p1 - (((Int32.toUInt32 p1 >>> (Int32.toUInt32 1 &&& Int32.toUInt32 31)).toInt32) &&& 1431655765)) >>> (Int32.toUInt32 2 &&& Int32.toUInt32 31)).toInt32) &&& 858993459)) + ((Int32.toUInt32 (((p1 - (((Int32.toUInt32 p1 >>> (Int32.toUInt32 1 &&& Int32.toUInt32 31)).toInt32) &&& 1431655765)) &&& 858993459) + (((Int32.toUInt32 (p1 - (((Int32.toUInt32 p1 >>> (Int32.toUInt32 1 &&& Int32.toUInt32 31)).toInt32) &&& 1431655765)) >>> (Int32.toUInt32 2 &&& Int32.toUInt32 31)).toInt32) &&& 858993459)) >>> (Int32.toUInt32 4 &&& Int32.toUInt32 31)).toInt32)) &&& 252645135) + ((Int32.toUInt32 (((((p1 - (((Int32.toUInt32 p1 >>> (Int32.toUInt32 1 &&& Int32.toUInt32 31)).toInt32) &&& 1431655765)) &&& 858993459) + (((Int32.toUInt32 (p1 - (((Int32.toUInt32 p1 >>> (Int32.toUInt32 1 &&& Int32.toUInt32 31)).toInt32) &&& 1431655765)) >>> (Int32.toUInt32 2 &&& Int32.toUInt32 31)).toInt32) &&& 858993459)) + ((Int32.toUInt32 (((p1 - (((Int32.toUInt32 p1 >>> (Int32.toUInt32 1 &&& Int32.toUInt32 31)).toInt32) &&& 1431655765)) &&& 858993459) + (((Int32.toUInt32 (p1 - (((Int32.toUInt32 p1 >>> (Int32.toUInt32 1 &&& Int32.toUInt32 31)).toInt32) &&& 1431655765)) >>> (Int32.toUInt32 2 &&& Int32.toUInt32 31)).toInt32) &&& 858993459)) >>> (Int32.toUInt32 4 &&& Int32.toUInt32 31)).toInt32)) &&& 252645135) >>> (Int32.toUInt32 8 &&& Int32.toUInt32 31)).toInt32)) >>> (Int32.toUInt32 16 &&& Int32.toUInt32 31)).toInt32)) &&& 63))) hi) : pm_C pm_g (SH L) HR (d + 1) m_Integer_bitCount [.inl p1] hi Q := by
  refine pm_C_of (maxL := 1) (t := pm_t231) rfl (Nat.le_of_ble_eq_true rfl) ?_
  refine pm_W_of 44 [] rfl ?_
  refine And.intro trivial ?_
  exact h
def f_Integer_bitCount (p1 : Int32) : Int32 := ((((((((p1 - (((Int32.toUInt32 p1 >>> (Int32.toUInt32 1 &&& Int32.toUInt32 31)).toInt32) &&& 1431655765)) &&& 858993459) + (((Int32.toUInt32 (p1 - (((Int32.toUInt32 p1 >>> (Int32.toUInt32 1 &&& Int32.toUInt32 31)).toInt32) &&& 1431655765)) >>> (Int32.toUInt32 2 &&& Int32.toUInt32 31)).toInt32) &&& 858993459)) + ((Int32.toUInt32 (((p1 - (((Int32.toUInt32 p1 >>> (Int32.toUInt32 1 &&& Int32.toUInt32 31)).toInt32) &&& 1431655765)) &&& 858993459) + (((Int32.toUInt32 (p1 - (((Int32.toUInt32 p1 >>> (Int32.toUInt32 1 &&& Int32.toUInt32 31)).toInt32) &&& 1431655765)) >>> (Int32.toUInt32 2 &&& Int32.toUInt32 31)).toInt32) &&& 858993459)) >>> (Int32.toUInt32 4 &&& Int32.toUInt32 31)).toInt32)) &&& 252645135) + ((Int32.toUInt32 (((((p1 - (((Int32.toUInt32 p1 >>> (Int32.toUInt32 1 &&& Int32.toUInt32 31)).toInt32) &&& 1431655765)) &&& 858993459) + (((Int32.toUInt32 (p1 - (((Int32.toUInt32 p1 >>> (Int32.toUInt32 1 &&& Int32.toUInt32 31)).toInt32) &&& 1431655765)) >>> (Int32.toUInt32 2 &&& Int32.toUInt32 31)).toInt32) &&& 858993459)) + ((Int32.toUInt32 (((p1 - (((Int32.toUInt32 p1 >>> (Int32.toUInt32 1 &&& Int32.toUInt32 31)).toInt32) &&& 1431655765)) &&& 858993459) + (((Int32.toUInt32 (p1 - (((Int32.toUInt32 p1 >>> (Int32.toUInt32 1 &&& Int32.toUInt32 31)).toInt32) &&& 1431655765)) >>> (Int32.toUInt32 2 &&& Int32.toUInt32 31)).toInt32) &&& 858993459)) >>> (Int32.toUInt32 4 &&& Int32.toUInt32 31)).toInt32)) &&& 252645135) >>> (Int32.toUInt32 8 &&& Int32.toUInt32 31)).toInt32)) + ((Int32.toUInt32 ((((((p1 - (((Int32.toUInt32 p1 >>> (Int32.toUInt32 1 &&& Int32.toUInt32 31)).toInt32) &&& 1431655765)) &&& 858993459) + (((Int32.toUInt32 (p1 - (((Int32.toUInt32 p1 >>> (Int32.toUInt32 1 &&& Int32.toUInt32 31)).toInt32) &&& 1431655765)) >>> (Int32.toUInt32 2 &&& Int32.toUInt32 31)).toInt32) &&& 858993459)) + ((Int32.toUInt32 (((p1 - (((Int32.toUInt32 p1 >>> (Int32.toUInt32 1 &&& Int32.toUInt32 31)).toInt32) &&& 1431655765)) &&& 858993459) + (((Int32.toUInt32 (p1 - (((Int32.toUInt32 p1 >>> (Int32.toUInt32 1 &&& Int32.toUInt32 31)).toInt32) &&& 1431655765)) >>> (Int32.toUInt32 2 &&& Int32.toUInt32 31)).toInt32) &&& 858993459)) >>> (Int32.toUInt32 4 &&& Int32.toUInt32 31)).toInt32)) &&& 252645135) + ((Int32.toUInt32 (((((p1 - (((Int32.toUInt32 p1 >>> (Int32.toUInt32 1 &&& Int32.toUInt32 31)).toInt32) &&& 1431655765)) &&& 858993459) + (((Int32.toUInt32 (p1 - (((Int32.toUInt32 p1 >>> (Int32.toUInt32 1 &&& Int32.toUInt32 31)).toInt32) &&& 1431655765)) >>> (Int32.toUInt32 2 &&& Int32.toUInt32 31)).toInt32) &&& 858993459)) + ((Int32.toUInt32 (((p1 - (((Int32.toUInt32 p1 >>> (Int32.toUInt32 1 &&& Int32.toUInt32 31)).toInt32) &&& 1431655765)) &&& 858993459) + (((Int32.toUInt32 (p1 - (((Int32.toUInt32 p1 >>> (Int32.toUInt32 1 &&& Int32.toUInt32 31)).toInt32) &&& 1431655765)) >>> (Int32.toUInt32 2 &&& Int32.toUInt32 31)).toInt32) &&& 858993459)) >>> (Int32.toUInt32 4 &&& Int32.toUInt32 31)).toInt32)) &&& 252645135) >>> (Int32.toUInt32 8 &&& Int32.toUInt32 31)).toInt32)) >>> (Int32.toUInt32 16 &&& Int32.toUInt32 31)).toInt32)) &&& 63)
theorem f_Integer_bitCount_c {L d : Nat} {p1 : Int32} {hi : pm_B} {Q : pm_Q} (h : Q (some (.inl (f_Integer_bitCount p1))) hi) : pm_C pm_g (SH L) HR (d + 1) m_Integer_bitCount [.inl p1] hi Q := by
  refine v_Integer_bitCount ?_
  unfold f_Integer_bitCount at h
  exact h
theorem v_E_isKind {L d : Nat} {p1 : Int32} {hi : pm_B} {Q : pm_Q} (h : ((p1 < 0) → Q (some (.inl 0)) hi) ∧ ((¬ (p1 < 0)) → ((6 ≤ p1) → Q (some (.inl 0)) hi) ∧ ((¬ (6 ≤ p1)) → Q (some (.inl 1)) hi))) : pm_C pm_g (SH L) HR (d + 1) m_E_isKind [.inl p1] hi Q := by
  refine pm_C_of (maxL := 1) (t := pm_t118) rfl (Nat.le_of_ble_eq_true rfl) ?_
  refine pm_W_of 10 [] rfl ?_
  refine And.intro (fun c1 => ?_) (fun c1 => ?_)
  · replace h := h.1 c1
    refine And.intro (Or.inl rfl) ?_
    exact h
  · replace h := h.2 c1
    refine And.intro (fun c2 => ?_) (fun c2 => ?_)
    · replace h := h.1 c2
      refine And.intro (Or.inl rfl) ?_
      exact h
    · replace h := h.2 c2
      refine And.intro (Or.inr rfl) ?_
      exact h
theorem v_E_isEar {L d : Nat} {p1 : Int32} {hi : pm_B} {Q : pm_Q} (h : ((p1 < 1) → Q (some (.inl 0)) hi) ∧ ((¬ (p1 < 1)) → ((9 < p1) → Q (some (.inl 0)) hi) ∧ ((¬ (9 < p1)) → Q (some (.inl 1)) hi))) : pm_C pm_g (SH L) HR (d + 1) m_E_isEar [.inl p1] hi Q := by
  refine pm_C_of (maxL := 1) (t := pm_t119) rfl (Nat.le_of_ble_eq_true rfl) ?_
  refine pm_W_of 11 [] rfl ?_
  refine And.intro (fun c1 => ?_) (fun c1 => ?_)
  · replace h := h.1 c1
    refine And.intro (Or.inl rfl) ?_
    exact h
  · replace h := h.2 c1
    refine And.intro (fun c2 => ?_) (fun c2 => ?_)
    · replace h := h.1 c2
      refine And.intro (Or.inl rfl) ?_
      exact h
    · replace h := h.2 c2
      refine And.intro (Or.inr rfl) ?_
      exact h
theorem v_E_isFame {L d : Nat} {p1 : Int32} {hi : pm_B} {Q : pm_Q} (h : ((p1 < 0) → Q (some (.inl 0)) hi) ∧ ((¬ (p1 < 0)) → ((99 < p1) → Q (some (.inl 0)) hi) ∧ ((¬ (99 < p1)) → Q (some (.inl 1)) hi))) : pm_C pm_g (SH L) HR (d + 1) m_E_isFame [.inl p1] hi Q := by
  refine pm_C_of (maxL := 1) (t := pm_t120) rfl (Nat.le_of_ble_eq_true rfl) ?_
  refine pm_W_of 10 [] rfl ?_
  refine And.intro (fun c1 => ?_) (fun c1 => ?_)
  · replace h := h.1 c1
    refine And.intro (Or.inl rfl) ?_
    exact h
  · replace h := h.2 c1
    refine And.intro (fun c2 => ?_) (fun c2 => ?_)
    · replace h := h.1 c2
      refine And.intro (Or.inl rfl) ?_
      exact h
    · replace h := h.2 c2
      refine And.intro (Or.inr rfl) ?_
      exact h
theorem v_E_isWord {L d : Nat} {p1 : Int32} {hi : pm_B} {Q : pm_Q} (h : ((p1 < 0) → Q (some (.inl 0)) hi) ∧ ((¬ (p1 < 0)) → ((20 ≤ p1) → Q (some (.inl 0)) hi) ∧ ((¬ (20 ≤ p1)) → Q (some (.inl 1)) hi))) : pm_C pm_g (SH L) HR (d + 1) m_E_isWord [.inl p1] hi Q := by
  refine pm_C_of (maxL := 1) (t := pm_t121) rfl (Nat.le_of_ble_eq_true rfl) ?_
  refine pm_W_of 10 [] rfl ?_
  refine And.intro (fun c1 => ?_) (fun c1 => ?_)
  · replace h := h.1 c1
    refine And.intro (Or.inl rfl) ?_
    exact h
  · replace h := h.2 c1
    refine And.intro (fun c2 => ?_) (fun c2 => ?_)
    · replace h := h.1 c2
      refine And.intro (Or.inl rfl) ?_
      exact h
    · replace h := h.2 c2
      refine And.intro (Or.inr rfl) ?_
      exact h
theorem v_E_isWordOrNone {L d : Nat} {p1 : Int32} {hi : pm_B} {Q : pm_Q} (h : ((p1 = (-1)) → Q (some (.inl 1)) hi) ∧ ((¬ (p1 = (-1))) → ((p1 < 0) → Q (some (.inl 0)) hi) ∧ ((¬ (p1 < 0)) → ((20 ≤ p1) → Q (some (.inl 0)) hi) ∧ ((¬ (20 ≤ p1)) → Q (some (.inl 1)) hi)))) : pm_C pm_g (SH L) HR (d + 2) m_E_isWordOrNone [.inl p1] hi Q := by
  refine pm_C_of (maxL := 1) (t := pm_t122) rfl (Nat.le_of_ble_eq_true rfl) ?_
  refine pm_W_of 11 [] rfl ?_
  refine And.intro (fun c1 => ?_) (fun c1 => ?_)
  · replace h := h.1 c1
    refine And.intro (Or.inr rfl) ?_
    exact h
  · replace h := h.2 c1
    refine And.intro trivial ?_
    refine v_E_isWord (d := d)  ?_
    refine And.intro (fun c2 => ?_) (fun c2 => ?_)
    · replace h := h.1 c2
      refine ⟨_, rfl, ?_⟩
      refine And.intro (fun _ => ?_) (fun hc => absurd (pm_cd_t (by decide)) hc)
      refine And.intro (Or.inl rfl) ?_
      exact h
    · replace h := h.2 c2
      refine And.intro (fun c3 => ?_) (fun c3 => ?_)
      · replace h := h.1 c3
        refine ⟨_, rfl, ?_⟩
        refine And.intro (fun _ => ?_) (fun hc => absurd (pm_cd_t (by decide)) hc)
        refine And.intro (Or.inl rfl) ?_
        exact h
      · replace h := h.2 c3
        refine ⟨_, rfl, ?_⟩
        refine And.intro (fun hc => absurd hc (pm_cd_f (by decide))) (fun _ => ?_)
        refine And.intro (Or.inr rfl) ?_
        exact h
theorem v_E_isHeardPlace {L d : Nat} {p1 : Int32} {hi : pm_B} {Q : pm_Q} (h : ((p1 < 0) → Q (some (.inl 0)) hi) ∧ ((¬ (p1 < 0)) → ((12 ≤ p1) → Q (some (.inl 0)) hi) ∧ ((¬ (12 ≤ p1)) → Q (some (.inl 1)) hi))) : pm_C pm_g (SH L) HR (d + 1) m_E_isHeardPlace [.inl p1] hi Q := by
  refine pm_C_of (maxL := 1) (t := pm_t123) rfl (Nat.le_of_ble_eq_true rfl) ?_
  refine pm_W_of 10 [] rfl ?_
  refine And.intro (fun c1 => ?_) (fun c1 => ?_)
  · replace h := h.1 c1
    refine And.intro (Or.inl rfl) ?_
    exact h
  · replace h := h.2 c1
    refine And.intro (fun c2 => ?_) (fun c2 => ?_)
    · replace h := h.1 c2
      refine And.intro (Or.inl rfl) ?_
      exact h
    · replace h := h.2 c2
      refine And.intro (Or.inr rfl) ?_
      exact h
theorem v_E_isZeroOrOne {L d : Nat} {p1 : Int32} {hi : pm_B} {Q : pm_Q} (h : ((p1 = 0) → Q (some (.inl 1)) hi) ∧ ((¬ (p1 = 0)) → ((¬ p1 = 1) → Q (some (.inl 0)) hi) ∧ ((¬ (¬ p1 = 1)) → Q (some (.inl 1)) hi))) : pm_C pm_g (SH L) HR (d + 1) m_E_isZeroOrOne [.inl p1] hi Q := by
  refine pm_C_of (maxL := 1) (t := pm_t124) rfl (Nat.le_of_ble_eq_true rfl) ?_
  refine pm_W_of 10 [] rfl ?_
  refine And.intro (fun c1 => ?_) (fun c1 => ?_)
  · replace h := h.1 c1
    refine And.intro (Or.inr rfl) ?_
    exact h
  · replace h := h.2 c1
    refine And.intro (fun c2 => ?_) (fun c2 => ?_)
    · replace h := h.1 c2
      refine And.intro (Or.inl rfl) ?_
      exact h
    · replace h := h.2 c2
      refine And.intro (Or.inr rfl) ?_
      exact h
theorem v_E_isDays {L d : Nat} {p1 : Int32} {p2 : Int32} {p3 : Int32} {hi : pm_B} {Q : pm_Q} (h : ((p1 < p2) → Q (some (.inl 0)) hi) ∧ ((¬ (p1 < p2)) → ((p3 < p1) → Q (some (.inl 0)) hi) ∧ ((¬ (p3 < p1)) → Q (some (.inl 1)) hi))) : pm_C pm_g (SH L) HR (d + 1) m_E_isDays [.inl p1, .inl p2, .inl p3] hi Q := by
  refine pm_C_of (maxL := 3) (t := pm_t125) rfl (Nat.le_of_ble_eq_true rfl) ?_
  refine pm_W_of 11 [] rfl ?_
  refine And.intro (fun c1 => ?_) (fun c1 => ?_)
  · replace h := h.1 c1
    refine And.intro (Or.inl rfl) ?_
    exact h
  · replace h := h.2 c1
    refine And.intro (fun c2 => ?_) (fun c2 => ?_)
    · replace h := h.1 c2
      refine And.intro (Or.inl rfl) ?_
      exact h
    · replace h := h.2 c2
      refine And.intro (Or.inr rfl) ?_
      exact h
theorem v_E_isSheet {L d : Nat} {p1 : Int32} {hi : pm_B} {Q : pm_Q} (h : ((p1 < 0) → Q (some (.inl 0)) hi) ∧ ((¬ (p1 < 0)) → ((4 ≤ p1) → Q (some (.inl 0)) hi) ∧ ((¬ (4 ≤ p1)) → Q (some (.inl 1)) hi))) : pm_C pm_g (SH L) HR (d + 1) m_E_isSheet [.inl p1] hi Q := by
  refine pm_C_of (maxL := 1) (t := pm_t126) rfl (Nat.le_of_ble_eq_true rfl) ?_
  refine pm_W_of 10 [] rfl ?_
  refine And.intro (fun c1 => ?_) (fun c1 => ?_)
  · replace h := h.1 c1
    refine And.intro (Or.inl rfl) ?_
    exact h
  · replace h := h.2 c1
    refine And.intro (fun c2 => ?_) (fun c2 => ?_)
    · replace h := h.1 c2
      refine And.intro (Or.inl rfl) ?_
      exact h
    · replace h := h.2 c2
      refine And.intro (Or.inr rfl) ?_
      exact h
theorem v_E_isSlot {L d : Nat} {p1 : Int32} {hi : pm_B} {Q : pm_Q} (h : ((p1 < 0) → Q (some (.inl 0)) hi) ∧ ((¬ (p1 < 0)) → ((5 ≤ p1) → Q (some (.inl 0)) hi) ∧ ((¬ (5 ≤ p1)) → Q (some (.inl 1)) hi))) : pm_C pm_g (SH L) HR (d + 1) m_E_isSlot [.inl p1] hi Q := by
  refine pm_C_of (maxL := 1) (t := pm_t127) rfl (Nat.le_of_ble_eq_true rfl) ?_
  refine pm_W_of 10 [] rfl ?_
  refine And.intro (fun c1 => ?_) (fun c1 => ?_)
  · replace h := h.1 c1
    refine And.intro (Or.inl rfl) ?_
    exact h
  · replace h := h.2 c1
    refine And.intro (fun c2 => ?_) (fun c2 => ?_)
    · replace h := h.1 c2
      refine And.intro (Or.inl rfl) ?_
      exact h
    · replace h := h.2 c2
      refine And.intro (Or.inr rfl) ?_
      exact h
theorem v_Folk_hasSpeaker {L d : Nat} {this : Nat} (h_this : pm_fo this) {p1 : Int32} {hi : pm_B} {Q : pm_Q} (h : ((p1 < 0) → Q (some (.inl 0)) hi) ∧ ((¬ (p1 < 0)) → (((hi this 2) ≤ p1) → Q (some (.inl 0)) hi) ∧ ((¬ ((hi this 2) ≤ p1)) → ((8 ≤ p1) → Q (some (.inl 0)) hi) ∧ ((¬ (8 ≤ p1)) → Q (some (.inl 1)) hi)))) : pm_C pm_g (SH L) HR (d + 1) m_Folk_hasSpeaker [.inr this, .inl p1] hi Q := by
  refine pm_C_of (maxL := 2) (t := pm_t2) rfl (Nat.le_of_ble_eq_true rfl) ?_
  refine pm_W_of 16 [] rfl ?_
  refine And.intro (fun c1 => ?_) (fun c1 => ?_)
  · replace h := h.1 c1
    refine And.intro (Or.inl rfl) ?_
    exact h
  · replace h := h.2 c1
    refine And.intro (sh_fo h_this) ?_
    refine And.intro (fun c2 => ?_) (fun c2 => ?_)
    · replace h := h.1 c2
      refine And.intro (Or.inl rfl) ?_
      exact h
    · replace h := h.2 c2
      refine And.intro (sh_fo h_this) ?_
      rw [(hr_fo1 h_this)]
      refine ⟨8, ⟨0, _, (sh_fo1 h_this)⟩, ?_⟩
      rw [show nI 8 = (8 : Int32) from rfl]
      refine And.intro (fun c3 => ?_) (fun c3 => ?_)
      · replace h := h.1 c3
        refine And.intro (Or.inl rfl) ?_
        exact h
      · replace h := h.2 c3
        refine And.intro (Or.inr rfl) ?_
        exact h
theorem v_Folk_hasRoom {L d : Nat} {this : Nat} (h_this : pm_fo this) {hi : pm_B} {Q : pm_Q} (h : (((hi this 2) < 0) → Q (some (.inl 0)) hi) ∧ ((¬ ((hi this 2) < 0)) → ((8 ≤ (hi this 2)) → Q (some (.inl 0)) hi) ∧ ((¬ (8 ≤ (hi this 2))) → Q (some (.inl 1)) hi))) : pm_C pm_g (SH L) HR (d + 1) m_Folk_hasRoom [.inr this] hi Q := by
  refine pm_C_of (maxL := 1) (t := pm_t3) rfl (Nat.le_of_ble_eq_true rfl) ?_
  refine pm_W_of 14 [] rfl ?_
  refine And.intro (sh_fo h_this) ?_
  refine And.intro (fun c1 => ?_) (fun c1 => ?_)
  · replace h := h.1 c1
    refine And.intro (Or.inl rfl) ?_
    exact h
  · replace h := h.2 c1
    refine And.intro (sh_fo h_this) ?_
    refine And.intro (sh_fo h_this) ?_
    rw [(hr_fo1 h_this)]
    refine ⟨8, ⟨0, _, (sh_fo1 h_this)⟩, ?_⟩
    rw [show nI 8 = (8 : Int32) from rfl]
    refine And.intro (fun c2 => ?_) (fun c2 => ?_)
    · replace h := h.1 c2
      refine And.intro (Or.inl rfl) ?_
      exact h
    · replace h := h.2 c2
      refine And.intro (Or.inr rfl) ?_
      exact h
theorem v_Sheet_hasPlace {L d : Nat} {this : Nat} (h_this : pm_st this) {p1 : Int32} {hi : pm_B} {Q : pm_Q} (h : ((p1 < 0) → Q (some (.inl 0)) hi) ∧ ((¬ (p1 < 0)) → (((hi this 1) ≤ p1) → Q (some (.inl 0)) hi) ∧ ((¬ ((hi this 1) ≤ p1)) → ((24 ≤ p1) → Q (some (.inl 0)) hi) ∧ ((¬ (24 ≤ p1)) → Q (some (.inl 1)) hi)))) : pm_C pm_g (SH L) HR (d + 1) m_Sheet_hasPlace [.inr this, .inl p1] hi Q := by
  refine pm_C_of (maxL := 2) (t := pm_t56) rfl (Nat.le_of_ble_eq_true rfl) ?_
  refine pm_W_of 16 [] rfl ?_
  refine And.intro (fun c1 => ?_) (fun c1 => ?_)
  · replace h := h.1 c1
    refine And.intro (Or.inl rfl) ?_
    exact h
  · replace h := h.2 c1
    refine And.intro (sh_st h_this) ?_
    refine And.intro (fun c2 => ?_) (fun c2 => ?_)
    · replace h := h.1 c2
      refine And.intro (Or.inl rfl) ?_
      exact h
    · replace h := h.2 c2
      refine And.intro (sh_st h_this) ?_
      rw [(hr_st h_this)]
      refine ⟨24, ⟨0, _, (sh_st1 h_this)⟩, ?_⟩
      rw [show nI 24 = (24 : Int32) from rfl]
      refine And.intro (fun c3 => ?_) (fun c3 => ?_)
      · replace h := h.1 c3
        refine And.intro (Or.inl rfl) ?_
        exact h
      · replace h := h.2 c3
        refine And.intro (Or.inr rfl) ?_
        exact h
theorem v_Sheet_hasPlaces {L d : Nat} {this : Nat} (h_this : pm_st this) {p1 : Int32} {p2 : Int32} {hi : pm_B} {Q : pm_Q} (h : ((p1 < 0) → Q (some (.inl 0)) hi) ∧ ((¬ (p1 < 0)) → ((p2 < 0) → Q (some (.inl 0)) hi) ∧ ((¬ (p2 < 0)) → (((hi this 1) < p1) → Q (some (.inl 0)) hi) ∧ ((¬ ((hi this 1) < p1)) → ((24 < (hi this 1)) → Q (some (.inl 0)) hi) ∧ ((¬ (24 < (hi this 1))) → ((((hi this 1) - p1) < p2) → Q (some (.inl 0)) hi) ∧ ((¬ (((hi this 1) - p1) < p2)) → Q (some (.inl 1)) hi)))))) : pm_C pm_g (SH L) HR (d + 1) m_Sheet_hasPlaces [.inr this, .inl p1, .inl p2] hi Q := by
  refine pm_C_of (maxL := 3) (t := pm_t57) rfl (Nat.le_of_ble_eq_true rfl) ?_
  refine pm_W_of 25 [] rfl ?_
  refine And.intro (fun c1 => ?_) (fun c1 => ?_)
  · replace h := h.1 c1
    refine And.intro (Or.inl rfl) ?_
    exact h
  · replace h := h.2 c1
    refine And.intro (fun c2 => ?_) (fun c2 => ?_)
    · replace h := h.1 c2
      refine And.intro (Or.inl rfl) ?_
      exact h
    · replace h := h.2 c2
      refine And.intro (sh_st h_this) ?_
      refine And.intro (fun c3 => ?_) (fun c3 => ?_)
      · replace h := h.1 c3
        refine And.intro (Or.inl rfl) ?_
        exact h
      · replace h := h.2 c3
        refine And.intro (sh_st h_this) ?_
        refine And.intro (sh_st h_this) ?_
        rw [(hr_st h_this)]
        refine ⟨24, ⟨0, _, (sh_st1 h_this)⟩, ?_⟩
        rw [show nI 24 = (24 : Int32) from rfl]
        refine And.intro (fun c4 => ?_) (fun c4 => ?_)
        · replace h := h.1 c4
          refine And.intro (Or.inl rfl) ?_
          exact h
        · replace h := h.2 c4
          refine And.intro (sh_st h_this) ?_
          refine And.intro (fun c5 => ?_) (fun c5 => ?_)
          · replace h := h.1 c5
            refine And.intro (Or.inl rfl) ?_
            exact h
          · replace h := h.2 c5
            refine And.intro (Or.inr rfl) ?_
            exact h
theorem v_M_in {L d : Nat} {p1 : Int32} {p2 : Int32} {p3 : Int32} {hi : pm_B} {Q : pm_Q} (h : ((p1 < p2) → Q (some (.inl 0)) hi) ∧ ((¬ (p1 < p2)) → ((p3 < p1) → Q (some (.inl 0)) hi) ∧ ((¬ (p3 < p1)) → Q (some (.inl 1)) hi))) : pm_C pm_g (SH L) HR (d + 1) m_M_in [.inl p1, .inl p2, .inl p3] hi Q := by
  refine pm_C_of (maxL := 3) (t := pm_t136) rfl (Nat.le_of_ble_eq_true rfl) ?_
  refine pm_W_of 11 [] rfl ?_
  refine And.intro (fun c1 => ?_) (fun c1 => ?_)
  · replace h := h.1 c1
    refine And.intro (Or.inl rfl) ?_
    exact h
  · replace h := h.2 c1
    refine And.intro (fun c2 => ?_) (fun c2 => ?_)
    · replace h := h.1 c2
      refine And.intro (Or.inl rfl) ?_
      exact h
    · replace h := h.2 c2
      refine And.intro (Or.inr rfl) ?_
      exact h
theorem v_M_isSpeaker {L d : Nat} {p1 : Int32} {hi : pm_B} {Q : pm_Q} (h : ((p1 < 0) → Q (some (.inl 0)) hi) ∧ ((¬ (p1 < 0)) → ((((hi 142 1) - 1) < p1) → Q (some (.inl 0)) hi) ∧ ((¬ (((hi 142 1) - 1) < p1)) → Q (some (.inl 1)) hi))) : pm_C pm_g (SH L) HR (d + 2) m_M_isSpeaker [.inr 141, .inl p1] hi Q := by
  refine pm_C_of (maxL := 2) (t := pm_t139) rfl (Nat.le_of_ble_eq_true rfl) ?_
  refine pm_W_of 12 [] rfl ?_
  refine And.intro sh_l141 ?_
  rw [hr_141_0]
  refine And.intro (pm_ao_of (t := 0) sh_l142 (by decide : 1 < 1611) (rfl : (1 : Int32) = nI 1) (by decide)) ?_
  rw [pm_tn (rfl : (1 : Int32) = nI 1) (by decide : 1 < 1611) (by decide)]
  refine And.intro trivial ?_
  refine v_M_in (d := d)  ?_
  refine And.intro (fun c1 => ?_) (fun c1 => ?_)
  · replace h := h.1 c1
    refine ⟨_, rfl, ?_⟩
    refine And.intro (Or.inl rfl) ?_
    exact h
  · replace h := h.2 c1
    refine And.intro (fun c2 => ?_) (fun c2 => ?_)
    · replace h := h.1 c2
      refine ⟨_, rfl, ?_⟩
      refine And.intro (Or.inl rfl) ?_
      exact h
    · replace h := h.2 c2
      refine ⟨_, rfl, ?_⟩
      refine And.intro (Or.inr rfl) ?_
      exact h
theorem v_M_isWord {L d : Nat} {p1 : Int32} {hi : pm_B} {Q : pm_Q} (h : ((p1 < 0) → Q (some (.inl 0)) hi) ∧ ((¬ (p1 < 0)) → ((19 < p1) → Q (some (.inl 0)) hi) ∧ ((¬ (19 < p1)) → Q (some (.inl 1)) hi))) : pm_C pm_g (SH L) HR (d + 2) m_M_isWord [.inl p1] hi Q := by
  refine pm_C_of (maxL := 1) (t := pm_t140) rfl (Nat.le_of_ble_eq_true rfl) ?_
  refine pm_W_of 11 [] rfl ?_
  refine And.intro trivial ?_
  refine v_M_in (d := d)  ?_
  refine And.intro (fun c1 => ?_) (fun c1 => ?_)
  · replace h := h.1 c1
    refine ⟨_, rfl, ?_⟩
    refine And.intro (Or.inl rfl) ?_
    exact h
  · replace h := h.2 c1
    refine And.intro (fun c2 => ?_) (fun c2 => ?_)
    · replace h := h.1 c2
      refine ⟨_, rfl, ?_⟩
      refine And.intro (Or.inl rfl) ?_
      exact h
    · replace h := h.2 c2
      refine ⟨_, rfl, ?_⟩
      refine And.intro (Or.inr rfl) ?_
      exact h
theorem v_M_isOf {L d : Nat} {p1 : Int32} {p2 : Int32} {hi : pm_B} {Q : pm_Q} (h : ((¬ p1 = 1) → ((p2 < 0) → Q (some (.inl 0)) hi) ∧ ((¬ (p2 < 0)) → ((99 < p2) → Q (some (.inl 0)) hi) ∧ ((¬ (99 < p2)) → Q (some (.inl 1)) hi))) ∧ ((¬ (¬ p1 = 1)) → ((p2 < 1) → Q (some (.inl 0)) hi) ∧ ((¬ (p2 < 1)) → ((9 < p2) → Q (some (.inl 0)) hi) ∧ ((¬ (9 < p2)) → Q (some (.inl 1)) hi)))) : pm_C pm_g (SH L) HR (d + 2) m_M_isOf [.inl p1, .inl p2] hi Q := by
  refine pm_C_of (maxL := 2) (t := pm_t145) rfl (Nat.le_of_ble_eq_true rfl) ?_
  refine pm_W_of 11 [] rfl ?_
  refine And.intro (fun c1 => ?_) (fun c1 => ?_)
  · replace h := h.1 c1
    refine And.intro trivial ?_
    refine v_M_in (d := d)  ?_
    refine And.intro (fun c2 => ?_) (fun c2 => ?_)
    · replace h := h.1 c2
      refine ⟨_, rfl, ?_⟩
      refine And.intro (Or.inl rfl) ?_
      exact h
    · replace h := h.2 c2
      refine And.intro (fun c3 => ?_) (fun c3 => ?_)
      · replace h := h.1 c3
        refine ⟨_, rfl, ?_⟩
        refine And.intro (Or.inl rfl) ?_
        exact h
      · replace h := h.2 c3
        refine ⟨_, rfl, ?_⟩
        refine And.intro (Or.inr rfl) ?_
        exact h
  · replace h := h.2 c1
    refine And.intro trivial ?_
    refine v_M_in (d := d)  ?_
    refine And.intro (fun c4 => ?_) (fun c4 => ?_)
    · replace h := h.1 c4
      refine ⟨_, rfl, ?_⟩
      refine And.intro (Or.inl rfl) ?_
      exact h
    · replace h := h.2 c4
      refine And.intro (fun c5 => ?_) (fun c5 => ?_)
      · replace h := h.1 c5
        refine ⟨_, rfl, ?_⟩
        refine And.intro (Or.inl rfl) ?_
        exact h
      · replace h := h.2 c5
        refine ⟨_, rfl, ?_⟩
        refine And.intro (Or.inr rfl) ?_
        exact h
theorem v_M_isSheet {L d : Nat} {p1 : Int32} {hi : pm_B} {Q : pm_Q} (h : ((p1 < 0) → Q (some (.inl 0)) hi) ∧ ((¬ (p1 < 0)) → ((3 < p1) → Q (some (.inl 0)) hi) ∧ ((¬ (3 < p1)) → Q (some (.inl 1)) hi))) : pm_C pm_g (SH L) HR (d + 2) m_M_isSheet [.inl p1] hi Q := by
  refine pm_C_of (maxL := 1) (t := pm_t215) rfl (Nat.le_of_ble_eq_true rfl) ?_
  refine pm_W_of 11 [] rfl ?_
  refine And.intro trivial ?_
  refine v_M_in (d := d)  ?_
  refine And.intro (fun c1 => ?_) (fun c1 => ?_)
  · replace h := h.1 c1
    refine ⟨_, rfl, ?_⟩
    refine And.intro (Or.inl rfl) ?_
    exact h
  · replace h := h.2 c1
    refine And.intro (fun c2 => ?_) (fun c2 => ?_)
    · replace h := h.1 c2
      refine ⟨_, rfl, ?_⟩
      refine And.intro (Or.inl rfl) ?_
      exact h
    · replace h := h.2 c2
      refine ⟨_, rfl, ?_⟩
      refine And.intro (Or.inr rfl) ?_
      exact h
theorem v_M_isSlot {L d : Nat} {p1 : Int32} {hi : pm_B} {Q : pm_Q} (h : ((p1 < 0) → Q (some (.inl 0)) hi) ∧ ((¬ (p1 < 0)) → ((4 < p1) → Q (some (.inl 0)) hi) ∧ ((¬ (4 < p1)) → Q (some (.inl 1)) hi))) : pm_C pm_g (SH L) HR (d + 2) m_M_isSlot [.inl p1] hi Q := by
  refine pm_C_of (maxL := 1) (t := pm_t216) rfl (Nat.le_of_ble_eq_true rfl) ?_
  refine pm_W_of 11 [] rfl ?_
  refine And.intro trivial ?_
  refine v_M_in (d := d)  ?_
  refine And.intro (fun c1 => ?_) (fun c1 => ?_)
  · replace h := h.1 c1
    refine ⟨_, rfl, ?_⟩
    refine And.intro (Or.inl rfl) ?_
    exact h
  · replace h := h.2 c1
    refine And.intro (fun c2 => ?_) (fun c2 => ?_)
    · replace h := h.1 c2
      refine ⟨_, rfl, ?_⟩
      refine And.intro (Or.inl rfl) ?_
      exact h
    · replace h := h.2 c2
      refine ⟨_, rfl, ?_⟩
      refine And.intro (Or.inr rfl) ?_
      exact h
theorem v_M_put {L d : Nat} {p1 : Int32} {p2 : Int32} {p3 : Int32} {hi : pm_B} {Q : pm_Q} (h : ∃ k1 : Nat, k1 < 1611 ∧ ((7 + (29 * p1)) + p2) = nI k1 ∧ (Q none (pm_u hi 142 k1 p3))) : pm_C pm_g (SH L) HR (d + 1) m_M_put [.inr 141, .inl p1, .inl p2, .inl p3] hi Q := by
  refine pm_C_of (maxL := 4) (t := pm_t142) rfl (Nat.le_of_ble_eq_true rfl) ?_
  refine pm_W_of 14 [] rfl ?_
  refine And.intro sh_l141 ?_
  rw [hr_141_0]
  obtain ⟨k1, hkk1, hek1, h⟩ := h
  refine And.intro ⟨pm_aw_of sh_l142 hkk1 hek1 (by decide), trivial⟩ ?_
  rw [pm_tn hek1 hkk1 (by decide)]
  exact h
theorem v_M_becomes {L d : Nat} {p1 : Int32} {p2 : Int32} {hi : pm_B} {Q : pm_Q} (h : ∃ k1 : Nat, k1 < 1611 ∧ p1 = nI k1 ∧ (∃ k2 : Nat, k2 < 1611 ∧ p1 = nI k2 ∧ (Q (some (.inl (hi 142 k1))) (pm_u hi 142 k2 p2)))) : pm_C pm_g (SH L) HR (d + 1) m_M_becomes [.inr 141, .inl p1, .inl p2] hi Q := by
  refine pm_C_of (maxL := 4) (t := pm_t143) rfl (Nat.le_of_ble_eq_true rfl) ?_
  refine pm_W_of 14 [] rfl ?_
  refine And.intro sh_l141 ?_
  rw [hr_141_0]
  obtain ⟨k1, hkk1, hek1, h⟩ := h
  refine And.intro (pm_ao_of (t := 0) sh_l142 hkk1 hek1 (by decide)) ?_
  rw [pm_tn hek1 hkk1 (by decide)]
  refine And.intro sh_l141 ?_
  rw [hr_141_0]
  obtain ⟨k2, hkk2, hek2, h⟩ := h
  refine And.intro ⟨pm_aw_of sh_l142 hkk2 hek2 (by decide), trivial⟩ ?_
  rw [pm_tn hek2 hkk2 (by decide)]
  refine And.intro trivial ?_
  exact h
theorem v_M_of {L d : Nat} {p1 : Int32} {p2 : Int32} {hi : pm_B} {Q : pm_Q} (h : ∃ k1 : Nat, k1 < 1611 ∧ ((7 + (29 * p1)) + p2) = nI k1 ∧ (Q (some (.inl (hi 142 k1))) hi)) : pm_C pm_g (SH L) HR (d + 1) m_M_of [.inr 141, .inl p1, .inl p2] hi Q := by
  refine pm_C_of (maxL := 3) (t := pm_t141) rfl (Nat.le_of_ble_eq_true rfl) ?_
  refine pm_W_of 13 [] rfl ?_
  refine And.intro sh_l141 ?_
  rw [hr_141_0]
  obtain ⟨k1, hkk1, hek1, h⟩ := h
  refine And.intro (pm_ao_of (t := 0) sh_l142 hkk1 hek1 (by decide)) ?_
  rw [pm_tn hek1 hkk1 (by decide)]
  refine And.intro trivial ?_
  exact h
theorem v_Speaker_wordAt {L d : Nat} {this : Nat} (h_this : pm_sk this) {p1 : Int32} {hi : pm_B} {Q : pm_Q} (h : ((p1 < 0) → Q (some (.inl (-1000000005))) hi) ∧ ((¬ (p1 < 0)) → (((hi this 4) ≤ p1) → Q (some (.inl (-1000000005))) hi) ∧ ((¬ ((hi this 4) ≤ p1)) → ((24 ≤ p1) → Q (some (.inl (-1000000005))) hi) ∧ ((¬ (24 ≤ p1)) → ∃ k4 : Nat, k4 < 24 ∧ p1 = nI k4 ∧ (Q (some (.inl (hi (this + 1) k4))) hi))))) : pm_C pm_g (SH L) HR (d + 1) m_Speaker_wordAt [.inr this, .inl p1] hi Q := by
  refine pm_C_of (maxL := 2) (t := pm_t63) rfl (Nat.le_of_ble_eq_true rfl) ?_
  refine pm_W_of 19 [] rfl ?_
  refine And.intro (fun c1 => ?_) (fun c1 => ?_)
  · replace h := h.1 c1
    refine And.intro trivial ?_
    exact h
  · replace h := h.2 c1
    refine And.intro (sh_sk h_this) ?_
    refine And.intro (fun c2 => ?_) (fun c2 => ?_)
    · replace h := h.1 c2
      refine And.intro trivial ?_
      exact h
    · replace h := h.2 c2
      refine And.intro (sh_sk h_this) ?_
      rw [(hr_sk h_this)]
      refine ⟨24, ⟨0, _, (sh_sk1 h_this)⟩, ?_⟩
      rw [show nI 24 = (24 : Int32) from rfl]
      refine And.intro (fun c3 => ?_) (fun c3 => ?_)
      · replace h := h.1 c3
        refine And.intro trivial ?_
        exact h
      · replace h := h.2 c3
        refine And.intro (sh_sk h_this) ?_
        rw [(hr_sk h_this)]
        obtain ⟨k4, hkk4, hek4, h⟩ := h
        refine And.intro (pm_ao_of (t := 0) (sh_sk1 h_this) hkk4 hek4 (by decide)) ?_
        rw [pm_tn hek4 hkk4 (by decide)]
        refine And.intro trivial ?_
        exact h
theorem v_Tape_byteAt {L d : Nat} {p1 : Int32} {hi : pm_B} {Q : pm_Q} (h : ((p1 < 0) → Q (some (.inl (-1))) hi) ∧ ((¬ (p1 < 0)) → (((hi 107 1) ≤ p1) → Q (some (.inl (-1))) hi) ∧ ((¬ ((hi 107 1) ≤ p1)) → ((96 ≤ p1) → Q (some (.inl (-1))) hi) ∧ ((¬ (96 ≤ p1)) → ∃ k4 : Nat, k4 < 96 ∧ p1 = nI k4 ∧ (Q (some (.inl (hi 108 k4))) hi))))) : pm_C pm_g (SH L) HR (d + 1) m_Tape_byteAt [.inr 107, .inl p1] hi Q := by
  refine pm_C_of (maxL := 2) (t := pm_t69) rfl (Nat.le_of_ble_eq_true rfl) ?_
  refine pm_W_of 19 [] rfl ?_
  refine And.intro (fun c1 => ?_) (fun c1 => ?_)
  · replace h := h.1 c1
    refine And.intro trivial ?_
    exact h
  · replace h := h.2 c1
    refine And.intro sh_l107 ?_
    refine And.intro (fun c2 => ?_) (fun c2 => ?_)
    · replace h := h.1 c2
      refine And.intro trivial ?_
      exact h
    · replace h := h.2 c2
      refine And.intro sh_l107 ?_
      rw [hr_107_0]
      refine ⟨96, ⟨0, _, sh_l108⟩, ?_⟩
      rw [show nI 96 = (96 : Int32) from rfl]
      refine And.intro (fun c3 => ?_) (fun c3 => ?_)
      · replace h := h.1 c3
        refine And.intro trivial ?_
        exact h
      · replace h := h.2 c3
        refine And.intro sh_l107 ?_
        rw [hr_107_0]
        obtain ⟨k4, hkk4, hek4, h⟩ := h
        refine And.intro (pm_ao_of (t := 0) sh_l108 hkk4 hek4 (by decide)) ?_
        rw [pm_tn hek4 hkk4 (by decide)]
        refine And.intro trivial ?_
        exact h
theorem v_Folk_lawOf {L d : Nat} {this : Nat} (h_this : pm_fo this) {p1 : Int32} {hi : pm_B} {Q : pm_Q} (h : ((p1 < 0) → Q (some (.inl (-1000000005))) hi) ∧ ((¬ (p1 < 0)) → ((3 ≤ p1) → Q (some (.inl (-1000000005))) hi) ∧ ((¬ (3 ≤ p1)) → ∃ k3 : Nat, k3 < 3 ∧ p1 = nI k3 ∧ (Q (some (.inl (hi (this + 18) k3))) hi)))) : pm_C pm_g (SH L) HR (d + 1) m_Folk_lawOf [.inr this, .inl p1] hi Q := by
  refine pm_C_of (maxL := 2) (t := pm_t7) rfl (Nat.le_of_ble_eq_true rfl) ?_
  refine pm_W_of 15 [] rfl ?_
  refine And.intro (fun c1 => ?_) (fun c1 => ?_)
  · replace h := h.1 c1
    refine And.intro trivial ?_
    exact h
  · replace h := h.2 c1
    refine And.intro (sh_fo h_this) ?_
    rw [(hr_fo9 h_this)]
    refine ⟨3, ⟨0, _, (sh_fo18 h_this)⟩, ?_⟩
    rw [show nI 3 = (3 : Int32) from rfl]
    refine And.intro (fun c2 => ?_) (fun c2 => ?_)
    · replace h := h.1 c2
      refine And.intro trivial ?_
      exact h
    · replace h := h.2 c2
      refine And.intro (sh_fo h_this) ?_
      rw [(hr_fo9 h_this)]
      obtain ⟨k3, hkk3, hek3, h⟩ := h
      refine And.intro (pm_ao_of (t := 0) (sh_fo18 h_this) hkk3 hek3 (by decide)) ?_
      rw [pm_tn hek3 hkk3 (by decide)]
      refine And.intro trivial ?_
      exact h
theorem v_Speaker_begin {L d : Nat} {this : Nat} (h_this : pm_sk this) {p1 : Int32} {p2 : Int32} {p3 : Int32} {hi : pm_B} {Q : pm_Q} (h : ∀ hi1 : pm_B, hi1 = pm_u (pm_u hi this 0 p1) this 1 p2 → (∀ hi2 : pm_B, hi2 = pm_u (pm_u hi1 this 2 p3) this 3 0 → (Q none (pm_u hi2 this 4 0)))) : pm_C pm_g (SH L) HR (d + 1) m_Speaker_begin [.inr this, .inl p1, .inl p2, .inl p3] hi Q := by
  refine pm_C_of (maxL := 4) (t := pm_t61) rfl (Nat.le_of_ble_eq_true rfl) ?_
  refine pm_W_of 18 [] rfl ?_
  refine And.intro ⟨(sh_sk h_this), trivial⟩ ?_
  refine And.intro ⟨(sh_sk h_this), trivial⟩ ?_
  obtain ⟨hi1, ehi1⟩ : ∃ m : pm_B, m = pm_u (pm_u hi this 0 p1) this 1 p2 := ⟨_, rfl⟩
  replace h := h hi1 ehi1
  rw [← ehi1]
  refine And.intro ⟨(sh_sk h_this), trivial⟩ ?_
  refine And.intro ⟨(sh_sk h_this), trivial⟩ ?_
  obtain ⟨hi2, ehi2⟩ : ∃ m : pm_B, m = pm_u (pm_u hi1 this 2 p3) this 3 0 := ⟨_, rfl⟩
  replace h := h hi2 ehi2
  rw [← ehi2]
  refine And.intro ⟨(sh_sk h_this), trivial⟩ ?_
  exact h
theorem v_Text_begin {L d : Nat} {this : Nat} (h_this : pm_tx this) {hi : pm_B} {Q : pm_Q} (h : ∀ hi1 : pm_B, hi1 = pm_u (pm_u hi this 0 0) this 1 0 → (Q none (pm_u hi1 this 2 0))) : pm_C pm_g (SH L) HR (d + 1) m_Text_begin [.inr this] hi Q := by
  refine pm_C_of (maxL := 1) (t := pm_t71) rfl (Nat.le_of_ble_eq_true rfl) ?_
  refine pm_W_of 12 [] rfl ?_
  refine And.intro ⟨(sh_tx h_this), trivial⟩ ?_
  refine And.intro ⟨(sh_tx h_this), trivial⟩ ?_
  obtain ⟨hi1, ehi1⟩ : ∃ m : pm_B, m = pm_u (pm_u hi this 0 0) this 1 0 := ⟨_, rfl⟩
  replace h := h hi1 ehi1
  rw [← ehi1]
  refine And.intro ⟨(sh_tx h_this), trivial⟩ ?_
  exact h
theorem v_Text_put {L d : Nat} {this : Nat} (h_this : pm_tx this) {p1 : Int32} {hi : pm_B} {Q : pm_Q} (h : (((hi this 2) < 0) → Q none hi) ∧ ((¬ ((hi this 2) < 0)) → (((hi this 2) < 96) → ∃ k3 : Nat, k3 < 96 ∧ (hi this 2) = nI k3 ∧ (∀ hi4 : pm_B, hi4 = pm_u (pm_u hi (this + 1) k3 p1) this 2 (((pm_u hi (this + 1) k3 p1) this 2) + 1) → (Q none hi4))) ∧ ((¬ ((hi this 2) < 96)) → Q none hi))) : pm_C pm_g (SH L) HR (d + 1) m_Text_put [.inr this, .inl p1] hi Q := by
  refine pm_C_of (maxL := 2) (t := pm_t72) rfl (Nat.le_of_ble_eq_true rfl) ?_
  refine pm_W_of 24 [] rfl ?_
  refine And.intro (sh_tx h_this) ?_
  refine And.intro (fun c1 => ?_) (fun c1 => ?_)
  · replace h := h.1 c1
    exact h
  · replace h := h.2 c1
    refine And.intro (sh_tx h_this) ?_
    refine And.intro (sh_tx h_this) ?_
    rw [(hr_tx h_this)]
    refine ⟨96, ⟨0, _, (sh_tx1 h_this)⟩, ?_⟩
    rw [show nI 96 = (96 : Int32) from rfl]
    refine And.intro (fun c2 => ?_) (fun c2 => ?_)
    · replace h := h.1 c2
      refine And.intro (sh_tx h_this) ?_
      rw [(hr_tx h_this)]
      refine And.intro (sh_tx h_this) ?_
      obtain ⟨k3, hkk3, hek3, h⟩ := h
      refine And.intro ⟨pm_aw_of (sh_tx1 h_this) hkk3 hek3 (by decide), trivial⟩ ?_
      rw [pm_tn hek3 hkk3 (by decide)]
      refine And.intro (sh_tx h_this) ?_
      refine And.intro ⟨(sh_tx h_this), trivial⟩ ?_
      obtain ⟨hi4, ehi4⟩ : ∃ m : pm_B, m = pm_u (pm_u hi (this + 1) k3 p1) this 2 (((pm_u hi (this + 1) k3 p1) this 2) + 1) := ⟨_, rfl⟩
      replace h := h hi4 ehi4
      rw [← ehi4]
      exact h
    · replace h := h.2 c2
      exact h
theorem v_Slot_holdSpeaker {L d : Nat} {this : Nat} (h_this : pm_su this) {p1 : Nat} (h_p1 : pm_sk p1) {hi : pm_B} {Q : pm_Q} (h : ∀ hi1 : pm_B, hi1 = pm_u (pm_u hi this 1 (hi p1 0)) this 2 ((pm_u hi this 1 (hi p1 0)) p1 2) → (Q none hi1)) : pm_C pm_g (SH L) HR (d + 1) m_Slot_holdSpeaker [.inr this, .inr p1] hi Q := by
  refine pm_C_of (maxL := 2) (t := pm_t59) rfl (Nat.le_of_ble_eq_true rfl) ?_
  refine pm_W_of 11 [] rfl ?_
  refine And.intro (sh_sk h_p1) ?_
  refine And.intro ⟨(sh_su h_this), trivial⟩ ?_
  refine And.intro (sh_sk h_p1) ?_
  refine And.intro ⟨(sh_su h_this), trivial⟩ ?_
  obtain ⟨hi1, ehi1⟩ : ∃ m : pm_B, m = pm_u (pm_u hi this 1 (hi p1 0)) this 2 ((pm_u hi this 1 (hi p1 0)) p1 2) := ⟨_, rfl⟩
  replace h := h hi1 ehi1
  rw [← ehi1]
  exact h
theorem v_M_comes {L d : Nat} {p1 : Int32} {p2 : Int32} {p3 : Int32} {hi : pm_B} {Q : pm_Q} (h : ∃ k1 : Nat, k1 < 1611 ∧ ((7 + (29 * (hi 142 1))) + 0) = nI k1 ∧ (∀ hi2 : pm_B, hi2 = pm_u (pm_u hi 142 1 ((hi 142 1) + 1)) 142 k1 p1 → (∃ k3 : Nat, k3 < 1611 ∧ ((7 + (29 * (hi 142 1))) + 1) = nI k3 ∧ (∀ hi4 : pm_B, hi4 = pm_u hi2 142 k3 p2 → (∃ k5 : Nat, k5 < 1611 ∧ ((7 + (29 * (hi 142 1))) + 2) = nI k5 ∧ (∀ hi6 : pm_B, hi6 = pm_u hi4 142 k5 p3 → (∃ k7 : Nat, k7 < 1611 ∧ ((7 + (29 * (hi 142 1))) + 3) = nI k7 ∧ (∀ hi8 : pm_B, hi8 = pm_u hi6 142 k7 0 → (∃ k9 : Nat, k9 < 1611 ∧ ((7 + (29 * (hi 142 1))) + 4) = nI k9 ∧ (∀ hi10 : pm_B, hi10 = pm_u hi8 142 k9 0 → (Q (some (.inl (hi 142 1))) hi10))))))))))) : pm_C pm_g (SH L) HR (d + 2) m_M_comes [.inr 141, .inl p1, .inl p2, .inl p3] hi Q := by
  refine pm_C_of (maxL := 5) (t := pm_t144) rfl (Nat.le_of_ble_eq_true rfl) ?_
  refine pm_W_of 42 [] rfl ?_
  refine And.intro sh_l141 ?_
  rw [hr_141_0]
  refine And.intro (pm_ao_of (t := 0) sh_l142 (by decide : 1 < 1611) (rfl : (1 : Int32) = nI 1) (by decide)) ?_
  rw [pm_tn (rfl : (1 : Int32) = nI 1) (by decide : 1 < 1611) (by decide)]
  refine And.intro sh_l141 ?_
  rw [hr_141_0]
  refine And.intro (pm_ao_of (t := 0) sh_l142 (by decide : 1 < 1611) (rfl : (1 : Int32) = nI 1) (by decide)) ?_
  rw [pm_tn (rfl : (1 : Int32) = nI 1) (by decide : 1 < 1611) (by decide)]
  refine And.intro ⟨pm_aw_of sh_l142 (by decide : 1 < 1611) (rfl : (1 : Int32) = nI 1) (by decide), trivial⟩ ?_
  rw [pm_tn (rfl : (1 : Int32) = nI 1) (by decide : 1 < 1611) (by decide)]
  refine And.intro sh_l141 ?_
  refine v_M_put (d := d)  ?_
  obtain ⟨k1, hkk1, hek1, h⟩ := h
  refine ⟨k1, hkk1, hek1, ?_⟩
  refine ⟨rfl, ?_⟩
  obtain ⟨hi2, ehi2⟩ : ∃ m : pm_B, m = pm_u (pm_u hi 142 1 ((hi 142 1) + 1)) 142 k1 p1 := ⟨_, rfl⟩
  replace h := h hi2 ehi2
  rw [← ehi2]
  refine And.intro sh_l141 ?_
  refine v_M_put (d := d)  ?_
  obtain ⟨k3, hkk3, hek3, h⟩ := h
  refine ⟨k3, hkk3, hek3, ?_⟩
  refine ⟨rfl, ?_⟩
  obtain ⟨hi4, ehi4⟩ : ∃ m : pm_B, m = pm_u hi2 142 k3 p2 := ⟨_, rfl⟩
  replace h := h hi4 ehi4
  rw [← ehi4]
  refine And.intro sh_l141 ?_
  refine v_M_put (d := d)  ?_
  obtain ⟨k5, hkk5, hek5, h⟩ := h
  refine ⟨k5, hkk5, hek5, ?_⟩
  refine ⟨rfl, ?_⟩
  obtain ⟨hi6, ehi6⟩ : ∃ m : pm_B, m = pm_u hi4 142 k5 p3 := ⟨_, rfl⟩
  replace h := h hi6 ehi6
  rw [← ehi6]
  refine And.intro sh_l141 ?_
  refine v_M_put (d := d)  ?_
  obtain ⟨k7, hkk7, hek7, h⟩ := h
  refine ⟨k7, hkk7, hek7, ?_⟩
  refine ⟨rfl, ?_⟩
  obtain ⟨hi8, ehi8⟩ : ∃ m : pm_B, m = pm_u hi6 142 k7 0 := ⟨_, rfl⟩
  replace h := h hi8 ehi8
  rw [← ehi8]
  refine And.intro sh_l141 ?_
  refine v_M_put (d := d)  ?_
  obtain ⟨k9, hkk9, hek9, h⟩ := h
  refine ⟨k9, hkk9, hek9, ?_⟩
  refine ⟨rfl, ?_⟩
  obtain ⟨hi10, ehi10⟩ : ∃ m : pm_B, m = pm_u hi8 142 k9 0 := ⟨_, rfl⟩
  replace h := h hi10 ehi10
  rw [← ehi10]
  refine And.intro trivial ?_
  exact h
theorem v_M_speaksOne {L d : Nat} {p1 : Int32} {hi : pm_B} {Q : pm_Q} (h : ((p1 < 0) → Q none hi) ∧ ((¬ (p1 < 0)) → ∃ k2 : Nat, k2 < 12 ∧ (hi 141 5) = nI k2 ∧ (∀ hi3 : pm_B, hi3 = pm_u (pm_u hi 145 k2 p1) 141 5 (((pm_u hi 145 k2 p1) 141 5) + 1) → (Q none hi3)))) : pm_C pm_g (SH L) HR (d + 1) m_M_speaksOne [.inr 141, .inl p1] hi Q := by
  refine pm_C_of (maxL := 2) (t := pm_t160) rfl (Nat.le_of_ble_eq_true rfl) ?_
  refine pm_W_of 17 [] rfl ?_
  refine And.intro (fun c1 => ?_) (fun c1 => ?_)
  · replace h := h.1 c1
    exact h
  · replace h := h.2 c1
    refine And.intro sh_l141 ?_
    rw [hr_141_4]
    refine And.intro sh_l141 ?_
    obtain ⟨k2, hkk2, hek2, h⟩ := h
    refine And.intro ⟨pm_aw_of sh_l145 hkk2 hek2 (by decide), trivial⟩ ?_
    rw [pm_tn hek2 hkk2 (by decide)]
    refine And.intro sh_l141 ?_
    refine And.intro ⟨sh_l141, trivial⟩ ?_
    obtain ⟨hi3, ehi3⟩ : ∃ m : pm_B, m = pm_u (pm_u hi 145 k2 p1) 141 5 (((pm_u hi 145 k2 p1) 141 5) + 1) := ⟨_, rfl⟩
    replace h := h hi3 ehi3
    rw [← ehi3]
    exact h
theorem v_Folk_takeLaw {L d : Nat} {this : Nat} (h_this : pm_fo this) {p1 : Int32} {hi : pm_B} {Q : pm_Q} (h : ((p1 < 0) → Q none hi) ∧ ((¬ (p1 < 0)) → ((p1 < 3) → ∃ k3 : Nat, k3 < 3 ∧ p1 = nI k3 ∧ (∀ hi4 : pm_B, hi4 = pm_u (pm_u hi (this + 18) k3 (hi this 8)) this 8 (((pm_u hi (this + 18) k3 (hi this 8)) this 8) + 1) → (Q none hi4))) ∧ ((¬ (p1 < 3)) → Q none hi))) : pm_C pm_g (SH L) HR (d + 1) m_Folk_takeLaw [.inr this, .inl p1] hi Q := by
  refine pm_C_of (maxL := 2) (t := pm_t8) rfl (Nat.le_of_ble_eq_true rfl) ?_
  refine pm_W_of 22 [] rfl ?_
  refine And.intro (fun c1 => ?_) (fun c1 => ?_)
  · replace h := h.1 c1
    exact h
  · replace h := h.2 c1
    refine And.intro (sh_fo h_this) ?_
    rw [(hr_fo9 h_this)]
    refine ⟨3, ⟨0, _, (sh_fo18 h_this)⟩, ?_⟩
    rw [show nI 3 = (3 : Int32) from rfl]
    refine And.intro (fun c2 => ?_) (fun c2 => ?_)
    · replace h := h.1 c2
      refine And.intro (sh_fo h_this) ?_
      rw [(hr_fo9 h_this)]
      refine And.intro (sh_fo h_this) ?_
      obtain ⟨k3, hkk3, hek3, h⟩ := h
      refine And.intro ⟨pm_aw_of (sh_fo18 h_this) hkk3 hek3 (by decide), trivial⟩ ?_
      rw [pm_tn hek3 hkk3 (by decide)]
      refine And.intro (sh_fo h_this) ?_
      refine And.intro ⟨(sh_fo h_this), trivial⟩ ?_
      obtain ⟨hi4, ehi4⟩ : ∃ m : pm_B, m = pm_u (pm_u hi (this + 18) k3 (hi this 8)) this 8 (((pm_u hi (this + 18) k3 (hi this 8)) this 8) + 1) := ⟨_, rfl⟩
      replace h := h hi4 ehi4
      rw [← ehi4]
      exact h
    · replace h := h.2 c2
      exact h
theorem v_Parser_fail {L d : Nat}  {hi : pm_B} {Q : pm_Q} (h : ((¬ (hi 109 7) = (-1000000005)) → Q none (pm_u hi 109 2 4)) ∧ ((¬ (¬ (hi 109 7) = (-1000000005))) → ∀ hi2 : pm_B, hi2 = pm_u (pm_u hi 109 7 (hi 109 3)) 109 2 4 → (Q none hi2))) : pm_C pm_g (SH L) HR (d + 1) m_Parser_fail [.inr 109] hi Q := by
  refine pm_C_of (maxL := 1) (t := pm_t29) rfl (Nat.le_of_ble_eq_true rfl) ?_
  refine pm_W_of 14 [] rfl ?_
  refine And.intro sh_l109 ?_
  refine And.intro (fun c1 => ?_) (fun c1 => ?_)
  · replace h := h.1 c1
    refine And.intro ⟨sh_l109, trivial⟩ ?_
    exact h
  · replace h := h.2 c1
    refine And.intro sh_l109 ?_
    refine And.intro ⟨sh_l109, trivial⟩ ?_
    refine And.intro ⟨sh_l109, trivial⟩ ?_
    obtain ⟨hi2, ehi2⟩ : ∃ m : pm_B, m = pm_u (pm_u hi 109 7 (hi 109 3)) 109 2 4 := ⟨_, rfl⟩
    replace h := h hi2 ehi2
    rw [← ehi2]
    exact h
theorem v_E_isTold {L d : Nat} {p1 : Int32} {p2 : Int32} {p3 : Int32} {hi : pm_B} {Q : pm_Q} (h : ((p1 < 0) → Q (some (.inl 0)) hi) ∧ ((¬ (p1 < 0)) → ((p2 ≤ p1) → Q (some (.inl 0)) hi) ∧ ((¬ (p2 ≤ p1)) → ((60 ≤ p1) → Q (some (.inl 0)) hi) ∧ ((¬ (60 ≤ p1)) → ∃ k4 : Nat, k4 < 60 ∧ p1 = nI k4 ∧ (((¬ (hi 140 k4) = p3) → Q (some (.inl 0)) hi) ∧ ((¬ (¬ (hi 140 k4) = p3)) → Q (some (.inl 1)) hi)))))) : pm_C pm_g (SH L) HR (d + 1) m_E_isTold [.inr 16, .inl p1, .inl p2, .inl p3] hi Q := by
  refine pm_C_of (maxL := 4) (t := pm_t134) rfl (Nat.le_of_ble_eq_true rfl) ?_
  refine pm_W_of 21 [] rfl ?_
  refine And.intro (fun c1 => ?_) (fun c1 => ?_)
  · replace h := h.1 c1
    refine And.intro (Or.inl rfl) ?_
    exact h
  · replace h := h.2 c1
    refine And.intro (fun c2 => ?_) (fun c2 => ?_)
    · replace h := h.1 c2
      refine And.intro (Or.inl rfl) ?_
      exact h
    · replace h := h.2 c2
      refine And.intro sh_l16 ?_
      rw [hr_16_11]
      refine ⟨60, ⟨0, _, sh_l140⟩, ?_⟩
      rw [show nI 60 = (60 : Int32) from rfl]
      refine And.intro (fun c3 => ?_) (fun c3 => ?_)
      · replace h := h.1 c3
        refine And.intro (Or.inl rfl) ?_
        exact h
      · replace h := h.2 c3
        refine And.intro sh_l16 ?_
        rw [hr_16_11]
        obtain ⟨k4, hkk4, hek4, h⟩ := h
        refine And.intro (pm_ao_of (t := 0) sh_l140 hkk4 hek4 (by decide)) ?_
        rw [pm_tn hek4 hkk4 (by decide)]
        refine And.intro (fun c5 => ?_) (fun c5 => ?_)
        · replace h := h.1 c5
          refine And.intro (Or.inl rfl) ?_
          exact h
        · replace h := h.2 c5
          refine And.intro (Or.inr rfl) ?_
          exact h
theorem v_String_coder {L d : Nat} {this : Nat} (h_this : pm_sr this) {hi : pm_B} {Q : pm_Q} (h : pm_fit 1 (hi this 1) ∧ (Q (some (.inl (hi this 1))) hi)) : pm_C pm_g (SH L) HR (d + 1) m_String_coder [.inr this] hi Q := by
  refine pm_C_of (maxL := 1) (t := pm_t236) rfl (Nat.le_of_ble_eq_true rfl) ?_
  refine pm_W_of 8 [] rfl ?_
  refine And.intro (fun hc => absurd hc (pm_cd_f (by decide))) (fun _ => ?_)
  refine And.intro (sh_sr h_this) ?_
  refine And.intro h.1 ?_
  replace h := h.2
  exact h
theorem v_String_isLatin1 {L d : Nat} {this : Nat} (h_this : pm_sr this) {hi : pm_B} {Q : pm_Q} (h : ((¬ (hi this 1) = 0) → Q (some (.inl 0)) hi) ∧ ((¬ (¬ (hi this 1) = 0)) → Q (some (.inl 1)) hi)) : pm_C pm_g (SH L) HR (d + 1) m_String_isLatin1 [.inr this] hi Q := by
  refine pm_C_of (maxL := 1) (t := pm_t237) rfl (Nat.le_of_ble_eq_true rfl) ?_
  refine pm_W_of 10 [] rfl ?_
  refine And.intro (fun hc => absurd hc (pm_cd_f (by decide))) (fun _ => ?_)
  refine And.intro (sh_sr h_this) ?_
  refine And.intro (fun c1 => ?_) (fun c1 => ?_)
  · replace h := h.1 c1
    refine And.intro (Or.inl rfl) ?_
    exact h
  · replace h := h.2 c1
    refine And.intro (Or.inr rfl) ?_
    exact h
theorem v_String_length {L d : Nat} {this : Nat} (h_this : pm_sr this) {hi : pm_B} {Q : pm_Q} (h : pm_fit 1 (hi this 1) ∧ (Q (some (.inl ((nI (slen this)) >>> ((hi this 1) &&& 31)))) hi)) : pm_C pm_g (SH L) HR (d + 2) m_String_length [.inr this] hi Q := by
  refine pm_C_of (maxL := 1) (t := pm_t232) rfl (Nat.le_of_ble_eq_true rfl) ?_
  refine pm_W_of 9 [] rfl ?_
  refine And.intro (sh_sr h_this) ?_
  rw [(hr_sr h_this)]
  refine ⟨(slen this), ⟨1, _, (sh_sr6 h_this)⟩, ?_⟩
  refine And.intro (sh_sr h_this) ?_
  refine v_String_coder (d := d) h_this ?_
  refine And.intro h.1 ?_
  replace h := h.2
  refine ⟨_, rfl, ?_⟩
  refine And.intro trivial ?_
  exact h
theorem v_Preconditions_checkIndex {L d : Nat} {p1 : Int32} {p2 : Int32} {hi : pm_B} {Q : pm_Q} (h : ((p1 < 0) → False) ∧ ((¬ (p1 < 0)) → ((p1 < p2) → Q (some (.inl p1)) hi) ∧ ((¬ (p1 < p2)) → False))) : pm_C pm_g (SH L) HR (d + 1) m_Preconditions_checkIndex [.inl p1, .inl p2, .inr 15] hi Q := by
  refine pm_C_of (maxL := 3) (t := pm_t244) rfl (Nat.le_of_ble_eq_true rfl) ?_
  refine pm_W_of 11 [] rfl ?_
  refine And.intro (fun c1 => ?_) (fun c1 => ?_)
  · replace h := h.1 c1
    exact h.elim
  · replace h := h.2 c1
    refine And.intro (fun c2 => ?_) (fun c2 => ?_)
    · replace h := h.1 c2
      refine And.intro trivial ?_
      exact h
    · replace h := h.2 c2
      exact h.elim
theorem v_String_checkIndex {L d : Nat} {p1 : Int32} {p2 : Int32} {hi : pm_B} {Q : pm_Q} (h : ((p1 < 0) → False) ∧ ((¬ (p1 < 0)) → ((p1 < p2) → Q none hi) ∧ ((¬ (p1 < p2)) → False))) : pm_C pm_g (SH L) HR (d + 2) m_String_checkIndex [.inl p1, .inl p2] hi Q := by
  refine pm_C_of (maxL := 2) (t := pm_t238) rfl (Nat.le_of_ble_eq_true rfl) ?_
  refine pm_W_of 11 [] rfl ?_
  refine And.intro trivial ?_
  refine v_Preconditions_checkIndex (d := d)  ?_
  refine And.intro (fun c1 => ?_) (fun c1 => ?_)
  · replace h := h.1 c1
    exact h.elim
  · replace h := h.2 c1
    refine And.intro (fun c2 => ?_) (fun c2 => ?_)
    · replace h := h.1 c2
      refine ⟨_, rfl, ?_⟩
      exact h
    · replace h := h.2 c2
      exact h.elim
theorem v_StringLatin1_charAt {L d : Nat} {p1 n_p1 : Nat} (h_p1 : (SH L)[p1]? = some (2, 1, n_p1)) (hl_p1 : n_p1 ≤ 2147483648) {p2 : Int32} {hi : pm_B} {Q : pm_Q} (h : ((p2 < 0) → False) ∧ ((¬ (p2 < 0)) → ((p2 < (nI n_p1)) → ∃ k3 : Nat, k3 < n_p1 ∧ p2 = nI k3 ∧ (pm_fit 2 ((Int32.toUInt32 ((hi p1 k3) &&& 255) % 65536).toInt32) ∧ (Q (some (.inl (Int32.toUInt32 ((hi p1 k3) &&& 255) % 65536).toInt32)) hi))) ∧ ((¬ (p2 < (nI n_p1))) → False))) : pm_C pm_g (SH L) HR (d + 3) m_StringLatin1_charAt [.inr p1, .inl p2] hi Q := by
  refine pm_C_of (maxL := 2) (t := pm_t240) rfl (Nat.le_of_ble_eq_true rfl) ?_
  refine pm_W_of 13 [] rfl ?_
  refine ⟨n_p1, ⟨1, _, h_p1⟩, ?_⟩
  refine And.intro trivial ?_
  refine v_String_checkIndex (d := d)  ?_
  refine And.intro (fun c1 => ?_) (fun c1 => ?_)
  · replace h := h.1 c1
    exact h.elim
  · replace h := h.2 c1
    refine And.intro (fun c2 => ?_) (fun c2 => ?_)
    · replace h := h.1 c2
      refine ⟨rfl, ?_⟩
      obtain ⟨k3, hkk3, hek3, h⟩ := h
      refine And.intro (pm_ao_of (t := 1) h_p1 hkk3 hek3 hl_p1) ?_
      rw [pm_tn hek3 hkk3 hl_p1]
      refine And.intro h.1 ?_
      replace h := h.2
      exact h
    · replace h := h.2 c2
      exact h.elim
theorem v_String_charAt {L d : Nat} {this : Nat} (h_this : pm_sr this) {p1 : Int32} {hi : pm_B} {Q : pm_Q} (h : ((¬ (hi this 1) = 0) → False) ∧ ((¬ (¬ (hi this 1) = 0)) → ((p1 < 0) → False) ∧ ((¬ (p1 < 0)) → ((p1 < (nI (slen this))) → ∃ k4 : Nat, k4 < (slen this) ∧ p1 = nI k4 ∧ (pm_fit 2 ((Int32.toUInt32 ((hi (this + 6) k4) &&& 255) % 65536).toInt32) ∧ (pm_fit 2 ((Int32.toUInt32 ((hi (this + 6) k4) &&& 255) % 65536).toInt32) ∧ (Q (some (.inl (Int32.toUInt32 ((hi (this + 6) k4) &&& 255) % 65536).toInt32)) hi)))) ∧ ((¬ (p1 < (nI (slen this)))) → False)))) : pm_C pm_g (SH L) HR (d + 4) m_String_charAt [.inr this, .inl p1] hi Q := by
  refine pm_C_of (maxL := 2) (t := pm_t233) rfl (Nat.le_of_ble_eq_true rfl) ?_
  refine pm_W_of 13 [] rfl ?_
  refine And.intro (sh_sr h_this) ?_
  refine v_String_isLatin1 (d := d + 2) h_this ?_
  refine And.intro (fun c1 => ?_) (fun c1 => ?_)
  · replace h := h.1 c1
    refine ⟨_, rfl, ?_⟩
    refine And.intro (fun _ => ?_) (fun hc => absurd (pm_cd_t (by decide)) hc)
    refine And.intro (sh_sr h_this) ?_
    rw [(hr_sr h_this)]
    exact h.elim
  · replace h := h.2 c1
    refine ⟨_, rfl, ?_⟩
    refine And.intro (fun hc => absurd hc (pm_cd_f (by decide))) (fun _ => ?_)
    refine And.intro (sh_sr h_this) ?_
    rw [(hr_sr h_this)]
    refine And.intro trivial ?_
    refine v_StringLatin1_charAt (d := d) (sh_sr6 h_this) (slen_lt h_this) ?_
    refine And.intro (fun c2 => ?_) (fun c2 => ?_)
    · replace h := h.1 c2
      exact h.elim
    · replace h := h.2 c2
      refine And.intro (fun c3 => ?_) (fun c3 => ?_)
      · replace h := h.1 c3
        obtain ⟨k4, hkk4, hek4, h⟩ := h
        refine ⟨k4, hkk4, hek4, ?_⟩
        refine And.intro h.1 ?_
        replace h := h.2
        refine ⟨_, rfl, ?_⟩
        refine And.intro h.1 ?_
        replace h := h.2
        exact h
      · replace h := h.2 c3
        exact h.elim
theorem v_StringLatin1_canEncode {L d : Nat} {p1 : Int32} {hi : pm_B} {Q : pm_Q} (h : ((p1 < 0) → Q (some (.inl 0)) hi) ∧ ((¬ (p1 < 0)) → ((255 < p1) → Q (some (.inl 0)) hi) ∧ ((¬ (255 < p1)) → Q (some (.inl 1)) hi))) : pm_C pm_g (SH L) HR (d + 1) m_StringLatin1_canEncode [.inl p1] hi Q := by
  refine pm_C_of (maxL := 1) (t := pm_t241) rfl (Nat.le_of_ble_eq_true rfl) ?_
  refine pm_W_of 10 [] rfl ?_
  refine And.intro (fun c1 => ?_) (fun c1 => ?_)
  · replace h := h.1 c1
    refine And.intro (Or.inl rfl) ?_
    exact h
  · replace h := h.2 c1
    refine And.intro (fun c2 => ?_) (fun c2 => ?_)
    · replace h := h.1 c2
      refine And.intro (Or.inl rfl) ?_
      exact h
    · replace h := h.2 c2
      refine And.intro (Or.inr rfl) ?_
      exact h
theorem v_Parser_namesOf {L d : Nat} {p1 : Int32} {hi : pm_B} {Q : pm_Q} (h : ((p1 = 0) → Q (some (.inr 6)) hi) ∧ ((¬ p1 = 0) → ((p1 = 1) → Q (some (.inr 7)) hi) ∧ ((¬ p1 = 1) → Q (some (.inr 8)) hi))) : pm_C pm_g (SH L) HR (d + 1) m_Parser_namesOf [.inl p1] hi Q := by
  refine pm_C_of (maxL := 1) (t := pm_t43) rfl (Nat.le_of_ble_eq_true rfl) ?_
  refine pm_W_of 6 [] rfl ?_
  intro pc1 hsw
  by_cases c1 : p1 = 0
  · rw [pm_sw_t c1] at hsw
    subst hsw
    replace h := h.1 c1
    exact h
  · rw [pm_sw_f c1] at hsw
    replace h := h.2 c1
    by_cases c2 : p1 = 1
    · rw [pm_sw_t c2] at hsw
      subst hsw
      replace h := h.1 c2
      exact h
    · rw [pm_sw_f c2] at hsw
      replace h := h.2 c2
      replace hsw : 34 = pc1 := hsw
      subst hsw
      exact h
end
section
/-! printed by program (wip/whole/vcg.py): what each method needs -/
theorem v_Folk_become {L d : Nat} {this : Nat} (h_this : pm_fo this) {p1 : Nat} (h_p1 : pm_fo p1) {hi : pm_B} {Q : pm_Q} (h : pm_W pm_g (SH L) HR (d) pm_t1 10 [some (.inr this), some (.inr p1), some (.inl 0)] [] (pm_u hi this 2 (hi p1 2)) Q) : pm_C pm_g (SH L) HR (d + 1) m_Folk_become [.inr this, .inr p1] hi Q := by
  refine pm_C_of (maxL := 3) (t := pm_t1) rfl (Nat.le_of_ble_eq_true rfl) ?_
  refine pm_W_of 8 [10, 98] rfl ?_
  refine And.intro (sh_fo h_p1) ?_
  refine And.intro ⟨(sh_fo h_this), trivial⟩ ?_
  exact h
theorem v_Folk_become_10 {L d : Nat}  {this : Nat} (h_this : pm_fo this) {p1 : Nat} (h_p1 : pm_fo p1) {y2 : Int32} {hi : pm_B} {Q : pm_Q} (h : (((hi this 2) ≤ y2) → ∀ hi2 : pm_B, hi2 = pm_u (pm_u hi this 3 (hi p1 3)) this 4 ((pm_u hi this 3 (hi p1 3)) p1 4) → (∀ hi3 : pm_B, hi3 = pm_u (pm_u hi2 this 5 (hi2 p1 5)) this 6 ((pm_u hi2 this 5 (hi2 p1 5)) p1 6) → (∀ hi4 : pm_B, hi4 = pm_u (pm_u hi3 this 7 (hi3 p1 7)) this 8 ((pm_u hi3 this 7 (hi3 p1 7)) p1 8) → (pm_W pm_g (SH L) HR (d) pm_t1 98 [some (.inr this), some (.inr p1), some (.inl 0)] [] hi4 Q)))) ∧ ((¬ ((hi this 2) ≤ y2)) → ((8 ≤ y2) → ∀ hi6 : pm_B, hi6 = pm_u (pm_u hi this 3 (hi p1 3)) this 4 ((pm_u hi this 3 (hi p1 3)) p1 4) → (∀ hi7 : pm_B, hi7 = pm_u (pm_u hi6 this 5 (hi6 p1 5)) this 6 ((pm_u hi6 this 5 (hi6 p1 5)) p1 6) → (∀ hi8 : pm_B, hi8 = pm_u (pm_u hi7 this 7 (hi7 p1 7)) this 8 ((pm_u hi7 this 7 (hi7 p1 7)) p1 8) → (pm_W pm_g (SH L) HR (d) pm_t1 98 [some (.inr this), some (.inr p1), some (.inl 0)] [] hi8 Q)))) ∧ ((¬ (8 ≤ y2)) → ∃ k9 : Nat, k9 < 8 ∧ y2 = nI k9 ∧ (∃ k10 : Nat, k10 < 8 ∧ y2 = nI k10 ∧ (pm_C pm_g (SH L) HR (d) m_Speaker_become [.inr (this + 2 + 2 * k9), .inr (p1 + 2 + 2 * k10)] hi (fun v hi11 => v = none ∧ (pm_W pm_g (SH L) HR (d) pm_t1 10 [some (.inr this), some (.inr p1), some (.inl (y2 + 1))] [] hi11 Q))))))) : pm_W pm_g (SH L) HR (d) pm_t1 10 [some (.inr this), some (.inr p1), some (.inl y2)] [] hi Q := by
  refine pm_W_of 37 [10, 98] rfl ?_
  refine And.intro (sh_fo h_this) ?_
  refine And.intro (fun c1 => ?_) (fun c1 => ?_)
  · replace h := h.1 c1
    refine And.intro (sh_fo h_p1) ?_
    refine And.intro ⟨(sh_fo h_this), trivial⟩ ?_
    refine And.intro (sh_fo h_p1) ?_
    refine And.intro ⟨(sh_fo h_this), trivial⟩ ?_
    obtain ⟨hi2, ehi2⟩ : ∃ m : pm_B, m = pm_u (pm_u hi this 3 (hi p1 3)) this 4 ((pm_u hi this 3 (hi p1 3)) p1 4) := ⟨_, rfl⟩
    replace h := h hi2 ehi2
    rw [← ehi2]
    refine And.intro (sh_fo h_p1) ?_
    refine And.intro ⟨(sh_fo h_this), trivial⟩ ?_
    refine And.intro (sh_fo h_p1) ?_
    refine And.intro ⟨(sh_fo h_this), trivial⟩ ?_
    obtain ⟨hi3, ehi3⟩ : ∃ m : pm_B, m = pm_u (pm_u hi2 this 5 (hi2 p1 5)) this 6 ((pm_u hi2 this 5 (hi2 p1 5)) p1 6) := ⟨_, rfl⟩
    replace h := h hi3 ehi3
    rw [← ehi3]
    refine And.intro (sh_fo h_p1) ?_
    refine And.intro ⟨(sh_fo h_this), trivial⟩ ?_
    refine And.intro (sh_fo h_p1) ?_
    refine And.intro ⟨(sh_fo h_this), trivial⟩ ?_
    obtain ⟨hi4, ehi4⟩ : ∃ m : pm_B, m = pm_u (pm_u hi3 this 7 (hi3 p1 7)) this 8 ((pm_u hi3 this 7 (hi3 p1 7)) p1 8) := ⟨_, rfl⟩
    replace h := h hi4 ehi4
    rw [← ehi4]
    exact h
  · replace h := h.2 c1
    refine And.intro (sh_fo h_this) ?_
    rw [(hr_fo1 h_this)]
    refine ⟨8, ⟨0, _, (sh_fo1 h_this)⟩, ?_⟩
    rw [show nI 8 = (8 : Int32) from rfl]
    refine And.intro (fun c5 => ?_) (fun c5 => ?_)
    · replace h := h.1 c5
      refine And.intro (sh_fo h_p1) ?_
      refine And.intro ⟨(sh_fo h_this), trivial⟩ ?_
      refine And.intro (sh_fo h_p1) ?_
      refine And.intro ⟨(sh_fo h_this), trivial⟩ ?_
      obtain ⟨hi6, ehi6⟩ : ∃ m : pm_B, m = pm_u (pm_u hi this 3 (hi p1 3)) this 4 ((pm_u hi this 3 (hi p1 3)) p1 4) := ⟨_, rfl⟩
      replace h := h hi6 ehi6
      rw [← ehi6]
      refine And.intro (sh_fo h_p1) ?_
      refine And.intro ⟨(sh_fo h_this), trivial⟩ ?_
      refine And.intro (sh_fo h_p1) ?_
      refine And.intro ⟨(sh_fo h_this), trivial⟩ ?_
      obtain ⟨hi7, ehi7⟩ : ∃ m : pm_B, m = pm_u (pm_u hi6 this 5 (hi6 p1 5)) this 6 ((pm_u hi6 this 5 (hi6 p1 5)) p1 6) := ⟨_, rfl⟩
      replace h := h hi7 ehi7
      rw [← ehi7]
      refine And.intro (sh_fo h_p1) ?_
      refine And.intro ⟨(sh_fo h_this), trivial⟩ ?_
      refine And.intro (sh_fo h_p1) ?_
      refine And.intro ⟨(sh_fo h_this), trivial⟩ ?_
      obtain ⟨hi8, ehi8⟩ : ∃ m : pm_B, m = pm_u (pm_u hi7 this 7 (hi7 p1 7)) this 8 ((pm_u hi7 this 7 (hi7 p1 7)) p1 8) := ⟨_, rfl⟩
      replace h := h hi8 ehi8
      rw [← ehi8]
      exact h
    · replace h := h.2 c5
      refine And.intro (sh_fo h_this) ?_
      rw [(hr_fo1 h_this)]
      obtain ⟨k9, hkk9, hek9, h⟩ := h
      refine And.intro (pm_ao_of (t := 0) (sh_fo1 h_this) hkk9 hek9 (by decide)) ?_
      rw [pm_tn hek9 hkk9 (by decide)]
      rw [(hr_sp h_this hkk9)]
      refine And.intro (sh_fo h_p1) ?_
      rw [(hr_fo1 h_p1)]
      obtain ⟨k10, hkk10, hek10, h⟩ := h
      refine And.intro (pm_ao_of (t := 0) (sh_fo1 h_p1) hkk10 hek10 (by decide)) ?_
      rw [pm_tn hek10 hkk10 (by decide)]
      rw [(hr_sp h_p1 hkk10)]
      refine And.intro (sh_sk (sk_of h_this hkk9)) ?_
      refine pm_C_imp h (fun v hi11 h => ?_)
      obtain ⟨rfl, h⟩ := h
      refine ⟨rfl, ?_⟩
      exact h
theorem v_Folk_become_98 {L d : Nat}  {this : Nat} (h_this : pm_fo this) {p1 : Nat} (h_p1 : pm_fo p1) {y2 : Int32} {hi : pm_B} {Q : pm_Q} (h : ((3 ≤ y2) → Q none hi) ∧ ((¬ (3 ≤ y2)) → ∃ k2 : Nat, k2 < 3 ∧ y2 = nI k2 ∧ (∃ k3 : Nat, k3 < 3 ∧ y2 = nI k3 ∧ (pm_W pm_g (SH L) HR (d) pm_t1 98 [some (.inr this), some (.inr p1), some (.inl (y2 + 1))] [] (pm_u hi (this + 18) k3 (hi (p1 + 18) k2)) Q)))) : pm_W pm_g (SH L) HR (d) pm_t1 98 [some (.inr this), some (.inr p1), some (.inl y2)] [] hi Q := by
  refine pm_W_of 17 [10, 98] rfl ?_
  refine And.intro (sh_fo h_this) ?_
  rw [(hr_fo9 h_this)]
  refine ⟨3, ⟨0, _, (sh_fo18 h_this)⟩, ?_⟩
  rw [show nI 3 = (3 : Int32) from rfl]
  refine And.intro (fun c1 => ?_) (fun c1 => ?_)
  · replace h := h.1 c1
    exact h
  · replace h := h.2 c1
    refine And.intro (sh_fo h_this) ?_
    rw [(hr_fo9 h_this)]
    refine And.intro (sh_fo h_p1) ?_
    rw [(hr_fo9 h_p1)]
    obtain ⟨k2, hkk2, hek2, h⟩ := h
    refine And.intro (pm_ao_of (t := 0) (sh_fo18 h_p1) hkk2 hek2 (by decide)) ?_
    rw [pm_tn hek2 hkk2 (by decide)]
    obtain ⟨k3, hkk3, hek3, h⟩ := h
    refine And.intro ⟨pm_aw_of (sh_fo18 h_this) hkk3 hek3 (by decide), trivial⟩ ?_
    rw [pm_tn hek3 hkk3 (by decide)]
    exact h
theorem v_Folk_enter {L d : Nat} {this : Nat} (h_this : pm_fo this) {p1 : Int32} {p2 : Int32} {p3 : Int32} {hi : pm_B} {Q : pm_Q} (h : (((hi this 2) < 0) → Q none hi) ∧ ((¬ ((hi this 2) < 0)) → ((8 ≤ (hi this 2)) → Q none hi) ∧ ((¬ (8 ≤ (hi this 2))) → ∃ k3 : Nat, k3 < 8 ∧ (hi this 2) = nI k3 ∧ (∀ hi4 : pm_B, hi4 = pm_u (pm_u hi (this + 2 + 2 * k3) 0 p1) (this + 2 + 2 * k3) 1 p2 → (∀ hi5 : pm_B, hi5 = pm_u (pm_u hi4 (this + 2 + 2 * k3) 2 p3) (this + 2 + 2 * k3) 3 0 → (∀ hi6 : pm_B, hi6 = pm_u hi5 (this + 2 + 2 * k3) 4 0 → (Q none (pm_u hi6 this 2 ((hi6 this 2) + 1))))))))) : pm_C pm_g (SH L) HR (d + 2) m_Folk_enter [.inr this, .inl p1, .inl p2, .inl p3] hi Q := by
  refine pm_C_of (maxL := 4) (t := pm_t4) rfl (Nat.le_of_ble_eq_true rfl) ?_
  refine pm_W_of 21 [] rfl ?_
  refine And.intro (sh_fo h_this) ?_
  refine v_Folk_hasRoom (d := d) h_this ?_
  refine And.intro (fun c1 => ?_) (fun c1 => ?_)
  · replace h := h.1 c1
    refine ⟨_, rfl, ?_⟩
    refine And.intro (fun hc => absurd hc (pm_cd_f (by decide))) (fun _ => ?_)
    exact h
  · replace h := h.2 c1
    refine And.intro (fun c2 => ?_) (fun c2 => ?_)
    · replace h := h.1 c2
      refine ⟨_, rfl, ?_⟩
      refine And.intro (fun hc => absurd hc (pm_cd_f (by decide))) (fun _ => ?_)
      exact h
    · replace h := h.2 c2
      refine ⟨_, rfl, ?_⟩
      refine And.intro (fun _ => ?_) (fun hc => absurd (pm_cd_t (by decide)) hc)
      refine And.intro (sh_fo h_this) ?_
      rw [(hr_fo1 h_this)]
      refine And.intro (sh_fo h_this) ?_
      obtain ⟨k3, hkk3, hek3, h⟩ := h
      refine And.intro (pm_ao_of (t := 0) (sh_fo1 h_this) hkk3 hek3 (by decide)) ?_
      rw [pm_tn hek3 hkk3 (by decide)]
      rw [(hr_sp h_this hkk3)]
      refine And.intro (sh_sk (sk_of h_this hkk3)) ?_
      refine v_Speaker_begin (d := d) (sk_of h_this hkk3) ?_
      intro hi4 ehi4
      replace h := h hi4 ehi4
      intro hi5 ehi5
      replace h := h hi5 ehi5
      refine ⟨rfl, ?_⟩
      obtain ⟨hi6, ehi6⟩ : ∃ m : pm_B, m = pm_u hi5 (this + 2 + 2 * k3) 4 0 := ⟨_, rfl⟩
      replace h := h hi6 ehi6
      rw [← ehi6]
      refine And.intro (sh_fo h_this) ?_
      refine And.intro ⟨(sh_fo h_this), trivial⟩ ?_
      exact h
theorem v_Folk_enterByLot {L d : Nat} {this : Nat} (h_this : pm_fo this) {hi : pm_B} {Q : pm_Q} (h : pm_C pm_g (SH L) HR (d) m_Folk_drawBelow [.inr this, .inl 6] hi (fun v hi1 => ∃ x2 : Int32, v = some (.inl x2) ∧ (pm_C pm_g (SH L) HR (d) m_Folk_drawBelow [.inr this, .inl 9] hi1 (fun v hi3 => ∃ x4 : Int32, v = some (.inl x4) ∧ (pm_C pm_g (SH L) HR (d) m_Folk_drawBelow [.inr this, .inl 100] hi3 (fun v hi5 => ∃ x6 : Int32, v = some (.inl x6) ∧ (pm_C pm_g (SH L) HR (d) m_Folk_enter [.inr this, .inl x2, .inl (1 + x4), .inl x6] hi5 (fun v hi7 => v = none ∧ (Q none hi7))))))))) : pm_C pm_g (SH L) HR (d + 1) m_Folk_enterByLot [.inr this] hi Q := by
  refine pm_C_of (maxL := 4) (t := pm_t5) rfl (Nat.le_of_ble_eq_true rfl) ?_
  refine pm_W_of 22 [] rfl ?_
  refine And.intro (sh_fo h_this) ?_
  refine pm_C_imp h (fun v hi1 h => ?_)
  obtain ⟨x2, rfl, h⟩ := h
  refine ⟨_, rfl, ?_⟩
  refine And.intro (sh_fo h_this) ?_
  refine pm_C_imp h (fun v hi3 h => ?_)
  obtain ⟨x4, rfl, h⟩ := h
  refine ⟨_, rfl, ?_⟩
  refine And.intro (sh_fo h_this) ?_
  refine pm_C_imp h (fun v hi5 h => ?_)
  obtain ⟨x6, rfl, h⟩ := h
  refine ⟨_, rfl, ?_⟩
  refine And.intro (sh_fo h_this) ?_
  refine pm_C_imp h (fun v hi7 h => ?_)
  obtain ⟨rfl, h⟩ := h
  refine ⟨rfl, ?_⟩
  exact h
theorem v_Folk_drawBelow {L d : Nat} {this : Nat} (h_this : pm_fo this) {p1 : Int32} {hi : pm_B} {Q : pm_Q} (h : ((p1 ≤ 0) → Q (some (.inl 0)) (pm_u hi this 7 (((hi this 7) * 1103515245) + 12345))) ∧ ((¬ (p1 ≤ 0)) → (¬ p1 = 0) ∧ (Q (some (.inl (((Int32.toUInt32 ((pm_u hi this 7 (((hi this 7) * 1103515245) + 12345)) this 7) >>> (Int32.toUInt32 8 &&& Int32.toUInt32 31)).toInt32) - ((Int32.toUInt32 ((pm_u hi this 7 (((hi this 7) * 1103515245) + 12345)) this 7) >>> (Int32.toUInt32 8 &&& Int32.toUInt32 31)).toInt32) / p1 * p1))) (pm_u hi this 7 (((hi this 7) * 1103515245) + 12345))))) : pm_C pm_g (SH L) HR (d + 1) m_Folk_drawBelow [.inr this, .inl p1] hi Q := by
  refine pm_C_of (maxL := 2) (t := pm_t6) rfl (Nat.le_of_ble_eq_true rfl) ?_
  refine pm_W_of 20 [] rfl ?_
  refine And.intro (sh_fo h_this) ?_
  refine And.intro ⟨(sh_fo h_this), trivial⟩ ?_
  refine And.intro (fun c1 => ?_) (fun c1 => ?_)
  · replace h := h.1 c1
    refine And.intro trivial ?_
    exact h
  · replace h := h.2 c1
    refine And.intro (sh_fo h_this) ?_
    refine And.intro h.1 ?_
    replace h := h.2
    refine And.intro trivial ?_
    exact h
theorem v_Folk_keepsOf {L d : Nat} {this : Nat} (h_this : pm_fo this) {p1 : Nat} (h_p1 : pm_sk p1) {p2 : Int32} {hi : pm_B} {Q : pm_Q} (h : ((¬ (hi (this + 18) 0) = (-1000000005)) → pm_C pm_g (SH L) HR (d + 1) m_Laws_valueOf [.inr 17, .inl (hi (this + 18) 0), .inl (hi p1 1), .inl (hi p1 2), .inl p2] hi (fun v hi2 => ∃ x3 : Int32, v = some (.inl x3) ∧ (Q (some (.inl (f_Kinds_keepsOf (hi2 p1 0) (f_E_held x3 0 12)))) hi2))) ∧ ((¬ (¬ (hi (this + 18) 0) = (-1000000005))) → Q (some (.inl (f_Kinds_keepsOf (hi p1 0) (f_E_held 12 0 12)))) hi)) : pm_C pm_g (SH L) HR (d + 2) m_Folk_keepsOf [.inr this, .inr p1, .inl p2] hi Q := by
  refine pm_C_of (maxL := 5) (t := pm_t9) rfl (Nat.le_of_ble_eq_true rfl) ?_
  refine pm_W_of 27 [] rfl ?_
  refine And.intro (sh_fo h_this) ?_
  refine v_Folk_lawOf (d := d) h_this ?_
  refine And.intro (fun hc => absurd hc (by decide)) (fun _ => ?_)
  refine And.intro (fun hc => absurd hc (by decide)) (fun _ => ?_)
  refine ⟨0, by decide, rfl, ?_⟩
  refine ⟨_, rfl, ?_⟩
  refine And.intro (fun c1 => ?_) (fun c1 => ?_)
  · replace h := h.1 c1
    refine And.intro (sh_fo h_this) ?_
    rw [(hr_fo0 h_this)]
    refine And.intro (sh_sk h_p1) ?_
    refine And.intro (sh_sk h_p1) ?_
    refine And.intro sh_l17 ?_
    refine pm_C_imp h (fun v hi2 h => ?_)
    obtain ⟨x3, rfl, h⟩ := h
    refine ⟨_, rfl, ?_⟩
    refine And.intro (sh_sk h_p1) ?_
    refine And.intro trivial ?_
    refine f_E_held_c (d := d)  ?_
    refine ⟨_, rfl, ?_⟩
    refine And.intro trivial ?_
    refine f_Kinds_keepsOf_c (d := d)  ?_
    refine ⟨_, rfl, ?_⟩
    refine And.intro trivial ?_
    exact h
  · replace h := h.2 c1
    refine And.intro (sh_sk h_p1) ?_
    refine And.intro trivial ?_
    refine f_E_held_c (d := d)  ?_
    refine ⟨_, rfl, ?_⟩
    refine And.intro trivial ?_
    refine f_Kinds_keepsOf_c (d := d)  ?_
    refine ⟨_, rfl, ?_⟩
    refine And.intro trivial ?_
    exact h
theorem v_Folk_hears {L d : Nat} {this : Nat} (h_this : pm_fo this) {p1 : Nat} (h_p1 : pm_sk p1) {p2 n_p2 : Nat} (h_p2 : (SH L)[p2]? = some (1, 0, n_p2)) (hl_p2 : n_p2 ≤ 2147483648) {p3 : Int32} {p4 : Int32} {hi : pm_B} {Q : pm_Q} (h : pm_C pm_g (SH L) HR (d + 1) m_Speaker_putBehind [.inr p1, .inr p2, .inl p3, .inl (if (f_Kinds_takesOf (hi p1 0) (hi p1 1)) < p4 then (f_Kinds_takesOf (hi p1 0) (hi p1 1)) else p4)] hi (fun v hi1 => v = none ∧ (pm_W pm_g (SH L) HR (d + 1) pm_t10 31 [some (.inr this), some (.inr p1), some (.inr p2), some (.inl p3), some (.inl p4), some (.inl (hi1 p1 4)), some (.inl 0)] [] hi1 Q))) : pm_C pm_g (SH L) HR (d + 2) m_Folk_hears [.inr this, .inr p1, .inr p2, .inl p3, .inl p4] hi Q := by
  refine pm_C_of (maxL := 7) (t := pm_t10) rfl (Nat.le_of_ble_eq_true rfl) ?_
  refine pm_W_of 18 [31] rfl ?_
  refine And.intro (sh_sk h_p1) ?_
  refine And.intro (sh_sk h_p1) ?_
  refine And.intro trivial ?_
  refine f_Kinds_takesOf_c (d := d)  ?_
  refine ⟨_, rfl, ?_⟩
  refine And.intro (sh_sk h_p1) ?_
  refine pm_C_imp h (fun v hi1 h => ?_)
  obtain ⟨rfl, h⟩ := h
  refine ⟨rfl, ?_⟩
  refine And.intro (sh_sk h_p1) ?_
  exact h
theorem v_Folk_hears_31 {L d : Nat}  {this : Nat} (h_this : pm_fo this) {p1 : Nat} (h_p1 : pm_sk p1) {p2 n_p2 : Nat} (h_p2 : (SH L)[p2]? = some (1, 0, n_p2)) (hl_p2 : n_p2 ≤ 2147483648) {p3 : Int32} {p4 : Int32} {y5 : Int32} {y6 : Int32} {hi : pm_B} {Q : pm_Q} (h : ((24 ≤ y6) → pm_C pm_g (SH L) HR (d + 1) m_Speaker_forgetOldest [.inr p1, .inl (((pm_u hi this 5 ((hi this 5) + ((hi p1 4) - y5))) p1 4) - y5)] (pm_u hi this 5 ((hi this 5) + ((hi p1 4) - y5))) (fun v hi2 => v = none ∧ (Q none hi2))) ∧ ((¬ (24 ≤ y6)) → pm_C pm_g (SH L) HR (d + 1) m_Folk_keepsOf [.inr this, .inr p1, .inl y5] hi (fun v hi3 => ∃ x4 : Int32, v = some (.inl x4) ∧ (((y5 ≤ x4) → pm_C pm_g (SH L) HR (d + 1) m_Speaker_forgetOldest [.inr p1, .inl (((pm_u hi3 this 5 ((hi3 this 5) + ((hi3 p1 4) - y5))) p1 4) - y5)] (pm_u hi3 this 5 ((hi3 this 5) + ((hi3 p1 4) - y5))) (fun v hi6 => v = none ∧ (Q none hi6))) ∧ ((¬ (y5 ≤ x4)) → pm_W pm_g (SH L) HR (d + 1) pm_t10 31 [some (.inr this), some (.inr p1), some (.inr p2), some (.inl p3), some (.inl p4), some (.inl (y5 + (-1))), some (.inl (y6 + 1))] [] hi3 Q))))) : pm_W pm_g (SH L) HR (d + 1) pm_t10 31 [some (.inr this), some (.inr p1), some (.inr p2), some (.inl p3), some (.inl p4), some (.inl y5), some (.inl y6)] [] hi Q := by
  refine pm_W_of 29 [31] rfl ?_
  refine And.intro (sh_sk h_p1) ?_
  rw [(hr_sk h_p1)]
  refine ⟨24, ⟨0, _, (sh_sk1 h_p1)⟩, ?_⟩
  rw [show nI 24 = (24 : Int32) from rfl]
  refine And.intro (fun c1 => ?_) (fun c1 => ?_)
  · replace h := h.1 c1
    refine And.intro (sh_fo h_this) ?_
    refine And.intro (sh_sk h_p1) ?_
    refine And.intro ⟨(sh_fo h_this), trivial⟩ ?_
    refine And.intro (sh_sk h_p1) ?_
    refine And.intro (sh_sk h_p1) ?_
    refine pm_C_imp h (fun v hi2 h => ?_)
    obtain ⟨rfl, h⟩ := h
    refine ⟨rfl, ?_⟩
    exact h
  · replace h := h.2 c1
    refine And.intro (sh_fo h_this) ?_
    refine pm_C_imp h (fun v hi3 h => ?_)
    obtain ⟨x4, rfl, h⟩ := h
    refine ⟨_, rfl, ?_⟩
    refine And.intro (fun c5 => ?_) (fun c5 => ?_)
    · replace h := h.1 c5
      refine And.intro (sh_fo h_this) ?_
      refine And.intro (sh_sk h_p1) ?_
      refine And.intro ⟨(sh_fo h_this), trivial⟩ ?_
      refine And.intro (sh_sk h_p1) ?_
      refine And.intro (sh_sk h_p1) ?_
      refine pm_C_imp h (fun v hi6 h => ?_)
      obtain ⟨rfl, h⟩ := h
      refine ⟨rfl, ?_⟩
      exact h
    · replace h := h.2 c5
      exact h
theorem v_Folk_speakTo {L d : Nat} {this : Nat} (h_this : pm_fo this) {p1 : Nat} (h_p1 : pm_sk p1) {p2 : Nat} (h_p2 : pm_sk p2) {p3 : Int32} {hi : pm_B} {Q : pm_Q} (h : pm_C pm_g (SH L) HR (d + 1) m_Folk_hears [.inr this, .inr p2, .inr (p1 + 1), .inl p3, .inl (if ((hi p1 4) - p3) < (f_Kinds_goesOf (hi p1 0)) then ((hi p1 4) - p3) else (f_Kinds_goesOf (hi p1 0)))] hi (fun v hi1 => v = none ∧ (∀ hi2 : pm_B, hi2 = pm_u (pm_u hi1 p1 3 ((hi1 p1 3) + (if ((hi p1 4) - p3) < (f_Kinds_goesOf (hi p1 0)) then ((hi p1 4) - p3) else (f_Kinds_goesOf (hi p1 0))))) this 4 (((pm_u hi1 p1 3 ((hi1 p1 3) + (if ((hi p1 4) - p3) < (f_Kinds_goesOf (hi p1 0)) then ((hi p1 4) - p3) else (f_Kinds_goesOf (hi p1 0))))) this 4) + 1) → (Q (some (.inl (if ((hi p1 4) - p3) < (f_Kinds_goesOf (hi p1 0)) then ((hi p1 4) - p3) else (f_Kinds_goesOf (hi p1 0))))) hi2)))) : pm_C pm_g (SH L) HR (d + 2) m_Folk_speakTo [.inr this, .inr p1, .inr p2, .inl p3] hi Q := by
  refine pm_C_of (maxL := 5) (t := pm_t11) rfl (Nat.le_of_ble_eq_true rfl) ?_
  refine pm_W_of 32 [] rfl ?_
  refine And.intro (sh_sk h_p1) ?_
  refine And.intro trivial ?_
  refine f_Kinds_goesOf_c (d := d)  ?_
  refine ⟨_, rfl, ?_⟩
  refine And.intro (sh_sk h_p1) ?_
  refine And.intro (sh_sk h_p1) ?_
  rw [(hr_sk h_p1)]
  refine And.intro (sh_fo h_this) ?_
  refine pm_C_imp h (fun v hi1 h => ?_)
  obtain ⟨rfl, h⟩ := h
  refine ⟨rfl, ?_⟩
  refine And.intro (sh_sk h_p1) ?_
  refine And.intro ⟨(sh_sk h_p1), trivial⟩ ?_
  refine And.intro (sh_fo h_this) ?_
  refine And.intro ⟨(sh_fo h_this), trivial⟩ ?_
  obtain ⟨hi2, ehi2⟩ : ∃ m : pm_B, m = pm_u (pm_u hi1 p1 3 ((hi1 p1 3) + (if ((hi p1 4) - p3) < (f_Kinds_goesOf (hi p1 0)) then ((hi p1 4) - p3) else (f_Kinds_goesOf (hi p1 0))))) this 4 (((pm_u hi1 p1 3 ((hi1 p1 3) + (if ((hi p1 4) - p3) < (f_Kinds_goesOf (hi p1 0)) then ((hi p1 4) - p3) else (f_Kinds_goesOf (hi p1 0))))) this 4) + 1) := ⟨_, rfl⟩
  replace h := h hi2 ehi2
  rw [← ehi2]
  refine And.intro trivial ?_
  exact h
theorem v_Folk_passDay {L d : Nat} {this : Nat} (h_this : pm_fo this) {hi : pm_B} {Q : pm_Q} (h : pm_C pm_g (SH L) HR (d + 1) m_Folk_drawBelow [.inr this, .inl 100] hi (fun v hi1 => ∃ x2 : Int32, v = some (.inl x2) ∧ ((((hi1 this 3) ≤ x2) → Q none (pm_u hi1 this 6 ((hi1 this 6) + 1))) ∧ ((¬ ((hi1 this 3) ≤ x2)) → (((hi1 this 2) < 2) → Q none (pm_u hi1 this 6 ((hi1 this 6) + 1))) ∧ ((¬ ((hi1 this 2) < 2)) → pm_C pm_g (SH L) HR (d + 1) m_Folk_drawBelow [.inr this, .inl ((pm_u hi1 this 6 ((hi1 this 6) + 1)) this 2)] (pm_u hi1 this 6 ((hi1 this 6) + 1)) (fun v hi5 => ∃ x6 : Int32, v = some (.inl x6) ∧ (pm_C pm_g (SH L) HR (d + 1) m_Folk_drawBelow [.inr this, .inl ((hi5 this 2) - 1)] hi5 (fun v hi7 => ∃ x8 : Int32, v = some (.inl x8) ∧ (((x8 < x6) → ((x6 < 0) → Q none hi7) ∧ ((¬ (x6 < 0)) → (((hi7 this 2) ≤ x6) → Q none hi7) ∧ ((¬ ((hi7 this 2) ≤ x6)) → ((8 ≤ x6) → Q none hi7) ∧ ((¬ (8 ≤ x6)) → ((x8 < 0) → Q none hi7) ∧ ((¬ (x8 < 0)) → (((hi7 this 2) ≤ x8) → Q none hi7) ∧ ((¬ ((hi7 this 2) ≤ x8)) → ((8 ≤ x8) → Q none hi7) ∧ ((¬ (8 ≤ x8)) → ∃ k16 : Nat, k16 < 8 ∧ x6 = nI k16 ∧ ((((hi7 (this + 2 + 2 * k16) 4) ≤ 0) → Q none hi7) ∧ ((¬ ((hi7 (this + 2 + 2 * k16) 4) ≤ 0)) → ∃ k18 : Nat, k18 < 8 ∧ x8 = nI k18 ∧ (pm_C pm_g (SH L) HR (d + 1) m_Folk_drawBelow [.inr this, .inl (hi7 (this + 2 + 2 * k16) 4)] hi7 (fun v hi19 => ∃ x20 : Int32, v = some (.inl x20) ∧ (pm_C pm_g (SH L) HR (d + 1) m_Folk_speakTo [.inr this, .inr (this + 2 + 2 * k16), .inr (this + 2 + 2 * k18), .inl x20] hi19 (fun v hi21 => ∃ x22 : Int32, v = some (.inl x22) ∧ (Q none hi21)))))))))))))) ∧ ((¬ (x8 < x6)) → ((x6 < 0) → Q none hi7) ∧ ((¬ (x6 < 0)) → (((hi7 this 2) ≤ x6) → Q none hi7) ∧ ((¬ ((hi7 this 2) ≤ x6)) → ((8 ≤ x6) → Q none hi7) ∧ ((¬ (8 ≤ x6)) → (((x8 + 1) < 0) → Q none hi7) ∧ ((¬ ((x8 + 1) < 0)) → (((hi7 this 2) ≤ (x8 + 1)) → Q none hi7) ∧ ((¬ ((hi7 this 2) ≤ (x8 + 1))) → ((8 ≤ (x8 + 1)) → Q none hi7) ∧ ((¬ (8 ≤ (x8 + 1))) → ∃ k29 : Nat, k29 < 8 ∧ x6 = nI k29 ∧ ((((hi7 (this + 2 + 2 * k29) 4) ≤ 0) → Q none hi7) ∧ ((¬ ((hi7 (this + 2 + 2 * k29) 4) ≤ 0)) → ∃ k31 : Nat, k31 < 8 ∧ (x8 + 1) = nI k31 ∧ (pm_C pm_g (SH L) HR (d + 1) m_Folk_drawBelow [.inr this, .inl (hi7 (this + 2 + 2 * k29) 4)] hi7 (fun v hi32 => ∃ x33 : Int32, v = some (.inl x33) ∧ (pm_C pm_g (SH L) HR (d + 1) m_Folk_speakTo [.inr this, .inr (this + 2 + 2 * k29), .inr (this + 2 + 2 * k31), .inl x33] hi32 (fun v hi34 => ∃ x35 : Int32, v = some (.inl x35) ∧ (Q none hi34))))))))))))))))))))))) : pm_C pm_g (SH L) HR (d + 2) m_Folk_passDay [.inr this] hi Q := by
  refine pm_C_of (maxL := 5) (t := pm_t12) rfl (Nat.le_of_ble_eq_true rfl) ?_
  refine pm_W_of 68 [] rfl ?_
  refine And.intro (sh_fo h_this) ?_
  refine pm_C_imp h (fun v hi1 h => ?_)
  obtain ⟨x2, rfl, h⟩ := h
  refine ⟨_, rfl, ?_⟩
  refine And.intro (sh_fo h_this) ?_
  refine And.intro (fun c3 => ?_) (fun c3 => ?_)
  · replace h := h.1 c3
    refine And.intro (sh_fo h_this) ?_
    refine And.intro ⟨(sh_fo h_this), trivial⟩ ?_
    refine And.intro (fun hc => absurd hc (pm_cd_f (by decide))) (fun _ => ?_)
    exact h
  · replace h := h.2 c3
    refine And.intro (sh_fo h_this) ?_
    refine And.intro (fun c4 => ?_) (fun c4 => ?_)
    · replace h := h.1 c4
      refine And.intro (sh_fo h_this) ?_
      refine And.intro ⟨(sh_fo h_this), trivial⟩ ?_
      refine And.intro (fun hc => absurd hc (pm_cd_f (by decide))) (fun _ => ?_)
      exact h
    · replace h := h.2 c4
      refine And.intro (sh_fo h_this) ?_
      refine And.intro ⟨(sh_fo h_this), trivial⟩ ?_
      refine And.intro (fun _ => ?_) (fun hc => absurd (pm_cd_t (by decide)) hc)
      refine And.intro (sh_fo h_this) ?_
      refine And.intro (sh_fo h_this) ?_
      refine pm_C_imp h (fun v hi5 h => ?_)
      obtain ⟨x6, rfl, h⟩ := h
      refine ⟨_, rfl, ?_⟩
      refine And.intro (sh_fo h_this) ?_
      refine And.intro (sh_fo h_this) ?_
      refine pm_C_imp h (fun v hi7 h => ?_)
      obtain ⟨x8, rfl, h⟩ := h
      refine ⟨_, rfl, ?_⟩
      refine And.intro (fun c9 => ?_) (fun c9 => ?_)
      · replace h := h.1 c9
        refine And.intro (sh_fo h_this) ?_
        refine v_Folk_hasSpeaker (d := d) h_this ?_
        refine And.intro (fun c10 => ?_) (fun c10 => ?_)
        · replace h := h.1 c10
          refine ⟨_, rfl, ?_⟩
          refine And.intro (fun _ => ?_) (fun hc => absurd (pm_cd_t (by decide)) hc)
          exact h
        · replace h := h.2 c10
          refine And.intro (fun c11 => ?_) (fun c11 => ?_)
          · replace h := h.1 c11
            refine ⟨_, rfl, ?_⟩
            refine And.intro (fun _ => ?_) (fun hc => absurd (pm_cd_t (by decide)) hc)
            exact h
          · replace h := h.2 c11
            refine And.intro (fun c12 => ?_) (fun c12 => ?_)
            · replace h := h.1 c12
              refine ⟨_, rfl, ?_⟩
              refine And.intro (fun _ => ?_) (fun hc => absurd (pm_cd_t (by decide)) hc)
              exact h
            · replace h := h.2 c12
              refine ⟨_, rfl, ?_⟩
              refine And.intro (fun hc => absurd hc (pm_cd_f (by decide))) (fun _ => ?_)
              refine And.intro (sh_fo h_this) ?_
              refine v_Folk_hasSpeaker (d := d) h_this ?_
              refine And.intro (fun c13 => ?_) (fun c13 => ?_)
              · replace h := h.1 c13
                refine ⟨_, rfl, ?_⟩
                refine And.intro (fun hc => absurd hc (pm_cd_f (by decide))) (fun _ => ?_)
                exact h
              · replace h := h.2 c13
                refine And.intro (fun c14 => ?_) (fun c14 => ?_)
                · replace h := h.1 c14
                  refine ⟨_, rfl, ?_⟩
                  refine And.intro (fun hc => absurd hc (pm_cd_f (by decide))) (fun _ => ?_)
                  exact h
                · replace h := h.2 c14
                  refine And.intro (fun c15 => ?_) (fun c15 => ?_)
                  · replace h := h.1 c15
                    refine ⟨_, rfl, ?_⟩
                    refine And.intro (fun hc => absurd hc (pm_cd_f (by decide))) (fun _ => ?_)
                    exact h
                  · replace h := h.2 c15
                    refine ⟨_, rfl, ?_⟩
                    refine And.intro (fun _ => ?_) (fun hc => absurd (pm_cd_t (by decide)) hc)
                    refine And.intro (sh_fo h_this) ?_
                    rw [(hr_fo1 h_this)]
                    obtain ⟨k16, hkk16, hek16, h⟩ := h
                    refine And.intro (pm_ao_of (t := 0) (sh_fo1 h_this) hkk16 hek16 (by decide)) ?_
                    rw [pm_tn hek16 hkk16 (by decide)]
                    rw [(hr_sp h_this hkk16)]
                    refine And.intro (sh_sk (sk_of h_this hkk16)) ?_
                    refine And.intro (fun c17 => ?_) (fun c17 => ?_)
                    · replace h := h.1 c17
                      exact h
                    · replace h := h.2 c17
                      refine And.intro (sh_fo h_this) ?_
                      rw [(hr_fo1 h_this)]
                      obtain ⟨k18, hkk18, hek18, h⟩ := h
                      refine And.intro (pm_ao_of (t := 0) (sh_fo1 h_this) hkk18 hek18 (by decide)) ?_
                      rw [pm_tn hek18 hkk18 (by decide)]
                      rw [(hr_sp h_this hkk18)]
                      refine And.intro (sh_sk (sk_of h_this hkk16)) ?_
                      refine And.intro (sh_fo h_this) ?_
                      refine pm_C_imp h (fun v hi19 h => ?_)
                      obtain ⟨x20, rfl, h⟩ := h
                      refine ⟨_, rfl, ?_⟩
                      refine And.intro (sh_fo h_this) ?_
                      refine pm_C_imp h (fun v hi21 h => ?_)
                      obtain ⟨x22, rfl, h⟩ := h
                      refine ⟨_, rfl, ?_⟩
                      exact h
      · replace h := h.2 c9
        refine And.intro (sh_fo h_this) ?_
        refine v_Folk_hasSpeaker (d := d) h_this ?_
        refine And.intro (fun c23 => ?_) (fun c23 => ?_)
        · replace h := h.1 c23
          refine ⟨_, rfl, ?_⟩
          refine And.intro (fun _ => ?_) (fun hc => absurd (pm_cd_t (by decide)) hc)
          exact h
        · replace h := h.2 c23
          refine And.intro (fun c24 => ?_) (fun c24 => ?_)
          · replace h := h.1 c24
            refine ⟨_, rfl, ?_⟩
            refine And.intro (fun _ => ?_) (fun hc => absurd (pm_cd_t (by decide)) hc)
            exact h
          · replace h := h.2 c24
            refine And.intro (fun c25 => ?_) (fun c25 => ?_)
            · replace h := h.1 c25
              refine ⟨_, rfl, ?_⟩
              refine And.intro (fun _ => ?_) (fun hc => absurd (pm_cd_t (by decide)) hc)
              exact h
            · replace h := h.2 c25
              refine ⟨_, rfl, ?_⟩
              refine And.intro (fun hc => absurd hc (pm_cd_f (by decide))) (fun _ => ?_)
              refine And.intro (sh_fo h_this) ?_
              refine v_Folk_hasSpeaker (d := d) h_this ?_
              refine And.intro (fun c26 => ?_) (fun c26 => ?_)
              · replace h := h.1 c26
                refine ⟨_, rfl, ?_⟩
                refine And.intro (fun hc => absurd hc (pm_cd_f (by decide))) (fun _ => ?_)
                exact h
              · replace h := h.2 c26
                refine And.intro (fun c27 => ?_) (fun c27 => ?_)
                · replace h := h.1 c27
                  refine ⟨_, rfl, ?_⟩
                  refine And.intro (fun hc => absurd hc (pm_cd_f (by decide))) (fun _ => ?_)
                  exact h
                · replace h := h.2 c27
                  refine And.intro (fun c28 => ?_) (fun c28 => ?_)
                  · replace h := h.1 c28
                    refine ⟨_, rfl, ?_⟩
                    refine And.intro (fun hc => absurd hc (pm_cd_f (by decide))) (fun _ => ?_)
                    exact h
                  · replace h := h.2 c28
                    refine ⟨_, rfl, ?_⟩
                    refine And.intro (fun _ => ?_) (fun hc => absurd (pm_cd_t (by decide)) hc)
                    refine And.intro (sh_fo h_this) ?_
                    rw [(hr_fo1 h_this)]
                    obtain ⟨k29, hkk29, hek29, h⟩ := h
                    refine And.intro (pm_ao_of (t := 0) (sh_fo1 h_this) hkk29 hek29 (by decide)) ?_
                    rw [pm_tn hek29 hkk29 (by decide)]
                    rw [(hr_sp h_this hkk29)]
                    refine And.intro (sh_sk (sk_of h_this hkk29)) ?_
                    refine And.intro (fun c30 => ?_) (fun c30 => ?_)
                    · replace h := h.1 c30
                      exact h
                    · replace h := h.2 c30
                      refine And.intro (sh_fo h_this) ?_
                      rw [(hr_fo1 h_this)]
                      obtain ⟨k31, hkk31, hek31, h⟩ := h
                      refine And.intro (pm_ao_of (t := 0) (sh_fo1 h_this) hkk31 hek31 (by decide)) ?_
                      rw [pm_tn hek31 hkk31 (by decide)]
                      rw [(hr_sp h_this hkk31)]
                      refine And.intro (sh_sk (sk_of h_this hkk29)) ?_
                      refine And.intro (sh_fo h_this) ?_
                      refine pm_C_imp h (fun v hi32 h => ?_)
                      obtain ⟨x33, rfl, h⟩ := h
                      refine ⟨_, rfl, ?_⟩
                      refine And.intro (sh_fo h_this) ?_
                      refine pm_C_imp h (fun v hi34 h => ?_)
                      obtain ⟨x35, rfl, h⟩ := h
                      refine ⟨_, rfl, ?_⟩
                      exact h
theorem v_Folk_wordsTogether {L d : Nat} {this : Nat} (h_this : pm_fo this) {hi : pm_B} {Q : pm_Q} (h : pm_W pm_g (SH L) HR (d) pm_t13 4 [some (.inr this), some (.inl 0), some (.inl 0)] [] hi Q) : pm_C pm_g (SH L) HR (d + 1) m_Folk_wordsTogether [.inr this] hi Q := by
  refine pm_C_of (maxL := 3) (t := pm_t13) rfl (Nat.le_of_ble_eq_true rfl) ?_
  refine pm_W_of 6 [4] rfl ?_
  exact h
theorem v_Folk_wordsTogether_4 {L d : Nat}  {this : Nat} (h_this : pm_fo this) {y1 : Int32} {y2 : Int32} {hi : pm_B} {Q : pm_Q} (h : (((hi this 2) ≤ y2) → Q (some (.inl y1)) hi) ∧ ((¬ ((hi this 2) ≤ y2)) → ((8 ≤ y2) → Q (some (.inl y1)) hi) ∧ ((¬ (8 ≤ y2)) → ∃ k3 : Nat, k3 < 8 ∧ y2 = nI k3 ∧ (pm_W pm_g (SH L) HR (d) pm_t13 4 [some (.inr this), some (.inl (y1 + (hi (this + 2 + 2 * k3) 4))), some (.inl (y2 + 1))] [] hi Q)))) : pm_W pm_g (SH L) HR (d) pm_t13 4 [some (.inr this), some (.inl y1), some (.inl y2)] [] hi Q := by
  refine pm_W_of 21 [4] rfl ?_
  refine And.intro (sh_fo h_this) ?_
  refine And.intro (fun c1 => ?_) (fun c1 => ?_)
  · replace h := h.1 c1
    refine And.intro trivial ?_
    exact h
  · replace h := h.2 c1
    refine And.intro (sh_fo h_this) ?_
    rw [(hr_fo1 h_this)]
    refine ⟨8, ⟨0, _, (sh_fo1 h_this)⟩, ?_⟩
    rw [show nI 8 = (8 : Int32) from rfl]
    refine And.intro (fun c2 => ?_) (fun c2 => ?_)
    · replace h := h.1 c2
      refine And.intro trivial ?_
      exact h
    · replace h := h.2 c2
      refine And.intro (sh_fo h_this) ?_
      rw [(hr_fo1 h_this)]
      obtain ⟨k3, hkk3, hek3, h⟩ := h
      refine And.intro (pm_ao_of (t := 0) (sh_fo1 h_this) hkk3 hek3 (by decide)) ?_
      rw [pm_tn hek3 hkk3 (by decide)]
      rw [(hr_sp h_this hkk3)]
      refine And.intro (sh_sk (sk_of h_this hkk3)) ?_
      exact h
theorem v_Folk_wordsOfSomebody {L d : Nat} {this : Nat} (h_this : pm_fo this) {hi : pm_B} {Q : pm_Q} (h : pm_W pm_g (SH L) HR (d) pm_t14 4 [some (.inr this), some (.inl 0), some (.inl 0)] [] hi Q) : pm_C pm_g (SH L) HR (d + 1) m_Folk_wordsOfSomebody [.inr this] hi Q := by
  refine pm_C_of (maxL := 3) (t := pm_t14) rfl (Nat.le_of_ble_eq_true rfl) ?_
  refine pm_W_of 6 [4] rfl ?_
  exact h
theorem v_Folk_wordsOfSomebody_4 {L d : Nat}  {this : Nat} (h_this : pm_fo this) {y1 : Int32} {y2 : Int32} {hi : pm_B} {Q : pm_Q} (h : (((hi this 2) ≤ y2) → Q (some (.inl y1)) hi) ∧ ((¬ ((hi this 2) ≤ y2)) → ((8 ≤ y2) → Q (some (.inl y1)) hi) ∧ ((¬ (8 ≤ y2)) → ∃ k3 : Nat, k3 < 8 ∧ y2 = nI k3 ∧ (pm_C pm_g (SH L) HR (d) m_Speaker_wordSet [.inr (this + 2 + 2 * k3)] hi (fun v hi4 => ∃ x5 : Int32, v = some (.inl x5) ∧ (pm_W pm_g (SH L) HR (d) pm_t14 4 [some (.inr this), some (.inl (y1 ||| x5)), some (.inl (y2 + 1))] [] hi4 Q)))))) : pm_W pm_g (SH L) HR (d) pm_t14 4 [some (.inr this), some (.inl y1), some (.inl y2)] [] hi Q := by
  refine pm_W_of 21 [4] rfl ?_
  refine And.intro (sh_fo h_this) ?_
  refine And.intro (fun c1 => ?_) (fun c1 => ?_)
  · replace h := h.1 c1
    refine And.intro trivial ?_
    exact h
  · replace h := h.2 c1
    refine And.intro (sh_fo h_this) ?_
    rw [(hr_fo1 h_this)]
    refine ⟨8, ⟨0, _, (sh_fo1 h_this)⟩, ?_⟩
    rw [show nI 8 = (8 : Int32) from rfl]
    refine And.intro (fun c2 => ?_) (fun c2 => ?_)
    · replace h := h.1 c2
      refine And.intro trivial ?_
      exact h
    · replace h := h.2 c2
      refine And.intro (sh_fo h_this) ?_
      rw [(hr_fo1 h_this)]
      obtain ⟨k3, hkk3, hek3, h⟩ := h
      refine And.intro (pm_ao_of (t := 0) (sh_fo1 h_this) hkk3 hek3 (by decide)) ?_
      rw [pm_tn hek3 hkk3 (by decide)]
      rw [(hr_sp h_this hkk3)]
      refine And.intro (sh_sk (sk_of h_this hkk3)) ?_
      refine pm_C_imp h (fun v hi4 h => ?_)
      obtain ⟨x5, rfl, h⟩ := h
      refine ⟨_, rfl, ?_⟩
      exact h
theorem v_Folk_wordsOfAll {L d : Nat} {this : Nat} (h_this : pm_fo this) {hi : pm_B} {Q : pm_Q} (h : ((¬ (hi this 2) = 0) → pm_W pm_g (SH L) HR (d) pm_t15 14 [some (.inr this), some (.inl 1048575), some (.inl 0)] [] hi Q) ∧ ((¬ (¬ (hi this 2) = 0)) → Q (some (.inl 0)) hi)) : pm_C pm_g (SH L) HR (d + 1) m_Folk_wordsOfAll [.inr this] hi Q := by
  refine pm_C_of (maxL := 3) (t := pm_t15) rfl (Nat.le_of_ble_eq_true rfl) ?_
  refine pm_W_of 9 [14] rfl ?_
  refine And.intro (sh_fo h_this) ?_
  refine And.intro (fun c1 => ?_) (fun c1 => ?_)
  · replace h := h.1 c1
    exact h
  · replace h := h.2 c1
    refine And.intro trivial ?_
    exact h
theorem v_Folk_wordsOfAll_14 {L d : Nat}  {this : Nat} (h_this : pm_fo this) {y1 : Int32} {y2 : Int32} {hi : pm_B} {Q : pm_Q} (h : (((hi this 2) ≤ y2) → Q (some (.inl y1)) hi) ∧ ((¬ ((hi this 2) ≤ y2)) → ((8 ≤ y2) → Q (some (.inl y1)) hi) ∧ ((¬ (8 ≤ y2)) → ∃ k3 : Nat, k3 < 8 ∧ y2 = nI k3 ∧ (pm_C pm_g (SH L) HR (d) m_Speaker_wordSet [.inr (this + 2 + 2 * k3)] hi (fun v hi4 => ∃ x5 : Int32, v = some (.inl x5) ∧ (pm_W pm_g (SH L) HR (d) pm_t15 14 [some (.inr this), some (.inl (y1 &&& x5)), some (.inl (y2 + 1))] [] hi4 Q)))))) : pm_W pm_g (SH L) HR (d) pm_t15 14 [some (.inr this), some (.inl y1), some (.inl y2)] [] hi Q := by
  refine pm_W_of 21 [14] rfl ?_
  refine And.intro (sh_fo h_this) ?_
  refine And.intro (fun c1 => ?_) (fun c1 => ?_)
  · replace h := h.1 c1
    refine And.intro trivial ?_
    exact h
  · replace h := h.2 c1
    refine And.intro (sh_fo h_this) ?_
    rw [(hr_fo1 h_this)]
    refine ⟨8, ⟨0, _, (sh_fo1 h_this)⟩, ?_⟩
    rw [show nI 8 = (8 : Int32) from rfl]
    refine And.intro (fun c2 => ?_) (fun c2 => ?_)
    · replace h := h.1 c2
      refine And.intro trivial ?_
      exact h
    · replace h := h.2 c2
      refine And.intro (sh_fo h_this) ?_
      rw [(hr_fo1 h_this)]
      obtain ⟨k3, hkk3, hek3, h⟩ := h
      refine And.intro (pm_ao_of (t := 0) (sh_fo1 h_this) hkk3 hek3 (by decide)) ?_
      rw [pm_tn hek3 hkk3 (by decide)]
      rw [(hr_sp h_this hkk3)]
      refine And.intro (sh_sk (sk_of h_this hkk3)) ?_
      refine pm_C_imp h (fun v hi4 h => ?_)
      obtain ⟨x5, rfl, h⟩ := h
      refine ⟨_, rfl, ?_⟩
      exact h
theorem v_Folk_allButDeafHave {L d : Nat} {this : Nat} (h_this : pm_fo this) {p1 : Int32} {hi : pm_B} {Q : pm_Q} (h : pm_W pm_g (SH L) HR (d) pm_t16 2 [some (.inr this), some (.inl p1), some (.inl 0), none] [] hi Q) : pm_C pm_g (SH L) HR (d + 1) m_Folk_allButDeafHave [.inr this, .inl p1] hi Q := by
  refine pm_C_of (maxL := 4) (t := pm_t16) rfl (Nat.le_of_ble_eq_true rfl) ?_
  refine pm_W_of 4 [2] rfl ?_
  exact h
theorem v_Folk_allButDeafHave_2 {L d : Nat} {o3 : Option pm_V} {this : Nat} (h_this : pm_fo this) {p1 : Int32} {y2 : Int32} {hi : pm_B} {Q : pm_Q} (h : (((hi this 2) ≤ y2) → Q (some (.inl 1)) hi) ∧ ((¬ ((hi this 2) ≤ y2)) → ((8 ≤ y2) → Q (some (.inl 1)) hi) ∧ ((¬ (8 ≤ y2)) → ∃ k3 : Nat, k3 < 8 ∧ y2 = nI k3 ∧ (pm_C pm_g (SH L) HR (d) m_Speaker_wordSet [.inr (this + 2 + 2 * k3)] hi (fun v hi4 => ∃ x5 : Int32, v = some (.inl x5) ∧ (((¬ (((Int32.toUInt32 x5 >>> (Int32.toUInt32 p1 &&& Int32.toUInt32 31)).toInt32) &&& 1) = 1) → ∃ k7 : Nat, k7 < 8 ∧ y2 = nI k7 ∧ ((((hi4 (this + 2 + 2 * k7) 0) = 5) → pm_W pm_g (SH L) HR (d) pm_t16 2 [some (.inr this), some (.inl p1), some (.inl (y2 + 1)), some (.inl 0)] [] hi4 Q) ∧ ((¬ ((hi4 (this + 2 + 2 * k7) 0) = 5)) → Q (some (.inl 0)) hi4))) ∧ ((¬ (¬ (((Int32.toUInt32 x5 >>> (Int32.toUInt32 p1 &&& Int32.toUInt32 31)).toInt32) &&& 1) = 1)) → ∃ k9 : Nat, k9 < 8 ∧ y2 = nI k9 ∧ ((((hi4 (this + 2 + 2 * k9) 0) = 5) → pm_W pm_g (SH L) HR (d) pm_t16 2 [some (.inr this), some (.inl p1), some (.inl (y2 + 1)), some (.inl 1)] [] hi4 Q) ∧ ((¬ ((hi4 (this + 2 + 2 * k9) 0) = 5)) → pm_W pm_g (SH L) HR (d) pm_t16 2 [some (.inr this), some (.inl p1), some (.inl (y2 + 1)), some (.inl 1)] [] hi4 Q))))))))) : pm_W pm_g (SH L) HR (d) pm_t16 2 [some (.inr this), some (.inl p1), some (.inl y2), o3] [] hi Q := by
  refine pm_W_of 36 [2] rfl ?_
  refine And.intro (sh_fo h_this) ?_
  refine And.intro (fun c1 => ?_) (fun c1 => ?_)
  · replace h := h.1 c1
    refine And.intro (Or.inr rfl) ?_
    exact h
  · replace h := h.2 c1
    refine And.intro (sh_fo h_this) ?_
    rw [(hr_fo1 h_this)]
    refine ⟨8, ⟨0, _, (sh_fo1 h_this)⟩, ?_⟩
    rw [show nI 8 = (8 : Int32) from rfl]
    refine And.intro (fun c2 => ?_) (fun c2 => ?_)
    · replace h := h.1 c2
      refine And.intro (Or.inr rfl) ?_
      exact h
    · replace h := h.2 c2
      refine And.intro (sh_fo h_this) ?_
      rw [(hr_fo1 h_this)]
      obtain ⟨k3, hkk3, hek3, h⟩ := h
      refine And.intro (pm_ao_of (t := 0) (sh_fo1 h_this) hkk3 hek3 (by decide)) ?_
      rw [pm_tn hek3 hkk3 (by decide)]
      rw [(hr_sp h_this hkk3)]
      refine And.intro (sh_sk (sk_of h_this hkk3)) ?_
      refine pm_C_imp h (fun v hi4 h => ?_)
      obtain ⟨x5, rfl, h⟩ := h
      refine ⟨_, rfl, ?_⟩
      refine And.intro (fun c6 => ?_) (fun c6 => ?_)
      · replace h := h.1 c6
        refine And.intro (sh_fo h_this) ?_
        rw [(hr_fo1 h_this)]
        obtain ⟨k7, hkk7, hek7, h⟩ := h
        refine And.intro (pm_ao_of (t := 0) (sh_fo1 h_this) hkk7 hek7 (by decide)) ?_
        rw [pm_tn hek7 hkk7 (by decide)]
        rw [(hr_sp h_this hkk7)]
        refine And.intro (sh_sk (sk_of h_this hkk7)) ?_
        refine And.intro (fun c8 => ?_) (fun c8 => ?_)
        · replace h := h.1 c8
          exact h
        · replace h := h.2 c8
          refine And.intro (fun hc => absurd hc (pm_cd_f (by decide))) (fun _ => ?_)
          refine And.intro (Or.inl rfl) ?_
          exact h
      · replace h := h.2 c6
        refine And.intro (sh_fo h_this) ?_
        rw [(hr_fo1 h_this)]
        obtain ⟨k9, hkk9, hek9, h⟩ := h
        refine And.intro (pm_ao_of (t := 0) (sh_fo1 h_this) hkk9 hek9 (by decide)) ?_
        rw [pm_tn hek9 hkk9 (by decide)]
        rw [(hr_sp h_this hkk9)]
        refine And.intro (sh_sk (sk_of h_this hkk9)) ?_
        refine And.intro (fun c10 => ?_) (fun c10 => ?_)
        · replace h := h.1 c10
          exact h
        · replace h := h.2 c10
          refine And.intro (fun _ => ?_) (fun hc => absurd (pm_cd_t (by decide)) hc)
          exact h
theorem v_Kinds_isOf {L d : Nat} {p1 : Int32} {p2 : Int32} {hi : pm_B} {Q : pm_Q} (h : pm_W pm_g (SH L) HR (d) pm_t17 4 [some (.inl p1), some (.inl p2), some (.inl p1), some (.inl 0)] [] hi Q) : pm_C pm_g (SH L) HR (d + 1) m_Kinds_isOf [.inl p1, .inl p2] hi Q := by
  refine pm_C_of (maxL := 4) (t := pm_t17) rfl (Nat.le_of_ble_eq_true rfl) ?_
  refine pm_W_of 6 [4] rfl ?_
  exact h
theorem v_Kinds_isOf_4 {L d : Nat}  {p1 : Int32} {p2 : Int32} {y2 : Int32} {y3 : Int32} {hi : pm_B} {Q : pm_Q} (h : ((6 ≤ y3) → Q (some (.inl 0)) hi) ∧ ((¬ (6 ≤ y3)) → ((y2 < 0) → Q (some (.inl 0)) hi) ∧ ((¬ (y2 < 0)) → ((6 ≤ y2) → Q (some (.inl 0)) hi) ∧ ((¬ (6 ≤ y2)) → ((¬ y2 = p2) → ∃ k5 : Nat, k5 < 6 ∧ y2 = nI k5 ∧ (pm_W pm_g (SH L) HR (d) pm_t17 4 [some (.inl p1), some (.inl p2), some (.inl (hi 2 k5)), some (.inl (y3 + 1))] [] hi Q)) ∧ ((¬ (¬ y2 = p2)) → Q (some (.inl 1)) hi))))) : pm_W pm_g (SH L) HR (d) pm_t17 4 [some (.inl p1), some (.inl p2), some (.inl y2), some (.inl y3)] [] hi Q := by
  refine pm_W_of 20 [4] rfl ?_
  refine And.intro (fun c1 => ?_) (fun c1 => ?_)
  · replace h := h.1 c1
    refine And.intro (Or.inl rfl) ?_
    exact h
  · replace h := h.2 c1
    refine And.intro (fun c2 => ?_) (fun c2 => ?_)
    · replace h := h.1 c2
      refine And.intro (Or.inl rfl) ?_
      exact h
    · replace h := h.2 c2
      refine ⟨6, ⟨1, _, sh_l2⟩, ?_⟩
      rw [show nI 6 = (6 : Int32) from rfl]
      refine And.intro (fun c3 => ?_) (fun c3 => ?_)
      · replace h := h.1 c3
        refine And.intro (Or.inl rfl) ?_
        exact h
      · replace h := h.2 c3
        refine And.intro (fun c4 => ?_) (fun c4 => ?_)
        · replace h := h.1 c4
          obtain ⟨k5, hkk5, hek5, h⟩ := h
          refine And.intro (pm_ao_of (t := 1) sh_l2 hkk5 hek5 (by decide)) ?_
          rw [pm_tn hek5 hkk5 (by decide)]
          exact h
        · replace h := h.2 c4
          refine And.intro (Or.inr rfl) ?_
          exact h
theorem v_Laws_valueOf {L d : Nat} {p1 : Int32} {p2 : Int32} {p3 : Int32} {p4 : Int32} {hi : pm_B} {Q : pm_Q} (h : ((p1 < 0) → Q (some (.inl 0)) hi) ∧ ((¬ (p1 < 0)) → ((p1 < 15) → ∃ k3 : Nat, k3 < 15 ∧ p1 = nI k3 ∧ (pm_W pm_g (SH L) HR (d + 1) pm_t23 29 [some (.inr 17), some (.inl p1), some (.inl p2), some (.inl p3), some (.inl p4), some (.inr (19 + 2 * k3)), some (.inl (-1)), some (.inl 0), none] [] hi Q)) ∧ ((¬ (p1 < 15)) → Q (some (.inl 0)) hi))) : pm_C pm_g (SH L) HR (d + 2) m_Laws_valueOf [.inr 17, .inl p1, .inl p2, .inl p3, .inl p4] hi Q := by
  refine pm_C_of (maxL := 9) (t := pm_t23) rfl (Nat.le_of_ble_eq_true rfl) ?_
  refine pm_W_of 18 [29] rfl ?_
  refine And.intro (fun c1 => ?_) (fun c1 => ?_)
  · replace h := h.1 c1
    refine And.intro trivial ?_
    exact h
  · replace h := h.2 c1
    refine And.intro sh_l17 ?_
    rw [hr_17_0]
    refine ⟨15, ⟨0, _, sh_l18⟩, ?_⟩
    rw [show nI 15 = (15 : Int32) from rfl]
    refine And.intro (fun c2 => ?_) (fun c2 => ?_)
    · replace h := h.1 c2
      refine And.intro sh_l17 ?_
      rw [hr_17_0]
      obtain ⟨k3, hkk3, hek3, h⟩ := h
      refine And.intro (pm_ao_of (t := 0) sh_l18 hkk3 hek3 (by decide)) ?_
      rw [pm_tn hek3 hkk3 (by decide)]
      rw [(hr_te hkk3)]
      exact h
    · replace h := h.2 c2
      refine And.intro trivial ?_
      exact h
theorem v_Laws_valueOf_29 {L d : Nat} {o8 : Option pm_V} {p1 : Int32} {p2 : Int32} {p3 : Int32} {p4 : Int32} {r5 : Nat} (h_r5 : pm_tx r5) {y6 : Int32} {y7 : Int32} {hi : pm_B} {Q : pm_Q} (h : (((hi r5 2) ≤ y7) → ((0 ≤ y6) → ∃ k3 : Nat, k3 < 96 ∧ y6 = nI k3 ∧ (Q (some (.inl (hi 49 k3))) hi)) ∧ ((¬ (0 ≤ y6)) → Q (some (.inl 0)) hi)) ∧ ((¬ ((hi r5 2) ≤ y7)) → ((96 ≤ y7) → ((0 ≤ y6) → ∃ k6 : Nat, k6 < 96 ∧ y6 = nI k6 ∧ (Q (some (.inl (hi 49 k6))) hi)) ∧ ((¬ (0 ≤ y6)) → Q (some (.inl 0)) hi)) ∧ ((¬ (96 ≤ y7)) → ∃ k7 : Nat, k7 < 96 ∧ y7 = nI k7 ∧ ((((hi (r5 + 1) k7) < (-3)) → ((¬ (hi (r5 + 1) k7) = (-33)) → ((1 ≤ y6) → ∃ k11 : Nat, k11 < 96 ∧ (y6 + (-1)) = nI k11 ∧ (∃ k12 : Nat, k12 < 96 ∧ ((y6 + (-1)) + 1) = nI k12 ∧ (∃ k13 : Nat, k13 < 96 ∧ (y6 + (-1)) = nI k13 ∧ (pm_W pm_g (SH L) HR (d + 1) pm_t23 29 [some (.inr 17), some (.inl p1), some (.inl p2), some (.inl p3), some (.inl p4), some (.inr r5), some (.inl (y6 + (-1))), some (.inl (y7 + 1)), some (.inl (hi (r5 + 1) k7))] [] (pm_u hi 49 k13 (f_Laws_joined (-(hi (r5 + 1) k7)) (hi 49 k11) (hi 49 k12))) Q)))) ∧ ((¬ (1 ≤ y6)) → Q (some (.inl 0)) hi)) ∧ ((¬ (¬ (hi (r5 + 1) k7) = (-33))) → ((0 ≤ y6) → ∃ k15 : Nat, k15 < 96 ∧ y6 = nI k15 ∧ (((¬ (hi 49 k15) = 0) → ∃ k17 : Nat, k17 < 96 ∧ y6 = nI k17 ∧ (pm_W pm_g (SH L) HR (d + 1) pm_t23 29 [some (.inr 17), some (.inl p1), some (.inl p2), some (.inl p3), some (.inl p4), some (.inr r5), some (.inl y6), some (.inl (y7 + 1)), some (.inl (hi (r5 + 1) k7))] [] (pm_u hi 49 k17 (f_Laws_truth 0)) Q)) ∧ ((¬ (¬ (hi 49 k15) = 0)) → ∃ k18 : Nat, k18 < 96 ∧ y6 = nI k18 ∧ (pm_W pm_g (SH L) HR (d + 1) pm_t23 29 [some (.inr 17), some (.inl p1), some (.inl p2), some (.inl p3), some (.inl p4), some (.inr r5), some (.inl y6), some (.inl (y7 + 1)), some (.inl (hi (r5 + 1) k7))] [] (pm_u hi 49 k18 (f_Laws_truth 1)) Q)))) ∧ ((¬ (0 ≤ y6)) → Q (some (.inl 0)) hi))) ∧ ((¬ ((hi (r5 + 1) k7) < (-3))) → (((y6 + 1) < 96) → ∃ k20 : Nat, k20 < 96 ∧ (y6 + 1) = nI k20 ∧ (pm_W pm_g (SH L) HR (d + 1) pm_t23 29 [some (.inr 17), some (.inl p1), some (.inl p2), some (.inl p3), some (.inl p4), some (.inr r5), some (.inl (y6 + 1)), some (.inl (y7 + 1)), some (.inl (hi (r5 + 1) k7))] [] (pm_u hi 49 k20 (f_Laws_leafOf (hi (r5 + 1) k7) p2 p3 p4)) Q)) ∧ ((¬ ((y6 + 1) < 96)) → Q (some (.inl 0)) hi)))))) : pm_W pm_g (SH L) HR (d + 1) pm_t23 29 [some (.inr 17), some (.inl p1), some (.inl p2), some (.inl p3), some (.inl p4), some (.inr r5), some (.inl y6), some (.inl y7), o8] [] hi Q := by
  refine pm_W_of 45 [29] rfl ?_
  refine And.intro (sh_tx h_r5) ?_
  refine And.intro (fun c1 => ?_) (fun c1 => ?_)
  · replace h := h.1 c1
    refine And.intro (fun c2 => ?_) (fun c2 => ?_)
    · replace h := h.1 c2
      refine And.intro sh_l17 ?_
      rw [hr_17_1]
      obtain ⟨k3, hkk3, hek3, h⟩ := h
      refine And.intro (pm_ao_of (t := 0) sh_l49 hkk3 hek3 (by decide)) ?_
      rw [pm_tn hek3 hkk3 (by decide)]
      refine And.intro trivial ?_
      exact h
    · replace h := h.2 c2
      refine And.intro trivial ?_
      exact h
  · replace h := h.2 c1
    refine And.intro (sh_tx h_r5) ?_
    rw [(hr_tx h_r5)]
    refine ⟨96, ⟨0, _, (sh_tx1 h_r5)⟩, ?_⟩
    rw [show nI 96 = (96 : Int32) from rfl]
    refine And.intro (fun c4 => ?_) (fun c4 => ?_)
    · replace h := h.1 c4
      refine And.intro (fun c5 => ?_) (fun c5 => ?_)
      · replace h := h.1 c5
        refine And.intro sh_l17 ?_
        rw [hr_17_1]
        obtain ⟨k6, hkk6, hek6, h⟩ := h
        refine And.intro (pm_ao_of (t := 0) sh_l49 hkk6 hek6 (by decide)) ?_
        rw [pm_tn hek6 hkk6 (by decide)]
        refine And.intro trivial ?_
        exact h
      · replace h := h.2 c5
        refine And.intro trivial ?_
        exact h
    · replace h := h.2 c4
      refine And.intro (sh_tx h_r5) ?_
      rw [(hr_tx h_r5)]
      obtain ⟨k7, hkk7, hek7, h⟩ := h
      refine And.intro (pm_ao_of (t := 0) (sh_tx1 h_r5) hkk7 hek7 (by decide)) ?_
      rw [pm_tn hek7 hkk7 (by decide)]
      refine And.intro (fun c8 => ?_) (fun c8 => ?_)
      · replace h := h.1 c8
        refine And.intro (fun c9 => ?_) (fun c9 => ?_)
        · replace h := h.1 c9
          refine And.intro (fun c10 => ?_) (fun c10 => ?_)
          · replace h := h.1 c10
            refine And.intro sh_l17 ?_
            rw [hr_17_1]
            refine And.intro sh_l17 ?_
            rw [hr_17_1]
            obtain ⟨k11, hkk11, hek11, h⟩ := h
            refine And.intro (pm_ao_of (t := 0) sh_l49 hkk11 hek11 (by decide)) ?_
            rw [pm_tn hek11 hkk11 (by decide)]
            refine And.intro sh_l17 ?_
            rw [hr_17_1]
            obtain ⟨k12, hkk12, hek12, h⟩ := h
            refine And.intro (pm_ao_of (t := 0) sh_l49 hkk12 hek12 (by decide)) ?_
            rw [pm_tn hek12 hkk12 (by decide)]
            refine And.intro trivial ?_
            refine f_Laws_joined_c (d := d)  ?_
            refine ⟨_, rfl, ?_⟩
            obtain ⟨k13, hkk13, hek13, h⟩ := h
            refine And.intro ⟨pm_aw_of sh_l49 hkk13 hek13 (by decide), trivial⟩ ?_
            rw [pm_tn hek13 hkk13 (by decide)]
            exact h
          · replace h := h.2 c10
            refine And.intro trivial ?_
            exact h
        · replace h := h.2 c9
          refine And.intro (fun c14 => ?_) (fun c14 => ?_)
          · replace h := h.1 c14
            refine And.intro sh_l17 ?_
            rw [hr_17_1]
            refine And.intro sh_l17 ?_
            rw [hr_17_1]
            obtain ⟨k15, hkk15, hek15, h⟩ := h
            refine And.intro (pm_ao_of (t := 0) sh_l49 hkk15 hek15 (by decide)) ?_
            rw [pm_tn hek15 hkk15 (by decide)]
            refine And.intro (fun c16 => ?_) (fun c16 => ?_)
            · replace h := h.1 c16
              refine And.intro trivial ?_
              refine f_Laws_truth_c (d := d)  ?_
              refine ⟨_, rfl, ?_⟩
              obtain ⟨k17, hkk17, hek17, h⟩ := h
              refine And.intro ⟨pm_aw_of sh_l49 hkk17 hek17 (by decide), trivial⟩ ?_
              rw [pm_tn hek17 hkk17 (by decide)]
              exact h
            · replace h := h.2 c16
              refine And.intro trivial ?_
              refine f_Laws_truth_c (d := d)  ?_
              refine ⟨_, rfl, ?_⟩
              obtain ⟨k18, hkk18, hek18, h⟩ := h
              refine And.intro ⟨pm_aw_of sh_l49 hkk18 hek18 (by decide), trivial⟩ ?_
              rw [pm_tn hek18 hkk18 (by decide)]
              exact h
          · replace h := h.2 c14
            refine And.intro trivial ?_
            exact h
      · replace h := h.2 c8
        refine And.intro sh_l17 ?_
        rw [hr_17_1]
        refine ⟨96, ⟨0, _, sh_l49⟩, ?_⟩
        rw [show nI 96 = (96 : Int32) from rfl]
        refine And.intro (fun c19 => ?_) (fun c19 => ?_)
        · replace h := h.1 c19
          refine And.intro sh_l17 ?_
          rw [hr_17_1]
          refine And.intro trivial ?_
          refine f_Laws_leafOf_c (d := d)  ?_
          refine ⟨_, rfl, ?_⟩
          obtain ⟨k20, hkk20, hek20, h⟩ := h
          refine And.intro ⟨pm_aw_of sh_l49 hkk20 hek20 (by decide), trivial⟩ ?_
          rw [pm_tn hek20 hkk20 (by decide)]
          exact h
        · replace h := h.2 c19
          refine And.intro trivial ?_
          exact h
theorem v_Saying_read {L d : Nat} {p1 : Nat} (h_p1 : pm_st p1) {hi : pm_B} {Q : pm_Q} (h : pm_W pm_g (SH L) HR (d + 1) pm_t48 7 [some (.inr 137), some (.inr p1), some (.inl 0)] [] (pm_u hi 137 1 0) Q) : pm_C pm_g (SH L) HR (d + 2) m_Saying_read [.inr 137, .inr p1] hi Q := by
  refine pm_C_of (maxL := 3) (t := pm_t48) rfl (Nat.le_of_ble_eq_true rfl) ?_
  refine pm_W_of 7 [7] rfl ?_
  refine And.intro ⟨sh_l137, trivial⟩ ?_
  exact h
theorem v_Saying_read_7 {L d : Nat}  {p1 : Nat} (h_p1 : pm_st p1) {y2 : Int32} {hi : pm_B} {Q : pm_Q} (h : ((12 ≤ y2) → Q none hi) ∧ ((¬ (12 ≤ y2)) → ((y2 < 0) → Q none hi) ∧ ((¬ (y2 < 0)) → (((hi p1 1) ≤ y2) → Q none hi) ∧ ((¬ ((hi p1 1) ≤ y2)) → ((24 ≤ y2) → Q none hi) ∧ ((¬ (24 ≤ y2)) → ∃ k5 : Nat, k5 < 24 ∧ y2 = nI k5 ∧ ((((hi (p1 + 1) k5) < 0) → Q none hi) ∧ ((¬ ((hi (p1 + 1) k5) < 0)) → ((20 ≤ (hi (p1 + 1) k5)) → Q none hi) ∧ ((¬ (20 ≤ (hi (p1 + 1) k5))) → ∃ k8 : Nat, k8 < 24 ∧ y2 = nI k8 ∧ (∃ k9 : Nat, k9 < 12 ∧ y2 = nI k9 ∧ (∀ hi10 : pm_B, hi10 = pm_u (pm_u hi 138 k9 (hi (p1 + 1) k8)) 137 1 (((pm_u hi 138 k9 (hi (p1 + 1) k8)) 137 1) + 1) → (pm_W pm_g (SH L) HR (d + 1) pm_t48 7 [some (.inr 137), some (.inr p1), some (.inl (y2 + 1))] [] hi10 Q))))))))))) : pm_W pm_g (SH L) HR (d + 1) pm_t48 7 [some (.inr 137), some (.inr p1), some (.inl y2)] [] hi Q := by
  refine pm_W_of 33 [7] rfl ?_
  refine And.intro sh_l137 ?_
  rw [hr_137_0]
  refine ⟨12, ⟨0, _, sh_l138⟩, ?_⟩
  rw [show nI 12 = (12 : Int32) from rfl]
  refine And.intro (fun c1 => ?_) (fun c1 => ?_)
  · replace h := h.1 c1
    exact h
  · replace h := h.2 c1
    refine And.intro (sh_st h_p1) ?_
    refine v_Sheet_hasPlace (d := d) h_p1 ?_
    refine And.intro (fun c2 => ?_) (fun c2 => ?_)
    · replace h := h.1 c2
      refine ⟨_, rfl, ?_⟩
      refine And.intro (fun _ => ?_) (fun hc => absurd (pm_cd_t (by decide)) hc)
      exact h
    · replace h := h.2 c2
      refine And.intro (fun c3 => ?_) (fun c3 => ?_)
      · replace h := h.1 c3
        refine ⟨_, rfl, ?_⟩
        refine And.intro (fun _ => ?_) (fun hc => absurd (pm_cd_t (by decide)) hc)
        exact h
      · replace h := h.2 c3
        refine And.intro (fun c4 => ?_) (fun c4 => ?_)
        · replace h := h.1 c4
          refine ⟨_, rfl, ?_⟩
          refine And.intro (fun _ => ?_) (fun hc => absurd (pm_cd_t (by decide)) hc)
          exact h
        · replace h := h.2 c4
          refine ⟨_, rfl, ?_⟩
          refine And.intro (fun hc => absurd hc (pm_cd_f (by decide))) (fun _ => ?_)
          refine And.intro (sh_st h_p1) ?_
          rw [(hr_st h_p1)]
          obtain ⟨k5, hkk5, hek5, h⟩ := h
          refine And.intro (pm_ao_of (t := 0) (sh_st1 h_p1) hkk5 hek5 (by decide)) ?_
          rw [pm_tn hek5 hkk5 (by decide)]
          refine And.intro trivial ?_
          refine v_E_isWord (d := d)  ?_
          refine And.intro (fun c6 => ?_) (fun c6 => ?_)
          · replace h := h.1 c6
            refine ⟨_, rfl, ?_⟩
            refine And.intro (fun _ => ?_) (fun hc => absurd (pm_cd_t (by decide)) hc)
            exact h
          · replace h := h.2 c6
            refine And.intro (fun c7 => ?_) (fun c7 => ?_)
            · replace h := h.1 c7
              refine ⟨_, rfl, ?_⟩
              refine And.intro (fun _ => ?_) (fun hc => absurd (pm_cd_t (by decide)) hc)
              exact h
            · replace h := h.2 c7
              refine ⟨_, rfl, ?_⟩
              refine And.intro (fun hc => absurd hc (pm_cd_f (by decide))) (fun _ => ?_)
              refine And.intro sh_l137 ?_
              rw [hr_137_0]
              refine And.intro (sh_st h_p1) ?_
              rw [(hr_st h_p1)]
              obtain ⟨k8, hkk8, hek8, h⟩ := h
              refine And.intro (pm_ao_of (t := 0) (sh_st1 h_p1) hkk8 hek8 (by decide)) ?_
              rw [pm_tn hek8 hkk8 (by decide)]
              obtain ⟨k9, hkk9, hek9, h⟩ := h
              refine And.intro ⟨pm_aw_of sh_l138 hkk9 hek9 (by decide), trivial⟩ ?_
              rw [pm_tn hek9 hkk9 (by decide)]
              refine And.intro sh_l137 ?_
              refine And.intro ⟨sh_l137, trivial⟩ ?_
              obtain ⟨hi10, ehi10⟩ : ∃ m : pm_B, m = pm_u (pm_u hi 138 k9 (hi (p1 + 1) k8)) 137 1 (((pm_u hi 138 k9 (hi (p1 + 1) k8)) 137 1) + 1) := ⟨_, rfl⟩
              replace h := h hi10 ehi10
              rw [← ehi10]
              exact h
theorem v_Saying_firstOutside {L d : Nat} {p1 : Int32} {hi : pm_B} {Q : pm_Q} (h : pm_W pm_g (SH L) HR (d) pm_t49 2 [some (.inr 137), some (.inl p1), some (.inl 0)] [] hi Q) : pm_C pm_g (SH L) HR (d + 1) m_Saying_firstOutside [.inr 137, .inl p1] hi Q := by
  refine pm_C_of (maxL := 3) (t := pm_t49) rfl (Nat.le_of_ble_eq_true rfl) ?_
  refine pm_W_of 4 [2] rfl ?_
  exact h
theorem v_Saying_firstOutside_2 {L d : Nat}  {p1 : Int32} {y2 : Int32} {hi : pm_B} {Q : pm_Q} (h : (((hi 137 1) ≤ y2) → Q (some (.inl (-1000000005))) hi) ∧ ((¬ ((hi 137 1) ≤ y2)) → ((12 ≤ y2) → Q (some (.inl (-1000000005))) hi) ∧ ((¬ (12 ≤ y2)) → ∃ k3 : Nat, k3 < 12 ∧ y2 = nI k3 ∧ (((¬ (((Int32.toUInt32 p1 >>> (Int32.toUInt32 (hi 138 k3) &&& Int32.toUInt32 31)).toInt32) &&& 1) = 0) → pm_W pm_g (SH L) HR (d) pm_t49 2 [some (.inr 137), some (.inl p1), some (.inl (y2 + 1))] [] hi Q) ∧ ((¬ (¬ (((Int32.toUInt32 p1 >>> (Int32.toUInt32 (hi 138 k3) &&& Int32.toUInt32 31)).toInt32) &&& 1) = 0)) → ∃ k5 : Nat, k5 < 12 ∧ y2 = nI k5 ∧ (Q (some (.inl (hi 138 k5))) hi)))))) : pm_W pm_g (SH L) HR (d) pm_t49 2 [some (.inr 137), some (.inl p1), some (.inl y2)] [] hi Q := by
  refine pm_W_of 25 [2] rfl ?_
  refine And.intro sh_l137 ?_
  refine And.intro (fun c1 => ?_) (fun c1 => ?_)
  · replace h := h.1 c1
    refine And.intro trivial ?_
    exact h
  · replace h := h.2 c1
    refine And.intro sh_l137 ?_
    rw [hr_137_0]
    refine ⟨12, ⟨0, _, sh_l138⟩, ?_⟩
    rw [show nI 12 = (12 : Int32) from rfl]
    refine And.intro (fun c2 => ?_) (fun c2 => ?_)
    · replace h := h.1 c2
      refine And.intro trivial ?_
      exact h
    · replace h := h.2 c2
      refine And.intro sh_l137 ?_
      rw [hr_137_0]
      obtain ⟨k3, hkk3, hek3, h⟩ := h
      refine And.intro (pm_ao_of (t := 0) sh_l138 hkk3 hek3 (by decide)) ?_
      rw [pm_tn hek3 hkk3 (by decide)]
      refine And.intro (fun c4 => ?_) (fun c4 => ?_)
      · replace h := h.1 c4
        exact h
      · replace h := h.2 c4
        refine And.intro sh_l137 ?_
        rw [hr_137_0]
        obtain ⟨k5, hkk5, hek5, h⟩ := h
        refine And.intro (pm_ao_of (t := 0) sh_l138 hkk5 hek5 (by decide)) ?_
        rw [pm_tn hek5 hkk5 (by decide)]
        refine And.intro trivial ?_
        exact h
theorem v_Saying_breathsOf {L d : Nat} {p1 : Nat} (h_p1 : pm_sk p1) {hi : pm_B} {Q : pm_Q} (h : pm_W pm_g (SH L) HR (d + 1) pm_t50 16 [some (.inr 137), some (.inr p1), some (.inl (f_Kinds_goesOf (hi p1 0))), some (.inl 0), some (.inl 0), some (.inl 0), none] [] hi Q) : pm_C pm_g (SH L) HR (d + 2) m_Saying_breathsOf [.inr 137, .inr p1] hi Q := by
  refine pm_C_of (maxL := 7) (t := pm_t50) rfl (Nat.le_of_ble_eq_true rfl) ?_
  refine pm_W_of 12 [16] rfl ?_
  refine And.intro (sh_sk h_p1) ?_
  refine And.intro trivial ?_
  refine f_Kinds_goesOf_c (d := d)  ?_
  refine ⟨_, rfl, ?_⟩
  exact h
theorem v_Saying_breathsOf_16 {L d : Nat} {o6 : Option pm_V} {p1 : Nat} (h_p1 : pm_sk p1) {y2 : Int32} {y3 : Int32} {y4 : Int32} {y5 : Int32} {hi : pm_B} {Q : pm_Q} (h : ((12 ≤ y5) → Q (some (.inl y3)) hi) ∧ ((¬ (12 ≤ y5)) → (((hi 137 1) ≤ y4) → Q (some (.inl y3)) hi) ∧ ((¬ ((hi 137 1) ≤ y4)) → pm_C pm_g (SH L) HR (d + 1) m_Saying_longestPiece [.inr 137, .inr p1, .inl y4, .inl y2] hi (fun v hi3 => ∃ x4 : Int32, v = some (.inl x4) ∧ (((¬ x4 = 0) → pm_W pm_g (SH L) HR (d + 1) pm_t50 16 [some (.inr 137), some (.inr p1), some (.inl y2), some (.inl (y3 + 1)), some (.inl (y4 + x4)), some (.inl (y5 + 1)), some (.inl x4)] [] hi3 Q) ∧ ((¬ (¬ x4 = 0)) → Q (some (.inl (-1000000005))) hi3)))))) : pm_W pm_g (SH L) HR (d + 1) pm_t50 16 [some (.inr 137), some (.inr p1), some (.inl y2), some (.inl y3), some (.inl y4), some (.inl y5), o6] [] hi Q := by
  refine pm_W_of 26 [16] rfl ?_
  refine And.intro sh_l137 ?_
  rw [hr_137_0]
  refine ⟨12, ⟨0, _, sh_l138⟩, ?_⟩
  rw [show nI 12 = (12 : Int32) from rfl]
  refine And.intro (fun c1 => ?_) (fun c1 => ?_)
  · replace h := h.1 c1
    refine And.intro trivial ?_
    exact h
  · replace h := h.2 c1
    refine And.intro sh_l137 ?_
    refine And.intro (fun c2 => ?_) (fun c2 => ?_)
    · replace h := h.1 c2
      refine And.intro trivial ?_
      exact h
    · replace h := h.2 c2
      refine And.intro sh_l137 ?_
      refine pm_C_imp h (fun v hi3 h => ?_)
      obtain ⟨x4, rfl, h⟩ := h
      refine ⟨_, rfl, ?_⟩
      refine And.intro (fun c5 => ?_) (fun c5 => ?_)
      · replace h := h.1 c5
        exact h
      · replace h := h.2 c5
        refine And.intro trivial ?_
        exact h
theorem v_Saying_longestPiece {L d : Nat} {p1 : Nat} (h_p1 : pm_sk p1) {p2 : Int32} {p3 : Int32} {hi : pm_B} {Q : pm_Q} (h : pm_W pm_g (SH L) HR (d) pm_t51 6 [some (.inr 137), some (.inr p1), some (.inl p2), some (.inl p3), some (.inl 0), some (.inl 0)] [] hi Q) : pm_C pm_g (SH L) HR (d + 1) m_Saying_longestPiece [.inr 137, .inr p1, .inl p2, .inl p3] hi Q := by
  refine pm_C_of (maxL := 6) (t := pm_t51) rfl (Nat.le_of_ble_eq_true rfl) ?_
  refine pm_W_of 6 [6] rfl ?_
  exact h
theorem v_Saying_longestPiece_6 {L d : Nat}  {p1 : Nat} (h_p1 : pm_sk p1) {p2 : Int32} {p3 : Int32} {y4 : Int32} {y5 : Int32} {hi : pm_B} {Q : pm_Q} (h : (((hi p1 4) ≤ y5) → Q (some (.inl (if p3 < y4 then p3 else y4))) hi) ∧ ((¬ ((hi p1 4) ≤ y5)) → pm_C pm_g (SH L) HR (d) m_Saying_sameWords [.inr 137, .inr p1, .inl p2, .inl y5] hi (fun v hi2 => ∃ x3 : Int32, v = some (.inl x3) ∧ (pm_W pm_g (SH L) HR (d) pm_t51 6 [some (.inr 137), some (.inr p1), some (.inl p2), some (.inl p3), some (.inl (if y4 < x3 then x3 else y4)), some (.inl (y5 + 1))] [] hi2 Q)))) : pm_W pm_g (SH L) HR (d) pm_t51 6 [some (.inr 137), some (.inr p1), some (.inl p2), some (.inl p3), some (.inl y4), some (.inl y5)] [] hi Q := by
  refine pm_W_of 16 [6] rfl ?_
  refine And.intro (sh_sk h_p1) ?_
  refine And.intro (fun c1 => ?_) (fun c1 => ?_)
  · replace h := h.1 c1
    refine And.intro trivial ?_
    exact h
  · replace h := h.2 c1
    refine And.intro sh_l137 ?_
    refine pm_C_imp h (fun v hi2 h => ?_)
    obtain ⟨x3, rfl, h⟩ := h
    refine ⟨_, rfl, ?_⟩
    exact h
theorem v_Saying_sameWords {L d : Nat} {p1 : Nat} (h_p1 : pm_sk p1) {p2 : Int32} {p3 : Int32} {hi : pm_B} {Q : pm_Q} (h : pm_W pm_g (SH L) HR (d + 1) pm_t52 6 [some (.inr 137), some (.inr p1), some (.inl p2), some (.inl p3), some (.inl 0), some (.inl 0), none] [] hi Q) : pm_C pm_g (SH L) HR (d + 2) m_Saying_sameWords [.inr 137, .inr p1, .inl p2, .inl p3] hi Q := by
  refine pm_C_of (maxL := 7) (t := pm_t52) rfl (Nat.le_of_ble_eq_true rfl) ?_
  refine pm_W_of 6 [6] rfl ?_
  exact h
theorem v_Saying_sameWords_6 {L d : Nat} {o6 : Option pm_V} {p1 : Nat} (h_p1 : pm_sk p1) {p2 : Int32} {p3 : Int32} {y4 : Int32} {y5 : Int32} {hi : pm_B} {Q : pm_Q} (h : ((12 ≤ y5) → Q (some (.inl y4)) hi) ∧ ((¬ (12 ≤ y5)) → (((p2 + y5) < 0) → Q (some (.inl y4)) hi) ∧ ((¬ ((p2 + y5) < 0)) → (((hi 137 1) ≤ (p2 + y5)) → Q (some (.inl y4)) hi) ∧ ((¬ ((hi 137 1) ≤ (p2 + y5))) → (((p2 + y5) < 12) → ∃ k5 : Nat, k5 < 12 ∧ (p2 + y5) = nI k5 ∧ ((((p3 + y5) < 0) → (((hi 138 k5) = (-1000000005)) → pm_W pm_g (SH L) HR (d + 1) pm_t52 6 [some (.inr 137), some (.inr p1), some (.inl p2), some (.inl p3), some (.inl (y4 + 1)), some (.inl (y5 + 1)), some (.inl (p2 + y5))] [] hi Q) ∧ ((¬ ((hi 138 k5) = (-1000000005))) → Q (some (.inl y4)) hi)) ∧ ((¬ ((p3 + y5) < 0)) → (((hi p1 4) ≤ (p3 + y5)) → (((hi 138 k5) = (-1000000005)) → pm_W pm_g (SH L) HR (d + 1) pm_t52 6 [some (.inr 137), some (.inr p1), some (.inl p2), some (.inl p3), some (.inl (y4 + 1)), some (.inl (y5 + 1)), some (.inl (p2 + y5))] [] hi Q) ∧ ((¬ ((hi 138 k5) = (-1000000005))) → Q (some (.inl y4)) hi)) ∧ ((¬ ((hi p1 4) ≤ (p3 + y5))) → ((24 ≤ (p3 + y5)) → (((hi 138 k5) = (-1000000005)) → pm_W pm_g (SH L) HR (d + 1) pm_t52 6 [some (.inr 137), some (.inr p1), some (.inl p2), some (.inl p3), some (.inl (y4 + 1)), some (.inl (y5 + 1)), some (.inl (p2 + y5))] [] hi Q) ∧ ((¬ ((hi 138 k5) = (-1000000005))) → Q (some (.inl y4)) hi)) ∧ ((¬ (24 ≤ (p3 + y5))) → ∃ k12 : Nat, k12 < 24 ∧ (p3 + y5) = nI k12 ∧ ((((hi 138 k5) = (hi (p1 + 1) k12)) → pm_W pm_g (SH L) HR (d + 1) pm_t52 6 [some (.inr 137), some (.inr p1), some (.inl p2), some (.inl p3), some (.inl (y4 + 1)), some (.inl (y5 + 1)), some (.inl (p2 + y5))] [] hi Q) ∧ ((¬ ((hi 138 k5) = (hi (p1 + 1) k12))) → Q (some (.inl y4)) hi))))))) ∧ ((¬ ((p2 + y5) < 12)) → Q (some (.inl y4)) hi))))) : pm_W pm_g (SH L) HR (d + 1) pm_t52 6 [some (.inr 137), some (.inr p1), some (.inl p2), some (.inl p3), some (.inl y4), some (.inl y5), o6] [] hi Q := by
  refine pm_W_of 35 [6] rfl ?_
  refine And.intro sh_l137 ?_
  rw [hr_137_0]
  refine ⟨12, ⟨0, _, sh_l138⟩, ?_⟩
  rw [show nI 12 = (12 : Int32) from rfl]
  refine And.intro (fun c1 => ?_) (fun c1 => ?_)
  · replace h := h.1 c1
    refine And.intro trivial ?_
    exact h
  · replace h := h.2 c1
    refine And.intro (fun c2 => ?_) (fun c2 => ?_)
    · replace h := h.1 c2
      refine And.intro trivial ?_
      exact h
    · replace h := h.2 c2
      refine And.intro sh_l137 ?_
      refine And.intro (fun c3 => ?_) (fun c3 => ?_)
      · replace h := h.1 c3
        refine And.intro trivial ?_
        exact h
      · replace h := h.2 c3
        refine And.intro sh_l137 ?_
        rw [hr_137_0]
        refine ⟨12, ⟨0, _, sh_l138⟩, ?_⟩
        rw [show nI 12 = (12 : Int32) from rfl]
        refine And.intro (fun c4 => ?_) (fun c4 => ?_)
        · replace h := h.1 c4
          refine And.intro sh_l137 ?_
          rw [hr_137_0]
          obtain ⟨k5, hkk5, hek5, h⟩ := h
          refine And.intro (pm_ao_of (t := 0) sh_l138 hkk5 hek5 (by decide)) ?_
          rw [pm_tn hek5 hkk5 (by decide)]
          refine And.intro (sh_sk h_p1) ?_
          refine v_Speaker_wordAt (d := d) h_p1 ?_
          refine And.intro (fun c6 => ?_) (fun c6 => ?_)
          · replace h := h.1 c6
            refine ⟨_, rfl, ?_⟩
            refine And.intro (fun c7 => ?_) (fun c7 => ?_)
            · replace h := h.1 c7
              exact h
            · replace h := h.2 c7
              refine And.intro trivial ?_
              exact h
          · replace h := h.2 c6
            refine And.intro (fun c8 => ?_) (fun c8 => ?_)
            · replace h := h.1 c8
              refine ⟨_, rfl, ?_⟩
              refine And.intro (fun c9 => ?_) (fun c9 => ?_)
              · replace h := h.1 c9
                exact h
              · replace h := h.2 c9
                refine And.intro trivial ?_
                exact h
            · replace h := h.2 c8
              refine And.intro (fun c10 => ?_) (fun c10 => ?_)
              · replace h := h.1 c10
                refine ⟨_, rfl, ?_⟩
                refine And.intro (fun c11 => ?_) (fun c11 => ?_)
                · replace h := h.1 c11
                  exact h
                · replace h := h.2 c11
                  refine And.intro trivial ?_
                  exact h
              · replace h := h.2 c10
                obtain ⟨k12, hkk12, hek12, h⟩ := h
                refine ⟨k12, hkk12, hek12, ?_⟩
                refine ⟨_, rfl, ?_⟩
                refine And.intro (fun c13 => ?_) (fun c13 => ?_)
                · replace h := h.1 c13
                  exact h
                · replace h := h.2 c13
                  refine And.intro trivial ?_
                  exact h
        · replace h := h.2 c4
          refine And.intro trivial ?_
          exact h
theorem v_Sheet_begin {L d : Nat} {this : Nat} (h_this : pm_st this) {p1 : Int32} {p2 : Int32} {hi : pm_B} {Q : pm_Q} (h : ∀ hi1 : pm_B, hi1 = pm_u (pm_u hi this 0 p1) this 1 p2 → (pm_W pm_g (SH L) HR (d) pm_t54 12 [some (.inr this), some (.inl p1), some (.inl p2), some (.inl 0)] [] hi1 Q)) : pm_C pm_g (SH L) HR (d + 1) m_Sheet_begin [.inr this, .inl p1, .inl p2] hi Q := by
  refine pm_C_of (maxL := 4) (t := pm_t54) rfl (Nat.le_of_ble_eq_true rfl) ?_
  refine pm_W_of 10 [12] rfl ?_
  refine And.intro ⟨(sh_st h_this), trivial⟩ ?_
  refine And.intro ⟨(sh_st h_this), trivial⟩ ?_
  obtain ⟨hi1, ehi1⟩ : ∃ m : pm_B, m = pm_u (pm_u hi this 0 p1) this 1 p2 := ⟨_, rfl⟩
  replace h := h hi1 ehi1
  rw [← ehi1]
  exact h
theorem v_Sheet_begin_12 {L d : Nat}  {this : Nat} (h_this : pm_st this) {p1 : Int32} {p2 : Int32} {y3 : Int32} {hi : pm_B} {Q : pm_Q} (h : ((24 ≤ y3) → Q none hi) ∧ ((¬ (24 ≤ y3)) → ∃ k2 : Nat, k2 < 24 ∧ y3 = nI k2 ∧ (pm_W pm_g (SH L) HR (d) pm_t54 12 [some (.inr this), some (.inl p1), some (.inl p2), some (.inl (y3 + 1))] [] (pm_u hi (this + 1) k2 0) Q))) : pm_W pm_g (SH L) HR (d) pm_t54 12 [some (.inr this), some (.inl p1), some (.inl p2), some (.inl y3)] [] hi Q := by
  refine pm_W_of 14 [12] rfl ?_
  refine And.intro (sh_st h_this) ?_
  rw [(hr_st h_this)]
  refine ⟨24, ⟨0, _, (sh_st1 h_this)⟩, ?_⟩
  rw [show nI 24 = (24 : Int32) from rfl]
  refine And.intro (fun c1 => ?_) (fun c1 => ?_)
  · replace h := h.1 c1
    exact h
  · replace h := h.2 c1
    refine And.intro (sh_st h_this) ?_
    rw [(hr_st h_this)]
    obtain ⟨k2, hkk2, hek2, h⟩ := h
    refine And.intro ⟨pm_aw_of (sh_st1 h_this) hkk2 hek2 (by decide), trivial⟩ ?_
    rw [pm_tn hek2 hkk2 (by decide)]
    exact h
theorem v_Sheet_become {L d : Nat} {this : Nat} (h_this : pm_st this) {p1 : Nat} (h_p1 : pm_st p1) {hi : pm_B} {Q : pm_Q} (h : ∀ hi1 : pm_B, hi1 = pm_u (pm_u hi this 0 (hi p1 0)) this 1 ((pm_u hi this 0 (hi p1 0)) p1 1) → (pm_W pm_g (SH L) HR (d) pm_t55 18 [some (.inr this), some (.inr p1), some (.inl 0)] [] hi1 Q)) : pm_C pm_g (SH L) HR (d + 1) m_Sheet_become [.inr this, .inr p1] hi Q := by
  refine pm_C_of (maxL := 3) (t := pm_t55) rfl (Nat.le_of_ble_eq_true rfl) ?_
  refine pm_W_of 12 [18] rfl ?_
  refine And.intro (sh_st h_p1) ?_
  refine And.intro ⟨(sh_st h_this), trivial⟩ ?_
  refine And.intro (sh_st h_p1) ?_
  refine And.intro ⟨(sh_st h_this), trivial⟩ ?_
  obtain ⟨hi1, ehi1⟩ : ∃ m : pm_B, m = pm_u (pm_u hi this 0 (hi p1 0)) this 1 ((pm_u hi this 0 (hi p1 0)) p1 1) := ⟨_, rfl⟩
  replace h := h hi1 ehi1
  rw [← ehi1]
  exact h
theorem v_Sheet_become_18 {L d : Nat}  {this : Nat} (h_this : pm_st this) {p1 : Nat} (h_p1 : pm_st p1) {y2 : Int32} {hi : pm_B} {Q : pm_Q} (h : ((24 ≤ y2) → Q none hi) ∧ ((¬ (24 ≤ y2)) → ∃ k2 : Nat, k2 < 24 ∧ y2 = nI k2 ∧ (∃ k3 : Nat, k3 < 24 ∧ y2 = nI k3 ∧ (pm_W pm_g (SH L) HR (d) pm_t55 18 [some (.inr this), some (.inr p1), some (.inl (y2 + 1))] [] (pm_u hi (this + 1) k3 (hi (p1 + 1) k2)) Q)))) : pm_W pm_g (SH L) HR (d) pm_t55 18 [some (.inr this), some (.inr p1), some (.inl y2)] [] hi Q := by
  refine pm_W_of 17 [18] rfl ?_
  refine And.intro (sh_st h_this) ?_
  rw [(hr_st h_this)]
  refine ⟨24, ⟨0, _, (sh_st1 h_this)⟩, ?_⟩
  rw [show nI 24 = (24 : Int32) from rfl]
  refine And.intro (fun c1 => ?_) (fun c1 => ?_)
  · replace h := h.1 c1
    exact h
  · replace h := h.2 c1
    refine And.intro (sh_st h_this) ?_
    rw [(hr_st h_this)]
    refine And.intro (sh_st h_p1) ?_
    rw [(hr_st h_p1)]
    obtain ⟨k2, hkk2, hek2, h⟩ := h
    refine And.intro (pm_ao_of (t := 0) (sh_st1 h_p1) hkk2 hek2 (by decide)) ?_
    rw [pm_tn hek2 hkk2 (by decide)]
    obtain ⟨k3, hkk3, hek3, h⟩ := h
    refine And.intro ⟨pm_aw_of (sh_st1 h_this) hkk3 hek3 (by decide), trivial⟩ ?_
    rw [pm_tn hek3 hkk3 (by decide)]
    exact h
theorem v_Speaker_become {L d : Nat} {this : Nat} (h_this : pm_sk this) {p1 : Nat} (h_p1 : pm_sk p1) {hi : pm_B} {Q : pm_Q} (h : ∀ hi1 : pm_B, hi1 = pm_u (pm_u hi this 0 (hi p1 0)) this 1 ((pm_u hi this 0 (hi p1 0)) p1 1) → (∀ hi2 : pm_B, hi2 = pm_u (pm_u hi1 this 2 (hi1 p1 2)) this 3 ((pm_u hi1 this 2 (hi1 p1 2)) p1 3) → (pm_W pm_g (SH L) HR (d) pm_t62 42 [some (.inr this), some (.inr p1), some (.inl 0)] [] (pm_u hi2 this 4 (hi2 p1 4)) Q))) : pm_C pm_g (SH L) HR (d + 1) m_Speaker_become [.inr this, .inr p1] hi Q := by
  refine pm_C_of (maxL := 3) (t := pm_t62) rfl (Nat.le_of_ble_eq_true rfl) ?_
  refine pm_W_of 24 [42] rfl ?_
  refine And.intro (sh_sk h_p1) ?_
  refine And.intro ⟨(sh_sk h_this), trivial⟩ ?_
  refine And.intro (sh_sk h_p1) ?_
  refine And.intro ⟨(sh_sk h_this), trivial⟩ ?_
  obtain ⟨hi1, ehi1⟩ : ∃ m : pm_B, m = pm_u (pm_u hi this 0 (hi p1 0)) this 1 ((pm_u hi this 0 (hi p1 0)) p1 1) := ⟨_, rfl⟩
  replace h := h hi1 ehi1
  rw [← ehi1]
  refine And.intro (sh_sk h_p1) ?_
  refine And.intro ⟨(sh_sk h_this), trivial⟩ ?_
  refine And.intro (sh_sk h_p1) ?_
  refine And.intro ⟨(sh_sk h_this), trivial⟩ ?_
  obtain ⟨hi2, ehi2⟩ : ∃ m : pm_B, m = pm_u (pm_u hi1 this 2 (hi1 p1 2)) this 3 ((pm_u hi1 this 2 (hi1 p1 2)) p1 3) := ⟨_, rfl⟩
  replace h := h hi2 ehi2
  rw [← ehi2]
  refine And.intro (sh_sk h_p1) ?_
  refine And.intro ⟨(sh_sk h_this), trivial⟩ ?_
  exact h
theorem v_Speaker_become_42 {L d : Nat}  {this : Nat} (h_this : pm_sk this) {p1 : Nat} (h_p1 : pm_sk p1) {y2 : Int32} {hi : pm_B} {Q : pm_Q} (h : (((hi this 4) ≤ y2) → Q none hi) ∧ ((¬ ((hi this 4) ≤ y2)) → ((24 ≤ y2) → Q none hi) ∧ ((¬ (24 ≤ y2)) → ∃ k3 : Nat, k3 < 24 ∧ y2 = nI k3 ∧ (∃ k4 : Nat, k4 < 24 ∧ y2 = nI k4 ∧ (pm_W pm_g (SH L) HR (d) pm_t62 42 [some (.inr this), some (.inr p1), some (.inl (y2 + 1))] [] (pm_u hi (this + 1) k4 (hi (p1 + 1) k3)) Q))))) : pm_W pm_g (SH L) HR (d) pm_t62 42 [some (.inr this), some (.inr p1), some (.inl y2)] [] hi Q := by
  refine pm_W_of 21 [42] rfl ?_
  refine And.intro (sh_sk h_this) ?_
  refine And.intro (fun c1 => ?_) (fun c1 => ?_)
  · replace h := h.1 c1
    exact h
  · replace h := h.2 c1
    refine And.intro (sh_sk h_this) ?_
    rw [(hr_sk h_this)]
    refine ⟨24, ⟨0, _, (sh_sk1 h_this)⟩, ?_⟩
    rw [show nI 24 = (24 : Int32) from rfl]
    refine And.intro (fun c2 => ?_) (fun c2 => ?_)
    · replace h := h.1 c2
      exact h
    · replace h := h.2 c2
      refine And.intro (sh_sk h_this) ?_
      rw [(hr_sk h_this)]
      refine And.intro (sh_sk h_p1) ?_
      rw [(hr_sk h_p1)]
      obtain ⟨k3, hkk3, hek3, h⟩ := h
      refine And.intro (pm_ao_of (t := 0) (sh_sk1 h_p1) hkk3 hek3 (by decide)) ?_
      rw [pm_tn hek3 hkk3 (by decide)]
      obtain ⟨k4, hkk4, hek4, h⟩ := h
      refine And.intro ⟨pm_aw_of (sh_sk1 h_this) hkk4 hek4 (by decide), trivial⟩ ?_
      rw [pm_tn hek4 hkk4 (by decide)]
      exact h
theorem v_Speaker_wordSet {L d : Nat} {this : Nat} (h_this : pm_sk this) {hi : pm_B} {Q : pm_Q} (h : pm_W pm_g (SH L) HR (d) pm_t64 4 [some (.inr this), some (.inl 0), some (.inl 0)] [] hi Q) : pm_C pm_g (SH L) HR (d + 1) m_Speaker_wordSet [.inr this] hi Q := by
  refine pm_C_of (maxL := 3) (t := pm_t64) rfl (Nat.le_of_ble_eq_true rfl) ?_
  refine pm_W_of 6 [4] rfl ?_
  exact h
theorem v_Speaker_wordSet_4 {L d : Nat}  {this : Nat} (h_this : pm_sk this) {y1 : Int32} {y2 : Int32} {hi : pm_B} {Q : pm_Q} (h : (((hi this 4) ≤ y2) → Q (some (.inl y1)) hi) ∧ ((¬ ((hi this 4) ≤ y2)) → ((24 ≤ y2) → Q (some (.inl y1)) hi) ∧ ((¬ (24 ≤ y2)) → ∃ k3 : Nat, k3 < 24 ∧ y2 = nI k3 ∧ (pm_W pm_g (SH L) HR (d) pm_t64 4 [some (.inr this), some (.inl (y1 ||| (1 <<< ((hi (this + 1) k3) &&& 31)))), some (.inl (y2 + 1))] [] hi Q)))) : pm_W pm_g (SH L) HR (d) pm_t64 4 [some (.inr this), some (.inl y1), some (.inl y2)] [] hi Q := by
  refine pm_W_of 22 [4] rfl ?_
  refine And.intro (sh_sk h_this) ?_
  refine And.intro (fun c1 => ?_) (fun c1 => ?_)
  · replace h := h.1 c1
    refine And.intro trivial ?_
    exact h
  · replace h := h.2 c1
    refine And.intro (sh_sk h_this) ?_
    rw [(hr_sk h_this)]
    refine ⟨24, ⟨0, _, (sh_sk1 h_this)⟩, ?_⟩
    rw [show nI 24 = (24 : Int32) from rfl]
    refine And.intro (fun c2 => ?_) (fun c2 => ?_)
    · replace h := h.1 c2
      refine And.intro trivial ?_
      exact h
    · replace h := h.2 c2
      refine And.intro (sh_sk h_this) ?_
      rw [(hr_sk h_this)]
      obtain ⟨k3, hkk3, hek3, h⟩ := h
      refine And.intro (pm_ao_of (t := 0) (sh_sk1 h_this) hkk3 hek3 (by decide)) ?_
      rw [pm_tn hek3 hkk3 (by decide)]
      exact h
theorem v_Speaker_putBehind {L d : Nat} {this : Nat} (h_this : pm_sk this) {p1 n_p1 : Nat} (h_p1 : (SH L)[p1]? = some (1, 0, n_p1)) (hl_p1 : n_p1 ≤ 2147483648) {p2 : Int32} {p3 : Int32} {hi : pm_B} {Q : pm_Q} (h : pm_W pm_g (SH L) HR (d) pm_t65 3 [some (.inr this), some (.inr p1), some (.inl p2), some (.inl p3), some (.inl 0), none] [] hi Q) : pm_C pm_g (SH L) HR (d + 1) m_Speaker_putBehind [.inr this, .inr p1, .inl p2, .inl p3] hi Q := by
  refine pm_C_of (maxL := 6) (t := pm_t65) rfl (Nat.le_of_ble_eq_true rfl) ?_
  refine pm_W_of 4 [3] rfl ?_
  exact h
theorem v_Speaker_putBehind_3 {L d : Nat} {o5 : Option pm_V} {this : Nat} (h_this : pm_sk this) {p1 n_p1 : Nat} (h_p1 : (SH L)[p1]? = some (1, 0, n_p1)) (hl_p1 : n_p1 ≤ 2147483648) {p2 : Int32} {p3 : Int32} {y4 : Int32} {hi : pm_B} {Q : pm_Q} (h : ((p3 ≤ y4) → Q none hi) ∧ ((¬ (p3 ≤ y4)) → (((p2 + y4) < 0) → Q none hi) ∧ ((¬ ((p2 + y4) < 0)) → (((nI n_p1) ≤ (p2 + y4)) → Q none hi) ∧ ((¬ ((nI n_p1) ≤ (p2 + y4))) → (((hi this 4) < 0) → Q none hi) ∧ ((¬ ((hi this 4) < 0)) → (((hi this 4) < 24) → ∃ k6 : Nat, k6 < n_p1 ∧ (p2 + y4) = nI k6 ∧ (∃ k7 : Nat, k7 < 24 ∧ (hi this 4) = nI k7 ∧ (∀ hi8 : pm_B, hi8 = pm_u (pm_u hi (this + 1) k7 (hi p1 k6)) this 4 (((pm_u hi (this + 1) k7 (hi p1 k6)) this 4) + 1) → (pm_W pm_g (SH L) HR (d) pm_t65 3 [some (.inr this), some (.inr p1), some (.inl p2), some (.inl p3), some (.inl (y4 + 1)), some (.inl (p2 + y4))] [] hi8 Q)))) ∧ ((¬ ((hi this 4) < 24)) → Q none hi)))))) : pm_W pm_g (SH L) HR (d) pm_t65 3 [some (.inr this), some (.inr p1), some (.inl p2), some (.inl p3), some (.inl y4), o5] [] hi Q := by
  refine pm_W_of 40 [3] rfl ?_
  refine And.intro (fun c1 => ?_) (fun c1 => ?_)
  · replace h := h.1 c1
    exact h
  · replace h := h.2 c1
    refine And.intro (fun c2 => ?_) (fun c2 => ?_)
    · replace h := h.1 c2
      exact h
    · replace h := h.2 c2
      refine ⟨n_p1, ⟨0, _, h_p1⟩, ?_⟩
      refine And.intro (fun c3 => ?_) (fun c3 => ?_)
      · replace h := h.1 c3
        exact h
      · replace h := h.2 c3
        refine And.intro (sh_sk h_this) ?_
        refine And.intro (fun c4 => ?_) (fun c4 => ?_)
        · replace h := h.1 c4
          exact h
        · replace h := h.2 c4
          refine And.intro (sh_sk h_this) ?_
          refine And.intro (sh_sk h_this) ?_
          rw [(hr_sk h_this)]
          refine ⟨24, ⟨0, _, (sh_sk1 h_this)⟩, ?_⟩
          rw [show nI 24 = (24 : Int32) from rfl]
          refine And.intro (fun c5 => ?_) (fun c5 => ?_)
          · replace h := h.1 c5
            refine And.intro (sh_sk h_this) ?_
            rw [(hr_sk h_this)]
            refine And.intro (sh_sk h_this) ?_
            obtain ⟨k6, hkk6, hek6, h⟩ := h
            refine And.intro (pm_ao_of (t := 0) h_p1 hkk6 hek6 hl_p1) ?_
            rw [pm_tn hek6 hkk6 hl_p1]
            obtain ⟨k7, hkk7, hek7, h⟩ := h
            refine And.intro ⟨pm_aw_of (sh_sk1 h_this) hkk7 hek7 (by decide), trivial⟩ ?_
            rw [pm_tn hek7 hkk7 (by decide)]
            refine And.intro (sh_sk h_this) ?_
            refine And.intro ⟨(sh_sk h_this), trivial⟩ ?_
            obtain ⟨hi8, ehi8⟩ : ∃ m : pm_B, m = pm_u (pm_u hi (this + 1) k7 (hi p1 k6)) this 4 (((pm_u hi (this + 1) k7 (hi p1 k6)) this 4) + 1) := ⟨_, rfl⟩
            replace h := h hi8 ehi8
            rw [← ehi8]
            exact h
          · replace h := h.2 c5
            exact h
theorem v_Speaker_forgetOldest {L d : Nat} {this : Nat} (h_this : pm_sk this) {p1 : Int32} {hi : pm_B} {Q : pm_Q} (h : ((p1 < 1) → Q none hi) ∧ ((¬ (p1 < 1)) → ((p1 ≤ (hi this 4)) → pm_W pm_g (SH L) HR (d) pm_t66 26 [some (.inr this), some (.inl p1), some (.inl 0)] [] (pm_u hi this 4 ((hi this 4) - p1)) Q) ∧ ((¬ (p1 ≤ (hi this 4))) → Q none hi))) : pm_C pm_g (SH L) HR (d + 1) m_Speaker_forgetOldest [.inr this, .inl p1] hi Q := by
  refine pm_C_of (maxL := 3) (t := pm_t66) rfl (Nat.le_of_ble_eq_true rfl) ?_
  refine pm_W_of 17 [26] rfl ?_
  refine And.intro (fun c1 => ?_) (fun c1 => ?_)
  · replace h := h.1 c1
    exact h
  · replace h := h.2 c1
    refine And.intro (sh_sk h_this) ?_
    refine And.intro (fun c2 => ?_) (fun c2 => ?_)
    · replace h := h.1 c2
      refine And.intro (sh_sk h_this) ?_
      refine And.intro ⟨(sh_sk h_this), trivial⟩ ?_
      exact h
    · replace h := h.2 c2
      exact h
theorem v_Speaker_forgetOldest_26 {L d : Nat}  {this : Nat} (h_this : pm_sk this) {p1 : Int32} {y2 : Int32} {hi : pm_B} {Q : pm_Q} (h : (((hi this 4) ≤ y2) → Q none hi) ∧ ((¬ ((hi this 4) ≤ y2)) → ((24 ≤ (y2 + p1)) → Q none hi) ∧ ((¬ (24 ≤ (y2 + p1))) → ∃ k3 : Nat, k3 < 24 ∧ (y2 + p1) = nI k3 ∧ (∃ k4 : Nat, k4 < 24 ∧ y2 = nI k4 ∧ (pm_W pm_g (SH L) HR (d) pm_t66 26 [some (.inr this), some (.inl p1), some (.inl (y2 + 1))] [] (pm_u hi (this + 1) k4 (hi (this + 1) k3)) Q))))) : pm_W pm_g (SH L) HR (d) pm_t66 26 [some (.inr this), some (.inl p1), some (.inl y2)] [] hi Q := by
  refine pm_W_of 25 [26] rfl ?_
  refine And.intro (sh_sk h_this) ?_
  refine And.intro (fun c1 => ?_) (fun c1 => ?_)
  · replace h := h.1 c1
    exact h
  · replace h := h.2 c1
    refine And.intro (sh_sk h_this) ?_
    rw [(hr_sk h_this)]
    refine ⟨24, ⟨0, _, (sh_sk1 h_this)⟩, ?_⟩
    rw [show nI 24 = (24 : Int32) from rfl]
    refine And.intro (fun c2 => ?_) (fun c2 => ?_)
    · replace h := h.1 c2
      exact h
    · replace h := h.2 c2
      refine And.intro (sh_sk h_this) ?_
      rw [(hr_sk h_this)]
      refine And.intro (sh_sk h_this) ?_
      rw [(hr_sk h_this)]
      obtain ⟨k3, hkk3, hek3, h⟩ := h
      refine And.intro (pm_ao_of (t := 0) (sh_sk1 h_this) hkk3 hek3 (by decide)) ?_
      rw [pm_tn hek3 hkk3 (by decide)]
      obtain ⟨k4, hkk4, hek4, h⟩ := h
      refine And.intro ⟨pm_aw_of (sh_sk1 h_this) hkk4 hek4 (by decide), trivial⟩ ?_
      rw [pm_tn hek4 hkk4 (by decide)]
      exact h
theorem v_Tape_putNumber {L d : Nat} {p1 : Int32} {hi : pm_B} {Q : pm_Q} (h : pm_W pm_g (SH L) HR (d) pm_t68 3 [some (.inr 107), some (.inl p1), some (.inl 24)] [] hi Q) : pm_C pm_g (SH L) HR (d + 1) m_Tape_putNumber [.inr 107, .inl p1] hi Q := by
  refine pm_C_of (maxL := 3) (t := pm_t68) rfl (Nat.le_of_ble_eq_true rfl) ?_
  refine pm_W_of 4 [3] rfl ?_
  exact h
theorem v_Tape_putNumber_3 {L d : Nat}  {p1 : Int32} {y2 : Int32} {hi : pm_B} {Q : pm_Q} (h : ((y2 < 0) → Q none hi) ∧ ((¬ (y2 < 0)) → (((hi 107 1) < 0) → Q none hi) ∧ ((¬ ((hi 107 1) < 0)) → (((hi 107 1) < 96) → ∃ k4 : Nat, k4 < 96 ∧ (hi 107 1) = nI k4 ∧ (∀ hi5 : pm_B, hi5 = pm_u (pm_u hi 108 k4 (((Int32.toUInt32 p1 >>> (Int32.toUInt32 y2 &&& Int32.toUInt32 31)).toInt32) &&& 255)) 107 1 (((pm_u hi 108 k4 (((Int32.toUInt32 p1 >>> (Int32.toUInt32 y2 &&& Int32.toUInt32 31)).toInt32) &&& 255)) 107 1) + 1) → (pm_W pm_g (SH L) HR (d) pm_t68 3 [some (.inr 107), some (.inl p1), some (.inl (y2 + (-8)))] [] hi5 Q))) ∧ ((¬ ((hi 107 1) < 96)) → Q none hi)))) : pm_W pm_g (SH L) HR (d) pm_t68 3 [some (.inr 107), some (.inl p1), some (.inl y2)] [] hi Q := by
  refine pm_W_of 31 [3] rfl ?_
  refine And.intro (fun c1 => ?_) (fun c1 => ?_)
  · replace h := h.1 c1
    exact h
  · replace h := h.2 c1
    refine And.intro sh_l107 ?_
    refine And.intro (fun c2 => ?_) (fun c2 => ?_)
    · replace h := h.1 c2
      exact h
    · replace h := h.2 c2
      refine And.intro sh_l107 ?_
      refine And.intro sh_l107 ?_
      rw [hr_107_0]
      refine ⟨96, ⟨0, _, sh_l108⟩, ?_⟩
      rw [show nI 96 = (96 : Int32) from rfl]
      refine And.intro (fun c3 => ?_) (fun c3 => ?_)
      · replace h := h.1 c3
        refine And.intro sh_l107 ?_
        rw [hr_107_0]
        refine And.intro sh_l107 ?_
        obtain ⟨k4, hkk4, hek4, h⟩ := h
        refine And.intro ⟨pm_aw_of sh_l108 hkk4 hek4 (by decide), trivial⟩ ?_
        rw [pm_tn hek4 hkk4 (by decide)]
        refine And.intro sh_l107 ?_
        refine And.intro ⟨sh_l107, trivial⟩ ?_
        obtain ⟨hi5, ehi5⟩ : ∃ m : pm_B, m = pm_u (pm_u hi 108 k4 (((Int32.toUInt32 p1 >>> (Int32.toUInt32 y2 &&& Int32.toUInt32 31)).toInt32) &&& 255)) 107 1 (((pm_u hi 108 k4 (((Int32.toUInt32 p1 >>> (Int32.toUInt32 y2 &&& Int32.toUInt32 31)).toInt32) &&& 255)) 107 1) + 1) := ⟨_, rfl⟩
        replace h := h hi5 ehi5
        rw [← ehi5]
        exact h
      · replace h := h.2 c3
        exact h
end
section
/-! ===== the abstract folk: rows, speakers; words as sets ===== -/
/-- a row of numbers stands in f from 0 on -/
def Row (f : Nat → Int32) (ws : List Int32) : Prop := ∀ k w, ws[k]? = some w → f k = w
/-- nothing but P's places has changed -/
def Fr (P : Nat → Nat → Prop) (hi hi' : pm_B) : Prop := ∀ q j, ¬ P q j → hi' q j = hi q j
theorem Fr.rf {P : Nat → Nat → Prop} {hi : pm_B} : Fr P hi hi := fun _ _ _ => rfl
theorem Fr.tr {P : Nat → Nat → Prop} {a b c : pm_B} (h1 : Fr P a b) (h2 : Fr P b c) : Fr P a c := fun q j h => (h2 q j h).trans (h1 q j h)
theorem Fr.mono {P P' : Nat → Nat → Prop} {a b : pm_B} (h : Fr P a b) (hp : ∀ q j, P q j → P' q j) : Fr P' a b := fun q j hn => h q j (fun z => hn (hp q j z))
theorem Fr.u {P : Nat → Nat → Prop} {a : pm_B} {q j : Nat} {v : Int32} (hp : P q j) : Fr P a (pm_u a q j v) := fun q' j' hn => pm_u_ne (by
  by_cases h : q' = q
  · subst h
    exact Or.inr (fun z => hn (z ▸ hp))
  · exact Or.inl h)
theorem Row.at {f : Nat → Int32} {ws : List Int32} (h : Row f ws) {k : Nat} (hk : k < ws.length) : f k = ws[k] := h k _ (List.getElem?_eq_getElem hk)
theorem Row.to {f g : Nat → Int32} {ws : List Int32} (h : Row f ws) (hg : ∀ k, k < ws.length → g k = f k) : Row g ws := fun k w hw => (hg k (List.getElem?_eq_some_iff.mp hw).1).trans (h k w hw)
theorem Row.nil {f : Nat → Int32} : Row f [] := fun k w h => by cases h
theorem Row.snoc {f : Nat → Int32} {ws : List Int32} {w : Int32} (h : Row f ws) (hw : f ws.length = w) : Row f (ws ++ [w]) := by
  intro k v hv
  by_cases hk : k < ws.length
  · rw [List.getElem?_append_left hk] at hv
    exact h k v hv
  · rw [List.getElem?_append_right (by omega)] at hv
    have h0 : k - ws.length < 1 := (List.getElem?_eq_some_iff.mp hv).1
    have h1 : k = ws.length := by omega
    subst h1
    simp at hv
    rw [hw, hv]
theorem Row.drop {f : Nat → Int32} {ws : List Int32} (h : Row f ws) (n : Nat) : Row (fun k => f (n + k)) (ws.drop n) := by
  intro k w hw
  rw [List.getElem?_drop] at hw
  exact h _ _ hw
theorem Row.take {f : Nat → Int32} {ws : List Int32} (h : Row f ws) (n : Nat) : Row f (ws.take n) := by
  intro k w hw
  rw [List.getElem?_take] at hw
  split at hw
  · exact h _ _ hw
  · cases hw
theorem ix (p w : Nat) : (7 + 29 * nI p : Int32) + nI w = nI (7 + 29 * p + w) := by
  show nI 7 + nI 29 * nI p + nI w = _
  rw [pk_mul, nI_add, nI_add]
theorem ix5 (p k : Nat) : (7 + 29 * nI p : Int32) + (5 + nI k) = nI (7 + 29 * p + (5 + k)) := by
  show nI 7 + nI 29 * nI p + (nI 5 + nI k) = _
  rw [pk_mul, nI_add, nI_add, nI_add]
theorem ix51 (p k : Nat) : (7 + 29 * nI p : Int32) + (5 + nI k + 1) = nI (7 + 29 * p + (5 + (k + 1))) := by
  show nI 7 + nI 29 * nI p + (nI 5 + nI k + nI 1) = _
  rw [pk_mul, nI_add, nI_add, nI_add, nI_add]
  rfl
/-- the set that a row of words is -/
def setOf (ws : List Int32) : Int32 := ws.foldl (fun (a w : Int32) => a ||| ((1 : Int32) <<< (w &&& 31))) 0
theorem setOf_take {ws : List Int32} {k : Nat} (hk : k < ws.length) : setOf (ws.take (k + 1)) = (setOf (ws.take k) ||| (1 <<< (ws[k] &&& 31))) := by
  unfold setOf
  rw [List.take_succ_eq_append_getElem hk, List.foldl_append]
  rfl
theorem nI_lit_le {n k : Nat} (h : k < n) (hn : n < 2 ^ 31) : ¬ nI n ≤ nI k := nI_ge h hn
/-! Speaker.wordSet -/
theorem wordSet_c {L d S : Nat} {ws : List Int32} {hi : pm_B} {Q : pm_Q} (hS : pm_sk S) (hn : hi S 4 = nI ws.length) (hr : Row (hi (S + 1)) ws) (hl : ws.length ≤ 24) (h : Q (some (.inl (setOf ws))) hi) : pm_C pm_g (SH L) HR (d + 1) m_Speaker_wordSet [.inr S] hi Q := by
  refine v_Speaker_wordSet hS ?_
  have key : ∀ n k, k + n = ws.length → pm_W pm_g (SH L) HR d pm_t64 4 [some (.inr S), some (.inl (setOf (ws.take k))), some (.inl (nI k))] [] hi Q := by
    intro n
    induction n with
    | zero =>
      intro k hk
      have hk : k = ws.length := by omega
      subst hk
      refine v_Speaker_wordSet_4 hS ⟨fun _ => ?_, fun hc => absurd ?_ hc⟩
      · rw [List.take_length]
        exact h
      · rw [hn]
        exact nI_le (Nat.le_refl _) (by omega)
    | succ n ih =>
      intro k hk
      have hk1 : k < ws.length := by omega
      refine v_Speaker_wordSet_4 hS ⟨fun hc => absurd hc ?_, fun _ => ⟨fun hc => absurd hc (nI_ge (b := 24) (by omega) (by omega)), fun _ => ⟨k, by omega, rfl, ?_⟩⟩⟩
      · rw [hn]
        exact nI_ge hk1 (by omega)
      · rw [hr.at hk1, ← setOf_take hk1, nI_1]
        exact ih (k + 1) (by omega)
  exact key ws.length 0 (by omega)
/-! Speaker.putBehind: the words of a row come behind the others -/
theorem putBehind_c {L d S R nR f : Nat} {ws row : List Int32} {hi : pm_B} {Q : pm_Q} (hS : pm_sk S) (hR : (SH L)[R]? = some (1, 0, nR)) (hl : nR ≤ 1000) (hne : R ≠ S + 1) (hne2 : R ≠ S) (hn : hi S 4 = nI ws.length) (hr : Row (hi (S + 1)) ws) (hrow : Row (fun k => hi R (f + k)) row) (hb : f + row.length ≤ nR) (hlen : ws.length + row.length ≤ 24)
    (h : ∀ hi', Fr (fun q j => q = S + 1 ∨ (q = S ∧ j = 4)) hi hi' → hi' S 4 = nI (ws ++ row).length → Row (hi' (S + 1)) (ws ++ row) → Q none hi') : pm_C pm_g (SH L) HR (d + 1) m_Speaker_putBehind [.inr S, .inr R, .inl (nI f), .inl (nI row.length)] hi Q := by
  refine v_Speaker_putBehind hS hR (by omega) ?_
  have key : ∀ n k hi' o5, k + n = row.length → Fr (fun q j => q = S + 1 ∨ (q = S ∧ j = 4)) hi hi' → hi' S 4 = nI (ws.length + k) → Row (hi' (S + 1)) (ws ++ row.take k) → pm_W pm_g (SH L) HR d pm_t65 3 [some (.inr S), some (.inr R), some (.inl (nI f)), some (.inl (nI row.length)), some (.inl (nI k)), o5] [] hi' Q := by
    intro n
    induction n with
    | zero =>
      intro k hi' o5 hk hF h4 hrw
      have hk : k = row.length := by omega
      subst hk
      refine v_Speaker_putBehind_3 hS hR (by omega) ⟨fun _ => ?_, fun hc => absurd (nI_le (Nat.le_refl _) (by omega)) hc⟩
      rw [List.take_length] at hrw
      exact h hi' hF (by rw [h4, List.length_append]) hrw
    | succ n ih =>
      intro k hi' o5 hk hF h4 hrw
      have hk1 : k < row.length := by omega
      have hRS : ∀ j, hi' R j = hi R j := fun j => hF R j (by omega)
      refine v_Speaker_putBehind_3 hS hR (by omega) ⟨fun hc => absurd hc (nI_ge hk1 (by omega)), fun _ => ?_⟩
      rw [nI_add]
      refine ⟨fun hc => absurd hc (nI_pos (by omega)), fun _ => ⟨fun hc => absurd hc (nI_ge (by omega) (by omega)), fun _ => ?_⟩⟩
      rw [h4]
      refine ⟨fun hc => absurd hc (nI_pos (by omega)), fun _ => ⟨fun _ => ⟨f + k, by omega, rfl, ws.length + k, by omega, rfl, ?_⟩, fun hc => absurd (nI_lt (b := 24) (by omega) (by omega)) hc⟩⟩
      intro hi8 e8
      rw [nI_1]
      have hS4 : pm_u hi' (S + 1) (ws.length + k) (hi' R (f + k)) S 4 = nI (ws.length + k) := by rw [pm_u_ne (Or.inl (by omega)), h4]
      rw [hS4, nI_1] at e8
      subst e8
      refine ih (k + 1) _ _ (by omega) (hF.tr ((Fr.u (Or.inl rfl)).tr (Fr.u (Or.inr ⟨rfl, rfl⟩)))) (by rw [pm_u_at, Nat.add_assoc]) ?_
      rw [List.take_succ_eq_append_getElem hk1, ← List.append_assoc]
      refine Row.snoc (hrw.to (fun j hj => ?_)) ?_
      · rw [List.length_append, List.length_take] at hj
        rw [pm_u_ne (Or.inl (by omega)), pm_u_ne (Or.inr (by omega))]
      · rw [List.length_append, List.length_take, show ws.length + min k row.length = ws.length + k by omega, pm_u_ne (Or.inl (by omega)), pm_u_at, hRS]
        exact hrow.at hk1
  refine key row.length 0 hi none (by omega) Fr.rf (by rw [hn]; rfl) ?_
  rw [List.take_zero, List.append_nil]
  exact hr
/-! Speaker.forgetOldest -/
theorem nI_sub {a b : Nat} (h : b ≤ a) : nI a - nI b = nI (a - b) := pk_sub h
theorem forgetOldest_c {L d S n : Nat} {ws : List Int32} {hi : pm_B} {Q : pm_Q} (hS : pm_sk S) (hn : hi S 4 = nI ws.length) (hr : Row (hi (S + 1)) ws) (hl : ws.length ≤ 24) (hle : n ≤ ws.length)
    (h : ∀ hi', Fr (fun q j => q = S + 1 ∨ (q = S ∧ j = 4)) hi hi' → hi' S 4 = nI (ws.drop n).length → Row (hi' (S + 1)) (ws.drop n) → Q none hi') : pm_C pm_g (SH L) HR (d + 1) m_Speaker_forgetOldest [.inr S, .inl (nI n)] hi Q := by
  refine v_Speaker_forgetOldest hS ⟨fun hc => ?_, fun hc => ⟨fun _ => ?_, fun hc => absurd ?_ hc⟩⟩
  · have h0 : n = 0 := by
      by_cases h0 : n = 0
      · exact h0
      · exact absurd hc (nI_nlt (b := 1) (by omega) (by omega))
    subst h0
    exact h hi Fr.rf hn hr
  · have hn0 : 0 < n := by
      by_cases h0 : 0 < n
      · exact h0
      · have : n = 0 := by omega
        subst this
        exact absurd (by decide) hc
    have key : ∀ m k hi', k + m = ws.length - n → Fr (fun q j => q = S + 1 ∨ (q = S ∧ j = 4)) hi hi' → hi' S 4 = nI (ws.length - n) → (∀ j, j < k → hi' (S + 1) j = hi (S + 1) (n + j)) → (∀ j, k ≤ j → hi' (S + 1) j = hi (S + 1) j) → pm_W pm_g (SH L) HR d pm_t66 26 [some (.inr S), some (.inl (nI n)), some (.inl (nI k))] [] hi' Q := by
      intro m
      induction m with
      | zero =>
        intro k hi' hk hF h4 h5 h6
        have hk : k = ws.length - n := by omega
        subst hk
        refine v_Speaker_forgetOldest_26 hS ⟨fun _ => h hi' hF (by rw [h4, List.length_drop]) ?_, fun hc => absurd ?_ hc⟩
        · refine (hr.drop n).to (fun j hj => ?_)
          rw [List.length_drop] at hj
          exact h5 j hj
        · rw [h4]
          exact nI_le (Nat.le_refl _) (by omega)
      | succ m ih =>
        intro k hi' hk hF h4 h5 h6
        have hk1 : k < ws.length - n := by omega
        refine v_Speaker_forgetOldest_26 hS ⟨fun hc => absurd hc ?_, fun _ => ?_⟩
        · rw [h4]
          exact nI_ge hk1 (by omega)
        · rw [nI_add]
          refine ⟨fun hc => absurd hc (nI_ge (b := 24) (by omega) (by omega)), fun _ => ⟨k + n, by omega, rfl, k, by omega, rfl, ?_⟩⟩
          rw [nI_1]
          refine ih (k + 1) _ (by omega) (hF.tr (Fr.u (Or.inl rfl))) (by rw [pm_u_ne (Or.inl (by omega))]; exact h4) (fun j hj => ?_) (fun j hj => ?_)
          · by_cases hjk : j = k
            · subst hjk
              rw [pm_u_at, h6 _ (by omega), Nat.add_comm j n]
            · rw [pm_u_ne (Or.inr hjk)]
              exact h5 j (by omega)
          · rw [pm_u_ne (Or.inr (by omega))]
            exact h6 j (by omega)
    rw [hn, nI_sub hle]
    refine key (ws.length - n) 0 _ (by omega) (Fr.u (Or.inr ⟨rfl, rfl⟩)) pm_u_at (fun j hj => by omega) (fun j _ => pm_u_ne (Or.inl (by omega)))
  · rw [hn]
    exact nI_le hle (by omega)
end
section
/-! ===== texts: what a text gives ===== -/
/-- a text: key, how many numbers and names, its row for a stack (the class's signs) -/
abbrev AT : Type := Int32 × Int32 × List Int32
def CT (hi : pm_B) (X : Nat) (t : AT) : Prop := hi X 0 = t.1 ∧ hi X 1 = t.2.1 ∧ hi X 2 = nI t.2.2.length ∧ Row (hi (X + 1)) t.2.2
def ev1 (f1 f2 f3 : Int32) (st : List Int32) (c : Int32) : List Int32 :=
  if c < (-3) then (if ¬ c = (-33) then (match st with
    | b :: a :: r => f_Laws_joined (-c) a b :: r
    | _ => []) else (match st with
    | a :: r => (if ¬ a = 0 then 0 else 1) :: r
    | [] => [])) else f_Laws_leafOf c f1 f2 f3 :: st
def evs (f1 f2 f3 : Int32) (code st : List Int32) : List Int32 := code.foldl (ev1 f1 f2 f3) st
def aval (code : List Int32) (f1 f2 f3 : Int32) : Int32 := (evs f1 f2 f3 code []).headD 0
def dp1 (n : Nat) (c : Int32) : Option Nat := if c < (-3) then (if ¬ c = (-33) then (if 2 ≤ n then some (n - 1) else none) else (if 1 ≤ n then some n else none)) else some (n + 1)
def dps : Nat → List Int32 → Option Nat
  | n, [] => some n
  | n, c :: l => (dp1 n c).bind (fun m => dps m l)
def wfp (code : List Int32) : Prop := dps 0 code = some 1 ∧ code.length ≤ 96
theorem m1p (x : Int32) : x + (-1) + 1 = x := by rw [Int32.add_assoc, show ((-1) + 1 : Int32) = 0 by decide, Int32.add_zero]
theorem Row.set {f : Nat → Int32} {ws : List Int32} {w : Int32} (h : Row f ws) (k : Nat) (hk : k = ws.length) : Row (fun j => if j = k then w else f j) (ws ++ [w]) := by
  subst hk
  refine Row.snoc (h.to (fun j hj => ?_)) (by simp)
  exact if_neg (by omega)
theorem pm_u_row {hi : pm_B} {q k : Nat} {w : Int32} : (fun j => pm_u hi q k w q j) = fun j => if j = k then w else hi q j := by
  funext j
  unfold pm_u
  by_cases h : j = k
  · rw [if_pos ⟨rfl, h⟩, if_pos h]
  · rw [if_neg (fun z => h z.2), if_neg h]
theorem Row.u {hi : pm_B} {q k : Nat} {ws : List Int32} {w : Int32} (h : Row (hi q) ws) (hk : k = ws.length) : Row (pm_u hi q k w q) (ws ++ [w]) := by
  show Row (fun j => pm_u hi q k w q j) _
  rw [pm_u_row]
  exact h.set k hk
theorem Row.rev {f : Nat → Int32} {a : Int32} {r : List Int32} (h : Row f (a :: r).reverse) : f r.length = a ∧ Row f r.reverse := by
  rw [List.reverse_cons] at h
  refine ⟨h _ _ (by rw [List.getElem?_append_right (by rw [List.length_reverse]; omega), List.length_reverse, Nat.sub_self]; rfl), fun k w hw => h k w ?_⟩
  rw [List.getElem?_append_left (List.getElem?_eq_some_iff.mp hw).1]
  exact hw
theorem valueOf_c {L d i : Nat} {t : AT} {f1 f2 f3 : Int32} {hi : pm_B} {Q : pm_Q} (hi15 : i < 15) (hT : CT hi (19 + 2 * i) t) (hw : wfp t.2.2) (h : ∀ hi', Fr (fun q _ => q = 49) hi hi' → Q (some (.inl (aval t.2.2 f1 f2 f3))) hi') : pm_C pm_g (SH L) HR (d + 2) m_Laws_valueOf [.inr 17, .inl (nI i), .inl f1, .inl f2, .inl f3] hi Q := by
  obtain ⟨-, -, hlen, hrow⟩ := hT
  obtain ⟨key0, leaves, code⟩ := t
  dsimp only at hlen hrow hw h
  refine v_Laws_valueOf ⟨fun hc => absurd hc (nI_pos (by omega)), fun _ => ⟨fun _ => ⟨i, hi15, rfl, ?_⟩, fun hc => absurd (nI_lt (b := 15) hi15 (by omega)) hc⟩⟩
  have hX := tx_of hi15
  generalize 19 + 2 * i = X at hX hlen hrow ⊢
  have hX49 : X ≠ 49 ∧ X + 1 ≠ 49 := by rcases hX with ⟨j, hj, rfl⟩ | rfl <;> omega
  have key : ∀ (rest : List Int32) (k : Nat) (st : List Int32) (hi' : pm_B) (o8 : Option pm_V), code.drop k = rest → Fr (fun q _ => q = 49) hi hi' → Row (hi' 49) st.reverse → st.length ≤ k → k ≤ code.length → dps st.length rest = some 1 → evs f1 f2 f3 rest st = evs f1 f2 f3 code [] → pm_W pm_g (SH L) HR (d + 1) pm_t23 29 [some (.inr 17), some (.inl (nI i)), some (.inl f1), some (.inl f2), some (.inl f3), some (.inr X), some (.inl (nI st.length + (-1))), some (.inl (nI k)), o8] [] hi' Q := by
    intro rest
    induction rest with
    | nil =>
      intro k st hi' o8 hd hF hr hk hkc hdp hev
      have hkl : code.length ≤ k := List.drop_eq_nil_iff.mp hd
      have h1 : st.length = 1 := Option.some.inj hdp
      match st, h1 with
      | [a], _ =>
        have hend : ((0 : Int32) ≤ nI ([a] : List Int32).length + (-1) → ∃ k3 : Nat, k3 < 96 ∧ nI ([a] : List Int32).length + (-1) = nI k3 ∧ Q (some (.inl (hi' 49 k3))) hi') ∧ (¬ (0 : Int32) ≤ nI ([a] : List Int32).length + (-1) → Q (some (.inl 0)) hi') := by
          rw [show ([a] : List Int32).length = 1 from rfl]
          refine ⟨fun _ => ⟨0, by omega, by decide, ?_⟩, fun hc => absurd (by decide) hc⟩
          have ha := hr.rev.1
          have e : aval code f1 f2 f3 = a := by
            unfold aval
            rw [← hev]
            rfl
          rw [show hi' 49 0 = a from ha, ← e]
          exact h hi' hF
        refine v_Laws_valueOf_29 hX ⟨fun _ => hend, fun hc => absurd ?_ hc⟩
        rw [hF X 2 hX49.1, hlen]
        have hl96 := hw.2
        exact nI_le hkl (by omega)
    | cons c rest ih =>
      intro k st hi' o8 hd hF hr hk hkc hdp hev
      have hkl : k < code.length := by
        by_cases hz : k < code.length
        · exact hz
        · rw [List.drop_eq_nil_of_le (by omega)] at hd
          cases hd
      have hl96 := hw.2
      have hck : code[k]? = some c := by
        have := congrArg List.head? hd
        rw [List.head?_drop] at this
        exact this
      have hd' : code.drop (k + 1) = rest := by
        have := congrArg List.tail hd
        rw [List.tail_drop] at this
        exact this
      have hc : hi' (X + 1) k = c := by rw [hF (X + 1) k hX49.2]; exact hrow k c hck
      have hev' : evs f1 f2 f3 rest (ev1 f1 f2 f3 st c) = evs f1 f2 f3 code [] := hev
      refine v_Laws_valueOf_29 hX ⟨fun hcc => absurd hcc ?_, fun _ => ⟨fun hcc => absurd hcc (nI_ge (b := 96) (by omega) (by omega)), fun _ => ⟨k, by omega, rfl, ?_⟩⟩⟩
      · rw [hF X 2 hX49.1, hlen]
        exact nI_ge hkl (by omega)
      · rw [hc, nI_1]
        unfold dps dp1 at hdp
        unfold ev1 at hev'
        refine ⟨fun h3 => ?_, fun h3 => ?_⟩
        · rw [if_pos h3] at hdp hev'
          refine ⟨fun h33 => ?_, fun h33 => ?_⟩
          · rw [if_pos h33] at hdp hev'
            match st, hr, hk, hdp, hev' with
            | [], _, _, hdp, _ => cases hdp
            | [_], _, _, hdp, _ => cases hdp
            | y :: x :: r, hr, hk, hdp, hev' =>
              have hlr : (y :: x :: r).length = r.length + 2 := rfl
              rw [hlr] at hk hdp ⊢
              rw [if_pos (by omega)] at hdp
              obtain ⟨hy, hr1⟩ := hr.rev
              obtain ⟨hx, hr2⟩ := hr1.rev
              have e1 : nI (r.length + 2) + (-1) = nI (r.length + 1) := pk_m1 (r.length + 1)
              have e2 : nI (r.length + 1) + (-1) = nI r.length := pk_m1 r.length
              rw [e1, e2, nI_1]
              refine ⟨fun _ => ⟨r.length, by omega, rfl, r.length + 1, by omega, rfl, r.length, by omega, rfl, ?_⟩, fun hcc => absurd (nI_le (a := 1) (by omega) (by omega)) hcc⟩
              have hy' : hi' 49 (r.length + 1) = y := hy
              have hx' : hi' 49 r.length = x := hx
              rw [hx', hy', ← e2]
              refine ih (k + 1) (f_Laws_joined (-c) x y :: r) _ _ hd' (hF.tr (Fr.u rfl)) ?_ (by show r.length + 1 ≤ _; omega) hkl hdp hev'
              rw [List.reverse_cons]
              exact hr2.u (by rw [List.length_reverse])
          · rw [if_neg h33] at hdp hev'
            match st, hr, hk, hdp, hev' with
            | [], _, _, hdp, _ => cases hdp
            | y :: r, hr, hk, hdp, hev' =>
              have hlr : (y :: r).length = r.length + 1 := rfl
              rw [hlr] at hk hdp ⊢
              rw [if_pos (by omega)] at hdp
              obtain ⟨hy, hr1⟩ := hr.rev
              have e2 : nI (r.length + 1) + (-1) = nI r.length := pk_m1 r.length
              rw [e2]
              refine ⟨fun _ => ⟨r.length, by omega, rfl, ?_⟩, fun hcc => absurd (nI_pos' (by omega)) hcc⟩
              rw [hy]
              refine ⟨fun hy0 => ⟨r.length, by omega, rfl, ?_⟩, fun hy0 => ⟨r.length, by omega, rfl, ?_⟩⟩
              · dsimp only at hev'
                rw [if_pos hy0] at hev'
                rw [← e2]
                refine ih (k + 1) (0 :: r) _ _ hd' (hF.tr (Fr.u rfl)) ?_ (by show r.length + 1 ≤ _; omega) hkl hdp hev'
                rw [List.reverse_cons]
                exact hr1.u (by rw [List.length_reverse])
              · dsimp only at hev'
                rw [if_neg hy0] at hev'
                rw [← e2]
                refine ih (k + 1) (1 :: r) _ _ hd' (hF.tr (Fr.u rfl)) ?_ (by show r.length + 1 ≤ _; omega) hkl hdp hev'
                rw [List.reverse_cons]
                exact hr1.u (by rw [List.length_reverse])
        · rw [if_neg h3] at hdp hev'
          rw [m1p]
          refine ⟨fun _ => ⟨st.length, by omega, rfl, ?_⟩, fun hcc => absurd (nI_lt (b := 96) (by omega) (by omega)) hcc⟩
          rw [show nI st.length = nI (st.length + 1) + (-1) from (pk_m1 _).symm]
          refine ih (k + 1) (f_Laws_leafOf c f1 f2 f3 :: st) _ _ hd' (hF.tr (Fr.u rfl)) ?_ (by show st.length + 1 ≤ _; omega) hkl hdp hev'
          rw [List.reverse_cons]
          exact hr.u (by rw [List.length_reverse])
  exact key code 0 [] hi none rfl Fr.rf Row.nil (Nat.le_refl _) (Nat.zero_le _) hw.1 rfl
end
section
/-! ===== speakers: what they keep, how they hear (class side) ===== -/
/-- a speaker: kind, ear, fame, said, words -/
abbrev ASp : Type := Int32 × Int32 × Int32 × Int32 × List Int32
def CS (hi : pm_B) (S : Nat) (p : ASp) : Prop := hi S 0 = p.1 ∧ hi S 1 = p.2.1 ∧ hi S 2 = p.2.2.1 ∧ hi S 3 = p.2.2.2.1 ∧ hi S 4 = nI p.2.2.2.2.length ∧ Row (hi (S + 1)) p.2.2.2.2
theorem CS.kept {hi hi' : pm_B} {S : Nat} {p : ASp} (h : CS hi S p) (h0 : ∀ j, hi' S j = hi S j) (h1 : ∀ j, hi' (S + 1) j = hi (S + 1) j) : CS hi' S p := by
  obtain ⟨a, b, c, d, e, f⟩ := h
  exact ⟨(h0 _).trans a, (h0 _).trans b, (h0 _).trans c, (h0 _).trans d, (h0 _).trans e, f.to (fun k _ => h1 k)⟩
/-- the last text of a key, among the first n -/
def lkn (txs : List AT) (k : Int32) : Nat → Option Nat
  | 0 => none
  | n + 1 => if (txs.getD n (0, 0, [])).1 = k then some n else lkn txs k n
def lk (txs : List AT) (k : Int32) : Option Nat := lkn txs k txs.length
theorem lkn_lt {txs : List AT} {k : Int32} : ∀ {n i : Nat}, lkn txs k n = some i → i < n
  | n + 1, i, h => by
    unfold lkn at h
    split at h
    · cases h; omega
    · have := lkn_lt h; omega
def lix (o : Option Nat) : Int32 := match o with
  | none => -1000000005
  | some i => nI i
theorem lix_none {txs : List AT} (hl : txs.length ≤ 15) (k : Int32) : lix (lk txs k) = (-1000000005) ↔ lk txs k = none := by
  constructor
  · intro h
    cases hk : lk txs k with
    | none => rfl
    | some i =>
      rw [hk] at h
      have hi := lkn_lt hk
      exfalso
      have h2 : nI i = (-1000000005) := h
      have h3 := nI_pos (n := i) (by omega)
      rw [h2] at h3
      exact h3 (by decide)
  · intro h
    rw [h]
    rfl
def given (txs : List AT) (p : ASp) (n : Int32) : Int32 := match lk txs 0 with
  | none => 12
  | some i => aval (txs.getD i (0, 0, [])).2.2 p.2.1 p.2.2.1 n
def akeeps (txs : List AT) (p : ASp) (n : Nat) : Int32 := f_Kinds_keepsOf p.1 (f_E_held (given txs p (nI n)) 0 12)
def CX (hi : pm_B) (txs : List AT) : Prop := (∀ i t, txs[i]? = some t → CT hi (19 + 2 * i) t) ∧ txs.length ≤ 14 ∧ ∀ t ∈ txs, wfp t.2.2
theorem CX.kept {hi hi' : pm_B} {txs : List AT} (h : CX hi txs) (hF : ∀ q j, 19 ≤ q → q < 49 → hi' q j = hi q j) : CX hi' txs := by
  refine ⟨fun i t ht => ?_, h.2⟩
  have hi14 : i < txs.length := (List.getElem?_eq_some_iff.mp ht).1
  have hl := h.2.1
  obtain ⟨a, b, c, d⟩ := h.1 i t ht
  have e0 : ∀ j, hi' (19 + 2 * i) j = hi (19 + 2 * i) j := fun j => hF _ j (by omega) (by omega)
  exact ⟨(e0 _).trans a, (e0 _).trans b, (e0 _).trans c, d.to (fun k _ => hF _ k (by omega) (by omega))⟩
theorem sk_ne {S F : Nat} (hS : pm_sk S) (hF : pm_fo F) : S ≠ F ∧ S + 1 ≠ F ∧ S ≠ F + 18 ∧ S + 1 ≠ F + 18 ∧ S ≠ 49 ∧ S + 1 ≠ 49 ∧ F ≠ 49 ∧ F + 18 ≠ 49 ∧ 51 < S ∧ S < 105 ∧ 49 < F := by
  obtain ⟨F', i, hF', hi, rfl⟩ := hS
  rcases hF' with rfl | rfl | rfl <;> rcases hF with rfl | rfl | rfl <;> omega
theorem sk_ne2 {S T : Nat} (hS : pm_sk S) (hT : pm_sk T) : S + 1 ≠ T ∧ (S ≠ T → S + 1 ≠ T + 1) := by
  obtain ⟨F, i, hF, hi, rfl⟩ := hS
  obtain ⟨F', j, hF', hj, rfl⟩ := hT
  refine ⟨?_, fun h => by omega⟩
  rcases hF' with rfl | rfl | rfl <;> rcases hF with rfl | rfl | rfl <;> omega
theorem keepsOf_c {L d F S n : Nat} {p : ASp} {txs : List AT} {hi : pm_B} {Q : pm_Q} (hF : pm_fo F) (hS : pm_sk S) (hp : CS hi S p) (hlaw : hi (F + 18) 0 = lix (lk txs 0)) (hX : CX hi txs) (h : ∀ hi', Fr (fun q _ => q = 49) hi hi' → Q (some (.inl (akeeps txs p n))) hi') : pm_C pm_g (SH L) HR (d + 3) m_Folk_keepsOf [.inr F, .inr S, .inl (nI n)] hi Q := by
  have hne := sk_ne hS hF
  refine v_Folk_keepsOf (d := d + 1) hF hS ⟨fun hc => ?_, fun hc => ?_⟩
  · rw [hlaw] at hc ⊢
    cases hk : lk txs 0 with
    | none => rw [hk] at hc; exact absurd rfl hc
    | some i =>
      have hi1 := lkn_lt hk
      have hl := hX.2.1
      have ht : txs[i]? = some (txs.getD i (0, 0, [])) := by rw [List.getD_eq_getElem?_getD, List.getElem?_eq_getElem hi1]; rfl
      refine valueOf_c (by omega) (hX.1 i _ ht) (hX.2.2 _ (List.mem_of_getElem? ht)) (fun hi' hF' => ⟨_, rfl, ?_⟩)
      rw [hF' S 0 hne.2.2.2.2.1, hp.1, hp.2.1, hp.2.2.1]
      have := h hi' hF'
      unfold akeeps given at this
      rw [hk] at this
      exact this
  · have hk : lk txs 0 = none := (lix_none (by have := hX.2.1; omega) 0).mp (by rw [← hlaw]; exact Classical.byContradiction hc)
    have := h hi Fr.rf
    unfold akeeps given at this
    rw [hk] at this
    rw [hp.1]
    exact this
/-- how many are left, of n -/
def aleft (kp : Nat → Int32) : Nat → Nat
  | 0 => 0
  | n + 1 => if nI (n + 1) ≤ kp (n + 1) then n + 1 else aleft kp n
theorem aleft_le (kp : Nat → Int32) : ∀ n, aleft kp n ≤ n
  | 0 => Nat.le_refl _
  | n + 1 => by
    unfold aleft
    split
    · exact Nat.le_refl _
    · have := aleft_le kp n; omega
theorem held_in (v : Int32) : 0 ≤ f_E_held v 0 12 ∧ f_E_held v 0 12 ≤ 12 := by
  unfold f_E_held
  by_cases h2 : v < 12
  · rw [if_pos h2]
    by_cases h1 : 0 < v
    · rw [if_pos h1]
      exact ⟨Int32.le_of_lt h1, Int32.le_of_lt h2⟩
    · rw [if_neg h1]
      exact ⟨by decide, by decide⟩
  · rw [if_neg h2]
    exact ⟨by decide, by decide⟩
theorem in12 {x : Int32} (h : 0 ≤ x ∧ x ≤ 12) : ∃ k : Nat, k ≤ 12 ∧ x = nI k := nI_of2 (M := 12) (n := 12) (by decide) (Int32.not_lt.mpr h.1) h.2
theorem akeeps_in (txs : List AT) (p : ASp) (n : Nat) : 0 ≤ akeeps txs p n ∧ akeeps txs p n ≤ 12 := by
  obtain ⟨k, hk, e⟩ := in12 (held_in (given txs p (nI n)))
  unfold akeeps
  rw [e]
  have key : ∀ k, k ≤ 12 → ∀ z : Int32, 0 ≤ f_Kinds_keepsOf z (nI k) ∧ f_Kinds_keepsOf z (nI k) ≤ 12 := by
    intro k hk z
    unfold f_Kinds_keepsOf
    have : ∀ k, k < 13 → (0 ≤ nI k / 2 ∧ nI k / 2 ≤ 12) ∧ (0 ≤ (if 0 < nI k - 2 then nI k - 2 else 0) ∧ (if 0 < nI k - 2 then nI k - 2 else 0) ≤ 12) ∧ (0 ≤ nI k / 2 + 3 ∧ nI k / 2 + 3 ≤ 12) ∧ (0 ≤ nI k ∧ nI k ≤ 12) := by decide +kernel
    obtain ⟨a1, a2, a3, a4⟩ := this k (by omega)
    split
    · exact a1
    split
    · exact a2
    split
    · exact a3
    split
    · exact a2
    split
    · exact ⟨by decide, by decide⟩
    · exact a4
  exact key k hk p.1
/-- what a speaker takes of a row -/
def WEar (p : ASp) : Prop := ∃ e : Nat, p.2.1 = nI e ∧ 1 ≤ e ∧ e ≤ 9
def takesN (p : ASp) : Nat := (f_Kinds_takesOf p.1 p.2.1).toNatClampNeg
theorem takes_eq {p : ASp} (h : WEar p) : f_Kinds_takesOf p.1 p.2.1 = nI (takesN p) ∧ takesN p ≤ 11 := by
  obtain ⟨e, he, h1, h9⟩ := h
  unfold takesN
  rw [he]
  have key : ∀ e, e < 10 → ∀ z : Int32, f_Kinds_takesOf z (nI e) = nI (f_Kinds_takesOf z (nI e)).toNatClampNeg ∧ (f_Kinds_takesOf z (nI e)).toNatClampNeg ≤ 11 := by
    intro e he z
    unfold f_Kinds_takesOf
    have : ∀ e, e < 10 → (nI e + 2 = nI (nI e + 2).toNatClampNeg ∧ (nI e + 2).toNatClampNeg ≤ 11) ∧ (nI e / 2 = nI (nI e / 2).toNatClampNeg ∧ (nI e / 2).toNatClampNeg ≤ 11) ∧ (nI e / 2 + 1 = nI (nI e / 2 + 1).toNatClampNeg ∧ (nI e / 2 + 1).toNatClampNeg ≤ 11) ∧ (nI e = nI (nI e).toNatClampNeg ∧ (nI e).toNatClampNeg ≤ 11) := by decide +kernel
    obtain ⟨a1, a2, a3, a4⟩ := this e he
    split
    · exact a1
    split
    · exact a2
    split
    · exact a1
    split
    · exact a3
    split
    · exact ⟨by decide, by decide⟩
    · exact a4
  exact key e (by omega) p.1
/-- a speaker hears a row; how many words it loses -/
def ahw (p : ASp) (row : List Int32) : List Int32 := p.2.2.2.2 ++ row.take (takesN p)
def ahl (txs : List AT) (p : ASp) (row : List Int32) : Nat := (ahw p row).length - aleft (akeeps txs p) (ahw p row).length
def ahears (txs : List AT) (p : ASp) (row : List Int32) : ASp := (p.1, p.2.1, p.2.2.1, p.2.2.2.1, (ahw p row).drop (ahl txs p row))
theorem hears_c {L d F S R nR f : Nat} {p : ASp} {row : List Int32} {txs : List AT} {hi : pm_B} {Q : pm_Q} (hF : pm_fo F) (hS : pm_sk S) (hR : (SH L)[R]? = some (1, 0, nR)) (hnR : nR ≤ 1000) (hne : R ≠ S + 1) (hne2 : R ≠ S) (hp : CS hi S p) (he : WEar p) (hl12 : p.2.2.2.2.length ≤ 12) (hrow : Row (fun k => hi R (f + k)) row) (hb : f + row.length ≤ nR) (hlaw : hi (F + 18) 0 = lix (lk txs 0)) (hX : CX hi txs)
    (h : ∀ hi', Fr (fun q j => q = 49 ∨ q = S + 1 ∨ (q = S ∧ j = 4) ∨ (q = F ∧ j = 5)) hi hi' → CS hi' S (ahears txs p row) → hi' F 5 = hi F 5 + nI (ahl txs p row) → Q none hi') : pm_C pm_g (SH L) HR (d + 5) m_Folk_hears [.inr F, .inr S, .inr R, .inl (nI f), .inl (nI row.length)] hi Q := by
  obtain ⟨ht, ht11⟩ := takes_eq he
  have hne' := sk_ne hS hF
  refine v_Folk_hears (d := d + 3) hF hS hR (by omega) ?_
  rw [hp.1, hp.2.1, ht]
  have hmin : (if nI (takesN p) < nI row.length then nI (takesN p) else nI row.length) = nI (row.take (takesN p)).length := by
    rw [List.length_take]
    by_cases hlt : takesN p < row.length
    · rw [if_pos (nI_lt hlt (by omega)), Nat.min_eq_left (by omega)]
    · rw [if_neg (nI_nlt (by omega) (by omega)), Nat.min_eq_right (by omega)]
  rw [hmin]
  have hlt : (row.take (takesN p)).length ≤ 11 := by rw [List.length_take]; omega
  have hlt2 : (row.take (takesN p)).length ≤ row.length := by rw [List.length_take]; omega
  refine putBehind_c (d := d + 3) hS hR hnR hne hne2 hp.2.2.2.2.1 hp.2.2.2.2.2 (hrow.take _) (by omega) (by omega) (fun hi1 hF1 h4 hr1 => ⟨rfl, ?_⟩)
  have hw : p.2.2.2.2 ++ row.take (takesN p) = ahw p row := rfl
  rw [hw] at h4 hr1
  have hwl : (ahw p row).length ≤ 23 := by unfold ahw; rw [List.length_append]; omega
  rw [h4]
  have hS1 : ∀ j, j ≠ 4 → hi1 S j = hi S j := fun j hj => hF1 S j (by omega)
  have hp1 : CS hi1 S (p.1, p.2.1, p.2.2.1, p.2.2.2.1, ahw p row) := ⟨(hS1 0 (by omega)).trans hp.1, (hS1 1 (by omega)).trans hp.2.1, (hS1 2 (by omega)).trans hp.2.2.1, (hS1 3 (by omega)).trans hp.2.2.2.1, h4, hr1⟩
  have hlaw1 : hi1 (F + 18) 0 = lix (lk txs 0) := by rw [hF1 (F + 18) 0 (by omega)]; exact hlaw
  have hX1 : CX hi1 txs := hX.kept (fun q j h1 h2 => hF1 q j (by omega))
  have fin : ∀ n hi3, n = aleft (akeeps txs p) (ahw p row).length → Fr (fun q _ => q = 49) hi1 hi3 → pm_C pm_g (SH L) HR (d + 4) m_Speaker_forgetOldest [.inr S, .inl ((pm_u hi3 F 5 (hi3 F 5 + (hi3 S 4 - nI n))) S 4 - nI n)] (pm_u hi3 F 5 (hi3 F 5 + (hi3 S 4 - nI n))) (fun v hi6 => v = none ∧ Q none hi6) := by
    intro n hi3 hn hF3
    have hnl : n ≤ (ahw p row).length := by rw [hn]; exact aleft_le _ _
    have g4 : hi3 S 4 = nI (ahw p row).length := by rw [hF3 S 4 (by omega)]; exact h4
    have g5 : hi3 F 5 = hi F 5 := by rw [hF3 F 5 (by omega), hF1 F 5 (by omega)]
    rw [pm_u_ne (Or.inl (by omega)), g4, g5, nI_sub hnl]
    refine forgetOldest_c (d := d + 3) (ws := ahw p row) hS ?_ ?_ (by omega) (by omega) (fun hi6 hF6 k4 kr => ⟨rfl, ?_⟩)
    · rw [pm_u_ne (Or.inl (by omega))]
      exact g4
    · refine hr1.to (fun j _ => ?_)
      rw [pm_u_ne (Or.inl (by omega))]
      exact hF3 _ _ (by omega)
    · have el : (ahw p row).length - n = ahl txs p row := by unfold ahl; rw [hn]
      rw [el] at k4 kr
      have tS : ∀ j, j ≠ 4 → hi6 S j = hi S j := fun j hj => by
        rw [hF6 S j (by omega), pm_u_ne (Or.inl (by omega)), hF3 S j (by omega)]
        exact hS1 j hj
      refine h hi6 ?_ ⟨(tS 0 (by omega)).trans hp.1, (tS 1 (by omega)).trans hp.2.1, (tS 2 (by omega)).trans hp.2.2.1, (tS 3 (by omega)).trans hp.2.2.2.1, k4, kr⟩ ?_
      · intro q j hq
        rw [hF6 q j (by omega), pm_u_ne (by omega), hF3 q j (by omega), hF1 q j (by omega)]
      · rw [hF6 F 5 (by omega), pm_u_at, el]
  have key : ∀ n m hi', n + m = (ahw p row).length → aleft (akeeps txs p) n = aleft (akeeps txs p) (ahw p row).length → Fr (fun q _ => q = 49) hi1 hi' → pm_W pm_g (SH L) HR (d + 4) pm_t10 31 [some (.inr F), some (.inr S), some (.inr R), some (.inl (nI f)), some (.inl (nI row.length)), some (.inl (nI n)), some (.inl (nI m))] [] hi' Q := by
    intro n
    induction n with
    | zero =>
      intro m hi' hm hal hF'
      refine v_Folk_hears_31 (d := d + 3) hF hS hR (by omega) ⟨fun hc => absurd hc (nI_ge (b := 24) (by omega) (by omega)), fun _ => ?_⟩
      refine keepsOf_c (d := d + 1) (txs := txs) hF hS (hp1.kept (fun j => hF' _ _ (by omega)) (fun j => hF' _ _ (by omega))) (by rw [hF' _ _ (by omega)]; exact hlaw1) (hX1.kept (fun q j h1 h2 => hF' _ _ (by omega))) (fun hi3 hF3 => ⟨_, rfl, fun _ => fin 0 hi3 hal (hF'.tr hF3), fun hc => absurd ?_ hc⟩)
      exact (akeeps_in txs p 0).1
    | succ n ih =>
      intro m hi' hm hal hF'
      refine v_Folk_hears_31 (d := d + 3) hF hS hR (by omega) ⟨fun hc => absurd hc (nI_ge (b := 24) (by omega) (by omega)), fun _ => ?_⟩
      refine keepsOf_c (d := d + 1) (txs := txs) hF hS (hp1.kept (fun j => hF' _ _ (by omega)) (fun j => hF' _ _ (by omega))) (by rw [hF' _ _ (by omega)]; exact hlaw1) (hX1.kept (fun q j h1 h2 => hF' _ _ (by omega))) (fun hi3 hF3 => ⟨_, rfl, fun hc => fin (n + 1) hi3 ?_ (hF'.tr hF3), fun hc => ?_⟩)
      · rw [← hal]
        unfold aleft
        exact (if_pos hc).symm
      · rw [pk_m1, nI_1]
        refine ih (m + 1) hi3 (by omega) ?_ (hF'.tr hF3)
        rw [← hal]
        conv => rhs; unfold aleft
        exact (if_neg hc).symm
  exact key (ahw p row).length 0 hi1 (by omega) rfl Fr.rf
end
section
/-! ===== the folk: lessons and days (class side) ===== -/
/-- a folk: speakers, talk, spoken, lost, day, z, texts -/
abbrev AF : Type := List ASp × Int32 × Int32 × Int32 × Int32 × Int32 × List AT
def CF (hi : pm_B) (F : Nat) (f : AF) : Prop := match f with
  | (sps, talk, spoken, lost, day, z, txs) => hi F 2 = nI sps.length ∧ hi F 3 = talk ∧ hi F 4 = spoken ∧ hi F 5 = lost ∧ hi F 6 = day ∧ hi F 7 = z ∧ hi F 8 = nI txs.length ∧ (∀ k, k < 3 → hi (F + 18) k = lix (lk txs (nI k))) ∧ ∀ i p, sps[i]? = some p → CS hi (F + 2 + 2 * i) p
def WS (p : ASp) : Prop := WEar p ∧ p.2.2.2.2.length ≤ 12
def WF (f : AF) : Prop := f.1.length ≤ 8 ∧ ∀ p ∈ f.1, WS p
def zn (z : Int32) : Int32 := z * 1103515245 + 12345
def drN (z : Int32) : Nat := (zn z).toBitVec.toNat / 256
theorem nI_bv (y : Int32) : nI y.toBitVec.toNat = y := by
  apply Int32.toBitVec_inj.mp
  show BitVec.ofNat 32 y.toBitVec.toNat = y.toBitVec
  simp
theorem dr_eq (z : Int32) : ((Int32.toUInt32 (zn z) >>> (Int32.toUInt32 8 &&& Int32.toUInt32 31)).toInt32) = nI (drN z) ∧ drN z < 16777216 := by
  have h := pk_ushr (zn z) 8 8 (by decide)
  refine ⟨?_, ?_⟩
  · rw [← nI_bv ((Int32.toUInt32 (zn z) >>> (Int32.toUInt32 8 &&& Int32.toUInt32 31)).toInt32), h]
    rfl
  · have := (zn z).toBitVec.isLt
    unfold drN
    omega
theorem drawBelow_c {L d F n : Nat} {z : Int32} {hi : pm_B} {Q : pm_Q} (hF : pm_fo F) (hn : 0 < n) (hn2 : n ≤ 1000) (hz : hi F 7 = z) (h : Q (some (.inl (nI (drN z % n)))) (pm_u hi F 7 (zn z))) : pm_C pm_g (SH L) HR (d + 1) m_Folk_drawBelow [.inr F, .inl (nI n)] hi Q := by
  refine v_Folk_drawBelow hF ⟨fun hc => absurd hc (nI_nle hn (by omega)), fun _ => ⟨nI_ne0 hn (by omega), ?_⟩⟩
  obtain ⟨e1, e2⟩ := dr_eq z
  rw [pm_u_at, hz, show z * 1103515245 + 12345 = zn z from rfl, e1, pk_rem (by omega) hn (by omega)]
  exact h
def goesN (p : ASp) : Nat := (f_Kinds_goesOf p.1).toNatClampNeg
theorem goes_eq (p : ASp) : f_Kinds_goesOf p.1 = nI (goesN p) ∧ goesN p ≤ 9 ∧ 2 ≤ goesN p := by
  unfold goesN f_Kinds_goesOf
  split
  · decide
  split
  · decide
  split
  · decide
  split
  · decide
  · decide
/-- the piece that one speaks from place k on -/
def arow (p : ASp) (k : Nat) : List Int32 := (p.2.2.2.2.drop k).take (goesN p)
theorem arow_len {p : ASp} {k : Nat} : (arow p k).length = min (goesN p) (p.2.2.2.2.length - k) := by unfold arow; rw [List.length_take, List.length_drop]
/-- one (i) speaks to another (j) from place k on -/
def asay (f : AF) (i j k : Nat) : AF := match f with
  | (sps, talk, spoken, lost, day, z, txs) => match sps[i]?, sps[j]? with
    | some p, some q => ((sps.set j (ahears txs q (arow p k))).set i (p.1, p.2.1, p.2.2.1, p.2.2.2.1 + nI (arow p k).length, p.2.2.2.2), talk, spoken + 1, lost + nI (ahl txs q (arow p k)), day, z, txs)
    | _, _ => f
theorem CS.said {hi : pm_B} {S : Nat} {p : ASp} (h : CS hi S p) (v : Int32) : CS (pm_u hi S 3 v) S (p.1, p.2.1, p.2.2.1, v, p.2.2.2.2) := by
  obtain ⟨a, b, c, d, e, f⟩ := h
  refine ⟨?_, ?_, ?_, pm_u_at, ?_, ?_⟩
  · rw [pm_u_ne (Or.inr (by omega))]; exact a
  · rw [pm_u_ne (Or.inr (by omega))]; exact b
  · rw [pm_u_ne (Or.inr (by omega))]; exact c
  · rw [pm_u_ne (Or.inr (by omega))]; exact e
  · exact f.to (fun k _ => pm_u_ne (Or.inl (by omega)))
def PF (F : Nat) : Nat → Nat → Prop := fun q _ => q = 49 ∨ q = F ∨ (F + 2 ≤ q ∧ q < F + 18)
theorem speakTo_c {L d F i j k : Nat} {f : AF} {p q : ASp} {hi : pm_B} {Q : pm_Q} (hF : pm_fo F) (hij : i ≠ j) (hpi : f.1[i]? = some p) (hpj : f.1[j]? = some q) (hk : k < p.2.2.2.2.length) (hW : WF f) (hC : CF hi F f) (hX : CX hi f.2.2.2.2.2.2)
    (h : ∀ hi', Fr (PF F) hi hi' → CF hi' F (asay f i j k) → Q (some (.inl (nI (arow p k).length))) hi') : pm_C pm_g (SH L) HR (d + 6) m_Folk_speakTo [.inr F, .inr (F + 2 + 2 * i), .inr (F + 2 + 2 * j), .inl (nI k)] hi Q := by
  obtain ⟨sps, talk, spoken, lost, day, z, txs⟩ := f
  obtain ⟨c2, c3, c4, c5, c6, c7, c8, c9, cS⟩ := hC
  dsimp only at hpi hpj hX
  have hi8 : i < sps.length := (List.getElem?_eq_some_iff.mp hpi).1
  have hj8 : j < sps.length := (List.getElem?_eq_some_iff.mp hpj).1
  have hl8 : sps.length ≤ 8 := hW.1
  have hp := cS i p hpi
  have hq := cS j q hpj
  have wp := hW.2 p (List.mem_of_getElem? hpi)
  have wq := hW.2 q (List.mem_of_getElem? hpj)
  obtain ⟨g1, g2, g3⟩ := goes_eq p
  have hS1 := sk_of hF (show i < 8 by omega)
  have hS2 := sk_of hF (show j < 8 by omega)
  have hF49 : F ≠ 49 ∧ 49 < F := by rcases hF with rfl | rfl | rfl <;> omega
  refine v_Folk_speakTo (d := d + 4) hF hS1 hS2 ?_
  have hl12 := wp.2
  have hlen : (if (hi (F + 2 + 2 * i) 4 - nI k) < f_Kinds_goesOf (hi (F + 2 + 2 * i) 0) then (hi (F + 2 + 2 * i) 4 - nI k) else f_Kinds_goesOf (hi (F + 2 + 2 * i) 0)) = nI (arow p k).length := by
    rw [hp.1, hp.2.2.2.2.1, g1, nI_sub (by omega), arow_len]
    by_cases hlt : p.2.2.2.2.length - k < goesN p
    · rw [if_pos (nI_lt hlt (by omega)), Nat.min_eq_right (by omega)]
    · rw [if_neg (nI_nlt (by omega) (by omega)), Nat.min_eq_left (by omega)]
  rw [hlen]
  have hal := arow_len (p := p) (k := k)
  refine hears_c (d := d) (p := q) (row := arow p k) (txs := txs) hF hS2 (sh_sk1 hS1) (by omega) (by omega) (by omega) hq wq.1 wq.2 ((hp.2.2.2.2.2.drop k).take _) (by omega) (c9 0 (by omega)) hX (fun hi1 hF1 hq1 h5 => ⟨rfl, ?_⟩)
  intro hi2 e2
  have es3 : hi1 (F + 2 + 2 * i) 3 = p.2.2.2.1 := by rw [hF1 _ _ (by omega)]; exact hp.2.2.2.1
  have eF4 : pm_u hi1 (F + 2 + 2 * i) 3 (hi1 (F + 2 + 2 * i) 3 + nI (arow p k).length) F 4 = spoken := by rw [pm_u_ne (Or.inl (by omega)), hF1 F 4 (by omega)]; exact c4
  rw [eF4, es3] at e2
  subst e2
  have tF : ∀ j', j' ≠ 4 → j' ≠ 5 → pm_u (pm_u hi1 (F + 2 + 2 * i) 3 (p.2.2.2.1 + nI (arow p k).length)) F 4 (spoken + 1) F j' = hi F j' := fun j' a b => by
    rw [pm_u_ne (Or.inr a), pm_u_ne (Or.inl (by omega)), hF1 F j' (by omega)]
  refine h _ ?_ ?_
  · intro q' j' hn
    unfold PF at hn
    rw [pm_u_ne (Or.inl (by omega)), pm_u_ne (Or.inl (by omega)), hF1 q' j' (by omega)]
  · unfold asay
    dsimp only
    rw [hpi, hpj]
    dsimp only
    refine ⟨?_, (tF 3 (by omega) (by omega)).trans c3, pm_u_at, ?_, (tF 6 (by omega) (by omega)).trans c6, (tF 7 (by omega) (by omega)).trans c7, (tF 8 (by omega) (by omega)).trans c8, fun k' hk' => ?_, fun m r hr => ?_⟩
    · rw [List.length_set, List.length_set]
      exact (tF 2 (by omega) (by omega)).trans c2
    · rw [pm_u_ne (Or.inr (by omega)), pm_u_ne (Or.inl (by omega)), h5, c5]
    · rw [pm_u_ne (Or.inl (by omega)), pm_u_ne (Or.inl (by omega)), hF1 _ _ (by omega)]
      exact c9 k' hk'
    · have hm8 : m < sps.length := by
        have := (List.getElem?_eq_some_iff.mp hr).1
        rw [List.length_set, List.length_set] at this
        exact this
      by_cases hmi : m = i
      · subst hmi
        rw [List.getElem?_set_self (by rw [List.length_set]; exact hi8)] at hr
        cases hr
        have hpk : CS hi1 (F + 2 + 2 * m) p := hp.kept (fun j' => hF1 _ _ (by omega)) (fun j' => hF1 _ _ (by omega))
        exact (hpk.said _).kept (fun j' => pm_u_ne (Or.inl (by omega))) (fun j' => pm_u_ne (Or.inl (by omega)))
      · rw [List.getElem?_set_ne (Ne.symm hmi)] at hr
        by_cases hmj : m = j
        · subst hmj
          rw [List.getElem?_set_self hj8] at hr
          cases hr
          exact hq1.kept (fun j' => by rw [pm_u_ne (Or.inl (by omega)), pm_u_ne (Or.inl (by omega))]) (fun j' => by rw [pm_u_ne (Or.inl (by omega)), pm_u_ne (Or.inl (by omega))])
        · rw [List.getElem?_set_ne (Ne.symm hmj)] at hr
          exact (cS m r hr).kept (fun j' => by rw [pm_u_ne (Or.inl (by omega)), pm_u_ne (Or.inl (by omega)), hF1 _ _ (by omega)]) (fun j' => by rw [pm_u_ne (Or.inl (by omega)), pm_u_ne (Or.inl (by omega)), hF1 _ _ (by omega)])
theorem CF.z {hi : pm_B} {F : Nat} {sps : List ASp} {talk spoken lost day z : Int32} {txs : List AT} (h : CF hi F (sps, talk, spoken, lost, day, z, txs)) (v : Int32) : CF (pm_u hi F 7 v) F (sps, talk, spoken, lost, day, v, txs) := by
  obtain ⟨c2, c3, c4, c5, c6, c7, c8, c9, cS⟩ := h
  have t : ∀ j, j ≠ 7 → pm_u hi F 7 v F j = hi F j := fun j hj => pm_u_ne (Or.inr hj)
  refine ⟨(t 2 (by omega)).trans c2, (t 3 (by omega)).trans c3, (t 4 (by omega)).trans c4, (t 5 (by omega)).trans c5, (t 6 (by omega)).trans c6, pm_u_at, (t 8 (by omega)).trans c8, fun k hk => ?_, fun i p hp => ?_⟩
  · rw [pm_u_ne (Or.inl (by omega))]; exact c9 k hk
  · exact (cS i p hp).kept (fun j => pm_u_ne (Or.inl (by omega))) (fun j => pm_u_ne (Or.inl (by omega)))
theorem CF.day {hi : pm_B} {F : Nat} {sps : List ASp} {talk spoken lost day z : Int32} {txs : List AT} (h : CF hi F (sps, talk, spoken, lost, day, z, txs)) (v : Int32) : CF (pm_u hi F 6 v) F (sps, talk, spoken, lost, v, z, txs) := by
  obtain ⟨c2, c3, c4, c5, c6, c7, c8, c9, cS⟩ := h
  have t : ∀ j, j ≠ 6 → pm_u hi F 6 v F j = hi F j := fun j hj => pm_u_ne (Or.inr hj)
  refine ⟨(t 2 (by omega)).trans c2, (t 3 (by omega)).trans c3, (t 4 (by omega)).trans c4, (t 5 (by omega)).trans c5, pm_u_at, (t 7 (by omega)).trans c7, (t 8 (by omega)).trans c8, fun k hk => ?_, fun i p hp => ?_⟩
  · rw [pm_u_ne (Or.inl (by omega))]; exact c9 k hk
  · exact (cS i p hp).kept (fun j => pm_u_ne (Or.inl (by omega))) (fun j => pm_u_ne (Or.inl (by omega)))
theorem CX.keep {hi hi' : pm_B} {txs : List AT} {F : Nat} (hF : pm_fo F) (hf : Fr (PF F) hi hi') (h : CX hi txs) : CX hi' txs :=
  h.kept (fun q j h1 h2 => hf q j (fun hp => by unfold PF at hp; rcases hF with rfl | rfl | rfl <;> omega))
theorem WF.cz {sps : List ASp} {talk spoken lost day z : Int32} {txs : List AT} (h : WF (sps, talk, spoken, lost, day, z, txs)) (day' z' : Int32) : WF (sps, talk, spoken, lost, day', z', txs) := ⟨h.1, h.2⟩
/-- the lesson of a day: one (i) to another (j), if the one has words -/
def atail (f : AF) (i j : Nat) : AF := match f with
  | (sps, talk, spoken, lost, day, z, txs) => match sps[i]? with
    | none => f
    | some p => if p.2.2.2.2.length = 0 then f else asay (sps, talk, spoken, lost, day, zn z, txs) i j (drN z % p.2.2.2.2.length)
theorem day_tail {L d F i j : Nat} {f : AF} {hi : pm_B} {Q : pm_Q} {x y : Int32} (hF : pm_fo F) (hij : i ≠ j) (hi8 : i < f.1.length) (hj8 : j < f.1.length) (hW : WF f) (hC : CF hi F f) (hX : CX hi f.2.2.2.2.2.2) (hx : x = nI i) (hy : y = nI j)
    (h : ∀ hi', Fr (PF F) hi hi' → CF hi' F (atail f i j) → Q none hi') : ((x < 0) → Q none hi) ∧ ((¬ (x < 0)) → (((hi F 2) ≤ x) → Q none hi) ∧ ((¬ ((hi F 2) ≤ x)) → ((8 ≤ x) → Q none hi) ∧ ((¬ (8 ≤ x)) → ((y < 0) → Q none hi) ∧ ((¬ (y < 0)) → (((hi F 2) ≤ y) → Q none hi) ∧ ((¬ ((hi F 2) ≤ y)) → ((8 ≤ y) → Q none hi) ∧ ((¬ (8 ≤ y)) → ∃ k16 : Nat, k16 < 8 ∧ x = nI k16 ∧ ((((hi (F + 2 + 2 * k16) 4) ≤ 0) → Q none hi) ∧ ((¬ ((hi (F + 2 + 2 * k16) 4) ≤ 0)) → ∃ k18 : Nat, k18 < 8 ∧ y = nI k18 ∧ (pm_C pm_g (SH L) HR (d + 6) m_Folk_drawBelow [.inr F, .inl (hi (F + 2 + 2 * k16) 4)] hi (fun v hi19 => ∃ x20 : Int32, v = some (.inl x20) ∧ (pm_C pm_g (SH L) HR (d + 6) m_Folk_speakTo [.inr F, .inr (F + 2 + 2 * k16), .inr (F + 2 + 2 * k18), .inl x20] hi19 (fun v hi21 => ∃ x22 : Int32, v = some (.inl x22) ∧ (Q none hi21))))))))))))) := by
  subst hx hy
  obtain ⟨sps, talk, spoken, lost, day, z, txs⟩ := f
  have hC0 := hC
  obtain ⟨c2, c3, c4, c5, c6, c7, c8, c9, cS⟩ := hC
  have hl8 : sps.length ≤ 8 := hW.1
  dsimp only at hi8 hj8 hX
  have e8 : (8 : Int32) = nI 8 := rfl
  rw [c2, e8]
  refine ⟨fun hc => absurd hc (nI_pos (by omega)), fun _ => ⟨fun hc => absurd hc (nI_ge hi8 (by omega)), fun _ => ⟨fun hc => absurd hc (nI_ge (by omega) (by omega)), fun _ => ⟨fun hc => absurd hc (nI_pos (by omega)), fun _ => ⟨fun hc => absurd hc (nI_ge hj8 (by omega)), fun _ => ⟨fun hc => absurd hc (nI_ge (by omega) (by omega)), fun _ => ⟨i, by omega, rfl, ?_⟩⟩⟩⟩⟩⟩⟩
  obtain ⟨p, hp⟩ : ∃ p, sps[i]? = some p := ⟨_, List.getElem?_eq_getElem hi8⟩
  obtain ⟨q, hq⟩ : ∃ q, sps[j]? = some q := ⟨_, List.getElem?_eq_getElem hj8⟩
  have hSp := cS i p hp
  have w12 := (hW.2 p (List.mem_of_getElem? hp)).2
  rw [hSp.2.2.2.2.1]
  have ea : atail (sps, talk, spoken, lost, day, z, txs) i j = if p.2.2.2.2.length = 0 then (sps, talk, spoken, lost, day, z, txs) else asay (sps, talk, spoken, lost, day, zn z, txs) i j (drN z % p.2.2.2.2.length) := by
    unfold atail; dsimp only; rw [hp]
  rw [ea] at h
  refine ⟨fun hc => ?_, fun hc => ⟨j, by omega, rfl, ?_⟩⟩
  · have h0 : p.2.2.2.2.length = 0 := Nat.eq_zero_of_not_pos (fun h0 => absurd hc (nI_nle h0 (by omega)))
    rw [if_pos h0] at h
    exact h hi Fr.rf hC0
  · have h0 : 0 < p.2.2.2.2.length := Nat.pos_of_ne_zero (fun h0 => hc (by rw [h0]; decide))
    rw [if_neg (by omega)] at h
    have hC1 := hC0.z (zn z)
    have fr1 : Fr (PF F) hi (pm_u hi F 7 (zn z)) := fun q' j' hn => pm_u_ne (Or.inl (fun hh => hn (Or.inr (Or.inl hh))))
    refine drawBelow_c (d := d + 5) hF h0 (by omega) c7 ⟨_, rfl, ?_⟩
    have hX1 : CX (pm_u hi F 7 (zn z)) txs := hX.keep hF fr1
    have hW1 := hW.cz day (zn z)
    have hk := Nat.mod_lt (drN z) h0
    generalize drN z % p.2.2.2.2.length = k at h hk ⊢
    generalize zn z = z' at h hC1 fr1 hX1 hW1 ⊢
    exact speakTo_c (d := d) (f := (sps, talk, spoken, lost, day, z', txs)) hF hij hp hq hk hW1 hC1 hX1 (fun hi' hf hc' => ⟨_, rfl, h hi' (fr1.tr hf) hc'⟩)
/-- one day -/
def aday (f : AF) : AF := match f with
  | (sps, talk, spoken, lost, day, z, txs) =>
    if talk ≤ nI (drN z % 100) then (sps, talk, spoken, lost, day + 1, zn z, txs)
    else if sps.length < 2 then (sps, talk, spoken, lost, day + 1, zn z, txs)
    else atail (sps, talk, spoken, lost, day + 1, zn (zn (zn z)), txs) (drN (zn z) % sps.length)
          (if drN (zn (zn z)) % (sps.length - 1) < drN (zn z) % sps.length then drN (zn (zn z)) % (sps.length - 1) else drN (zn (zn z)) % (sps.length - 1) + 1)
theorem passDay_c {L d F : Nat} {f : AF} {hi : pm_B} {Q : pm_Q} (hF : pm_fo F) (hW : WF f) (hC : CF hi F f) (hX : CX hi f.2.2.2.2.2.2)
    (h : ∀ hi', Fr (PF F) hi hi' → CF hi' F (aday f) → Q none hi') : pm_C pm_g (SH L) HR (d + 7) m_Folk_passDay [.inr F] hi Q := by
  obtain ⟨sps, talk, spoken, lost, day, z, txs⟩ := f
  have hl8 : sps.length ≤ 8 := hW.1
  dsimp only at hX
  refine v_Folk_passDay (d := d + 5) hF ?_
  have fru : ∀ (a : pm_B) (v : Int32) (j : Nat), Fr (PF F) a (pm_u a F j v) := fun a v j q' j' hn => pm_u_ne (Or.inl (fun hh => hn (Or.inr (Or.inl hh))))
  have hC1 := hC.z (zn z)
  refine drawBelow_c (d := d + 5) (n := 100) hF (by omega) (by omega) hC.2.2.2.2.2.1 ⟨_, rfl, ?_⟩
  rw [hC1.2.1, hC1.1, hC1.2.2.2.2.1]
  have hC2 := hC1.day (day + 1)
  have fr2 := (fru hi (zn z) 7).tr (fru (pm_u hi F 7 (zn z)) (day + 1) 6)
  unfold aday at h
  dsimp only at h
  refine ⟨fun c => ?_, fun c => ⟨fun c' => ?_, fun c' => ?_⟩⟩
  · rw [if_pos c] at h
    exact h _ fr2 hC2
  · rw [if_neg c, if_pos ((nI_ltI (a := sps.length) (b := 2) (by omega) (by omega)).mp c')] at h
    exact h _ fr2 hC2
  · have c2 : ¬ sps.length < 2 := fun hh => c' (nI_lt (b := 2) hh (by omega))
    rw [if_neg c, if_neg c2] at h
    have fr2' := fr2
    generalize pm_u (pm_u hi F 7 (zn z)) F 6 (day + 1) = hi2 at hC2 fr2' ⊢
    rw [hC2.1]
    refine drawBelow_c (d := d + 5) hF (by omega) (by omega) hC2.2.2.2.2.2.1 ⟨_, rfl, ?_⟩
    have hC3 := hC2.z (zn (zn z))
    have fr3 := fr2'.tr (fru hi2 (zn (zn z)) 7)
    generalize pm_u hi2 F 7 (zn (zn z)) = hi3 at hC3 fr3 ⊢
    rw [hC3.1, show nI sps.length - 1 = nI (sps.length - 1) from nI_sub (b := 1) (by omega)]
    refine drawBelow_c (d := d + 5) hF (by omega) (by omega) hC3.2.2.2.2.2.1 ⟨_, rfl, ?_⟩
    have hC4 := hC3.z (zn (zn (zn z)))
    have fr4 := fr3.tr (fru hi3 (zn (zn (zn z))) 7)
    generalize pm_u hi3 F 7 (zn (zn (zn z))) = hi4 at hC4 fr4 ⊢
    have hX4 := hX.keep hF fr4
    have hm1 := Nat.mod_lt (drN (zn z)) (show 0 < sps.length by omega)
    have hm2 := Nat.mod_lt (drN (zn (zn z))) (show 0 < sps.length - 1 by omega)
    refine ⟨fun c3 => ?_, fun c3 => ?_⟩
    · have c4 := (nI_ltI (by omega) (by omega)).mp c3
      rw [if_pos c4] at h
      exact day_tail (d := d) (f := (sps, talk, spoken, lost, day + 1, zn (zn (zn z)), txs)) hF (by omega) hm1 (by dsimp only; omega) (hW.cz _ _) hC4 hX4 rfl rfl (fun hi' hf hc => h hi' (fr4.tr hf) hc)
    · have c4 : ¬ _ := fun hh => c3 (nI_lt hh (by omega))
      rw [if_neg c4] at h
      exact day_tail (d := d) (f := (sps, talk, spoken, lost, day + 1, zn (zn (zn z)), txs)) hF (by omega) hm1 (by dsimp only; omega) (hW.cz _ _) hC4 hX4 rfl (nI_1 _) (fun hi' hf hc => h hi' (fr4.tr hf) hc)
end
section
/-! ===== the folk: entering, becoming, counting (class side) ===== -/
def aenter (f : AF) (kind ear fame : Int32) : AF := match f with
  | (sps, talk, spoken, lost, day, z, txs) => if sps.length < 8 then (sps ++ [(kind, ear, fame, 0, [])], talk, spoken, lost, day, z, txs) else f
theorem enter_c {L d F : Nat} {f : AF} {kind ear fame : Int32} {hi : pm_B} {Q : pm_Q} (hF : pm_fo F) (hl : f.1.length ≤ 8) (hC : CF hi F f)
    (h : ∀ hi', Fr (PF F) hi hi' → CF hi' F (aenter f kind ear fame) → Q none hi') : pm_C pm_g (SH L) HR (d + 2) m_Folk_enter [.inr F, .inl kind, .inl ear, .inl fame] hi Q := by
  obtain ⟨sps, talk, spoken, lost, day, z, txs⟩ := f
  have hC0 := hC
  obtain ⟨c2, c3, c4, c5, c6, c7, c8, c9, cS⟩ := hC
  dsimp only at hl
  refine v_Folk_enter hF ?_
  rw [c2]
  unfold aenter at h
  dsimp only at h
  refine ⟨fun hc => absurd hc (nI_pos (by omega)), fun _ => ⟨fun hc => ?_, fun hc => ?_⟩⟩
  · have h8 : 8 ≤ sps.length := (nI_leI (a := 8) (by omega) (by omega)).mp hc
    rw [if_neg (by omega)] at h
    exact h hi Fr.rf hC0
  · have h8 : sps.length < 8 := Nat.lt_of_not_le (fun hh => hc (nI_le (a := 8) hh (by omega)))
    rw [if_pos h8] at h
    refine ⟨sps.length, h8, rfl, fun hi4 e4 hi5 e5 hi6 e6 => ?_⟩
    have a6 : ∀ q j, q ≠ F + 2 + 2 * sps.length → hi6 q j = hi q j := fun q j hq => by
      rw [e6, pm_u_ne (Or.inl hq), e5, pm_u_ne (Or.inl hq), pm_u_ne (Or.inl hq), e4, pm_u_ne (Or.inl hq), pm_u_ne (Or.inl hq)]
    rw [a6 F 2 (by omega), c2, nI_1]
    have tF : ∀ j, j ≠ 2 → pm_u hi6 F 2 (nI (sps.length + 1)) F j = hi F j := fun j hj => by rw [pm_u_ne (Or.inr hj), a6 F j (by omega)]
    refine h _ ?_ ?_
    · intro q j hn
      unfold PF at hn
      rw [pm_u_ne (Or.inl (by omega)), a6 q j (by omega)]
    · refine ⟨?_, (tF 3 (by omega)).trans c3, (tF 4 (by omega)).trans c4, (tF 5 (by omega)).trans c5, (tF 6 (by omega)).trans c6, (tF 7 (by omega)).trans c7, (tF 8 (by omega)).trans c8, fun k hk => ?_, fun i p hp => ?_⟩
      · rw [pm_u_at, List.length_append]; rfl
      · rw [pm_u_ne (Or.inl (by omega)), a6 _ _ (by omega)]; exact c9 k hk
      · have hi9 : i < sps.length + 1 := by
          have := (List.getElem?_eq_some_iff.mp hp).1
          rw [List.length_append] at this
          exact this
        by_cases hil : i = sps.length
        · subst hil
          rw [List.getElem?_append_right (Nat.le_refl _), Nat.sub_self] at hp
          cases hp
          have b : ∀ j, pm_u hi6 F 2 (nI (sps.length + 1)) (F + 2 + 2 * sps.length) j = hi6 (F + 2 + 2 * sps.length) j := fun j => pm_u_ne (Or.inl (by omega))
          refine ⟨?_, ?_, ?_, ?_, ?_, Row.nil⟩
          · rw [b, e6, pm_u_ne (Or.inr (by omega)), e5, pm_u_ne (Or.inr (by omega)), pm_u_ne (Or.inr (by omega)), e4, pm_u_ne (Or.inr (by omega)), pm_u_at]
          · rw [b, e6, pm_u_ne (Or.inr (by omega)), e5, pm_u_ne (Or.inr (by omega)), pm_u_ne (Or.inr (by omega)), e4, pm_u_at]
          · rw [b, e6, pm_u_ne (Or.inr (by omega)), e5, pm_u_ne (Or.inr (by omega)), pm_u_at]
          · rw [b, e6, pm_u_ne (Or.inr (by omega)), e5, pm_u_at]
          · rw [b, e6, pm_u_at]; rfl
        · rw [List.getElem?_append_left (by omega)] at hp
          exact (cS i p hp).kept (fun j => by rw [pm_u_ne (Or.inl (by omega)), a6 _ _ (by omega)]) (fun j => by rw [pm_u_ne (Or.inl (by omega)), a6 _ _ (by omega)])
/-- one enters by lot -/
def alot (f : AF) : AF := match f with
  | (sps, talk, spoken, lost, day, z, txs) => aenter (sps, talk, spoken, lost, day, zn (zn (zn z)), txs) (nI (drN z % 6)) (1 + nI (drN (zn z) % 9)) (nI (drN (zn (zn z)) % 100))
theorem enterByLot_c {L d F : Nat} {f : AF} {hi : pm_B} {Q : pm_Q} (hF : pm_fo F) (hl : f.1.length ≤ 8) (hC : CF hi F f)
    (h : ∀ hi', Fr (PF F) hi hi' → CF hi' F (alot f) → Q none hi') : pm_C pm_g (SH L) HR (d + 3) m_Folk_enterByLot [.inr F] hi Q := by
  obtain ⟨sps, talk, spoken, lost, day, z, txs⟩ := f
  unfold alot at h
  dsimp only at h hl
  have fru : ∀ (a : pm_B) (v : Int32) (j : Nat), Fr (PF F) a (pm_u a F j v) := fun a v j q' j' hn => pm_u_ne (Or.inl (fun hh => hn (Or.inr (Or.inl hh))))
  refine v_Folk_enterByLot (d := d + 2) hF ?_
  refine drawBelow_c (d := d + 1) (n := 6) hF (by omega) (by omega) hC.2.2.2.2.2.1 ⟨_, rfl, ?_⟩
  have hC1 := hC.z (zn z)
  have fr1 := fru hi (zn z) 7
  generalize pm_u hi F 7 (zn z) = hi1 at hC1 fr1 ⊢
  refine drawBelow_c (d := d + 1) (n := 9) hF (by omega) (by omega) hC1.2.2.2.2.2.1 ⟨_, rfl, ?_⟩
  have hC2 := hC1.z (zn (zn z))
  have fr2 := fr1.tr (fru hi1 (zn (zn z)) 7)
  generalize pm_u hi1 F 7 (zn (zn z)) = hi2 at hC2 fr2 ⊢
  refine drawBelow_c (d := d + 1) (n := 100) hF (by omega) (by omega) hC2.2.2.2.2.2.1 ⟨_, rfl, ?_⟩
  have hC3 := hC2.z (zn (zn (zn z)))
  have fr3 := fr2.tr (fru hi2 (zn (zn (zn z))) 7)
  generalize pm_u hi2 F 7 (zn (zn (zn z))) = hi3 at hC3 fr3 ⊢
  generalize nI (drN z % 6) = a at h ⊢
  generalize nI (drN (zn z) % 9) = b at h ⊢
  generalize nI (drN (zn (zn z)) % 100) = c at h ⊢
  generalize zn (zn (zn z)) = z' at h hC3 ⊢
  exact enter_c (d := d) (f := (sps, talk, spoken, lost, day, z', txs)) hF hl hC3 (fun hi' hf hc => ⟨rfl, h hi' (fr3.tr hf) hc⟩)
/-- a speaker becomes as another -/
theorem spBecome_c {L d S T : Nat} {p : ASp} {hi : pm_B} {Q : pm_Q} (hS : pm_sk S) (hT : pm_sk T) (hST : S ≠ T) (hl : p.2.2.2.2.length ≤ 24) (hC : CS hi T p)
    (h : ∀ hi', Fr (fun q _ => q = S ∨ q = S + 1) hi hi' → CS hi' S p → Q none hi') : pm_C pm_g (SH L) HR (d + 1) m_Speaker_become [.inr S, .inr T] hi Q := by
  obtain ⟨n1, n2⟩ := sk_ne2 hS hT
  obtain ⟨n3, _⟩ := sk_ne2 hT hS
  have n2 := n2 hST
  obtain ⟨a0, a1, a2, a3, a4, aR⟩ := hC
  refine v_Speaker_become hS hT (fun hi1 e1 hi2 e2 => ?_)
  have f1 : ∀ q j, q ≠ S → hi1 q j = hi q j := fun q j hq => by rw [e1, pm_u_ne (Or.inl hq), pm_u_ne (Or.inl hq)]
  have f2 : ∀ q j, q ≠ S → hi2 q j = hi q j := fun q j hq => by rw [e2, pm_u_ne (Or.inl hq), pm_u_ne (Or.inl hq), f1 q j hq]
  have g : ∀ q j, q ≠ S → pm_u hi2 S 4 (hi2 T 4) q j = hi q j := fun q j hq => by rw [pm_u_ne (Or.inl hq), f2 q j hq]
  have g4 : pm_u hi2 S 4 (hi2 T 4) S 4 = nI p.2.2.2.2.length := by rw [pm_u_at, f2 _ _ (Ne.symm hST)]; exact a4
  have g3 : pm_u hi2 S 4 (hi2 T 4) S 3 = p.2.2.2.1 := by rw [pm_u_ne (Or.inr (by omega)), e2, pm_u_at, pm_u_ne (Or.inl (Ne.symm hST)), f1 _ _ (Ne.symm hST)]; exact a3
  have g2 : pm_u hi2 S 4 (hi2 T 4) S 2 = p.2.2.1 := by rw [pm_u_ne (Or.inr (by omega)), e2, pm_u_ne (Or.inr (by omega)), pm_u_at, f1 _ _ (Ne.symm hST)]; exact a2
  have g1 : pm_u hi2 S 4 (hi2 T 4) S 1 = p.2.1 := by rw [pm_u_ne (Or.inr (by omega)), e2, pm_u_ne (Or.inr (by omega)), pm_u_ne (Or.inr (by omega)), e1, pm_u_at, pm_u_ne (Or.inl (Ne.symm hST))]; exact a1
  have g0 : pm_u hi2 S 4 (hi2 T 4) S 0 = p.1 := by rw [pm_u_ne (Or.inr (by omega)), e2, pm_u_ne (Or.inr (by omega)), pm_u_ne (Or.inr (by omega)), e1, pm_u_ne (Or.inr (by omega)), pm_u_at]; exact a0
  generalize pm_u hi2 S 4 (hi2 T 4) = hi3 at g g0 g1 g2 g3 g4 ⊢
  clear f1 f2 e1 e2
  have key : ∀ n k hi', k + n = p.2.2.2.2.length → (∀ q j, q ≠ S + 1 → hi' q j = hi3 q j) → (∀ j, j < k → hi' (S + 1) j = hi (T + 1) j) → pm_W pm_g (SH L) HR d pm_t62 42 [some (.inr S), some (.inr T), some (.inl (nI k))] [] hi' Q := by
    intro n
    induction n with
    | zero =>
      intro k hi' hk u1 u2
      refine v_Speaker_become_42 hS hT ?_
      rw [u1 S 4 (by omega), g4]
      refine ⟨fun _ => h hi' ?_ ?_, fun hc => absurd (nI_le (by omega) (by omega)) hc⟩
      · intro q j hn
        rw [u1 q j (fun hh => hn (Or.inr hh)), g q j (fun hh => hn (Or.inl hh))]
      · refine ⟨(u1 S 0 (by omega)).trans g0, (u1 S 1 (by omega)).trans g1, (u1 S 2 (by omega)).trans g2, (u1 S 3 (by omega)).trans g3, (u1 S 4 (by omega)).trans g4, aR.to (fun j hj => u2 j (by omega))⟩
    | succ n ih =>
      intro k hi' hk u1 u2
      refine v_Speaker_become_42 hS hT ?_
      rw [u1 S 4 (by omega), g4]
      refine ⟨fun hc => absurd hc (nI_ge (by omega) (by omega)), fun _ => ⟨fun hc => absurd hc (nI_ge (b := 24) (by omega) (by omega)), fun _ => ⟨k, by omega, rfl, k, by omega, rfl, ?_⟩⟩⟩
      rw [nI_1]
      refine ih (k + 1) _ (by omega) (fun q j hq => ?_) (fun j hj => ?_)
      · rw [pm_u_ne (Or.inl hq)]; exact u1 q j hq
      · by_cases hjk : j = k
        · subst hjk
          rw [pm_u_at, u1 _ _ (by omega), g _ _ (by omega)]
        · rw [pm_u_ne (Or.inr hjk)]; exact u2 j (by omega)
  exact key _ 0 hi3 (Nat.zero_add _) (fun _ _ _ => rfl) (fun j hj => absurd hj (by omega))
/-- a folk becomes as another -/
theorem become_c {L d F G : Nat} {f : AF} {hi : pm_B} {Q : pm_Q} (hF : pm_fo F) (hG : pm_fo G) (hFG : F ≠ G) (hW : WF f) (hC : CF hi G f)
    (h : ∀ hi', Fr (fun q _ => q = F ∨ (F + 2 ≤ q ∧ q < F + 19)) hi hi' → CF hi' F f → Q none hi') : pm_C pm_g (SH L) HR (d + 2) m_Folk_become [.inr F, .inr G] hi Q := by
  obtain ⟨sps, talk, spoken, lost, day, z, txs⟩ := f
  obtain ⟨c2, c3, c4, c5, c6, c7, c8, c9, cS⟩ := hC
  have hl8 : sps.length ≤ 8 := hW.1
  have far : G + 19 ≤ F ∨ F + 19 ≤ G := by rcases hF with rfl | rfl | rfl <;> rcases hG with rfl | rfl | rfl <;> omega
  refine v_Folk_become (d := d + 1) hF hG ?_
  rw [c2]
  have last : ∀ n k hi', k + n = 3 → (∀ q j, q < F ∨ F + 19 ≤ q → hi' q j = hi q j) → (∀ q j, q = F + 1 → hi' q j = hi q j) → hi' F 2 = nI sps.length → hi' F 3 = talk → hi' F 4 = spoken → hi' F 5 = lost → hi' F 6 = day → hi' F 7 = z → hi' F 8 = nI txs.length → (∀ i p, sps[i]? = some p → CS hi' (F + 2 + 2 * i) p) → (∀ j, j < k → hi' (F + 18) j = lix (lk txs (nI j))) → pm_W pm_g (SH L) HR (d + 1) pm_t1 98 [some (.inr F), some (.inr G), some (.inl (nI k))] [] hi' Q := by
    intro n
    induction n with
    | zero =>
      intro k hi' hk u0 u1 b2 b3 b4 b5 b6 b7 b8 bS b9
      refine v_Folk_become_98 hF hG ⟨fun _ => h hi' ?_ ⟨b2, b3, b4, b5, b6, b7, b8, fun j hj => b9 j (by omega), bS⟩, fun hc => absurd (nI_le (a := 3) (by omega) (by omega)) hc⟩
      intro q j hn
      by_cases hq : q = F + 1
      · exact u1 q j hq
      · exact u0 q j (by omega)
    | succ n ih =>
      intro k hi' hk u0 u1 b2 b3 b4 b5 b6 b7 b8 bS b9
      refine v_Folk_become_98 hF hG ⟨fun hc => absurd hc (nI_ge (b := 3) (by omega) (by omega)), fun _ => ⟨k, by omega, rfl, k, by omega, rfl, ?_⟩⟩
      rw [nI_1]
      have w : ∀ q j, q ≠ F + 18 → pm_u hi' (F + 18) k (hi' (G + 18) k) q j = hi' q j := fun q j hq => pm_u_ne (Or.inl hq)
      refine ih (k + 1) _ (by omega) (fun q j hq => ?_) (fun q j hq => ?_) ((w F 2 (by omega)).trans b2) ((w F 3 (by omega)).trans b3) ((w F 4 (by omega)).trans b4) ((w F 5 (by omega)).trans b5) ((w F 6 (by omega)).trans b6) ((w F 7 (by omega)).trans b7) ((w F 8 (by omega)).trans b8) (fun i p hp => ?_) (fun j hj => ?_)
      · rw [w q j (by omega)]; exact u0 q j hq
      · rw [w q j (by omega)]; exact u1 q j hq
      · have hi9 := (List.getElem?_eq_some_iff.mp hp).1
        exact (bS i p hp).kept (fun j => w _ _ (by omega)) (fun j => w _ _ (by omega))
      · by_cases hjk : j = k
        · subst hjk
          rw [pm_u_at, u0 _ _ (by omega)]
          exact c9 j (by omega)
        · rw [pm_u_ne (Or.inr hjk)]; exact b9 j (by omega)
  have copy : ∀ hi', (∀ q j, q < F ∨ F + 19 ≤ q → hi' q j = hi q j) → (∀ q j, q = F + 1 ∨ q = F + 18 → hi' q j = hi q j) → hi' F 2 = nI sps.length → (∀ i p, sps[i]? = some p → CS hi' (F + 2 + 2 * i) p) → ∀ hi2 : pm_B, hi2 = pm_u (pm_u hi' F 3 (hi' G 3)) F 4 ((pm_u hi' F 3 (hi' G 3)) G 4) → (∀ hi3 : pm_B, hi3 = pm_u (pm_u hi2 F 5 (hi2 G 5)) F 6 ((pm_u hi2 F 5 (hi2 G 5)) G 6) → (∀ hi4 : pm_B, hi4 = pm_u (pm_u hi3 F 7 (hi3 G 7)) F 8 ((pm_u hi3 F 7 (hi3 G 7)) G 8) → (pm_W pm_g (SH L) HR (d + 1) pm_t1 98 [some (.inr F), some (.inr G), some (.inl 0)] [] hi4 Q))) := by
    intro hi' u0 u1 b2 bS hi2 e2 hi3 e3 hi4 e4
    have nGF : G ≠ F := Ne.symm hFG
    have f2 : ∀ q j, q ≠ F → hi2 q j = hi' q j := fun q j hq => by rw [e2, pm_u_ne (Or.inl hq), pm_u_ne (Or.inl hq)]
    have f3 : ∀ q j, q ≠ F → hi3 q j = hi' q j := fun q j hq => by rw [e3, pm_u_ne (Or.inl hq), pm_u_ne (Or.inl hq), f2 q j hq]
    have f4 : ∀ q j, q ≠ F → hi4 q j = hi' q j := fun q j hq => by rw [e4, pm_u_ne (Or.inl hq), pm_u_ne (Or.inl hq), f3 q j hq]
    have uG : ∀ j, hi' G j = hi G j := fun j => u0 G j (by omega)
    refine last 3 0 hi4 (by omega) (fun q j hq => ?_) (fun q j hq => ?_) ?_ ?_ ?_ ?_ ?_ ?_ ?_ (fun i p hp => ?_) (fun j hj => absurd hj (by omega))
    · rw [f4 q j (by omega)]; exact u0 q j hq
    · rw [f4 q j (by omega)]; exact u1 q j (Or.inl hq)
    · rw [e4, pm_u_ne (Or.inr (by omega)), pm_u_ne (Or.inr (by omega)), e3, pm_u_ne (Or.inr (by omega)), pm_u_ne (Or.inr (by omega)), e2, pm_u_ne (Or.inr (by omega)), pm_u_ne (Or.inr (by omega))]; exact b2
    · rw [e4, pm_u_ne (Or.inr (by omega)), pm_u_ne (Or.inr (by omega)), e3, pm_u_ne (Or.inr (by omega)), pm_u_ne (Or.inr (by omega)), e2, pm_u_ne (Or.inr (by omega)), pm_u_at, uG]; exact c3
    · rw [e4, pm_u_ne (Or.inr (by omega)), pm_u_ne (Or.inr (by omega)), e3, pm_u_ne (Or.inr (by omega)), pm_u_ne (Or.inr (by omega)), e2, pm_u_at, pm_u_ne (Or.inl nGF), uG]; exact c4
    · rw [e4, pm_u_ne (Or.inr (by omega)), pm_u_ne (Or.inr (by omega)), e3, pm_u_ne (Or.inr (by omega)), pm_u_at, f2 _ _ nGF, uG]; exact c5
    · rw [e4, pm_u_ne (Or.inr (by omega)), pm_u_ne (Or.inr (by omega)), e3, pm_u_at, pm_u_ne (Or.inl nGF), f2 _ _ nGF, uG]; exact c6
    · rw [e4, pm_u_ne (Or.inr (by omega)), pm_u_at, f3 _ _ nGF, uG]; exact c7
    · rw [e4, pm_u_at, pm_u_ne (Or.inl nGF), f3 _ _ nGF, uG]; exact c8
    · have hi9 := (List.getElem?_eq_some_iff.mp hp).1
      exact (bS i p hp).kept (fun j => f4 _ _ (by omega)) (fun j => f4 _ _ (by omega))
  have key : ∀ n k hi', k + n = sps.length → (∀ q j, q < F ∨ F + 19 ≤ q → hi' q j = hi q j) → (∀ q j, q = F + 1 ∨ q = F + 18 → hi' q j = hi q j) → hi' F 2 = nI sps.length → (∀ i p, i < k → sps[i]? = some p → CS hi' (F + 2 + 2 * i) p) → pm_W pm_g (SH L) HR (d + 1) pm_t1 10 [some (.inr F), some (.inr G), some (.inl (nI k))] [] hi' Q := by
    intro n
    induction n with
    | zero =>
      intro k hi' hk u0 u1 b2 bS
      refine v_Folk_become_10 hF hG ?_
      rw [b2]
      exact ⟨fun _ => copy hi' u0 u1 b2 (fun i p hp => bS i p (by have := (List.getElem?_eq_some_iff.mp hp).1; omega) hp), fun hc => absurd (nI_le (by omega) (by omega)) hc⟩
    | succ n ih =>
      intro k hi' hk u0 u1 b2 bS
      refine v_Folk_become_10 hF hG ?_
      rw [b2]
      refine ⟨fun hc => absurd hc (nI_ge (by omega) (by omega)), fun _ => ⟨fun hc => absurd hc (nI_ge (b := 8) (by omega) (by omega)), fun _ => ⟨k, by omega, rfl, k, by omega, rfl, ?_⟩⟩⟩
      obtain ⟨p, hp⟩ : ∃ p, sps[k]? = some p := ⟨_, List.getElem?_eq_getElem (by omega)⟩
      have w12 := (hW.2 p (List.mem_of_getElem? hp)).2
      have hcs : CS hi' (G + 2 + 2 * k) p := (cS k p hp).kept (fun j => u0 _ _ (by omega)) (fun j => u0 _ _ (by omega))
      refine spBecome_c (d := d) (sk_of hF (by omega)) (sk_of hG (by omega)) (by omega) (by omega) hcs (fun hi2 hf2 hc2 => ⟨rfl, ?_⟩)
      rw [nI_1]
      refine ih (k + 1) hi2 (by omega) (fun q j hq => ?_) (fun q j hq => ?_) ?_ (fun i r hik hr => ?_)
      · rw [hf2 q j (by omega)]; exact u0 q j hq
      · rw [hf2 q j (by omega)]; exact u1 q j hq
      · rw [hf2 _ _ (by omega)]; exact b2
      · by_cases hik' : i = k
        · subst hik'
          rw [hp] at hr
          cases hr
          exact hc2
        · exact (bS i r (by omega) hr).kept (fun j => hf2 _ _ (by omega)) (fun j => hf2 _ _ (by omega))
  refine key _ 0 _ (Nat.zero_add _) (fun q j hq => pm_u_ne (Or.inl (by omega))) (fun q j hq => pm_u_ne (Or.inl (by omega))) pm_u_at (fun i p hi0 => absurd hi0 (by omega))
/-- how many words the folk has -/
def awords (sps : List ASp) : Int32 := sps.foldl (fun a p => a + nI p.2.2.2.2.length) 0
def aany (sps : List ASp) : Int32 := sps.foldl (fun a p => a ||| setOf p.2.2.2.2) 0
def aall (sps : List ASp) : Int32 := if sps.length = 0 then 0 else sps.foldl (fun a p => a &&& setOf p.2.2.2.2) 1048575
/-- all but the deaf have the word w -/
def abut (w : Int32) : List ASp → Int32
  | [] => 1
  | p :: r => if p.1 = 5 ∨ (((Int32.toUInt32 (setOf p.2.2.2.2) >>> (Int32.toUInt32 w &&& Int32.toUInt32 31)).toInt32) &&& 1) = 1 then abut w r else 0
theorem foldl_take {α β : Type} (g : β → α → β) (b : β) {l : List α} {k : Nat} {p : α} (h : l[k]? = some p) : (l.take (k + 1)).foldl g b = g ((l.take k).foldl g b) p := by
  obtain ⟨hk, rfl⟩ := List.getElem?_eq_some_iff.mp h
  rw [List.take_succ_eq_append_getElem hk, List.foldl_append]
  rfl
theorem wordsTogether_c {L d F : Nat} {f : AF} {hi : pm_B} {Q : pm_Q} (hF : pm_fo F) (hW : WF f) (hC : CF hi F f) (h : Q (some (.inl (awords f.1))) hi) : pm_C pm_g (SH L) HR (d + 1) m_Folk_wordsTogether [.inr F] hi Q := by
  obtain ⟨sps, talk, spoken, lost, day, z, txs⟩ := f
  obtain ⟨c2, c3, c4, c5, c6, c7, c8, c9, cS⟩ := hC
  have hl8 : sps.length ≤ 8 := hW.1
  dsimp only at h
  refine v_Folk_wordsTogether hF ?_
  have key : ∀ n k, k + n = sps.length → pm_W pm_g (SH L) HR d pm_t13 4 [some (.inr F), some (.inl (awords (sps.take k))), some (.inl (nI k))] [] hi Q := by
    intro n
    induction n with
    | zero =>
      intro k hk
      refine v_Folk_wordsTogether_4 hF ?_
      rw [c2, List.take_of_length_le (by omega)]
      exact ⟨fun _ => h, fun hc => absurd (nI_le (by omega) (by omega)) hc⟩
    | succ n ih =>
      intro k hk
      refine v_Folk_wordsTogether_4 hF ?_
      rw [c2]
      obtain ⟨p, hp⟩ : ∃ p, sps[k]? = some p := ⟨_, List.getElem?_eq_getElem (by omega)⟩
      refine ⟨fun hc => absurd hc (nI_ge (by omega) (by omega)), fun _ => ⟨fun hc => absurd hc (nI_ge (b := 8) (by omega) (by omega)), fun _ => ⟨k, by omega, rfl, ?_⟩⟩⟩
      have := ih (k + 1) (by omega)
      rw [awords, foldl_take _ _ hp] at this
      rw [nI_1, (cS k p hp).2.2.2.2.1]
      exact this
  exact key _ 0 (Nat.zero_add _)
theorem wordsOfSomebody_c {L d F : Nat} {f : AF} {hi : pm_B} {Q : pm_Q} (hF : pm_fo F) (hW : WF f) (hC : CF hi F f) (h : Q (some (.inl (aany f.1))) hi) : pm_C pm_g (SH L) HR (d + 2) m_Folk_wordsOfSomebody [.inr F] hi Q := by
  obtain ⟨sps, talk, spoken, lost, day, z, txs⟩ := f
  obtain ⟨c2, c3, c4, c5, c6, c7, c8, c9, cS⟩ := hC
  have hl8 : sps.length ≤ 8 := hW.1
  dsimp only at h
  refine v_Folk_wordsOfSomebody (d := d + 1) hF ?_
  have key : ∀ n k, k + n = sps.length → pm_W pm_g (SH L) HR (d + 1) pm_t14 4 [some (.inr F), some (.inl (aany (sps.take k))), some (.inl (nI k))] [] hi Q := by
    intro n
    induction n with
    | zero =>
      intro k hk
      refine v_Folk_wordsOfSomebody_4 hF ?_
      rw [c2, List.take_of_length_le (by omega)]
      exact ⟨fun _ => h, fun hc => absurd (nI_le (by omega) (by omega)) hc⟩
    | succ n ih =>
      intro k hk
      refine v_Folk_wordsOfSomebody_4 hF ?_
      rw [c2]
      obtain ⟨p, hp⟩ : ∃ p, sps[k]? = some p := ⟨_, List.getElem?_eq_getElem (by omega)⟩
      refine ⟨fun hc => absurd hc (nI_ge (by omega) (by omega)), fun _ => ⟨fun hc => absurd hc (nI_ge (b := 8) (by omega) (by omega)), fun _ => ⟨k, by omega, rfl, ?_⟩⟩⟩
      have := ih (k + 1) (by omega)
      rw [aany, foldl_take _ _ hp] at this
      have w12 := (hW.2 p (List.mem_of_getElem? hp)).2
      refine wordSet_c (sk_of hF (by omega)) (cS k p hp).2.2.2.2.1 (cS k p hp).2.2.2.2.2 (by omega) ⟨_, rfl, ?_⟩
      rw [nI_1]
      exact this
  exact key _ 0 (Nat.zero_add _)
theorem wordsOfAll_c {L d F : Nat} {f : AF} {hi : pm_B} {Q : pm_Q} (hF : pm_fo F) (hW : WF f) (hC : CF hi F f) (h : Q (some (.inl (aall f.1))) hi) : pm_C pm_g (SH L) HR (d + 2) m_Folk_wordsOfAll [.inr F] hi Q := by
  obtain ⟨sps, talk, spoken, lost, day, z, txs⟩ := f
  obtain ⟨c2, c3, c4, c5, c6, c7, c8, c9, cS⟩ := hC
  have hl8 : sps.length ≤ 8 := hW.1
  unfold aall at h
  dsimp only at h
  refine v_Folk_wordsOfAll (d := d + 1) hF ?_
  rw [c2]
  refine ⟨fun hc => ?_, fun hc => ?_⟩
  · have h0 : ¬ sps.length = 0 := fun hh => hc (by rw [hh]; rfl)
    rw [if_neg h0] at h
    have key : ∀ n k, k + n = sps.length → pm_W pm_g (SH L) HR (d + 1) pm_t15 14 [some (.inr F), some (.inl ((sps.take k).foldl (fun a p => a &&& setOf p.2.2.2.2) 1048575)), some (.inl (nI k))] [] hi Q := by
      intro n
      induction n with
      | zero =>
        intro k hk
        refine v_Folk_wordsOfAll_14 hF ?_
        rw [c2, List.take_of_length_le (by omega)]
        exact ⟨fun _ => h, fun hc => absurd (nI_le (by omega) (by omega)) hc⟩
      | succ n ih =>
        intro k hk
        refine v_Folk_wordsOfAll_14 hF ?_
        rw [c2]
        obtain ⟨p, hp⟩ : ∃ p, sps[k]? = some p := ⟨_, List.getElem?_eq_getElem (by omega)⟩
        refine ⟨fun hc => absurd hc (nI_ge (by omega) (by omega)), fun _ => ⟨fun hc => absurd hc (nI_ge (b := 8) (by omega) (by omega)), fun _ => ⟨k, by omega, rfl, ?_⟩⟩⟩
        have := ih (k + 1) (by omega)
        rw [foldl_take _ _ hp] at this
        have w12 := (hW.2 p (List.mem_of_getElem? hp)).2
        refine wordSet_c (sk_of hF (by omega)) (cS k p hp).2.2.2.2.1 (cS k p hp).2.2.2.2.2 (by omega) ⟨_, rfl, ?_⟩
        rw [nI_1]
        exact this
    exact key _ 0 (Nat.zero_add _)
  · have h0 : sps.length = 0 := Nat.eq_zero_of_not_pos (fun hh => hc (nI_ne0 hh (by omega)))
    rw [if_pos h0] at h
    exact h
theorem allButDeafHave_c {L d F : Nat} {f : AF} {w : Int32} {hi : pm_B} {Q : pm_Q} (hF : pm_fo F) (hW : WF f) (hC : CF hi F f) (h : Q (some (.inl (abut w f.1))) hi) : pm_C pm_g (SH L) HR (d + 2) m_Folk_allButDeafHave [.inr F, .inl w] hi Q := by
  obtain ⟨sps, talk, spoken, lost, day, z, txs⟩ := f
  obtain ⟨c2, c3, c4, c5, c6, c7, c8, c9, cS⟩ := hC
  have hl8 : sps.length ≤ 8 := hW.1
  dsimp only at h
  refine v_Folk_allButDeafHave (d := d + 1) hF ?_
  have key : ∀ n k o, k + n = sps.length → abut w (sps.drop k) = abut w sps → pm_W pm_g (SH L) HR (d + 1) pm_t16 2 [some (.inr F), some (.inl w), some (.inl (nI k)), o] [] hi Q := by
    intro n
    induction n with
    | zero =>
      intro k o hk ha
      refine v_Folk_allButDeafHave_2 hF ?_
      rw [List.drop_of_length_le (by omega)] at ha
      rw [← ha] at h
      rw [c2]
      exact ⟨fun _ => h, fun hc => absurd (nI_le (by omega) (by omega)) hc⟩
    | succ n ih =>
      intro k o hk ha
      refine v_Folk_allButDeafHave_2 hF ?_
      rw [c2]
      have hk' : k < sps.length := by omega
      have hp : sps[k]? = some sps[k] := List.getElem?_eq_getElem hk'
      rw [List.drop_eq_getElem_cons hk'] at ha
      have w12 := (hW.2 _ (List.mem_of_getElem? hp)).2
      have hs := cS k _ hp
      generalize sps[k] = p at hp ha w12 hs
      rw [abut] at ha
      refine ⟨fun hc => absurd hc (nI_ge (by omega) (by omega)), fun _ => ⟨fun hc => absurd hc (nI_ge (b := 8) (by omega) (by omega)), fun _ => ⟨k, by omega, rfl, ?_⟩⟩⟩
      refine wordSet_c (sk_of hF (by omega)) hs.2.2.2.2.1 hs.2.2.2.2.2 (by omega) ⟨_, rfl, ?_⟩
      rw [nI_1]
      refine ⟨fun c1 => ⟨k, by omega, rfl, ?_⟩, fun c1 => ⟨k, by omega, rfl, ?_⟩⟩
      · rw [hs.1]
        refine ⟨fun c => ih (k + 1) _ (by omega) ?_, fun c => ?_⟩
        · rw [if_pos (Or.inl c)] at ha; exact ha
        · rw [if_neg (fun hh => hh.elim c c1)] at ha
          rw [ha]
          exact h
      · have c1 := Decidable.not_not.mp c1
        rw [if_pos (Or.inr c1)] at ha
        exact ⟨fun _ => ih (k + 1) _ (by omega) ha, fun _ => ih (k + 1) _ (by omega) ha⟩
  exact key _ 0 _ (Nat.zero_add _) rfl
end
