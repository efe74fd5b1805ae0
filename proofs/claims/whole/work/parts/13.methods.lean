/-! printed by program (wip/whole/gen.py): the methods: name, bytes, locals, result, places of their words -/
def pm_mi0 : List pm_M := [(⟨"EchoFolk$Folk", "<init>", "(LEchoFolk$Laws;)V"⟩, prog_2_method_1_code, 3, (Option.none : Option FieldType), 138, 68, 137, 0, false),
  (⟨"EchoFolk$Folk", "become", "(LEchoFolk$Folk;)V"⟩, prog_2_method_2_code, 3, (Option.none : Option FieldType), 644, 68, 642, 643, false),
  (⟨"EchoFolk$Folk", "hasSpeaker", "(I)Z"⟩, prog_2_method_3_code, 2, (Option.some FieldType.boolean), 407, 68, 405, 406, false),
  (⟨"EchoFolk$Folk", "hasRoom", "()Z"⟩, prog_2_method_4_code, 1, (Option.some FieldType.boolean), 389, 68, 387, 388, false),
  (⟨"EchoFolk$Folk", "enter", "(III)V"⟩, prog_2_method_5_code, 4, (Option.none : Option FieldType), 394, 68, 392, 393, false),
  (⟨"EchoFolk$Folk", "enterByLot", "()V"⟩, prog_2_method_6_code, 4, (Option.none : Option FieldType), 541, 68, 539, 540, false),
  (⟨"EchoFolk$Folk", "drawBelow", "(I)I"⟩, prog_2_method_7_code, 2, (Option.some FieldType.int), 545, 68, 543, 544, false),
  (⟨"EchoFolk$Folk", "lawOf", "(I)I"⟩, prog_2_method_8_code, 2, (Option.some FieldType.int), 419, 68, 417, 418, false),
  (⟨"EchoFolk$Folk", "takeLaw", "(I)V"⟩, prog_2_method_9_code, 2, (Option.none : Option FieldType), 917, 68, 915, 916, false),
  (⟨"EchoFolk$Folk", "keepsOf", "(LEchoFolk$Speaker;I)I"⟩, prog_2_method_10_code, 5, (Option.some FieldType.int), 415, 68, 413, 414, false),
  (⟨"EchoFolk$Folk", "hears", "(LEchoFolk$Speaker;[III)V"⟩, prog_2_method_11_code, 7, (Option.none : Option FieldType), 502, 68, 500, 501, false),
  (⟨"EchoFolk$Folk", "speakTo", "(LEchoFolk$Speaker;LEchoFolk$Speaker;I)I"⟩, prog_2_method_12_code, 5, (Option.some FieldType.int), 522, 68, 520, 521, false),
  (⟨"EchoFolk$Folk", "passDay", "()V"⟩, prog_2_method_13_code, 5, (Option.none : Option FieldType), 562, 68, 560, 561, false),
  (⟨"EchoFolk$Folk", "wordsTogether", "()I"⟩, prog_2_method_14_code, 3, (Option.some FieldType.int), 572, 68, 570, 571, false),
  (⟨"EchoFolk$Folk", "wordsOfSomebody", "()I"⟩, prog_2_method_15_code, 3, (Option.some FieldType.int), 576, 68, 574, 575, false),
  (⟨"EchoFolk$Folk", "wordsOfAll", "()I"⟩, prog_2_method_16_code, 3, (Option.some FieldType.int), 581, 68, 579, 580, false)]
def pm_mi1 : List pm_M := [(⟨"EchoFolk$Folk", "allButDeafHave", "(I)Z"⟩, prog_2_method_17_code, 4, (Option.some FieldType.boolean), 665, 68, 663, 664, false),
  (⟨"EchoFolk$Kinds", "isOf", "(II)Z"⟩, prog_3_method_2_code, 4, (Option.some FieldType.boolean), 473, 77, 472, 0, true),
  (⟨"EchoFolk$Kinds", "keepsOf", "(II)I"⟩, prog_3_method_3_code, 2, (Option.some FieldType.int), 444, 77, 443, 0, true),
  (⟨"EchoFolk$Kinds", "takesOf", "(II)I"⟩, prog_3_method_4_code, 2, (Option.some FieldType.int), 448, 77, 447, 0, true),
  (⟨"EchoFolk$Kinds", "goesOf", "(I)I"⟩, prog_3_method_5_code, 1, (Option.some FieldType.int), 451, 77, 450, 0, true),
  (⟨"EchoFolk$Kinds", "worthOf", "(II)I"⟩, prog_3_method_6_code, 2, (Option.some FieldType.int), 454, 77, 453, 0, true),
  (⟨"EchoFolk$Laws", "<init>", "()V"⟩, prog_4_method_1_code, 2, (Option.none : Option FieldType), 97, 66, 96, 0, false),
  (⟨"EchoFolk$Laws", "valueOf", "(IIII)I"⟩, prog_4_method_2_code, 9, (Option.some FieldType.int), 423, 66, 421, 422, false),
  (⟨"EchoFolk$Laws", "leafOf", "(IIII)I"⟩, prog_4_method_3_code, 4, (Option.some FieldType.int), 426, 66, 425, 0, true),
  (⟨"EchoFolk$Laws", "joined", "(III)I"⟩, prog_4_method_4_code, 3, (Option.some FieldType.int), 432, 66, 431, 0, true),
  (⟨"EchoFolk$Laws", "truth", "(Z)I"⟩, prog_4_method_5_code, 1, (Option.some FieldType.int), 429, 66, 428, 0, true),
  (⟨"EchoFolk$Parser", "<init>", "(LEchoFolk$Tape;)V"⟩, prog_5_method_1_code, 2, (Option.none : Option FieldType), 240, 71, 239, 0, false),
  (⟨"EchoFolk$Parser", "parse", "(LEchoFolk$Text;)I"⟩, prog_5_method_2_code, 2, (Option.some FieldType.int), 721, 71, 719, 720, false),
  (⟨"EchoFolk$Parser", "fail", "()V"⟩, prog_5_method_3_code, 1, (Option.none : Option FieldType), 800, 71, 799, 10, false),
  (⟨"EchoFolk$Parser", "step", "()V"⟩, prog_5_method_4_code, 4, (Option.none : Option FieldType), 730, 71, 729, 7, false),
  (⟨"EchoFolk$Parser", "sortOf", "(I)I"⟩, prog_5_method_5_code, 1, (Option.some FieldType.int), 737, 71, 736, 0, true)]
def pm_mi2 : List pm_M := [(⟨"EchoFolk$Parser", "isSign", "(C)Z"⟩, prog_5_method_6_code, 2, (Option.some FieldType.boolean), 905, 71, 904, 20, false),
  (⟨"EchoFolk$Parser", "isWordOf", "(Ljava/lang/String;)Z"⟩, prog_5_method_7_code, 3, (Option.some FieldType.boolean), 746, 71, 745, 9, false),
  (⟨"EchoFolk$Parser", "readKey", "()V"⟩, prog_5_method_8_code, 1, (Option.none : Option FieldType), 741, 71, 740, 8, false),
  (⟨"EchoFolk$Parser", "readOr", "()V"⟩, prog_5_method_9_code, 2, (Option.none : Option FieldType), 804, 71, 803, 11, false),
  (⟨"EchoFolk$Parser", "readAnd", "()V"⟩, prog_5_method_10_code, 2, (Option.none : Option FieldType), 808, 71, 807, 12, false),
  (⟨"EchoFolk$Parser", "readTest", "()V"⟩, prog_5_method_11_code, 2, (Option.none : Option FieldType), 812, 71, 811, 13, false),
  (⟨"EchoFolk$Parser", "readSum", "()V"⟩, prog_5_method_12_code, 3, (Option.none : Option FieldType), 816, 71, 815, 14, false),
  (⟨"EchoFolk$Parser", "readTerm", "()V"⟩, prog_5_method_13_code, 3, (Option.none : Option FieldType), 820, 71, 819, 15, false),
  (⟨"EchoFolk$Parser", "readPiece", "()V"⟩, prog_5_method_14_code, 1, (Option.none : Option FieldType), 824, 71, 823, 16, false),
  (⟨"EchoFolk$Parser", "readNumber", "()V"⟩, prog_5_method_15_code, 3, (Option.none : Option FieldType), 828, 71, 827, 17, false),
  (⟨"EchoFolk$Parser", "readName", "()V"⟩, prog_5_method_16_code, 2, (Option.none : Option FieldType), 840, 71, 839, 19, false),
  (⟨"EchoFolk$Parser", "namesOf", "(I)Ljava/lang/String;"⟩, prog_5_method_17_code, 1, (Option.some (FieldType.object "java/lang/String")), 843, 71, 842, 0, true),
  (⟨"EchoFolk$Parser", "putLeaf", "(I)V"⟩, prog_5_method_18_code, 2, (Option.none : Option FieldType), 832, 71, 831, 18, false),
  (⟨"EchoFolk$Parser", "readNot", "()V"⟩, prog_5_method_19_code, 1, (Option.none : Option FieldType), 909, 71, 908, 21, false),
  (⟨"EchoFolk$Parser", "readBrackets", "()V"⟩, prog_5_method_20_code, 1, (Option.none : Option FieldType), 913, 71, 912, 22, false),
  (⟨"EchoFolk$Saying", "<init>", "()V"⟩, prog_6_method_1_code, 1, (Option.none : Option FieldType), 322, 74, 321, 0, false)]
def pm_mi3 : List pm_M := [(⟨"EchoFolk$Saying", "read", "(LEchoFolk$Sheet;)V"⟩, prog_6_method_2_code, 3, (Option.none : Option FieldType), 598, 74, 596, 597, false),
  (⟨"EchoFolk$Saying", "firstOutside", "(I)I"⟩, prog_6_method_3_code, 3, (Option.some FieldType.int), 629, 74, 627, 628, false),
  (⟨"EchoFolk$Saying", "breathsOf", "(LEchoFolk$Speaker;)I"⟩, prog_6_method_4_code, 7, (Option.some FieldType.int), 608, 74, 606, 607, false),
  (⟨"EchoFolk$Saying", "longestPiece", "(LEchoFolk$Speaker;II)I"⟩, prog_6_method_5_code, 6, (Option.some FieldType.int), 613, 74, 612, 2, false),
  (⟨"EchoFolk$Saying", "sameWords", "(LEchoFolk$Speaker;II)I"⟩, prog_6_method_6_code, 7, (Option.some FieldType.int), 617, 74, 616, 3, false),
  (⟨"EchoFolk$Sheet", "<init>", "()V"⟩, prog_7_method_1_code, 1, (Option.none : Option FieldType), 274, 72, 273, 0, false),
  (⟨"EchoFolk$Sheet", "begin", "(II)V"⟩, prog_7_method_2_code, 4, (Option.none : Option FieldType), 934, 72, 932, 933, false),
  (⟨"EchoFolk$Sheet", "become", "(LEchoFolk$Sheet;)V"⟩, prog_7_method_3_code, 3, (Option.none : Option FieldType), 977, 72, 975, 976, false),
  (⟨"EchoFolk$Sheet", "hasPlace", "(I)Z"⟩, prog_7_method_4_code, 2, (Option.some FieldType.boolean), 602, 72, 600, 601, false),
  (⟨"EchoFolk$Sheet", "hasPlaces", "(II)Z"⟩, prog_7_method_5_code, 3, (Option.some FieldType.boolean), 959, 72, 957, 958, false),
  (⟨"EchoFolk$Slot", "<init>", "()V"⟩, prog_8_method_1_code, 1, (Option.none : Option FieldType), 294, 73, 293, 0, false),
  (⟨"EchoFolk$Slot", "holdSpeaker", "(LEchoFolk$Speaker;)V"⟩, prog_8_method_2_code, 2, (Option.none : Option FieldType), 973, 73, 971, 972, false),
  (⟨"EchoFolk$Speaker", "<init>", "()V"⟩, prog_9_method_1_code, 1, (Option.none : Option FieldType), 145, 69, 144, 0, false),
  (⟨"EchoFolk$Speaker", "begin", "(III)V"⟩, prog_9_method_2_code, 4, (Option.none : Option FieldType), 399, 69, 397, 398, false),
  (⟨"EchoFolk$Speaker", "become", "(LEchoFolk$Speaker;)V"⟩, prog_9_method_3_code, 3, (Option.none : Option FieldType), 648, 69, 646, 647, false),
  (⟨"EchoFolk$Speaker", "wordAt", "(I)I"⟩, prog_9_method_4_code, 2, (Option.some FieldType.int), 465, 69, 463, 464, false)]
def pm_mi4 : List pm_M := [(⟨"EchoFolk$Speaker", "wordSet", "()I"⟩, prog_9_method_5_code, 3, (Option.some FieldType.int), 411, 69, 409, 410, false),
  (⟨"EchoFolk$Speaker", "putBehind", "([III)V"⟩, prog_9_method_6_code, 6, (Option.none : Option FieldType), 508, 69, 506, 507, false),
  (⟨"EchoFolk$Speaker", "forgetOldest", "(I)V"⟩, prog_9_method_7_code, 3, (Option.none : Option FieldType), 513, 69, 511, 512, false),
  (⟨"EchoFolk$Tape", "<init>", "()V"⟩, prog_10_method_1_code, 1, (Option.none : Option FieldType), 226, 70, 225, 0, false),
  (⟨"EchoFolk$Tape", "putNumber", "(I)V"⟩, prog_10_method_2_code, 3, (Option.none : Option FieldType), 709, 70, 707, 708, false),
  (⟨"EchoFolk$Tape", "byteAt", "(I)I"⟩, prog_10_method_3_code, 2, (Option.some FieldType.int), 734, 70, 732, 733, false),
  (⟨"EchoFolk$Text", "<init>", "()V"⟩, prog_11_method_1_code, 1, (Option.none : Option FieldType), 104, 67, 103, 0, false),
  (⟨"EchoFolk$Text", "begin", "()V"⟩, prog_11_method_2_code, 1, (Option.none : Option FieldType), 725, 67, 723, 724, false),
  (⟨"EchoFolk$Text", "put", "(I)V"⟩, prog_11_method_3_code, 2, (Option.none : Option FieldType), 836, 67, 834, 835, false),
  (⟨"EchoFolk", "<init>", "()V"⟩, prog_1_method_1_code, 2, (Option.none : Option FieldType), 89, 65, 88, 0, false),
  (⟨"EchoFolk", "speaker", "(III)I"⟩, prog_1_method_2_code, 4, (Option.some FieldType.int), 375, 65, 373, 374, false),
  (⟨"EchoFolk", "told", "(II)I"⟩, prog_1_method_3_code, 4, (Option.some FieldType.int), 403, 65, 401, 402, false),
  (⟨"EchoFolk", "heard", "(II)I"⟩, prog_1_method_4_code, 3, (Option.some FieldType.int), 458, 65, 456, 457, false),
  (⟨"EchoFolk", "as", "(II)I"⟩, prog_1_method_5_code, 4, (Option.some FieldType.int), 470, 65, 468, 469, false),
  (⟨"EchoFolk", "turns", "(II)I"⟩, prog_1_method_6_code, 5, (Option.some FieldType.int), 480, 65, 478, 479, false),
  (⟨"EchoFolk", "set", "(III)I"⟩, prog_1_method_7_code, 6, (Option.some FieldType.int), 484, 65, 482, 483, false)]
def pm_mi5 : List pm_M := [(⟨"EchoFolk", "speaks", "(IIII)I"⟩, prog_1_method_8_code, 7, (Option.some FieldType.int), 488, 65, 486, 487, false),
  (⟨"EchoFolk", "says", "(III)I"⟩, prog_1_method_9_code, 5, (Option.some FieldType.int), 517, 65, 515, 516, false),
  (⟨"EchoFolk", "forgets", "(I)I"⟩, prog_1_method_10_code, 4, (Option.some FieldType.int), 528, 65, 526, 527, false),
  (⟨"EchoFolk", "talk", "(I)I"⟩, prog_1_method_11_code, 3, (Option.some FieldType.int), 533, 65, 531, 532, false),
  (⟨"EchoFolk", "deal", "(I)I"⟩, prog_1_method_12_code, 4, (Option.some FieldType.int), 537, 65, 535, 536, false),
  (⟨"EchoFolk", "seed", "(I)I"⟩, prog_1_method_13_code, 3, (Option.some FieldType.int), 551, 65, 549, 550, false),
  (⟨"EchoFolk", "days", "(I)I"⟩, prog_1_method_14_code, 4, (Option.some FieldType.int), 555, 65, 553, 554, false),
  (⟨"EchoFolk", "folk", "(I)I"⟩, prog_1_method_15_code, 2, (Option.some FieldType.int), 568, 65, 566, 567, false),
  (⟨"EchoFolk", "breaths", "(II)I"⟩, prog_1_method_16_code, 4, (Option.some FieldType.int), 586, 65, 584, 585, false),
  (⟨"EchoFolk", "wanting", "(I)I"⟩, prog_1_method_17_code, 2, (Option.some FieldType.int), 625, 65, 623, 624, false),
  (⟨"EchoFolk", "who", "(I)I"⟩, prog_1_method_18_code, 5, (Option.some FieldType.int), 633, 65, 631, 632, false),
  (⟨"EchoFolk", "teacher", "(III)I"⟩, prog_1_method_19_code, 9, (Option.some FieldType.int), 637, 65, 635, 636, false),
  (⟨"EchoFolk", "behind", "(II)I"⟩, prog_1_method_20_code, 4, (Option.some FieldType.int), 657, 65, 655, 656, false),
  (⟨"EchoFolk", "spreads", "(I)I"⟩, prog_1_method_21_code, 3, (Option.some FieldType.int), 661, 65, 659, 660, false),
  (⟨"EchoFolk", "learns", "(II)I"⟩, prog_1_method_22_code, 5, (Option.some FieldType.int), 669, 65, 667, 668, false),
  (⟨"EchoFolk", "quiet", "(II)I"⟩, prog_1_method_23_code, 7, (Option.some FieldType.int), 673, 65, 671, 672, false)]
def pm_mi6 : List pm_M := [(⟨"EchoFolk", "ears", "(III)I"⟩, prog_1_method_24_code, 8, (Option.some FieldType.int), 681, 65, 679, 680, false),
  (⟨"EchoFolk", "fee", "()I"⟩, prog_1_method_25_code, 2, (Option.some FieldType.int), 695, 65, 693, 694, false),
  (⟨"EchoFolk", "fine", "(I)I"⟩, prog_1_method_26_code, 4, (Option.some FieldType.int), 701, 65, 699, 700, false),
  (⟨"EchoFolk", "feed", "(III)I"⟩, prog_1_method_27_code, 4, (Option.some FieldType.int), 705, 65, 703, 704, false),
  (⟨"EchoFolk", "trim", "(I)I"⟩, prog_1_method_28_code, 2, (Option.some FieldType.int), 713, 65, 711, 712, false),
  (⟨"EchoFolk", "text", "()I"⟩, prog_1_method_29_code, 4, (Option.some FieldType.int), 717, 65, 715, 716, false),
  (⟨"EchoFolk", "textTold", "(II)I"⟩, prog_1_method_30_code, 3, (Option.some FieldType.int), 922, 65, 920, 921, false),
  (⟨"EchoFolk", "why", "(I)I"⟩, prog_1_method_31_code, 2, (Option.some FieldType.int), 926, 65, 924, 925, false),
  (⟨"EchoFolk", "sheet", "(III)I"⟩, prog_1_method_32_code, 4, (Option.some FieldType.int), 930, 65, 928, 929, false),
  (⟨"EchoFolk", "mark", "(III)I"⟩, prog_1_method_33_code, 5, (Option.some FieldType.int), 938, 65, 936, 937, false),
  (⟨"EchoFolk", "pour", "(I)I"⟩, prog_1_method_34_code, 6, (Option.some FieldType.int), 946, 65, 944, 945, false),
  (⟨"EchoFolk", "reads", "(I)I"⟩, prog_1_method_35_code, 4, (Option.some FieldType.int), 951, 65, 949, 950, false),
  (⟨"EchoFolk", "copy", "(IIIII)I"⟩, prog_1_method_36_code, 8, (Option.some FieldType.int), 955, 65, 953, 954, false),
  (⟨"EchoFolk", "lay", "(III)I"⟩, prog_1_method_37_code, 6, (Option.some FieldType.int), 966, 65, 964, 965, false),
  (⟨"EchoFolk", "ask", "(II)I"⟩, prog_1_method_38_code, 4, (Option.some FieldType.int), 981, 65, 979, 980, false),
  (⟨"EchoFolk", "item", "(II)I"⟩, prog_1_method_39_code, 4, (Option.some FieldType.int), 985, 65, 983, 984, false)]
def pm_mi7 : List pm_M := [(⟨"EchoFolk", "rest", "(II)I"⟩, prog_1_method_40_code, 3, (Option.some FieldType.int), 989, 65, 987, 988, false),
  (⟨"EchoFolk", "tell", "(I)I"⟩, prog_1_method_41_code, 2, (Option.some FieldType.int), 994, 65, 992, 993, false),
  (⟨"EchoFolk", "check", "(I)I"⟩, prog_1_method_42_code, 5, (Option.some FieldType.int), 998, 65, 996, 997, false),
  (⟨"EchoFolk", "keep", "()I"⟩, prog_1_method_43_code, 1, (Option.some FieldType.int), 1006, 65, 1004, 1005, false),
  (⟨"EchoFolk", "back", "()I"⟩, prog_1_method_44_code, 1, (Option.some FieldType.int), 1010, 65, 1008, 1009, false),
  (⟨"EchoFolk", "count", "(I)I"⟩, prog_1_method_45_code, 2, (Option.some FieldType.int), 1014, 65, 1012, 1013, false),
  (⟨"EchoFolk", "isKind", "(I)Z"⟩, prog_1_method_46_code, 1, (Option.some FieldType.boolean), 378, 65, 377, 0, true),
  (⟨"EchoFolk", "isEar", "(I)Z"⟩, prog_1_method_47_code, 1, (Option.some FieldType.boolean), 381, 65, 380, 0, true),
  (⟨"EchoFolk", "isFame", "(I)Z"⟩, prog_1_method_48_code, 1, (Option.some FieldType.boolean), 384, 65, 383, 0, true),
  (⟨"EchoFolk", "isWord", "(I)Z"⟩, prog_1_method_49_code, 1, (Option.some FieldType.boolean), 494, 65, 493, 0, true),
  (⟨"EchoFolk", "isWordOrNone", "(I)Z"⟩, prog_1_method_50_code, 1, (Option.some FieldType.boolean), 491, 65, 490, 0, true),
  (⟨"EchoFolk", "isHeardPlace", "(I)Z"⟩, prog_1_method_51_code, 1, (Option.some FieldType.boolean), 461, 65, 460, 0, true),
  (⟨"EchoFolk", "isZeroOrOne", "(I)Z"⟩, prog_1_method_52_code, 1, (Option.some FieldType.boolean), 640, 65, 639, 0, true),
  (⟨"EchoFolk", "isDays", "(III)Z"⟩, prog_1_method_53_code, 3, (Option.some FieldType.boolean), 558, 65, 557, 0, true),
  (⟨"EchoFolk", "isSheet", "(I)Z"⟩, prog_1_method_54_code, 1, (Option.some FieldType.boolean), 589, 65, 588, 0, true),
  (⟨"EchoFolk", "isSlot", "(I)Z"⟩, prog_1_method_55_code, 1, (Option.some FieldType.boolean), 969, 65, 968, 0, true)]
def pm_mi8 : List pm_M := [(⟨"EchoFolk", "held", "(III)I"⟩, prog_1_method_56_code, 3, (Option.some FieldType.int), 435, 65, 434, 0, true),
  (⟨"EchoFolk", "putFromWithout", "(II)I"⟩, prog_1_method_57_code, 3, (Option.some FieldType.int), 498, 65, 497, 0, false),
  (⟨"EchoFolk", "readSaying", "(I)I"⟩, prog_1_method_58_code, 2, (Option.some FieldType.int), 593, 65, 592, 1, false),
  (⟨"EchoFolk", "breathsTaught", "(II)I"⟩, prog_1_method_59_code, 5, (Option.some FieldType.int), 652, 65, 651, 4, false),
  (⟨"EchoFolk", "spokenWithout", "(II)I"⟩, prog_1_method_60_code, 5, (Option.some FieldType.int), 677, 65, 676, 5, false),
  (⟨"EchoFolk", "unlikeWithEar", "(III)I"⟩, prog_1_method_61_code, 5, (Option.some FieldType.int), 685, 65, 684, 6, false),
  (⟨"EchoFolk", "isTold", "(III)Z"⟩, prog_1_method_62_code, 4, (Option.some FieldType.boolean), 1002, 65, 1001, 23, false),
  (⟨"EchoFolkModel", "<init>", "()V"⟩, prog_13_method_1_code, 1, (Option.none : Option FieldType), 1019, 75, 1018, 0, false),
  (⟨"EchoFolkModel", "in", "(III)Z"⟩, prog_13_method_2_code, 3, (Option.some FieldType.boolean), 1144, 75, 1143, 0, true),
  (⟨"EchoFolkModel", "within", "(III)I"⟩, prog_13_method_3_code, 3, (Option.some FieldType.int), 1191, 75, 1190, 0, true),
  (⟨"EchoFolkModel", "copyAll", "([I[I)V"⟩, prog_13_method_4_code, 3, (Option.none : Option FieldType), 1506, 75, 1505, 0, true),
  (⟨"EchoFolkModel", "isSpeaker", "(I)Z"⟩, prog_13_method_5_code, 2, (Option.some FieldType.boolean), 1165, 75, 1164, 26, false),
  (⟨"EchoFolkModel", "isWord", "(I)Z"⟩, prog_13_method_6_code, 1, (Option.some FieldType.boolean), 1325, 75, 1324, 0, true),
  (⟨"EchoFolkModel", "of", "(II)I"⟩, prog_13_method_7_code, 3, (Option.some FieldType.int), 1169, 75, 1168, 27, false),
  (⟨"EchoFolkModel", "put", "(III)V"⟩, prog_13_method_8_code, 4, (Option.none : Option FieldType), 1157, 75, 1156, 25, false),
  (⟨"EchoFolkModel", "becomes", "(II)I"⟩, prog_13_method_9_code, 4, (Option.some FieldType.int), 1224, 75, 1223, 35, false)]
def pm_mi9 : List pm_M := [(⟨"EchoFolkModel", "comes", "(III)I"⟩, prog_13_method_10_code, 5, (Option.some FieldType.int), 1153, 75, 1152, 24, false),
  (⟨"EchoFolkModel", "isOf", "(II)Z"⟩, prog_13_method_11_code, 2, (Option.some FieldType.boolean), 1147, 75, 1146, 0, true),
  (⟨"EchoFolkModel", "speaker", "(III)I"⟩, prog_13_method_12_code, 4, (Option.some FieldType.int), 1141, 75, 1139, 1140, false),
  (⟨"EchoFolkModel", "keepsOf", "(I)I"⟩, prog_13_method_13_code, 4, (Option.some FieldType.int), 1177, 75, 1176, 29, false),
  (⟨"EchoFolkModel", "takesOf", "(I)I"⟩, prog_13_method_14_code, 3, (Option.some FieldType.int), 1195, 75, 1194, 32, false),
  (⟨"EchoFolkModel", "goesOf", "(I)I"⟩, prog_13_method_15_code, 2, (Option.some FieldType.int), 1199, 75, 1198, 33, false),
  (⟨"EchoFolkModel", "worthOf", "(I)I"⟩, prog_13_method_16_code, 3, (Option.some FieldType.int), 1203, 75, 1202, 34, false),
  (⟨"EchoFolkModel", "wordsOf", "(I)I"⟩, prog_13_method_17_code, 4, (Option.some FieldType.int), 1173, 75, 1172, 28, false),
  (⟨"EchoFolkModel", "told", "(II)I"⟩, prog_13_method_18_code, 3, (Option.some FieldType.int), 1161, 75, 1159, 1160, false),
  (⟨"EchoFolkModel", "heard", "(II)I"⟩, prog_13_method_19_code, 3, (Option.some FieldType.int), 1207, 75, 1205, 1206, false),
  (⟨"EchoFolkModel", "isUnder", "(II)Z"⟩, prog_13_method_20_code, 2, (Option.some FieldType.boolean), 1215, 75, 1214, 0, true),
  (⟨"EchoFolkModel", "as", "(II)I"⟩, prog_13_method_21_code, 3, (Option.some FieldType.int), 1212, 75, 1210, 1211, false),
  (⟨"EchoFolkModel", "turns", "(II)I"⟩, prog_13_method_22_code, 3, (Option.some FieldType.int), 1220, 75, 1218, 1219, false),
  (⟨"EchoFolkModel", "set", "(III)I"⟩, prog_13_method_23_code, 4, (Option.some FieldType.int), 1228, 75, 1226, 1227, false),
  (⟨"EchoFolkModel", "forgetsOldest", "(I)V"⟩, prog_13_method_24_code, 4, (Option.none : Option FieldType), 1244, 75, 1243, 38, false),
  (⟨"EchoFolkModel", "hears", "(I)V"⟩, prog_13_method_25_code, 4, (Option.none : Option FieldType), 1240, 75, 1239, 37, false)]
def pm_mi10 : List pm_M := [(⟨"EchoFolkModel", "speaksOne", "(I)V"⟩, prog_13_method_26_code, 2, (Option.none : Option FieldType), 1236, 75, 1235, 36, false),
  (⟨"EchoFolkModel", "speaks", "(IIII)I"⟩, prog_13_method_27_code, 5, (Option.some FieldType.int), 1232, 75, 1230, 1231, false),
  (⟨"EchoFolkModel", "begins", "(III)V"⟩, prog_13_method_28_code, 5, (Option.none : Option FieldType), 1256, 75, 1255, 40, false),
  (⟨"EchoFolkModel", "tells", "(III)I"⟩, prog_13_method_29_code, 4, (Option.some FieldType.int), 1252, 75, 1251, 39, false),
  (⟨"EchoFolkModel", "says", "(III)I"⟩, prog_13_method_30_code, 4, (Option.some FieldType.int), 1248, 75, 1246, 1247, false),
  (⟨"EchoFolkModel", "forgets", "(I)I"⟩, prog_13_method_31_code, 3, (Option.some FieldType.int), 1260, 75, 1258, 1259, false),
  (⟨"EchoFolkModel", "talk", "(I)I"⟩, prog_13_method_32_code, 2, (Option.some FieldType.int), 1264, 75, 1262, 1263, false),
  (⟨"EchoFolkModel", "draw", "()I"⟩, prog_13_method_33_code, 1, (Option.some FieldType.int), 1272, 75, 1271, 41, false),
  (⟨"EchoFolkModel", "deal", "(I)I"⟩, prog_13_method_34_code, 6, (Option.some FieldType.int), 1268, 75, 1266, 1267, false),
  (⟨"EchoFolkModel", "seed", "(I)I"⟩, prog_13_method_35_code, 2, (Option.some FieldType.int), 1277, 75, 1275, 1276, false),
  (⟨"EchoFolkModel", "talks", "()V"⟩, prog_13_method_36_code, 4, (Option.none : Option FieldType), 1293, 75, 1292, 44, false),
  (⟨"EchoFolkModel", "day", "()V"⟩, prog_13_method_37_code, 2, (Option.none : Option FieldType), 1289, 75, 1288, 43, false),
  (⟨"EchoFolkModel", "goesOn", "(I)V"⟩, prog_13_method_38_code, 3, (Option.none : Option FieldType), 1285, 75, 1284, 42, false),
  (⟨"EchoFolkModel", "days", "(I)I"⟩, prog_13_method_39_code, 3, (Option.some FieldType.int), 1281, 75, 1279, 1280, false),
  (⟨"EchoFolkModel", "wordsOfAll", "()I"⟩, prog_13_method_40_code, 3, (Option.some FieldType.int), 1301, 75, 1300, 45, false),
  (⟨"EchoFolkModel", "known", "()I"⟩, prog_13_method_41_code, 3, (Option.some FieldType.int), 1305, 75, 1304, 46, false)]
def pm_mi11 : List pm_M := [(⟨"EchoFolkModel", "knownToAll", "()I"⟩, prog_13_method_42_code, 3, (Option.some FieldType.int), 1309, 75, 1308, 47, false),
  (⟨"EchoFolkModel", "folk", "(I)I"⟩, prog_13_method_43_code, 2, (Option.some FieldType.int), 1297, 75, 1295, 1296, false),
  (⟨"EchoFolkModel", "readsSaying", "(I)V"⟩, prog_13_method_44_code, 2, (Option.none : Option FieldType), 1322, 75, 1321, 48, false),
  (⟨"EchoFolkModel", "hasHeard", "(III)Z"⟩, prog_13_method_45_code, 6, (Option.some FieldType.boolean), 1333, 75, 1332, 50, false),
  (⟨"EchoFolkModel", "breathsOf", "(I)I"⟩, prog_13_method_46_code, 6, (Option.some FieldType.int), 1329, 75, 1328, 49, false),
  (⟨"EchoFolkModel", "breaths", "(II)I"⟩, prog_13_method_47_code, 4, (Option.some FieldType.int), 1314, 75, 1312, 1313, false),
  (⟨"EchoFolkModel", "wanting", "(I)I"⟩, prog_13_method_48_code, 4, (Option.some FieldType.int), 1338, 75, 1336, 1337, false),
  (⟨"EchoFolkModel", "who", "(I)I"⟩, prog_13_method_49_code, 4, (Option.some FieldType.int), 1342, 75, 1340, 1341, false),
  (⟨"EchoFolkModel", "thinks", "()V"⟩, prog_13_method_50_code, 2, (Option.none : Option FieldType), 1350, 75, 1349, 51, false),
  (⟨"EchoFolkModel", "putsBack", "()V"⟩, prog_13_method_51_code, 2, (Option.none : Option FieldType), 1354, 75, 1353, 52, false),
  (⟨"EchoFolkModel", "teacher", "(III)I"⟩, prog_13_method_52_code, 8, (Option.some FieldType.int), 1346, 75, 1344, 1345, false),
  (⟨"EchoFolkModel", "behind", "(II)I"⟩, prog_13_method_53_code, 4, (Option.some FieldType.int), 1358, 75, 1356, 1357, false),
  (⟨"EchoFolkModel", "hasCome", "(I)Z"⟩, prog_13_method_54_code, 4, (Option.some FieldType.boolean), 1366, 75, 1365, 53, false),
  (⟨"EchoFolkModel", "spreads", "(I)I"⟩, prog_13_method_55_code, 3, (Option.some FieldType.int), 1362, 75, 1360, 1361, false),
  (⟨"EchoFolkModel", "learns", "(II)I"⟩, prog_13_method_56_code, 6, (Option.some FieldType.int), 1370, 75, 1368, 1369, false),
  (⟨"EchoFolkModel", "quiet", "(II)I"⟩, prog_13_method_57_code, 7, (Option.some FieldType.int), 1374, 75, 1372, 1373, false)]
def pm_mi12 : List pm_M := [(⟨"EchoFolkModel", "manyOf", "(I)I"⟩, prog_13_method_58_code, 3, (Option.some FieldType.int), 1381, 75, 1380, 0, true),
  (⟨"EchoFolkModel", "ears", "(III)I"⟩, prog_13_method_59_code, 8, (Option.some FieldType.int), 1378, 75, 1376, 1377, false),
  (⟨"EchoFolkModel", "fee", "()I"⟩, prog_13_method_60_code, 2, (Option.some FieldType.int), 1385, 75, 1383, 1384, false),
  (⟨"EchoFolkModel", "fine", "(I)I"⟩, prog_13_method_61_code, 3, (Option.some FieldType.int), 1389, 75, 1387, 1388, false),
  (⟨"EchoFolkModel", "feed", "(III)I"⟩, prog_13_method_62_code, 6, (Option.some FieldType.int), 1393, 75, 1391, 1392, false),
  (⟨"EchoFolkModel", "trim", "(I)I"⟩, prog_13_method_63_code, 2, (Option.some FieldType.int), 1397, 75, 1395, 1396, false),
  (⟨"EchoFolkModel", "isLetter", "(I)Z"⟩, prog_13_method_64_code, 2, (Option.some FieldType.boolean), 1409, 75, 1408, 55, false),
  (⟨"EchoFolkModel", "isFigure", "(I)Z"⟩, prog_13_method_65_code, 2, (Option.some FieldType.boolean), 1413, 75, 1412, 56, false),
  (⟨"EchoFolkModel", "go", "()V"⟩, prog_13_method_66_code, 2, (Option.none : Option FieldType), 1405, 75, 1404, 54, false),
  (⟨"EchoFolkModel", "takesKey", "()Z"⟩, prog_13_method_67_code, 5, (Option.some FieldType.boolean), 1417, 75, 1416, 57, false),
  (⟨"EchoFolkModel", "nameOf", "(I)I"⟩, prog_13_method_68_code, 2, (Option.some FieldType.int), 1429, 75, 1428, 60, false),
  (⟨"EchoFolkModel", "rank", "(I)I"⟩, prog_13_method_69_code, 1, (Option.some FieldType.int), 1436, 75, 1435, 0, true),
  (⟨"EchoFolkModel", "settle", "(I)V"⟩, prog_13_method_70_code, 2, (Option.none : Option FieldType), 1433, 75, 1432, 61, false),
  (⟨"EchoFolkModel", "signHere", "()I"⟩, prog_13_method_71_code, 1, (Option.some FieldType.int), 1444, 75, 1443, 63, false),
  (⟨"EchoFolkModel", "takesPart", "()Z"⟩, prog_13_method_72_code, 2, (Option.some FieldType.boolean), 1425, 75, 1424, 59, false),
  (⟨"EchoFolkModel", "takesE", "()Z"⟩, prog_13_method_73_code, 5, (Option.some FieldType.boolean), 1421, 75, 1420, 58, false)]
def pm_mi13 : List pm_M := [(⟨"EchoFolkModel", "notsOpen", "()I"⟩, prog_13_method_74_code, 3, (Option.some FieldType.int), 1440, 75, 1439, 62, false),
  (⟨"EchoFolkModel", "text", "()I"⟩, prog_13_method_75_code, 4, (Option.some FieldType.int), 1401, 75, 1399, 1400, false),
  (⟨"EchoFolkModel", "textTold", "(II)I"⟩, prog_13_method_76_code, 3, (Option.some FieldType.int), 1448, 75, 1446, 1447, false),
  (⟨"EchoFolkModel", "counts", "(I)I"⟩, prog_13_method_77_code, 3, (Option.some FieldType.int), 1181, 75, 1180, 30, false),
  (⟨"EchoFolkModel", "why", "(I)I"⟩, prog_13_method_78_code, 3, (Option.some FieldType.int), 1452, 75, 1450, 1451, false),
  (⟨"EchoFolkModel", "two", "(III)I"⟩, prog_13_method_79_code, 3, (Option.some FieldType.int), 1188, 75, 1187, 0, true),
  (⟨"EchoFolkModel", "worksOut", "(I)I"⟩, prog_13_method_80_code, 6, (Option.some FieldType.int), 1185, 75, 1184, 31, false),
  (⟨"EchoFolkModel", "isSheet", "(I)Z"⟩, prog_13_method_81_code, 1, (Option.some FieldType.boolean), 1317, 75, 1316, 0, true),
  (⟨"EchoFolkModel", "isSlot", "(I)Z"⟩, prog_13_method_82_code, 1, (Option.some FieldType.boolean), 1482, 75, 1481, 0, true),
  (⟨"EchoFolkModel", "sheet", "(III)I"⟩, prog_13_method_83_code, 5, (Option.some FieldType.int), 1456, 75, 1454, 1455, false),
  (⟨"EchoFolkModel", "mark", "(III)I"⟩, prog_13_method_84_code, 4, (Option.some FieldType.int), 1460, 75, 1458, 1459, false),
  (⟨"EchoFolkModel", "pour", "(I)I"⟩, prog_13_method_85_code, 6, (Option.some FieldType.int), 1467, 75, 1465, 1466, false),
  (⟨"EchoFolkModel", "reads", "(I)I"⟩, prog_13_method_86_code, 4, (Option.some FieldType.int), 1471, 75, 1469, 1470, false),
  (⟨"EchoFolkModel", "copy", "(IIIII)I"⟩, prog_13_method_87_code, 7, (Option.some FieldType.int), 1475, 75, 1473, 1474, false),
  (⟨"EchoFolkModel", "lay", "(III)I"⟩, prog_13_method_88_code, 6, (Option.some FieldType.int), 1479, 75, 1477, 1478, false),
  (⟨"EchoFolkModel", "ask", "(II)I"⟩, prog_13_method_89_code, 3, (Option.some FieldType.int), 1486, 75, 1484, 1485, false)]
def pm_mi14 : List pm_M := [(⟨"EchoFolkModel", "item", "(II)I"⟩, prog_13_method_90_code, 4, (Option.some FieldType.int), 1490, 75, 1488, 1489, false),
  (⟨"EchoFolkModel", "rest", "(II)I"⟩, prog_13_method_91_code, 3, (Option.some FieldType.int), 1494, 75, 1492, 1493, false),
  (⟨"EchoFolkModel", "tell", "(I)I"⟩, prog_13_method_92_code, 2, (Option.some FieldType.int), 1499, 75, 1497, 1498, false),
  (⟨"EchoFolkModel", "check", "(I)I"⟩, prog_13_method_93_code, 6, (Option.some FieldType.int), 1503, 75, 1501, 1502, false),
  (⟨"EchoFolkModel", "keep", "()I"⟩, prog_13_method_94_code, 1, (Option.some FieldType.int), 1510, 75, 1508, 1509, false),
  (⟨"EchoFolkModel", "back", "()I"⟩, prog_13_method_95_code, 1, (Option.some FieldType.int), 1514, 75, 1512, 1513, false),
  (⟨"EchoFolkModel", "count", "(I)I"⟩, prog_13_method_96_code, 2, (Option.some FieldType.int), 1518, 75, 1516, 1517, false),
  (⟨"java/lang/Integer", "bitCount", "(I)I"⟩, prog_15_method_49_code, 1, (Option.some FieldType.int), 688, 78, 687, 0, true),
  (⟨"java/lang/String", "length", "()I"⟩, prog_17_method_54_code, 1, (Option.some FieldType.int), 750, 79, 748, 749, false),
  (⟨"java/lang/String", "charAt", "(I)C"⟩, prog_17_method_56_code, 2, (Option.some FieldType.char), 760, 79, 758, 759, false),
  (⟨"java/lang/String", "indexOf", "(I)I"⟩, prog_17_method_79_code, 2, (Option.some FieldType.int), 850, 79, 848, 849, false),
  (⟨"java/lang/String", "indexOf", "(II)I"⟩, prog_17_method_80_code, 3, (Option.some FieldType.int), 854, 79, 852, 853, false),
  (⟨"java/lang/String", "coder", "()B"⟩, prog_17_method_152_code, 1, (Option.some FieldType.byte), 754, 79, 752, 753, false),
  (⟨"java/lang/String", "isLatin1", "()Z"⟩, prog_17_method_154_code, 1, (Option.some FieldType.boolean), 764, 79, 762, 763, false),
  (⟨"java/lang/String", "checkIndex", "(II)V"⟩, prog_17_method_155_code, 2, (Option.none : Option FieldType), 770, 79, 769, 0, true),
  (⟨"java/lang/String", "checkBoundsBeginEnd", "(III)V"⟩, prog_17_method_158_code, 3, (Option.none : Option FieldType), 881, 79, 880, 0, true)]
def pm_mi15 : List pm_M := [(⟨"java/lang/StringLatin1", "charAt", "([BI)C"⟩, prog_18_method_2_code, 2, (Option.some FieldType.char), 767, 80, 766, 0, true),
  (⟨"java/lang/StringLatin1", "canEncode", "(I)Z"⟩, prog_18_method_4_code, 1, (Option.some FieldType.boolean), 861, 80, 860, 0, true),
  (⟨"java/lang/StringLatin1", "indexOf", "([BIII)I"⟩, prog_18_method_22_code, 4, (Option.some FieldType.int), 858, 80, 857, 0, true),
  (⟨"java/lang/StringLatin1", "indexOfChar", "([BIII)I"⟩, prog_18_method_23_code, 6, (Option.some FieldType.int), 866, 80, 865, 0, true),
  (⟨"jdk/internal/util/Preconditions", "checkIndex", "(IILjava/util/function/BiFunction;)I"⟩, prog_21_method_11_code, 3, (Option.some FieldType.int), 775, 81, 774, 0, true),
  (⟨"jdk/internal/util/Preconditions", "checkFromToIndex", "(IIILjava/util/function/BiFunction;)I"⟩, prog_21_method_12_code, 4, (Option.some FieldType.int), 884, 81, 883, 0, true)]
def pm_mis : List (List pm_M) := [pm_mi0, pm_mi1, pm_mi2, pm_mi3, pm_mi4, pm_mi5, pm_mi6, pm_mi7, pm_mi8, pm_mi9, pm_mi10, pm_mi11, pm_mi12, pm_mi13, pm_mi14, pm_mi15]
def pm_mi : Nat → Option pm_M := fun m => (pm_mis.getD (m / 16) [])[m % 16]?
def pm_chk (m : Nat) : Bool := match pm_mi m with
  | none => true
  | some M => pm_mokb M && (match pm_g m with
    | none => true
    | some (maxL, t) => decide (M.2.2.1 = maxL) && t.flatten.all (fun q => pm_okb pm_mi M.1.cls M.1.name M.2.2.2.1 M.2.1 q.1 q.2))
theorem pm_lookup_mem {l : List (Nat × pm_I)} {pc : Nat} {r : pm_I} (h : l.lookup pc = some r) : (pc, r) ∈ l := by
  induction l with
  | nil => cases h
  | cons a l ih =>
    obtain ⟨k, v⟩ := a
    rw [List.lookup_cons] at h
    split at h
    · rename_i hk
      have hk : pc = k := by simpa using hk
      cases h
      subst hk
      exact List.mem_cons_self
    · exact List.mem_cons_of_mem _ (ih h)
theorem pm_at_mem {t : pm_T} {pc : Nat} {r : pm_I} (h : pm_at t pc = some r) : (pc, r) ∈ t.flatten := by
  unfold pm_at at h
  have h1 := pm_lookup_mem h
  rw [List.getD_eq_getElem?_getD] at h1
  cases hl : t[pc / 32]? with
  | none => rw [hl] at h1; cases h1
  | some l =>
    rw [hl] at h1
    exact List.mem_flatten.mpr ⟨l, List.mem_of_getElem? hl, h1⟩
theorem pm_good_of (h : ∀ m, pm_chk m = true) : pm_good_G pm_g pm_mi := by
  refine ⟨fun a M hM => ?_, fun m maxL t hg M hM => ?_⟩
  · have h1 := h a
    unfold pm_chk at h1
    rw [hM] at h1
    dsimp only at h1
    rw [Bool.and_eq_true] at h1
    exact h1.1
  · have h1 := h m
    unfold pm_chk at h1
    rw [hM] at h1
    dsimp only at h1
    rw [Bool.and_eq_true, hg] at h1
    have h2 := h1.2
    dsimp only at h2
    rw [Bool.and_eq_true, decide_eq_true_eq] at h2
    exact ⟨h2.1, fun pc r hr => List.all_eq_true.mp h2.2 (pc, r) (pm_at_mem hr)⟩
