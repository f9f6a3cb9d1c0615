/-! TABLES: calls, how they are checked. -/
abbrev am_I : Type := MethodName × ByteArray × Nat × Option FieldType × List (Nat × Nat × Nat × Nat)
def am_inf (M : am_M) : am_I := (am_y M, am_b M, am_n M, am_r M, am_mT M)
def xj_0 : am_I := (⟨"RelationFinderLaw", "law", "([I)Z"⟩, code, 7, some .boolean, [])
def xj_1 : am_I := (⟨"RelationFinderLaw", "cell", "([II)I"⟩, method_2_code, 2, some .int, [])
def xj_2 : am_I := (⟨"RelationFinderLaw", "feed", "(LRelationFinder;JI[J)I"⟩, method_3_code, 6, some .int, [(0, 11, 14, 13), (0, 11, 18, 15)])
def xj_3 : am_I := (⟨"RelationFinderLaw", "relation", "(LRelationFinder;JI[J)I"⟩, method_4_code, 6, some .int, [(0, 11, 14, 13), (0, 11, 18, 15)])
def xj_4 : am_I := (⟨"RelationFinderLaw", "bound", "(LRelationFinder;III[J)I"⟩, method_5_code, 6, some .int, [(0, 12, 15, 24), (0, 12, 19, 13), (0, 12, 23, 15)])
def xj_5 : am_I := (⟨"RelationFinderLaw", "fact", "(LRelationFinder;[J)I"⟩, method_6_code, 3, some .int, [(0, 8, 11, 15)])
def xj_6 : am_I := (⟨"RelationFinderLaw", "back", "(LRelationFinder;[J)I"⟩, method_7_code, 3, some .int, [(0, 8, 11, 33)])
def xj_7 : am_I := (⟨"RelationFinderLaw", "next", "(LRelationFinder;[J)I"⟩, method_8_code, 3, some .int, [(0, 8, 11, 33)])
def xj_8 : am_I := (⟨"RelationFinderLaw", "check", "(LRelationFinder;[J)I"⟩, method_9_code, 3, some .int, [(0, 8, 11, 33)])
def xj_9 : am_I := (⟨"RelationFinderLaw", "has", "(LRelationFinder;II[J)I"⟩, method_10_code, 5, some .int, [(0, 17, 20, 24), (0, 17, 24, 33)])
def xj_10 : am_I := (⟨"RelationFinderLaw", "core", "(LRelationFinder;[J)I"⟩, method_11_code, 3, some .int, [(0, 8, 11, 33)])
def xj_11 : am_I := (⟨"RelationFinderLaw", "isInCore", "(LRelationFinder;I[J)I"⟩, method_12_code, 4, some .int, [(0, 16, 19, 24)])
def xj_12 : am_I := (⟨"RelationFinderLaw", "value", "(LRelationFinder;[J)I"⟩, method_13_code, 3, some .int, [(0, 8, 11, 33)])
def xj_13 : am_I := (⟨"RelationFinderLaw", "holds", "(LRelationFinder;[J)I"⟩, method_14_code, 3, some .int, [(0, 8, 11, 33)])
def xj_14 : am_I := (⟨"RelationFinder", "<init>", "(I)V"⟩, prog_1_method_1_code, 3, none, [])
def xj_15 : am_I := (⟨"RelationFinder", "fault", "(Z)I"⟩, prog_1_method_3_code, 2, some .int, [])
def xj_16 : am_I := (⟨"RelationFinder", "claim", "()I"⟩, prog_1_method_8_code, 2, some .int, [])
def xj_17 : am_I := (⟨"RelationFinder", "readText", "(Z)I"⟩, prog_1_method_22_code, 2, some .int, [])
def xj_18 : am_I := (⟨"RelationFinder", "isLetter", "(I)Z"⟩, prog_1_method_30_code, 1, some .boolean, [])
def xj_19 : am_I := (⟨"RelationFinder", "kindOfWord", "(J)I"⟩, prog_1_method_32_code, 3, some .int, [])
def xj_20 : am_I := (⟨"RelationFinder", "isDigit", "(I)Z"⟩, prog_1_method_31_code, 1, some .boolean, [])
def xj_21 : am_I := (⟨"RelationFinder", "isConnective", "(I)Z"⟩, prog_1_method_29_code, 1, some .boolean, [])
def xj_22 : am_I := (⟨"RelationFinder", "keepFormula", "(I)V"⟩, prog_1_method_23_code, 3, none, [])
def xj_23 : am_I := (⟨"RelationFinder", "solve", "()I"⟩, prog_1_method_9_code, 1, some .int, [])
def xj_24 : am_I := (⟨"RelationFinder", "allFacts", "()I"⟩, prog_1_method_24_code, 1, some .int, [])
def xj_25 : am_I := (⟨"RelationFinder", "firstFrom", "(II)I"⟩, prog_1_method_25_code, 8, some .int, [])
def xj_26 : am_I := (⟨"RelationFinder", "instances", "(II)J"⟩, prog_1_method_26_code, 7, some .long, [])
def xj_27 : am_I := (⟨"RelationFinder", "count", "()I"⟩, prog_1_method_13_code, 3, some .int, [])
def xj_28 : am_I := (⟨"RelationFinder", "unlike", "()I"⟩, prog_1_method_14_code, 6, some .int, [])
def xj_29 : am_I := (⟨"RelationFinder", "fair", "()I"⟩, prog_1_method_15_code, 1, some .int, [])
def xj_30 : am_I := (⟨"RelationFinder", "isIn", "(I)Z"⟩, prog_1_method_19_code, 2, some .boolean, [])
def xj_31 : am_I := (⟨"RelationFinder", "told", "(I)I"⟩, prog_1_method_21_code, 2, some .int, [])
def xj_32 : am_I := (⟨"RelationFinder", "feed", "(JI)I"⟩, prog_1_method_2_code, 4, some .int, [])
def xj_33 : am_I := (⟨"RelationFinder", "relation", "(JI)I"⟩, prog_1_method_4_code, 4, some .int, [])
def xj_34 : am_I := (⟨"RelationFinder", "isName", "(J)Z"⟩, prog_1_method_33_code, 5, some .boolean, [])
def xj_35 : am_I := (⟨"RelationFinder", "bound", "(III)I"⟩, prog_1_method_5_code, 6, some .int, [])
def xj_36 : am_I := (⟨"RelationFinder", "fact", "()I"⟩, prog_1_method_6_code, 2, some .int, [])
def xj_37 : am_I := (⟨"RelationFinder", "back", "()I"⟩, prog_1_method_7_code, 1, some .int, [])
def xj_38 : am_I := (⟨"RelationFinder", "next", "()I"⟩, prog_1_method_10_code, 1, some .int, [])
def xj_39 : am_I := (⟨"RelationFinder", "check", "()I"⟩, prog_1_method_11_code, 1, some .int, [])
def xj_40 : am_I := (⟨"RelationFinder", "has", "(II)Z"⟩, prog_1_method_12_code, 3, some .boolean, [])
def xj_41 : am_I := (⟨"RelationFinder", "core", "()I"⟩, prog_1_method_16_code, 4, some .int, [])
def xj_42 : am_I := (⟨"RelationFinder", "isInCore", "(I)Z"⟩, prog_1_method_17_code, 2, some .boolean, [])
def xj_43 : am_I := (⟨"RelationFinder", "value", "()I"⟩, prog_1_method_18_code, 5, some .int, [])
def xj_44 : am_I := (⟨"RelationFinder", "workInPresent", "()V"⟩, prog_1_method_27_code, 1, none, [])
def xj_45 : am_I := (⟨"RelationFinder", "isThere", "(J)Z"⟩, prog_1_method_28_code, 3, some .boolean, [])
def xj_46 : am_I := (⟨"RelationFinder", "holds", "()I"⟩, prog_1_method_20_code, 2, some .int, [])
def xj_47 : am_I := (⟨"RelationFinder$World", "<init>", "(I)V"⟩, prog_7_method_1_code, 3, none, [])
def xj_48 : am_I := (⟨"RelationFinder$World", "numberOf", "(J)I"⟩, prog_7_method_3_code, 4, some .int, [])
def xj_49 : am_I := (⟨"RelationFinder$World", "blocks", "()I"⟩, prog_7_method_11_code, 1, some .int, [])
def xj_50 : am_I := (⟨"RelationFinder$World", "wholeBlock", "()J"⟩, prog_7_method_12_code, 1, some .long, [])
def xj_51 : am_I := (⟨"RelationFinder$World", "show", "(I)V"⟩, prog_7_method_13_code, 4, none, [])
def xj_52 : am_I := (⟨"RelationFinder$World", "sizeOf", "(I)I"⟩, prog_7_method_2_code, 2, some .int, [])
def xj_53 : am_I := (⟨"RelationFinder$World", "rankOf", "(I)I"⟩, prog_7_method_9_code, 3, some .int, [])
def xj_54 : am_I := (⟨"RelationFinder$World", "add", "(JI)I"⟩, prog_7_method_4_code, 4, some .int, [])
def xj_55 : am_I := (⟨"RelationFinder$World", "hasTuple", "(II)Z"⟩, prog_7_method_5_code, 3, some .boolean, [])
def xj_56 : am_I := (⟨"RelationFinder$World", "change", "(II)V"⟩, prog_7_method_6_code, 3, none, [])
def xj_57 : am_I := (⟨"RelationFinder$World", "dropFree", "(I)V"⟩, prog_7_method_8_code, 4, none, [])
def xj_58 : am_I := (⟨"RelationFinder$World", "addFree", "(I)V"⟩, prog_7_method_7_code, 3, none, [])
def xj_59 : am_I := (⟨"RelationFinder$World", "contains", "(II)Z"⟩, prog_7_method_10_code, 4, some .boolean, [])
def xj_60 : am_I := (⟨"RelationFinder$Tape", "<init>", "()V"⟩, prog_6_method_1_code, 1, none, [])
def xj_61 : am_I := (⟨"RelationFinder$Tape", "rewind", "()V"⟩, prog_6_method_4_code, 1, none, [])
def xj_62 : am_I := (⟨"RelationFinder$Tape", "advance", "()V"⟩, prog_6_method_5_code, 1, none, [])
def xj_63 : am_I := (⟨"RelationFinder$Tape", "blanksEnd", "(I)I"⟩, prog_6_method_6_code, 3, some .int, [])
def xj_64 : am_I := (⟨"RelationFinder$Tape", "readWord", "()V"⟩, prog_6_method_9_code, 2, none, [])
def xj_65 : am_I := (⟨"RelationFinder$Tape", "lettersEnd", "(I)I"⟩, prog_6_method_7_code, 3, some .int, [])
def xj_66 : am_I := (⟨"RelationFinder$Tape", "wordBetween", "(II)J"⟩, prog_6_method_8_code, 6, some .long, [])
def xj_67 : am_I := (⟨"RelationFinder$Tape", "readNumber", "()V"⟩, prog_6_method_10_code, 1, none, [])
def xj_68 : am_I := (⟨"RelationFinder$Tape", "readSign", "()V"⟩, prog_6_method_11_code, 4, none, [])
def xj_69 : am_I := (⟨"RelationFinder$Tape", "isBinderNext", "()Z"⟩, prog_6_method_12_code, 5, some .boolean, [])
def xj_70 : am_I := (⟨"RelationFinder$Tape", "clear", "()V"⟩, prog_6_method_3_code, 1, none, [])
def xj_71 : am_I := (⟨"RelationFinder$Tape", "append", "(JI)V"⟩, prog_6_method_2_code, 5, none, [])
def xj_72 : am_I := (⟨"RelationFinder$Parser", "<init>", "(LRelationFinder$Tape;LRelationFinder$World;)V"⟩, prog_4_method_1_code, 3, none, [])
def xj_73 : am_I := (⟨"RelationFinder$Parser", "read", "(LRelationFinder$Code;Z)V"⟩, prog_4_method_2_code, 4, none, [])
def xj_74 : am_I := (⟨"RelationFinder$Parser", "refuse", "(II)V"⟩, prog_4_method_3_code, 3, none, [])
def xj_75 : am_I := (⟨"RelationFinder$Parser", "takeOperand", "(I)V"⟩, prog_4_method_5_code, 2, none, [])
def xj_76 : am_I := (⟨"RelationFinder$Parser", "open", "(I)Z"⟩, prog_4_method_13_code, 2, some .boolean, [])
def xj_77 : am_I := (⟨"RelationFinder$Parser", "openBinder", "(I)V"⟩, prog_4_method_14_code, 2, none, [])
def xj_78 : am_I := (⟨"RelationFinder$Parser", "takeName", "()V"⟩, prog_4_method_9_code, 2, none, [])
def xj_79 : am_I := (⟨"RelationFinder$Parser", "addOperand", "(III)V"⟩, prog_4_method_7_code, 4, none, [])
def xj_80 : am_I := (⟨"RelationFinder$Parser", "endOperand", "(I)V"⟩, prog_4_method_8_code, 2, none, [])
def xj_81 : am_I := (⟨"RelationFinder$Parser", "awaitsFormula", "()Z"⟩, prog_4_method_15_code, 1, some .boolean, [])
def xj_82 : am_I := (⟨"RelationFinder$Parser", "takeFormula", "(I)V"⟩, prog_4_method_6_code, 2, none, [])
def xj_83 : am_I := (⟨"RelationFinder$Parser", "refuseToken", "()V"⟩, prog_4_method_4_code, 1, none, [])
def xj_84 : am_I := (⟨"RelationFinder$Parser", "takeBoundName", "(I)V"⟩, prog_4_method_10_code, 2, none, [])
def xj_85 : am_I := (⟨"RelationFinder$Parser", "takeColon", "(I)V"⟩, prog_4_method_11_code, 2, none, [])
def xj_86 : am_I := (⟨"RelationFinder$Parser", "takeNumber", "(I)V"⟩, prog_4_method_12_code, 2, none, [])
def xj_87 : am_I := (⟨"RelationFinder$Parser", "takeBehind", "(I)V"⟩, prog_4_method_17_code, 3, none, [])
def xj_88 : am_I := (⟨"RelationFinder$Parser", "endsTop", "(I)Z"⟩, prog_4_method_18_code, 5, some .boolean, [])
def xj_89 : am_I := (⟨"RelationFinder$Parser", "lacksComparison", "()Z"⟩, prog_4_method_16_code, 1, some .boolean, [])
def xj_90 : am_I := (⟨"RelationFinder$Parser", "joinStrength", "(I)I"⟩, prog_4_method_19_code, 2, some .int, [])
def xj_91 : am_I := (⟨"RelationFinder$Parser", "strengthOf", "(I)I"⟩, prog_4_method_20_code, 1, some .int, [])
def xj_92 : am_I := (⟨"RelationFinder$Parser", "closeTop", "()V"⟩, prog_4_method_25_code, 2, none, [])
def xj_93 : am_I := (⟨"RelationFinder$Parser", "endBinder", "()V"⟩, prog_4_method_27_code, 2, none, [])
def xj_94 : am_I := (⟨"RelationFinder$Parser", "bodiesBelow", "(I)I"⟩, prog_4_method_28_code, 4, some .int, [])
def xj_95 : am_I := (⟨"RelationFinder$Parser", "applyTop", "(I)V"⟩, prog_4_method_26_code, 3, none, [])
def xj_96 : am_I := (⟨"RelationFinder$Parser", "fitting", "(III)I"⟩, prog_4_method_29_code, 3, some .int, [])
def xj_97 : am_I := (⟨"RelationFinder$Parser", "mayJoin", "(I)Z"⟩, prog_4_method_21_code, 3, some .boolean, [])
def xj_98 : am_I := (⟨"RelationFinder$Parser", "takeAtEnd", "(I)V"⟩, prog_4_method_22_code, 2, none, [])
def xj_99 : am_I := (⟨"RelationFinder$Parser", "takeBar", "(I)V"⟩, prog_4_method_23_code, 3, none, [])
def xj_100 : am_I := (⟨"RelationFinder$Parser", "takeCloser", "(I)V"⟩, prog_4_method_24_code, 3, none, [])
def xj_101 : am_I := (⟨"RelationFinder$Machine", "<init>", "(LRelationFinder$World;)V"⟩, prog_3_method_1_code, 2, none, [])
def xj_102 : am_I := (⟨"RelationFinder$Machine", "work", "(LRelationFinder$Code;IJ)V"⟩, prog_3_method_2_code, 7, none, [])
def xj_103 : am_I := (⟨"RelationFinder$Machine", "run", "(LRelationFinder$Code;IIJI)V"⟩, prog_3_method_3_code, 9, none, [])
def xj_104 : am_I := (⟨"RelationFinder$Machine", "bind", "(LRelationFinder$Code;IJI)V"⟩, prog_3_method_6_code, 8, none, [])
def xj_105 : am_I := (⟨"RelationFinder$Machine", "memoPlace", "(LRelationFinder$Code;I)I"⟩, prog_3_method_7_code, 5, some .int, [])
def xj_106 : am_I := (⟨"RelationFinder$Machine", "recall", "(II)V"⟩, prog_3_method_8_code, 6, none, [])
def xj_107 : am_I := (⟨"RelationFinder$Machine", "sift", "(LRelationFinder$Code;IJI)V"⟩, prog_3_method_11_code, 10, none, [])
def xj_108 : am_I := (⟨"RelationFinder$Machine", "formulaOf", "(LRelationFinder$Code;IIJI)J"⟩, prog_3_method_5_code, 8, some .long, [])
def xj_109 : am_I := (⟨"RelationFinder$Machine", "quantify", "(LRelationFinder$Code;IJI)V"⟩, prog_3_method_10_code, 21, none, [])
def xj_110 : am_I := (⟨"RelationFinder$Machine", "verdict", "(IJJ)J"⟩, prog_3_method_12_code, 5, some .long, [])
def xj_111 : am_I := (⟨"RelationFinder$Machine", "remember", "(IIJ)V"⟩, prog_3_method_9_code, 9, none, [])
def xj_112 : am_I := (⟨"RelationFinder$Machine", "connect", "(LRelationFinder$Code;IJI)V"⟩, prog_3_method_4_code, 13, none, [])
def xj_113 : am_I := (⟨"RelationFinder$Machine", "joined", "(IJJ)J"⟩, prog_3_method_26_code, 5, some .long, [])
def xj_114 : am_I := (⟨"RelationFinder$Machine", "apply", "(LRelationFinder$Code;I)V"⟩, prog_3_method_13_code, 4, none, [])
def xj_115 : am_I := (⟨"RelationFinder$Machine", "pushConstant", "(II)V"⟩, prog_3_method_14_code, 9, none, [])
def xj_116 : am_I := (⟨"RelationFinder$Machine", "addIdentity", "(I)V"⟩, prog_3_method_16_code, 3, none, [])
def xj_117 : am_I := (⟨"RelationFinder$Machine", "pushRelation", "(I)V"⟩, prog_3_method_15_code, 6, none, [])
def xj_118 : am_I := (⟨"RelationFinder$Machine", "compareSize", "(II)V"⟩, prog_3_method_18_code, 11, none, [])
def xj_119 : am_I := (⟨"RelationFinder$Machine", "judgeSize", "(I)V"⟩, prog_3_method_17_code, 9, none, [])
def xj_120 : am_I := (⟨"RelationFinder$Machine", "applyPrefix", "(I)V"⟩, prog_3_method_19_code, 3, none, [])
def xj_121 : am_I := (⟨"RelationFinder$Machine", "turnAbout", "(I)V"⟩, prog_3_method_20_code, 7, none, [])
def xj_122 : am_I := (⟨"RelationFinder$Machine", "reach", "(I)V"⟩, prog_3_method_21_code, 6, none, [])
def xj_123 : am_I := (⟨"RelationFinder$Machine", "compare", "(I)V"⟩, prog_3_method_27_code, 8, none, [])
def xj_124 : am_I := (⟨"RelationFinder$Machine", "join", "()V"⟩, prog_3_method_22_code, 11, none, [])
def xj_125 : am_I := (⟨"RelationFinder$Machine", "multiply", "()V"⟩, prog_3_method_23_code, 7, none, [])
def xj_126 : am_I := (⟨"RelationFinder$Machine", "keepFirsts", "()V"⟩, prog_3_method_24_code, 7, none, [])
def xj_127 : am_I := (⟨"RelationFinder$Machine", "applyWordwise", "(I)V"⟩, prog_3_method_25_code, 8, none, [])
def xj_128 : am_I := (⟨"RelationFinder$Machine", "dropBegun", "(II)V"⟩, prog_3_method_28_code, 8, none, [])
def xj_129 : am_I := (⟨"RelationFinder$Renamings", "<init>", "(LRelationFinder$World;)V"⟩, prog_5_method_1_code, 2, none, [])
def xj_130 : am_I := (⟨"RelationFinder$Renamings", "find", "()V"⟩, prog_5_method_2_code, 3, none, [])
def xj_131 : am_I := (⟨"RelationFinder$Renamings", "isFair", "()Z"⟩, prog_5_method_3_code, 6, some .boolean, [])
def xj_132 : am_I := (⟨"RelationFinder$Renamings", "imageOf", "(II)I"⟩, prog_5_method_4_code, 8, some .int, [])
def xj_133 : am_I := (⟨"RelationFinder$Renamings", "keep", "()V"⟩, prog_5_method_5_code, 4, none, [])
def xj_134 : am_I := (⟨"RelationFinder$Renamings", "step", "()Z"⟩, prog_5_method_6_code, 6, some .boolean, [])
def xj_135 : am_I := (⟨"RelationFinder$Renamings", "swap", "(II)V"⟩, prog_5_method_7_code, 4, none, [])
def xj_136 : am_I := (⟨"RelationFinder$Renamings", "markAlike", "(I[J)V"⟩, prog_5_method_8_code, 7, none, [])
def xj_137 : am_I := (⟨"RelationFinder$Code", "<init>", "()V"⟩, prog_2_method_1_code, 1, none, [])
def xj_138 : am_I := (⟨"RelationFinder$Code", "clear", "()V"⟩, prog_2_method_2_code, 1, none, [])
def xj_139 : am_I := (⟨"RelationFinder$Code", "add", "(III)I"⟩, prog_2_method_3_code, 4, some .int, [])
def xj_140 : am_I := (⟨"RelationFinder$Code", "endBinder", "(III)V"⟩, prog_2_method_4_code, 5, none, [])
def xj_141 : am_I := (⟨"RelationFinderModel", "<init>", "(I)V"⟩, prog_9_method_1_code, 2, none, [])
def xj_142 : am_I := (⟨"RelationFinderModel", "thrown", "()I"⟩, prog_9_method_2_code, 1, some .int, [])
def xj_143 : am_I := (⟨"RelationFinderModel", "feed", "(JI)I"⟩, prog_9_method_4_code, 5, some .int, [])
def xj_144 : am_I := (⟨"RelationFinderModel", "fault", "(Z)I"⟩, prog_9_method_5_code, 2, some .int, [])
def xj_145 : am_I := (⟨"RelationFinderModel", "relation", "(JI)I"⟩, prog_9_method_76_code, 6, some .int, [])
def xj_146 : am_I := (⟨"RelationFinderModel", "isName", "(J)Z"⟩, prog_9_method_75_code, 5, some .boolean, [])
def xj_147 : am_I := (⟨"RelationFinderModel", "letters", "(J)I"⟩, prog_9_method_9_code, 5, some .int, [])
def xj_148 : am_I := (⟨"RelationFinderModel", "keyword", "(J)I"⟩, prog_9_method_11_code, 2, some .int, [])
def xj_149 : am_I := (⟨"RelationFinderModel", "letter", "(JI)J"⟩, prog_9_method_10_code, 3, some .long, [])
def xj_150 : am_I := (⟨"RelationFinderModel", "isLetter", "(I)Z"⟩, prog_9_method_6_code, 1, some .boolean, [])
def xj_151 : am_I := (⟨"RelationFinderModel", "bound", "(III)I"⟩, prog_9_method_78_code, 6, some .int, [])
def xj_152 : am_I := (⟨"RelationFinderModel", "noTuple", "(II)Z"⟩, prog_9_method_77_code, 3, some .boolean, [])
def xj_153 : am_I := (⟨"RelationFinderModel", "power", "(I)I"⟩, prog_9_method_3_code, 4, some .int, [])
def xj_154 : am_I := (⟨"RelationFinderModel", "listFree", "()V"⟩, prog_9_method_67_code, 2, none, [])
def xj_155 : am_I := (⟨"RelationFinderModel", "fact", "()I"⟩, prog_9_method_79_code, 1, some .int, [])
def xj_156 : am_I := (⟨"RelationFinderModel", "takeText", "(Z)Z"⟩, prog_9_method_42_code, 2, some .boolean, [])
def xj_157 : am_I := (⟨"RelationFinderModel", "readText", "(Z)I"⟩, prog_9_method_41_code, 4, some .int, [])
def xj_158 : am_I := (⟨"RelationFinderModel", "push", "(II)V"⟩, prog_9_method_18_code, 3, none, [])
def xj_159 : am_I := (⟨"RelationFinderModel", "readToken", "()V"⟩, prog_9_method_15_code, 3, none, [])
def xj_160 : am_I := (⟨"RelationFinderModel", "byteAt", "(I)I"⟩, prog_9_method_8_code, 2, some .int, [])
def xj_161 : am_I := (⟨"RelationFinderModel", "readWord", "()V"⟩, prog_9_method_13_code, 5, none, [])
def xj_162 : am_I := (⟨"RelationFinderModel", "isDigit", "(I)Z"⟩, prog_9_method_7_code, 1, some .boolean, [])
def xj_163 : am_I := (⟨"RelationFinderModel", "readNumber", "()V"⟩, prog_9_method_14_code, 3, none, [])
def xj_164 : am_I := (⟨"RelationFinderModel", "signOf", "(I)I"⟩, prog_9_method_12_code, 1, some .int, [])
def xj_165 : am_I := (⟨"RelationFinderModel", "opensOne", "(I)Z"⟩, prog_9_method_32_code, 6, some .boolean, [])
def xj_166 : am_I := (⟨"RelationFinderModel", "level", "(I)I"⟩, prog_9_method_20_code, 1, some .int, [])
def xj_167 : am_I := (⟨"RelationFinderModel", "isJoint", "(I)Z"⟩, prog_9_method_21_code, 1, some .boolean, [])
def xj_168 : am_I := (⟨"RelationFinderModel", "isLink", "(I)Z"⟩, prog_9_method_22_code, 1, some .boolean, [])
def xj_169 : am_I := (⟨"RelationFinderModel", "isFormulaPlace", "(I)Z"⟩, prog_9_method_33_code, 1, some .boolean, [])
def xj_170 : am_I := (⟨"RelationFinderModel", "take", "(I)I"⟩, prog_9_method_40_code, 2, some .int, [])
def xj_171 : am_I := (⟨"RelationFinderModel", "takeFormula", "()I"⟩, prog_9_method_36_code, 2, some .int, [])
def xj_172 : am_I := (⟨"RelationFinderModel", "lay", "(III)V"⟩, prog_9_method_17_code, 5, none, [])
def xj_173 : am_I := (⟨"RelationFinderModel", "beginsLine", "()Z"⟩, prog_9_method_16_code, 5, some .boolean, [])
def xj_174 : am_I := (⟨"RelationFinderModel", "takeOperand", "()I"⟩, prog_9_method_35_code, 1, some .int, [])
def xj_175 : am_I := (⟨"RelationFinderModel", "layName", "()Z"⟩, prog_9_method_34_code, 4, some .boolean, [])
def xj_176 : am_I := (⟨"RelationFinderModel", "takeBehindExpression", "()I"⟩, prog_9_method_37_code, 3, some .int, [])
def xj_177 : am_I := (⟨"RelationFinderModel", "endJoints", "(I)I"⟩, prog_9_method_25_code, 3, some .int, [])
def xj_178 : am_I := (⟨"RelationFinderModel", "last", "()I"⟩, prog_9_method_19_code, 1, some .int, [])
def xj_179 : am_I := (⟨"RelationFinderModel", "endJoint", "()I"⟩, prog_9_method_24_code, 6, some .int, [])
def xj_180 : am_I := (⟨"RelationFinderModel", "failAt", "(I)I"⟩, prog_9_method_23_code, 2, some .int, [])
def xj_181 : am_I := (⟨"RelationFinderModel", "endExpression", "()I"⟩, prog_9_method_26_code, 3, some .int, [])
def xj_182 : am_I := (⟨"RelationFinderModel", "endLine", "()Z"⟩, prog_9_method_27_code, 1, some .boolean, [])
def xj_183 : am_I := (⟨"RelationFinderModel", "takeBehindFormula", "()I"⟩, prog_9_method_38_code, 2, some .int, [])
def xj_184 : am_I := (⟨"RelationFinderModel", "endLinks", "(I)V"⟩, prog_9_method_30_code, 2, none, [])
def xj_185 : am_I := (⟨"RelationFinderModel", "endLink", "()V"⟩, prog_9_method_28_code, 1, none, [])
def xj_186 : am_I := (⟨"RelationFinderModel", "endFormula", "()V"⟩, prog_9_method_31_code, 2, none, [])
def xj_187 : am_I := (⟨"RelationFinderModel", "endQuantity", "()V"⟩, prog_9_method_29_code, 1, none, [])
def xj_188 : am_I := (⟨"RelationFinderModel", "takeMark", "(I)I"⟩, prog_9_method_39_code, 2, some .int, [])
def xj_189 : am_I := (⟨"RelationFinderModel", "keepText", "(I)V"⟩, prog_9_method_43_code, 3, none, [])
def xj_190 : am_I := (⟨"RelationFinderModel", "back", "()I"⟩, prog_9_method_80_code, 1, some .int, [])
def xj_191 : am_I := (⟨"RelationFinderModel", "claim", "()I"⟩, prog_9_method_81_code, 1, some .int, [])
def xj_192 : am_I := (⟨"RelationFinderModel", "solve", "()I"⟩, prog_9_method_82_code, 1, some .int, [])
def xj_193 : am_I := (⟨"RelationFinderModel", "firstFrom", "(IIZ)I"⟩, prog_9_method_73_code, 5, some .int, [])
def xj_194 : am_I := (⟨"RelationFinderModel", "fits", "(II)Z"⟩, prog_9_method_72_code, 5, some .boolean, [])
def xj_195 : am_I := (⟨"RelationFinderModel", "assign", "(I)V"⟩, prog_9_method_70_code, 3, none, [])
def xj_196 : am_I := (⟨"RelationFinderModel", "addTuple", "(II)V"⟩, prog_9_method_68_code, 3, none, [])
def xj_197 : am_I := (⟨"RelationFinderModel", "isFreeIn", "(II)Z"⟩, prog_9_method_69_code, 3, some .boolean, [])
def xj_198 : am_I := (⟨"RelationFinderModel", "isTrue", "(I)Z"⟩, prog_9_method_71_code, 2, some .boolean, [])
def xj_199 : am_I := (⟨"RelationFinderModel", "work", "(I)V"⟩, prog_9_method_66_code, 5, none, [])
def xj_200 : am_I := (⟨"RelationFinderModel", "loop", "(II)I"⟩, prog_9_method_63_code, 5, some .int, [])
def xj_201 : am_I := (⟨"RelationFinderModel", "nextAtom", "(II)I"⟩, prog_9_method_60_code, 4, some .int, [])
def xj_202 : am_I := (⟨"RelationFinderModel", "endLoop", "(I)V"⟩, prog_9_method_62_code, 3, none, [])
def xj_203 : am_I := (⟨"RelationFinderModel", "give", "(JJ)V"⟩, prog_9_method_47_code, 5, none, [])
def xj_204 : am_I := (⟨"RelationFinderModel", "many", "(I)I"⟩, prog_9_method_61_code, 3, some .int, [])
def xj_205 : am_I := (⟨"RelationFinderModel", "isQuantity", "(III)Z"⟩, prog_9_method_59_code, 3, some .boolean, [])
def xj_206 : am_I := (⟨"RelationFinderModel", "truth", "(Z)V"⟩, prog_9_method_57_code, 2, none, [])
def xj_207 : am_I := (⟨"RelationFinderModel", "loopOn", "(II)I"⟩, prog_9_method_64_code, 4, some .int, [])
def xj_208 : am_I := (⟨"RelationFinderModel", "both", "(III)V"⟩, prog_9_method_54_code, 8, none, [])
def xj_209 : am_I := (⟨"RelationFinderModel", "product", "(II)V"⟩, prog_9_method_49_code, 7, none, [])
def xj_210 : am_I := (⟨"RelationFinderModel", "part", "(JJII)J"⟩, prog_9_method_45_code, 8, some .long, [])
def xj_211 : am_I := (⟨"RelationFinderModel", "bit", "(JJI)Z"⟩, prog_9_method_44_code, 5, some .boolean, [])
def xj_212 : am_I := (⟨"RelationFinderModel", "join", "(IJ)V"⟩, prog_9_method_46_code, 4, none, [])
def xj_213 : am_I := (⟨"RelationFinderModel", "override", "()V"⟩, prog_9_method_51_code, 4, none, [])
def xj_214 : am_I := (⟨"RelationFinderModel", "firsts", "(I)V"⟩, prog_9_method_52_code, 4, none, [])
def xj_215 : am_I := (⟨"RelationFinderModel", "lasts", "(I)V"⟩, prog_9_method_53_code, 3, none, [])
def xj_216 : am_I := (⟨"RelationFinderModel", "dot", "(II)V"⟩, prog_9_method_50_code, 5, none, [])
def xj_217 : am_I := (⟨"RelationFinderModel", "pairs", "(I)V"⟩, prog_9_method_55_code, 8, none, [])
def xj_218 : am_I := (⟨"RelationFinderModel", "identity", "()J"⟩, prog_9_method_56_code, 4, some .long, [])
def xj_219 : am_I := (⟨"RelationFinderModel", "twoTruths", "(I)V"⟩, prog_9_method_58_code, 4, none, [])
def xj_220 : am_I := (⟨"RelationFinderModel", "simple", "(III)V"⟩, prog_9_method_65_code, 5, none, [])
def xj_221 : am_I := (⟨"RelationFinderModel", "amount", "(JJ)I"⟩, prog_9_method_48_code, 6, some .int, [])
def xj_222 : am_I := (⟨"RelationFinderModel", "found", "(I)I"⟩, prog_9_method_74_code, 2, some .int, [])
def xj_223 : am_I := (⟨"RelationFinderModel", "next", "()I"⟩, prog_9_method_83_code, 1, some .int, [])
def xj_224 : am_I := (⟨"RelationFinderModel", "check", "()I"⟩, prog_9_method_84_code, 1, some .int, [])
def xj_225 : am_I := (⟨"RelationFinderModel", "has", "(II)Z"⟩, prog_9_method_85_code, 3, some .boolean, [])
def xj_226 : am_I := (⟨"RelationFinderModel", "count", "()I"⟩, prog_9_method_86_code, 3, some .int, [])
def xj_227 : am_I := (⟨"RelationFinderModel", "unlike", "()I"⟩, prog_9_method_94_code, 1, some .int, [])
def xj_228 : am_I := (⟨"RelationFinderModel", "leastOnes", "()I"⟩, prog_9_method_91_code, 3, some .int, [])
def xj_229 : am_I := (⟨"RelationFinderModel", "isLeast", "(I)Z"⟩, prog_9_method_92_code, 2, some .boolean, [])
def xj_230 : am_I := (⟨"RelationFinderModel", "least", "(IZ)I"⟩, prog_9_method_93_code, 9, some .int, [])
def xj_231 : am_I := (⟨"RelationFinderModel", "isFair", "(I)Z"⟩, prog_9_method_88_code, 5, some .boolean, [])
def xj_232 : am_I := (⟨"RelationFinderModel", "turned", "(III)I"⟩, prog_9_method_87_code, 8, some .int, [])
def xj_233 : am_I := (⟨"RelationFinderModel", "image", "(II)I"⟩, prog_9_method_90_code, 6, some .int, [])
def xj_234 : am_I := (⟨"RelationFinderModel", "freeAt", "(II)I"⟩, prog_9_method_89_code, 4, some .int, [])
def xj_235 : am_I := (⟨"RelationFinderModel", "fair", "()I"⟩, prog_9_method_95_code, 1, some .int, [])
def xj_236 : am_I := (⟨"RelationFinderModel", "core", "()I"⟩, prog_9_method_96_code, 4, some .int, [])
def xj_237 : am_I := (⟨"RelationFinderModel", "isInCore", "(I)Z"⟩, prog_9_method_97_code, 2, some .boolean, [])
def xj_238 : am_I := (⟨"RelationFinderModel", "value", "()I"⟩, prog_9_method_99_code, 1, some .int, [])
def xj_239 : am_I := (⟨"RelationFinderModel", "mayAsk", "()Z"⟩, prog_9_method_98_code, 1, some .boolean, [])
def xj_240 : am_I := (⟨"RelationFinderModel", "isIn", "(I)Z"⟩, prog_9_method_100_code, 2, some .boolean, [])
def xj_241 : am_I := (⟨"RelationFinderModel", "holds", "()I"⟩, prog_9_method_101_code, 1, some .int, [])
def xj_242 : am_I := (⟨"RelationFinderModel", "told", "(I)I"⟩, prog_9_method_102_code, 2, some .int, [])
def xj_243 : am_I := (⟨"java/lang/Object", "<init>", "()V"⟩, object_method_1_code, 1, none, [])
def xj_244 : am_I := (⟨"java/lang/Math", "min", "(II)I"⟩, prog_17_method_69_code, 2, some .int, [])
def xj_245 : am_I := (⟨"java/lang/Math", "max", "(II)I"⟩, prog_17_method_65_code, 2, some .int, [])
def xj_246 : am_I := (⟨"java/lang/String", "length", "()I"⟩, prog_19_method_54_code, 1, some .int, [])
def xj_247 : am_I := (⟨"java/lang/String", "coder", "()B"⟩, prog_19_method_152_code, 1, some .byte, [])
def xj_248 : am_I := (⟨"java/lang/String", "charAt", "(I)C"⟩, prog_19_method_56_code, 2, some .char, [])
def xj_249 : am_I := (⟨"java/lang/String", "isLatin1", "()Z"⟩, prog_19_method_154_code, 1, some .boolean, [])
def xj_250 : am_I := (⟨"java/lang/StringLatin1", "charAt", "([BI)C"⟩, prog_20_method_2_code, 2, some .char, [])
def xj_251 : am_I := (⟨"java/lang/String", "checkIndex", "(II)V"⟩, prog_19_method_155_code, 2, none, [])
def xj_252 : am_I := (⟨"jdk/internal/util/Preconditions", "checkIndex", "(IILjava/util/function/BiFunction;)I"⟩, prog_26_method_11_code, 3, some .int, [])
def xj_253 : am_I := (⟨"java/lang/StringUTF16", "charAt", "([BI)C"⟩, prog_21_method_83_code, 2, some .char, [])
def xj_254 : am_I := (⟨"java/lang/StringUTF16", "checkIndex", "(I[B)V"⟩, prog_21_method_91_code, 2, none, [])
def xj_255 : am_I := (⟨"java/lang/StringUTF16", "length", "([B)I"⟩, prog_21_method_6_code, 1, some .int, [])
def xj_256 : am_I := (⟨"java/lang/StringUTF16", "getChar", "([BI)C"⟩, prog_21_method_5_code, 2, some .char, [])
def xj_257 : am_I := (⟨"java/lang/String", "indexOf", "(I)I"⟩, prog_19_method_79_code, 2, some .int, [])
def xj_258 : am_I := (⟨"java/lang/String", "indexOf", "(II)I"⟩, prog_19_method_80_code, 3, some .int, [])
def xj_259 : am_I := (⟨"java/lang/StringLatin1", "indexOf", "([BIII)I"⟩, prog_20_method_22_code, 4, some .int, [])
def xj_260 : am_I := (⟨"java/lang/StringLatin1", "canEncode", "(I)Z"⟩, prog_20_method_4_code, 1, some .boolean, [])
def xj_261 : am_I := (⟨"java/lang/StringLatin1", "indexOfChar", "([BIII)I"⟩, prog_20_method_23_code, 6, some .int, [])
def xj_262 : am_I := (⟨"java/lang/StringUTF16", "indexOf", "([BIII)I"⟩, prog_21_method_40_code, 4, some .int, [])
def xj_263 : am_I := (⟨"java/lang/StringUTF16", "indexOfChar", "([BIII)I"⟩, prog_21_method_47_code, 4, some .int, [])
def xj_264 : am_I := (⟨"java/lang/StringUTF16", "checkBoundsBeginEnd", "(II[B)V"⟩, prog_21_method_93_code, 3, none, [])
def xj_265 : am_I := (⟨"java/lang/String", "checkBoundsBeginEnd", "(III)V"⟩, prog_19_method_158_code, 3, none, [])
def xj_266 : am_I := (⟨"jdk/internal/util/Preconditions", "checkFromToIndex", "(IIILjava/util/function/BiFunction;)I"⟩, prog_26_method_12_code, 4, some .int, [])
def xj_267 : am_I := (⟨"java/lang/StringUTF16", "indexOfCharUnsafe", "([BIII)I"⟩, prog_21_method_48_code, 5, some .int, [])
def xj_268 : am_I := (⟨"java/lang/StringUTF16", "indexOfSupplementary", "([BIII)I"⟩, prog_21_method_49_code, 7, some .int, [])
def xj_269 : am_I := (⟨"java/lang/Character", "isValidCodePoint", "(I)Z"⟩, prog_10_method_11_code, 2, some .boolean, [])
def xj_270 : am_I := (⟨"java/lang/Character", "highSurrogate", "(I)C"⟩, prog_10_method_28_code, 1, some .char, [])
def xj_271 : am_I := (⟨"java/lang/Character", "lowSurrogate", "(I)C"⟩, prog_10_method_29_code, 1, some .char, [])
def xj_272 : am_I := (⟨"java/lang/Integer", "bitCount", "(I)I"⟩, prog_15_method_49_code, 1, some .int, [])
def xj_273 : am_I := (⟨"java/util/Arrays", "fill", "([JJ)V"⟩, prog_25_method_101_code, 5, none, [])
def xj_274 : am_I := (⟨"java/lang/Long", "bitCount", "(J)I"⟩, prog_16_method_50_code, 2, some .int, [])
def xinf : List (List (Nat × am_I)) := [[(0, xj_0), (1, xj_1), (2, xj_2), (3, xj_3), (4, xj_4), (5, xj_5), (6, xj_6), (7, xj_7), (8, xj_8), (9, xj_9), (10, xj_10), (11, xj_11), (12, xj_12), (13, xj_13), (14, xj_14), (15, xj_15)], [(16, xj_16), (17, xj_17), (18, xj_18), (19, xj_19), (20, xj_20), (21, xj_21), (22, xj_22), (23, xj_23), (24, xj_24), (25, xj_25), (26, xj_26), (27, xj_27), (28, xj_28), (29, xj_29), (30, xj_30), (31, xj_31)], [(32, xj_32), (33, xj_33), (34, xj_34), (35, xj_35), (36, xj_36), (37, xj_37), (38, xj_38), (39, xj_39), (40, xj_40), (41, xj_41), (42, xj_42), (43, xj_43), (44, xj_44), (45, xj_45), (46, xj_46), (47, xj_47)], [(48, xj_48), (49, xj_49), (50, xj_50), (51, xj_51), (52, xj_52), (53, xj_53), (54, xj_54), (55, xj_55), (56, xj_56), (57, xj_57), (58, xj_58), (59, xj_59), (60, xj_60), (61, xj_61), (62, xj_62), (63, xj_63)], [(64, xj_64), (65, xj_65), (66, xj_66), (67, xj_67), (68, xj_68), (69, xj_69), (70, xj_70), (71, xj_71), (72, xj_72), (73, xj_73), (74, xj_74), (75, xj_75), (76, xj_76), (77, xj_77), (78, xj_78), (79, xj_79)], [(80, xj_80), (81, xj_81), (82, xj_82), (83, xj_83), (84, xj_84), (85, xj_85), (86, xj_86), (87, xj_87), (88, xj_88), (89, xj_89), (90, xj_90), (91, xj_91), (92, xj_92), (93, xj_93), (94, xj_94), (95, xj_95)], [(96, xj_96), (97, xj_97), (98, xj_98), (99, xj_99), (100, xj_100), (101, xj_101), (102, xj_102), (103, xj_103), (104, xj_104), (105, xj_105), (106, xj_106), (107, xj_107), (108, xj_108), (109, xj_109), (110, xj_110), (111, xj_111)], [(112, xj_112), (113, xj_113), (114, xj_114), (115, xj_115), (116, xj_116), (117, xj_117), (118, xj_118), (119, xj_119), (120, xj_120), (121, xj_121), (122, xj_122), (123, xj_123), (124, xj_124), (125, xj_125), (126, xj_126), (127, xj_127)], [(128, xj_128), (129, xj_129), (130, xj_130), (131, xj_131), (132, xj_132), (133, xj_133), (134, xj_134), (135, xj_135), (136, xj_136), (137, xj_137), (138, xj_138), (139, xj_139), (140, xj_140), (141, xj_141), (142, xj_142), (143, xj_143)], [(144, xj_144), (145, xj_145), (146, xj_146), (147, xj_147), (148, xj_148), (149, xj_149), (150, xj_150), (151, xj_151), (152, xj_152), (153, xj_153), (154, xj_154), (155, xj_155), (156, xj_156), (157, xj_157), (158, xj_158), (159, xj_159)], [(160, xj_160), (161, xj_161), (162, xj_162), (163, xj_163), (164, xj_164), (165, xj_165), (166, xj_166), (167, xj_167), (168, xj_168), (169, xj_169), (170, xj_170), (171, xj_171), (172, xj_172), (173, xj_173), (174, xj_174), (175, xj_175)], [(176, xj_176), (177, xj_177), (178, xj_178), (179, xj_179), (180, xj_180), (181, xj_181), (182, xj_182), (183, xj_183), (184, xj_184), (185, xj_185), (186, xj_186), (187, xj_187), (188, xj_188), (189, xj_189), (190, xj_190), (191, xj_191)], [(192, xj_192), (193, xj_193), (194, xj_194), (195, xj_195), (196, xj_196), (197, xj_197), (198, xj_198), (199, xj_199), (200, xj_200), (201, xj_201), (202, xj_202), (203, xj_203), (204, xj_204), (205, xj_205), (206, xj_206), (207, xj_207)], [(208, xj_208), (209, xj_209), (210, xj_210), (211, xj_211), (212, xj_212), (213, xj_213), (214, xj_214), (215, xj_215), (216, xj_216), (217, xj_217), (218, xj_218), (219, xj_219), (220, xj_220), (221, xj_221), (222, xj_222), (223, xj_223)], [(224, xj_224), (225, xj_225), (226, xj_226), (227, xj_227), (228, xj_228), (229, xj_229), (230, xj_230), (231, xj_231), (232, xj_232), (233, xj_233), (234, xj_234), (235, xj_235), (236, xj_236), (237, xj_237), (238, xj_238), (239, xj_239)], [(240, xj_240), (241, xj_241), (242, xj_242), (243, xj_243), (244, xj_244), (245, xj_245), (246, xj_246), (247, xj_247), (248, xj_248), (249, xj_249), (250, xj_250), (251, xj_251), (252, xj_252), (253, xj_253), (254, xj_254), (255, xj_255)], [(256, xj_256), (257, xj_257), (258, xj_258), (259, xj_259), (260, xj_260), (261, xj_261), (262, xj_262), (263, xj_263), (264, xj_264), (265, xj_265), (266, xj_266), (267, xj_267), (268, xj_268), (269, xj_269), (270, xj_270), (271, xj_271)], [(272, xj_272), (273, xj_273), (274, xj_274)]]
theorem am_lk_map {α β : Type} (f : α → β) (n : Nat) : ∀ (t : List (Nat × α)), am_lk (t.map (fun q => (q.1, f q.2))) n = (am_lk t n).map f
  | [] => rfl
  | (k, v) :: t => by
    show cond (Nat.beq k n) (some (f v)) (am_lk (t.map (fun q => (q.1, f q.2))) n) = (cond (Nat.beq k n) (some v) (am_lk t n)).map f
    rw [am_lk_map f n t]
    cases Nat.beq k n <;> rfl
theorem am_lk2_map {α β : Type} (f : α → β) (n : Nat) (t : List (List (Nat × α))) : am_lk2 (t.map (fun l => l.map (fun q => (q.1, f q.2)))) n = (am_lk2 t n).map f := by
  unfold am_lk2
  rw [← am_lk_map]
  congr 1
  rw [List.getD_eq_getElem?_getD, List.getD_eq_getElem?_getD, List.getElem?_map]
  cases t[n / 16]? <;> rfl
theorem xJ_0 : am_inf (xm_0) = xj_0 := rfl
theorem xJ_1 : am_inf (xm_1) = xj_1 := rfl
theorem xJ_2 : am_inf (xm_2) = xj_2 := rfl
theorem xJ_3 : am_inf (xm_3) = xj_3 := rfl
theorem xJ_4 : am_inf (xm_4) = xj_4 := rfl
theorem xJ_5 : am_inf (xm_5) = xj_5 := rfl
theorem xJ_6 : am_inf (xm_6) = xj_6 := rfl
theorem xJ_7 : am_inf (xm_7) = xj_7 := rfl
theorem xJ_8 : am_inf (xm_8) = xj_8 := rfl
theorem xJ_9 : am_inf (xm_9) = xj_9 := rfl
theorem xJ_10 : am_inf (xm_10) = xj_10 := rfl
theorem xJ_11 : am_inf (xm_11) = xj_11 := rfl
theorem xJ_12 : am_inf (xm_12) = xj_12 := rfl
theorem xJ_13 : am_inf (xm_13) = xj_13 := rfl
theorem xJ_14 : am_inf (xm_14) = xj_14 := rfl
theorem xJ_15 : am_inf (xm_15) = xj_15 := rfl
theorem xJ_16 : am_inf (xm_16) = xj_16 := rfl
theorem xJ_17 : am_inf (xm_17) = xj_17 := rfl
theorem xJ_18 : am_inf (xm_18) = xj_18 := rfl
theorem xJ_19 : am_inf (xm_19) = xj_19 := rfl
theorem xJ_20 : am_inf (xm_20) = xj_20 := rfl
theorem xJ_21 : am_inf (xm_21) = xj_21 := rfl
theorem xJ_22 : am_inf (xm_22) = xj_22 := rfl
theorem xJ_23 : am_inf (xm_23) = xj_23 := rfl
theorem xJ_24 : am_inf (xm_24) = xj_24 := rfl
theorem xJ_25 : am_inf (xm_25) = xj_25 := rfl
theorem xJ_26 : am_inf (xm_26) = xj_26 := rfl
theorem xJ_27 : am_inf (xm_27) = xj_27 := rfl
theorem xJ_28 : am_inf (xm_28) = xj_28 := rfl
theorem xJ_29 : am_inf (xm_29) = xj_29 := rfl
theorem xJ_30 : am_inf (xm_30) = xj_30 := rfl
theorem xJ_31 : am_inf (xm_31) = xj_31 := rfl
theorem xJ_32 : am_inf (xm_32) = xj_32 := rfl
theorem xJ_33 : am_inf (xm_33) = xj_33 := rfl
theorem xJ_34 : am_inf (xm_34) = xj_34 := rfl
theorem xJ_35 : am_inf (xm_35) = xj_35 := rfl
theorem xJ_36 : am_inf (xm_36) = xj_36 := rfl
theorem xJ_37 : am_inf (xm_37) = xj_37 := rfl
theorem xJ_38 : am_inf (xm_38) = xj_38 := rfl
theorem xJ_39 : am_inf (xm_39) = xj_39 := rfl
theorem xJ_40 : am_inf (xm_40) = xj_40 := rfl
theorem xJ_41 : am_inf (xm_41) = xj_41 := rfl
theorem xJ_42 : am_inf (xm_42) = xj_42 := rfl
theorem xJ_43 : am_inf (xm_43) = xj_43 := rfl
theorem xJ_44 : am_inf (xm_44) = xj_44 := rfl
theorem xJ_45 : am_inf (xm_45) = xj_45 := rfl
theorem xJ_46 : am_inf (xm_46) = xj_46 := rfl
theorem xJ_47 : am_inf (xm_47) = xj_47 := rfl
theorem xJ_48 : am_inf (xm_48) = xj_48 := rfl
theorem xJ_49 : am_inf (xm_49) = xj_49 := rfl
theorem xJ_50 : am_inf (xm_50) = xj_50 := rfl
theorem xJ_51 : am_inf (xm_51) = xj_51 := rfl
theorem xJ_52 : am_inf (xm_52) = xj_52 := rfl
theorem xJ_53 : am_inf (xm_53) = xj_53 := rfl
theorem xJ_54 : am_inf (xm_54) = xj_54 := rfl
theorem xJ_55 : am_inf (xm_55) = xj_55 := rfl
theorem xJ_56 : am_inf (xm_56) = xj_56 := rfl
theorem xJ_57 : am_inf (xm_57) = xj_57 := rfl
theorem xJ_58 : am_inf (xm_58) = xj_58 := rfl
theorem xJ_59 : am_inf (xm_59) = xj_59 := rfl
theorem xJ_60 : am_inf (xm_60) = xj_60 := rfl
theorem xJ_61 : am_inf (xm_61) = xj_61 := rfl
theorem xJ_62 : am_inf (xm_62) = xj_62 := rfl
theorem xJ_63 : am_inf (xm_63) = xj_63 := rfl
theorem xJ_64 : am_inf (xm_64) = xj_64 := rfl
theorem xJ_65 : am_inf (xm_65) = xj_65 := rfl
theorem xJ_66 : am_inf (xm_66) = xj_66 := rfl
theorem xJ_67 : am_inf (xm_67) = xj_67 := rfl
theorem xJ_68 : am_inf (xm_68) = xj_68 := rfl
theorem xJ_69 : am_inf (xm_69) = xj_69 := rfl
theorem xJ_70 : am_inf (xm_70) = xj_70 := rfl
theorem xJ_71 : am_inf (xm_71) = xj_71 := rfl
theorem xJ_72 : am_inf (xm_72) = xj_72 := rfl
theorem xJ_73 : am_inf (xm_73) = xj_73 := rfl
theorem xJ_74 : am_inf (xm_74) = xj_74 := rfl
theorem xJ_75 : am_inf (xm_75) = xj_75 := rfl
theorem xJ_76 : am_inf (xm_76) = xj_76 := rfl
theorem xJ_77 : am_inf (xm_77) = xj_77 := rfl
theorem xJ_78 : am_inf (xm_78) = xj_78 := rfl
theorem xJ_79 : am_inf (xm_79) = xj_79 := rfl
theorem xJ_80 : am_inf (xm_80) = xj_80 := rfl
theorem xJ_81 : am_inf (xm_81) = xj_81 := rfl
theorem xJ_82 : am_inf (xm_82) = xj_82 := rfl
theorem xJ_83 : am_inf (xm_83) = xj_83 := rfl
theorem xJ_84 : am_inf (xm_84) = xj_84 := rfl
theorem xJ_85 : am_inf (xm_85) = xj_85 := rfl
theorem xJ_86 : am_inf (xm_86) = xj_86 := rfl
theorem xJ_87 : am_inf (xm_87) = xj_87 := rfl
theorem xJ_88 : am_inf (xm_88) = xj_88 := rfl
theorem xJ_89 : am_inf (xm_89) = xj_89 := rfl
theorem xJ_90 : am_inf (xm_90) = xj_90 := rfl
theorem xJ_91 : am_inf (xm_91) = xj_91 := rfl
theorem xJ_92 : am_inf (xm_92) = xj_92 := rfl
theorem xJ_93 : am_inf (xm_93) = xj_93 := rfl
theorem xJ_94 : am_inf (xm_94) = xj_94 := rfl
theorem xJ_95 : am_inf (xm_95) = xj_95 := rfl
theorem xJ_96 : am_inf (xm_96) = xj_96 := rfl
theorem xJ_97 : am_inf (xm_97) = xj_97 := rfl
theorem xJ_98 : am_inf (xm_98) = xj_98 := rfl
theorem xJ_99 : am_inf (xm_99) = xj_99 := rfl
theorem xJ_100 : am_inf (xm_100) = xj_100 := rfl
theorem xJ_101 : am_inf (xm_101) = xj_101 := rfl
theorem xJ_102 : am_inf (xm_102) = xj_102 := rfl
theorem xJ_103 : am_inf (xm_103) = xj_103 := rfl
theorem xJ_104 : am_inf (xm_104) = xj_104 := rfl
theorem xJ_105 : am_inf (xm_105) = xj_105 := rfl
theorem xJ_106 : am_inf (xm_106) = xj_106 := rfl
theorem xJ_107 : am_inf (xm_107) = xj_107 := rfl
theorem xJ_108 : am_inf (xm_108) = xj_108 := rfl
theorem xJ_109 : am_inf (xm_109) = xj_109 := rfl
theorem xJ_110 : am_inf (xm_110) = xj_110 := rfl
theorem xJ_111 : am_inf (xm_111) = xj_111 := rfl
theorem xJ_112 : am_inf (xm_112) = xj_112 := rfl
theorem xJ_113 : am_inf (xm_113) = xj_113 := rfl
theorem xJ_114 : am_inf (xm_114) = xj_114 := rfl
theorem xJ_115 : am_inf (xm_115) = xj_115 := rfl
theorem xJ_116 : am_inf (xm_116) = xj_116 := rfl
theorem xJ_117 : am_inf (xm_117) = xj_117 := rfl
theorem xJ_118 : am_inf (xm_118) = xj_118 := rfl
theorem xJ_119 : am_inf (xm_119) = xj_119 := rfl
theorem xJ_120 : am_inf (xm_120) = xj_120 := rfl
theorem xJ_121 : am_inf (xm_121) = xj_121 := rfl
theorem xJ_122 : am_inf (xm_122) = xj_122 := rfl
theorem xJ_123 : am_inf (xm_123) = xj_123 := rfl
theorem xJ_124 : am_inf (xm_124) = xj_124 := rfl
theorem xJ_125 : am_inf (xm_125) = xj_125 := rfl
theorem xJ_126 : am_inf (xm_126) = xj_126 := rfl
theorem xJ_127 : am_inf (xm_127) = xj_127 := rfl
theorem xJ_128 : am_inf (xm_128) = xj_128 := rfl
theorem xJ_129 : am_inf (xm_129) = xj_129 := rfl
theorem xJ_130 : am_inf (xm_130) = xj_130 := rfl
theorem xJ_131 : am_inf (xm_131) = xj_131 := rfl
theorem xJ_132 : am_inf (xm_132) = xj_132 := rfl
theorem xJ_133 : am_inf (xm_133) = xj_133 := rfl
theorem xJ_134 : am_inf (xm_134) = xj_134 := rfl
theorem xJ_135 : am_inf (xm_135) = xj_135 := rfl
theorem xJ_136 : am_inf (xm_136) = xj_136 := rfl
theorem xJ_137 : am_inf (xm_137) = xj_137 := rfl
theorem xJ_138 : am_inf (xm_138) = xj_138 := rfl
theorem xJ_139 : am_inf (xm_139) = xj_139 := rfl
theorem xJ_140 : am_inf (xm_140) = xj_140 := rfl
theorem xJ_141 : am_inf (xm_141) = xj_141 := rfl
theorem xJ_142 : am_inf (xm_142) = xj_142 := rfl
theorem xJ_143 : am_inf (xm_143) = xj_143 := rfl
theorem xJ_144 : am_inf (xm_144) = xj_144 := rfl
theorem xJ_145 : am_inf (xm_145) = xj_145 := rfl
theorem xJ_146 : am_inf (xm_146) = xj_146 := rfl
theorem xJ_147 : am_inf (xm_147) = xj_147 := rfl
theorem xJ_148 : am_inf (xm_148) = xj_148 := rfl
theorem xJ_149 : am_inf (xm_149) = xj_149 := rfl
theorem xJ_150 : am_inf (xm_150) = xj_150 := rfl
theorem xJ_151 : am_inf (xm_151) = xj_151 := rfl
theorem xJ_152 : am_inf (xm_152) = xj_152 := rfl
theorem xJ_153 : am_inf (xm_153) = xj_153 := rfl
theorem xJ_154 : am_inf (xm_154) = xj_154 := rfl
theorem xJ_155 : am_inf (xm_155) = xj_155 := rfl
theorem xJ_156 : am_inf (xm_156) = xj_156 := rfl
theorem xJ_157 : am_inf (xm_157) = xj_157 := rfl
theorem xJ_158 : am_inf (xm_158) = xj_158 := rfl
theorem xJ_159 : am_inf (xm_159) = xj_159 := rfl
theorem xJ_160 : am_inf (xm_160) = xj_160 := rfl
theorem xJ_161 : am_inf (xm_161) = xj_161 := rfl
theorem xJ_162 : am_inf (xm_162) = xj_162 := rfl
theorem xJ_163 : am_inf (xm_163) = xj_163 := rfl
theorem xJ_164 : am_inf (xm_164) = xj_164 := rfl
theorem xJ_165 : am_inf (xm_165) = xj_165 := rfl
theorem xJ_166 : am_inf (xm_166) = xj_166 := rfl
theorem xJ_167 : am_inf (xm_167) = xj_167 := rfl
theorem xJ_168 : am_inf (xm_168) = xj_168 := rfl
theorem xJ_169 : am_inf (xm_169) = xj_169 := rfl
theorem xJ_170 : am_inf (xm_170) = xj_170 := rfl
theorem xJ_171 : am_inf (xm_171) = xj_171 := rfl
theorem xJ_172 : am_inf (xm_172) = xj_172 := rfl
theorem xJ_173 : am_inf (xm_173) = xj_173 := rfl
theorem xJ_174 : am_inf (xm_174) = xj_174 := rfl
theorem xJ_175 : am_inf (xm_175) = xj_175 := rfl
theorem xJ_176 : am_inf (xm_176) = xj_176 := rfl
theorem xJ_177 : am_inf (xm_177) = xj_177 := rfl
theorem xJ_178 : am_inf (xm_178) = xj_178 := rfl
theorem xJ_179 : am_inf (xm_179) = xj_179 := rfl
theorem xJ_180 : am_inf (xm_180) = xj_180 := rfl
theorem xJ_181 : am_inf (xm_181) = xj_181 := rfl
theorem xJ_182 : am_inf (xm_182) = xj_182 := rfl
theorem xJ_183 : am_inf (xm_183) = xj_183 := rfl
theorem xJ_184 : am_inf (xm_184) = xj_184 := rfl
theorem xJ_185 : am_inf (xm_185) = xj_185 := rfl
theorem xJ_186 : am_inf (xm_186) = xj_186 := rfl
theorem xJ_187 : am_inf (xm_187) = xj_187 := rfl
theorem xJ_188 : am_inf (xm_188) = xj_188 := rfl
theorem xJ_189 : am_inf (xm_189) = xj_189 := rfl
theorem xJ_190 : am_inf (xm_190) = xj_190 := rfl
theorem xJ_191 : am_inf (xm_191) = xj_191 := rfl
theorem xJ_192 : am_inf (xm_192) = xj_192 := rfl
theorem xJ_193 : am_inf (xm_193) = xj_193 := rfl
theorem xJ_194 : am_inf (xm_194) = xj_194 := rfl
theorem xJ_195 : am_inf (xm_195) = xj_195 := rfl
theorem xJ_196 : am_inf (xm_196) = xj_196 := rfl
theorem xJ_197 : am_inf (xm_197) = xj_197 := rfl
theorem xJ_198 : am_inf (xm_198) = xj_198 := rfl
theorem xJ_199 : am_inf (xm_199) = xj_199 := rfl
theorem xJ_200 : am_inf (xm_200) = xj_200 := rfl
theorem xJ_201 : am_inf (xm_201) = xj_201 := rfl
theorem xJ_202 : am_inf (xm_202) = xj_202 := rfl
theorem xJ_203 : am_inf (xm_203) = xj_203 := rfl
theorem xJ_204 : am_inf (xm_204) = xj_204 := rfl
theorem xJ_205 : am_inf (xm_205) = xj_205 := rfl
theorem xJ_206 : am_inf (xm_206) = xj_206 := rfl
theorem xJ_207 : am_inf (xm_207) = xj_207 := rfl
theorem xJ_208 : am_inf (xm_208) = xj_208 := rfl
theorem xJ_209 : am_inf (xm_209) = xj_209 := rfl
theorem xJ_210 : am_inf (xm_210) = xj_210 := rfl
theorem xJ_211 : am_inf (xm_211) = xj_211 := rfl
theorem xJ_212 : am_inf (xm_212) = xj_212 := rfl
theorem xJ_213 : am_inf (xm_213) = xj_213 := rfl
theorem xJ_214 : am_inf (xm_214) = xj_214 := rfl
theorem xJ_215 : am_inf (xm_215) = xj_215 := rfl
theorem xJ_216 : am_inf (xm_216) = xj_216 := rfl
theorem xJ_217 : am_inf (xm_217) = xj_217 := rfl
theorem xJ_218 : am_inf (xm_218) = xj_218 := rfl
theorem xJ_219 : am_inf (xm_219) = xj_219 := rfl
theorem xJ_220 : am_inf (xm_220) = xj_220 := rfl
theorem xJ_221 : am_inf (xm_221) = xj_221 := rfl
theorem xJ_222 : am_inf (xm_222) = xj_222 := rfl
theorem xJ_223 : am_inf (xm_223) = xj_223 := rfl
theorem xJ_224 : am_inf (xm_224) = xj_224 := rfl
theorem xJ_225 : am_inf (xm_225) = xj_225 := rfl
theorem xJ_226 : am_inf (xm_226) = xj_226 := rfl
theorem xJ_227 : am_inf (xm_227) = xj_227 := rfl
theorem xJ_228 : am_inf (xm_228) = xj_228 := rfl
theorem xJ_229 : am_inf (xm_229) = xj_229 := rfl
theorem xJ_230 : am_inf (xm_230) = xj_230 := rfl
theorem xJ_231 : am_inf (xm_231) = xj_231 := rfl
theorem xJ_232 : am_inf (xm_232) = xj_232 := rfl
theorem xJ_233 : am_inf (xm_233) = xj_233 := rfl
theorem xJ_234 : am_inf (xm_234) = xj_234 := rfl
theorem xJ_235 : am_inf (xm_235) = xj_235 := rfl
theorem xJ_236 : am_inf (xm_236) = xj_236 := rfl
theorem xJ_237 : am_inf (xm_237) = xj_237 := rfl
theorem xJ_238 : am_inf (xm_238) = xj_238 := rfl
theorem xJ_239 : am_inf (xm_239) = xj_239 := rfl
theorem xJ_240 : am_inf (xm_240) = xj_240 := rfl
theorem xJ_241 : am_inf (xm_241) = xj_241 := rfl
theorem xJ_242 : am_inf (xm_242) = xj_242 := rfl
theorem xJ_243 : am_inf (xm_243) = xj_243 := rfl
theorem xJ_244 : am_inf (xm_244) = xj_244 := rfl
theorem xJ_245 : am_inf (xm_245) = xj_245 := rfl
theorem xJ_246 (vz : Value) : am_inf (xm_246 vz) = xj_246 := rfl
theorem xJ_247 (vz : Value) : am_inf (xm_247 vz) = xj_247 := rfl
theorem xJ_248 (vz : Value) : am_inf (xm_248 vz) = xj_248 := rfl
theorem xJ_249 (vz : Value) : am_inf (xm_249 vz) = xj_249 := rfl
theorem xJ_250 : am_inf (xm_250) = xj_250 := rfl
theorem xJ_251 (vz : Value) : am_inf (xm_251 vz) = xj_251 := rfl
theorem xJ_252 : am_inf (xm_252) = xj_252 := rfl
theorem xJ_253 : am_inf (xm_253) = xj_253 := rfl
theorem xJ_254 : am_inf (xm_254) = xj_254 := rfl
theorem xJ_255 : am_inf (xm_255) = xj_255 := rfl
theorem xJ_256 : am_inf (xm_256) = xj_256 := rfl
theorem xJ_257 (vz : Value) : am_inf (xm_257 vz) = xj_257 := rfl
theorem xJ_258 (vz : Value) : am_inf (xm_258 vz) = xj_258 := rfl
theorem xJ_259 : am_inf (xm_259) = xj_259 := rfl
theorem xJ_260 : am_inf (xm_260) = xj_260 := rfl
theorem xJ_261 : am_inf (xm_261) = xj_261 := rfl
theorem xJ_262 : am_inf (xm_262) = xj_262 := rfl
theorem xJ_263 : am_inf (xm_263) = xj_263 := rfl
theorem xJ_264 : am_inf (xm_264) = xj_264 := rfl
theorem xJ_265 (vz : Value) : am_inf (xm_265 vz) = xj_265 := rfl
theorem xJ_266 : am_inf (xm_266) = xj_266 := rfl
theorem xJ_267 : am_inf (xm_267) = xj_267 := rfl
theorem xJ_268 : am_inf (xm_268) = xj_268 := rfl
theorem xJ_269 : am_inf (xm_269) = xj_269 := rfl
theorem xJ_270 : am_inf (xm_270) = xj_270 := rfl
theorem xJ_271 : am_inf (xm_271) = xj_271 := rfl
theorem xJ_272 : am_inf (xm_272) = xj_272 := rfl
theorem xJ_273 : am_inf (xm_273) = xj_273 := rfl
theorem xJ_274 : am_inf (xm_274) = xj_274 := rfl
theorem xinf_eq (vz : Value) : (xms vz).map (fun l => l.map (fun q => (q.1, am_inf q.2))) = xinf := by
  simp only [xms, xinf, List.map_cons, List.map_nil, xJ_0, xJ_1, xJ_2, xJ_3, xJ_4, xJ_5, xJ_6, xJ_7, xJ_8, xJ_9, xJ_10, xJ_11, xJ_12, xJ_13, xJ_14, xJ_15, xJ_16, xJ_17, xJ_18, xJ_19, xJ_20, xJ_21, xJ_22, xJ_23, xJ_24, xJ_25, xJ_26, xJ_27, xJ_28, xJ_29, xJ_30, xJ_31, xJ_32, xJ_33, xJ_34, xJ_35, xJ_36, xJ_37, xJ_38, xJ_39, xJ_40, xJ_41, xJ_42, xJ_43, xJ_44, xJ_45, xJ_46, xJ_47, xJ_48, xJ_49, xJ_50, xJ_51, xJ_52, xJ_53, xJ_54, xJ_55, xJ_56, xJ_57, xJ_58, xJ_59, xJ_60, xJ_61, xJ_62, xJ_63, xJ_64, xJ_65, xJ_66, xJ_67, xJ_68, xJ_69, xJ_70, xJ_71, xJ_72, xJ_73, xJ_74, xJ_75, xJ_76, xJ_77, xJ_78, xJ_79, xJ_80, xJ_81, xJ_82, xJ_83, xJ_84, xJ_85, xJ_86, xJ_87, xJ_88, xJ_89, xJ_90, xJ_91, xJ_92, xJ_93, xJ_94, xJ_95, xJ_96, xJ_97, xJ_98, xJ_99, xJ_100, xJ_101, xJ_102, xJ_103, xJ_104, xJ_105, xJ_106, xJ_107, xJ_108, xJ_109, xJ_110, xJ_111, xJ_112, xJ_113, xJ_114, xJ_115, xJ_116, xJ_117, xJ_118, xJ_119, xJ_120, xJ_121, xJ_122, xJ_123, xJ_124, xJ_125, xJ_126, xJ_127, xJ_128, xJ_129, xJ_130, xJ_131, xJ_132, xJ_133, xJ_134, xJ_135, xJ_136, xJ_137, xJ_138, xJ_139, xJ_140, xJ_141, xJ_142, xJ_143, xJ_144, xJ_145, xJ_146, xJ_147, xJ_148, xJ_149, xJ_150, xJ_151, xJ_152, xJ_153, xJ_154, xJ_155, xJ_156, xJ_157, xJ_158, xJ_159, xJ_160, xJ_161, xJ_162, xJ_163, xJ_164, xJ_165, xJ_166, xJ_167, xJ_168, xJ_169, xJ_170, xJ_171, xJ_172, xJ_173, xJ_174, xJ_175, xJ_176, xJ_177, xJ_178, xJ_179, xJ_180, xJ_181, xJ_182, xJ_183, xJ_184, xJ_185, xJ_186, xJ_187, xJ_188, xJ_189, xJ_190, xJ_191, xJ_192, xJ_193, xJ_194, xJ_195, xJ_196, xJ_197, xJ_198, xJ_199, xJ_200, xJ_201, xJ_202, xJ_203, xJ_204, xJ_205, xJ_206, xJ_207, xJ_208, xJ_209, xJ_210, xJ_211, xJ_212, xJ_213, xJ_214, xJ_215, xJ_216, xJ_217, xJ_218, xJ_219, xJ_220, xJ_221, xJ_222, xJ_223, xJ_224, xJ_225, xJ_226, xJ_227, xJ_228, xJ_229, xJ_230, xJ_231, xJ_232, xJ_233, xJ_234, xJ_235, xJ_236, xJ_237, xJ_238, xJ_239, xJ_240, xJ_241, xJ_242, xJ_243, xJ_244, xJ_245, xJ_246, xJ_247, xJ_248, xJ_249, xJ_250, xJ_251, xJ_252, xJ_253, xJ_254, xJ_255, xJ_256, xJ_257, xJ_258, xJ_259, xJ_260, xJ_261, xJ_262, xJ_263, xJ_264, xJ_265, xJ_266, xJ_267, xJ_268, xJ_269, xJ_270, xJ_271, xJ_272, xJ_273, xJ_274]
theorem xinf_ok {vz : Value} {mi : Nat} {M : am_M} (h : xMT vz mi = some M) : am_lk2 xinf mi = some (am_inf M) := by
  rw [← xinf_eq vz, am_lk2_map]
  unfold xMT at h
  rw [h]
  rfl
def ck_wd (I : am_I) : Cond := match I.2.2.2.2 with
  | [] => .code I.1 I.2.1 I.2.2.1 I.2.2.2.1
  | hh => .codeWith I.1 I.2.1 I.2.2.1 I.2.2.2.1 hh
def ck_co (I : am_I) : Bool := plainName I.1.cls && (ck_in (ck_wd I) && (ck_in (.initialized I.1.cls) && ((decide (I.1.cls ≠ "java/lang/invoke/MethodHandle") && decide (I.1.cls ≠ "java/lang/invoke/VarHandle")) && decide (I.2.2.1 ≤ 45))))
theorem ck_co_ok {M : am_M} (h : ck_co (am_inf M) = true) : am_COk xTs M := by
  simp only [ck_co, Bool.and_eq_true, decide_eq_true_eq] at h
  exact ⟨h.1, ck_in_ok h.2.1, ck_in_ok h.2.2.1, h.2.2.2.1, h.2.2.2.2⟩
def ck_np (I : am_I) : Option Nat := (parseMethodDescriptor I.1.desc).map (fun d => d.parameters.length)
def ck_C (own : String) (q : Nat × Nat × Nat × Nat × Option String × Nat) : Bool :=
  if q.2.1 = 4 then ck_in (.methodLink own q.1 arraycopyName) && (ck_in (.native arraycopyName) && (ck_in (.static arraycopyName) && ck_in (.initialized "java/lang/System")))
  else (match am_lk2 xinf q.2.2.1 with
    | none => true
    | some I => ck_co I && ((match q.2.2.2.2.1 with
      | none => ck_in (.methodLink own q.1 I.1)
      | some host => ck_nk (.methodLinkNest own q.1 I.1 host) && I.2.2.2.2.isEmpty) &&
      (match q.2.1 with
        | 0 => ck_in (.static I.1) && decide (ck_np I = some q.2.2.2.1)
        | 1 => I.2.2.2.2.isEmpty && (decide (I.1.name = "<init>") && (decide (I.2.2.2.1 = none) && (ck_in (.instanceMethod I.1) && decide ((parseMethodDescriptor I.1.desc).map (fun d => d.parameters.length + 1) = some q.2.2.2.1))))
        | 2 => I.2.2.2.2.isEmpty && (ck_in (.instanceMethod I.1) && (ck_in (.selects I.1.cls I.1 I.1) && ((match xcl[q.2.2.2.2.2]? with
          | some r => decide (r.1 = I.1.cls)
          | none => false) && decide ((parseMethodDescriptor I.1.desc).map (fun d => d.parameters.length + 1) = some q.2.2.2.1))))
        | 3 => I.2.2.2.2.isEmpty && (ck_in (.instanceMethod I.1) && (ck_in (.selects I.1.cls I.1 I.1) && decide ((parseMethodDescriptor I.1.desc).map (fun d => d.parameters.length + 1) = some q.2.2.2.1)))
        | _ => false)))
theorem ck_C_ok {vz : Value} {M : am_M} {l : List (Nat × Nat × Nat × Nat × Option String × Nat)} (h : l.all (ck_C (am_y M).cls) = true) (hm : am_mC M = am_lk l) : am_CtOk (xMT vz) xcl xTs xTw M ∧ ∀ mi' ix k na rc host M', am_mC M ix = some (k, mi', na, some host, rc) → k ≠ 4 → xMT vz mi' = some M' → am_mT M' = [] := by
  have key : ∀ ix k mi n hh rc, am_mC M ix = some (k, mi, n, hh, rc) → ck_C (am_y M).cls (ix, k, mi, n, hh, rc) = true := fun ix k mi n hh rc hc => List.all_eq_true.mp h _ (am_lk_mem (by rw [← hm]; exact hc))
  constructor
  · intro ix k mi n hh rc hc
    have h1 := key _ _ _ _ _ _ hc
    unfold ck_C at h1
    refine ⟨fun hk => ?_, fun hk M' hM' => ?_⟩
    · rw [if_pos hk] at h1
      simp only [Bool.and_eq_true] at h1
      exact ⟨ck_in_ok h1.1, ck_in_ok h1.2.1, ck_in_ok h1.2.2.1, ck_in_ok h1.2.2.2⟩
    · rw [if_neg hk] at h1
      have hI := xinf_ok hM'
      simp only [hI] at h1
      rw [Bool.and_eq_true, Bool.and_eq_true] at h1
      obtain ⟨h2, h3, h4⟩ := h1
      refine ⟨ck_co_ok h2, ?_, ?_, ?_, ?_, ?_⟩
      · cases hh with
        | none => exact ck_in_ok h3
        | some host =>
          simp only [Bool.and_eq_true] at h3
          exact ck_nk_ok h3.1
      · intro hk
        subst hk
        simp only [Bool.and_eq_true, decide_eq_true_eq] at h4
        exact ⟨ck_in_ok h4.1, h4.2⟩
      · intro hk
        subst hk
        simp only [Bool.and_eq_true, decide_eq_true_eq, List.isEmpty_iff] at h4
        exact ⟨h4.1, h4.2.1, h4.2.2.1, ck_in_ok h4.2.2.2.1, h4.2.2.2.2⟩
      · intro hk
        subst hk
        simp only [Bool.and_eq_true, decide_eq_true_eq, List.isEmpty_iff] at h4
        obtain ⟨a1, a2, a3, a4, a5⟩ := h4
        refine ⟨a1, ck_in_ok a2, ck_in_ok a3, ?_, a5⟩
        split at a4
        · next r e1 =>
          obtain ⟨C, T, N⟩ := r
          have a4 : C = (am_y M').cls := of_decide_eq_true a4
          subst a4
          exact ⟨T, N, e1⟩
        · cases a4
      · intro hk
        subst hk
        simp only [Bool.and_eq_true, decide_eq_true_eq, List.isEmpty_iff] at h4
        exact ⟨h4.1, ck_in_ok h4.2.1, ck_in_ok h4.2.2.1, h4.2.2.2⟩
  · intro mi' ix k na rc host M' hc hk hM'
    have h1 := key _ _ _ _ _ _ hc
    unfold ck_C at h1
    rw [if_neg hk] at h1
    have hI := xinf_ok hM'
    simp only [hI] at h1
    rw [Bool.and_eq_true, Bool.and_eq_true] at h1
    have h3 := h1.2.1
    simp only [Bool.and_eq_true, List.isEmpty_iff] at h3
    exact h3.2
