/-! TABLES: calls, how they are checked. -/
def xtb (b : Nat) : List Cond := match b with
  | 1 => tables_1_1
  | 2 => tables_1_2
  | 3 => tables_1_3
  | 4 => tables_1_4
  | 5 => tables_1_5
  | 6 => tables_1_6
  | 7 => tables_1_7
  | 8 => tables_1_8
  | 11 => k2_sels lw_privs_1
  | 12 => k2_sels lw_privs_2
  | 13 => k2_sels lw_privs_3
  | 14 => k2_sels lw_privs_4
  | 15 => k2_sels lw_privs_5
  | 16 => k2_sels lw_privs_6
  | 17 => k2_sels lw_privs_7
  | 18 => k2_sels lw_privs_8
  | 19 => k2_sels lw_privs_9
  | _ => []
theorem xtb_t {w : Cond} (h : w ∈ tables_1_1 ∨ w ∈ tables_1_2 ∨ w ∈ tables_1_3 ∨ w ∈ tables_1_4 ∨ w ∈ tables_1_5 ∨ w ∈ tables_1_6 ∨ w ∈ tables_1_7 ∨ w ∈ tables_1_8) : w ∈ lw_tbl := by
  refine List.mem_append_right _ ?_
  simp only [tables_1, List.mem_append]
  exact h
theorem xtb_p {w : Cond} {j : List (MethodName × Nat)} (hj : ∀ q ∈ j, q ∈ lw_privs) (h : w ∈ k2_sels j) : w ∈ lw_tbl := by
  refine List.mem_append_left _ ?_
  obtain ⟨q, hq, rfl⟩ := List.mem_map.mp h
  exact List.mem_map.mpr ⟨q, hj q hq, rfl⟩
theorem xtb_ok {b : Nat} {w : Cond} (h : w ∈ xtb b) : w ∈ lw_tbl := by
  unfold xtb at h
  split at h
  · exact xtb_t (by simp only [h, true_or, or_true])
  · exact xtb_t (by simp only [h, true_or, or_true])
  · exact xtb_t (by simp only [h, true_or, or_true])
  · exact xtb_t (by simp only [h, true_or, or_true])
  · exact xtb_t (by simp only [h, true_or, or_true])
  · exact xtb_t (by simp only [h, true_or, or_true])
  · exact xtb_t (by simp only [h, true_or, or_true])
  · exact xtb_t (by simp only [h, true_or, or_true])
  · exact xtb_p (fun q hq => by simp only [lw_privs, List.mem_append, hq, true_or, or_true]) h
  · exact xtb_p (fun q hq => by simp only [lw_privs, List.mem_append, hq, true_or, or_true]) h
  · exact xtb_p (fun q hq => by simp only [lw_privs, List.mem_append, hq, true_or, or_true]) h
  · exact xtb_p (fun q hq => by simp only [lw_privs, List.mem_append, hq, true_or, or_true]) h
  · exact xtb_p (fun q hq => by simp only [lw_privs, List.mem_append, hq, true_or, or_true]) h
  · exact xtb_p (fun q hq => by simp only [lw_privs, List.mem_append, hq, true_or, or_true]) h
  · exact xtb_p (fun q hq => by simp only [lw_privs, List.mem_append, hq, true_or, or_true]) h
  · exact xtb_p (fun q hq => by simp only [lw_privs, List.mem_append, hq, true_or, or_true]) h
  · exact xtb_p (fun q hq => by simp only [lw_privs, List.mem_append, hq, true_or, or_true]) h
  · cases h
def ck_at (b : Nat × Nat) (w : Cond) : Bool := decide ((xtb b.1)[b.2]? = some w) && goodWord w
theorem ck_at_ok {b : Nat × Nat} {w : Cond} (h : ck_at b w = true) : w ∈ xTs := by
  simp only [ck_at, Bool.and_eq_true, decide_eq_true_eq] at h
  exact List.mem_filter.mpr ⟨xtb_ok (List.mem_of_getElem? h.1), h.2⟩
abbrev am_I : Type := MethodName × ByteArray × Nat × Option FieldType × List (Nat × Nat × Nat × Nat)
def am_inf (M : am_M) : am_I := (am_y M, am_b M, am_n M, am_r M, am_mT M)
def xj_0 : am_I := (⟨"RelationFinderLaw", "law", "([I)Z"⟩, code, 7, some .boolean, [])
def xj_1 : am_I := (⟨"RelationFinderLaw", "cell", "([II)I"⟩, method_2_code, 2, some .int, [])
def xj_2 : am_I := (⟨"RelationFinderLaw", "feed", "(LRelationFinder;JI[J)I"⟩, method_3_code, 6, some .int, [(0, 11, 14, 13), (0, 11, 18, 15)])
def xj_3 : am_I := (⟨"RelationFinderLaw", "relation", "(LRelationFinder;JI[J)I"⟩, method_4_code, 6, some .int, [(0, 11, 14, 13), (0, 11, 18, 15)])
def xj_4 : am_I := (⟨"RelationFinderLaw", "bound", "(LRelationFinder;III[J)I"⟩, method_5_code, 6, some .int, [(0, 12, 15, 24), (0, 12, 19, 13), (0, 12, 23, 15)])
def xj_5 : am_I := (⟨"RelationFinderLaw", "fact", "(LRelationFinder;[J)I"⟩, method_6_code, 3, some .int, [(0, 8, 11, 15)])
def xj_6 : am_I := (⟨"RelationFinderLaw", "back", "(LRelationFinder;[J)I"⟩, method_7_code, 3, some .int, [(0, 8, 11, 33)])
def xj_7 : am_I := (⟨"RelationFinderLaw", "next", "(LRelationFinder;[J)I"⟩, method_8_code, 3, some .int, [(0, 8, 11, 33)])
def xj_8 : am_I := (⟨"RelationFinderLaw", "check", "(LRelationFinder;[J)I"⟩, method_9_code, 3, some .int, [(0, 8, 11, 33)])
def xj_9 : am_I := (⟨"RelationFinderLaw", "has", "(LRelationFinder;II[J)I"⟩, method_10_code, 5, some .int, [(0, 17, 20, 24), (0, 17, 24, 33)])
def xj_10 : am_I := (⟨"RelationFinderLaw", "core", "(LRelationFinder;[J)I"⟩, method_11_code, 3, some .int, [(0, 8, 11, 33)])
def xj_11 : am_I := (⟨"RelationFinderLaw", "isInCore", "(LRelationFinder;I[J)I"⟩, method_12_code, 4, some .int, [(0, 16, 19, 24)])
def xj_12 : am_I := (⟨"RelationFinderLaw", "value", "(LRelationFinder;[J)I"⟩, method_13_code, 3, some .int, [(0, 8, 11, 33)])
def xj_13 : am_I := (⟨"RelationFinderLaw", "holds", "(LRelationFinder;[J)I"⟩, method_14_code, 3, some .int, [(0, 8, 11, 33)])
def xj_14 : am_I := (⟨"RelationFinder", "<init>", "(I)V"⟩, prog_1_method_1_code, 3, none, [])
def xj_15 : am_I := (⟨"RelationFinder", "fault", "(Z)I"⟩, prog_1_method_3_code, 2, some .int, [])
def xj_16 : am_I := (⟨"RelationFinder", "claim", "()I"⟩, prog_1_method_8_code, 2, some .int, [])
def xj_17 : am_I := (⟨"RelationFinder", "readText", "(Z)I"⟩, prog_1_method_22_code, 2, some .int, [])
def xj_18 : am_I := (⟨"RelationFinder", "isLetter", "(I)Z"⟩, prog_1_method_30_code, 1, some .boolean, [])
def xj_19 : am_I := (⟨"RelationFinder", "kindOfWord", "(J)I"⟩, prog_1_method_32_code, 3, some .int, [])
def xj_20 : am_I := (⟨"RelationFinder", "isDigit", "(I)Z"⟩, prog_1_method_31_code, 1, some .boolean, [])
def xj_21 : am_I := (⟨"RelationFinder", "isConnective", "(I)Z"⟩, prog_1_method_29_code, 1, some .boolean, [])
def xj_22 : am_I := (⟨"RelationFinder", "keepFormula", "(I)V"⟩, prog_1_method_23_code, 3, none, [])
def xj_23 : am_I := (⟨"RelationFinder", "solve", "()I"⟩, prog_1_method_9_code, 1, some .int, [])
def xj_24 : am_I := (⟨"RelationFinder", "allFacts", "()I"⟩, prog_1_method_24_code, 1, some .int, [])
def xj_25 : am_I := (⟨"RelationFinder", "firstFrom", "(II)I"⟩, prog_1_method_25_code, 8, some .int, [])
def xj_26 : am_I := (⟨"RelationFinder", "instances", "(II)J"⟩, prog_1_method_26_code, 7, some .long, [])
def xj_27 : am_I := (⟨"RelationFinder", "count", "()I"⟩, prog_1_method_13_code, 3, some .int, [])
def xj_28 : am_I := (⟨"RelationFinder", "unlike", "()I"⟩, prog_1_method_14_code, 6, some .int, [])
def xj_29 : am_I := (⟨"RelationFinder", "fair", "()I"⟩, prog_1_method_15_code, 1, some .int, [])
def xj_30 : am_I := (⟨"RelationFinder", "isIn", "(I)Z"⟩, prog_1_method_19_code, 2, some .boolean, [])
def xj_31 : am_I := (⟨"RelationFinder", "told", "(I)I"⟩, prog_1_method_21_code, 2, some .int, [])
def xj_32 : am_I := (⟨"RelationFinder", "feed", "(JI)I"⟩, prog_1_method_2_code, 4, some .int, [])
def xj_33 : am_I := (⟨"RelationFinder", "relation", "(JI)I"⟩, prog_1_method_4_code, 4, some .int, [])
def xj_34 : am_I := (⟨"RelationFinder", "isName", "(J)Z"⟩, prog_1_method_33_code, 5, some .boolean, [])
def xj_35 : am_I := (⟨"RelationFinder", "bound", "(III)I"⟩, prog_1_method_5_code, 6, some .int, [])
def xj_36 : am_I := (⟨"RelationFinder", "fact", "()I"⟩, prog_1_method_6_code, 2, some .int, [])
def xj_37 : am_I := (⟨"RelationFinder", "back", "()I"⟩, prog_1_method_7_code, 1, some .int, [])
def xj_38 : am_I := (⟨"RelationFinder", "next", "()I"⟩, prog_1_method_10_code, 1, some .int, [])
def xj_39 : am_I := (⟨"RelationFinder", "check", "()I"⟩, prog_1_method_11_code, 1, some .int, [])
def xj_40 : am_I := (⟨"RelationFinder", "has", "(II)Z"⟩, prog_1_method_12_code, 3, some .boolean, [])
def xj_41 : am_I := (⟨"RelationFinder", "core", "()I"⟩, prog_1_method_16_code, 4, some .int, [])
def xj_42 : am_I := (⟨"RelationFinder", "isInCore", "(I)Z"⟩, prog_1_method_17_code, 2, some .boolean, [])
def xj_43 : am_I := (⟨"RelationFinder", "value", "()I"⟩, prog_1_method_18_code, 5, some .int, [])
def xj_44 : am_I := (⟨"RelationFinder", "workInPresent", "()V"⟩, prog_1_method_27_code, 1, none, [])
def xj_45 : am_I := (⟨"RelationFinder", "isThere", "(J)Z"⟩, prog_1_method_28_code, 3, some .boolean, [])
def xj_46 : am_I := (⟨"RelationFinder", "holds", "()I"⟩, prog_1_method_20_code, 2, some .int, [])
def xj_47 : am_I := (⟨"RelationFinder$World", "<init>", "(I)V"⟩, prog_7_method_1_code, 3, none, [])
def xj_48 : am_I := (⟨"RelationFinder$World", "numberOf", "(J)I"⟩, prog_7_method_3_code, 4, some .int, [])
def xj_49 : am_I := (⟨"RelationFinder$World", "blocks", "()I"⟩, prog_7_method_11_code, 1, some .int, [])
def xj_50 : am_I := (⟨"RelationFinder$World", "wholeBlock", "()J"⟩, prog_7_method_12_code, 1, some .long, [])
def xj_51 : am_I := (⟨"RelationFinder$World", "show", "(I)V"⟩, prog_7_method_13_code, 4, none, [])
def xj_52 : am_I := (⟨"RelationFinder$World", "sizeOf", "(I)I"⟩, prog_7_method_2_code, 2, some .int, [])
def xj_53 : am_I := (⟨"RelationFinder$World", "rankOf", "(I)I"⟩, prog_7_method_9_code, 3, some .int, [])
def xj_54 : am_I := (⟨"RelationFinder$World", "add", "(JI)I"⟩, prog_7_method_4_code, 4, some .int, [])
def xj_55 : am_I := (⟨"RelationFinder$World", "hasTuple", "(II)Z"⟩, prog_7_method_5_code, 3, some .boolean, [])
def xj_56 : am_I := (⟨"RelationFinder$World", "change", "(II)V"⟩, prog_7_method_6_code, 3, none, [])
def xj_57 : am_I := (⟨"RelationFinder$World", "dropFree", "(I)V"⟩, prog_7_method_8_code, 4, none, [])
def xj_58 : am_I := (⟨"RelationFinder$World", "addFree", "(I)V"⟩, prog_7_method_7_code, 3, none, [])
def xj_59 : am_I := (⟨"RelationFinder$World", "contains", "(II)Z"⟩, prog_7_method_10_code, 4, some .boolean, [])
def xj_60 : am_I := (⟨"RelationFinder$Tape", "<init>", "()V"⟩, prog_6_method_1_code, 1, none, [])
def xj_61 : am_I := (⟨"RelationFinder$Tape", "rewind", "()V"⟩, prog_6_method_4_code, 1, none, [])
def xj_62 : am_I := (⟨"RelationFinder$Tape", "advance", "()V"⟩, prog_6_method_5_code, 1, none, [])
def xj_63 : am_I := (⟨"RelationFinder$Tape", "blanksEnd", "(I)I"⟩, prog_6_method_6_code, 3, some .int, [])
def xj_64 : am_I := (⟨"RelationFinder$Tape", "readWord", "()V"⟩, prog_6_method_9_code, 2, none, [])
def xj_65 : am_I := (⟨"RelationFinder$Tape", "lettersEnd", "(I)I"⟩, prog_6_method_7_code, 3, some .int, [])
def xj_66 : am_I := (⟨"RelationFinder$Tape", "wordBetween", "(II)J"⟩, prog_6_method_8_code, 6, some .long, [])
def xj_67 : am_I := (⟨"RelationFinder$Tape", "readNumber", "()V"⟩, prog_6_method_10_code, 1, none, [])
def xj_68 : am_I := (⟨"RelationFinder$Tape", "readSign", "()V"⟩, prog_6_method_11_code, 4, none, [])
def xj_69 : am_I := (⟨"RelationFinder$Tape", "isBinderNext", "()Z"⟩, prog_6_method_12_code, 5, some .boolean, [])
def xj_70 : am_I := (⟨"RelationFinder$Tape", "clear", "()V"⟩, prog_6_method_3_code, 1, none, [])
def xj_71 : am_I := (⟨"RelationFinder$Tape", "append", "(JI)V"⟩, prog_6_method_2_code, 5, none, [])
def xj_72 : am_I := (⟨"RelationFinder$Parser", "<init>", "(LRelationFinder$Tape;LRelationFinder$World;)V"⟩, prog_4_method_1_code, 3, none, [])
def xj_73 : am_I := (⟨"RelationFinder$Parser", "read", "(LRelationFinder$Code;Z)V"⟩, prog_4_method_2_code, 4, none, [])
def xj_74 : am_I := (⟨"RelationFinder$Parser", "refuse", "(II)V"⟩, prog_4_method_3_code, 3, none, [])
def xj_75 : am_I := (⟨"RelationFinder$Parser", "takeOperand", "(I)V"⟩, prog_4_method_5_code, 2, none, [])
def xj_76 : am_I := (⟨"RelationFinder$Parser", "open", "(I)Z"⟩, prog_4_method_13_code, 2, some .boolean, [])
def xj_77 : am_I := (⟨"RelationFinder$Parser", "openBinder", "(I)V"⟩, prog_4_method_14_code, 2, none, [])
def xj_78 : am_I := (⟨"RelationFinder$Parser", "takeName", "()V"⟩, prog_4_method_9_code, 2, none, [])
def xj_79 : am_I := (⟨"RelationFinder$Parser", "addOperand", "(III)V"⟩, prog_4_method_7_code, 4, none, [])
def xj_80 : am_I := (⟨"RelationFinder$Parser", "endOperand", "(I)V"⟩, prog_4_method_8_code, 2, none, [])
def xj_81 : am_I := (⟨"RelationFinder$Parser", "awaitsFormula", "()Z"⟩, prog_4_method_15_code, 1, some .boolean, [])
def xj_82 : am_I := (⟨"RelationFinder$Parser", "takeFormula", "(I)V"⟩, prog_4_method_6_code, 2, none, [])
def xj_83 : am_I := (⟨"RelationFinder$Parser", "refuseToken", "()V"⟩, prog_4_method_4_code, 1, none, [])
def xj_84 : am_I := (⟨"RelationFinder$Parser", "takeBoundName", "(I)V"⟩, prog_4_method_10_code, 2, none, [])
def xj_85 : am_I := (⟨"RelationFinder$Parser", "takeColon", "(I)V"⟩, prog_4_method_11_code, 2, none, [])
def xj_86 : am_I := (⟨"RelationFinder$Parser", "takeNumber", "(I)V"⟩, prog_4_method_12_code, 2, none, [])
def xj_87 : am_I := (⟨"RelationFinder$Parser", "takeBehind", "(I)V"⟩, prog_4_method_17_code, 3, none, [])
def xj_88 : am_I := (⟨"RelationFinder$Parser", "endsTop", "(I)Z"⟩, prog_4_method_18_code, 5, some .boolean, [])
def xj_89 : am_I := (⟨"RelationFinder$Parser", "lacksComparison", "()Z"⟩, prog_4_method_16_code, 1, some .boolean, [])
def xj_90 : am_I := (⟨"RelationFinder$Parser", "joinStrength", "(I)I"⟩, prog_4_method_19_code, 2, some .int, [])
def xj_91 : am_I := (⟨"RelationFinder$Parser", "strengthOf", "(I)I"⟩, prog_4_method_20_code, 1, some .int, [])
def xj_92 : am_I := (⟨"RelationFinder$Parser", "closeTop", "()V"⟩, prog_4_method_25_code, 2, none, [])
def xj_93 : am_I := (⟨"RelationFinder$Parser", "endBinder", "()V"⟩, prog_4_method_27_code, 2, none, [])
def xj_94 : am_I := (⟨"RelationFinder$Parser", "bodiesBelow", "(I)I"⟩, prog_4_method_28_code, 4, some .int, [])
def xj_95 : am_I := (⟨"RelationFinder$Parser", "applyTop", "(I)V"⟩, prog_4_method_26_code, 3, none, [])
def xj_96 : am_I := (⟨"RelationFinder$Parser", "fitting", "(III)I"⟩, prog_4_method_29_code, 3, some .int, [])
def xj_97 : am_I := (⟨"RelationFinder$Parser", "mayJoin", "(I)Z"⟩, prog_4_method_21_code, 3, some .boolean, [])
def xj_98 : am_I := (⟨"RelationFinder$Parser", "takeAtEnd", "(I)V"⟩, prog_4_method_22_code, 2, none, [])
def xj_99 : am_I := (⟨"RelationFinder$Parser", "takeBar", "(I)V"⟩, prog_4_method_23_code, 3, none, [])
def xj_100 : am_I := (⟨"RelationFinder$Parser", "takeCloser", "(I)V"⟩, prog_4_method_24_code, 3, none, [])
def xj_101 : am_I := (⟨"RelationFinder$Machine", "<init>", "(LRelationFinder$World;)V"⟩, prog_3_method_1_code, 2, none, [])
def xj_102 : am_I := (⟨"RelationFinder$Machine", "work", "(LRelationFinder$Code;IJ)V"⟩, prog_3_method_2_code, 7, none, [])
def xj_103 : am_I := (⟨"RelationFinder$Machine", "run", "(LRelationFinder$Code;IIJI)V"⟩, prog_3_method_3_code, 9, none, [])
def xj_104 : am_I := (⟨"RelationFinder$Machine", "bind", "(LRelationFinder$Code;IJI)V"⟩, prog_3_method_6_code, 8, none, [])
def xj_105 : am_I := (⟨"RelationFinder$Machine", "memoPlace", "(LRelationFinder$Code;I)I"⟩, prog_3_method_7_code, 5, some .int, [])
def xj_106 : am_I := (⟨"RelationFinder$Machine", "recall", "(II)V"⟩, prog_3_method_8_code, 6, none, [])
def xj_107 : am_I := (⟨"RelationFinder$Machine", "sift", "(LRelationFinder$Code;IJI)V"⟩, prog_3_method_11_code, 10, none, [])
def xj_108 : am_I := (⟨"RelationFinder$Machine", "formulaOf", "(LRelationFinder$Code;IIJI)J"⟩, prog_3_method_5_code, 8, some .long, [])
def xj_109 : am_I := (⟨"RelationFinder$Machine", "quantify", "(LRelationFinder$Code;IJI)V"⟩, prog_3_method_10_code, 21, none, [])
def xj_110 : am_I := (⟨"RelationFinder$Machine", "verdict", "(IJJ)J"⟩, prog_3_method_12_code, 5, some .long, [])
def xj_111 : am_I := (⟨"RelationFinder$Machine", "remember", "(IIJ)V"⟩, prog_3_method_9_code, 9, none, [])
def xj_112 : am_I := (⟨"RelationFinder$Machine", "connect", "(LRelationFinder$Code;IJI)V"⟩, prog_3_method_4_code, 13, none, [])
def xj_113 : am_I := (⟨"RelationFinder$Machine", "joined", "(IJJ)J"⟩, prog_3_method_26_code, 5, some .long, [])
def xj_114 : am_I := (⟨"RelationFinder$Machine", "apply", "(LRelationFinder$Code;I)V"⟩, prog_3_method_13_code, 4, none, [])
def xj_115 : am_I := (⟨"RelationFinder$Machine", "pushConstant", "(II)V"⟩, prog_3_method_14_code, 9, none, [])
def xj_116 : am_I := (⟨"RelationFinder$Machine", "addIdentity", "(I)V"⟩, prog_3_method_16_code, 3, none, [])
def xj_117 : am_I := (⟨"RelationFinder$Machine", "pushRelation", "(I)V"⟩, prog_3_method_15_code, 6, none, [])
def xj_118 : am_I := (⟨"RelationFinder$Machine", "compareSize", "(II)V"⟩, prog_3_method_18_code, 11, none, [])
def xj_119 : am_I := (⟨"RelationFinder$Machine", "judgeSize", "(I)V"⟩, prog_3_method_17_code, 9, none, [])
def xj_120 : am_I := (⟨"RelationFinder$Machine", "applyPrefix", "(I)V"⟩, prog_3_method_19_code, 3, none, [])
def xj_121 : am_I := (⟨"RelationFinder$Machine", "turnAbout", "(I)V"⟩, prog_3_method_20_code, 7, none, [])
def xj_122 : am_I := (⟨"RelationFinder$Machine", "reach", "(I)V"⟩, prog_3_method_21_code, 6, none, [])
def xj_123 : am_I := (⟨"RelationFinder$Machine", "compare", "(I)V"⟩, prog_3_method_27_code, 8, none, [])
def xj_124 : am_I := (⟨"RelationFinder$Machine", "join", "()V"⟩, prog_3_method_22_code, 11, none, [])
def xj_125 : am_I := (⟨"RelationFinder$Machine", "multiply", "()V"⟩, prog_3_method_23_code, 7, none, [])
def xj_126 : am_I := (⟨"RelationFinder$Machine", "keepFirsts", "()V"⟩, prog_3_method_24_code, 7, none, [])
def xj_127 : am_I := (⟨"RelationFinder$Machine", "applyWordwise", "(I)V"⟩, prog_3_method_25_code, 8, none, [])
def xj_128 : am_I := (⟨"RelationFinder$Machine", "dropBegun", "(II)V"⟩, prog_3_method_28_code, 8, none, [])
def xj_129 : am_I := (⟨"RelationFinder$Renamings", "<init>", "(LRelationFinder$World;)V"⟩, prog_5_method_1_code, 2, none, [])
def xj_130 : am_I := (⟨"RelationFinder$Renamings", "find", "()V"⟩, prog_5_method_2_code, 3, none, [])
def xj_131 : am_I := (⟨"RelationFinder$Renamings", "isFair", "()Z"⟩, prog_5_method_3_code, 6, some .boolean, [])
def xj_132 : am_I := (⟨"RelationFinder$Renamings", "imageOf", "(II)I"⟩, prog_5_method_4_code, 8, some .int, [])
def xj_133 : am_I := (⟨"RelationFinder$Renamings", "keep", "()V"⟩, prog_5_method_5_code, 4, none, [])
def xj_134 : am_I := (⟨"RelationFinder$Renamings", "step", "()Z"⟩, prog_5_method_6_code, 6, some .boolean, [])
def xj_135 : am_I := (⟨"RelationFinder$Renamings", "swap", "(II)V"⟩, prog_5_method_7_code, 4, none, [])
def xj_136 : am_I := (⟨"RelationFinder$Renamings", "markAlike", "(I[J)V"⟩, prog_5_method_8_code, 7, none, [])
def xj_137 : am_I := (⟨"RelationFinder$Code", "<init>", "()V"⟩, prog_2_method_1_code, 1, none, [])
def xj_138 : am_I := (⟨"RelationFinder$Code", "clear", "()V"⟩, prog_2_method_2_code, 1, none, [])
def xj_139 : am_I := (⟨"RelationFinder$Code", "add", "(III)I"⟩, prog_2_method_3_code, 4, some .int, [])
def xj_140 : am_I := (⟨"RelationFinder$Code", "endBinder", "(III)V"⟩, prog_2_method_4_code, 5, none, [])
def xj_141 : am_I := (⟨"RelationFinderModel", "<init>", "(I)V"⟩, prog_9_method_1_code, 2, none, [])
def xj_142 : am_I := (⟨"RelationFinderModel", "thrown", "()I"⟩, prog_9_method_2_code, 1, some .int, [])
def xj_143 : am_I := (⟨"RelationFinderModel", "feed", "(JI)I"⟩, prog_9_method_4_code, 5, some .int, [])
def xj_144 : am_I := (⟨"RelationFinderModel", "fault", "(Z)I"⟩, prog_9_method_5_code, 2, some .int, [])
def xj_145 : am_I := (⟨"RelationFinderModel", "relation", "(JI)I"⟩, prog_9_method_76_code, 6, some .int, [])
def xj_146 : am_I := (⟨"RelationFinderModel", "isName", "(J)Z"⟩, prog_9_method_75_code, 5, some .boolean, [])
def xj_147 : am_I := (⟨"RelationFinderModel", "letters", "(J)I"⟩, prog_9_method_9_code, 5, some .int, [])
def xj_148 : am_I := (⟨"RelationFinderModel", "keyword", "(J)I"⟩, prog_9_method_11_code, 2, some .int, [])
def xj_149 : am_I := (⟨"RelationFinderModel", "letter", "(JI)J"⟩, prog_9_method_10_code, 3, some .long, [])
def xj_150 : am_I := (⟨"RelationFinderModel", "isLetter", "(I)Z"⟩, prog_9_method_6_code, 1, some .boolean, [])
def xj_151 : am_I := (⟨"RelationFinderModel", "bound", "(III)I"⟩, prog_9_method_78_code, 6, some .int, [])
def xj_152 : am_I := (⟨"RelationFinderModel", "noTuple", "(II)Z"⟩, prog_9_method_77_code, 3, some .boolean, [])
def xj_153 : am_I := (⟨"RelationFinderModel", "power", "(I)I"⟩, prog_9_method_3_code, 4, some .int, [])
def xj_154 : am_I := (⟨"RelationFinderModel", "listFree", "()V"⟩, prog_9_method_67_code, 2, none, [])
def xj_155 : am_I := (⟨"RelationFinderModel", "fact", "()I"⟩, prog_9_method_79_code, 1, some .int, [])
def xj_156 : am_I := (⟨"RelationFinderModel", "takeText", "(Z)Z"⟩, prog_9_method_42_code, 2, some .boolean, [])
def xj_157 : am_I := (⟨"RelationFinderModel", "readText", "(Z)I"⟩, prog_9_method_41_code, 4, some .int, [])
def xj_158 : am_I := (⟨"RelationFinderModel", "push", "(II)V"⟩, prog_9_method_18_code, 3, none, [])
def xj_159 : am_I := (⟨"RelationFinderModel", "readToken", "()V"⟩, prog_9_method_15_code, 3, none, [])
def xj_160 : am_I := (⟨"RelationFinderModel", "byteAt", "(I)I"⟩, prog_9_method_8_code, 2, some .int, [])
def xj_161 : am_I := (⟨"RelationFinderModel", "readWord", "()V"⟩, prog_9_method_13_code, 5, none, [])
def xj_162 : am_I := (⟨"RelationFinderModel", "isDigit", "(I)Z"⟩, prog_9_method_7_code, 1, some .boolean, [])
def xj_163 : am_I := (⟨"RelationFinderModel", "readNumber", "()V"⟩, prog_9_method_14_code, 3, none, [])
def xj_164 : am_I := (⟨"RelationFinderModel", "signOf", "(I)I"⟩, prog_9_method_12_code, 1, some .int, [])
def xj_165 : am_I := (⟨"RelationFinderModel", "opensOne", "(I)Z"⟩, prog_9_method_32_code, 6, some .boolean, [])
def xj_166 : am_I := (⟨"RelationFinderModel", "level", "(I)I"⟩, prog_9_method_20_code, 1, some .int, [])
def xj_167 : am_I := (⟨"RelationFinderModel", "isJoint", "(I)Z"⟩, prog_9_method_21_code, 1, some .boolean, [])
def xj_168 : am_I := (⟨"RelationFinderModel", "isLink", "(I)Z"⟩, prog_9_method_22_code, 1, some .boolean, [])
def xj_169 : am_I := (⟨"RelationFinderModel", "isFormulaPlace", "(I)Z"⟩, prog_9_method_33_code, 1, some .boolean, [])
def xj_170 : am_I := (⟨"RelationFinderModel", "take", "(I)I"⟩, prog_9_method_40_code, 2, some .int, [])
def xj_171 : am_I := (⟨"RelationFinderModel", "takeFormula", "()I"⟩, prog_9_method_36_code, 2, some .int, [])
def xj_172 : am_I := (⟨"RelationFinderModel", "lay", "(III)V"⟩, prog_9_method_17_code, 5, none, [])
def xj_173 : am_I := (⟨"RelationFinderModel", "beginsLine", "()Z"⟩, prog_9_method_16_code, 5, some .boolean, [])
def xj_174 : am_I := (⟨"RelationFinderModel", "takeOperand", "()I"⟩, prog_9_method_35_code, 1, some .int, [])
def xj_175 : am_I := (⟨"RelationFinderModel", "layName", "()Z"⟩, prog_9_method_34_code, 4, some .boolean, [])
def xj_176 : am_I := (⟨"RelationFinderModel", "takeBehindExpression", "()I"⟩, prog_9_method_37_code, 3, some .int, [])
def xj_177 : am_I := (⟨"RelationFinderModel", "endJoints", "(I)I"⟩, prog_9_method_25_code, 3, some .int, [])
def xj_178 : am_I := (⟨"RelationFinderModel", "last", "()I"⟩, prog_9_method_19_code, 1, some .int, [])
def xj_179 : am_I := (⟨"RelationFinderModel", "endJoint", "()I"⟩, prog_9_method_24_code, 6, some .int, [])
def xj_180 : am_I := (⟨"RelationFinderModel", "failAt", "(I)I"⟩, prog_9_method_23_code, 2, some .int, [])
def xj_181 : am_I := (⟨"RelationFinderModel", "endExpression", "()I"⟩, prog_9_method_26_code, 3, some .int, [])
def xj_182 : am_I := (⟨"RelationFinderModel", "endLine", "()Z"⟩, prog_9_method_27_code, 1, some .boolean, [])
def xj_183 : am_I := (⟨"RelationFinderModel", "takeBehindFormula", "()I"⟩, prog_9_method_38_code, 2, some .int, [])
def xj_184 : am_I := (⟨"RelationFinderModel", "endLinks", "(I)V"⟩, prog_9_method_30_code, 2, none, [])
def xj_185 : am_I := (⟨"RelationFinderModel", "endLink", "()V"⟩, prog_9_method_28_code, 1, none, [])
def xj_186 : am_I := (⟨"RelationFinderModel", "endFormula", "()V"⟩, prog_9_method_31_code, 2, none, [])
def xj_187 : am_I := (⟨"RelationFinderModel", "endQuantity", "()V"⟩, prog_9_method_29_code, 1, none, [])
def xj_188 : am_I := (⟨"RelationFinderModel", "takeMark", "(I)I"⟩, prog_9_method_39_code, 2, some .int, [])
def xj_189 : am_I := (⟨"RelationFinderModel", "keepText", "(I)V"⟩, prog_9_method_43_code, 3, none, [])
def xj_190 : am_I := (⟨"RelationFinderModel", "back", "()I"⟩, prog_9_method_80_code, 1, some .int, [])
def xj_191 : am_I := (⟨"RelationFinderModel", "claim", "()I"⟩, prog_9_method_81_code, 1, some .int, [])
def xj_192 : am_I := (⟨"RelationFinderModel", "solve", "()I"⟩, prog_9_method_82_code, 1, some .int, [])
def xj_193 : am_I := (⟨"RelationFinderModel", "firstFrom", "(IIZ)I"⟩, prog_9_method_73_code, 5, some .int, [])
def xj_194 : am_I := (⟨"RelationFinderModel", "fits", "(II)Z"⟩, prog_9_method_72_code, 5, some .boolean, [])
def xj_195 : am_I := (⟨"RelationFinderModel", "assign", "(I)V"⟩, prog_9_method_70_code, 3, none, [])
def xj_196 : am_I := (⟨"RelationFinderModel", "addTuple", "(II)V"⟩, prog_9_method_68_code, 3, none, [])
def xj_197 : am_I := (⟨"RelationFinderModel", "isFreeIn", "(II)Z"⟩, prog_9_method_69_code, 3, some .boolean, [])
def xj_198 : am_I := (⟨"RelationFinderModel", "isTrue", "(I)Z"⟩, prog_9_method_71_code, 2, some .boolean, [])
def xj_199 : am_I := (⟨"RelationFinderModel", "work", "(I)V"⟩, prog_9_method_66_code, 5, none, [])
def xj_200 : am_I := (⟨"RelationFinderModel", "loop", "(II)I"⟩, prog_9_method_63_code, 5, some .int, [])
def xj_201 : am_I := (⟨"RelationFinderModel", "nextAtom", "(II)I"⟩, prog_9_method_60_code, 4, some .int, [])
def xj_202 : am_I := (⟨"RelationFinderModel", "endLoop", "(I)V"⟩, prog_9_method_62_code, 3, none, [])
def xj_203 : am_I := (⟨"RelationFinderModel", "give", "(JJ)V"⟩, prog_9_method_47_code, 5, none, [])
def xj_204 : am_I := (⟨"RelationFinderModel", "many", "(I)I"⟩, prog_9_method_61_code, 3, some .int, [])
def xj_205 : am_I := (⟨"RelationFinderModel", "isQuantity", "(III)Z"⟩, prog_9_method_59_code, 3, some .boolean, [])
def xj_206 : am_I := (⟨"RelationFinderModel", "truth", "(Z)V"⟩, prog_9_method_57_code, 2, none, [])
def xj_207 : am_I := (⟨"RelationFinderModel", "loopOn", "(II)I"⟩, prog_9_method_64_code, 4, some .int, [])
def xj_208 : am_I := (⟨"RelationFinderModel", "both", "(III)V"⟩, prog_9_method_54_code, 8, none, [])
def xj_209 : am_I := (⟨"RelationFinderModel", "product", "(II)V"⟩, prog_9_method_49_code, 7, none, [])
def xj_210 : am_I := (⟨"RelationFinderModel", "part", "(JJII)J"⟩, prog_9_method_45_code, 8, some .long, [])
def xj_211 : am_I := (⟨"RelationFinderModel", "bit", "(JJI)Z"⟩, prog_9_method_44_code, 5, some .boolean, [])
def xj_212 : am_I := (⟨"RelationFinderModel", "join", "(IJ)V"⟩, prog_9_method_46_code, 4, none, [])
def xj_213 : am_I := (⟨"RelationFinderModel", "override", "()V"⟩, prog_9_method_51_code, 4, none, [])
def xj_214 : am_I := (⟨"RelationFinderModel", "firsts", "(I)V"⟩, prog_9_method_52_code, 4, none, [])
def xj_215 : am_I := (⟨"RelationFinderModel", "lasts", "(I)V"⟩, prog_9_method_53_code, 3, none, [])
def xj_216 : am_I := (⟨"RelationFinderModel", "dot", "(II)V"⟩, prog_9_method_50_code, 5, none, [])
def xj_217 : am_I := (⟨"RelationFinderModel", "pairs", "(I)V"⟩, prog_9_method_55_code, 8, none, [])
def xj_218 : am_I := (⟨"RelationFinderModel", "identity", "()J"⟩, prog_9_method_56_code, 4, some .long, [])
def xj_219 : am_I := (⟨"RelationFinderModel", "twoTruths", "(I)V"⟩, prog_9_method_58_code, 4, none, [])
def xj_220 : am_I := (⟨"RelationFinderModel", "simple", "(III)V"⟩, prog_9_method_65_code, 5, none, [])
def xj_221 : am_I := (⟨"RelationFinderModel", "amount", "(JJ)I"⟩, prog_9_method_48_code, 6, some .int, [])
def xj_222 : am_I := (⟨"RelationFinderModel", "found", "(I)I"⟩, prog_9_method_74_code, 2, some .int, [])
def xj_223 : am_I := (⟨"RelationFinderModel", "next", "()I"⟩, prog_9_method_83_code, 1, some .int, [])
def xj_224 : am_I := (⟨"RelationFinderModel", "check", "()I"⟩, prog_9_method_84_code, 1, some .int, [])
def xj_225 : am_I := (⟨"RelationFinderModel", "has", "(II)Z"⟩, prog_9_method_85_code, 3, some .boolean, [])
def xj_226 : am_I := (⟨"RelationFinderModel", "count", "()I"⟩, prog_9_method_86_code, 3, some .int, [])
def xj_227 : am_I := (⟨"RelationFinderModel", "unlike", "()I"⟩, prog_9_method_94_code, 1, some .int, [])
def xj_228 : am_I := (⟨"RelationFinderModel", "leastOnes", "()I"⟩, prog_9_method_91_code, 3, some .int, [])
def xj_229 : am_I := (⟨"RelationFinderModel", "isLeast", "(I)Z"⟩, prog_9_method_92_code, 2, some .boolean, [])
def xj_230 : am_I := (⟨"RelationFinderModel", "least", "(IZ)I"⟩, prog_9_method_93_code, 9, some .int, [])
def xj_231 : am_I := (⟨"RelationFinderModel", "isFair", "(I)Z"⟩, prog_9_method_88_code, 5, some .boolean, [])
def xj_232 : am_I := (⟨"RelationFinderModel", "turned", "(III)I"⟩, prog_9_method_87_code, 8, some .int, [])
def xj_233 : am_I := (⟨"RelationFinderModel", "image", "(II)I"⟩, prog_9_method_90_code, 6, some .int, [])
def xj_234 : am_I := (⟨"RelationFinderModel", "freeAt", "(II)I"⟩, prog_9_method_89_code, 4, some .int, [])
def xj_235 : am_I := (⟨"RelationFinderModel", "fair", "()I"⟩, prog_9_method_95_code, 1, some .int, [])
def xj_236 : am_I := (⟨"RelationFinderModel", "core", "()I"⟩, prog_9_method_96_code, 4, some .int, [])
def xj_237 : am_I := (⟨"RelationFinderModel", "isInCore", "(I)Z"⟩, prog_9_method_97_code, 2, some .boolean, [])
def xj_238 : am_I := (⟨"RelationFinderModel", "value", "()I"⟩, prog_9_method_99_code, 1, some .int, [])
def xj_239 : am_I := (⟨"RelationFinderModel", "mayAsk", "()Z"⟩, prog_9_method_98_code, 1, some .boolean, [])
def xj_240 : am_I := (⟨"RelationFinderModel", "isIn", "(I)Z"⟩, prog_9_method_100_code, 2, some .boolean, [])
def xj_241 : am_I := (⟨"RelationFinderModel", "holds", "()I"⟩, prog_9_method_101_code, 1, some .int, [])
def xj_242 : am_I := (⟨"RelationFinderModel", "told", "(I)I"⟩, prog_9_method_102_code, 2, some .int, [])
def xj_243 : am_I := (⟨"java/lang/String", "length", "()I"⟩, prog_19_method_54_code, 1, some .int, [])
def xj_244 : am_I := (⟨"java/lang/String", "coder", "()B"⟩, prog_19_method_152_code, 1, some .byte, [])
def xj_245 : am_I := (⟨"java/lang/String", "charAt", "(I)C"⟩, prog_19_method_56_code, 2, some .char, [])
def xj_246 : am_I := (⟨"java/lang/String", "isLatin1", "()Z"⟩, prog_19_method_154_code, 1, some .boolean, [])
def xj_247 : am_I := (⟨"java/lang/StringLatin1", "charAt", "([BI)C"⟩, prog_20_method_2_code, 2, some .char, [])
def xj_248 : am_I := (⟨"java/lang/String", "checkIndex", "(II)V"⟩, prog_19_method_155_code, 2, none, [])
def xj_249 : am_I := (⟨"jdk/internal/util/Preconditions", "checkIndex", "(IILjava/util/function/BiFunction;)I"⟩, prog_26_method_11_code, 3, some .int, [])
def xj_250 : am_I := (⟨"java/lang/StringUTF16", "charAt", "([BI)C"⟩, prog_21_method_83_code, 2, some .char, [])
def xj_251 : am_I := (⟨"java/lang/StringUTF16", "checkIndex", "(I[B)V"⟩, prog_21_method_91_code, 2, none, [])
def xj_252 : am_I := (⟨"java/lang/StringUTF16", "length", "([B)I"⟩, prog_21_method_6_code, 1, some .int, [])
def xj_253 : am_I := (⟨"java/lang/StringUTF16", "getChar", "([BI)C"⟩, prog_21_method_5_code, 2, some .char, [])
def xj_254 : am_I := (⟨"java/lang/String", "indexOf", "(I)I"⟩, prog_19_method_79_code, 2, some .int, [])
def xj_255 : am_I := (⟨"java/lang/String", "indexOf", "(II)I"⟩, prog_19_method_80_code, 3, some .int, [])
def xj_256 : am_I := (⟨"java/lang/StringLatin1", "indexOf", "([BIII)I"⟩, prog_20_method_22_code, 4, some .int, [])
def xj_257 : am_I := (⟨"java/lang/StringLatin1", "canEncode", "(I)Z"⟩, prog_20_method_4_code, 1, some .boolean, [])
def xj_258 : am_I := (⟨"java/lang/StringLatin1", "indexOfChar", "([BIII)I"⟩, prog_20_method_23_code, 6, some .int, [])
def xj_259 : am_I := (⟨"java/lang/StringUTF16", "indexOf", "([BIII)I"⟩, prog_21_method_40_code, 4, some .int, [])
def xj_260 : am_I := (⟨"java/lang/StringUTF16", "indexOfChar", "([BIII)I"⟩, prog_21_method_47_code, 4, some .int, [])
def xj_261 : am_I := (⟨"java/lang/StringUTF16", "checkBoundsBeginEnd", "(II[B)V"⟩, prog_21_method_93_code, 3, none, [])
def xj_262 : am_I := (⟨"java/lang/String", "checkBoundsBeginEnd", "(III)V"⟩, prog_19_method_158_code, 3, none, [])
def xj_263 : am_I := (⟨"jdk/internal/util/Preconditions", "checkFromToIndex", "(IIILjava/util/function/BiFunction;)I"⟩, prog_26_method_12_code, 4, some .int, [])
def xj_264 : am_I := (⟨"java/lang/StringUTF16", "indexOfCharUnsafe", "([BIII)I"⟩, prog_21_method_48_code, 5, some .int, [])
def xj_265 : am_I := (⟨"java/lang/StringUTF16", "indexOfSupplementary", "([BIII)I"⟩, prog_21_method_49_code, 7, some .int, [])
def xj_266 : am_I := (⟨"java/lang/Character", "isValidCodePoint", "(I)Z"⟩, prog_10_method_11_code, 2, some .boolean, [])
def xj_267 : am_I := (⟨"java/lang/Character", "highSurrogate", "(I)C"⟩, prog_10_method_28_code, 1, some .char, [])
def xj_268 : am_I := (⟨"java/lang/Character", "lowSurrogate", "(I)C"⟩, prog_10_method_29_code, 1, some .char, [])
def xj_269 : am_I := (⟨"java/lang/Integer", "bitCount", "(I)I"⟩, prog_15_method_49_code, 1, some .int, [])
def xj_270 : am_I := (⟨"java/util/Arrays", "fill", "([JJ)V"⟩, prog_25_method_101_code, 5, none, [])
def xj_271 : am_I := (⟨"java/lang/Long", "bitCount", "(J)I"⟩, prog_16_method_50_code, 2, some .int, [])
def xinf : List (List (Nat × am_I)) := [[(0, xj_0), (1, xj_1), (2, xj_2), (3, xj_3), (4, xj_4), (5, xj_5), (6, xj_6), (7, xj_7), (8, xj_8), (9, xj_9), (10, xj_10), (11, xj_11), (12, xj_12), (13, xj_13), (14, xj_14), (15, xj_15)], [(16, xj_16), (17, xj_17), (18, xj_18), (19, xj_19), (20, xj_20), (21, xj_21), (22, xj_22), (23, xj_23), (24, xj_24), (25, xj_25), (26, xj_26), (27, xj_27), (28, xj_28), (29, xj_29), (30, xj_30), (31, xj_31)], [(32, xj_32), (33, xj_33), (34, xj_34), (35, xj_35), (36, xj_36), (37, xj_37), (38, xj_38), (39, xj_39), (40, xj_40), (41, xj_41), (42, xj_42), (43, xj_43), (44, xj_44), (45, xj_45), (46, xj_46), (47, xj_47)], [(48, xj_48), (49, xj_49), (50, xj_50), (51, xj_51), (52, xj_52), (53, xj_53), (54, xj_54), (55, xj_55), (56, xj_56), (57, xj_57), (58, xj_58), (59, xj_59), (60, xj_60), (61, xj_61), (62, xj_62), (63, xj_63)], [(64, xj_64), (65, xj_65), (66, xj_66), (67, xj_67), (68, xj_68), (69, xj_69), (70, xj_70), (71, xj_71), (72, xj_72), (73, xj_73), (74, xj_74), (75, xj_75), (76, xj_76), (77, xj_77), (78, xj_78), (79, xj_79)], [(80, xj_80), (81, xj_81), (82, xj_82), (83, xj_83), (84, xj_84), (85, xj_85), (86, xj_86), (87, xj_87), (88, xj_88), (89, xj_89), (90, xj_90), (91, xj_91), (92, xj_92), (93, xj_93), (94, xj_94), (95, xj_95)], [(96, xj_96), (97, xj_97), (98, xj_98), (99, xj_99), (100, xj_100), (101, xj_101), (102, xj_102), (103, xj_103), (104, xj_104), (105, xj_105), (106, xj_106), (107, xj_107), (108, xj_108), (109, xj_109), (110, xj_110), (111, xj_111)], [(112, xj_112), (113, xj_113), (114, xj_114), (115, xj_115), (116, xj_116), (117, xj_117), (118, xj_118), (119, xj_119), (120, xj_120), (121, xj_121), (122, xj_122), (123, xj_123), (124, xj_124), (125, xj_125), (126, xj_126), (127, xj_127)], [(128, xj_128), (129, xj_129), (130, xj_130), (131, xj_131), (132, xj_132), (133, xj_133), (134, xj_134), (135, xj_135), (136, xj_136), (137, xj_137), (138, xj_138), (139, xj_139), (140, xj_140), (141, xj_141), (142, xj_142), (143, xj_143)], [(144, xj_144), (145, xj_145), (146, xj_146), (147, xj_147), (148, xj_148), (149, xj_149), (150, xj_150), (151, xj_151), (152, xj_152), (153, xj_153), (154, xj_154), (155, xj_155), (156, xj_156), (157, xj_157), (158, xj_158), (159, xj_159)], [(160, xj_160), (161, xj_161), (162, xj_162), (163, xj_163), (164, xj_164), (165, xj_165), (166, xj_166), (167, xj_167), (168, xj_168), (169, xj_169), (170, xj_170), (171, xj_171), (172, xj_172), (173, xj_173), (174, xj_174), (175, xj_175)], [(176, xj_176), (177, xj_177), (178, xj_178), (179, xj_179), (180, xj_180), (181, xj_181), (182, xj_182), (183, xj_183), (184, xj_184), (185, xj_185), (186, xj_186), (187, xj_187), (188, xj_188), (189, xj_189), (190, xj_190), (191, xj_191)], [(192, xj_192), (193, xj_193), (194, xj_194), (195, xj_195), (196, xj_196), (197, xj_197), (198, xj_198), (199, xj_199), (200, xj_200), (201, xj_201), (202, xj_202), (203, xj_203), (204, xj_204), (205, xj_205), (206, xj_206), (207, xj_207)], [(208, xj_208), (209, xj_209), (210, xj_210), (211, xj_211), (212, xj_212), (213, xj_213), (214, xj_214), (215, xj_215), (216, xj_216), (217, xj_217), (218, xj_218), (219, xj_219), (220, xj_220), (221, xj_221), (222, xj_222), (223, xj_223)], [(224, xj_224), (225, xj_225), (226, xj_226), (227, xj_227), (228, xj_228), (229, xj_229), (230, xj_230), (231, xj_231), (232, xj_232), (233, xj_233), (234, xj_234), (235, xj_235), (236, xj_236), (237, xj_237), (238, xj_238), (239, xj_239)], [(240, xj_240), (241, xj_241), (242, xj_242), (243, xj_243), (244, xj_244), (245, xj_245), (246, xj_246), (247, xj_247), (248, xj_248), (249, xj_249), (250, xj_250), (251, xj_251), (252, xj_252), (253, xj_253), (254, xj_254), (255, xj_255)], [(256, xj_256), (257, xj_257), (258, xj_258), (259, xj_259), (260, xj_260), (261, xj_261), (262, xj_262), (263, xj_263), (264, xj_264), (265, xj_265), (266, xj_266), (267, xj_267), (268, xj_268), (269, xj_269), (270, xj_270), (271, xj_271)]]
theorem am_lk_map {α β : Type} (f : α → β) (n : Nat) : ∀ (t : List (Nat × α)), am_lk (t.map (fun q => (q.1, f q.2))) n = (am_lk t n).map f
  | [] => rfl
  | (k, v) :: t => by
    show cond (Nat.beq k n) (some (f v)) (am_lk (t.map (fun q => (q.1, f q.2))) n) = (cond (Nat.beq k n) (some v) (am_lk t n)).map f
    rw [am_lk_map f n t]
    cases Nat.beq k n <;> rfl
theorem am_lk2_map {α β : Type} (f : α → β) (n : Nat) (t : List (List (Nat × α))) : am_lk2 (t.map (fun l => l.map (fun q => (q.1, f q.2)))) n = (am_lk2 t n).map f := by
  unfold am_lk2
  rw [← am_lk_map]
  congr 1
  rw [List.getD_eq_getElem?_getD, List.getD_eq_getElem?_getD, List.getElem?_map]
  cases t[n / 16]? <;> rfl
theorem xJ_0 : am_inf (xm_0) = xj_0 := rfl
theorem xJ_1 : am_inf (xm_1) = xj_1 := rfl
theorem xJ_2 : am_inf (xm_2) = xj_2 := rfl
theorem xJ_3 : am_inf (xm_3) = xj_3 := rfl
theorem xJ_4 : am_inf (xm_4) = xj_4 := rfl
theorem xJ_5 : am_inf (xm_5) = xj_5 := rfl
theorem xJ_6 : am_inf (xm_6) = xj_6 := rfl
theorem xJ_7 : am_inf (xm_7) = xj_7 := rfl
theorem xJ_8 : am_inf (xm_8) = xj_8 := rfl
theorem xJ_9 : am_inf (xm_9) = xj_9 := rfl
theorem xJ_10 : am_inf (xm_10) = xj_10 := rfl
theorem xJ_11 : am_inf (xm_11) = xj_11 := rfl
theorem xJ_12 : am_inf (xm_12) = xj_12 := rfl
theorem xJ_13 : am_inf (xm_13) = xj_13 := rfl
theorem xJ_14 : am_inf (xm_14) = xj_14 := rfl
theorem xJ_15 : am_inf (xm_15) = xj_15 := rfl
theorem xJ_16 : am_inf (xm_16) = xj_16 := rfl
theorem xJ_17 : am_inf (xm_17) = xj_17 := rfl
theorem xJ_18 : am_inf (xm_18) = xj_18 := rfl
theorem xJ_19 : am_inf (xm_19) = xj_19 := rfl
theorem xJ_20 : am_inf (xm_20) = xj_20 := rfl
theorem xJ_21 : am_inf (xm_21) = xj_21 := rfl
theorem xJ_22 : am_inf (xm_22) = xj_22 := rfl
theorem xJ_23 : am_inf (xm_23) = xj_23 := rfl
theorem xJ_24 : am_inf (xm_24) = xj_24 := rfl
theorem xJ_25 : am_inf (xm_25) = xj_25 := rfl
theorem xJ_26 : am_inf (xm_26) = xj_26 := rfl
theorem xJ_27 : am_inf (xm_27) = xj_27 := rfl
theorem xJ_28 : am_inf (xm_28) = xj_28 := rfl
theorem xJ_29 : am_inf (xm_29) = xj_29 := rfl
theorem xJ_30 : am_inf (xm_30) = xj_30 := rfl
theorem xJ_31 : am_inf (xm_31) = xj_31 := rfl
theorem xJ_32 : am_inf (xm_32) = xj_32 := rfl
theorem xJ_33 : am_inf (xm_33) = xj_33 := rfl
theorem xJ_34 : am_inf (xm_34) = xj_34 := rfl
theorem xJ_35 : am_inf (xm_35) = xj_35 := rfl
theorem xJ_36 : am_inf (xm_36) = xj_36 := rfl
theorem xJ_37 : am_inf (xm_37) = xj_37 := rfl
theorem xJ_38 : am_inf (xm_38) = xj_38 := rfl
theorem xJ_39 : am_inf (xm_39) = xj_39 := rfl
theorem xJ_40 : am_inf (xm_40) = xj_40 := rfl
theorem xJ_41 : am_inf (xm_41) = xj_41 := rfl
theorem xJ_42 : am_inf (xm_42) = xj_42 := rfl
theorem xJ_43 : am_inf (xm_43) = xj_43 := rfl
theorem xJ_44 : am_inf (xm_44) = xj_44 := rfl
theorem xJ_45 : am_inf (xm_45) = xj_45 := rfl
theorem xJ_46 : am_inf (xm_46) = xj_46 := rfl
theorem xJ_47 : am_inf (xm_47) = xj_47 := rfl
theorem xJ_48 : am_inf (xm_48) = xj_48 := rfl
theorem xJ_49 : am_inf (xm_49) = xj_49 := rfl
theorem xJ_50 : am_inf (xm_50) = xj_50 := rfl
theorem xJ_51 : am_inf (xm_51) = xj_51 := rfl
theorem xJ_52 : am_inf (xm_52) = xj_52 := rfl
theorem xJ_53 : am_inf (xm_53) = xj_53 := rfl
theorem xJ_54 : am_inf (xm_54) = xj_54 := rfl
theorem xJ_55 : am_inf (xm_55) = xj_55 := rfl
theorem xJ_56 : am_inf (xm_56) = xj_56 := rfl
theorem xJ_57 : am_inf (xm_57) = xj_57 := rfl
theorem xJ_58 : am_inf (xm_58) = xj_58 := rfl
theorem xJ_59 : am_inf (xm_59) = xj_59 := rfl
theorem xJ_60 : am_inf (xm_60) = xj_60 := rfl
theorem xJ_61 : am_inf (xm_61) = xj_61 := rfl
theorem xJ_62 : am_inf (xm_62) = xj_62 := rfl
theorem xJ_63 : am_inf (xm_63) = xj_63 := rfl
theorem xJ_64 : am_inf (xm_64) = xj_64 := rfl
theorem xJ_65 : am_inf (xm_65) = xj_65 := rfl
theorem xJ_66 : am_inf (xm_66) = xj_66 := rfl
theorem xJ_67 : am_inf (xm_67) = xj_67 := rfl
theorem xJ_68 : am_inf (xm_68) = xj_68 := rfl
theorem xJ_69 : am_inf (xm_69) = xj_69 := rfl
theorem xJ_70 : am_inf (xm_70) = xj_70 := rfl
theorem xJ_71 : am_inf (xm_71) = xj_71 := rfl
theorem xJ_72 : am_inf (xm_72) = xj_72 := rfl
theorem xJ_73 : am_inf (xm_73) = xj_73 := rfl
theorem xJ_74 : am_inf (xm_74) = xj_74 := rfl
theorem xJ_75 : am_inf (xm_75) = xj_75 := rfl
theorem xJ_76 : am_inf (xm_76) = xj_76 := rfl
theorem xJ_77 : am_inf (xm_77) = xj_77 := rfl
theorem xJ_78 : am_inf (xm_78) = xj_78 := rfl
theorem xJ_79 : am_inf (xm_79) = xj_79 := rfl
theorem xJ_80 : am_inf (xm_80) = xj_80 := rfl
theorem xJ_81 : am_inf (xm_81) = xj_81 := rfl
theorem xJ_82 : am_inf (xm_82) = xj_82 := rfl
theorem xJ_83 : am_inf (xm_83) = xj_83 := rfl
theorem xJ_84 : am_inf (xm_84) = xj_84 := rfl
theorem xJ_85 : am_inf (xm_85) = xj_85 := rfl
theorem xJ_86 : am_inf (xm_86) = xj_86 := rfl
theorem xJ_87 : am_inf (xm_87) = xj_87 := rfl
theorem xJ_88 : am_inf (xm_88) = xj_88 := rfl
theorem xJ_89 : am_inf (xm_89) = xj_89 := rfl
theorem xJ_90 : am_inf (xm_90) = xj_90 := rfl
theorem xJ_91 : am_inf (xm_91) = xj_91 := rfl
theorem xJ_92 : am_inf (xm_92) = xj_92 := rfl
theorem xJ_93 : am_inf (xm_93) = xj_93 := rfl
theorem xJ_94 : am_inf (xm_94) = xj_94 := rfl
theorem xJ_95 : am_inf (xm_95) = xj_95 := rfl
theorem xJ_96 : am_inf (xm_96) = xj_96 := rfl
theorem xJ_97 : am_inf (xm_97) = xj_97 := rfl
theorem xJ_98 : am_inf (xm_98) = xj_98 := rfl
theorem xJ_99 : am_inf (xm_99) = xj_99 := rfl
theorem xJ_100 : am_inf (xm_100) = xj_100 := rfl
theorem xJ_101 : am_inf (xm_101) = xj_101 := rfl
theorem xJ_102 : am_inf (xm_102) = xj_102 := rfl
theorem xJ_103 : am_inf (xm_103) = xj_103 := rfl
theorem xJ_104 : am_inf (xm_104) = xj_104 := rfl
theorem xJ_105 : am_inf (xm_105) = xj_105 := rfl
theorem xJ_106 : am_inf (xm_106) = xj_106 := rfl
theorem xJ_107 : am_inf (xm_107) = xj_107 := rfl
theorem xJ_108 : am_inf (xm_108) = xj_108 := rfl
theorem xJ_109 : am_inf (xm_109) = xj_109 := rfl
theorem xJ_110 : am_inf (xm_110) = xj_110 := rfl
theorem xJ_111 : am_inf (xm_111) = xj_111 := rfl
theorem xJ_112 : am_inf (xm_112) = xj_112 := rfl
theorem xJ_113 : am_inf (xm_113) = xj_113 := rfl
theorem xJ_114 : am_inf (xm_114) = xj_114 := rfl
theorem xJ_115 : am_inf (xm_115) = xj_115 := rfl
theorem xJ_116 : am_inf (xm_116) = xj_116 := rfl
theorem xJ_117 : am_inf (xm_117) = xj_117 := rfl
theorem xJ_118 : am_inf (xm_118) = xj_118 := rfl
theorem xJ_119 : am_inf (xm_119) = xj_119 := rfl
theorem xJ_120 : am_inf (xm_120) = xj_120 := rfl
theorem xJ_121 : am_inf (xm_121) = xj_121 := rfl
theorem xJ_122 : am_inf (xm_122) = xj_122 := rfl
theorem xJ_123 : am_inf (xm_123) = xj_123 := rfl
theorem xJ_124 : am_inf (xm_124) = xj_124 := rfl
theorem xJ_125 : am_inf (xm_125) = xj_125 := rfl
theorem xJ_126 : am_inf (xm_126) = xj_126 := rfl
theorem xJ_127 : am_inf (xm_127) = xj_127 := rfl
theorem xJ_128 : am_inf (xm_128) = xj_128 := rfl
theorem xJ_129 : am_inf (xm_129) = xj_129 := rfl
theorem xJ_130 : am_inf (xm_130) = xj_130 := rfl
theorem xJ_131 : am_inf (xm_131) = xj_131 := rfl
theorem xJ_132 : am_inf (xm_132) = xj_132 := rfl
theorem xJ_133 : am_inf (xm_133) = xj_133 := rfl
theorem xJ_134 : am_inf (xm_134) = xj_134 := rfl
theorem xJ_135 : am_inf (xm_135) = xj_135 := rfl
theorem xJ_136 : am_inf (xm_136) = xj_136 := rfl
theorem xJ_137 : am_inf (xm_137) = xj_137 := rfl
theorem xJ_138 : am_inf (xm_138) = xj_138 := rfl
theorem xJ_139 : am_inf (xm_139) = xj_139 := rfl
theorem xJ_140 : am_inf (xm_140) = xj_140 := rfl
theorem xJ_141 : am_inf (xm_141) = xj_141 := rfl
theorem xJ_142 : am_inf (xm_142) = xj_142 := rfl
theorem xJ_143 : am_inf (xm_143) = xj_143 := rfl
theorem xJ_144 : am_inf (xm_144) = xj_144 := rfl
theorem xJ_145 : am_inf (xm_145) = xj_145 := rfl
theorem xJ_146 : am_inf (xm_146) = xj_146 := rfl
theorem xJ_147 : am_inf (xm_147) = xj_147 := rfl
theorem xJ_148 : am_inf (xm_148) = xj_148 := rfl
theorem xJ_149 : am_inf (xm_149) = xj_149 := rfl
theorem xJ_150 : am_inf (xm_150) = xj_150 := rfl
theorem xJ_151 : am_inf (xm_151) = xj_151 := rfl
theorem xJ_152 : am_inf (xm_152) = xj_152 := rfl
theorem xJ_153 : am_inf (xm_153) = xj_153 := rfl
theorem xJ_154 : am_inf (xm_154) = xj_154 := rfl
theorem xJ_155 : am_inf (xm_155) = xj_155 := rfl
theorem xJ_156 : am_inf (xm_156) = xj_156 := rfl
theorem xJ_157 : am_inf (xm_157) = xj_157 := rfl
theorem xJ_158 : am_inf (xm_158) = xj_158 := rfl
theorem xJ_159 : am_inf (xm_159) = xj_159 := rfl
theorem xJ_160 : am_inf (xm_160) = xj_160 := rfl
theorem xJ_161 : am_inf (xm_161) = xj_161 := rfl
theorem xJ_162 : am_inf (xm_162) = xj_162 := rfl
theorem xJ_163 : am_inf (xm_163) = xj_163 := rfl
theorem xJ_164 : am_inf (xm_164) = xj_164 := rfl
theorem xJ_165 : am_inf (xm_165) = xj_165 := rfl
theorem xJ_166 : am_inf (xm_166) = xj_166 := rfl
theorem xJ_167 : am_inf (xm_167) = xj_167 := rfl
theorem xJ_168 : am_inf (xm_168) = xj_168 := rfl
theorem xJ_169 : am_inf (xm_169) = xj_169 := rfl
theorem xJ_170 : am_inf (xm_170) = xj_170 := rfl
theorem xJ_171 : am_inf (xm_171) = xj_171 := rfl
theorem xJ_172 : am_inf (xm_172) = xj_172 := rfl
theorem xJ_173 : am_inf (xm_173) = xj_173 := rfl
theorem xJ_174 : am_inf (xm_174) = xj_174 := rfl
theorem xJ_175 : am_inf (xm_175) = xj_175 := rfl
theorem xJ_176 : am_inf (xm_176) = xj_176 := rfl
theorem xJ_177 : am_inf (xm_177) = xj_177 := rfl
theorem xJ_178 : am_inf (xm_178) = xj_178 := rfl
theorem xJ_179 : am_inf (xm_179) = xj_179 := rfl
theorem xJ_180 : am_inf (xm_180) = xj_180 := rfl
theorem xJ_181 : am_inf (xm_181) = xj_181 := rfl
theorem xJ_182 : am_inf (xm_182) = xj_182 := rfl
theorem xJ_183 : am_inf (xm_183) = xj_183 := rfl
theorem xJ_184 : am_inf (xm_184) = xj_184 := rfl
theorem xJ_185 : am_inf (xm_185) = xj_185 := rfl
theorem xJ_186 : am_inf (xm_186) = xj_186 := rfl
theorem xJ_187 : am_inf (xm_187) = xj_187 := rfl
theorem xJ_188 : am_inf (xm_188) = xj_188 := rfl
theorem xJ_189 : am_inf (xm_189) = xj_189 := rfl
theorem xJ_190 : am_inf (xm_190) = xj_190 := rfl
theorem xJ_191 : am_inf (xm_191) = xj_191 := rfl
theorem xJ_192 : am_inf (xm_192) = xj_192 := rfl
theorem xJ_193 : am_inf (xm_193) = xj_193 := rfl
theorem xJ_194 : am_inf (xm_194) = xj_194 := rfl
theorem xJ_195 : am_inf (xm_195) = xj_195 := rfl
theorem xJ_196 : am_inf (xm_196) = xj_196 := rfl
theorem xJ_197 : am_inf (xm_197) = xj_197 := rfl
theorem xJ_198 : am_inf (xm_198) = xj_198 := rfl
theorem xJ_199 : am_inf (xm_199) = xj_199 := rfl
theorem xJ_200 : am_inf (xm_200) = xj_200 := rfl
theorem xJ_201 : am_inf (xm_201) = xj_201 := rfl
theorem xJ_202 : am_inf (xm_202) = xj_202 := rfl
theorem xJ_203 : am_inf (xm_203) = xj_203 := rfl
theorem xJ_204 : am_inf (xm_204) = xj_204 := rfl
theorem xJ_205 : am_inf (xm_205) = xj_205 := rfl
theorem xJ_206 : am_inf (xm_206) = xj_206 := rfl
theorem xJ_207 : am_inf (xm_207) = xj_207 := rfl
theorem xJ_208 : am_inf (xm_208) = xj_208 := rfl
theorem xJ_209 : am_inf (xm_209) = xj_209 := rfl
theorem xJ_210 : am_inf (xm_210) = xj_210 := rfl
theorem xJ_211 : am_inf (xm_211) = xj_211 := rfl
theorem xJ_212 : am_inf (xm_212) = xj_212 := rfl
theorem xJ_213 : am_inf (xm_213) = xj_213 := rfl
theorem xJ_214 : am_inf (xm_214) = xj_214 := rfl
theorem xJ_215 : am_inf (xm_215) = xj_215 := rfl
theorem xJ_216 : am_inf (xm_216) = xj_216 := rfl
theorem xJ_217 : am_inf (xm_217) = xj_217 := rfl
theorem xJ_218 : am_inf (xm_218) = xj_218 := rfl
theorem xJ_219 : am_inf (xm_219) = xj_219 := rfl
theorem xJ_220 : am_inf (xm_220) = xj_220 := rfl
theorem xJ_221 : am_inf (xm_221) = xj_221 := rfl
theorem xJ_222 : am_inf (xm_222) = xj_222 := rfl
theorem xJ_223 : am_inf (xm_223) = xj_223 := rfl
theorem xJ_224 : am_inf (xm_224) = xj_224 := rfl
theorem xJ_225 : am_inf (xm_225) = xj_225 := rfl
theorem xJ_226 : am_inf (xm_226) = xj_226 := rfl
theorem xJ_227 : am_inf (xm_227) = xj_227 := rfl
theorem xJ_228 : am_inf (xm_228) = xj_228 := rfl
theorem xJ_229 : am_inf (xm_229) = xj_229 := rfl
theorem xJ_230 : am_inf (xm_230) = xj_230 := rfl
theorem xJ_231 : am_inf (xm_231) = xj_231 := rfl
theorem xJ_232 : am_inf (xm_232) = xj_232 := rfl
theorem xJ_233 : am_inf (xm_233) = xj_233 := rfl
theorem xJ_234 : am_inf (xm_234) = xj_234 := rfl
theorem xJ_235 : am_inf (xm_235) = xj_235 := rfl
theorem xJ_236 : am_inf (xm_236) = xj_236 := rfl
theorem xJ_237 : am_inf (xm_237) = xj_237 := rfl
theorem xJ_238 : am_inf (xm_238) = xj_238 := rfl
theorem xJ_239 : am_inf (xm_239) = xj_239 := rfl
theorem xJ_240 : am_inf (xm_240) = xj_240 := rfl
theorem xJ_241 : am_inf (xm_241) = xj_241 := rfl
theorem xJ_242 : am_inf (xm_242) = xj_242 := rfl
theorem xJ_243 (vz : Value) : am_inf (xm_243 vz) = xj_243 := rfl
theorem xJ_244 (vz : Value) : am_inf (xm_244 vz) = xj_244 := rfl
theorem xJ_245 (vz : Value) : am_inf (xm_245 vz) = xj_245 := rfl
theorem xJ_246 (vz : Value) : am_inf (xm_246 vz) = xj_246 := rfl
theorem xJ_247 : am_inf (xm_247) = xj_247 := rfl
theorem xJ_248 (vz : Value) : am_inf (xm_248 vz) = xj_248 := rfl
theorem xJ_249 : am_inf (xm_249) = xj_249 := rfl
theorem xJ_250 : am_inf (xm_250) = xj_250 := rfl
theorem xJ_251 : am_inf (xm_251) = xj_251 := rfl
theorem xJ_252 : am_inf (xm_252) = xj_252 := rfl
theorem xJ_253 : am_inf (xm_253) = xj_253 := rfl
theorem xJ_254 (vz : Value) : am_inf (xm_254 vz) = xj_254 := rfl
theorem xJ_255 (vz : Value) : am_inf (xm_255 vz) = xj_255 := rfl
theorem xJ_256 : am_inf (xm_256) = xj_256 := rfl
theorem xJ_257 : am_inf (xm_257) = xj_257 := rfl
theorem xJ_258 : am_inf (xm_258) = xj_258 := rfl
theorem xJ_259 : am_inf (xm_259) = xj_259 := rfl
theorem xJ_260 : am_inf (xm_260) = xj_260 := rfl
theorem xJ_261 : am_inf (xm_261) = xj_261 := rfl
theorem xJ_262 (vz : Value) : am_inf (xm_262 vz) = xj_262 := rfl
theorem xJ_263 : am_inf (xm_263) = xj_263 := rfl
theorem xJ_264 : am_inf (xm_264) = xj_264 := rfl
theorem xJ_265 : am_inf (xm_265) = xj_265 := rfl
theorem xJ_266 : am_inf (xm_266) = xj_266 := rfl
theorem xJ_267 : am_inf (xm_267) = xj_267 := rfl
theorem xJ_268 : am_inf (xm_268) = xj_268 := rfl
theorem xJ_269 : am_inf (xm_269) = xj_269 := rfl
theorem xJ_270 : am_inf (xm_270) = xj_270 := rfl
theorem xJ_271 : am_inf (xm_271) = xj_271 := rfl
theorem xinf_eq (vz : Value) : (xms vz).map (fun l => l.map (fun q => (q.1, am_inf q.2))) = xinf := by
  simp only [xms, xinf, List.map_cons, List.map_nil, xJ_0, xJ_1, xJ_2, xJ_3, xJ_4, xJ_5, xJ_6, xJ_7, xJ_8, xJ_9, xJ_10, xJ_11, xJ_12, xJ_13, xJ_14, xJ_15, xJ_16, xJ_17, xJ_18, xJ_19, xJ_20, xJ_21, xJ_22, xJ_23, xJ_24, xJ_25, xJ_26, xJ_27, xJ_28, xJ_29, xJ_30, xJ_31, xJ_32, xJ_33, xJ_34, xJ_35, xJ_36, xJ_37, xJ_38, xJ_39, xJ_40, xJ_41, xJ_42, xJ_43, xJ_44, xJ_45, xJ_46, xJ_47, xJ_48, xJ_49, xJ_50, xJ_51, xJ_52, xJ_53, xJ_54, xJ_55, xJ_56, xJ_57, xJ_58, xJ_59, xJ_60, xJ_61, xJ_62, xJ_63, xJ_64, xJ_65, xJ_66, xJ_67, xJ_68, xJ_69, xJ_70, xJ_71, xJ_72, xJ_73, xJ_74, xJ_75, xJ_76, xJ_77, xJ_78, xJ_79, xJ_80, xJ_81, xJ_82, xJ_83, xJ_84, xJ_85, xJ_86, xJ_87, xJ_88, xJ_89, xJ_90, xJ_91, xJ_92, xJ_93, xJ_94, xJ_95, xJ_96, xJ_97, xJ_98, xJ_99, xJ_100, xJ_101, xJ_102, xJ_103, xJ_104, xJ_105, xJ_106, xJ_107, xJ_108, xJ_109, xJ_110, xJ_111, xJ_112, xJ_113, xJ_114, xJ_115, xJ_116, xJ_117, xJ_118, xJ_119, xJ_120, xJ_121, xJ_122, xJ_123, xJ_124, xJ_125, xJ_126, xJ_127, xJ_128, xJ_129, xJ_130, xJ_131, xJ_132, xJ_133, xJ_134, xJ_135, xJ_136, xJ_137, xJ_138, xJ_139, xJ_140, xJ_141, xJ_142, xJ_143, xJ_144, xJ_145, xJ_146, xJ_147, xJ_148, xJ_149, xJ_150, xJ_151, xJ_152, xJ_153, xJ_154, xJ_155, xJ_156, xJ_157, xJ_158, xJ_159, xJ_160, xJ_161, xJ_162, xJ_163, xJ_164, xJ_165, xJ_166, xJ_167, xJ_168, xJ_169, xJ_170, xJ_171, xJ_172, xJ_173, xJ_174, xJ_175, xJ_176, xJ_177, xJ_178, xJ_179, xJ_180, xJ_181, xJ_182, xJ_183, xJ_184, xJ_185, xJ_186, xJ_187, xJ_188, xJ_189, xJ_190, xJ_191, xJ_192, xJ_193, xJ_194, xJ_195, xJ_196, xJ_197, xJ_198, xJ_199, xJ_200, xJ_201, xJ_202, xJ_203, xJ_204, xJ_205, xJ_206, xJ_207, xJ_208, xJ_209, xJ_210, xJ_211, xJ_212, xJ_213, xJ_214, xJ_215, xJ_216, xJ_217, xJ_218, xJ_219, xJ_220, xJ_221, xJ_222, xJ_223, xJ_224, xJ_225, xJ_226, xJ_227, xJ_228, xJ_229, xJ_230, xJ_231, xJ_232, xJ_233, xJ_234, xJ_235, xJ_236, xJ_237, xJ_238, xJ_239, xJ_240, xJ_241, xJ_242, xJ_243, xJ_244, xJ_245, xJ_246, xJ_247, xJ_248, xJ_249, xJ_250, xJ_251, xJ_252, xJ_253, xJ_254, xJ_255, xJ_256, xJ_257, xJ_258, xJ_259, xJ_260, xJ_261, xJ_262, xJ_263, xJ_264, xJ_265, xJ_266, xJ_267, xJ_268, xJ_269, xJ_270, xJ_271]
theorem xinf_ok {vz : Value} {mi : Nat} {M : am_M} (h : xMT vz mi = some M) : am_lk2 xinf mi = some (am_inf M) := by
  rw [← xinf_eq vz, am_lk2_map]
  unfold xMT at h
  rw [h]
  rfl
def ck_wd (I : am_I) : Cond := match I.2.2.2.2 with
  | [] => .code I.1 I.2.1 I.2.2.1 I.2.2.2.1
  | hh => .codeWith I.1 I.2.1 I.2.2.1 I.2.2.2.1 hh
/-- kind, the receiver's class, operands; places of the words: code, initialized, static or instance, selects -/
abbrev am_W4 : Type := Nat × Nat × Nat × (Nat × Nat) × (Nat × Nat) × (Nat × Nat) × (Nat × Nat)
theorem ck_wd_good (I : am_I) : goodWord (ck_wd I) = true := by
  unfold ck_wd
  split <;> rfl
def ck_me (I : am_I) (e : am_W4) : Bool := plainName I.1.cls && ((ck_at e.2.2.2.2.1 (.initialized I.1.cls) && ((decide (I.1.cls ≠ "java/lang/invoke/MethodHandle") && decide (I.1.cls ≠ "java/lang/invoke/VarHandle")) && (decide (I.2.2.1 ≤ 45) &&
      (match e.1 with
        | 0 => ck_at e.2.2.2.2.2.1 (.static I.1) && decide ((parseMethodDescriptor I.1.desc).map (fun d => d.parameters.length) = some e.2.2.1)
        | 1 => I.2.2.2.2.isEmpty && (decide (I.1.name = "<init>") && (decide (I.2.2.2.1 = none) && (ck_at e.2.2.2.2.2.1 (.instanceMethod I.1) && decide ((parseMethodDescriptor I.1.desc).map (fun d => d.parameters.length + 1) = some e.2.2.1))))
        | 2 => I.2.2.2.2.isEmpty && (ck_at e.2.2.2.2.2.1 (.instanceMethod I.1) && (ck_at e.2.2.2.2.2.2 (.selects I.1.cls I.1 I.1) && ((match xcl[e.2.1]? with
          | some r => decide (r.1 = I.1.cls)
          | none => false) && decide ((parseMethodDescriptor I.1.desc).map (fun d => d.parameters.length + 1) = some e.2.2.1))))
        | 3 => I.2.2.2.2.isEmpty && (ck_at e.2.2.2.2.2.1 (.instanceMethod I.1) && (ck_at e.2.2.2.2.2.2 (.selects I.1.cls I.1 I.1) && decide ((parseMethodDescriptor I.1.desc).map (fun d => d.parameters.length + 1) = some e.2.2.1)))
        | _ => false)))))
def xe_1 : am_W4 := (0, 0, 2, (4, 150), (1, 0), (4, 149), (0, 0))
theorem kO_1 : ck_me xj_1 xe_1 = true := by decide +kernel
theorem kW_1 : ck_wd xj_1 ∈ xTs := List.mem_filter.mpr ⟨xtb_ok (b := 4) (List.mem_of_getElem? (i := 150) rfl), ck_wd_good _⟩
def xe_2 : am_W4 := (0, 0, 4, (4, 153), (1, 0), (4, 152), (0, 0))
theorem kO_2 : ck_me xj_2 xe_2 = true := by decide +kernel
theorem kW_2 : ck_wd xj_2 ∈ xTs := List.mem_filter.mpr ⟨xtb_ok (b := 4) (List.mem_of_getElem? (i := 153) rfl), ck_wd_good _⟩
def xe_3 : am_W4 := (0, 0, 4, (5, 11), (1, 0), (5, 10), (0, 0))
theorem kO_3 : ck_me xj_3 xe_3 = true := by decide +kernel
theorem kW_3 : ck_wd xj_3 ∈ xTs := List.mem_filter.mpr ⟨xtb_ok (b := 5) (List.mem_of_getElem? (i := 11) rfl), ck_wd_good _⟩
def xe_4 : am_W4 := (0, 0, 5, (5, 31), (1, 0), (5, 30), (0, 0))
theorem kO_4 : ck_me xj_4 xe_4 = true := by decide +kernel
theorem kW_4 : ck_wd xj_4 ∈ xTs := List.mem_filter.mpr ⟨xtb_ok (b := 5) (List.mem_of_getElem? (i := 31) rfl), ck_wd_good _⟩
def xe_5 : am_W4 := (0, 0, 2, (5, 74), (1, 0), (5, 73), (0, 0))
theorem kO_5 : ck_me xj_5 xe_5 = true := by decide +kernel
theorem kW_5 : ck_wd xj_5 ∈ xTs := List.mem_filter.mpr ⟨xtb_ok (b := 5) (List.mem_of_getElem? (i := 74) rfl), ck_wd_good _⟩
def xe_6 : am_W4 := (0, 0, 2, (5, 82), (1, 0), (5, 81), (0, 0))
theorem kO_6 : ck_me xj_6 xe_6 = true := by decide +kernel
theorem kW_6 : ck_wd xj_6 ∈ xTs := List.mem_filter.mpr ⟨xtb_ok (b := 5) (List.mem_of_getElem? (i := 82) rfl), ck_wd_good _⟩
def xe_7 : am_W4 := (0, 0, 2, (5, 106), (1, 0), (5, 105), (0, 0))
theorem kO_7 : ck_me xj_7 xe_7 = true := by decide +kernel
theorem kW_7 : ck_wd xj_7 ∈ xTs := List.mem_filter.mpr ⟨xtb_ok (b := 5) (List.mem_of_getElem? (i := 106) rfl), ck_wd_good _⟩
def xe_8 : am_W4 := (0, 0, 2, (5, 114), (1, 0), (5, 113), (0, 0))
theorem kO_8 : ck_me xj_8 xe_8 = true := by decide +kernel
theorem kW_8 : ck_wd xj_8 ∈ xTs := List.mem_filter.mpr ⟨xtb_ok (b := 5) (List.mem_of_getElem? (i := 114) rfl), ck_wd_good _⟩
def xe_9 : am_W4 := (0, 0, 4, (5, 123), (1, 0), (5, 122), (0, 0))
theorem kO_9 : ck_me xj_9 xe_9 = true := by decide +kernel
theorem kW_9 : ck_wd xj_9 ∈ xTs := List.mem_filter.mpr ⟨xtb_ok (b := 5) (List.mem_of_getElem? (i := 123) rfl), ck_wd_good _⟩
def xe_10 : am_W4 := (0, 0, 2, (5, 135), (1, 0), (5, 134), (0, 0))
theorem kO_10 : ck_me xj_10 xe_10 = true := by decide +kernel
theorem kW_10 : ck_wd xj_10 ∈ xTs := List.mem_filter.mpr ⟨xtb_ok (b := 5) (List.mem_of_getElem? (i := 135) rfl), ck_wd_good _⟩
def xe_11 : am_W4 := (0, 0, 3, (5, 144), (1, 0), (5, 143), (0, 0))
theorem kO_11 : ck_me xj_11 xe_11 = true := by decide +kernel
theorem kW_11 : ck_wd xj_11 ∈ xTs := List.mem_filter.mpr ⟨xtb_ok (b := 5) (List.mem_of_getElem? (i := 144) rfl), ck_wd_good _⟩
def xe_12 : am_W4 := (0, 0, 2, (5, 152), (1, 0), (5, 151), (0, 0))
theorem kO_12 : ck_me xj_12 xe_12 = true := by decide +kernel
theorem kW_12 : ck_wd xj_12 ∈ xTs := List.mem_filter.mpr ⟨xtb_ok (b := 5) (List.mem_of_getElem? (i := 152) rfl), ck_wd_good _⟩
def xe_13 : am_W4 := (0, 0, 2, (5, 168), (1, 0), (5, 167), (0, 0))
theorem kO_13 : ck_me xj_13 xe_13 = true := by decide +kernel
theorem kW_13 : ck_wd xj_13 ∈ xTs := List.mem_filter.mpr ⟨xtb_ok (b := 5) (List.mem_of_getElem? (i := 168) rfl), ck_wd_good _⟩
def xe_14 : am_W4 := (1, 0, 2, (1, 30), (1, 1), (1, 29), (0, 0))
theorem kO_14 : ck_me xj_14 xe_14 = true := by decide +kernel
theorem kW_14 : ck_wd xj_14 ∈ xTs := List.mem_filter.mpr ⟨xtb_ok (b := 1) (List.mem_of_getElem? (i := 30) rfl), ck_wd_good _⟩
def xe_15 : am_W4 := (2, 0, 2, (2, 113), (1, 1), (2, 111), (2, 112))
theorem kO_15 : ck_me xj_15 xe_15 = true := by decide +kernel
theorem kW_15 : ck_wd xj_15 ∈ xTs := List.mem_filter.mpr ⟨xtb_ok (b := 2) (List.mem_of_getElem? (i := 113) rfl), ck_wd_good _⟩
def xe_16 : am_W4 := (2, 0, 1, (2, 117), (1, 1), (2, 115), (2, 116))
theorem kO_16 : ck_me xj_16 xe_16 = true := by decide +kernel
theorem kW_16 : ck_wd xj_16 ∈ xTs := List.mem_filter.mpr ⟨xtb_ok (b := 2) (List.mem_of_getElem? (i := 117) rfl), ck_wd_good _⟩
def xe_17 : am_W4 := (2, 0, 2, (2, 121), (1, 1), (2, 120), (11, 0))
theorem kO_17 : ck_me xj_17 xe_17 = true := by decide +kernel
theorem kW_17 : ck_wd xj_17 ∈ xTs := List.mem_filter.mpr ⟨xtb_ok (b := 2) (List.mem_of_getElem? (i := 121) rfl), ck_wd_good _⟩
def xe_18 : am_W4 := (0, 0, 1, (2, 144), (1, 1), (2, 143), (0, 0))
theorem kO_18 : ck_me xj_18 xe_18 = true := by decide +kernel
theorem kW_18 : ck_wd xj_18 ∈ xTs := List.mem_filter.mpr ⟨xtb_ok (b := 2) (List.mem_of_getElem? (i := 144) rfl), ck_wd_good _⟩
def xe_19 : am_W4 := (0, 0, 1, (2, 159), (1, 1), (2, 158), (0, 0))
theorem kO_19 : ck_me xj_19 xe_19 = true := by decide +kernel
theorem kW_19 : ck_wd xj_19 ∈ xTs := List.mem_filter.mpr ⟨xtb_ok (b := 2) (List.mem_of_getElem? (i := 159) rfl), ck_wd_good _⟩
def xe_20 : am_W4 := (0, 0, 1, (2, 164), (1, 1), (2, 163), (0, 0))
theorem kO_20 : ck_me xj_20 xe_20 = true := by decide +kernel
theorem kW_20 : ck_wd xj_20 ∈ xTs := List.mem_filter.mpr ⟨xtb_ok (b := 2) (List.mem_of_getElem? (i := 164) rfl), ck_wd_good _⟩
def xe_21 : am_W4 := (0, 0, 1, (3, 52), (1, 1), (3, 51), (0, 0))
theorem kO_21 : ck_me xj_21 xe_21 = true := by decide +kernel
theorem kW_21 : ck_wd xj_21 ∈ xTs := List.mem_filter.mpr ⟨xtb_ok (b := 3) (List.mem_of_getElem? (i := 52) rfl), ck_wd_good _⟩
def xe_22 : am_W4 := (2, 0, 2, (3, 176), (1, 1), (3, 175), (13, 0))
theorem kO_22 : ck_me xj_22 xe_22 = true := by decide +kernel
theorem kW_22 : ck_wd xj_22 ∈ xTs := List.mem_filter.mpr ⟨xtb_ok (b := 3) (List.mem_of_getElem? (i := 176) rfl), ck_wd_good _⟩
def xe_23 : am_W4 := (2, 0, 1, (3, 181), (1, 1), (3, 179), (3, 180))
theorem kO_23 : ck_me xj_23 xe_23 = true := by decide +kernel
theorem kW_23 : ck_wd xj_23 ∈ xTs := List.mem_filter.mpr ⟨xtb_ok (b := 3) (List.mem_of_getElem? (i := 181) rfl), ck_wd_good _⟩
def xe_24 : am_W4 := (2, 0, 1, (3, 185), (1, 1), (3, 184), (13, 1))
theorem kO_24 : ck_me xj_24 xe_24 = true := by decide +kernel
theorem kW_24 : ck_wd xj_24 ∈ xTs := List.mem_filter.mpr ⟨xtb_ok (b := 3) (List.mem_of_getElem? (i := 185) rfl), ck_wd_good _⟩
def xe_25 : am_W4 := (2, 0, 3, (3, 189), (1, 1), (3, 188), (13, 2))
theorem kO_25 : ck_me xj_25 xe_25 = true := by decide +kernel
theorem kW_25 : ck_wd xj_25 ∈ xTs := List.mem_filter.mpr ⟨xtb_ok (b := 3) (List.mem_of_getElem? (i := 189) rfl), ck_wd_good _⟩
def xe_26 : am_W4 := (2, 0, 3, (3, 197), (1, 1), (3, 196), (13, 3))
theorem kO_26 : ck_me xj_26 xe_26 = true := by decide +kernel
theorem kW_26 : ck_wd xj_26 ∈ xTs := List.mem_filter.mpr ⟨xtb_ok (b := 3) (List.mem_of_getElem? (i := 197) rfl), ck_wd_good _⟩
def xe_27 : am_W4 := (2, 0, 1, (4, 91), (1, 1), (4, 89), (4, 90))
theorem kO_27 : ck_me xj_27 xe_27 = true := by decide +kernel
theorem kW_27 : ck_wd xj_27 ∈ xTs := List.mem_filter.mpr ⟨xtb_ok (b := 4) (List.mem_of_getElem? (i := 91) rfl), ck_wd_good _⟩
def xe_28 : am_W4 := (2, 0, 1, (4, 101), (1, 1), (4, 99), (4, 100))
theorem kO_28 : ck_me xj_28 xe_28 = true := by decide +kernel
theorem kW_28 : ck_wd xj_28 ∈ xTs := List.mem_filter.mpr ⟨xtb_ok (b := 4) (List.mem_of_getElem? (i := 101) rfl), ck_wd_good _⟩
def xe_29 : am_W4 := (2, 0, 1, (4, 139), (1, 1), (4, 137), (4, 138))
theorem kO_29 : ck_me xj_29 xe_29 = true := by decide +kernel
theorem kW_29 : ck_wd xj_29 ∈ xTs := List.mem_filter.mpr ⟨xtb_ok (b := 4) (List.mem_of_getElem? (i := 139) rfl), ck_wd_good _⟩
def xe_30 : am_W4 := (2, 0, 2, (4, 143), (1, 1), (4, 141), (4, 142))
theorem kO_30 : ck_me xj_30 xe_30 = true := by decide +kernel
theorem kW_30 : ck_wd xj_30 ∈ xTs := List.mem_filter.mpr ⟨xtb_ok (b := 4) (List.mem_of_getElem? (i := 143) rfl), ck_wd_good _⟩
def xe_31 : am_W4 := (2, 0, 2, (4, 147), (1, 1), (4, 145), (4, 146))
theorem kO_31 : ck_me xj_31 xe_31 = true := by decide +kernel
theorem kW_31 : ck_wd xj_31 ∈ xTs := List.mem_filter.mpr ⟨xtb_ok (b := 4) (List.mem_of_getElem? (i := 147) rfl), ck_wd_good _⟩
def xe_32 : am_W4 := (2, 0, 3, (4, 159), (1, 1), (4, 157), (4, 158))
theorem kO_32 : ck_me xj_32 xe_32 = true := by decide +kernel
theorem kW_32 : ck_wd xj_32 ∈ xTs := List.mem_filter.mpr ⟨xtb_ok (b := 4) (List.mem_of_getElem? (i := 159) rfl), ck_wd_good _⟩
def xe_33 : am_W4 := (2, 0, 3, (5, 15), (1, 1), (5, 13), (5, 14))
theorem kO_33 : ck_me xj_33 xe_33 = true := by decide +kernel
theorem kW_33 : ck_wd xj_33 ∈ xTs := List.mem_filter.mpr ⟨xtb_ok (b := 5) (List.mem_of_getElem? (i := 15) rfl), ck_wd_good _⟩
def xe_34 : am_W4 := (0, 0, 1, (5, 18), (1, 1), (5, 17), (0, 0))
theorem kO_34 : ck_me xj_34 xe_34 = true := by decide +kernel
theorem kW_34 : ck_wd xj_34 ∈ xTs := List.mem_filter.mpr ⟨xtb_ok (b := 5) (List.mem_of_getElem? (i := 18) rfl), ck_wd_good _⟩
def xe_35 : am_W4 := (2, 0, 4, (5, 36), (1, 1), (5, 34), (5, 35))
theorem kO_35 : ck_me xj_35 xe_35 = true := by decide +kernel
theorem kW_35 : ck_wd xj_35 ∈ xTs := List.mem_filter.mpr ⟨xtb_ok (b := 5) (List.mem_of_getElem? (i := 36) rfl), ck_wd_good _⟩
def xe_36 : am_W4 := (2, 0, 1, (5, 78), (1, 1), (5, 76), (5, 77))
theorem kO_36 : ck_me xj_36 xe_36 = true := by decide +kernel
theorem kW_36 : ck_wd xj_36 ∈ xTs := List.mem_filter.mpr ⟨xtb_ok (b := 5) (List.mem_of_getElem? (i := 78) rfl), ck_wd_good _⟩
def xe_37 : am_W4 := (2, 0, 1, (5, 87), (1, 1), (5, 85), (5, 86))
theorem kO_37 : ck_me xj_37 xe_37 = true := by decide +kernel
theorem kW_37 : ck_wd xj_37 ∈ xTs := List.mem_filter.mpr ⟨xtb_ok (b := 5) (List.mem_of_getElem? (i := 87) rfl), ck_wd_good _⟩
def xe_38 : am_W4 := (2, 0, 1, (5, 110), (1, 1), (5, 108), (5, 109))
theorem kO_38 : ck_me xj_38 xe_38 = true := by decide +kernel
theorem kW_38 : ck_wd xj_38 ∈ xTs := List.mem_filter.mpr ⟨xtb_ok (b := 5) (List.mem_of_getElem? (i := 110) rfl), ck_wd_good _⟩
def xe_39 : am_W4 := (2, 0, 1, (5, 118), (1, 1), (5, 116), (5, 117))
theorem kO_39 : ck_me xj_39 xe_39 = true := by decide +kernel
theorem kW_39 : ck_wd xj_39 ∈ xTs := List.mem_filter.mpr ⟨xtb_ok (b := 5) (List.mem_of_getElem? (i := 118) rfl), ck_wd_good _⟩
def xe_40 : am_W4 := (2, 0, 3, (5, 127), (1, 1), (5, 125), (5, 126))
theorem kO_40 : ck_me xj_40 xe_40 = true := by decide +kernel
theorem kW_40 : ck_wd xj_40 ∈ xTs := List.mem_filter.mpr ⟨xtb_ok (b := 5) (List.mem_of_getElem? (i := 127) rfl), ck_wd_good _⟩
def xe_41 : am_W4 := (2, 0, 1, (5, 139), (1, 1), (5, 137), (5, 138))
theorem kO_41 : ck_me xj_41 xe_41 = true := by decide +kernel
theorem kW_41 : ck_wd xj_41 ∈ xTs := List.mem_filter.mpr ⟨xtb_ok (b := 5) (List.mem_of_getElem? (i := 139) rfl), ck_wd_good _⟩
def xe_42 : am_W4 := (2, 0, 2, (5, 148), (1, 1), (5, 146), (5, 147))
theorem kO_42 : ck_me xj_42 xe_42 = true := by decide +kernel
theorem kW_42 : ck_wd xj_42 ∈ xTs := List.mem_filter.mpr ⟨xtb_ok (b := 5) (List.mem_of_getElem? (i := 148) rfl), ck_wd_good _⟩
def xe_43 : am_W4 := (2, 0, 1, (5, 156), (1, 1), (5, 154), (5, 155))
theorem kO_43 : ck_me xj_43 xe_43 = true := by decide +kernel
theorem kW_43 : ck_wd xj_43 ∈ xTs := List.mem_filter.mpr ⟨xtb_ok (b := 5) (List.mem_of_getElem? (i := 156) rfl), ck_wd_good _⟩
def xe_44 : am_W4 := (2, 0, 1, (5, 160), (1, 1), (5, 159), (15, 4))
theorem kO_44 : ck_me xj_44 xe_44 = true := by decide +kernel
theorem kW_44 : ck_wd xj_44 ∈ xTs := List.mem_filter.mpr ⟨xtb_ok (b := 5) (List.mem_of_getElem? (i := 160) rfl), ck_wd_good _⟩
def xe_45 : am_W4 := (2, 0, 2, (5, 165), (1, 1), (5, 164), (15, 5))
theorem kO_45 : ck_me xj_45 xe_45 = true := by decide +kernel
theorem kW_45 : ck_wd xj_45 ∈ xTs := List.mem_filter.mpr ⟨xtb_ok (b := 5) (List.mem_of_getElem? (i := 165) rfl), ck_wd_good _⟩
def xe_46 : am_W4 := (2, 0, 1, (5, 172), (1, 1), (5, 170), (5, 171))
theorem kO_46 : ck_me xj_46 xe_46 = true := by decide +kernel
theorem kW_46 : ck_wd xj_46 ∈ xTs := List.mem_filter.mpr ⟨xtb_ok (b := 5) (List.mem_of_getElem? (i := 172) rfl), ck_wd_good _⟩
def xe_47 : am_W4 := (1, 0, 2, (1, 44), (1, 2), (1, 43), (0, 0))
theorem kO_47 : ck_me xj_47 xe_47 = true := by decide +kernel
theorem kW_47 : ck_wd xj_47 ∈ xTs := List.mem_filter.mpr ⟨xtb_ok (b := 1) (List.mem_of_getElem? (i := 44) rfl), ck_wd_good _⟩
def xe_48 : am_W4 := (2, 1, 2, (3, 76), (1, 2), (3, 74), (3, 75))
theorem kO_48 : ck_me xj_48 xe_48 = true := by decide +kernel
theorem kW_48 : ck_wd xj_48 ∈ xTs := List.mem_filter.mpr ⟨xtb_ok (b := 3) (List.mem_of_getElem? (i := 76) rfl), ck_wd_good _⟩
def xe_49 : am_W4 := (2, 1, 1, (3, 193), (1, 2), (3, 191), (3, 192))
theorem kO_49 : ck_me xj_49 xe_49 = true := by decide +kernel
theorem kW_49 : ck_wd xj_49 ∈ xTs := List.mem_filter.mpr ⟨xtb_ok (b := 3) (List.mem_of_getElem? (i := 193) rfl), ck_wd_good _⟩
def xe_50 : am_W4 := (2, 1, 1, (3, 201), (1, 2), (3, 199), (3, 200))
theorem kO_50 : ck_me xj_50 xe_50 = true := by decide +kernel
theorem kW_50 : ck_wd xj_50 ∈ xTs := List.mem_filter.mpr ⟨xtb_ok (b := 3) (List.mem_of_getElem? (i := 201) rfl), ck_wd_good _⟩
def xe_51 : am_W4 := (2, 1, 2, (3, 210), (1, 2), (3, 208), (3, 209))
theorem kO_51 : ck_me xj_51 xe_51 = true := by decide +kernel
theorem kW_51 : ck_wd xj_51 ∈ xTs := List.mem_filter.mpr ⟨xtb_ok (b := 3) (List.mem_of_getElem? (i := 210) rfl), ck_wd_good _⟩
def xe_52 : am_W4 := (2, 1, 2, (3, 233), (1, 2), (3, 231), (3, 232))
theorem kO_52 : ck_me xj_52 xe_52 = true := by decide +kernel
theorem kW_52 : ck_wd xj_52 ∈ xTs := List.mem_filter.mpr ⟨xtb_ok (b := 3) (List.mem_of_getElem? (i := 233) rfl), ck_wd_good _⟩
def xe_53 : am_W4 := (2, 1, 2, (4, 122), (1, 2), (4, 120), (4, 121))
theorem kO_53 : ck_me xj_53 xe_53 = true := by decide +kernel
theorem kW_53 : ck_wd xj_53 ∈ xTs := List.mem_filter.mpr ⟨xtb_ok (b := 4) (List.mem_of_getElem? (i := 122) rfl), ck_wd_good _⟩
def xe_54 : am_W4 := (2, 1, 3, (5, 28), (1, 2), (5, 26), (5, 27))
theorem kO_54 : ck_me xj_54 xe_54 = true := by decide +kernel
theorem kW_54 : ck_wd xj_54 ∈ xTs := List.mem_filter.mpr ⟨xtb_ok (b := 5) (List.mem_of_getElem? (i := 28) rfl), ck_wd_good _⟩
def xe_55 : am_W4 := (2, 1, 3, (5, 40), (1, 2), (5, 38), (5, 39))
theorem kO_55 : ck_me xj_55 xe_55 = true := by decide +kernel
theorem kW_55 : ck_wd xj_55 ∈ xTs := List.mem_filter.mpr ⟨xtb_ok (b := 5) (List.mem_of_getElem? (i := 40) rfl), ck_wd_good _⟩
def xe_56 : am_W4 := (2, 1, 3, (5, 63), (1, 2), (5, 61), (5, 62))
theorem kO_56 : ck_me xj_56 xe_56 = true := by decide +kernel
theorem kW_56 : ck_wd xj_56 ∈ xTs := List.mem_filter.mpr ⟨xtb_ok (b := 5) (List.mem_of_getElem? (i := 63) rfl), ck_wd_good _⟩
def xe_57 : am_W4 := (2, 1, 2, (5, 67), (1, 2), (5, 66), (15, 2))
theorem kO_57 : ck_me xj_57 xe_57 = true := by decide +kernel
theorem kW_57 : ck_wd xj_57 ∈ xTs := List.mem_filter.mpr ⟨xtb_ok (b := 5) (List.mem_of_getElem? (i := 67) rfl), ck_wd_good _⟩
def xe_58 : am_W4 := (2, 1, 2, (5, 71), (1, 2), (5, 70), (15, 3))
theorem kO_58 : ck_me xj_58 xe_58 = true := by decide +kernel
theorem kW_58 : ck_wd xj_58 ∈ xTs := List.mem_filter.mpr ⟨xtb_ok (b := 5) (List.mem_of_getElem? (i := 71) rfl), ck_wd_good _⟩
def xe_59 : am_W4 := (2, 1, 3, (5, 131), (1, 2), (5, 129), (5, 130))
theorem kO_59 : ck_me xj_59 xe_59 = true := by decide +kernel
theorem kW_59 : ck_wd xj_59 ∈ xTs := List.mem_filter.mpr ⟨xtb_ok (b := 5) (List.mem_of_getElem? (i := 131) rfl), ck_wd_good _⟩
def xe_60 : am_W4 := (1, 0, 1, (1, 94), (1, 4), (1, 93), (0, 0))
theorem kO_60 : ck_me xj_60 xe_60 = true := by decide +kernel
theorem kW_60 : ck_wd xj_60 ∈ xTs := List.mem_filter.mpr ⟨xtb_ok (b := 1) (List.mem_of_getElem? (i := 94) rfl), ck_wd_good _⟩
def xe_61 : am_W4 := (2, 2, 1, (2, 133), (1, 4), (2, 131), (2, 132))
theorem kO_61 : ck_me xj_61 xe_61 = true := by decide +kernel
theorem kW_61 : ck_wd xj_61 ∈ xTs := List.mem_filter.mpr ⟨xtb_ok (b := 2) (List.mem_of_getElem? (i := 133) rfl), ck_wd_good _⟩
def xe_62 : am_W4 := (2, 2, 1, (2, 137), (1, 4), (2, 135), (2, 136))
theorem kO_62 : ck_me xj_62 xe_62 = true := by decide +kernel
theorem kW_62 : ck_wd xj_62 ∈ xTs := List.mem_filter.mpr ⟨xtb_ok (b := 2) (List.mem_of_getElem? (i := 137) rfl), ck_wd_good _⟩
def xe_63 : am_W4 := (2, 2, 2, (2, 141), (1, 4), (2, 140), (11, 1))
theorem kO_63 : ck_me xj_63 xe_63 = true := by decide +kernel
theorem kW_63 : ck_wd xj_63 ∈ xTs := List.mem_filter.mpr ⟨xtb_ok (b := 2) (List.mem_of_getElem? (i := 141) rfl), ck_wd_good _⟩
def xe_64 : am_W4 := (2, 2, 1, (2, 148), (1, 4), (2, 147), (11, 2))
theorem kO_64 : ck_me xj_64 xe_64 = true := by decide +kernel
theorem kW_64 : ck_wd xj_64 ∈ xTs := List.mem_filter.mpr ⟨xtb_ok (b := 2) (List.mem_of_getElem? (i := 148) rfl), ck_wd_good _⟩
def xe_65 : am_W4 := (2, 2, 2, (2, 152), (1, 4), (2, 151), (11, 3))
theorem kO_65 : ck_me xj_65 xe_65 = true := by decide +kernel
theorem kW_65 : ck_wd xj_65 ∈ xTs := List.mem_filter.mpr ⟨xtb_ok (b := 2) (List.mem_of_getElem? (i := 152) rfl), ck_wd_good _⟩
def xe_66 : am_W4 := (2, 2, 3, (2, 156), (1, 4), (2, 155), (11, 4))
theorem kO_66 : ck_me xj_66 xe_66 = true := by decide +kernel
theorem kW_66 : ck_wd xj_66 ∈ xTs := List.mem_filter.mpr ⟨xtb_ok (b := 2) (List.mem_of_getElem? (i := 156) rfl), ck_wd_good _⟩
def xe_67 : am_W4 := (2, 2, 1, (2, 168), (1, 4), (2, 167), (11, 5))
theorem kO_67 : ck_me xj_67 xe_67 = true := by decide +kernel
theorem kW_67 : ck_wd xj_67 ∈ xTs := List.mem_filter.mpr ⟨xtb_ok (b := 2) (List.mem_of_getElem? (i := 168) rfl), ck_wd_good _⟩
def xe_68 : am_W4 := (2, 2, 1, (2, 172), (1, 4), (2, 171), (11, 6))
theorem kO_68 : ck_me xj_68 xe_68 = true := by decide +kernel
theorem kW_68 : ck_wd xj_68 ∈ xTs := List.mem_filter.mpr ⟨xtb_ok (b := 2) (List.mem_of_getElem? (i := 172) rfl), ck_wd_good _⟩
def xe_69 : am_W4 := (2, 2, 1, (3, 88), (1, 4), (3, 86), (3, 87))
theorem kO_69 : ck_me xj_69 xe_69 = true := by decide +kernel
theorem kW_69 : ck_wd xj_69 ∈ xTs := List.mem_filter.mpr ⟨xtb_ok (b := 3) (List.mem_of_getElem? (i := 88) rfl), ck_wd_good _⟩
def xe_70 : am_W4 := (2, 2, 1, (3, 172), (1, 4), (3, 170), (3, 171))
theorem kO_70 : ck_me xj_70 xe_70 = true := by decide +kernel
theorem kW_70 : ck_wd xj_70 ∈ xTs := List.mem_filter.mpr ⟨xtb_ok (b := 3) (List.mem_of_getElem? (i := 172) rfl), ck_wd_good _⟩
def xe_71 : am_W4 := (2, 2, 3, (5, 7), (1, 4), (5, 5), (5, 6))
theorem kO_71 : ck_me xj_71 xe_71 = true := by decide +kernel
theorem kW_71 : ck_wd xj_71 ∈ xTs := List.mem_filter.mpr ⟨xtb_ok (b := 5) (List.mem_of_getElem? (i := 7) rfl), ck_wd_good _⟩
def xe_72 : am_W4 := (1, 0, 3, (1, 131), (1, 5), (1, 130), (0, 0))
theorem kO_72 : ck_me xj_72 xe_72 = true := by decide +kernel
theorem kW_72 : ck_wd xj_72 ∈ xTs := List.mem_filter.mpr ⟨xtb_ok (b := 1) (List.mem_of_getElem? (i := 131) rfl), ck_wd_good _⟩
def xe_73 : am_W4 := (2, 3, 3, (2, 125), (1, 5), (2, 123), (2, 124))
theorem kO_73 : ck_me xj_73 xe_73 = true := by decide +kernel
theorem kW_73 : ck_wd xj_73 ∈ xTs := List.mem_filter.mpr ⟨xtb_ok (b := 2) (List.mem_of_getElem? (i := 125) rfl), ck_wd_good _⟩
def xe_74 : am_W4 := (2, 3, 3, (3, 41), (1, 5), (3, 40), (11, 7))
theorem kO_74 : ck_me xj_74 xe_74 = true := by decide +kernel
theorem kW_74 : ck_wd xj_74 ∈ xTs := List.mem_filter.mpr ⟨xtb_ok (b := 3) (List.mem_of_getElem? (i := 41) rfl), ck_wd_good _⟩
def xe_75 : am_W4 := (2, 3, 2, (3, 45), (1, 5), (3, 44), (11, 8))
theorem kO_75 : ck_me xj_75 xe_75 = true := by decide +kernel
theorem kW_75 : ck_wd xj_75 ∈ xTs := List.mem_filter.mpr ⟨xtb_ok (b := 3) (List.mem_of_getElem? (i := 45) rfl), ck_wd_good _⟩
def xe_76 : am_W4 := (2, 3, 2, (3, 49), (1, 5), (3, 48), (11, 9))
theorem kO_76 : ck_me xj_76 xe_76 = true := by decide +kernel
theorem kW_76 : ck_wd xj_76 ∈ xTs := List.mem_filter.mpr ⟨xtb_ok (b := 3) (List.mem_of_getElem? (i := 49) rfl), ck_wd_good _⟩
def xe_77 : am_W4 := (2, 3, 2, (3, 60), (1, 5), (3, 59), (11, 10))
theorem kO_77 : ck_me xj_77 xe_77 = true := by decide +kernel
theorem kW_77 : ck_wd xj_77 ∈ xTs := List.mem_filter.mpr ⟨xtb_ok (b := 3) (List.mem_of_getElem? (i := 60) rfl), ck_wd_good _⟩
def xe_78 : am_W4 := (2, 3, 1, (3, 64), (1, 5), (3, 63), (11, 11))
theorem kO_78 : ck_me xj_78 xe_78 = true := by decide +kernel
theorem kW_78 : ck_wd xj_78 ∈ xTs := List.mem_filter.mpr ⟨xtb_ok (b := 3) (List.mem_of_getElem? (i := 64) rfl), ck_wd_good _⟩
def xe_79 : am_W4 := (2, 3, 4, (3, 68), (1, 5), (3, 67), (11, 12))
theorem kO_79 : ck_me xj_79 xe_79 = true := by decide +kernel
theorem kW_79 : ck_wd xj_79 ∈ xTs := List.mem_filter.mpr ⟨xtb_ok (b := 3) (List.mem_of_getElem? (i := 68) rfl), ck_wd_good _⟩
def xe_80 : am_W4 := (2, 3, 2, (3, 72), (1, 5), (3, 71), (11, 13))
theorem kO_80 : ck_me xj_80 xe_80 = true := by decide +kernel
theorem kW_80 : ck_wd xj_80 ∈ xTs := List.mem_filter.mpr ⟨xtb_ok (b := 3) (List.mem_of_getElem? (i := 72) rfl), ck_wd_good _⟩
def xe_81 : am_W4 := (2, 3, 1, (3, 80), (1, 5), (3, 79), (11, 14))
theorem kO_81 : ck_me xj_81 xe_81 = true := by decide +kernel
theorem kW_81 : ck_wd xj_81 ∈ xTs := List.mem_filter.mpr ⟨xtb_ok (b := 3) (List.mem_of_getElem? (i := 80) rfl), ck_wd_good _⟩
def xe_82 : am_W4 := (2, 3, 2, (3, 84), (1, 5), (3, 83), (11, 15))
theorem kO_82 : ck_me xj_82 xe_82 = true := by decide +kernel
theorem kW_82 : ck_wd xj_82 ∈ xTs := List.mem_filter.mpr ⟨xtb_ok (b := 3) (List.mem_of_getElem? (i := 84) rfl), ck_wd_good _⟩
def xe_83 : am_W4 := (2, 3, 1, (3, 92), (1, 5), (3, 91), (12, 0))
theorem kO_83 : ck_me xj_83 xe_83 = true := by decide +kernel
theorem kW_83 : ck_wd xj_83 ∈ xTs := List.mem_filter.mpr ⟨xtb_ok (b := 3) (List.mem_of_getElem? (i := 92) rfl), ck_wd_good _⟩
def xe_84 : am_W4 := (2, 3, 2, (3, 96), (1, 5), (3, 95), (12, 1))
theorem kO_84 : ck_me xj_84 xe_84 = true := by decide +kernel
theorem kW_84 : ck_wd xj_84 ∈ xTs := List.mem_filter.mpr ⟨xtb_ok (b := 3) (List.mem_of_getElem? (i := 96) rfl), ck_wd_good _⟩
def xe_85 : am_W4 := (2, 3, 2, (3, 100), (1, 5), (3, 99), (12, 2))
theorem kO_85 : ck_me xj_85 xe_85 = true := by decide +kernel
theorem kW_85 : ck_wd xj_85 ∈ xTs := List.mem_filter.mpr ⟨xtb_ok (b := 3) (List.mem_of_getElem? (i := 100) rfl), ck_wd_good _⟩
def xe_86 : am_W4 := (2, 3, 2, (3, 104), (1, 5), (3, 103), (12, 3))
theorem kO_86 : ck_me xj_86 xe_86 = true := by decide +kernel
theorem kW_86 : ck_wd xj_86 ∈ xTs := List.mem_filter.mpr ⟨xtb_ok (b := 3) (List.mem_of_getElem? (i := 104) rfl), ck_wd_good _⟩
def xe_87 : am_W4 := (2, 3, 2, (3, 108), (1, 5), (3, 107), (12, 4))
theorem kO_87 : ck_me xj_87 xe_87 = true := by decide +kernel
theorem kW_87 : ck_wd xj_87 ∈ xTs := List.mem_filter.mpr ⟨xtb_ok (b := 3) (List.mem_of_getElem? (i := 108) rfl), ck_wd_good _⟩
def xe_88 : am_W4 := (2, 3, 2, (3, 112), (1, 5), (3, 111), (12, 5))
theorem kO_88 : ck_me xj_88 xe_88 = true := by decide +kernel
theorem kW_88 : ck_wd xj_88 ∈ xTs := List.mem_filter.mpr ⟨xtb_ok (b := 3) (List.mem_of_getElem? (i := 112) rfl), ck_wd_good _⟩
def xe_89 : am_W4 := (2, 3, 1, (3, 116), (1, 5), (3, 115), (12, 6))
theorem kO_89 : ck_me xj_89 xe_89 = true := by decide +kernel
theorem kW_89 : ck_wd xj_89 ∈ xTs := List.mem_filter.mpr ⟨xtb_ok (b := 3) (List.mem_of_getElem? (i := 116) rfl), ck_wd_good _⟩
def xe_90 : am_W4 := (2, 3, 2, (3, 120), (1, 5), (3, 119), (12, 7))
theorem kO_90 : ck_me xj_90 xe_90 = true := by decide +kernel
theorem kW_90 : ck_wd xj_90 ∈ xTs := List.mem_filter.mpr ⟨xtb_ok (b := 3) (List.mem_of_getElem? (i := 120) rfl), ck_wd_good _⟩
def xe_91 : am_W4 := (0, 0, 1, (3, 123), (1, 5), (3, 122), (0, 0))
theorem kO_91 : ck_me xj_91 xe_91 = true := by decide +kernel
theorem kW_91 : ck_wd xj_91 ∈ xTs := List.mem_filter.mpr ⟨xtb_ok (b := 3) (List.mem_of_getElem? (i := 123) rfl), ck_wd_good _⟩
def xe_92 : am_W4 := (2, 3, 1, (3, 127), (1, 5), (3, 126), (12, 8))
theorem kO_92 : ck_me xj_92 xe_92 = true := by decide +kernel
theorem kW_92 : ck_wd xj_92 ∈ xTs := List.mem_filter.mpr ⟨xtb_ok (b := 3) (List.mem_of_getElem? (i := 127) rfl), ck_wd_good _⟩
def xe_93 : am_W4 := (2, 3, 1, (3, 131), (1, 5), (3, 130), (12, 9))
theorem kO_93 : ck_me xj_93 xe_93 = true := by decide +kernel
theorem kW_93 : ck_wd xj_93 ∈ xTs := List.mem_filter.mpr ⟨xtb_ok (b := 3) (List.mem_of_getElem? (i := 131) rfl), ck_wd_good _⟩
def xe_94 : am_W4 := (2, 3, 2, (3, 135), (1, 5), (3, 134), (12, 10))
theorem kO_94 : ck_me xj_94 xe_94 = true := by decide +kernel
theorem kW_94 : ck_wd xj_94 ∈ xTs := List.mem_filter.mpr ⟨xtb_ok (b := 3) (List.mem_of_getElem? (i := 135) rfl), ck_wd_good _⟩
def xe_95 : am_W4 := (2, 3, 2, (3, 149), (1, 5), (3, 148), (12, 11))
theorem kO_95 : ck_me xj_95 xe_95 = true := by decide +kernel
theorem kW_95 : ck_wd xj_95 ∈ xTs := List.mem_filter.mpr ⟨xtb_ok (b := 3) (List.mem_of_getElem? (i := 149) rfl), ck_wd_good _⟩
def xe_96 : am_W4 := (0, 0, 3, (3, 152), (1, 5), (3, 151), (0, 0))
theorem kO_96 : ck_me xj_96 xe_96 = true := by decide +kernel
theorem kW_96 : ck_wd xj_96 ∈ xTs := List.mem_filter.mpr ⟨xtb_ok (b := 3) (List.mem_of_getElem? (i := 152) rfl), ck_wd_good _⟩
def xe_97 : am_W4 := (2, 3, 2, (3, 156), (1, 5), (3, 155), (12, 12))
theorem kO_97 : ck_me xj_97 xe_97 = true := by decide +kernel
theorem kW_97 : ck_wd xj_97 ∈ xTs := List.mem_filter.mpr ⟨xtb_ok (b := 3) (List.mem_of_getElem? (i := 156) rfl), ck_wd_good _⟩
def xe_98 : am_W4 := (2, 3, 2, (3, 160), (1, 5), (3, 159), (12, 13))
theorem kO_98 : ck_me xj_98 xe_98 = true := by decide +kernel
theorem kW_98 : ck_wd xj_98 ∈ xTs := List.mem_filter.mpr ⟨xtb_ok (b := 3) (List.mem_of_getElem? (i := 160) rfl), ck_wd_good _⟩
def xe_99 : am_W4 := (2, 3, 2, (3, 164), (1, 5), (3, 163), (12, 14))
theorem kO_99 : ck_me xj_99 xe_99 = true := by decide +kernel
theorem kW_99 : ck_wd xj_99 ∈ xTs := List.mem_filter.mpr ⟨xtb_ok (b := 3) (List.mem_of_getElem? (i := 164) rfl), ck_wd_good _⟩
def xe_100 : am_W4 := (2, 3, 2, (3, 168), (1, 5), (3, 167), (12, 15))
theorem kO_100 : ck_me xj_100 xe_100 = true := by decide +kernel
theorem kW_100 : ck_wd xj_100 ∈ xTs := List.mem_filter.mpr ⟨xtb_ok (b := 3) (List.mem_of_getElem? (i := 168) rfl), ck_wd_good _⟩
def xe_101 : am_W4 := (1, 0, 2, (1, 191), (1, 6), (1, 190), (0, 0))
theorem kO_101 : ck_me xj_101 xe_101 = true := by decide +kernel
theorem kW_101 : ck_wd xj_101 ∈ xTs := List.mem_filter.mpr ⟨xtb_ok (b := 1) (List.mem_of_getElem? (i := 191) rfl), ck_wd_good _⟩
def xe_102 : am_W4 := (2, 4, 4, (3, 206), (1, 6), (3, 204), (3, 205))
theorem kO_102 : ck_me xj_102 xe_102 = true := by decide +kernel
theorem kW_102 : ck_wd xj_102 ∈ xTs := List.mem_filter.mpr ⟨xtb_ok (b := 3) (List.mem_of_getElem? (i := 206) rfl), ck_wd_good _⟩
def xe_103 : am_W4 := (2, 4, 6, (3, 216), (1, 6), (3, 215), (13, 4))
theorem kO_103 : ck_me xj_103 xe_103 = true := by decide +kernel
theorem kW_103 : ck_wd xj_103 ∈ xTs := List.mem_filter.mpr ⟨xtb_ok (b := 3) (List.mem_of_getElem? (i := 216) rfl), ck_wd_good _⟩
def xe_104 : am_W4 := (2, 4, 5, (3, 220), (1, 6), (3, 219), (13, 5))
theorem kO_104 : ck_me xj_104 xe_104 = true := by decide +kernel
theorem kW_104 : ck_wd xj_104 ∈ xTs := List.mem_filter.mpr ⟨xtb_ok (b := 3) (List.mem_of_getElem? (i := 220) rfl), ck_wd_good _⟩
def xe_105 : am_W4 := (2, 4, 3, (3, 224), (1, 6), (3, 223), (13, 6))
theorem kO_105 : ck_me xj_105 xe_105 = true := by decide +kernel
theorem kW_105 : ck_wd xj_105 ∈ xTs := List.mem_filter.mpr ⟨xtb_ok (b := 3) (List.mem_of_getElem? (i := 224) rfl), ck_wd_good _⟩
def xe_106 : am_W4 := (2, 4, 3, (3, 229), (1, 6), (3, 228), (13, 7))
theorem kO_106 : ck_me xj_106 xe_106 = true := by decide +kernel
theorem kW_106 : ck_wd xj_106 ∈ xTs := List.mem_filter.mpr ⟨xtb_ok (b := 3) (List.mem_of_getElem? (i := 229) rfl), ck_wd_good _⟩
def xe_107 : am_W4 := (2, 4, 5, (3, 237), (1, 6), (3, 236), (13, 8))
theorem kO_107 : ck_me xj_107 xe_107 = true := by decide +kernel
theorem kW_107 : ck_wd xj_107 ∈ xTs := List.mem_filter.mpr ⟨xtb_ok (b := 3) (List.mem_of_getElem? (i := 237) rfl), ck_wd_good _⟩
def xe_108 : am_W4 := (2, 4, 6, (4, 1), (1, 6), (4, 0), (13, 9))
theorem kO_108 : ck_me xj_108 xe_108 = true := by decide +kernel
theorem kW_108 : ck_wd xj_108 ∈ xTs := List.mem_filter.mpr ⟨xtb_ok (b := 4) (List.mem_of_getElem? (i := 1) rfl), ck_wd_good _⟩
def xe_109 : am_W4 := (2, 4, 5, (4, 5), (1, 6), (4, 4), (13, 10))
theorem kO_109 : ck_me xj_109 xe_109 = true := by decide +kernel
theorem kW_109 : ck_wd xj_109 ∈ xTs := List.mem_filter.mpr ⟨xtb_ok (b := 4) (List.mem_of_getElem? (i := 5) rfl), ck_wd_good _⟩
def xe_110 : am_W4 := (0, 0, 3, (4, 8), (1, 6), (4, 7), (0, 0))
theorem kO_110 : ck_me xj_110 xe_110 = true := by decide +kernel
theorem kW_110 : ck_wd xj_110 ∈ xTs := List.mem_filter.mpr ⟨xtb_ok (b := 4) (List.mem_of_getElem? (i := 8) rfl), ck_wd_good _⟩
def xe_111 : am_W4 := (2, 4, 4, (4, 12), (1, 6), (4, 11), (13, 11))
theorem kO_111 : ck_me xj_111 xe_111 = true := by decide +kernel
theorem kW_111 : ck_wd xj_111 ∈ xTs := List.mem_filter.mpr ⟨xtb_ok (b := 4) (List.mem_of_getElem? (i := 12) rfl), ck_wd_good _⟩
def xe_112 : am_W4 := (2, 4, 5, (4, 17), (1, 6), (4, 16), (13, 12))
theorem kO_112 : ck_me xj_112 xe_112 = true := by decide +kernel
theorem kW_112 : ck_wd xj_112 ∈ xTs := List.mem_filter.mpr ⟨xtb_ok (b := 4) (List.mem_of_getElem? (i := 17) rfl), ck_wd_good _⟩
def xe_113 : am_W4 := (0, 0, 3, (4, 20), (1, 6), (4, 19), (0, 0))
theorem kO_113 : ck_me xj_113 xe_113 = true := by decide +kernel
theorem kW_113 : ck_wd xj_113 ∈ xTs := List.mem_filter.mpr ⟨xtb_ok (b := 4) (List.mem_of_getElem? (i := 20) rfl), ck_wd_good _⟩
def xe_114 : am_W4 := (2, 4, 3, (4, 24), (1, 6), (4, 23), (13, 13))
theorem kO_114 : ck_me xj_114 xe_114 = true := by decide +kernel
theorem kW_114 : ck_wd xj_114 ∈ xTs := List.mem_filter.mpr ⟨xtb_ok (b := 4) (List.mem_of_getElem? (i := 24) rfl), ck_wd_good _⟩
def xe_115 : am_W4 := (2, 4, 3, (4, 28), (1, 6), (4, 27), (13, 14))
theorem kO_115 : ck_me xj_115 xe_115 = true := by decide +kernel
theorem kW_115 : ck_wd xj_115 ∈ xTs := List.mem_filter.mpr ⟨xtb_ok (b := 4) (List.mem_of_getElem? (i := 28) rfl), ck_wd_good _⟩
def xe_116 : am_W4 := (2, 4, 2, (4, 32), (1, 6), (4, 31), (13, 15))
theorem kO_116 : ck_me xj_116 xe_116 = true := by decide +kernel
theorem kW_116 : ck_wd xj_116 ∈ xTs := List.mem_filter.mpr ⟨xtb_ok (b := 4) (List.mem_of_getElem? (i := 32) rfl), ck_wd_good _⟩
def xe_117 : am_W4 := (2, 4, 2, (4, 36), (1, 6), (4, 35), (14, 0))
theorem kO_117 : ck_me xj_117 xe_117 = true := by decide +kernel
theorem kW_117 : ck_wd xj_117 ∈ xTs := List.mem_filter.mpr ⟨xtb_ok (b := 4) (List.mem_of_getElem? (i := 36) rfl), ck_wd_good _⟩
def xe_118 : am_W4 := (2, 4, 3, (4, 40), (1, 6), (4, 39), (14, 1))
theorem kO_118 : ck_me xj_118 xe_118 = true := by decide +kernel
theorem kW_118 : ck_wd xj_118 ∈ xTs := List.mem_filter.mpr ⟨xtb_ok (b := 4) (List.mem_of_getElem? (i := 40) rfl), ck_wd_good _⟩
def xe_119 : am_W4 := (2, 4, 2, (4, 47), (1, 6), (4, 46), (14, 2))
theorem kO_119 : ck_me xj_119 xe_119 = true := by decide +kernel
theorem kW_119 : ck_wd xj_119 ∈ xTs := List.mem_filter.mpr ⟨xtb_ok (b := 4) (List.mem_of_getElem? (i := 47) rfl), ck_wd_good _⟩
def xe_120 : am_W4 := (2, 4, 2, (4, 51), (1, 6), (4, 50), (14, 3))
theorem kO_120 : ck_me xj_120 xe_120 = true := by decide +kernel
theorem kW_120 : ck_wd xj_120 ∈ xTs := List.mem_filter.mpr ⟨xtb_ok (b := 4) (List.mem_of_getElem? (i := 51) rfl), ck_wd_good _⟩
def xe_121 : am_W4 := (2, 4, 2, (4, 55), (1, 6), (4, 54), (14, 4))
theorem kO_121 : ck_me xj_121 xe_121 = true := by decide +kernel
theorem kW_121 : ck_wd xj_121 ∈ xTs := List.mem_filter.mpr ⟨xtb_ok (b := 4) (List.mem_of_getElem? (i := 55) rfl), ck_wd_good _⟩
def xe_122 : am_W4 := (2, 4, 2, (4, 59), (1, 6), (4, 58), (14, 5))
theorem kO_122 : ck_me xj_122 xe_122 = true := by decide +kernel
theorem kW_122 : ck_wd xj_122 ∈ xTs := List.mem_filter.mpr ⟨xtb_ok (b := 4) (List.mem_of_getElem? (i := 59) rfl), ck_wd_good _⟩
def xe_123 : am_W4 := (2, 4, 2, (4, 63), (1, 6), (4, 62), (14, 6))
theorem kO_123 : ck_me xj_123 xe_123 = true := by decide +kernel
theorem kW_123 : ck_wd xj_123 ∈ xTs := List.mem_filter.mpr ⟨xtb_ok (b := 4) (List.mem_of_getElem? (i := 63) rfl), ck_wd_good _⟩
def xe_124 : am_W4 := (2, 4, 1, (4, 67), (1, 6), (4, 66), (14, 7))
theorem kO_124 : ck_me xj_124 xe_124 = true := by decide +kernel
theorem kW_124 : ck_wd xj_124 ∈ xTs := List.mem_filter.mpr ⟨xtb_ok (b := 4) (List.mem_of_getElem? (i := 67) rfl), ck_wd_good _⟩
def xe_125 : am_W4 := (2, 4, 1, (4, 74), (1, 6), (4, 73), (14, 8))
theorem kO_125 : ck_me xj_125 xe_125 = true := by decide +kernel
theorem kW_125 : ck_wd xj_125 ∈ xTs := List.mem_filter.mpr ⟨xtb_ok (b := 4) (List.mem_of_getElem? (i := 74) rfl), ck_wd_good _⟩
def xe_126 : am_W4 := (2, 4, 1, (4, 78), (1, 6), (4, 77), (14, 9))
theorem kO_126 : ck_me xj_126 xe_126 = true := by decide +kernel
theorem kW_126 : ck_wd xj_126 ∈ xTs := List.mem_filter.mpr ⟨xtb_ok (b := 4) (List.mem_of_getElem? (i := 78) rfl), ck_wd_good _⟩
def xe_127 : am_W4 := (2, 4, 2, (4, 82), (1, 6), (4, 81), (14, 10))
theorem kO_127 : ck_me xj_127 xe_127 = true := by decide +kernel
theorem kW_127 : ck_wd xj_127 ∈ xTs := List.mem_filter.mpr ⟨xtb_ok (b := 4) (List.mem_of_getElem? (i := 82) rfl), ck_wd_good _⟩
def xe_128 : am_W4 := (2, 4, 3, (4, 86), (1, 6), (4, 85), (14, 11))
theorem kO_128 : ck_me xj_128 xe_128 = true := by decide +kernel
theorem kW_128 : ck_wd xj_128 ∈ xTs := List.mem_filter.mpr ⟨xtb_ok (b := 4) (List.mem_of_getElem? (i := 86) rfl), ck_wd_good _⟩
def xe_129 : am_W4 := (1, 0, 2, (1, 227), (1, 7), (1, 226), (0, 0))
theorem kO_129 : ck_me xj_129 xe_129 = true := by decide +kernel
theorem kW_129 : ck_wd xj_129 ∈ xTs := List.mem_filter.mpr ⟨xtb_ok (b := 1) (List.mem_of_getElem? (i := 227) rfl), ck_wd_good _⟩
def xe_130 : am_W4 := (2, 5, 1, (4, 105), (1, 7), (4, 103), (4, 104))
theorem kO_130 : ck_me xj_130 xe_130 = true := by decide +kernel
theorem kW_130 : ck_wd xj_130 ∈ xTs := List.mem_filter.mpr ⟨xtb_ok (b := 4) (List.mem_of_getElem? (i := 105) rfl), ck_wd_good _⟩
def xe_131 : am_W4 := (2, 5, 1, (4, 109), (1, 7), (4, 108), (14, 12))
theorem kO_131 : ck_me xj_131 xe_131 = true := by decide +kernel
theorem kW_131 : ck_wd xj_131 ∈ xTs := List.mem_filter.mpr ⟨xtb_ok (b := 4) (List.mem_of_getElem? (i := 109) rfl), ck_wd_good _⟩
def xe_132 : am_W4 := (2, 5, 3, (4, 114), (1, 7), (4, 113), (14, 13))
theorem kO_132 : ck_me xj_132 xe_132 = true := by decide +kernel
theorem kW_132 : ck_wd xj_132 ∈ xTs := List.mem_filter.mpr ⟨xtb_ok (b := 4) (List.mem_of_getElem? (i := 114) rfl), ck_wd_good _⟩
def xe_133 : am_W4 := (2, 5, 1, (4, 118), (1, 7), (4, 117), (14, 14))
theorem kO_133 : ck_me xj_133 xe_133 = true := by decide +kernel
theorem kW_133 : ck_wd xj_133 ∈ xTs := List.mem_filter.mpr ⟨xtb_ok (b := 4) (List.mem_of_getElem? (i := 118) rfl), ck_wd_good _⟩
def xe_134 : am_W4 := (2, 5, 1, (4, 126), (1, 7), (4, 125), (14, 15))
theorem kO_134 : ck_me xj_134 xe_134 = true := by decide +kernel
theorem kW_134 : ck_wd xj_134 ∈ xTs := List.mem_filter.mpr ⟨xtb_ok (b := 4) (List.mem_of_getElem? (i := 126) rfl), ck_wd_good _⟩
def xe_135 : am_W4 := (2, 5, 3, (4, 130), (1, 7), (4, 129), (15, 0))
theorem kO_135 : ck_me xj_135 xe_135 = true := by decide +kernel
theorem kW_135 : ck_wd xj_135 ∈ xTs := List.mem_filter.mpr ⟨xtb_ok (b := 4) (List.mem_of_getElem? (i := 130) rfl), ck_wd_good _⟩
def xe_136 : am_W4 := (2, 5, 3, (4, 135), (1, 7), (4, 133), (4, 134))
theorem kO_136 : ck_me xj_136 xe_136 = true := by decide +kernel
theorem kW_136 : ck_wd xj_136 ∈ xTs := List.mem_filter.mpr ⟨xtb_ok (b := 4) (List.mem_of_getElem? (i := 135) rfl), ck_wd_good _⟩
def xe_137 : am_W4 := (1, 0, 1, (2, 12), (1, 8), (2, 11), (0, 0))
theorem kO_137 : ck_me xj_137 xe_137 = true := by decide +kernel
theorem kW_137 : ck_wd xj_137 ∈ xTs := List.mem_filter.mpr ⟨xtb_ok (b := 2) (List.mem_of_getElem? (i := 12) rfl), ck_wd_good _⟩
def xe_138 : am_W4 := (2, 6, 1, (2, 129), (1, 8), (2, 127), (2, 128))
theorem kO_138 : ck_me xj_138 xe_138 = true := by decide +kernel
theorem kW_138 : ck_wd xj_138 ∈ xTs := List.mem_filter.mpr ⟨xtb_ok (b := 2) (List.mem_of_getElem? (i := 129) rfl), ck_wd_good _⟩
def xe_139 : am_W4 := (2, 6, 4, (3, 56), (1, 8), (3, 54), (3, 55))
theorem kO_139 : ck_me xj_139 xe_139 = true := by decide +kernel
theorem kW_139 : ck_wd xj_139 ∈ xTs := List.mem_filter.mpr ⟨xtb_ok (b := 3) (List.mem_of_getElem? (i := 56) rfl), ck_wd_good _⟩
def xe_140 : am_W4 := (2, 6, 4, (3, 139), (1, 8), (3, 137), (3, 138))
theorem kO_140 : ck_me xj_140 xe_140 = true := by decide +kernel
theorem kW_140 : ck_wd xj_140 ∈ xTs := List.mem_filter.mpr ⟨xtb_ok (b := 3) (List.mem_of_getElem? (i := 139) rfl), ck_wd_good _⟩
def xe_141 : am_W4 := (1, 0, 2, (5, 177), (1, 9), (5, 176), (0, 0))
theorem kO_141 : ck_me xj_141 xe_141 = true := by decide +kernel
theorem kW_141 : ck_wd xj_141 ∈ xTs := List.mem_filter.mpr ⟨xtb_ok (b := 5) (List.mem_of_getElem? (i := 177) rfl), ck_wd_good _⟩
def xe_142 : am_W4 := (2, 7, 1, (6, 108), (1, 9), (6, 106), (6, 107))
theorem kO_142 : ck_me xj_142 xe_142 = true := by decide +kernel
theorem kW_142 : ck_wd xj_142 ∈ xTs := List.mem_filter.mpr ⟨xtb_ok (b := 6) (List.mem_of_getElem? (i := 108) rfl), ck_wd_good _⟩
def xe_143 : am_W4 := (2, 7, 3, (6, 112), (1, 9), (6, 110), (6, 111))
theorem kO_143 : ck_me xj_143 xe_143 = true := by decide +kernel
theorem kW_143 : ck_wd xj_143 ∈ xTs := List.mem_filter.mpr ⟨xtb_ok (b := 6) (List.mem_of_getElem? (i := 112) rfl), ck_wd_good _⟩
def xe_144 : am_W4 := (2, 7, 2, (6, 117), (1, 9), (6, 115), (6, 116))
theorem kO_144 : ck_me xj_144 xe_144 = true := by decide +kernel
theorem kW_144 : ck_wd xj_144 ∈ xTs := List.mem_filter.mpr ⟨xtb_ok (b := 6) (List.mem_of_getElem? (i := 117) rfl), ck_wd_good _⟩
def xe_145 : am_W4 := (2, 7, 3, (6, 121), (1, 9), (6, 119), (6, 120))
theorem kO_145 : ck_me xj_145 xe_145 = true := by decide +kernel
theorem kW_145 : ck_wd xj_145 ∈ xTs := List.mem_filter.mpr ⟨xtb_ok (b := 6) (List.mem_of_getElem? (i := 121) rfl), ck_wd_good _⟩
def xe_146 : am_W4 := (0, 0, 1, (6, 124), (1, 9), (6, 123), (0, 0))
theorem kO_146 : ck_me xj_146 xe_146 = true := by decide +kernel
theorem kW_146 : ck_wd xj_146 ∈ xTs := List.mem_filter.mpr ⟨xtb_ok (b := 6) (List.mem_of_getElem? (i := 124) rfl), ck_wd_good _⟩
def xe_147 : am_W4 := (0, 0, 1, (6, 127), (1, 9), (6, 126), (0, 0))
theorem kO_147 : ck_me xj_147 xe_147 = true := by decide +kernel
theorem kW_147 : ck_wd xj_147 ∈ xTs := List.mem_filter.mpr ⟨xtb_ok (b := 6) (List.mem_of_getElem? (i := 127) rfl), ck_wd_good _⟩
def xe_148 : am_W4 := (0, 0, 1, (6, 130), (1, 9), (6, 129), (0, 0))
theorem kO_148 : ck_me xj_148 xe_148 = true := by decide +kernel
theorem kW_148 : ck_wd xj_148 ∈ xTs := List.mem_filter.mpr ⟨xtb_ok (b := 6) (List.mem_of_getElem? (i := 130) rfl), ck_wd_good _⟩
def xe_149 : am_W4 := (0, 0, 2, (6, 149), (1, 9), (6, 148), (0, 0))
theorem kO_149 : ck_me xj_149 xe_149 = true := by decide +kernel
theorem kW_149 : ck_wd xj_149 ∈ xTs := List.mem_filter.mpr ⟨xtb_ok (b := 6) (List.mem_of_getElem? (i := 149) rfl), ck_wd_good _⟩
def xe_150 : am_W4 := (0, 0, 1, (6, 152), (1, 9), (6, 151), (0, 0))
theorem kO_150 : ck_me xj_150 xe_150 = true := by decide +kernel
theorem kW_150 : ck_wd xj_150 ∈ xTs := List.mem_filter.mpr ⟨xtb_ok (b := 6) (List.mem_of_getElem? (i := 152) rfl), ck_wd_good _⟩
def xe_151 : am_W4 := (2, 7, 4, (6, 156), (1, 9), (6, 154), (6, 155))
theorem kO_151 : ck_me xj_151 xe_151 = true := by decide +kernel
theorem kW_151 : ck_wd xj_151 ∈ xTs := List.mem_filter.mpr ⟨xtb_ok (b := 6) (List.mem_of_getElem? (i := 156) rfl), ck_wd_good _⟩
def xe_152 : am_W4 := (2, 7, 3, (6, 160), (1, 9), (6, 159), (15, 6))
theorem kO_152 : ck_me xj_152 xe_152 = true := by decide +kernel
theorem kW_152 : ck_wd xj_152 ∈ xTs := List.mem_filter.mpr ⟨xtb_ok (b := 6) (List.mem_of_getElem? (i := 160) rfl), ck_wd_good _⟩
def xe_153 : am_W4 := (2, 7, 2, (6, 164), (1, 9), (6, 163), (15, 7))
theorem kO_153 : ck_me xj_153 xe_153 = true := by decide +kernel
theorem kW_153 : ck_wd xj_153 ∈ xTs := List.mem_filter.mpr ⟨xtb_ok (b := 6) (List.mem_of_getElem? (i := 164) rfl), ck_wd_good _⟩
def xe_154 : am_W4 := (2, 7, 1, (6, 168), (1, 9), (6, 167), (15, 8))
theorem kO_154 : ck_me xj_154 xe_154 = true := by decide +kernel
theorem kW_154 : ck_wd xj_154 ∈ xTs := List.mem_filter.mpr ⟨xtb_ok (b := 6) (List.mem_of_getElem? (i := 168) rfl), ck_wd_good _⟩
def xe_155 : am_W4 := (2, 7, 1, (6, 172), (1, 9), (6, 170), (6, 171))
theorem kO_155 : ck_me xj_155 xe_155 = true := by decide +kernel
theorem kW_155 : ck_wd xj_155 ∈ xTs := List.mem_filter.mpr ⟨xtb_ok (b := 6) (List.mem_of_getElem? (i := 172) rfl), ck_wd_good _⟩
def xe_156 : am_W4 := (2, 7, 2, (6, 176), (1, 9), (6, 175), (15, 9))
theorem kO_156 : ck_me xj_156 xe_156 = true := by decide +kernel
theorem kW_156 : ck_wd xj_156 ∈ xTs := List.mem_filter.mpr ⟨xtb_ok (b := 6) (List.mem_of_getElem? (i := 176) rfl), ck_wd_good _⟩
def xe_157 : am_W4 := (2, 7, 2, (6, 180), (1, 9), (6, 179), (15, 10))
theorem kO_157 : ck_me xj_157 xe_157 = true := by decide +kernel
theorem kW_157 : ck_wd xj_157 ∈ xTs := List.mem_filter.mpr ⟨xtb_ok (b := 6) (List.mem_of_getElem? (i := 180) rfl), ck_wd_good _⟩
def xe_158 : am_W4 := (2, 7, 3, (6, 184), (1, 9), (6, 183), (15, 11))
theorem kO_158 : ck_me xj_158 xe_158 = true := by decide +kernel
theorem kW_158 : ck_wd xj_158 ∈ xTs := List.mem_filter.mpr ⟨xtb_ok (b := 6) (List.mem_of_getElem? (i := 184) rfl), ck_wd_good _⟩
def xe_159 : am_W4 := (2, 7, 1, (6, 188), (1, 9), (6, 187), (15, 12))
theorem kO_159 : ck_me xj_159 xe_159 = true := by decide +kernel
theorem kW_159 : ck_wd xj_159 ∈ xTs := List.mem_filter.mpr ⟨xtb_ok (b := 6) (List.mem_of_getElem? (i := 188) rfl), ck_wd_good _⟩
def xe_160 : am_W4 := (2, 7, 2, (6, 192), (1, 9), (6, 191), (15, 13))
theorem kO_160 : ck_me xj_160 xe_160 = true := by decide +kernel
theorem kW_160 : ck_wd xj_160 ∈ xTs := List.mem_filter.mpr ⟨xtb_ok (b := 6) (List.mem_of_getElem? (i := 192) rfl), ck_wd_good _⟩
def xe_161 : am_W4 := (2, 7, 1, (6, 196), (1, 9), (6, 195), (15, 14))
theorem kO_161 : ck_me xj_161 xe_161 = true := by decide +kernel
theorem kW_161 : ck_wd xj_161 ∈ xTs := List.mem_filter.mpr ⟨xtb_ok (b := 6) (List.mem_of_getElem? (i := 196) rfl), ck_wd_good _⟩
def xe_162 : am_W4 := (0, 0, 1, (6, 199), (1, 9), (6, 198), (0, 0))
theorem kO_162 : ck_me xj_162 xe_162 = true := by decide +kernel
theorem kW_162 : ck_wd xj_162 ∈ xTs := List.mem_filter.mpr ⟨xtb_ok (b := 6) (List.mem_of_getElem? (i := 199) rfl), ck_wd_good _⟩
def xe_163 : am_W4 := (2, 7, 1, (6, 203), (1, 9), (6, 202), (15, 15))
theorem kO_163 : ck_me xj_163 xe_163 = true := by decide +kernel
theorem kW_163 : ck_wd xj_163 ∈ xTs := List.mem_filter.mpr ⟨xtb_ok (b := 6) (List.mem_of_getElem? (i := 203) rfl), ck_wd_good _⟩
def xe_164 : am_W4 := (0, 0, 1, (6, 206), (1, 9), (6, 205), (0, 0))
theorem kO_164 : ck_me xj_164 xe_164 = true := by decide +kernel
theorem kW_164 : ck_wd xj_164 ∈ xTs := List.mem_filter.mpr ⟨xtb_ok (b := 6) (List.mem_of_getElem? (i := 206) rfl), ck_wd_good _⟩
def xe_165 : am_W4 := (2, 7, 2, (6, 210), (1, 9), (6, 209), (16, 0))
theorem kO_165 : ck_me xj_165 xe_165 = true := by decide +kernel
theorem kW_165 : ck_wd xj_165 ∈ xTs := List.mem_filter.mpr ⟨xtb_ok (b := 6) (List.mem_of_getElem? (i := 210) rfl), ck_wd_good _⟩
def xe_166 : am_W4 := (0, 0, 1, (6, 213), (1, 9), (6, 212), (0, 0))
theorem kO_166 : ck_me xj_166 xe_166 = true := by decide +kernel
theorem kW_166 : ck_wd xj_166 ∈ xTs := List.mem_filter.mpr ⟨xtb_ok (b := 6) (List.mem_of_getElem? (i := 213) rfl), ck_wd_good _⟩
def xe_167 : am_W4 := (0, 0, 1, (6, 216), (1, 9), (6, 215), (0, 0))
theorem kO_167 : ck_me xj_167 xe_167 = true := by decide +kernel
theorem kW_167 : ck_wd xj_167 ∈ xTs := List.mem_filter.mpr ⟨xtb_ok (b := 6) (List.mem_of_getElem? (i := 216) rfl), ck_wd_good _⟩
def xe_168 : am_W4 := (0, 0, 1, (6, 219), (1, 9), (6, 218), (0, 0))
theorem kO_168 : ck_me xj_168 xe_168 = true := by decide +kernel
theorem kW_168 : ck_wd xj_168 ∈ xTs := List.mem_filter.mpr ⟨xtb_ok (b := 6) (List.mem_of_getElem? (i := 219) rfl), ck_wd_good _⟩
def xe_169 : am_W4 := (0, 0, 1, (6, 222), (1, 9), (6, 221), (0, 0))
theorem kO_169 : ck_me xj_169 xe_169 = true := by decide +kernel
theorem kW_169 : ck_wd xj_169 ∈ xTs := List.mem_filter.mpr ⟨xtb_ok (b := 6) (List.mem_of_getElem? (i := 222) rfl), ck_wd_good _⟩
def xe_170 : am_W4 := (2, 7, 2, (6, 226), (1, 9), (6, 225), (16, 1))
theorem kO_170 : ck_me xj_170 xe_170 = true := by decide +kernel
theorem kW_170 : ck_wd xj_170 ∈ xTs := List.mem_filter.mpr ⟨xtb_ok (b := 6) (List.mem_of_getElem? (i := 226) rfl), ck_wd_good _⟩
def xe_171 : am_W4 := (2, 7, 1, (6, 230), (1, 9), (6, 229), (16, 2))
theorem kO_171 : ck_me xj_171 xe_171 = true := by decide +kernel
theorem kW_171 : ck_wd xj_171 ∈ xTs := List.mem_filter.mpr ⟨xtb_ok (b := 6) (List.mem_of_getElem? (i := 230) rfl), ck_wd_good _⟩
def xe_172 : am_W4 := (2, 7, 4, (6, 234), (1, 9), (6, 233), (16, 3))
theorem kO_172 : ck_me xj_172 xe_172 = true := by decide +kernel
theorem kW_172 : ck_wd xj_172 ∈ xTs := List.mem_filter.mpr ⟨xtb_ok (b := 6) (List.mem_of_getElem? (i := 234) rfl), ck_wd_good _⟩
def xe_173 : am_W4 := (2, 7, 1, (6, 238), (1, 9), (6, 237), (16, 4))
theorem kO_173 : ck_me xj_173 xe_173 = true := by decide +kernel
theorem kW_173 : ck_wd xj_173 ∈ xTs := List.mem_filter.mpr ⟨xtb_ok (b := 6) (List.mem_of_getElem? (i := 238) rfl), ck_wd_good _⟩
def xe_174 : am_W4 := (2, 7, 1, (7, 2), (1, 9), (7, 1), (16, 5))
theorem kO_174 : ck_me xj_174 xe_174 = true := by decide +kernel
theorem kW_174 : ck_wd xj_174 ∈ xTs := List.mem_filter.mpr ⟨xtb_ok (b := 7) (List.mem_of_getElem? (i := 2) rfl), ck_wd_good _⟩
def xe_175 : am_W4 := (2, 7, 1, (7, 6), (1, 9), (7, 5), (16, 6))
theorem kO_175 : ck_me xj_175 xe_175 = true := by decide +kernel
theorem kW_175 : ck_wd xj_175 ∈ xTs := List.mem_filter.mpr ⟨xtb_ok (b := 7) (List.mem_of_getElem? (i := 6) rfl), ck_wd_good _⟩
def xe_176 : am_W4 := (2, 7, 1, (7, 10), (1, 9), (7, 9), (16, 7))
theorem kO_176 : ck_me xj_176 xe_176 = true := by decide +kernel
theorem kW_176 : ck_wd xj_176 ∈ xTs := List.mem_filter.mpr ⟨xtb_ok (b := 7) (List.mem_of_getElem? (i := 10) rfl), ck_wd_good _⟩
def xe_177 : am_W4 := (2, 7, 2, (7, 14), (1, 9), (7, 13), (16, 8))
theorem kO_177 : ck_me xj_177 xe_177 = true := by decide +kernel
theorem kW_177 : ck_wd xj_177 ∈ xTs := List.mem_filter.mpr ⟨xtb_ok (b := 7) (List.mem_of_getElem? (i := 14) rfl), ck_wd_good _⟩
def xe_178 : am_W4 := (2, 7, 1, (7, 18), (1, 9), (7, 17), (16, 9))
theorem kO_178 : ck_me xj_178 xe_178 = true := by decide +kernel
theorem kW_178 : ck_wd xj_178 ∈ xTs := List.mem_filter.mpr ⟨xtb_ok (b := 7) (List.mem_of_getElem? (i := 18) rfl), ck_wd_good _⟩
def xe_179 : am_W4 := (2, 7, 1, (7, 22), (1, 9), (7, 21), (16, 10))
theorem kO_179 : ck_me xj_179 xe_179 = true := by decide +kernel
theorem kW_179 : ck_wd xj_179 ∈ xTs := List.mem_filter.mpr ⟨xtb_ok (b := 7) (List.mem_of_getElem? (i := 22) rfl), ck_wd_good _⟩
def xe_180 : am_W4 := (2, 7, 2, (7, 26), (1, 9), (7, 25), (16, 11))
theorem kO_180 : ck_me xj_180 xe_180 = true := by decide +kernel
theorem kW_180 : ck_wd xj_180 ∈ xTs := List.mem_filter.mpr ⟨xtb_ok (b := 7) (List.mem_of_getElem? (i := 26) rfl), ck_wd_good _⟩
def xe_181 : am_W4 := (2, 7, 1, (7, 30), (1, 9), (7, 29), (16, 12))
theorem kO_181 : ck_me xj_181 xe_181 = true := by decide +kernel
theorem kW_181 : ck_wd xj_181 ∈ xTs := List.mem_filter.mpr ⟨xtb_ok (b := 7) (List.mem_of_getElem? (i := 30) rfl), ck_wd_good _⟩
def xe_182 : am_W4 := (2, 7, 1, (7, 34), (1, 9), (7, 33), (16, 13))
theorem kO_182 : ck_me xj_182 xe_182 = true := by decide +kernel
theorem kW_182 : ck_wd xj_182 ∈ xTs := List.mem_filter.mpr ⟨xtb_ok (b := 7) (List.mem_of_getElem? (i := 34) rfl), ck_wd_good _⟩
def xe_183 : am_W4 := (2, 7, 1, (7, 38), (1, 9), (7, 37), (16, 14))
theorem kO_183 : ck_me xj_183 xe_183 = true := by decide +kernel
theorem kW_183 : ck_wd xj_183 ∈ xTs := List.mem_filter.mpr ⟨xtb_ok (b := 7) (List.mem_of_getElem? (i := 38) rfl), ck_wd_good _⟩
def xe_184 : am_W4 := (2, 7, 2, (7, 42), (1, 9), (7, 41), (16, 15))
theorem kO_184 : ck_me xj_184 xe_184 = true := by decide +kernel
theorem kW_184 : ck_wd xj_184 ∈ xTs := List.mem_filter.mpr ⟨xtb_ok (b := 7) (List.mem_of_getElem? (i := 42) rfl), ck_wd_good _⟩
def xe_185 : am_W4 := (2, 7, 1, (7, 46), (1, 9), (7, 45), (17, 0))
theorem kO_185 : ck_me xj_185 xe_185 = true := by decide +kernel
theorem kW_185 : ck_wd xj_185 ∈ xTs := List.mem_filter.mpr ⟨xtb_ok (b := 7) (List.mem_of_getElem? (i := 46) rfl), ck_wd_good _⟩
def xe_186 : am_W4 := (2, 7, 1, (7, 50), (1, 9), (7, 49), (17, 1))
theorem kO_186 : ck_me xj_186 xe_186 = true := by decide +kernel
theorem kW_186 : ck_wd xj_186 ∈ xTs := List.mem_filter.mpr ⟨xtb_ok (b := 7) (List.mem_of_getElem? (i := 50) rfl), ck_wd_good _⟩
def xe_187 : am_W4 := (2, 7, 1, (7, 54), (1, 9), (7, 53), (17, 2))
theorem kO_187 : ck_me xj_187 xe_187 = true := by decide +kernel
theorem kW_187 : ck_wd xj_187 ∈ xTs := List.mem_filter.mpr ⟨xtb_ok (b := 7) (List.mem_of_getElem? (i := 54) rfl), ck_wd_good _⟩
def xe_188 : am_W4 := (2, 7, 2, (7, 58), (1, 9), (7, 57), (17, 3))
theorem kO_188 : ck_me xj_188 xe_188 = true := by decide +kernel
theorem kW_188 : ck_wd xj_188 ∈ xTs := List.mem_filter.mpr ⟨xtb_ok (b := 7) (List.mem_of_getElem? (i := 58) rfl), ck_wd_good _⟩
def xe_189 : am_W4 := (2, 7, 2, (7, 62), (1, 9), (7, 61), (17, 4))
theorem kO_189 : ck_me xj_189 xe_189 = true := by decide +kernel
theorem kW_189 : ck_wd xj_189 ∈ xTs := List.mem_filter.mpr ⟨xtb_ok (b := 7) (List.mem_of_getElem? (i := 62) rfl), ck_wd_good _⟩
def xe_190 : am_W4 := (2, 7, 1, (7, 66), (1, 9), (7, 64), (7, 65))
theorem kO_190 : ck_me xj_190 xe_190 = true := by decide +kernel
theorem kW_190 : ck_wd xj_190 ∈ xTs := List.mem_filter.mpr ⟨xtb_ok (b := 7) (List.mem_of_getElem? (i := 66) rfl), ck_wd_good _⟩
def xe_191 : am_W4 := (2, 7, 1, (7, 70), (1, 9), (7, 68), (7, 69))
theorem kO_191 : ck_me xj_191 xe_191 = true := by decide +kernel
theorem kW_191 : ck_wd xj_191 ∈ xTs := List.mem_filter.mpr ⟨xtb_ok (b := 7) (List.mem_of_getElem? (i := 70) rfl), ck_wd_good _⟩
def xe_192 : am_W4 := (2, 7, 1, (7, 74), (1, 9), (7, 72), (7, 73))
theorem kO_192 : ck_me xj_192 xe_192 = true := by decide +kernel
theorem kW_192 : ck_wd xj_192 ∈ xTs := List.mem_filter.mpr ⟨xtb_ok (b := 7) (List.mem_of_getElem? (i := 74) rfl), ck_wd_good _⟩
def xe_193 : am_W4 := (2, 7, 4, (7, 79), (1, 9), (7, 78), (17, 5))
theorem kO_193 : ck_me xj_193 xe_193 = true := by decide +kernel
theorem kW_193 : ck_wd xj_193 ∈ xTs := List.mem_filter.mpr ⟨xtb_ok (b := 7) (List.mem_of_getElem? (i := 79) rfl), ck_wd_good _⟩
def xe_194 : am_W4 := (2, 7, 3, (7, 83), (1, 9), (7, 82), (17, 6))
theorem kO_194 : ck_me xj_194 xe_194 = true := by decide +kernel
theorem kW_194 : ck_wd xj_194 ∈ xTs := List.mem_filter.mpr ⟨xtb_ok (b := 7) (List.mem_of_getElem? (i := 83) rfl), ck_wd_good _⟩
def xe_195 : am_W4 := (2, 7, 2, (7, 87), (1, 9), (7, 86), (17, 7))
theorem kO_195 : ck_me xj_195 xe_195 = true := by decide +kernel
theorem kW_195 : ck_wd xj_195 ∈ xTs := List.mem_filter.mpr ⟨xtb_ok (b := 7) (List.mem_of_getElem? (i := 87) rfl), ck_wd_good _⟩
def xe_196 : am_W4 := (2, 7, 3, (7, 91), (1, 9), (7, 90), (17, 8))
theorem kO_196 : ck_me xj_196 xe_196 = true := by decide +kernel
theorem kW_196 : ck_wd xj_196 ∈ xTs := List.mem_filter.mpr ⟨xtb_ok (b := 7) (List.mem_of_getElem? (i := 91) rfl), ck_wd_good _⟩
def xe_197 : am_W4 := (2, 7, 3, (7, 95), (1, 9), (7, 94), (17, 9))
theorem kO_197 : ck_me xj_197 xe_197 = true := by decide +kernel
theorem kW_197 : ck_wd xj_197 ∈ xTs := List.mem_filter.mpr ⟨xtb_ok (b := 7) (List.mem_of_getElem? (i := 95) rfl), ck_wd_good _⟩
def xe_198 : am_W4 := (2, 7, 2, (7, 99), (1, 9), (7, 98), (17, 10))
theorem kO_198 : ck_me xj_198 xe_198 = true := by decide +kernel
theorem kW_198 : ck_wd xj_198 ∈ xTs := List.mem_filter.mpr ⟨xtb_ok (b := 7) (List.mem_of_getElem? (i := 99) rfl), ck_wd_good _⟩
def xe_199 : am_W4 := (2, 7, 2, (7, 103), (1, 9), (7, 102), (17, 11))
theorem kO_199 : ck_me xj_199 xe_199 = true := by decide +kernel
theorem kW_199 : ck_wd xj_199 ∈ xTs := List.mem_filter.mpr ⟨xtb_ok (b := 7) (List.mem_of_getElem? (i := 103) rfl), ck_wd_good _⟩
def xe_200 : am_W4 := (2, 7, 3, (7, 107), (1, 9), (7, 106), (17, 12))
theorem kO_200 : ck_me xj_200 xe_200 = true := by decide +kernel
theorem kW_200 : ck_wd xj_200 ∈ xTs := List.mem_filter.mpr ⟨xtb_ok (b := 7) (List.mem_of_getElem? (i := 107) rfl), ck_wd_good _⟩
def xe_201 : am_W4 := (2, 7, 3, (7, 111), (1, 9), (7, 110), (17, 13))
theorem kO_201 : ck_me xj_201 xe_201 = true := by decide +kernel
theorem kW_201 : ck_wd xj_201 ∈ xTs := List.mem_filter.mpr ⟨xtb_ok (b := 7) (List.mem_of_getElem? (i := 111) rfl), ck_wd_good _⟩
def xe_202 : am_W4 := (2, 7, 2, (7, 115), (1, 9), (7, 114), (17, 14))
theorem kO_202 : ck_me xj_202 xe_202 = true := by decide +kernel
theorem kW_202 : ck_wd xj_202 ∈ xTs := List.mem_filter.mpr ⟨xtb_ok (b := 7) (List.mem_of_getElem? (i := 115) rfl), ck_wd_good _⟩
def xe_203 : am_W4 := (2, 7, 3, (7, 119), (1, 9), (7, 118), (17, 15))
theorem kO_203 : ck_me xj_203 xe_203 = true := by decide +kernel
theorem kW_203 : ck_wd xj_203 ∈ xTs := List.mem_filter.mpr ⟨xtb_ok (b := 7) (List.mem_of_getElem? (i := 119) rfl), ck_wd_good _⟩
def xe_204 : am_W4 := (0, 0, 1, (7, 122), (1, 9), (7, 121), (0, 0))
theorem kO_204 : ck_me xj_204 xe_204 = true := by decide +kernel
theorem kW_204 : ck_wd xj_204 ∈ xTs := List.mem_filter.mpr ⟨xtb_ok (b := 7) (List.mem_of_getElem? (i := 122) rfl), ck_wd_good _⟩
def xe_205 : am_W4 := (0, 0, 3, (7, 125), (1, 9), (7, 124), (0, 0))
theorem kO_205 : ck_me xj_205 xe_205 = true := by decide +kernel
theorem kW_205 : ck_wd xj_205 ∈ xTs := List.mem_filter.mpr ⟨xtb_ok (b := 7) (List.mem_of_getElem? (i := 125) rfl), ck_wd_good _⟩
def xe_206 : am_W4 := (2, 7, 2, (7, 129), (1, 9), (7, 128), (18, 0))
theorem kO_206 : ck_me xj_206 xe_206 = true := by decide +kernel
theorem kW_206 : ck_wd xj_206 ∈ xTs := List.mem_filter.mpr ⟨xtb_ok (b := 7) (List.mem_of_getElem? (i := 129) rfl), ck_wd_good _⟩
def xe_207 : am_W4 := (2, 7, 3, (7, 133), (1, 9), (7, 132), (18, 1))
theorem kO_207 : ck_me xj_207 xe_207 = true := by decide +kernel
theorem kW_207 : ck_wd xj_207 ∈ xTs := List.mem_filter.mpr ⟨xtb_ok (b := 7) (List.mem_of_getElem? (i := 133) rfl), ck_wd_good _⟩
def xe_208 : am_W4 := (2, 7, 4, (7, 137), (1, 9), (7, 136), (18, 2))
theorem kO_208 : ck_me xj_208 xe_208 = true := by decide +kernel
theorem kW_208 : ck_wd xj_208 ∈ xTs := List.mem_filter.mpr ⟨xtb_ok (b := 7) (List.mem_of_getElem? (i := 137) rfl), ck_wd_good _⟩
def xe_209 : am_W4 := (2, 7, 3, (7, 142), (1, 9), (7, 141), (18, 3))
theorem kO_209 : ck_me xj_209 xe_209 = true := by decide +kernel
theorem kW_209 : ck_wd xj_209 ∈ xTs := List.mem_filter.mpr ⟨xtb_ok (b := 7) (List.mem_of_getElem? (i := 142) rfl), ck_wd_good _⟩
def xe_210 : am_W4 := (0, 0, 4, (7, 145), (1, 9), (7, 144), (0, 0))
theorem kO_210 : ck_me xj_210 xe_210 = true := by decide +kernel
theorem kW_210 : ck_wd xj_210 ∈ xTs := List.mem_filter.mpr ⟨xtb_ok (b := 7) (List.mem_of_getElem? (i := 145) rfl), ck_wd_good _⟩
def xe_211 : am_W4 := (0, 0, 3, (7, 148), (1, 9), (7, 147), (0, 0))
theorem kO_211 : ck_me xj_211 xe_211 = true := by decide +kernel
theorem kW_211 : ck_wd xj_211 ∈ xTs := List.mem_filter.mpr ⟨xtb_ok (b := 7) (List.mem_of_getElem? (i := 148) rfl), ck_wd_good _⟩
def xe_212 : am_W4 := (2, 7, 3, (7, 152), (1, 9), (7, 151), (18, 4))
theorem kO_212 : ck_me xj_212 xe_212 = true := by decide +kernel
theorem kW_212 : ck_wd xj_212 ∈ xTs := List.mem_filter.mpr ⟨xtb_ok (b := 7) (List.mem_of_getElem? (i := 152) rfl), ck_wd_good _⟩
def xe_213 : am_W4 := (2, 7, 1, (7, 156), (1, 9), (7, 155), (18, 5))
theorem kO_213 : ck_me xj_213 xe_213 = true := by decide +kernel
theorem kW_213 : ck_wd xj_213 ∈ xTs := List.mem_filter.mpr ⟨xtb_ok (b := 7) (List.mem_of_getElem? (i := 156) rfl), ck_wd_good _⟩
def xe_214 : am_W4 := (2, 7, 2, (7, 160), (1, 9), (7, 159), (18, 6))
theorem kO_214 : ck_me xj_214 xe_214 = true := by decide +kernel
theorem kW_214 : ck_wd xj_214 ∈ xTs := List.mem_filter.mpr ⟨xtb_ok (b := 7) (List.mem_of_getElem? (i := 160) rfl), ck_wd_good _⟩
def xe_215 : am_W4 := (2, 7, 2, (7, 164), (1, 9), (7, 163), (18, 7))
theorem kO_215 : ck_me xj_215 xe_215 = true := by decide +kernel
theorem kW_215 : ck_wd xj_215 ∈ xTs := List.mem_filter.mpr ⟨xtb_ok (b := 7) (List.mem_of_getElem? (i := 164) rfl), ck_wd_good _⟩
def xe_216 : am_W4 := (2, 7, 3, (7, 168), (1, 9), (7, 167), (18, 8))
theorem kO_216 : ck_me xj_216 xe_216 = true := by decide +kernel
theorem kW_216 : ck_wd xj_216 ∈ xTs := List.mem_filter.mpr ⟨xtb_ok (b := 7) (List.mem_of_getElem? (i := 168) rfl), ck_wd_good _⟩
def xe_217 : am_W4 := (2, 7, 2, (7, 172), (1, 9), (7, 171), (18, 9))
theorem kO_217 : ck_me xj_217 xe_217 = true := by decide +kernel
theorem kW_217 : ck_wd xj_217 ∈ xTs := List.mem_filter.mpr ⟨xtb_ok (b := 7) (List.mem_of_getElem? (i := 172) rfl), ck_wd_good _⟩
def xe_218 : am_W4 := (2, 7, 1, (7, 176), (1, 9), (7, 175), (18, 10))
theorem kO_218 : ck_me xj_218 xe_218 = true := by decide +kernel
theorem kW_218 : ck_wd xj_218 ∈ xTs := List.mem_filter.mpr ⟨xtb_ok (b := 7) (List.mem_of_getElem? (i := 176) rfl), ck_wd_good _⟩
def xe_219 : am_W4 := (2, 7, 2, (7, 180), (1, 9), (7, 179), (18, 11))
theorem kO_219 : ck_me xj_219 xe_219 = true := by decide +kernel
theorem kW_219 : ck_wd xj_219 ∈ xTs := List.mem_filter.mpr ⟨xtb_ok (b := 7) (List.mem_of_getElem? (i := 180) rfl), ck_wd_good _⟩
def xe_220 : am_W4 := (2, 7, 4, (7, 184), (1, 9), (7, 183), (18, 12))
theorem kO_220 : ck_me xj_220 xe_220 = true := by decide +kernel
theorem kW_220 : ck_wd xj_220 ∈ xTs := List.mem_filter.mpr ⟨xtb_ok (b := 7) (List.mem_of_getElem? (i := 184) rfl), ck_wd_good _⟩
def xe_221 : am_W4 := (0, 0, 2, (7, 187), (1, 9), (7, 186), (0, 0))
theorem kO_221 : ck_me xj_221 xe_221 = true := by decide +kernel
theorem kW_221 : ck_wd xj_221 ∈ xTs := List.mem_filter.mpr ⟨xtb_ok (b := 7) (List.mem_of_getElem? (i := 187) rfl), ck_wd_good _⟩
def xe_222 : am_W4 := (2, 7, 2, (7, 191), (1, 9), (7, 190), (18, 13))
theorem kO_222 : ck_me xj_222 xe_222 = true := by decide +kernel
theorem kW_222 : ck_wd xj_222 ∈ xTs := List.mem_filter.mpr ⟨xtb_ok (b := 7) (List.mem_of_getElem? (i := 191) rfl), ck_wd_good _⟩
def xe_223 : am_W4 := (2, 7, 1, (7, 195), (1, 9), (7, 193), (7, 194))
theorem kO_223 : ck_me xj_223 xe_223 = true := by decide +kernel
theorem kW_223 : ck_wd xj_223 ∈ xTs := List.mem_filter.mpr ⟨xtb_ok (b := 7) (List.mem_of_getElem? (i := 195) rfl), ck_wd_good _⟩
def xe_224 : am_W4 := (2, 7, 1, (7, 199), (1, 9), (7, 197), (7, 198))
theorem kO_224 : ck_me xj_224 xe_224 = true := by decide +kernel
theorem kW_224 : ck_wd xj_224 ∈ xTs := List.mem_filter.mpr ⟨xtb_ok (b := 7) (List.mem_of_getElem? (i := 199) rfl), ck_wd_good _⟩
def xe_225 : am_W4 := (2, 7, 3, (7, 203), (1, 9), (7, 201), (7, 202))
theorem kO_225 : ck_me xj_225 xe_225 = true := by decide +kernel
theorem kW_225 : ck_wd xj_225 ∈ xTs := List.mem_filter.mpr ⟨xtb_ok (b := 7) (List.mem_of_getElem? (i := 203) rfl), ck_wd_good _⟩
def xe_226 : am_W4 := (2, 7, 1, (7, 207), (1, 9), (7, 205), (7, 206))
theorem kO_226 : ck_me xj_226 xe_226 = true := by decide +kernel
theorem kW_226 : ck_wd xj_226 ∈ xTs := List.mem_filter.mpr ⟨xtb_ok (b := 7) (List.mem_of_getElem? (i := 207) rfl), ck_wd_good _⟩
def xe_227 : am_W4 := (2, 7, 1, (7, 211), (1, 9), (7, 209), (7, 210))
theorem kO_227 : ck_me xj_227 xe_227 = true := by decide +kernel
theorem kW_227 : ck_wd xj_227 ∈ xTs := List.mem_filter.mpr ⟨xtb_ok (b := 7) (List.mem_of_getElem? (i := 211) rfl), ck_wd_good _⟩
def xe_228 : am_W4 := (2, 7, 1, (7, 215), (1, 9), (7, 214), (18, 14))
theorem kO_228 : ck_me xj_228 xe_228 = true := by decide +kernel
theorem kW_228 : ck_wd xj_228 ∈ xTs := List.mem_filter.mpr ⟨xtb_ok (b := 7) (List.mem_of_getElem? (i := 215) rfl), ck_wd_good _⟩
def xe_229 : am_W4 := (2, 7, 2, (7, 219), (1, 9), (7, 218), (18, 15))
theorem kO_229 : ck_me xj_229 xe_229 = true := by decide +kernel
theorem kW_229 : ck_wd xj_229 ∈ xTs := List.mem_filter.mpr ⟨xtb_ok (b := 7) (List.mem_of_getElem? (i := 219) rfl), ck_wd_good _⟩
def xe_230 : am_W4 := (2, 7, 3, (7, 223), (1, 9), (7, 222), (19, 0))
theorem kO_230 : ck_me xj_230 xe_230 = true := by decide +kernel
theorem kW_230 : ck_wd xj_230 ∈ xTs := List.mem_filter.mpr ⟨xtb_ok (b := 7) (List.mem_of_getElem? (i := 223) rfl), ck_wd_good _⟩
def xe_231 : am_W4 := (2, 7, 2, (7, 227), (1, 9), (7, 226), (19, 1))
theorem kO_231 : ck_me xj_231 xe_231 = true := by decide +kernel
theorem kW_231 : ck_wd xj_231 ∈ xTs := List.mem_filter.mpr ⟨xtb_ok (b := 7) (List.mem_of_getElem? (i := 227) rfl), ck_wd_good _⟩
def xe_232 : am_W4 := (2, 7, 4, (7, 231), (1, 9), (7, 230), (19, 2))
theorem kO_232 : ck_me xj_232 xe_232 = true := by decide +kernel
theorem kW_232 : ck_wd xj_232 ∈ xTs := List.mem_filter.mpr ⟨xtb_ok (b := 7) (List.mem_of_getElem? (i := 231) rfl), ck_wd_good _⟩
def xe_233 : am_W4 := (2, 7, 3, (7, 235), (1, 9), (7, 234), (19, 3))
theorem kO_233 : ck_me xj_233 xe_233 = true := by decide +kernel
theorem kW_233 : ck_wd xj_233 ∈ xTs := List.mem_filter.mpr ⟨xtb_ok (b := 7) (List.mem_of_getElem? (i := 235) rfl), ck_wd_good _⟩
def xe_234 : am_W4 := (2, 7, 3, (7, 239), (1, 9), (7, 238), (19, 4))
theorem kO_234 : ck_me xj_234 xe_234 = true := by decide +kernel
theorem kW_234 : ck_wd xj_234 ∈ xTs := List.mem_filter.mpr ⟨xtb_ok (b := 7) (List.mem_of_getElem? (i := 239) rfl), ck_wd_good _⟩
def xe_235 : am_W4 := (2, 7, 1, (8, 3), (1, 9), (8, 1), (8, 2))
theorem kO_235 : ck_me xj_235 xe_235 = true := by decide +kernel
theorem kW_235 : ck_wd xj_235 ∈ xTs := List.mem_filter.mpr ⟨xtb_ok (b := 8) (List.mem_of_getElem? (i := 3) rfl), ck_wd_good _⟩
def xe_236 : am_W4 := (2, 7, 1, (8, 7), (1, 9), (8, 5), (8, 6))
theorem kO_236 : ck_me xj_236 xe_236 = true := by decide +kernel
theorem kW_236 : ck_wd xj_236 ∈ xTs := List.mem_filter.mpr ⟨xtb_ok (b := 8) (List.mem_of_getElem? (i := 7) rfl), ck_wd_good _⟩
def xe_237 : am_W4 := (2, 7, 2, (8, 11), (1, 9), (8, 9), (8, 10))
theorem kO_237 : ck_me xj_237 xe_237 = true := by decide +kernel
theorem kW_237 : ck_wd xj_237 ∈ xTs := List.mem_filter.mpr ⟨xtb_ok (b := 8) (List.mem_of_getElem? (i := 11) rfl), ck_wd_good _⟩
def xe_238 : am_W4 := (2, 7, 1, (8, 15), (1, 9), (8, 13), (8, 14))
theorem kO_238 : ck_me xj_238 xe_238 = true := by decide +kernel
theorem kW_238 : ck_wd xj_238 ∈ xTs := List.mem_filter.mpr ⟨xtb_ok (b := 8) (List.mem_of_getElem? (i := 15) rfl), ck_wd_good _⟩
def xe_239 : am_W4 := (2, 7, 1, (8, 19), (1, 9), (8, 18), (19, 5))
theorem kO_239 : ck_me xj_239 xe_239 = true := by decide +kernel
theorem kW_239 : ck_wd xj_239 ∈ xTs := List.mem_filter.mpr ⟨xtb_ok (b := 8) (List.mem_of_getElem? (i := 19) rfl), ck_wd_good _⟩
def xe_240 : am_W4 := (2, 7, 2, (8, 23), (1, 9), (8, 21), (8, 22))
theorem kO_240 : ck_me xj_240 xe_240 = true := by decide +kernel
theorem kW_240 : ck_wd xj_240 ∈ xTs := List.mem_filter.mpr ⟨xtb_ok (b := 8) (List.mem_of_getElem? (i := 23) rfl), ck_wd_good _⟩
def xe_241 : am_W4 := (2, 7, 1, (8, 27), (1, 9), (8, 25), (8, 26))
theorem kO_241 : ck_me xj_241 xe_241 = true := by decide +kernel
theorem kW_241 : ck_wd xj_241 ∈ xTs := List.mem_filter.mpr ⟨xtb_ok (b := 8) (List.mem_of_getElem? (i := 27) rfl), ck_wd_good _⟩
def xe_242 : am_W4 := (2, 7, 2, (8, 31), (1, 9), (8, 29), (8, 30))
theorem kO_242 : ck_me xj_242 xe_242 = true := by decide +kernel
theorem kW_242 : ck_wd xj_242 ∈ xTs := List.mem_filter.mpr ⟨xtb_ok (b := 8) (List.mem_of_getElem? (i := 31) rfl), ck_wd_good _⟩
def xe_243 : am_W4 := (3, 0, 1, (2, 177), (1, 17), (2, 175), (2, 176))
theorem kO_243 : ck_me xj_243 xe_243 = true := by decide +kernel
theorem kW_243 : ck_wd xj_243 ∈ xTs := List.mem_filter.mpr ⟨xtb_ok (b := 2) (List.mem_of_getElem? (i := 177) rfl), ck_wd_good _⟩
def xe_244 : am_W4 := (3, 0, 1, (2, 181), (1, 17), (2, 179), (2, 180))
theorem kO_244 : ck_me xj_244 xe_244 = true := by decide +kernel
theorem kW_244 : ck_wd xj_244 ∈ xTs := List.mem_filter.mpr ⟨xtb_ok (b := 2) (List.mem_of_getElem? (i := 181) rfl), ck_wd_good _⟩
def xe_245 : am_W4 := (3, 0, 2, (2, 187), (1, 17), (2, 185), (2, 186))
theorem kO_245 : ck_me xj_245 xe_245 = true := by decide +kernel
theorem kW_245 : ck_wd xj_245 ∈ xTs := List.mem_filter.mpr ⟨xtb_ok (b := 2) (List.mem_of_getElem? (i := 187) rfl), ck_wd_good _⟩
def xe_246 : am_W4 := (3, 0, 1, (2, 191), (1, 17), (2, 189), (2, 190))
theorem kO_246 : ck_me xj_246 xe_246 = true := by decide +kernel
theorem kW_246 : ck_wd xj_246 ∈ xTs := List.mem_filter.mpr ⟨xtb_ok (b := 2) (List.mem_of_getElem? (i := 191) rfl), ck_wd_good _⟩
def xe_247 : am_W4 := (0, 0, 2, (2, 194), (1, 18), (2, 193), (0, 0))
theorem kO_247 : ck_me xj_247 xe_247 = true := by decide +kernel
theorem kW_247 : ck_wd xj_247 ∈ xTs := List.mem_filter.mpr ⟨xtb_ok (b := 2) (List.mem_of_getElem? (i := 194) rfl), ck_wd_good _⟩
def xe_248 : am_W4 := (0, 0, 2, (2, 197), (1, 17), (2, 196), (0, 0))
theorem kO_248 : ck_me xj_248 xe_248 = true := by decide +kernel
theorem kW_248 : ck_wd xj_248 ∈ xTs := List.mem_filter.mpr ⟨xtb_ok (b := 2) (List.mem_of_getElem? (i := 197) rfl), ck_wd_good _⟩
def xe_249 : am_W4 := (0, 0, 3, (2, 202), (1, 19), (2, 201), (0, 0))
theorem kO_249 : ck_me xj_249 xe_249 = true := by decide +kernel
theorem kW_249 : ck_wd xj_249 ∈ xTs := List.mem_filter.mpr ⟨xtb_ok (b := 2) (List.mem_of_getElem? (i := 202) rfl), ck_wd_good _⟩
def xe_250 : am_W4 := (0, 0, 2, (2, 205), (1, 20), (2, 204), (0, 0))
theorem kO_250 : ck_me xj_250 xe_250 = true := by decide +kernel
theorem kW_250 : ck_wd xj_250 ∈ xTs := List.mem_filter.mpr ⟨xtb_ok (b := 2) (List.mem_of_getElem? (i := 205) rfl), ck_wd_good _⟩
def xe_251 : am_W4 := (0, 0, 2, (2, 208), (1, 20), (2, 207), (0, 0))
theorem kO_251 : ck_me xj_251 xe_251 = true := by decide +kernel
theorem kW_251 : ck_wd xj_251 ∈ xTs := List.mem_filter.mpr ⟨xtb_ok (b := 2) (List.mem_of_getElem? (i := 208) rfl), ck_wd_good _⟩
def xe_252 : am_W4 := (0, 0, 1, (2, 211), (1, 20), (2, 210), (0, 0))
theorem kO_252 : ck_me xj_252 xe_252 = true := by decide +kernel
theorem kW_252 : ck_wd xj_252 ∈ xTs := List.mem_filter.mpr ⟨xtb_ok (b := 2) (List.mem_of_getElem? (i := 211) rfl), ck_wd_good _⟩
def xe_253 : am_W4 := (0, 0, 2, (2, 215), (1, 20), (2, 214), (0, 0))
theorem kO_253 : ck_me xj_253 xe_253 = true := by decide +kernel
theorem kW_253 : ck_wd xj_253 ∈ xTs := List.mem_filter.mpr ⟨xtb_ok (b := 2) (List.mem_of_getElem? (i := 215) rfl), ck_wd_good _⟩
def xe_254 : am_W4 := (3, 0, 2, (2, 226), (1, 17), (2, 224), (2, 225))
theorem kO_254 : ck_me xj_254 xe_254 = true := by decide +kernel
theorem kW_254 : ck_wd xj_254 ∈ xTs := List.mem_filter.mpr ⟨xtb_ok (b := 2) (List.mem_of_getElem? (i := 226) rfl), ck_wd_good _⟩
def xe_255 : am_W4 := (3, 0, 3, (2, 230), (1, 17), (2, 228), (2, 229))
theorem kO_255 : ck_me xj_255 xe_255 = true := by decide +kernel
theorem kW_255 : ck_wd xj_255 ∈ xTs := List.mem_filter.mpr ⟨xtb_ok (b := 2) (List.mem_of_getElem? (i := 230) rfl), ck_wd_good _⟩
def xe_256 : am_W4 := (0, 0, 4, (2, 234), (1, 18), (2, 233), (0, 0))
theorem kO_256 : ck_me xj_256 xe_256 = true := by decide +kernel
theorem kW_256 : ck_wd xj_256 ∈ xTs := List.mem_filter.mpr ⟨xtb_ok (b := 2) (List.mem_of_getElem? (i := 234) rfl), ck_wd_good _⟩
def xe_257 : am_W4 := (0, 0, 1, (2, 237), (1, 18), (2, 236), (0, 0))
theorem kO_257 : ck_me xj_257 xe_257 = true := by decide +kernel
theorem kW_257 : ck_wd xj_257 ∈ xTs := List.mem_filter.mpr ⟨xtb_ok (b := 2) (List.mem_of_getElem? (i := 237) rfl), ck_wd_good _⟩
def xe_258 : am_W4 := (0, 0, 4, (3, 2), (1, 18), (3, 1), (0, 0))
theorem kO_258 : ck_me xj_258 xe_258 = true := by decide +kernel
theorem kW_258 : ck_wd xj_258 ∈ xTs := List.mem_filter.mpr ⟨xtb_ok (b := 3) (List.mem_of_getElem? (i := 2) rfl), ck_wd_good _⟩
def xe_259 : am_W4 := (0, 0, 4, (3, 5), (1, 20), (3, 4), (0, 0))
theorem kO_259 : ck_me xj_259 xe_259 = true := by decide +kernel
theorem kW_259 : ck_wd xj_259 ∈ xTs := List.mem_filter.mpr ⟨xtb_ok (b := 3) (List.mem_of_getElem? (i := 5) rfl), ck_wd_good _⟩
def xe_260 : am_W4 := (0, 0, 4, (3, 11), (1, 20), (3, 10), (0, 0))
theorem kO_260 : ck_me xj_260 xe_260 = true := by decide +kernel
theorem kW_260 : ck_wd xj_260 ∈ xTs := List.mem_filter.mpr ⟨xtb_ok (b := 3) (List.mem_of_getElem? (i := 11) rfl), ck_wd_good _⟩
def xe_261 : am_W4 := (0, 0, 3, (3, 14), (1, 20), (3, 13), (0, 0))
theorem kO_261 : ck_me xj_261 xe_261 = true := by decide +kernel
theorem kW_261 : ck_wd xj_261 ∈ xTs := List.mem_filter.mpr ⟨xtb_ok (b := 3) (List.mem_of_getElem? (i := 14) rfl), ck_wd_good _⟩
def xe_262 : am_W4 := (0, 0, 3, (3, 17), (1, 17), (3, 16), (0, 0))
theorem kO_262 : ck_me xj_262 xe_262 = true := by decide +kernel
theorem kW_262 : ck_wd xj_262 ∈ xTs := List.mem_filter.mpr ⟨xtb_ok (b := 3) (List.mem_of_getElem? (i := 17) rfl), ck_wd_good _⟩
def xe_263 : am_W4 := (0, 0, 4, (3, 20), (1, 19), (3, 19), (0, 0))
theorem kO_263 : ck_me xj_263 xe_263 = true := by decide +kernel
theorem kW_263 : ck_wd xj_263 ∈ xTs := List.mem_filter.mpr ⟨xtb_ok (b := 3) (List.mem_of_getElem? (i := 20) rfl), ck_wd_good _⟩
def xe_264 : am_W4 := (0, 0, 4, (3, 23), (1, 20), (3, 22), (0, 0))
theorem kO_264 : ck_me xj_264 xe_264 = true := by decide +kernel
theorem kW_264 : ck_wd xj_264 ∈ xTs := List.mem_filter.mpr ⟨xtb_ok (b := 3) (List.mem_of_getElem? (i := 23) rfl), ck_wd_good _⟩
def xe_265 : am_W4 := (0, 0, 4, (3, 26), (1, 20), (3, 25), (0, 0))
theorem kO_265 : ck_me xj_265 xe_265 = true := by decide +kernel
theorem kW_265 : ck_wd xj_265 ∈ xTs := List.mem_filter.mpr ⟨xtb_ok (b := 3) (List.mem_of_getElem? (i := 26) rfl), ck_wd_good _⟩
def xe_266 : am_W4 := (0, 0, 1, (3, 29), (1, 21), (3, 28), (0, 0))
theorem kO_266 : ck_me xj_266 xe_266 = true := by decide +kernel
theorem kW_266 : ck_wd xj_266 ∈ xTs := List.mem_filter.mpr ⟨xtb_ok (b := 3) (List.mem_of_getElem? (i := 29) rfl), ck_wd_good _⟩
def xe_267 : am_W4 := (0, 0, 1, (3, 32), (1, 21), (3, 31), (0, 0))
theorem kO_267 : ck_me xj_267 xe_267 = true := by decide +kernel
theorem kW_267 : ck_wd xj_267 ∈ xTs := List.mem_filter.mpr ⟨xtb_ok (b := 3) (List.mem_of_getElem? (i := 32) rfl), ck_wd_good _⟩
def xe_268 : am_W4 := (0, 0, 1, (3, 36), (1, 21), (3, 35), (0, 0))
theorem kO_268 : ck_me xj_268 xe_268 = true := by decide +kernel
theorem kW_268 : ck_wd xj_268 ∈ xTs := List.mem_filter.mpr ⟨xtb_ok (b := 3) (List.mem_of_getElem? (i := 36) rfl), ck_wd_good _⟩
def xe_269 : am_W4 := (0, 0, 1, (3, 142), (1, 22), (3, 141), (0, 0))
theorem kO_269 : ck_me xj_269 xe_269 = true := by decide +kernel
theorem kW_269 : ck_wd xj_269 ∈ xTs := List.mem_filter.mpr ⟨xtb_ok (b := 3) (List.mem_of_getElem? (i := 142) rfl), ck_wd_good _⟩
def xe_270 : am_W4 := (0, 0, 2, (4, 43), (1, 16), (4, 42), (0, 0))
theorem kO_270 : ck_me xj_270 xe_270 = true := by decide +kernel
theorem kW_270 : ck_wd xj_270 ∈ xTs := List.mem_filter.mpr ⟨xtb_ok (b := 4) (List.mem_of_getElem? (i := 43) rfl), ck_wd_good _⟩
def xe_271 : am_W4 := (0, 0, 1, (4, 94), (1, 25), (4, 93), (0, 0))
theorem kO_271 : ck_me xj_271 xe_271 = true := by decide +kernel
theorem kW_271 : ck_wd xj_271 ∈ xTs := List.mem_filter.mpr ⟨xtb_ok (b := 4) (List.mem_of_getElem? (i := 94) rfl), ck_wd_good _⟩
def xme : List (List (Nat × am_W4)) := [[(1, xe_1), (2, xe_2), (3, xe_3), (4, xe_4), (5, xe_5), (6, xe_6), (7, xe_7), (8, xe_8), (9, xe_9), (10, xe_10), (11, xe_11), (12, xe_12), (13, xe_13), (14, xe_14), (15, xe_15)], [(16, xe_16), (17, xe_17), (18, xe_18), (19, xe_19), (20, xe_20), (21, xe_21), (22, xe_22), (23, xe_23), (24, xe_24), (25, xe_25), (26, xe_26), (27, xe_27), (28, xe_28), (29, xe_29), (30, xe_30), (31, xe_31)], [(32, xe_32), (33, xe_33), (34, xe_34), (35, xe_35), (36, xe_36), (37, xe_37), (38, xe_38), (39, xe_39), (40, xe_40), (41, xe_41), (42, xe_42), (43, xe_43), (44, xe_44), (45, xe_45), (46, xe_46), (47, xe_47)], [(48, xe_48), (49, xe_49), (50, xe_50), (51, xe_51), (52, xe_52), (53, xe_53), (54, xe_54), (55, xe_55), (56, xe_56), (57, xe_57), (58, xe_58), (59, xe_59), (60, xe_60), (61, xe_61), (62, xe_62), (63, xe_63)], [(64, xe_64), (65, xe_65), (66, xe_66), (67, xe_67), (68, xe_68), (69, xe_69), (70, xe_70), (71, xe_71), (72, xe_72), (73, xe_73), (74, xe_74), (75, xe_75), (76, xe_76), (77, xe_77), (78, xe_78), (79, xe_79)], [(80, xe_80), (81, xe_81), (82, xe_82), (83, xe_83), (84, xe_84), (85, xe_85), (86, xe_86), (87, xe_87), (88, xe_88), (89, xe_89), (90, xe_90), (91, xe_91), (92, xe_92), (93, xe_93), (94, xe_94), (95, xe_95)], [(96, xe_96), (97, xe_97), (98, xe_98), (99, xe_99), (100, xe_100), (101, xe_101), (102, xe_102), (103, xe_103), (104, xe_104), (105, xe_105), (106, xe_106), (107, xe_107), (108, xe_108), (109, xe_109), (110, xe_110), (111, xe_111)], [(112, xe_112), (113, xe_113), (114, xe_114), (115, xe_115), (116, xe_116), (117, xe_117), (118, xe_118), (119, xe_119), (120, xe_120), (121, xe_121), (122, xe_122), (123, xe_123), (124, xe_124), (125, xe_125), (126, xe_126), (127, xe_127)], [(128, xe_128), (129, xe_129), (130, xe_130), (131, xe_131), (132, xe_132), (133, xe_133), (134, xe_134), (135, xe_135), (136, xe_136), (137, xe_137), (138, xe_138), (139, xe_139), (140, xe_140), (141, xe_141), (142, xe_142), (143, xe_143)], [(144, xe_144), (145, xe_145), (146, xe_146), (147, xe_147), (148, xe_148), (149, xe_149), (150, xe_150), (151, xe_151), (152, xe_152), (153, xe_153), (154, xe_154), (155, xe_155), (156, xe_156), (157, xe_157), (158, xe_158), (159, xe_159)], [(160, xe_160), (161, xe_161), (162, xe_162), (163, xe_163), (164, xe_164), (165, xe_165), (166, xe_166), (167, xe_167), (168, xe_168), (169, xe_169), (170, xe_170), (171, xe_171), (172, xe_172), (173, xe_173), (174, xe_174), (175, xe_175)], [(176, xe_176), (177, xe_177), (178, xe_178), (179, xe_179), (180, xe_180), (181, xe_181), (182, xe_182), (183, xe_183), (184, xe_184), (185, xe_185), (186, xe_186), (187, xe_187), (188, xe_188), (189, xe_189), (190, xe_190), (191, xe_191)], [(192, xe_192), (193, xe_193), (194, xe_194), (195, xe_195), (196, xe_196), (197, xe_197), (198, xe_198), (199, xe_199), (200, xe_200), (201, xe_201), (202, xe_202), (203, xe_203), (204, xe_204), (205, xe_205), (206, xe_206), (207, xe_207)], [(208, xe_208), (209, xe_209), (210, xe_210), (211, xe_211), (212, xe_212), (213, xe_213), (214, xe_214), (215, xe_215), (216, xe_216), (217, xe_217), (218, xe_218), (219, xe_219), (220, xe_220), (221, xe_221), (222, xe_222), (223, xe_223)], [(224, xe_224), (225, xe_225), (226, xe_226), (227, xe_227), (228, xe_228), (229, xe_229), (230, xe_230), (231, xe_231), (232, xe_232), (233, xe_233), (234, xe_234), (235, xe_235), (236, xe_236), (237, xe_237), (238, xe_238), (239, xe_239)], [(240, xe_240), (241, xe_241), (242, xe_242), (243, xe_243), (244, xe_244), (245, xe_245), (246, xe_246), (247, xe_247), (248, xe_248), (249, xe_249), (250, xe_250), (251, xe_251), (252, xe_252), (253, xe_253), (254, xe_254), (255, xe_255)], [(256, xe_256), (257, xe_257), (258, xe_258), (259, xe_259), (260, xe_260), (261, xe_261), (262, xe_262), (263, xe_263), (264, xe_264), (265, xe_265), (266, xe_266), (267, xe_267), (268, xe_268), (269, xe_269), (270, xe_270), (271, xe_271)]]
theorem xme_0 : ∀ q ∈ ([(0, xj_0), (1, xj_1), (2, xj_2), (3, xj_3), (4, xj_4), (5, xj_5), (6, xj_6), (7, xj_7), (8, xj_8), (9, xj_9), (10, xj_10), (11, xj_11), (12, xj_12), (13, xj_13), (14, xj_14), (15, xj_15)] : List (Nat × am_I)), ∀ e, am_lk2 xme q.1 = some e → ck_me q.2 e = true ∧ ck_wd q.2 ∈ xTs := by
  intro q hq e he
  simp only [List.mem_cons, List.not_mem_nil, or_false] at hq
  rcases hq with rfl | rfl | rfl | rfl | rfl | rfl | rfl | rfl | rfl | rfl | rfl | rfl | rfl | rfl | rfl | rfl
  · cases (show am_lk2 xme 0 = none from rfl).symm.trans he
  · cases (show am_lk2 xme 1 = some xe_1 from rfl).symm.trans he; exact ⟨kO_1, kW_1⟩
  · cases (show am_lk2 xme 2 = some xe_2 from rfl).symm.trans he; exact ⟨kO_2, kW_2⟩
  · cases (show am_lk2 xme 3 = some xe_3 from rfl).symm.trans he; exact ⟨kO_3, kW_3⟩
  · cases (show am_lk2 xme 4 = some xe_4 from rfl).symm.trans he; exact ⟨kO_4, kW_4⟩
  · cases (show am_lk2 xme 5 = some xe_5 from rfl).symm.trans he; exact ⟨kO_5, kW_5⟩
  · cases (show am_lk2 xme 6 = some xe_6 from rfl).symm.trans he; exact ⟨kO_6, kW_6⟩
  · cases (show am_lk2 xme 7 = some xe_7 from rfl).symm.trans he; exact ⟨kO_7, kW_7⟩
  · cases (show am_lk2 xme 8 = some xe_8 from rfl).symm.trans he; exact ⟨kO_8, kW_8⟩
  · cases (show am_lk2 xme 9 = some xe_9 from rfl).symm.trans he; exact ⟨kO_9, kW_9⟩
  · cases (show am_lk2 xme 10 = some xe_10 from rfl).symm.trans he; exact ⟨kO_10, kW_10⟩
  · cases (show am_lk2 xme 11 = some xe_11 from rfl).symm.trans he; exact ⟨kO_11, kW_11⟩
  · cases (show am_lk2 xme 12 = some xe_12 from rfl).symm.trans he; exact ⟨kO_12, kW_12⟩
  · cases (show am_lk2 xme 13 = some xe_13 from rfl).symm.trans he; exact ⟨kO_13, kW_13⟩
  · cases (show am_lk2 xme 14 = some xe_14 from rfl).symm.trans he; exact ⟨kO_14, kW_14⟩
  · cases (show am_lk2 xme 15 = some xe_15 from rfl).symm.trans he; exact ⟨kO_15, kW_15⟩
theorem xme_1 : ∀ q ∈ ([(16, xj_16), (17, xj_17), (18, xj_18), (19, xj_19), (20, xj_20), (21, xj_21), (22, xj_22), (23, xj_23), (24, xj_24), (25, xj_25), (26, xj_26), (27, xj_27), (28, xj_28), (29, xj_29), (30, xj_30), (31, xj_31)] : List (Nat × am_I)), ∀ e, am_lk2 xme q.1 = some e → ck_me q.2 e = true ∧ ck_wd q.2 ∈ xTs := by
  intro q hq e he
  simp only [List.mem_cons, List.not_mem_nil, or_false] at hq
  rcases hq with rfl | rfl | rfl | rfl | rfl | rfl | rfl | rfl | rfl | rfl | rfl | rfl | rfl | rfl | rfl | rfl
  · cases (show am_lk2 xme 16 = some xe_16 from rfl).symm.trans he; exact ⟨kO_16, kW_16⟩
  · cases (show am_lk2 xme 17 = some xe_17 from rfl).symm.trans he; exact ⟨kO_17, kW_17⟩
  · cases (show am_lk2 xme 18 = some xe_18 from rfl).symm.trans he; exact ⟨kO_18, kW_18⟩
  · cases (show am_lk2 xme 19 = some xe_19 from rfl).symm.trans he; exact ⟨kO_19, kW_19⟩
  · cases (show am_lk2 xme 20 = some xe_20 from rfl).symm.trans he; exact ⟨kO_20, kW_20⟩
  · cases (show am_lk2 xme 21 = some xe_21 from rfl).symm.trans he; exact ⟨kO_21, kW_21⟩
  · cases (show am_lk2 xme 22 = some xe_22 from rfl).symm.trans he; exact ⟨kO_22, kW_22⟩
  · cases (show am_lk2 xme 23 = some xe_23 from rfl).symm.trans he; exact ⟨kO_23, kW_23⟩
  · cases (show am_lk2 xme 24 = some xe_24 from rfl).symm.trans he; exact ⟨kO_24, kW_24⟩
  · cases (show am_lk2 xme 25 = some xe_25 from rfl).symm.trans he; exact ⟨kO_25, kW_25⟩
  · cases (show am_lk2 xme 26 = some xe_26 from rfl).symm.trans he; exact ⟨kO_26, kW_26⟩
  · cases (show am_lk2 xme 27 = some xe_27 from rfl).symm.trans he; exact ⟨kO_27, kW_27⟩
  · cases (show am_lk2 xme 28 = some xe_28 from rfl).symm.trans he; exact ⟨kO_28, kW_28⟩
  · cases (show am_lk2 xme 29 = some xe_29 from rfl).symm.trans he; exact ⟨kO_29, kW_29⟩
  · cases (show am_lk2 xme 30 = some xe_30 from rfl).symm.trans he; exact ⟨kO_30, kW_30⟩
  · cases (show am_lk2 xme 31 = some xe_31 from rfl).symm.trans he; exact ⟨kO_31, kW_31⟩
theorem xme_2 : ∀ q ∈ ([(32, xj_32), (33, xj_33), (34, xj_34), (35, xj_35), (36, xj_36), (37, xj_37), (38, xj_38), (39, xj_39), (40, xj_40), (41, xj_41), (42, xj_42), (43, xj_43), (44, xj_44), (45, xj_45), (46, xj_46), (47, xj_47)] : List (Nat × am_I)), ∀ e, am_lk2 xme q.1 = some e → ck_me q.2 e = true ∧ ck_wd q.2 ∈ xTs := by
  intro q hq e he
  simp only [List.mem_cons, List.not_mem_nil, or_false] at hq
  rcases hq with rfl | rfl | rfl | rfl | rfl | rfl | rfl | rfl | rfl | rfl | rfl | rfl | rfl | rfl | rfl | rfl
  · cases (show am_lk2 xme 32 = some xe_32 from rfl).symm.trans he; exact ⟨kO_32, kW_32⟩
  · cases (show am_lk2 xme 33 = some xe_33 from rfl).symm.trans he; exact ⟨kO_33, kW_33⟩
  · cases (show am_lk2 xme 34 = some xe_34 from rfl).symm.trans he; exact ⟨kO_34, kW_34⟩
  · cases (show am_lk2 xme 35 = some xe_35 from rfl).symm.trans he; exact ⟨kO_35, kW_35⟩
  · cases (show am_lk2 xme 36 = some xe_36 from rfl).symm.trans he; exact ⟨kO_36, kW_36⟩
  · cases (show am_lk2 xme 37 = some xe_37 from rfl).symm.trans he; exact ⟨kO_37, kW_37⟩
  · cases (show am_lk2 xme 38 = some xe_38 from rfl).symm.trans he; exact ⟨kO_38, kW_38⟩
  · cases (show am_lk2 xme 39 = some xe_39 from rfl).symm.trans he; exact ⟨kO_39, kW_39⟩
  · cases (show am_lk2 xme 40 = some xe_40 from rfl).symm.trans he; exact ⟨kO_40, kW_40⟩
  · cases (show am_lk2 xme 41 = some xe_41 from rfl).symm.trans he; exact ⟨kO_41, kW_41⟩
  · cases (show am_lk2 xme 42 = some xe_42 from rfl).symm.trans he; exact ⟨kO_42, kW_42⟩
  · cases (show am_lk2 xme 43 = some xe_43 from rfl).symm.trans he; exact ⟨kO_43, kW_43⟩
  · cases (show am_lk2 xme 44 = some xe_44 from rfl).symm.trans he; exact ⟨kO_44, kW_44⟩
  · cases (show am_lk2 xme 45 = some xe_45 from rfl).symm.trans he; exact ⟨kO_45, kW_45⟩
  · cases (show am_lk2 xme 46 = some xe_46 from rfl).symm.trans he; exact ⟨kO_46, kW_46⟩
  · cases (show am_lk2 xme 47 = some xe_47 from rfl).symm.trans he; exact ⟨kO_47, kW_47⟩
theorem xme_3 : ∀ q ∈ ([(48, xj_48), (49, xj_49), (50, xj_50), (51, xj_51), (52, xj_52), (53, xj_53), (54, xj_54), (55, xj_55), (56, xj_56), (57, xj_57), (58, xj_58), (59, xj_59), (60, xj_60), (61, xj_61), (62, xj_62), (63, xj_63)] : List (Nat × am_I)), ∀ e, am_lk2 xme q.1 = some e → ck_me q.2 e = true ∧ ck_wd q.2 ∈ xTs := by
  intro q hq e he
  simp only [List.mem_cons, List.not_mem_nil, or_false] at hq
  rcases hq with rfl | rfl | rfl | rfl | rfl | rfl | rfl | rfl | rfl | rfl | rfl | rfl | rfl | rfl | rfl | rfl
  · cases (show am_lk2 xme 48 = some xe_48 from rfl).symm.trans he; exact ⟨kO_48, kW_48⟩
  · cases (show am_lk2 xme 49 = some xe_49 from rfl).symm.trans he; exact ⟨kO_49, kW_49⟩
  · cases (show am_lk2 xme 50 = some xe_50 from rfl).symm.trans he; exact ⟨kO_50, kW_50⟩
  · cases (show am_lk2 xme 51 = some xe_51 from rfl).symm.trans he; exact ⟨kO_51, kW_51⟩
  · cases (show am_lk2 xme 52 = some xe_52 from rfl).symm.trans he; exact ⟨kO_52, kW_52⟩
  · cases (show am_lk2 xme 53 = some xe_53 from rfl).symm.trans he; exact ⟨kO_53, kW_53⟩
  · cases (show am_lk2 xme 54 = some xe_54 from rfl).symm.trans he; exact ⟨kO_54, kW_54⟩
  · cases (show am_lk2 xme 55 = some xe_55 from rfl).symm.trans he; exact ⟨kO_55, kW_55⟩
  · cases (show am_lk2 xme 56 = some xe_56 from rfl).symm.trans he; exact ⟨kO_56, kW_56⟩
  · cases (show am_lk2 xme 57 = some xe_57 from rfl).symm.trans he; exact ⟨kO_57, kW_57⟩
  · cases (show am_lk2 xme 58 = some xe_58 from rfl).symm.trans he; exact ⟨kO_58, kW_58⟩
  · cases (show am_lk2 xme 59 = some xe_59 from rfl).symm.trans he; exact ⟨kO_59, kW_59⟩
  · cases (show am_lk2 xme 60 = some xe_60 from rfl).symm.trans he; exact ⟨kO_60, kW_60⟩
  · cases (show am_lk2 xme 61 = some xe_61 from rfl).symm.trans he; exact ⟨kO_61, kW_61⟩
  · cases (show am_lk2 xme 62 = some xe_62 from rfl).symm.trans he; exact ⟨kO_62, kW_62⟩
  · cases (show am_lk2 xme 63 = some xe_63 from rfl).symm.trans he; exact ⟨kO_63, kW_63⟩
theorem xme_4 : ∀ q ∈ ([(64, xj_64), (65, xj_65), (66, xj_66), (67, xj_67), (68, xj_68), (69, xj_69), (70, xj_70), (71, xj_71), (72, xj_72), (73, xj_73), (74, xj_74), (75, xj_75), (76, xj_76), (77, xj_77), (78, xj_78), (79, xj_79)] : List (Nat × am_I)), ∀ e, am_lk2 xme q.1 = some e → ck_me q.2 e = true ∧ ck_wd q.2 ∈ xTs := by
  intro q hq e he
  simp only [List.mem_cons, List.not_mem_nil, or_false] at hq
  rcases hq with rfl | rfl | rfl | rfl | rfl | rfl | rfl | rfl | rfl | rfl | rfl | rfl | rfl | rfl | rfl | rfl
  · cases (show am_lk2 xme 64 = some xe_64 from rfl).symm.trans he; exact ⟨kO_64, kW_64⟩
  · cases (show am_lk2 xme 65 = some xe_65 from rfl).symm.trans he; exact ⟨kO_65, kW_65⟩
  · cases (show am_lk2 xme 66 = some xe_66 from rfl).symm.trans he; exact ⟨kO_66, kW_66⟩
  · cases (show am_lk2 xme 67 = some xe_67 from rfl).symm.trans he; exact ⟨kO_67, kW_67⟩
  · cases (show am_lk2 xme 68 = some xe_68 from rfl).symm.trans he; exact ⟨kO_68, kW_68⟩
  · cases (show am_lk2 xme 69 = some xe_69 from rfl).symm.trans he; exact ⟨kO_69, kW_69⟩
  · cases (show am_lk2 xme 70 = some xe_70 from rfl).symm.trans he; exact ⟨kO_70, kW_70⟩
  · cases (show am_lk2 xme 71 = some xe_71 from rfl).symm.trans he; exact ⟨kO_71, kW_71⟩
  · cases (show am_lk2 xme 72 = some xe_72 from rfl).symm.trans he; exact ⟨kO_72, kW_72⟩
  · cases (show am_lk2 xme 73 = some xe_73 from rfl).symm.trans he; exact ⟨kO_73, kW_73⟩
  · cases (show am_lk2 xme 74 = some xe_74 from rfl).symm.trans he; exact ⟨kO_74, kW_74⟩
  · cases (show am_lk2 xme 75 = some xe_75 from rfl).symm.trans he; exact ⟨kO_75, kW_75⟩
  · cases (show am_lk2 xme 76 = some xe_76 from rfl).symm.trans he; exact ⟨kO_76, kW_76⟩
  · cases (show am_lk2 xme 77 = some xe_77 from rfl).symm.trans he; exact ⟨kO_77, kW_77⟩
  · cases (show am_lk2 xme 78 = some xe_78 from rfl).symm.trans he; exact ⟨kO_78, kW_78⟩
  · cases (show am_lk2 xme 79 = some xe_79 from rfl).symm.trans he; exact ⟨kO_79, kW_79⟩
theorem xme_5 : ∀ q ∈ ([(80, xj_80), (81, xj_81), (82, xj_82), (83, xj_83), (84, xj_84), (85, xj_85), (86, xj_86), (87, xj_87), (88, xj_88), (89, xj_89), (90, xj_90), (91, xj_91), (92, xj_92), (93, xj_93), (94, xj_94), (95, xj_95)] : List (Nat × am_I)), ∀ e, am_lk2 xme q.1 = some e → ck_me q.2 e = true ∧ ck_wd q.2 ∈ xTs := by
  intro q hq e he
  simp only [List.mem_cons, List.not_mem_nil, or_false] at hq
  rcases hq with rfl | rfl | rfl | rfl | rfl | rfl | rfl | rfl | rfl | rfl | rfl | rfl | rfl | rfl | rfl | rfl
  · cases (show am_lk2 xme 80 = some xe_80 from rfl).symm.trans he; exact ⟨kO_80, kW_80⟩
  · cases (show am_lk2 xme 81 = some xe_81 from rfl).symm.trans he; exact ⟨kO_81, kW_81⟩
  · cases (show am_lk2 xme 82 = some xe_82 from rfl).symm.trans he; exact ⟨kO_82, kW_82⟩
  · cases (show am_lk2 xme 83 = some xe_83 from rfl).symm.trans he; exact ⟨kO_83, kW_83⟩
  · cases (show am_lk2 xme 84 = some xe_84 from rfl).symm.trans he; exact ⟨kO_84, kW_84⟩
  · cases (show am_lk2 xme 85 = some xe_85 from rfl).symm.trans he; exact ⟨kO_85, kW_85⟩
  · cases (show am_lk2 xme 86 = some xe_86 from rfl).symm.trans he; exact ⟨kO_86, kW_86⟩
  · cases (show am_lk2 xme 87 = some xe_87 from rfl).symm.trans he; exact ⟨kO_87, kW_87⟩
  · cases (show am_lk2 xme 88 = some xe_88 from rfl).symm.trans he; exact ⟨kO_88, kW_88⟩
  · cases (show am_lk2 xme 89 = some xe_89 from rfl).symm.trans he; exact ⟨kO_89, kW_89⟩
  · cases (show am_lk2 xme 90 = some xe_90 from rfl).symm.trans he; exact ⟨kO_90, kW_90⟩
  · cases (show am_lk2 xme 91 = some xe_91 from rfl).symm.trans he; exact ⟨kO_91, kW_91⟩
  · cases (show am_lk2 xme 92 = some xe_92 from rfl).symm.trans he; exact ⟨kO_92, kW_92⟩
  · cases (show am_lk2 xme 93 = some xe_93 from rfl).symm.trans he; exact ⟨kO_93, kW_93⟩
  · cases (show am_lk2 xme 94 = some xe_94 from rfl).symm.trans he; exact ⟨kO_94, kW_94⟩
  · cases (show am_lk2 xme 95 = some xe_95 from rfl).symm.trans he; exact ⟨kO_95, kW_95⟩
theorem xme_6 : ∀ q ∈ ([(96, xj_96), (97, xj_97), (98, xj_98), (99, xj_99), (100, xj_100), (101, xj_101), (102, xj_102), (103, xj_103), (104, xj_104), (105, xj_105), (106, xj_106), (107, xj_107), (108, xj_108), (109, xj_109), (110, xj_110), (111, xj_111)] : List (Nat × am_I)), ∀ e, am_lk2 xme q.1 = some e → ck_me q.2 e = true ∧ ck_wd q.2 ∈ xTs := by
  intro q hq e he
  simp only [List.mem_cons, List.not_mem_nil, or_false] at hq
  rcases hq with rfl | rfl | rfl | rfl | rfl | rfl | rfl | rfl | rfl | rfl | rfl | rfl | rfl | rfl | rfl | rfl
  · cases (show am_lk2 xme 96 = some xe_96 from rfl).symm.trans he; exact ⟨kO_96, kW_96⟩
  · cases (show am_lk2 xme 97 = some xe_97 from rfl).symm.trans he; exact ⟨kO_97, kW_97⟩
  · cases (show am_lk2 xme 98 = some xe_98 from rfl).symm.trans he; exact ⟨kO_98, kW_98⟩
  · cases (show am_lk2 xme 99 = some xe_99 from rfl).symm.trans he; exact ⟨kO_99, kW_99⟩
  · cases (show am_lk2 xme 100 = some xe_100 from rfl).symm.trans he; exact ⟨kO_100, kW_100⟩
  · cases (show am_lk2 xme 101 = some xe_101 from rfl).symm.trans he; exact ⟨kO_101, kW_101⟩
  · cases (show am_lk2 xme 102 = some xe_102 from rfl).symm.trans he; exact ⟨kO_102, kW_102⟩
  · cases (show am_lk2 xme 103 = some xe_103 from rfl).symm.trans he; exact ⟨kO_103, kW_103⟩
  · cases (show am_lk2 xme 104 = some xe_104 from rfl).symm.trans he; exact ⟨kO_104, kW_104⟩
  · cases (show am_lk2 xme 105 = some xe_105 from rfl).symm.trans he; exact ⟨kO_105, kW_105⟩
  · cases (show am_lk2 xme 106 = some xe_106 from rfl).symm.trans he; exact ⟨kO_106, kW_106⟩
  · cases (show am_lk2 xme 107 = some xe_107 from rfl).symm.trans he; exact ⟨kO_107, kW_107⟩
  · cases (show am_lk2 xme 108 = some xe_108 from rfl).symm.trans he; exact ⟨kO_108, kW_108⟩
  · cases (show am_lk2 xme 109 = some xe_109 from rfl).symm.trans he; exact ⟨kO_109, kW_109⟩
  · cases (show am_lk2 xme 110 = some xe_110 from rfl).symm.trans he; exact ⟨kO_110, kW_110⟩
  · cases (show am_lk2 xme 111 = some xe_111 from rfl).symm.trans he; exact ⟨kO_111, kW_111⟩
theorem xme_7 : ∀ q ∈ ([(112, xj_112), (113, xj_113), (114, xj_114), (115, xj_115), (116, xj_116), (117, xj_117), (118, xj_118), (119, xj_119), (120, xj_120), (121, xj_121), (122, xj_122), (123, xj_123), (124, xj_124), (125, xj_125), (126, xj_126), (127, xj_127)] : List (Nat × am_I)), ∀ e, am_lk2 xme q.1 = some e → ck_me q.2 e = true ∧ ck_wd q.2 ∈ xTs := by
  intro q hq e he
  simp only [List.mem_cons, List.not_mem_nil, or_false] at hq
  rcases hq with rfl | rfl | rfl | rfl | rfl | rfl | rfl | rfl | rfl | rfl | rfl | rfl | rfl | rfl | rfl | rfl
  · cases (show am_lk2 xme 112 = some xe_112 from rfl).symm.trans he; exact ⟨kO_112, kW_112⟩
  · cases (show am_lk2 xme 113 = some xe_113 from rfl).symm.trans he; exact ⟨kO_113, kW_113⟩
  · cases (show am_lk2 xme 114 = some xe_114 from rfl).symm.trans he; exact ⟨kO_114, kW_114⟩
  · cases (show am_lk2 xme 115 = some xe_115 from rfl).symm.trans he; exact ⟨kO_115, kW_115⟩
  · cases (show am_lk2 xme 116 = some xe_116 from rfl).symm.trans he; exact ⟨kO_116, kW_116⟩
  · cases (show am_lk2 xme 117 = some xe_117 from rfl).symm.trans he; exact ⟨kO_117, kW_117⟩
  · cases (show am_lk2 xme 118 = some xe_118 from rfl).symm.trans he; exact ⟨kO_118, kW_118⟩
  · cases (show am_lk2 xme 119 = some xe_119 from rfl).symm.trans he; exact ⟨kO_119, kW_119⟩
  · cases (show am_lk2 xme 120 = some xe_120 from rfl).symm.trans he; exact ⟨kO_120, kW_120⟩
  · cases (show am_lk2 xme 121 = some xe_121 from rfl).symm.trans he; exact ⟨kO_121, kW_121⟩
  · cases (show am_lk2 xme 122 = some xe_122 from rfl).symm.trans he; exact ⟨kO_122, kW_122⟩
  · cases (show am_lk2 xme 123 = some xe_123 from rfl).symm.trans he; exact ⟨kO_123, kW_123⟩
  · cases (show am_lk2 xme 124 = some xe_124 from rfl).symm.trans he; exact ⟨kO_124, kW_124⟩
  · cases (show am_lk2 xme 125 = some xe_125 from rfl).symm.trans he; exact ⟨kO_125, kW_125⟩
  · cases (show am_lk2 xme 126 = some xe_126 from rfl).symm.trans he; exact ⟨kO_126, kW_126⟩
  · cases (show am_lk2 xme 127 = some xe_127 from rfl).symm.trans he; exact ⟨kO_127, kW_127⟩
theorem xme_8 : ∀ q ∈ ([(128, xj_128), (129, xj_129), (130, xj_130), (131, xj_131), (132, xj_132), (133, xj_133), (134, xj_134), (135, xj_135), (136, xj_136), (137, xj_137), (138, xj_138), (139, xj_139), (140, xj_140), (141, xj_141), (142, xj_142), (143, xj_143)] : List (Nat × am_I)), ∀ e, am_lk2 xme q.1 = some e → ck_me q.2 e = true ∧ ck_wd q.2 ∈ xTs := by
  intro q hq e he
  simp only [List.mem_cons, List.not_mem_nil, or_false] at hq
  rcases hq with rfl | rfl | rfl | rfl | rfl | rfl | rfl | rfl | rfl | rfl | rfl | rfl | rfl | rfl | rfl | rfl
  · cases (show am_lk2 xme 128 = some xe_128 from rfl).symm.trans he; exact ⟨kO_128, kW_128⟩
  · cases (show am_lk2 xme 129 = some xe_129 from rfl).symm.trans he; exact ⟨kO_129, kW_129⟩
  · cases (show am_lk2 xme 130 = some xe_130 from rfl).symm.trans he; exact ⟨kO_130, kW_130⟩
  · cases (show am_lk2 xme 131 = some xe_131 from rfl).symm.trans he; exact ⟨kO_131, kW_131⟩
  · cases (show am_lk2 xme 132 = some xe_132 from rfl).symm.trans he; exact ⟨kO_132, kW_132⟩
  · cases (show am_lk2 xme 133 = some xe_133 from rfl).symm.trans he; exact ⟨kO_133, kW_133⟩
  · cases (show am_lk2 xme 134 = some xe_134 from rfl).symm.trans he; exact ⟨kO_134, kW_134⟩
  · cases (show am_lk2 xme 135 = some xe_135 from rfl).symm.trans he; exact ⟨kO_135, kW_135⟩
  · cases (show am_lk2 xme 136 = some xe_136 from rfl).symm.trans he; exact ⟨kO_136, kW_136⟩
  · cases (show am_lk2 xme 137 = some xe_137 from rfl).symm.trans he; exact ⟨kO_137, kW_137⟩
  · cases (show am_lk2 xme 138 = some xe_138 from rfl).symm.trans he; exact ⟨kO_138, kW_138⟩
  · cases (show am_lk2 xme 139 = some xe_139 from rfl).symm.trans he; exact ⟨kO_139, kW_139⟩
  · cases (show am_lk2 xme 140 = some xe_140 from rfl).symm.trans he; exact ⟨kO_140, kW_140⟩
  · cases (show am_lk2 xme 141 = some xe_141 from rfl).symm.trans he; exact ⟨kO_141, kW_141⟩
  · cases (show am_lk2 xme 142 = some xe_142 from rfl).symm.trans he; exact ⟨kO_142, kW_142⟩
  · cases (show am_lk2 xme 143 = some xe_143 from rfl).symm.trans he; exact ⟨kO_143, kW_143⟩
theorem xme_9 : ∀ q ∈ ([(144, xj_144), (145, xj_145), (146, xj_146), (147, xj_147), (148, xj_148), (149, xj_149), (150, xj_150), (151, xj_151), (152, xj_152), (153, xj_153), (154, xj_154), (155, xj_155), (156, xj_156), (157, xj_157), (158, xj_158), (159, xj_159)] : List (Nat × am_I)), ∀ e, am_lk2 xme q.1 = some e → ck_me q.2 e = true ∧ ck_wd q.2 ∈ xTs := by
  intro q hq e he
  simp only [List.mem_cons, List.not_mem_nil, or_false] at hq
  rcases hq with rfl | rfl | rfl | rfl | rfl | rfl | rfl | rfl | rfl | rfl | rfl | rfl | rfl | rfl | rfl | rfl
  · cases (show am_lk2 xme 144 = some xe_144 from rfl).symm.trans he; exact ⟨kO_144, kW_144⟩
  · cases (show am_lk2 xme 145 = some xe_145 from rfl).symm.trans he; exact ⟨kO_145, kW_145⟩
  · cases (show am_lk2 xme 146 = some xe_146 from rfl).symm.trans he; exact ⟨kO_146, kW_146⟩
  · cases (show am_lk2 xme 147 = some xe_147 from rfl).symm.trans he; exact ⟨kO_147, kW_147⟩
  · cases (show am_lk2 xme 148 = some xe_148 from rfl).symm.trans he; exact ⟨kO_148, kW_148⟩
  · cases (show am_lk2 xme 149 = some xe_149 from rfl).symm.trans he; exact ⟨kO_149, kW_149⟩
  · cases (show am_lk2 xme 150 = some xe_150 from rfl).symm.trans he; exact ⟨kO_150, kW_150⟩
  · cases (show am_lk2 xme 151 = some xe_151 from rfl).symm.trans he; exact ⟨kO_151, kW_151⟩
  · cases (show am_lk2 xme 152 = some xe_152 from rfl).symm.trans he; exact ⟨kO_152, kW_152⟩
  · cases (show am_lk2 xme 153 = some xe_153 from rfl).symm.trans he; exact ⟨kO_153, kW_153⟩
  · cases (show am_lk2 xme 154 = some xe_154 from rfl).symm.trans he; exact ⟨kO_154, kW_154⟩
  · cases (show am_lk2 xme 155 = some xe_155 from rfl).symm.trans he; exact ⟨kO_155, kW_155⟩
  · cases (show am_lk2 xme 156 = some xe_156 from rfl).symm.trans he; exact ⟨kO_156, kW_156⟩
  · cases (show am_lk2 xme 157 = some xe_157 from rfl).symm.trans he; exact ⟨kO_157, kW_157⟩
  · cases (show am_lk2 xme 158 = some xe_158 from rfl).symm.trans he; exact ⟨kO_158, kW_158⟩
  · cases (show am_lk2 xme 159 = some xe_159 from rfl).symm.trans he; exact ⟨kO_159, kW_159⟩
theorem xme_10 : ∀ q ∈ ([(160, xj_160), (161, xj_161), (162, xj_162), (163, xj_163), (164, xj_164), (165, xj_165), (166, xj_166), (167, xj_167), (168, xj_168), (169, xj_169), (170, xj_170), (171, xj_171), (172, xj_172), (173, xj_173), (174, xj_174), (175, xj_175)] : List (Nat × am_I)), ∀ e, am_lk2 xme q.1 = some e → ck_me q.2 e = true ∧ ck_wd q.2 ∈ xTs := by
  intro q hq e he
  simp only [List.mem_cons, List.not_mem_nil, or_false] at hq
  rcases hq with rfl | rfl | rfl | rfl | rfl | rfl | rfl | rfl | rfl | rfl | rfl | rfl | rfl | rfl | rfl | rfl
  · cases (show am_lk2 xme 160 = some xe_160 from rfl).symm.trans he; exact ⟨kO_160, kW_160⟩
  · cases (show am_lk2 xme 161 = some xe_161 from rfl).symm.trans he; exact ⟨kO_161, kW_161⟩
  · cases (show am_lk2 xme 162 = some xe_162 from rfl).symm.trans he; exact ⟨kO_162, kW_162⟩
  · cases (show am_lk2 xme 163 = some xe_163 from rfl).symm.trans he; exact ⟨kO_163, kW_163⟩
  · cases (show am_lk2 xme 164 = some xe_164 from rfl).symm.trans he; exact ⟨kO_164, kW_164⟩
  · cases (show am_lk2 xme 165 = some xe_165 from rfl).symm.trans he; exact ⟨kO_165, kW_165⟩
  · cases (show am_lk2 xme 166 = some xe_166 from rfl).symm.trans he; exact ⟨kO_166, kW_166⟩
  · cases (show am_lk2 xme 167 = some xe_167 from rfl).symm.trans he; exact ⟨kO_167, kW_167⟩
  · cases (show am_lk2 xme 168 = some xe_168 from rfl).symm.trans he; exact ⟨kO_168, kW_168⟩
  · cases (show am_lk2 xme 169 = some xe_169 from rfl).symm.trans he; exact ⟨kO_169, kW_169⟩
  · cases (show am_lk2 xme 170 = some xe_170 from rfl).symm.trans he; exact ⟨kO_170, kW_170⟩
  · cases (show am_lk2 xme 171 = some xe_171 from rfl).symm.trans he; exact ⟨kO_171, kW_171⟩
  · cases (show am_lk2 xme 172 = some xe_172 from rfl).symm.trans he; exact ⟨kO_172, kW_172⟩
  · cases (show am_lk2 xme 173 = some xe_173 from rfl).symm.trans he; exact ⟨kO_173, kW_173⟩
  · cases (show am_lk2 xme 174 = some xe_174 from rfl).symm.trans he; exact ⟨kO_174, kW_174⟩
  · cases (show am_lk2 xme 175 = some xe_175 from rfl).symm.trans he; exact ⟨kO_175, kW_175⟩
theorem xme_11 : ∀ q ∈ ([(176, xj_176), (177, xj_177), (178, xj_178), (179, xj_179), (180, xj_180), (181, xj_181), (182, xj_182), (183, xj_183), (184, xj_184), (185, xj_185), (186, xj_186), (187, xj_187), (188, xj_188), (189, xj_189), (190, xj_190), (191, xj_191)] : List (Nat × am_I)), ∀ e, am_lk2 xme q.1 = some e → ck_me q.2 e = true ∧ ck_wd q.2 ∈ xTs := by
  intro q hq e he
  simp only [List.mem_cons, List.not_mem_nil, or_false] at hq
  rcases hq with rfl | rfl | rfl | rfl | rfl | rfl | rfl | rfl | rfl | rfl | rfl | rfl | rfl | rfl | rfl | rfl
  · cases (show am_lk2 xme 176 = some xe_176 from rfl).symm.trans he; exact ⟨kO_176, kW_176⟩
  · cases (show am_lk2 xme 177 = some xe_177 from rfl).symm.trans he; exact ⟨kO_177, kW_177⟩
  · cases (show am_lk2 xme 178 = some xe_178 from rfl).symm.trans he; exact ⟨kO_178, kW_178⟩
  · cases (show am_lk2 xme 179 = some xe_179 from rfl).symm.trans he; exact ⟨kO_179, kW_179⟩
  · cases (show am_lk2 xme 180 = some xe_180 from rfl).symm.trans he; exact ⟨kO_180, kW_180⟩
  · cases (show am_lk2 xme 181 = some xe_181 from rfl).symm.trans he; exact ⟨kO_181, kW_181⟩
  · cases (show am_lk2 xme 182 = some xe_182 from rfl).symm.trans he; exact ⟨kO_182, kW_182⟩
  · cases (show am_lk2 xme 183 = some xe_183 from rfl).symm.trans he; exact ⟨kO_183, kW_183⟩
  · cases (show am_lk2 xme 184 = some xe_184 from rfl).symm.trans he; exact ⟨kO_184, kW_184⟩
  · cases (show am_lk2 xme 185 = some xe_185 from rfl).symm.trans he; exact ⟨kO_185, kW_185⟩
  · cases (show am_lk2 xme 186 = some xe_186 from rfl).symm.trans he; exact ⟨kO_186, kW_186⟩
  · cases (show am_lk2 xme 187 = some xe_187 from rfl).symm.trans he; exact ⟨kO_187, kW_187⟩
  · cases (show am_lk2 xme 188 = some xe_188 from rfl).symm.trans he; exact ⟨kO_188, kW_188⟩
  · cases (show am_lk2 xme 189 = some xe_189 from rfl).symm.trans he; exact ⟨kO_189, kW_189⟩
  · cases (show am_lk2 xme 190 = some xe_190 from rfl).symm.trans he; exact ⟨kO_190, kW_190⟩
  · cases (show am_lk2 xme 191 = some xe_191 from rfl).symm.trans he; exact ⟨kO_191, kW_191⟩
theorem xme_12 : ∀ q ∈ ([(192, xj_192), (193, xj_193), (194, xj_194), (195, xj_195), (196, xj_196), (197, xj_197), (198, xj_198), (199, xj_199), (200, xj_200), (201, xj_201), (202, xj_202), (203, xj_203), (204, xj_204), (205, xj_205), (206, xj_206), (207, xj_207)] : List (Nat × am_I)), ∀ e, am_lk2 xme q.1 = some e → ck_me q.2 e = true ∧ ck_wd q.2 ∈ xTs := by
  intro q hq e he
  simp only [List.mem_cons, List.not_mem_nil, or_false] at hq
  rcases hq with rfl | rfl | rfl | rfl | rfl | rfl | rfl | rfl | rfl | rfl | rfl | rfl | rfl | rfl | rfl | rfl
  · cases (show am_lk2 xme 192 = some xe_192 from rfl).symm.trans he; exact ⟨kO_192, kW_192⟩
  · cases (show am_lk2 xme 193 = some xe_193 from rfl).symm.trans he; exact ⟨kO_193, kW_193⟩
  · cases (show am_lk2 xme 194 = some xe_194 from rfl).symm.trans he; exact ⟨kO_194, kW_194⟩
  · cases (show am_lk2 xme 195 = some xe_195 from rfl).symm.trans he; exact ⟨kO_195, kW_195⟩
  · cases (show am_lk2 xme 196 = some xe_196 from rfl).symm.trans he; exact ⟨kO_196, kW_196⟩
  · cases (show am_lk2 xme 197 = some xe_197 from rfl).symm.trans he; exact ⟨kO_197, kW_197⟩
  · cases (show am_lk2 xme 198 = some xe_198 from rfl).symm.trans he; exact ⟨kO_198, kW_198⟩
  · cases (show am_lk2 xme 199 = some xe_199 from rfl).symm.trans he; exact ⟨kO_199, kW_199⟩
  · cases (show am_lk2 xme 200 = some xe_200 from rfl).symm.trans he; exact ⟨kO_200, kW_200⟩
  · cases (show am_lk2 xme 201 = some xe_201 from rfl).symm.trans he; exact ⟨kO_201, kW_201⟩
  · cases (show am_lk2 xme 202 = some xe_202 from rfl).symm.trans he; exact ⟨kO_202, kW_202⟩
  · cases (show am_lk2 xme 203 = some xe_203 from rfl).symm.trans he; exact ⟨kO_203, kW_203⟩
  · cases (show am_lk2 xme 204 = some xe_204 from rfl).symm.trans he; exact ⟨kO_204, kW_204⟩
  · cases (show am_lk2 xme 205 = some xe_205 from rfl).symm.trans he; exact ⟨kO_205, kW_205⟩
  · cases (show am_lk2 xme 206 = some xe_206 from rfl).symm.trans he; exact ⟨kO_206, kW_206⟩
  · cases (show am_lk2 xme 207 = some xe_207 from rfl).symm.trans he; exact ⟨kO_207, kW_207⟩
theorem xme_13 : ∀ q ∈ ([(208, xj_208), (209, xj_209), (210, xj_210), (211, xj_211), (212, xj_212), (213, xj_213), (214, xj_214), (215, xj_215), (216, xj_216), (217, xj_217), (218, xj_218), (219, xj_219), (220, xj_220), (221, xj_221), (222, xj_222), (223, xj_223)] : List (Nat × am_I)), ∀ e, am_lk2 xme q.1 = some e → ck_me q.2 e = true ∧ ck_wd q.2 ∈ xTs := by
  intro q hq e he
  simp only [List.mem_cons, List.not_mem_nil, or_false] at hq
  rcases hq with rfl | rfl | rfl | rfl | rfl | rfl | rfl | rfl | rfl | rfl | rfl | rfl | rfl | rfl | rfl | rfl
  · cases (show am_lk2 xme 208 = some xe_208 from rfl).symm.trans he; exact ⟨kO_208, kW_208⟩
  · cases (show am_lk2 xme 209 = some xe_209 from rfl).symm.trans he; exact ⟨kO_209, kW_209⟩
  · cases (show am_lk2 xme 210 = some xe_210 from rfl).symm.trans he; exact ⟨kO_210, kW_210⟩
  · cases (show am_lk2 xme 211 = some xe_211 from rfl).symm.trans he; exact ⟨kO_211, kW_211⟩
  · cases (show am_lk2 xme 212 = some xe_212 from rfl).symm.trans he; exact ⟨kO_212, kW_212⟩
  · cases (show am_lk2 xme 213 = some xe_213 from rfl).symm.trans he; exact ⟨kO_213, kW_213⟩
  · cases (show am_lk2 xme 214 = some xe_214 from rfl).symm.trans he; exact ⟨kO_214, kW_214⟩
  · cases (show am_lk2 xme 215 = some xe_215 from rfl).symm.trans he; exact ⟨kO_215, kW_215⟩
  · cases (show am_lk2 xme 216 = some xe_216 from rfl).symm.trans he; exact ⟨kO_216, kW_216⟩
  · cases (show am_lk2 xme 217 = some xe_217 from rfl).symm.trans he; exact ⟨kO_217, kW_217⟩
  · cases (show am_lk2 xme 218 = some xe_218 from rfl).symm.trans he; exact ⟨kO_218, kW_218⟩
  · cases (show am_lk2 xme 219 = some xe_219 from rfl).symm.trans he; exact ⟨kO_219, kW_219⟩
  · cases (show am_lk2 xme 220 = some xe_220 from rfl).symm.trans he; exact ⟨kO_220, kW_220⟩
  · cases (show am_lk2 xme 221 = some xe_221 from rfl).symm.trans he; exact ⟨kO_221, kW_221⟩
  · cases (show am_lk2 xme 222 = some xe_222 from rfl).symm.trans he; exact ⟨kO_222, kW_222⟩
  · cases (show am_lk2 xme 223 = some xe_223 from rfl).symm.trans he; exact ⟨kO_223, kW_223⟩
theorem xme_14 : ∀ q ∈ ([(224, xj_224), (225, xj_225), (226, xj_226), (227, xj_227), (228, xj_228), (229, xj_229), (230, xj_230), (231, xj_231), (232, xj_232), (233, xj_233), (234, xj_234), (235, xj_235), (236, xj_236), (237, xj_237), (238, xj_238), (239, xj_239)] : List (Nat × am_I)), ∀ e, am_lk2 xme q.1 = some e → ck_me q.2 e = true ∧ ck_wd q.2 ∈ xTs := by
  intro q hq e he
  simp only [List.mem_cons, List.not_mem_nil, or_false] at hq
  rcases hq with rfl | rfl | rfl | rfl | rfl | rfl | rfl | rfl | rfl | rfl | rfl | rfl | rfl | rfl | rfl | rfl
  · cases (show am_lk2 xme 224 = some xe_224 from rfl).symm.trans he; exact ⟨kO_224, kW_224⟩
  · cases (show am_lk2 xme 225 = some xe_225 from rfl).symm.trans he; exact ⟨kO_225, kW_225⟩
  · cases (show am_lk2 xme 226 = some xe_226 from rfl).symm.trans he; exact ⟨kO_226, kW_226⟩
  · cases (show am_lk2 xme 227 = some xe_227 from rfl).symm.trans he; exact ⟨kO_227, kW_227⟩
  · cases (show am_lk2 xme 228 = some xe_228 from rfl).symm.trans he; exact ⟨kO_228, kW_228⟩
  · cases (show am_lk2 xme 229 = some xe_229 from rfl).symm.trans he; exact ⟨kO_229, kW_229⟩
  · cases (show am_lk2 xme 230 = some xe_230 from rfl).symm.trans he; exact ⟨kO_230, kW_230⟩
  · cases (show am_lk2 xme 231 = some xe_231 from rfl).symm.trans he; exact ⟨kO_231, kW_231⟩
  · cases (show am_lk2 xme 232 = some xe_232 from rfl).symm.trans he; exact ⟨kO_232, kW_232⟩
  · cases (show am_lk2 xme 233 = some xe_233 from rfl).symm.trans he; exact ⟨kO_233, kW_233⟩
  · cases (show am_lk2 xme 234 = some xe_234 from rfl).symm.trans he; exact ⟨kO_234, kW_234⟩
  · cases (show am_lk2 xme 235 = some xe_235 from rfl).symm.trans he; exact ⟨kO_235, kW_235⟩
  · cases (show am_lk2 xme 236 = some xe_236 from rfl).symm.trans he; exact ⟨kO_236, kW_236⟩
  · cases (show am_lk2 xme 237 = some xe_237 from rfl).symm.trans he; exact ⟨kO_237, kW_237⟩
  · cases (show am_lk2 xme 238 = some xe_238 from rfl).symm.trans he; exact ⟨kO_238, kW_238⟩
  · cases (show am_lk2 xme 239 = some xe_239 from rfl).symm.trans he; exact ⟨kO_239, kW_239⟩
theorem xme_15 : ∀ q ∈ ([(240, xj_240), (241, xj_241), (242, xj_242), (243, xj_243), (244, xj_244), (245, xj_245), (246, xj_246), (247, xj_247), (248, xj_248), (249, xj_249), (250, xj_250), (251, xj_251), (252, xj_252), (253, xj_253), (254, xj_254), (255, xj_255)] : List (Nat × am_I)), ∀ e, am_lk2 xme q.1 = some e → ck_me q.2 e = true ∧ ck_wd q.2 ∈ xTs := by
  intro q hq e he
  simp only [List.mem_cons, List.not_mem_nil, or_false] at hq
  rcases hq with rfl | rfl | rfl | rfl | rfl | rfl | rfl | rfl | rfl | rfl | rfl | rfl | rfl | rfl | rfl | rfl
  · cases (show am_lk2 xme 240 = some xe_240 from rfl).symm.trans he; exact ⟨kO_240, kW_240⟩
  · cases (show am_lk2 xme 241 = some xe_241 from rfl).symm.trans he; exact ⟨kO_241, kW_241⟩
  · cases (show am_lk2 xme 242 = some xe_242 from rfl).symm.trans he; exact ⟨kO_242, kW_242⟩
  · cases (show am_lk2 xme 243 = some xe_243 from rfl).symm.trans he; exact ⟨kO_243, kW_243⟩
  · cases (show am_lk2 xme 244 = some xe_244 from rfl).symm.trans he; exact ⟨kO_244, kW_244⟩
  · cases (show am_lk2 xme 245 = some xe_245 from rfl).symm.trans he; exact ⟨kO_245, kW_245⟩
  · cases (show am_lk2 xme 246 = some xe_246 from rfl).symm.trans he; exact ⟨kO_246, kW_246⟩
  · cases (show am_lk2 xme 247 = some xe_247 from rfl).symm.trans he; exact ⟨kO_247, kW_247⟩
  · cases (show am_lk2 xme 248 = some xe_248 from rfl).symm.trans he; exact ⟨kO_248, kW_248⟩
  · cases (show am_lk2 xme 249 = some xe_249 from rfl).symm.trans he; exact ⟨kO_249, kW_249⟩
  · cases (show am_lk2 xme 250 = some xe_250 from rfl).symm.trans he; exact ⟨kO_250, kW_250⟩
  · cases (show am_lk2 xme 251 = some xe_251 from rfl).symm.trans he; exact ⟨kO_251, kW_251⟩
  · cases (show am_lk2 xme 252 = some xe_252 from rfl).symm.trans he; exact ⟨kO_252, kW_252⟩
  · cases (show am_lk2 xme 253 = some xe_253 from rfl).symm.trans he; exact ⟨kO_253, kW_253⟩
  · cases (show am_lk2 xme 254 = some xe_254 from rfl).symm.trans he; exact ⟨kO_254, kW_254⟩
  · cases (show am_lk2 xme 255 = some xe_255 from rfl).symm.trans he; exact ⟨kO_255, kW_255⟩
theorem xme_16 : ∀ q ∈ ([(256, xj_256), (257, xj_257), (258, xj_258), (259, xj_259), (260, xj_260), (261, xj_261), (262, xj_262), (263, xj_263), (264, xj_264), (265, xj_265), (266, xj_266), (267, xj_267), (268, xj_268), (269, xj_269), (270, xj_270), (271, xj_271)] : List (Nat × am_I)), ∀ e, am_lk2 xme q.1 = some e → ck_me q.2 e = true ∧ ck_wd q.2 ∈ xTs := by
  intro q hq e he
  simp only [List.mem_cons, List.not_mem_nil, or_false] at hq
  rcases hq with rfl | rfl | rfl | rfl | rfl | rfl | rfl | rfl | rfl | rfl | rfl | rfl | rfl | rfl | rfl | rfl
  · cases (show am_lk2 xme 256 = some xe_256 from rfl).symm.trans he; exact ⟨kO_256, kW_256⟩
  · cases (show am_lk2 xme 257 = some xe_257 from rfl).symm.trans he; exact ⟨kO_257, kW_257⟩
  · cases (show am_lk2 xme 258 = some xe_258 from rfl).symm.trans he; exact ⟨kO_258, kW_258⟩
  · cases (show am_lk2 xme 259 = some xe_259 from rfl).symm.trans he; exact ⟨kO_259, kW_259⟩
  · cases (show am_lk2 xme 260 = some xe_260 from rfl).symm.trans he; exact ⟨kO_260, kW_260⟩
  · cases (show am_lk2 xme 261 = some xe_261 from rfl).symm.trans he; exact ⟨kO_261, kW_261⟩
  · cases (show am_lk2 xme 262 = some xe_262 from rfl).symm.trans he; exact ⟨kO_262, kW_262⟩
  · cases (show am_lk2 xme 263 = some xe_263 from rfl).symm.trans he; exact ⟨kO_263, kW_263⟩
  · cases (show am_lk2 xme 264 = some xe_264 from rfl).symm.trans he; exact ⟨kO_264, kW_264⟩
  · cases (show am_lk2 xme 265 = some xe_265 from rfl).symm.trans he; exact ⟨kO_265, kW_265⟩
  · cases (show am_lk2 xme 266 = some xe_266 from rfl).symm.trans he; exact ⟨kO_266, kW_266⟩
  · cases (show am_lk2 xme 267 = some xe_267 from rfl).symm.trans he; exact ⟨kO_267, kW_267⟩
  · cases (show am_lk2 xme 268 = some xe_268 from rfl).symm.trans he; exact ⟨kO_268, kW_268⟩
  · cases (show am_lk2 xme 269 = some xe_269 from rfl).symm.trans he; exact ⟨kO_269, kW_269⟩
  · cases (show am_lk2 xme 270 = some xe_270 from rfl).symm.trans he; exact ⟨kO_270, kW_270⟩
  · cases (show am_lk2 xme 271 = some xe_271 from rfl).symm.trans he; exact ⟨kO_271, kW_271⟩
theorem xme_ok {mi : Nat} {I : am_I} {e : am_W4} (h : am_lk2 xinf mi = some I) (he : am_lk2 xme mi = some e) : ck_me I e = true ∧ ck_wd I ∈ xTs := by
  obtain ⟨l, hl, hq⟩ := List.mem_flatten.mp (am_lk2_mem h)
  simp only [xinf, List.mem_cons, List.not_mem_nil, or_false] at hl
  rcases hl with rfl | rfl | rfl | rfl | rfl | rfl | rfl | rfl | rfl | rfl | rfl | rfl | rfl | rfl | rfl | rfl | rfl
  · exact xme_0 _ hq e he
  · exact xme_1 _ hq e he
  · exact xme_2 _ hq e he
  · exact xme_3 _ hq e he
  · exact xme_4 _ hq e he
  · exact xme_5 _ hq e he
  · exact xme_6 _ hq e he
  · exact xme_7 _ hq e he
  · exact xme_8 _ hq e he
  · exact xme_9 _ hq e he
  · exact xme_10 _ hq e he
  · exact xme_11 _ hq e he
  · exact xme_12 _ hq e he
  · exact xme_13 _ hq e he
  · exact xme_14 _ hq e he
  · exact xme_15 _ hq e he
  · exact xme_16 _ hq e he
/-- a call, with the places of its words -/
def ck_C (own : String) (q : (Nat × Nat × Nat × Nat × Option String × Nat) × (Nat × Nat) × (Nat × Nat) × (Nat × Nat) × (Nat × Nat)) : Bool :=
  if q.1.2.1 = 4 then ck_at q.2.1 (.methodLink own q.1.1 arraycopyName) && (ck_at q.2.2.1 (.native arraycopyName) && (ck_at q.2.2.2.1 (.static arraycopyName) && ck_at q.2.2.2.2 (.initialized "java/lang/System")))
  else if q.1.2.1 = 5 then ck_at q.2.1 (.methodLink own q.1.1 Lib.objectInit) && (ck_at q.2.2.1 (.instanceMethod Lib.objectInit) && ck_at q.2.2.2.1 (.code Lib.objectInit ⟨#[0xb1]⟩ 1 none))
  else if q.1.2.1 = 6 then ck_at q.2.1 (.methodLink own q.1.1 Lib.Math.max.name) && (ck_at q.2.2.1 (.static Lib.Math.max.name) && (ck_at q.2.2.2.1 (.initialized "java/lang/Math") && ck_at q.2.2.2.2 (.code Lib.Math.max.name Lib.Math.max.code 2 (some .int))))
  else if q.1.2.1 = 7 then ck_at q.2.1 (.methodLink own q.1.1 Lib.Math.min.name) && (ck_at q.2.2.1 (.static Lib.Math.min.name) && (ck_at q.2.2.2.1 (.initialized "java/lang/Math") && ck_at q.2.2.2.2 (.code Lib.Math.min.name Lib.Math.min.code 2 (some .int))))
  else (match am_lk2 xinf q.1.2.2.1 with
    | none => true
    | some I => (match am_lk2 xme q.1.2.2.1 with
      | none => false
      | some e => (Nat.beq e.1 q.1.2.1 && (Nat.beq e.2.1 q.1.2.2.2.2.2 && Nat.beq e.2.2.1 q.1.2.2.2.1)) && (match q.1.2.2.2.2.1 with
        | none => ck_at q.2.1 (.methodLink own q.1.1 I.1)
        | some host => ck_nk (.methodLinkNest own q.1.1 I.1 host) && I.2.2.2.2.isEmpty)))
theorem ck_C_ok {vz : Value} {M : am_M} {l : List (Nat × Nat × Nat × Nat × Option String × Nat)} {hs : List ((Nat × Nat) × (Nat × Nat) × (Nat × Nat) × (Nat × Nat))} (hlen : l.length ≤ hs.length) (h : (l.zip hs).all (ck_C (am_y M).cls) = true) (hm : am_mC M = am_lk l) : am_CtOk (xMT vz) xcl xTs xTw M ∧ ∀ mi' ix k na rc host M', am_mC M ix = some (k, mi', na, some host, rc) → ¬ 4 ≤ k → xMT vz mi' = some M' → am_mT M' = [] := by
  have key : ∀ ix k mi n hh rc, am_mC M ix = some (k, mi, n, hh, rc) → ∃ w, ck_C (am_y M).cls ((ix, k, mi, n, hh, rc), w) = true := by
    intro ix k mi n hh rc hc
    have hmem := am_lk_mem (by rw [← hm]; exact hc : am_lk l ix = some _)
    obtain ⟨j, hj⟩ := List.getElem?_of_mem hmem
    have hjl := (List.getElem?_eq_some_iff.mp hj).1
    have hw : hs[j]? = some hs[j] := List.getElem?_eq_getElem (by omega)
    refine ⟨hs[j], List.all_eq_true.mp h _ (List.mem_of_getElem? (i := j) ?_)⟩
    rw [List.getElem?_zip_eq_some]
    exact ⟨hj, hw⟩
  constructor
  · intro ix k mi n hh rc hc
    obtain ⟨w, h1⟩ := key _ _ _ _ _ _ hc
    unfold ck_C at h1
    refine ⟨fun hk => ?_, fun hk => ?_, fun hk => ?_, fun hk => ?_, fun hk M' hM' => ?_⟩
    · subst hk
      rw [if_pos rfl] at h1
      simp only [Bool.and_eq_true] at h1
      exact ⟨ck_at_ok h1.1, ck_at_ok h1.2.1, ck_at_ok h1.2.2.1, ck_at_ok h1.2.2.2⟩
    · subst hk
      rw [if_neg (show ¬ (5 : Nat) = 4 by decide), if_pos rfl] at h1
      simp only [Bool.and_eq_true] at h1
      exact ⟨ck_at_ok h1.1, ck_at_ok h1.2.1, ck_at_ok h1.2.2⟩
    · subst hk
      rw [if_neg (show ¬ (6 : Nat) = 4 by decide), if_neg (show ¬ (6 : Nat) = 5 by decide), if_pos rfl] at h1
      simp only [Bool.and_eq_true] at h1
      exact ⟨ck_at_ok h1.1, ck_at_ok h1.2.1, ck_at_ok h1.2.2.1, ck_at_ok h1.2.2.2⟩
    · subst hk
      rw [if_neg (show ¬ (7 : Nat) = 4 by decide), if_neg (show ¬ (7 : Nat) = 5 by decide), if_neg (show ¬ (7 : Nat) = 6 by decide), if_pos rfl] at h1
      simp only [Bool.and_eq_true] at h1
      exact ⟨ck_at_ok h1.1, ck_at_ok h1.2.1, ck_at_ok h1.2.2.1, ck_at_ok h1.2.2.2⟩
    · have n4 : ¬ k = 4 := by omega
      have n5 : ¬ k = 5 := by omega
      have n6 : ¬ k = 6 := by omega
      have n7 : ¬ k = 7 := by omega
      rw [if_neg n4, if_neg n5, if_neg n6, if_neg n7] at h1
      have hI := xinf_ok hM'
      simp only [hI] at h1
      split at h1
      · cases h1
      · next e he =>
        simp only [Bool.and_eq_true] at h1
        obtain ⟨⟨e1, e2, e3⟩, h3⟩ := h1
        have e1 := Nat.eq_of_beq_eq_true e1
        have e2 := Nat.eq_of_beq_eq_true e2
        have e3 := Nat.eq_of_beq_eq_true e3
        obtain ⟨h4, hwd⟩ := xme_ok hI he
        obtain ⟨ek, erc, en, w1, w2, w3, w4⟩ := e
        simp only at e1 e2 e3
        subst e1
        subst e2
        subst e3
        simp only [ck_me, Bool.and_eq_true, decide_eq_true_eq] at h4
        obtain ⟨a1, a3, ⟨a4, a5⟩, a6, a7⟩ := h4
        refine ⟨⟨a1, hwd, ck_at_ok a3, ⟨a4, a5⟩, a6⟩, ?_, ?_, ?_, ?_, ?_⟩
        · cases hh with
          | none => exact ck_at_ok h3
          | some host =>
            simp only [Bool.and_eq_true] at h3
            exact ck_nk_ok h3.1
        · intro hz
          subst hz
          simp only [Bool.and_eq_true, decide_eq_true_eq] at a7
          exact ⟨ck_at_ok a7.1, a7.2⟩
        · intro hz
          subst hz
          simp only [Bool.and_eq_true, decide_eq_true_eq, List.isEmpty_iff] at a7
          exact ⟨a7.1, a7.2.1, a7.2.2.1, ck_at_ok a7.2.2.2.1, a7.2.2.2.2⟩
        · intro hz
          subst hz
          simp only [Bool.and_eq_true, decide_eq_true_eq, List.isEmpty_iff] at a7
          obtain ⟨b1, b2, b3, b4, b5⟩ := a7
          refine ⟨b1, ck_at_ok b2, ck_at_ok b3, ?_, b5⟩
          split at b4
          · next r er =>
            obtain ⟨C, T, N⟩ := r
            have b4 : C = (am_y M').cls := of_decide_eq_true b4
            subst b4
            exact ⟨T, N, er⟩
          · cases b4
        · intro hz
          subst hz
          simp only [Bool.and_eq_true, decide_eq_true_eq, List.isEmpty_iff] at a7
          exact ⟨a7.1, ck_at_ok a7.2.1, ck_at_ok a7.2.2.1, a7.2.2.2⟩
  · intro mi' ix k na rc host M' hc hk hM'
    obtain ⟨w, h1⟩ := key _ _ _ _ _ _ hc
    unfold ck_C at h1
    have hI := xinf_ok hM'
    have n4 : ¬ k = 4 := by omega
    have n5 : ¬ k = 5 := by omega
    have n6 : ¬ k = 6 := by omega
    have n7 : ¬ k = 7 := by omega
    rw [if_neg n4, if_neg n5, if_neg n6, if_neg n7] at h1
    simp only [hI] at h1
    split at h1
    · cases h1
    · simp only [Bool.and_eq_true, List.isEmpty_iff] at h1
      exact h1.2.2
