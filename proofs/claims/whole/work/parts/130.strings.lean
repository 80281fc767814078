theorem wd_3_1 : Cond.code ⟨"java/lang/String", "length", "()I"⟩ prog_16_method_54_code 1 (some FieldType.int) ∈ xTbl := xIn_3 (List.mem_of_getElem? (i := 1) rfl) rfl
theorem wd_3_5 : Cond.code ⟨"java/lang/String", "coder", "()B"⟩ prog_16_method_152_code 1 (some FieldType.byte) ∈ xTbl := xIn_3 (List.mem_of_getElem? (i := 5) rfl) rfl
theorem wd_3_11 : Cond.code ⟨"java/lang/String", "charAt", "(I)C"⟩ prog_16_method_56_code 2 (some FieldType.char) ∈ xTbl := xIn_3 (List.mem_of_getElem? (i := 11) rfl) rfl
theorem wd_3_15 : Cond.code ⟨"java/lang/String", "isLatin1", "()Z"⟩ prog_16_method_154_code 1 (some FieldType.boolean) ∈ xTbl := xIn_3 (List.mem_of_getElem? (i := 15) rfl) rfl
theorem wd_3_18 : Cond.code ⟨"java/lang/StringLatin1", "charAt", "([BI)C"⟩ prog_17_method_2_code 2 (some FieldType.char) ∈ xTbl := xIn_3 (List.mem_of_getElem? (i := 18) rfl) rfl
theorem wd_3_21 : Cond.code ⟨"java/lang/String", "checkIndex", "(II)V"⟩ prog_16_method_155_code 2 (none : Option FieldType) ∈ xTbl := xIn_3 (List.mem_of_getElem? (i := 21) rfl) rfl
theorem wd_3_26 : Cond.code ⟨"jdk/internal/util/Preconditions", "checkIndex", "(IILjava/util/function/BiFunction;)I"⟩ prog_19_method_11_code 3 (some FieldType.int) ∈ xTbl := xIn_3 (List.mem_of_getElem? (i := 26) rfl) rfl
theorem wd_3_2 : Cond.methodLink "java/lang/String" 335 ⟨"java/lang/String", "coder", "()B"⟩ ∈ xTbl := xIn_3 (List.mem_of_getElem? (i := 2) (by decide +kernel)) rfl
theorem wd_3_3 : Cond.instanceMethod ⟨"java/lang/String", "coder", "()B"⟩ ∈ xTbl := xIn_3 (List.mem_of_getElem? (i := 3) (by decide +kernel)) rfl
theorem wd_3_4 : Cond.selects "java/lang/String" ⟨"java/lang/String", "coder", "()B"⟩ ⟨"java/lang/String", "coder", "()B"⟩ ∈ xTbl := xIn_3 (List.mem_of_getElem? (i := 4) (by decide +kernel)) rfl
theorem wd_1_15 : Cond.initialized "java/lang/String" ∈ xTbl := xIn_1 (List.mem_of_getElem? (i := 15) (by decide +kernel)) rfl
theorem wd_3_12 : Cond.methodLink "java/lang/String" 492 ⟨"java/lang/String", "isLatin1", "()Z"⟩ ∈ xTbl := xIn_3 (List.mem_of_getElem? (i := 12) (by decide +kernel)) rfl
theorem wd_3_13 : Cond.instanceMethod ⟨"java/lang/String", "isLatin1", "()Z"⟩ ∈ xTbl := xIn_3 (List.mem_of_getElem? (i := 13) (by decide +kernel)) rfl
theorem wd_3_14 : Cond.selects "java/lang/String" ⟨"java/lang/String", "isLatin1", "()Z"⟩ ⟨"java/lang/String", "isLatin1", "()Z"⟩ ∈ xTbl := xIn_3 (List.mem_of_getElem? (i := 14) (by decide +kernel)) rfl
theorem wd_2_238 : Cond.methodLink "RosterRules$Tokens" 49 ⟨"java/lang/String", "length", "()I"⟩ ∈ xTbl := xIn_2 (List.mem_of_getElem? (i := 238) (by decide +kernel)) rfl
theorem wd_2_239 : Cond.instanceMethod ⟨"java/lang/String", "length", "()I"⟩ ∈ xTbl := xIn_2 (List.mem_of_getElem? (i := 239) (by decide +kernel)) rfl
theorem wd_3_0 : Cond.selects "java/lang/String" ⟨"java/lang/String", "length", "()I"⟩ ⟨"java/lang/String", "length", "()I"⟩ ∈ xTbl := xIn_3 (List.mem_of_getElem? (i := 0) (by decide +kernel)) rfl
theorem wd_3_8 : Cond.methodLink "RosterRules$Tokens" 54 ⟨"java/lang/String", "charAt", "(I)C"⟩ ∈ xTbl := xIn_3 (List.mem_of_getElem? (i := 8) (by decide +kernel)) rfl
theorem wd_3_9 : Cond.instanceMethod ⟨"java/lang/String", "charAt", "(I)C"⟩ ∈ xTbl := xIn_3 (List.mem_of_getElem? (i := 9) (by decide +kernel)) rfl
theorem wd_3_10 : Cond.selects "java/lang/String" ⟨"java/lang/String", "charAt", "(I)C"⟩ ⟨"java/lang/String", "charAt", "(I)C"⟩ ∈ xTbl := xIn_3 (List.mem_of_getElem? (i := 10) (by decide +kernel)) rfl
theorem wd_3_16 : Cond.methodLink "java/lang/String" 495 ⟨"java/lang/StringLatin1", "charAt", "([BI)C"⟩ ∈ xTbl := xIn_3 (List.mem_of_getElem? (i := 16) (by decide +kernel)) rfl
theorem wd_3_17 : Cond.static ⟨"java/lang/StringLatin1", "charAt", "([BI)C"⟩ ∈ xTbl := xIn_3 (List.mem_of_getElem? (i := 17) (by decide +kernel)) rfl
theorem wd_1_16 : Cond.initialized "java/lang/StringLatin1" ∈ xTbl := xIn_1 (List.mem_of_getElem? (i := 16) (by decide +kernel)) rfl
theorem wd_3_19 : Cond.methodLink "java/lang/StringLatin1" 9 ⟨"java/lang/String", "checkIndex", "(II)V"⟩ ∈ xTbl := xIn_3 (List.mem_of_getElem? (i := 19) (by decide +kernel)) rfl
theorem wd_3_20 : Cond.static ⟨"java/lang/String", "checkIndex", "(II)V"⟩ ∈ xTbl := xIn_3 (List.mem_of_getElem? (i := 20) (by decide +kernel)) rfl
theorem wd_3_24 : Cond.methodLink "java/lang/String" 1059 ⟨"jdk/internal/util/Preconditions", "checkIndex", "(IILjava/util/function/BiFunction;)I"⟩ ∈ xTbl := xIn_3 (List.mem_of_getElem? (i := 24) (by decide +kernel)) rfl
theorem wd_3_25 : Cond.static ⟨"jdk/internal/util/Preconditions", "checkIndex", "(IILjava/util/function/BiFunction;)I"⟩ ∈ xTbl := xIn_3 (List.mem_of_getElem? (i := 25) (by decide +kernel)) rfl
theorem wd_1_17 : Cond.initialized "jdk/internal/util/Preconditions" ∈ xTbl := xIn_1 (List.mem_of_getElem? (i := 17) (by decide +kernel)) rfl
theorem wd_3_6 : Cond.fieldLink "java/lang/String" 38 "java/lang/String" "COMPACT_STRINGS" "Z" ∈ xTbl := xIn_3 (List.mem_of_getElem? (i := 6) (by decide +kernel)) rfl
theorem wd_6_231 : Cond.fieldLink "java/lang/String" 9 "java/lang/String" "value" "[B" ∈ xTbl := xIn_6 (List.mem_of_getElem? (i := 231) (by decide +kernel)) rfl
theorem wd_6_232 : Cond.fieldLink "java/lang/String" 15 "java/lang/String" "coder" "B" ∈ xTbl := xIn_6 (List.mem_of_getElem? (i := 232) (by decide +kernel)) rfl
theorem wd_3_22 : Cond.fieldLink "java/lang/String" 1053 "jdk/internal/util/Preconditions" "SIOOBE_FORMATTER" "Ljava/util/function/BiFunction;" ∈ xTbl := xIn_3 (List.mem_of_getElem? (i := 22) (by decide +kernel)) rfl
def y_Law_nameOf : MethodName := ⟨"RosterRules$Law", "nameOf", "(I)Ljava/lang/String;"⟩
abbrev b_Law_nameOf : ByteArray := prog_6_method_2_code
def ws_Law_nameOf : List Cond := Cond.code y_Law_nameOf b_Law_nameOf 1 (some (.object "java/lang/String")) :: xTbl
def y_Tokens_spells : MethodName := ⟨"RosterRules$Tokens", "spells", "(Ljava/lang/String;)Z"⟩
abbrev b_Tokens_spells : ByteArray := prog_12_method_7_code
def ws_Tokens_spells : List Cond := Cond.code y_Tokens_spells b_Tokens_spells 3 (some .boolean) :: xTbl
theorem wd_2_224 : Cond.methodLink "RosterRules$LawReader" 98 ⟨"RosterRules$Law", "nameOf", "(I)Ljava/lang/String;"⟩ ∈ xTbl := xIn_2 (List.mem_of_getElem? (i := 224) (by decide +kernel)) rfl
theorem wd_2_225 : Cond.static ⟨"RosterRules$Law", "nameOf", "(I)Ljava/lang/String;"⟩ ∈ xTbl := xIn_2 (List.mem_of_getElem? (i := 225) (by decide +kernel)) rfl
theorem wd_2_226 : Cond.code ⟨"RosterRules$Law", "nameOf", "(I)Ljava/lang/String;"⟩ prog_6_method_2_code 1 (some (FieldType.object "java/lang/String")) ∈ xTbl := xIn_2 (List.mem_of_getElem? (i := 226) rfl) rfl
theorem hi_Law_nameOf : y_Law_nameOf.cls ≠ "java/lang/invoke/MethodHandle" ∧ y_Law_nameOf.cls ≠ "java/lang/invoke/VarHandle" ∧ (parseMethodDescriptor y_Law_nameOf.desc).map (fun d => d.parameters.length) = some 1 := by decide +kernel
theorem wd_2_234 : Cond.methodLink "RosterRules$LawReader" 102 ⟨"RosterRules$Tokens", "spells", "(Ljava/lang/String;)Z"⟩ ∈ xTbl := xIn_2 (List.mem_of_getElem? (i := 234) (by decide +kernel)) rfl
theorem wd_2_235 : Cond.instanceMethod ⟨"RosterRules$Tokens", "spells", "(Ljava/lang/String;)Z"⟩ ∈ xTbl := xIn_2 (List.mem_of_getElem? (i := 235) (by decide +kernel)) rfl
theorem wd_2_236 : Cond.selects "RosterRules$Tokens" ⟨"RosterRules$Tokens", "spells", "(Ljava/lang/String;)Z"⟩ ⟨"RosterRules$Tokens", "spells", "(Ljava/lang/String;)Z"⟩ ∈ xTbl := xIn_2 (List.mem_of_getElem? (i := 236) (by decide +kernel)) rfl
theorem wd_2_237 : Cond.code ⟨"RosterRules$Tokens", "spells", "(Ljava/lang/String;)Z"⟩ prog_12_method_7_code 3 (some FieldType.boolean) ∈ xTbl := xIn_2 (List.mem_of_getElem? (i := 237) rfl) rfl
theorem gv_LawReader_102 : GoodIn xTbl (wsV "RosterRules$LawReader" 102 "RosterRules$Tokens" y_Tokens_spells ws_Tokens_spells) := xGV wd_2_234 wd_2_235 wd_2_236 wd_1_9 wd_2_237
theorem hd_Tokens_spells : y_Tokens_spells.cls = "RosterRules$Tokens" ∧ y_Tokens_spells.cls ≠ "java/lang/invoke/MethodHandle" ∧ y_Tokens_spells.cls ≠ "java/lang/invoke/VarHandle" ∧ (parseMethodDescriptor y_Tokens_spells.desc).map (fun d => d.parameters.length) = some 1 := by decide +kernel
def y_LawReader_sortNamed : MethodName := ⟨"RosterRules$LawReader", "sortNamed", "()I"⟩
abbrev b_LawReader_sortNamed : ByteArray := prog_7_method_5_code
def ws_LawReader_sortNamed : List Cond := Cond.code y_LawReader_sortNamed b_LawReader_sortNamed 2 (some .int) :: xTbl
theorem wd_2_220 : Cond.methodLink "RosterRules$LawReader" 55 ⟨"RosterRules$LawReader", "sortNamed", "()I"⟩ ∈ xTbl := xIn_2 (List.mem_of_getElem? (i := 220) (by decide +kernel)) rfl
theorem wd_2_222 : Cond.instanceMethod ⟨"RosterRules$LawReader", "sortNamed", "()I"⟩ ∈ xTbl := xIn_2 (List.mem_of_getElem? (i := 222) (by decide +kernel)) rfl
theorem wz_5 : Cond.selects "RosterRules$LawReader" ⟨"RosterRules$LawReader", "sortNamed", "()I"⟩ ⟨"RosterRules$LawReader", "sortNamed", "()I"⟩ ∈ xTbl := List.mem_filter.mpr ⟨List.mem_append_left _ (List.mem_of_getElem? (i := 5) (by decide +kernel)), rfl⟩
theorem wd_2_223 : Cond.code ⟨"RosterRules$LawReader", "sortNamed", "()I"⟩ prog_7_method_5_code 2 (some FieldType.int) ∈ xTbl := xIn_2 (List.mem_of_getElem? (i := 223) rfl) rfl
theorem gv_LawReader_55 : GoodIn xTbl (wsV "RosterRules$LawReader" 55 "RosterRules$LawReader" y_LawReader_sortNamed ws_LawReader_sortNamed) := xGV wd_2_220 wd_2_222 wz_5 wd_1_8 wd_2_223
theorem hd_LawReader_sortNamed : y_LawReader_sortNamed.cls = "RosterRules$LawReader" ∧ y_LawReader_sortNamed.cls ≠ "java/lang/invoke/MethodHandle" ∧ y_LawReader_sortNamed.cls ≠ "java/lang/invoke/VarHandle" ∧ (parseMethodDescriptor y_LawReader_sortNamed.desc).map (fun d => d.parameters.length) = some 0 := by decide +kernel
theorem wd_3_46 : Cond.methodLink "RosterRules$LawReader" 58 ⟨"RosterRules$Law", "start", "(II)V"⟩ ∈ xTbl := xIn_3 (List.mem_of_getElem? (i := 46) (by decide +kernel)) rfl
theorem wd_3_47 : Cond.instanceMethod ⟨"RosterRules$Law", "start", "(II)V"⟩ ∈ xTbl := xIn_3 (List.mem_of_getElem? (i := 47) (by decide +kernel)) rfl
theorem wd_3_48 : Cond.selects "RosterRules$Law" ⟨"RosterRules$Law", "start", "(II)V"⟩ ⟨"RosterRules$Law", "start", "(II)V"⟩ ∈ xTbl := xIn_3 (List.mem_of_getElem? (i := 48) (by decide +kernel)) rfl
theorem wd_3_49 : Cond.code ⟨"RosterRules$Law", "start", "(II)V"⟩ prog_6_method_3_code 3 (none : Option FieldType) ∈ xTbl := xIn_3 (List.mem_of_getElem? (i := 49) rfl) rfl
theorem gv_LawReader_58 : GoodIn xTbl (wsV "RosterRules$LawReader" 58 "RosterRules$Law" y_Law_start ws_Law_start) := xGV wd_3_46 wd_3_47 wd_3_48 wd_1_11 wd_3_49
theorem hd_Law_start : y_Law_start.cls = "RosterRules$Law" ∧ y_Law_start.cls ≠ "java/lang/invoke/MethodHandle" ∧ y_Law_start.cls ≠ "java/lang/invoke/VarHandle" ∧ (parseMethodDescriptor y_Law_start.desc).map (fun d => d.parameters.length) = some 2 := by decide +kernel
theorem wd_3_50 : Cond.methodLink "RosterRules$LawReader" 63 ⟨"RosterRules$LawReader", "number", "(II)I"⟩ ∈ xTbl := xIn_3 (List.mem_of_getElem? (i := 50) (by decide +kernel)) rfl
theorem wd_3_52 : Cond.instanceMethod ⟨"RosterRules$LawReader", "number", "(II)I"⟩ ∈ xTbl := xIn_3 (List.mem_of_getElem? (i := 52) (by decide +kernel)) rfl
theorem wz_6 : Cond.selects "RosterRules$LawReader" ⟨"RosterRules$LawReader", "number", "(II)I"⟩ ⟨"RosterRules$LawReader", "number", "(II)I"⟩ ∈ xTbl := List.mem_filter.mpr ⟨List.mem_append_left _ (List.mem_of_getElem? (i := 6) (by decide +kernel)), rfl⟩
theorem wd_3_53 : Cond.code ⟨"RosterRules$LawReader", "number", "(II)I"⟩ prog_7_method_7_code 4 (some FieldType.int) ∈ xTbl := xIn_3 (List.mem_of_getElem? (i := 53) rfl) rfl
theorem gv_LawReader_63 : GoodIn xTbl (wsV "RosterRules$LawReader" 63 "RosterRules$LawReader" y_LawReader_number ws_LawReader_number) := xGV wd_3_50 wd_3_52 wz_6 wd_1_8 wd_3_53
theorem hd_LawReader_number : y_LawReader_number.cls = "RosterRules$LawReader" ∧ y_LawReader_number.cls ≠ "java/lang/invoke/MethodHandle" ∧ y_LawReader_number.cls ≠ "java/lang/invoke/VarHandle" ∧ (parseMethodDescriptor y_LawReader_number.desc).map (fun d => d.parameters.length) = some 2 := by decide +kernel
theorem wn_2_113 : Cond.fieldLinkNest "RosterRules$LawReader" 91 "RosterRules$Law" "weight" "I" "RosterRules" ∈ xNs := xNs_2 (List.mem_of_getElem? (i := 113) (by decide +kernel)) rfl
theorem lp_LawReader_91 : xLp "RosterRules$LawReader" 91 4 3 .int := ⟨RC_4, TC_4, 9, yC_4, rfl, by decide, iC_4, Or.inr ⟨"RosterRules", wn_2_113⟩, pC_4, nC_4, rfl, by decide +kernel⟩
theorem wd_3_141 : Cond.methodLink "RosterRules$LawReader" 85 ⟨"RosterRules$LawReader", "shiftLetter", "()I"⟩ ∈ xTbl := xIn_3 (List.mem_of_getElem? (i := 141) (by decide +kernel)) rfl
theorem wd_3_143 : Cond.instanceMethod ⟨"RosterRules$LawReader", "shiftLetter", "()I"⟩ ∈ xTbl := xIn_3 (List.mem_of_getElem? (i := 143) (by decide +kernel)) rfl
theorem wz_20 : Cond.selects "RosterRules$LawReader" ⟨"RosterRules$LawReader", "shiftLetter", "()I"⟩ ⟨"RosterRules$LawReader", "shiftLetter", "()I"⟩ ∈ xTbl := List.mem_filter.mpr ⟨List.mem_append_left _ (List.mem_of_getElem? (i := 20) (by decide +kernel)), rfl⟩
theorem wd_3_144 : Cond.code ⟨"RosterRules$LawReader", "shiftLetter", "()I"⟩ prog_7_method_8_code 2 (some FieldType.int) ∈ xTbl := xIn_3 (List.mem_of_getElem? (i := 144) rfl) rfl
theorem gv_LawReader_85 : GoodIn xTbl (wsV "RosterRules$LawReader" 85 "RosterRules$LawReader" y_LawReader_shiftLetter ws_LawReader_shiftLetter) := xGV wd_3_141 wd_3_143 wz_20 wd_1_8 wd_3_144
theorem hd_LawReader_shiftLetter : y_LawReader_shiftLetter.cls = "RosterRules$LawReader" ∧ y_LawReader_shiftLetter.cls ≠ "java/lang/invoke/MethodHandle" ∧ y_LawReader_shiftLetter.cls ≠ "java/lang/invoke/VarHandle" ∧ (parseMethodDescriptor y_LawReader_shiftLetter.desc).map (fun d => d.parameters.length) = some 0 := by decide +kernel
theorem wn_2_124 : Cond.fieldLinkNest "RosterRules$LawReader" 88 "RosterRules$Law" "letter" "I" "RosterRules" ∈ xNs := xNs_2 (List.mem_of_getElem? (i := 124) (by decide +kernel)) rfl
theorem lp_LawReader_88 : xLp "RosterRules$LawReader" 88 4 8 .int := ⟨RC_4, TC_4, 9, yC_4, rfl, by decide, iC_4, Or.inr ⟨"RosterRules", wn_2_124⟩, pC_4, nC_4, rfl, by decide +kernel⟩
theorem wn_2_118 : Cond.fieldLinkNest "RosterRules$LawReader" 67 "RosterRules$Law" "low" "I" "RosterRules" ∈ xNs := xNs_2 (List.mem_of_getElem? (i := 118) (by decide +kernel)) rfl
theorem lp_LawReader_67 : xLp "RosterRules$LawReader" 67 4 5 .int := ⟨RC_4, TC_4, 9, yC_4, rfl, by decide, iC_4, Or.inr ⟨"RosterRules", wn_2_118⟩, pC_4, nC_4, rfl, by decide +kernel⟩
theorem lk_LawReader_67 : xLk "RosterRules$LawReader" 67 4 5 := ⟨RC_4, TC_4, 9, rfl, by decide, iC_4, Or.inr ⟨"RosterRules", wn_2_118⟩⟩
theorem wn_2_119 : Cond.fieldLinkNest "RosterRules$LawReader" 71 "RosterRules$Law" "high" "I" "RosterRules" ∈ xNs := xNs_2 (List.mem_of_getElem? (i := 119) (by decide +kernel)) rfl
theorem lp_LawReader_71 : xLp "RosterRules$LawReader" 71 4 6 .int := ⟨RC_4, TC_4, 9, yC_4, rfl, by decide, iC_4, Or.inr ⟨"RosterRules", wn_2_119⟩, pC_4, nC_4, rfl, by decide +kernel⟩
theorem wn_2_106 : Cond.fieldLinkNest "RosterRules$LawReader" 77 "RosterRules$Law" "positions" "LRosterRules$Positions;" "RosterRules" ∈ xNs := xNs_2 (List.mem_of_getElem? (i := 106) (by decide +kernel)) rfl
theorem lk_LawReader_77 : xLk "RosterRules$LawReader" 77 4 0 := ⟨RC_4, TC_4, 9, rfl, by decide, iC_4, Or.inr ⟨"RosterRules", wn_2_106⟩⟩
theorem wd_3_63 : Cond.methodLink "RosterRules$LawReader" 81 ⟨"RosterRules$LawReader", "pattern", "(LRosterRules$Positions;)V"⟩ ∈ xTbl := xIn_3 (List.mem_of_getElem? (i := 63) (by decide +kernel)) rfl
theorem wd_3_65 : Cond.instanceMethod ⟨"RosterRules$LawReader", "pattern", "(LRosterRules$Positions;)V"⟩ ∈ xTbl := xIn_3 (List.mem_of_getElem? (i := 65) (by decide +kernel)) rfl
theorem wz_8 : Cond.selects "RosterRules$LawReader" ⟨"RosterRules$LawReader", "pattern", "(LRosterRules$Positions;)V"⟩ ⟨"RosterRules$LawReader", "pattern", "(LRosterRules$Positions;)V"⟩ ∈ xTbl := List.mem_filter.mpr ⟨List.mem_append_left _ (List.mem_of_getElem? (i := 8) (by decide +kernel)), rfl⟩
theorem wd_3_66 : Cond.code ⟨"RosterRules$LawReader", "pattern", "(LRosterRules$Positions;)V"⟩ prog_7_method_9_code 2 (none : Option FieldType) ∈ xTbl := xIn_3 (List.mem_of_getElem? (i := 66) rfl) rfl
theorem gv_LawReader_81 : GoodIn xTbl (wsV "RosterRules$LawReader" 81 "RosterRules$LawReader" y_LawReader_pattern ws_LawReader_pattern) := xGV wd_3_63 wd_3_65 wz_8 wd_1_8 wd_3_66
theorem hd_LawReader_pattern : y_LawReader_pattern.cls = "RosterRules$LawReader" ∧ y_LawReader_pattern.cls ≠ "java/lang/invoke/MethodHandle" ∧ y_LawReader_pattern.cls ≠ "java/lang/invoke/VarHandle" ∧ (parseMethodDescriptor y_LawReader_pattern.desc).map (fun d => d.parameters.length) = some 1 := by decide +kernel
theorem wd_3_62 : Cond.constant "RosterRules$LawReader" 70 99999 ∈ xTbl := xIn_3 (List.mem_of_getElem? (i := 62) (by decide +kernel)) rfl
theorem lk_LawReader_31 : xLk "RosterRules$LawReader" 31 5 2 := ⟨RC_5, TC_5, 5, rfl, by decide, iC_5, Or.inl wd_2_22⟩
theorem wn_2_122 : Cond.fieldLinkNest "RosterRules$LawReader" 74 "RosterRules$Law" "span" "I" "RosterRules" ∈ xNs := xNs_2 (List.mem_of_getElem? (i := 122) (by decide +kernel)) rfl
theorem lp_LawReader_74 : xLp "RosterRules$LawReader" 74 4 7 .int := ⟨RC_4, TC_4, 9, yC_4, rfl, by decide, iC_4, Or.inr ⟨"RosterRules", wn_2_122⟩, pC_4, nC_4, rfl, by decide +kernel⟩
def y_LawReader_readLaw : MethodName := ⟨"RosterRules$LawReader", "readLaw", "(LRosterRules$Law;)V"⟩
abbrev b_LawReader_readLaw : ByteArray := prog_7_method_4_code
def ws_LawReader_readLaw : List Cond := Cond.code y_LawReader_readLaw b_LawReader_readLaw 3 none :: xTbl
theorem wd_2_188 : Cond.methodLink "RosterRules$LawReader" 37 ⟨"RosterRules$Tokens", "rewind", "()V"⟩ ∈ xTbl := xIn_2 (List.mem_of_getElem? (i := 188) (by decide +kernel)) rfl
theorem wd_2_189 : Cond.instanceMethod ⟨"RosterRules$Tokens", "rewind", "()V"⟩ ∈ xTbl := xIn_2 (List.mem_of_getElem? (i := 189) (by decide +kernel)) rfl
theorem wd_2_190 : Cond.selects "RosterRules$Tokens" ⟨"RosterRules$Tokens", "rewind", "()V"⟩ ⟨"RosterRules$Tokens", "rewind", "()V"⟩ ∈ xTbl := xIn_2 (List.mem_of_getElem? (i := 190) (by decide +kernel)) rfl
theorem wd_2_191 : Cond.code ⟨"RosterRules$Tokens", "rewind", "()V"⟩ prog_12_method_2_code 1 (none : Option FieldType) ∈ xTbl := xIn_2 (List.mem_of_getElem? (i := 191) rfl) rfl
theorem gv_LawReader_37 : GoodIn xTbl (wsV "RosterRules$LawReader" 37 "RosterRules$Tokens" y_Tokens_rewind ws_Tokens_rewind) := xGV wd_2_188 wd_2_189 wd_2_190 wd_1_9 wd_2_191
theorem hd_Tokens_rewind : y_Tokens_rewind.cls = "RosterRules$Tokens" ∧ y_Tokens_rewind.cls ≠ "java/lang/invoke/MethodHandle" ∧ y_Tokens_rewind.cls ≠ "java/lang/invoke/VarHandle" ∧ (parseMethodDescriptor y_Tokens_rewind.desc).map (fun d => d.parameters.length) = some 0 := by decide +kernel
theorem wd_2_216 : Cond.methodLink "RosterRules$LawReader" 51 ⟨"RosterRules$LawReader", "readLaw", "(LRosterRules$Law;)V"⟩ ∈ xTbl := xIn_2 (List.mem_of_getElem? (i := 216) (by decide +kernel)) rfl
theorem wd_2_218 : Cond.instanceMethod ⟨"RosterRules$LawReader", "readLaw", "(LRosterRules$Law;)V"⟩ ∈ xTbl := xIn_2 (List.mem_of_getElem? (i := 218) (by decide +kernel)) rfl
theorem wz_4 : Cond.selects "RosterRules$LawReader" ⟨"RosterRules$LawReader", "readLaw", "(LRosterRules$Law;)V"⟩ ⟨"RosterRules$LawReader", "readLaw", "(LRosterRules$Law;)V"⟩ ∈ xTbl := List.mem_filter.mpr ⟨List.mem_append_left _ (List.mem_of_getElem? (i := 4) (by decide +kernel)), rfl⟩
theorem wd_2_219 : Cond.code ⟨"RosterRules$LawReader", "readLaw", "(LRosterRules$Law;)V"⟩ prog_7_method_4_code 3 (none : Option FieldType) ∈ xTbl := xIn_2 (List.mem_of_getElem? (i := 219) rfl) rfl
theorem gv_LawReader_51 : GoodIn xTbl (wsV "RosterRules$LawReader" 51 "RosterRules$LawReader" y_LawReader_readLaw ws_LawReader_readLaw) := xGV wd_2_216 wd_2_218 wz_4 wd_1_8 wd_2_219
theorem hd_LawReader_readLaw : y_LawReader_readLaw.cls = "RosterRules$LawReader" ∧ y_LawReader_readLaw.cls ≠ "java/lang/invoke/MethodHandle" ∧ y_LawReader_readLaw.cls ≠ "java/lang/invoke/VarHandle" ∧ (parseMethodDescriptor y_LawReader_readLaw.desc).map (fun d => d.parameters.length) = some 1 := by decide +kernel
def y_LawReader_readLaws : MethodName := ⟨"RosterRules$LawReader", "readLaws", "([LRosterRules$Law;)I"⟩
abbrev b_LawReader_readLaws : ByteArray := prog_7_method_2_code
def ws_LawReader_readLaws : List Cond := Cond.code y_LawReader_readLaws b_LawReader_readLaws 5 (some .int) :: xTbl
theorem wd_2_151 : Cond.fieldLink "RosterRules" 36 "RosterRules" "spareLaws" "[LRosterRules$Law;" ∈ xTbl := xIn_2 (List.mem_of_getElem? (i := 151) (by decide +kernel)) rfl
theorem lk_RR_36 : xLk "RosterRules" 36 11 7 := ⟨RC_11, TC_11, 9, rfl, by decide, iC_11, Or.inl wd_2_151⟩
theorem wd_2_184 : Cond.methodLink "RosterRules" 87 ⟨"RosterRules$LawReader", "readLaws", "([LRosterRules$Law;)I"⟩ ∈ xTbl := xIn_2 (List.mem_of_getElem? (i := 184) (by decide +kernel)) rfl
theorem wd_2_185 : Cond.instanceMethod ⟨"RosterRules$LawReader", "readLaws", "([LRosterRules$Law;)I"⟩ ∈ xTbl := xIn_2 (List.mem_of_getElem? (i := 185) (by decide +kernel)) rfl
theorem wd_2_186 : Cond.selects "RosterRules$LawReader" ⟨"RosterRules$LawReader", "readLaws", "([LRosterRules$Law;)I"⟩ ⟨"RosterRules$LawReader", "readLaws", "([LRosterRules$Law;)I"⟩ ∈ xTbl := xIn_2 (List.mem_of_getElem? (i := 186) (by decide +kernel)) rfl
theorem wd_2_187 : Cond.code ⟨"RosterRules$LawReader", "readLaws", "([LRosterRules$Law;)I"⟩ prog_7_method_2_code 5 (some FieldType.int) ∈ xTbl := xIn_2 (List.mem_of_getElem? (i := 187) rfl) rfl
theorem gv_RR_87 : GoodIn xTbl (wsV "RosterRules" 87 "RosterRules$LawReader" y_LawReader_readLaws ws_LawReader_readLaws) := xGV wd_2_184 wd_2_185 wd_2_186 wd_1_8 wd_2_187
theorem hd_LawReader_readLaws : y_LawReader_readLaws.cls = "RosterRules$LawReader" ∧ y_LawReader_readLaws.cls ≠ "java/lang/invoke/MethodHandle" ∧ y_LawReader_readLaws.cls ≠ "java/lang/invoke/VarHandle" ∧ (parseMethodDescriptor y_LawReader_readLaws.desc).map (fun d => d.parameters.length) = some 1 := by decide +kernel
theorem lp_RR_80 : xLp "RosterRules" 80 9 1 .int := ⟨RC_9, TC_9, 2, yC_9, rfl, by decide, iC_9, Or.inr ⟨"RosterRules", wn_1_36⟩, pC_9, nC_9, rfl, by decide +kernel⟩
theorem wn_2_24 : Cond.fieldLinkNest "RosterRules" 91 "RosterRules$LawReader" "fault" "I" "RosterRules" ∈ xNs := xNs_2 (List.mem_of_getElem? (i := 24) (by decide +kernel)) rfl
theorem lk_RR_91 : xLk "RosterRules" 91 5 3 := ⟨RC_5, TC_5, 5, rfl, by decide, iC_5, Or.inr ⟨"RosterRules", wn_2_24⟩⟩
theorem lp_RR_32 : xLp "RosterRules" 32 11 6 (.array (.object "RosterRules$Law")) := ⟨RC_11, TC_11, 9, yC_11, rfl, by decide, iC_11, Or.inl wd_2_150, pC_11, nC_11, rfl, by decide +kernel⟩
theorem lp_RR_36 : xLp "RosterRules" 36 11 7 (.array (.object "RosterRules$Law")) := ⟨RC_11, TC_11, 9, yC_11, rfl, by decide, iC_11, Or.inl wd_2_151, pC_11, nC_11, rfl, by decide +kernel⟩
theorem lp_RR_94 : xLp "RosterRules" 94 11 8 .int := ⟨RC_11, TC_11, 9, yC_11, rfl, by decide, iC_11, Or.inl wd_2_152, pC_11, nC_11, rfl, by decide +kernel⟩
def y_RR_read : MethodName := ⟨"RosterRules", "read", "()I"⟩
abbrev b_RR_read : ByteArray := prog_1_method_3_code
def ws_RR_read : List Cond := Cond.code y_RR_read b_RR_read 3 (some .int) :: xTbl
def y_S_length : MethodName := ⟨"java/lang/String", "length", "()I"⟩
abbrev b_S_length : ByteArray := prog_16_method_54_code
def ws_S_length : List Cond := Cond.code y_S_length b_S_length 1 (some .int) :: xTbl
theorem hi_S_length : y_S_length.cls ≠ "java/lang/invoke/MethodHandle" ∧ y_S_length.cls ≠ "java/lang/invoke/VarHandle" ∧ (parseMethodDescriptor y_S_length.desc).map (fun d => d.parameters.length) = some 0 := by decide +kernel
def y_S_coder : MethodName := ⟨"java/lang/String", "coder", "()B"⟩
abbrev b_S_coder : ByteArray := prog_16_method_152_code
def ws_S_coder : List Cond := Cond.code y_S_coder b_S_coder 1 (some .byte) :: xTbl
theorem hi_S_coder : y_S_coder.cls ≠ "java/lang/invoke/MethodHandle" ∧ y_S_coder.cls ≠ "java/lang/invoke/VarHandle" ∧ (parseMethodDescriptor y_S_coder.desc).map (fun d => d.parameters.length) = some 0 := by decide +kernel
def y_S_charAt : MethodName := ⟨"java/lang/String", "charAt", "(I)C"⟩
abbrev b_S_charAt : ByteArray := prog_16_method_56_code
def ws_S_charAt : List Cond := Cond.code y_S_charAt b_S_charAt 2 (some .char) :: xTbl
theorem hi_S_charAt : y_S_charAt.cls ≠ "java/lang/invoke/MethodHandle" ∧ y_S_charAt.cls ≠ "java/lang/invoke/VarHandle" ∧ (parseMethodDescriptor y_S_charAt.desc).map (fun d => d.parameters.length) = some 1 := by decide +kernel
def y_S_isLatin1 : MethodName := ⟨"java/lang/String", "isLatin1", "()Z"⟩
abbrev b_S_isLatin1 : ByteArray := prog_16_method_154_code
def ws_S_isLatin1 : List Cond := Cond.code y_S_isLatin1 b_S_isLatin1 1 (some .boolean) :: xTbl
theorem hi_S_isLatin1 : y_S_isLatin1.cls ≠ "java/lang/invoke/MethodHandle" ∧ y_S_isLatin1.cls ≠ "java/lang/invoke/VarHandle" ∧ (parseMethodDescriptor y_S_isLatin1.desc).map (fun d => d.parameters.length) = some 0 := by decide +kernel
def y_S_lat : MethodName := ⟨"java/lang/StringLatin1", "charAt", "([BI)C"⟩
abbrev b_S_lat : ByteArray := prog_17_method_2_code
def ws_S_lat : List Cond := Cond.code y_S_lat b_S_lat 2 (some .char) :: xTbl
theorem hi_S_lat : y_S_lat.cls ≠ "java/lang/invoke/MethodHandle" ∧ y_S_lat.cls ≠ "java/lang/invoke/VarHandle" ∧ (parseMethodDescriptor y_S_lat.desc).map (fun d => d.parameters.length) = some 2 := by decide +kernel
def y_S_chk : MethodName := ⟨"java/lang/String", "checkIndex", "(II)V"⟩
abbrev b_S_chk : ByteArray := prog_16_method_155_code
def ws_S_chk : List Cond := Cond.code y_S_chk b_S_chk 2 none :: xTbl
theorem hi_S_chk : y_S_chk.cls ≠ "java/lang/invoke/MethodHandle" ∧ y_S_chk.cls ≠ "java/lang/invoke/VarHandle" ∧ (parseMethodDescriptor y_S_chk.desc).map (fun d => d.parameters.length) = some 2 := by decide +kernel
def y_S_pre : MethodName := ⟨"jdk/internal/util/Preconditions", "checkIndex", "(IILjava/util/function/BiFunction;)I"⟩
abbrev b_S_pre : ByteArray := prog_19_method_11_code
def ws_S_pre : List Cond := Cond.code y_S_pre b_S_pre 3 (some .int) :: xTbl
theorem hi_S_pre : y_S_pre.cls ≠ "java/lang/invoke/MethodHandle" ∧ y_S_pre.cls ≠ "java/lang/invoke/VarHandle" ∧ (parseMethodDescriptor y_S_pre.desc).map (fun d => d.parameters.length) = some 3 := by decide +kernel
theorem d_S_length_0 : decode b_S_length 0 = .ok (.aload_n 0, 1) := by decide +kernel
theorem d_S_length_1 : decode b_S_length 1 = .ok (.getfield 9, 3) := by decide +kernel
theorem d_S_length_4 : decode b_S_length 4 = .ok (.arraylength, 1) := by decide +kernel
theorem d_S_length_5 : decode b_S_length 5 = .ok (.aload_n 0, 1) := by decide +kernel
theorem d_S_length_6 : decode b_S_length 6 = .ok (.invokevirtual 335, 3) := by decide +kernel
theorem d_S_length_9 : decode b_S_length 9 = .ok (.ishr, 1) := by decide +kernel
theorem d_S_length_10 : decode b_S_length 10 = .ok (.ireturn, 1) := by decide +kernel
theorem d_S_coder_0 : decode b_S_coder 0 = .ok (.getstatic 38, 3) := by decide +kernel
theorem d_S_coder_3 : decode b_S_coder 3 = .ok (.ifCond .eq 10, 3) := by decide +kernel
theorem d_S_coder_6 : decode b_S_coder 6 = .ok (.aload_n 0, 1) := by decide +kernel
theorem d_S_coder_7 : decode b_S_coder 7 = .ok (.getfield 15, 3) := by decide +kernel
theorem d_S_coder_10 : decode b_S_coder 10 = .ok (.goto 4, 3) := by decide +kernel
theorem d_S_coder_14 : decode b_S_coder 14 = .ok (.ireturn, 1) := by decide +kernel
theorem d_S_charAt_0 : decode b_S_charAt 0 = .ok (.aload_n 0, 1) := by decide +kernel
theorem d_S_charAt_1 : decode b_S_charAt 1 = .ok (.invokevirtual 492, 3) := by decide +kernel
theorem d_S_charAt_4 : decode b_S_charAt 4 = .ok (.ifCond .eq 12, 3) := by decide +kernel
theorem d_S_charAt_7 : decode b_S_charAt 7 = .ok (.aload_n 0, 1) := by decide +kernel
theorem d_S_charAt_8 : decode b_S_charAt 8 = .ok (.getfield 9, 3) := by decide +kernel
theorem d_S_charAt_11 : decode b_S_charAt 11 = .ok (.iload_n 1, 1) := by decide +kernel
theorem d_S_charAt_12 : decode b_S_charAt 12 = .ok (.invokestatic 495, 3) := by decide +kernel
theorem d_S_charAt_15 : decode b_S_charAt 15 = .ok (.ireturn, 1) := by decide +kernel
theorem d_S_isLatin1_0 : decode b_S_isLatin1 0 = .ok (.getstatic 38, 3) := by decide +kernel
theorem d_S_isLatin1_3 : decode b_S_isLatin1 3 = .ok (.ifCond .eq 14, 3) := by decide +kernel
theorem d_S_isLatin1_6 : decode b_S_isLatin1 6 = .ok (.aload_n 0, 1) := by decide +kernel
theorem d_S_isLatin1_7 : decode b_S_isLatin1 7 = .ok (.getfield 15, 3) := by decide +kernel
theorem d_S_isLatin1_10 : decode b_S_isLatin1 10 = .ok (.ifCond .ne 7, 3) := by decide +kernel
theorem d_S_isLatin1_13 : decode b_S_isLatin1 13 = .ok (.iconst 1, 1) := by decide +kernel
theorem d_S_isLatin1_14 : decode b_S_isLatin1 14 = .ok (.goto 4, 3) := by decide +kernel
theorem d_S_isLatin1_18 : decode b_S_isLatin1 18 = .ok (.ireturn, 1) := by decide +kernel
theorem d_S_lat_0 : decode b_S_lat 0 = .ok (.iload_n 1, 1) := by decide +kernel
theorem d_S_lat_1 : decode b_S_lat 1 = .ok (.aload_n 0, 1) := by decide +kernel
theorem d_S_lat_2 : decode b_S_lat 2 = .ok (.arraylength, 1) := by decide +kernel
theorem d_S_lat_3 : decode b_S_lat 3 = .ok (.invokestatic 9, 3) := by decide +kernel
theorem d_S_lat_6 : decode b_S_lat 6 = .ok (.aload_n 0, 1) := by decide +kernel
theorem d_S_lat_7 : decode b_S_lat 7 = .ok (.iload_n 1, 1) := by decide +kernel
theorem d_S_lat_8 : decode b_S_lat 8 = .ok (.baload, 1) := by decide +kernel
theorem d_S_lat_9 : decode b_S_lat 9 = .ok (.sipush 255, 3) := by decide +kernel
theorem d_S_lat_12 : decode b_S_lat 12 = .ok (.iand, 1) := by decide +kernel
theorem d_S_lat_13 : decode b_S_lat 13 = .ok (.i2c, 1) := by decide +kernel
theorem d_S_lat_14 : decode b_S_lat 14 = .ok (.ireturn, 1) := by decide +kernel
theorem d_S_chk_0 : decode b_S_chk 0 = .ok (.iload_n 0, 1) := by decide +kernel
theorem d_S_chk_1 : decode b_S_chk 1 = .ok (.iload_n 1, 1) := by decide +kernel
theorem d_S_chk_2 : decode b_S_chk 2 = .ok (.getstatic 1053, 3) := by decide +kernel
theorem d_S_chk_5 : decode b_S_chk 5 = .ok (.invokestatic 1059, 3) := by decide +kernel
theorem d_S_chk_8 : decode b_S_chk 8 = .ok (.pop, 1) := by decide +kernel
theorem d_S_chk_9 : decode b_S_chk 9 = .ok (.return_, 1) := by decide +kernel
theorem d_S_pre_0 : decode b_S_pre 0 = .ok (.iload_n 0, 1) := by decide +kernel
theorem d_S_pre_1 : decode b_S_pre 1 = .ok (.ifCond .lt 8, 3) := by decide +kernel
theorem d_S_pre_4 : decode b_S_pre 4 = .ok (.iload_n 0, 1) := by decide +kernel
theorem d_S_pre_5 : decode b_S_pre 5 = .ok (.iload_n 1, 1) := by decide +kernel
theorem d_S_pre_6 : decode b_S_pre 6 = .ok (.if_icmp .lt 10, 3) := by decide +kernel
theorem d_S_pre_16 : decode b_S_pre 16 = .ok (.iload_n 0, 1) := by decide +kernel
theorem d_S_pre_17 : decode b_S_pre 17 = .ok (.ireturn, 1) := by decide +kernel
theorem xGS2 {own : String} {index : Nat} {y : MethodName} {b : ByteArray} {n : Nat} {r : Option FieldType} (h1 : Cond.methodLink own index y ∈ xTbl) (h2 : Cond.static y ∈ xTbl) (h3 : Cond.initialized y.cls ∈ xTbl) (h5 : Cond.code y b n r ∈ xTbl) : GoodIn xTbl (va_wsS own index y (Cond.code y b n r :: xTbl)) := fun w hw => by
  unfold va_wsS at hw
  rcases List.mem_append.mp hw with hw | hw
  · simp only [List.mem_cons, List.not_mem_nil, or_false] at hw
    rcases hw with rfl | rfl | rfl
    · exact ⟨h1, xTbl_good _ h1⟩
    · exact ⟨h2, xTbl_good _ h2⟩
    · exact ⟨h3, xTbl_good _ h3⟩
  · exact xGI h5 w hw
theorem gv_S_coder : GoodIn xTbl (wsV "java/lang/String" 335 "java/lang/String" y_S_coder ws_S_coder) := xGV wd_3_2 wd_3_3 wd_3_4 wd_1_15 wd_3_5
theorem hv_S_coder : y_S_coder.cls = "java/lang/String" ∧ y_S_coder.cls ≠ "java/lang/invoke/MethodHandle" ∧ y_S_coder.cls ≠ "java/lang/invoke/VarHandle" ∧ (parseMethodDescriptor y_S_coder.desc).map (fun d => d.parameters.length) = some 0 := by decide +kernel
theorem gv_S_isLatin1 : GoodIn xTbl (wsV "java/lang/String" 492 "java/lang/String" y_S_isLatin1 ws_S_isLatin1) := xGV wd_3_12 wd_3_13 wd_3_14 wd_1_15 wd_3_15
theorem hv_S_isLatin1 : y_S_isLatin1.cls = "java/lang/String" ∧ y_S_isLatin1.cls ≠ "java/lang/invoke/MethodHandle" ∧ y_S_isLatin1.cls ≠ "java/lang/invoke/VarHandle" ∧ (parseMethodDescriptor y_S_isLatin1.desc).map (fun d => d.parameters.length) = some 0 := by decide +kernel
theorem gv_Tk_length : GoodIn xTbl (wsV "RosterRules$Tokens" 49 "java/lang/String" y_S_length ws_S_length) := xGV wd_2_238 wd_2_239 wd_3_0 wd_1_15 wd_3_1
theorem hv_S_length : y_S_length.cls = "java/lang/String" ∧ y_S_length.cls ≠ "java/lang/invoke/MethodHandle" ∧ y_S_length.cls ≠ "java/lang/invoke/VarHandle" ∧ (parseMethodDescriptor y_S_length.desc).map (fun d => d.parameters.length) = some 0 := by decide +kernel
theorem gv_Tk_charAt : GoodIn xTbl (wsV "RosterRules$Tokens" 54 "java/lang/String" y_S_charAt ws_S_charAt) := xGV wd_3_8 wd_3_9 wd_3_10 wd_1_15 wd_3_11
theorem hv_S_charAt : y_S_charAt.cls = "java/lang/String" ∧ y_S_charAt.cls ≠ "java/lang/invoke/MethodHandle" ∧ y_S_charAt.cls ≠ "java/lang/invoke/VarHandle" ∧ (parseMethodDescriptor y_S_charAt.desc).map (fun d => d.parameters.length) = some 1 := by decide +kernel
theorem gs_S_lat : GoodIn xTbl (va_wsS "java/lang/String" 495 y_S_lat ws_S_lat) := xGS2 wd_3_16 wd_3_17 wd_1_16 wd_3_18
theorem gs_S_chk : GoodIn xTbl (va_wsS "java/lang/StringLatin1" 9 y_S_chk ws_S_chk) := xGS2 wd_3_19 wd_3_20 wd_1_15 wd_3_21
theorem gs_S_pre : GoodIn xTbl (va_wsS "java/lang/String" 1059 y_S_pre ws_S_pre) := xGS2 wd_3_24 wd_3_25 wd_1_17 wd_3_26
section XS
variable {p : Program} {l : Launch} {e : Env} {R : Room} {s : State} {m : MethodId} {args : Array Value} {below : List Frame} {meth : Method} {c : Code} {H : Heap} {locs : List Loc} {cells slots : Nat} {Q : State → Prop}
variable {cc : ByteArray} {nL : Nat} {own : String} {pc : Nat} {ls : Array Slot} {rest : List Value} {E : xV} {z z1 : Nat} {ω ω1 : xS} {H0 : Heap} {a : Nat} {index ci k : Nat}
theorem x_nret (S : CallFix p m c cc nL s args xTbl own) {ty : FieldType} (hr : meth.sig.returnType = some ty) (hlocks : meth.locks = false) (hw : xW E z ω s s.heap H locs) {v : Int32} (hn : narrow ty (.int v) = .int v) (hdg : decode cc pc = .ok (.ireturn, 1)) : W p l e R s m args below meth c H locs cells slots (MQ below (xQ E (some (.int v)) z ω) args s cells slots (fun q => E.2.2 ≤ q)) (F0 m pc ls [.int v]) :=
  W.zret S.1 S.2.1 hr hn (fun t ht _ => ⟨rfl, by rw [ht]; exact hw.2.1, hw.2.2.F ht⟩) hw.2.2.2.2 hdg hlocks
/-- a method of a String constant -/
theorem x_callVS (S : CallFix p m c cc nL s args xTbl own) (hw : xW E z ω s s.heap H locs) {y : MethodName} {bytes : ByteArray} {maxL n : Nat} {ret : Option FieldType} {ws : List Cond} {rm : Room} {i : Nat} (hi : i < 7) {As st0 st1 : List Value} {v : Option Value}
    (hM : xM l E y ws rm (.ref (E.2.1 (100 + i)) :: As) z ω v z1 ω1) (cw : CallW R s args own "java/lang/String" index y bytes maxL ret ws rm rm.cells rm.slots n)
    (hn : As.length = n) (hsize : ls.size = nL) (hst : st0 = As.reverse ++ .ref (E.2.1 (100 + i)) :: rest) (hst1 : v.toList ++ rest = st1) (hcat : (rest.map fun v => v.category).sum ≤ 8) (hdg : decode cc pc = .ok (.invokevirtual index, 3)) (hf : cells + rm.cells ≤ R.cells ∧ slots + rm.slots ≤ R.slots)
    (kk : ∀ (H1 : Heap) (locs1 : List Loc), xW E z1 ω1 s s.heap H1 locs1 → W p l e R s m args below meth c H1 locs1 (cells + rm.cells) (slots + rm.slots) Q (F0 m (pc + 3) ls st1)) : W p l e R s m args below meth c H locs cells slots Q (F0 m pc ls st0) := by
  subst hst1
  exact x_run (va_runV (As := As) (rest := rest) S hM cw ⟨xB_blind _ _ _ _, vk_recv hw.1.2.2.2.2.2.2.1 hi hw.2.2, fun U hU hW => ⟨rfl, by rw [hU]; exact hw.1.moved hW hw.2.2, by rw [hU]; exact hw.2.1⟩⟩ rfl hn hsize hst (lv_room hcat) hdg hf) hw kk
theorem x_ldcS (S : CallFix p m c cc nL s args xTbl "RosterRules$Law") (hw : xW E z ω s H0 H locs) (i : Nat) (hi : i < 7) (hx : xSi.getD i 0 = index) (hdg : decode cc pc = .ok (.ldc index, 2))
    (kk : W p l e R s m args below meth c H locs cells slots Q (F0 m (pc + 2) ls (.ref (E.2.1 (100 + i)) :: rest))) : W p l e R s m args below meth c H locs cells slots Q (F0 m pc ls rest) := by
  subst hx
  exact va_ldcS S.1 S.2.1 S.2.2.2.1 (hw.1.2.2.2.2.2.1 i hi) hdg kk
end XS
def xSln (i : Nat) : Int32 := Int32.ofNat (xSn.getD i 0) >>> ((0 : Int32) &&& 31)
def xSch (i : Nat) (k : Int32) : Int32 := xi2c ((xSb.getD i []).getD k.toNatClampNeg 0 &&& 255)
/-- length() of constant i -/
def xslen (i : Nat) : Option Int32 := if i < 7 then some (xSln i) else none
/-- charAt(k) of constant i -/
def xsch (i : Nat) (k : Int32) : Option Int32 := if i < 7 ∧ ¬ (k < 0 ∨ xSn.getD i 0 ≤ k.toNatClampNeg) then some (xSch i k) else none
theorem c_S_coder {l : Launch} {E : xV} {z : Nat} {ω : xS} {i : Nat} (hi : i < 7) : xM l E y_S_coder ws_S_coder { frames := 0, cells := 0, slots := 0, locals := 0 } [.ref (E.2.1 (100 + i))] z ω (some (.int 0)) z ω := by
  refine x_start (cc := b_S_coder) (maxL := 1) (ret := (some .byte)) (by decide) rfl (Nat.le_of_ble_eq_true rfl) ?_
  intro p e s m below meth c S hr hlocks hin ls hl hw
  have hl : lv_has ls 1 [(0, .ref (E.2.1 (100 + i)))] := hl
  have hT := hw.1.2.2.2.2.2.2.1.1 i hi
  refine va_gets S.1 S.2.1 hw.1.2.2.2.2.2.2.2.1 hw.2.2 S.2.2.2.1 (S.2.2.2.2 _ wd_3_6) (fun _ h => h) d_S_coder_0 ?_
  refine lv_if_eq (tgt := 13) S.1 S.2.1 d_S_coder_3 (by decide) (fun c1 => absurd c1 (by decide)) (fun c1 => ?_)
  refine lv_aload_n S.1 S.2.1 d_S_coder_6 rfl (lv_at hl 0 rfl) ?_
  refine vk_getf S.1 S.2.1 hT.2.1 hw.2.2 S.2.2.2.1 (S.2.2.2.2 _ wd_6_232) (fun _ h => h) d_S_coder_7 ?_
  refine lv_goto (tgt := 14) S.1 S.2.1 d_S_coder_10 (by decide) ?_
  exact x_nret S hr hlocks hw (by decide) d_S_coder_14
theorem c_S_isLatin1 {l : Launch} {E : xV} {z : Nat} {ω : xS} {i : Nat} (hi : i < 7) : xM l E y_S_isLatin1 ws_S_isLatin1 { frames := 0, cells := 0, slots := 0, locals := 0 } [.ref (E.2.1 (100 + i))] z ω (some (.int 1)) z ω := by
  refine x_start (cc := b_S_isLatin1) (maxL := 1) (ret := (some .boolean)) (by decide) rfl (Nat.le_of_ble_eq_true rfl) ?_
  intro p e s m below meth c S hr hlocks hin ls hl hw
  have hl : lv_has ls 1 [(0, .ref (E.2.1 (100 + i)))] := hl
  have hT := hw.1.2.2.2.2.2.2.1.1 i hi
  refine va_gets S.1 S.2.1 hw.1.2.2.2.2.2.2.2.1 hw.2.2 S.2.2.2.1 (S.2.2.2.2 _ wd_3_6) (fun _ h => h) d_S_isLatin1_0 ?_
  refine lv_if_eq (tgt := 17) S.1 S.2.1 d_S_isLatin1_3 (by decide) (fun c1 => absurd c1 (by decide)) (fun c1 => ?_)
  refine lv_aload_n S.1 S.2.1 d_S_isLatin1_6 rfl (lv_at hl 0 rfl) ?_
  refine vk_getf S.1 S.2.1 hT.2.1 hw.2.2 S.2.2.2.1 (S.2.2.2.2 _ wd_6_232) (fun _ h => h) d_S_isLatin1_7 ?_
  refine lv_if_ne (tgt := 17) S.1 S.2.1 d_S_isLatin1_10 (by decide) (fun c1 => absurd rfl c1) (fun c1 => ?_)
  refine lv_iconst (v := 1) S.1 S.2.1 d_S_isLatin1_13 (by decide) ?_
  refine lv_goto (tgt := 18) S.1 S.2.1 d_S_isLatin1_14 (by decide) ?_
  exact x_zret S hr hlocks hw (by decide) d_S_isLatin1_18
theorem c_S_length {l : Launch} {E : xV} {z : Nat} {ω : xS} {i : Nat} (hi : i < 7) : xM l E y_S_length ws_S_length { frames := 1, cells := 0, slots := 0, locals := 20 } [.ref (E.2.1 (100 + i))] z ω (some (.int (xSln i))) z ω := by
  refine x_start (cc := b_S_length) (maxL := 1) (ret := (some .int)) (by decide) rfl (Nat.le_of_ble_eq_true rfl) ?_
  intro p e s m below meth c S hr hlocks hin ls hl hw
  have hl : lv_has ls 1 [(0, .ref (E.2.1 (100 + i)))] := hl
  have hT := hw.1.2.2.2.2.2.2.1.1 i hi
  refine lv_aload_n S.1 S.2.1 d_S_length_0 rfl (lv_at hl 0 rfl) ?_
  refine vk_getf S.1 S.2.1 hT.2.2.1 hw.2.2 S.2.2.2.1 (S.2.2.2.2 _ wd_6_231) (fun _ h => h) d_S_length_1 ?_
  refine va_tlen S.1 S.2.1 hT.2.2.2 hw.2.2 rfl d_S_length_4 ?_
  refine lv_aload_n S.1 S.2.1 d_S_length_5 rfl (lv_at hl 0 rfl) ?_
  refine x_callVS (As := []) (rest := [.int (Int32.ofNat (xSn.getD i 0))]) (st1 := [.int 0, .int (Int32.ofNat (xSn.getD i 0))]) S hw hi (c_S_coder hi) (cwV 0 S.2.2.2.2 gv_S_coder rfl rfl rfl hv_S_coder ⟨Nat.le_of_ble_eq_true rfl, Nat.le_of_ble_eq_true rfl⟩) rfl hl.1 rfl rfl (Nat.le_of_ble_eq_true rfl) d_S_length_6 ⟨Nat.le_of_ble_eq_true rfl, Nat.le_of_ble_eq_true rfl⟩ (fun H locs hw => ?_)
  refine lv_ishr S.1 S.2.1 d_S_length_9 ?_
  exact x_iret S hr hlocks hw d_S_length_10
theorem c_S_pre {l : Launch} {E : xV} {z : Nat} {ω : xS} {k n : Int32} {v : Value} (hv : v = .null ∨ ∃ t, v = .ref t) (hk : ¬ k < 0) (hn : k < n) : xM l E y_S_pre ws_S_pre { frames := 0, cells := 0, slots := 0, locals := 0 } [.int k, .int n, v] z ω (some (.int k)) z ω := by
  have key : ∀ v : Value, (lg_sl [.int k, .int n, v]).length ≤ 3 → xM l E y_S_pre ws_S_pre { frames := 0, cells := 0, slots := 0, locals := 0 } [.int k, .int n, v] z ω (some (.int k)) z ω := by
    intro v hc
    refine x_start (cc := b_S_pre) (maxL := 3) (ret := (some .int)) (by decide) rfl hc ?_
    intro p e s m below meth c S hr hlocks hin ls hl hw
    have hl : lv_has ls 3 [(0, .int k), (1, .int n)] := lv_sub hl [0, 1] rfl
    refine lv_iload_n S.1 S.2.1 d_S_pre_0 rfl (lv_at hl 0 rfl) ?_
    refine lv_if_lt (tgt := 9) S.1 S.2.1 d_S_pre_1 (by decide) (fun c1 => absurd c1 hk) (fun c1 => ?_)
    refine lv_iload_n S.1 S.2.1 d_S_pre_4 rfl (lv_at hl 0 rfl) ?_
    refine lv_iload_n S.1 S.2.1 d_S_pre_5 rfl (lv_at hl 1 rfl) ?_
    refine lv_icmp_lt (tgt := 16) S.1 S.2.1 d_S_pre_6 (by decide) (fun c2 => ?_) (fun c2 => absurd hn c2)
    refine lv_iload_n S.1 S.2.1 d_S_pre_16 rfl (lv_at hl 0 rfl) ?_
    exact x_iret S hr hlocks hw d_S_pre_17
  rcases hv with rfl | ⟨t, rfl⟩
  · exact key _ (Nat.le_of_ble_eq_true rfl)
  · exact key _ (Nat.le_of_ble_eq_true rfl)
theorem c_S_chk {l : Launch} {E : xV} {z : Nat} {ω : xS} {k n : Int32} (hk : ¬ k < 0) (hn : k < n) : xM l E y_S_chk ws_S_chk { frames := 1, cells := 0, slots := 0, locals := 22 } [.int k, .int n] z ω none z ω := by
  refine x_start (cc := b_S_chk) (maxL := 2) (ret := none) (by decide) rfl (Nat.le_of_ble_eq_true rfl) ?_
  intro p e s m below meth c S hr hlocks hin ls hl hw
  have hl : lv_has ls 2 [(0, .int k), (1, .int n)] := hl
  refine lv_iload_n S.1 S.2.1 d_S_chk_0 rfl (lv_at hl 0 rfl) ?_
  refine lv_iload_n S.1 S.2.1 d_S_chk_1 rfl (lv_at hl 1 rfl) ?_
  have key : ∀ v : Value, (v = .null ∨ ∃ t, v = .ref t) → va_Z "jdk/internal/util/Preconditions" "SIOOBE_FORMATTER" "Ljava/util/function/BiFunction;" v (fun q => E.2.2 ≤ q) s s.heap → W p l e (headSpec ws_S_chk { frames := 1, cells := 0, slots := 0, locals := 22 }).room s m ([.int k, .int n] : List Value).toArray below meth c s.heap [] 0 0 (MQ below (xQ E none z ω) ([.int k, .int n] : List Value).toArray s 0 0 (fun q => E.2.2 ≤ q)) (F0 m 2 ls [.int n, .int k]) := by
    intro v hv hZ
    refine va_gets S.1 S.2.1 hZ hw.2.2 S.2.2.2.1 (S.2.2.2.2 _ wd_3_22) (fun _ h => h) d_S_chk_2 ?_
    refine x_callS (As := [.int k, .int n, v]) (rest := []) (st1 := [.int k]) S hw (c_S_pre hv hk hn) (va_cwS 3 S.2.2.2.2 gs_S_pre rfl rfl rfl hi_S_pre ⟨Nat.le_of_ble_eq_true rfl, Nat.le_of_ble_eq_true rfl⟩) rfl hl.1 rfl rfl (Nat.le_of_ble_eq_true rfl) d_S_chk_5 ⟨Nat.le_of_ble_eq_true rfl, Nat.le_of_ble_eq_true rfl⟩ (fun H locs hw => ?_)
    refine lv_pop S.1 S.2.1 d_S_chk_8 rfl ?_
    exact x_vret S hr hlocks hw d_S_chk_9
  rcases hw.1.2.2.2.2.2.2.2.2 with h | ⟨t, h⟩
  · exact key _ (Or.inl rfl) h
  · exact key _ (Or.inr ⟨t, rfl⟩) h
theorem c_S_lat {l : Launch} {E : xV} {z : Nat} {ω : xS} {i : Nat} (hi : i < 7) {k : Int32} (hk : vp_in k (xSn.getD i 0)) : xM l E y_S_lat ws_S_lat { frames := 2, cells := 0, slots := 0, locals := 43 } [.ref (E.2.1 (200 + i)), .int k] z ω (some (.int (xSch i k))) z ω := by
  refine x_start (cc := b_S_lat) (maxL := 2) (ret := (some .char)) (by decide) rfl (Nat.le_of_ble_eq_true rfl) ?_
  intro p e s m below meth c S hr hlocks hin ls hl hw
  have hl : lv_has ls 2 [(0, .ref (E.2.1 (200 + i))), (1, .int k)] := hl
  have hT := hw.1.2.2.2.2.2.2.1.1 i hi
  have hn7 : xSn.getD i 0 < 2 ^ 31 := by
    rcases (show i = 0 ∨ i = 1 ∨ i = 2 ∨ i = 3 ∨ i = 4 ∨ i = 5 ∨ i = 6 by omega) with rfl | rfl | rfl | rfl | rfl | rfl | rfl <;> decide
  obtain ⟨j, hj, rfl⟩ := vp_in_of hk hn7
  refine lv_iload_n S.1 S.2.1 d_S_lat_0 rfl (lv_at hl 1 rfl) ?_
  refine lv_aload_n S.1 S.2.1 d_S_lat_1 rfl (lv_at hl 0 rfl) ?_
  refine va_tlen S.1 S.2.1 hT.2.2.2 hw.2.2 rfl d_S_lat_2 ?_
  refine x_callS (As := [.int (nI j), .int (Int32.ofNat (xSn.getD i 0))]) (rest := []) (st1 := []) S hw (c_S_chk (nI_pos (by omega)) (nI_lt hj hn7)) (va_cwS 2 S.2.2.2.2 gs_S_chk rfl rfl rfl hi_S_chk ⟨Nat.le_of_ble_eq_true rfl, Nat.le_of_ble_eq_true rfl⟩) rfl hl.1 rfl rfl (Nat.le_of_ble_eq_true rfl) d_S_lat_3 ⟨Nat.le_of_ble_eq_true rfl, Nat.le_of_ble_eq_true rfl⟩ (fun H locs hw => ?_)
  refine lv_aload_n S.1 S.2.1 d_S_lat_6 rfl (lv_at hl 0 rfl) ?_
  refine lv_iload_n S.1 S.2.1 d_S_lat_7 rfl (lv_at hl 1 rfl) ?_
  refine va_tb S.1 S.2.1 hT.2.2.2 hw.2.2 hk rfl d_S_lat_8 ?_
  refine lv_sipush (v := 255) S.1 S.2.1 d_S_lat_9 (by decide) ?_
  refine lv_iand S.1 S.2.1 d_S_lat_12 ?_
  refine lv_i2c (v := xSch i (nI j)) S.1 S.2.1 d_S_lat_13 rfl ?_
  exact x_nret S hr hlocks hw (pk_nc _) d_S_lat_14
theorem c_S_charAt {l : Launch} {E : xV} {z : Nat} {ω : xS} {i : Nat} (hi : i < 7) {k : Int32} (hk : vp_in k (xSn.getD i 0)) : xM l E y_S_charAt ws_S_charAt { frames := 3, cells := 0, slots := 0, locals := 64 } [.ref (E.2.1 (100 + i)), .int k] z ω (some (.int (xSch i k))) z ω := by
  refine x_start (cc := b_S_charAt) (maxL := 2) (ret := (some .char)) (by decide) rfl (Nat.le_of_ble_eq_true rfl) ?_
  intro p e s m below meth c S hr hlocks hin ls hl hw
  have hl : lv_has ls 2 [(0, .ref (E.2.1 (100 + i))), (1, .int k)] := hl
  have hT := hw.1.2.2.2.2.2.2.1.1 i hi
  refine lv_aload_n S.1 S.2.1 d_S_charAt_0 rfl (lv_at hl 0 rfl) ?_
  refine x_callVS (As := []) (rest := []) (st1 := [.int 1]) S hw hi (c_S_isLatin1 hi) (cwV 0 S.2.2.2.2 gv_S_isLatin1 rfl rfl rfl hv_S_isLatin1 ⟨Nat.le_of_ble_eq_true rfl, Nat.le_of_ble_eq_true rfl⟩) rfl hl.1 rfl rfl (Nat.le_of_ble_eq_true rfl) d_S_charAt_1 ⟨Nat.le_of_ble_eq_true rfl, Nat.le_of_ble_eq_true rfl⟩ (fun H locs hw => ?_)
  refine lv_if_eq (tgt := 16) S.1 S.2.1 d_S_charAt_4 (by decide) (fun c1 => absurd c1 (by decide)) (fun c1 => ?_)
  refine lv_aload_n S.1 S.2.1 d_S_charAt_7 rfl (lv_at hl 0 rfl) ?_
  refine vk_getf S.1 S.2.1 hT.2.2.1 hw.2.2 S.2.2.2.1 (S.2.2.2.2 _ wd_6_231) (fun _ h => h) d_S_charAt_8 ?_
  refine lv_iload_n S.1 S.2.1 d_S_charAt_11 rfl (lv_at hl 1 rfl) ?_
  refine x_callS (As := [.ref (E.2.1 (200 + i)), .int k]) (rest := []) (st1 := [.int (xSch i k)]) S hw (c_S_lat hi hk) (va_cwS 2 S.2.2.2.2 gs_S_lat rfl rfl rfl hi_S_lat ⟨Nat.le_of_ble_eq_true rfl, Nat.le_of_ble_eq_true rfl⟩) rfl hl.1 rfl rfl (Nat.le_of_ble_eq_true rfl) d_S_charAt_12 ⟨Nat.le_of_ble_eq_true rfl, Nat.le_of_ble_eq_true rfl⟩ (fun H locs hw => ?_)
  exact x_nret S hr hlocks hw (pk_nc _) d_S_charAt_15
section XS2
variable {p : Program} {l : Launch} {e : Env} {R : Room} {s : State} {m : MethodId} {args : Array Value} {below : List Frame} {meth : Method} {c : Code} {H : Heap} {locs : List Loc} {cells slots : Nat} {Q : State → Prop}
variable {cc : ByteArray} {nL : Nat} {own : String} {pc : Nat} {ls : Array Slot} {rest : List Value} {E : xV} {z z1 : Nat} {ω ω1 : xS}
theorem x_slen (S : CallFix p m c cc nL s args xTbl "RosterRules$Tokens") (hw : xW E z ω s s.heap H locs) {i : Nat} {v : Int32} (hg : xslen i = some v) (hsize : ls.size = nL) (hcat : (rest.map fun v => v.category).sum ≤ 8) (hR : 2 ≤ R.frames ∧ 40 ≤ R.locals) (hdg : decode cc pc = .ok (.invokevirtual 49, 3)) (hf : cells + 0 ≤ R.cells ∧ slots + 0 ≤ R.slots)
    (kk : ∀ (H1 : Heap) (locs1 : List Loc), xW E z ω s s.heap H1 locs1 → W p l e R s m args below meth c H1 locs1 cells slots Q (F0 m (pc + 3) ls (.int v :: rest))) : W p l e R s m args below meth c H locs cells slots Q (F0 m pc ls (.ref (E.2.1 (100 + i)) :: rest)) := by
  unfold xslen at hg
  split at hg
  · rename_i hi
    cases hg
    exact x_callVS (As := []) (rest := rest) (st1 := .int (xSln i) :: rest) S hw hi (c_S_length hi) (cwV 0 S.2.2.2.2 gv_Tk_length rfl rfl rfl hv_S_length hR) rfl hsize rfl rfl hcat hdg hf kk
  · cases hg
theorem x_schr (S : CallFix p m c cc nL s args xTbl "RosterRules$Tokens") (hw : xW E z ω s s.heap H locs) {i : Nat} {k v : Int32} (hg : xsch i k = some v) (hsize : ls.size = nL) (hcat : (rest.map fun v => v.category).sum ≤ 8) (hR : 4 ≤ R.frames ∧ 85 ≤ R.locals) (hdg : decode cc pc = .ok (.invokevirtual 54, 3)) (hf : cells + 0 ≤ R.cells ∧ slots + 0 ≤ R.slots)
    (kk : ∀ (H1 : Heap) (locs1 : List Loc), xW E z ω s s.heap H1 locs1 → W p l e R s m args below meth c H1 locs1 cells slots Q (F0 m (pc + 3) ls (.int v :: rest))) : W p l e R s m args below meth c H locs cells slots Q (F0 m pc ls (.int k :: .ref (E.2.1 (100 + i)) :: rest)) := by
  unfold xsch at hg
  split at hg
  · rename_i hi
    cases hg
    exact x_callVS (As := [.int k]) (rest := rest) (st1 := .int (xSch i k) :: rest) S hw hi.1 (c_S_charAt hi.1 hi.2) (cwV 1 S.2.2.2.2 gv_Tk_charAt rfl rfl rfl hv_S_charAt hR) rfl hsize rfl rfl hcat hdg hf kk
  · cases hg
end XS2
