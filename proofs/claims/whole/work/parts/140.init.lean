theorem wd_1_24 : Cond.methodLink "RosterRules" 1 ⟨"java/lang/Object", "<init>", "()V"⟩ ∈ xTbl := xIn_1 (List.mem_of_getElem? (i := 24) (by decide +kernel)) rfl
theorem ob_RR_1 : xOb "RosterRules" 1 := ⟨wd_1_24, wd_1_25, wd_1_26⟩
theorem dv_9 : ∀ j, j < 2 → defaultValue (yC_9 j) = vp_V [.null, .int 0] j := fun j hj => by rcases (show j = 0 ∨ j = 1 by omega) with rfl | rfl <;> rfl
theorem wd_1_27 : Cond.classLink "RosterRules" 7 "RosterRules$Tape" ∈ xTbl := xIn_1 (List.mem_of_getElem? (i := 27) (by decide +kernel)) rfl
theorem wd_1_28 : Cond.instantiable "RosterRules$Tape" 2 ∈ xTbl := xIn_1 (List.mem_of_getElem? (i := 28) (by decide +kernel)) rfl
theorem nw_RR_7 : xNw "RosterRules" 7 9 2 [.null, .int 0] := ⟨RC_9, TC_9, yC_9, rfl, iC_9, pC_9, dv_9, wd_1_27, wd_1_28, wd_1_2⟩
theorem wn_1_29 : Cond.methodLinkNest "RosterRules" 9 ⟨"RosterRules$Tape", "<init>", "()V"⟩ "RosterRules" ∈ xNs := xNs_1 (List.mem_of_getElem? (i := 29) (by decide +kernel)) rfl
theorem wd_1_31 : Cond.code ⟨"RosterRules$Tape", "<init>", "()V"⟩ prog_11_method_1_code 1 (none : Option FieldType) ∈ xTbl := xIn_1 (List.mem_of_getElem? (i := 31) rfl) rfl
theorem gi_Tape_init : GoodIn xTbl ws_Tape_init := xGI wd_1_31
theorem hi_Tape_init : y_Tape_init.cls ≠ "java/lang/invoke/MethodHandle" ∧ y_Tape_init.cls ≠ "java/lang/invoke/VarHandle" ∧ (parseMethodDescriptor y_Tape_init.desc).map (fun d => d.parameters.length) = some 0 := by decide +kernel
theorem wd_1_30 : Cond.instanceMethod ⟨"RosterRules$Tape", "<init>", "()V"⟩ ∈ xTbl := xIn_1 (List.mem_of_getElem? (i := 30) (by decide +kernel)) rfl
theorem lf_RR_10 : xLf "RosterRules" 10 11 0 (.object "RosterRules$Tape") := ⟨RC_11, TC_11, 9, yC_11, rfl, by decide, iC_11, wd_2_144, pC_11, nC_11, rfl, rfl, by decide +kernel⟩
theorem dv_2 : ∀ j, j < 5 → defaultValue (yC_2 j) = vp_V [.null, .null, .null, .int 0, .int 0] j := fun j hj => by rcases (show j = 0 ∨ j = 1 ∨ j = 2 ∨ j = 3 ∨ j = 4 by omega) with rfl | rfl | rfl | rfl | rfl <;> rfl
theorem wd_1_44 : Cond.classLink "RosterRules" 16 "RosterRules$History" ∈ xTbl := xIn_1 (List.mem_of_getElem? (i := 44) (by decide +kernel)) rfl
theorem wd_1_45 : Cond.instantiable "RosterRules$History" 5 ∈ xTbl := xIn_1 (List.mem_of_getElem? (i := 45) (by decide +kernel)) rfl
theorem nw_RR_16 : xNw "RosterRules" 16 2 5 [.null, .null, .null, .int 0, .int 0] := ⟨RC_2, TC_2, yC_2, rfl, iC_2, pC_2, dv_2, wd_1_44, wd_1_45, wd_1_3⟩
theorem wn_1_46 : Cond.methodLinkNest "RosterRules" 18 ⟨"RosterRules$History", "<init>", "()V"⟩ "RosterRules" ∈ xNs := xNs_1 (List.mem_of_getElem? (i := 46) (by decide +kernel)) rfl
theorem wd_1_48 : Cond.code ⟨"RosterRules$History", "<init>", "()V"⟩ prog_4_method_1_code 1 (none : Option FieldType) ∈ xTbl := xIn_1 (List.mem_of_getElem? (i := 48) rfl) rfl
theorem gi_History_init : GoodIn xTbl ws_History_init := xGI wd_1_48
theorem hi_History_init : y_History_init.cls ≠ "java/lang/invoke/MethodHandle" ∧ y_History_init.cls ≠ "java/lang/invoke/VarHandle" ∧ (parseMethodDescriptor y_History_init.desc).map (fun d => d.parameters.length) = some 0 := by decide +kernel
theorem wd_1_47 : Cond.instanceMethod ⟨"RosterRules$History", "<init>", "()V"⟩ ∈ xTbl := xIn_1 (List.mem_of_getElem? (i := 47) (by decide +kernel)) rfl
theorem lf_RR_19 : xLf "RosterRules" 19 11 3 (.object "RosterRules$History") := ⟨RC_11, TC_11, 9, yC_11, rfl, by decide, iC_11, wd_2_147, pC_11, nC_11, rfl, rfl, by decide +kernel⟩
theorem dv_1 : ∀ j, j < 9 → defaultValue (yC_1 j) = vp_V [.null, .null, .null, .null, .null, .null, .null, .null, .int 0] j := fun j hj => by rcases (show j = 0 ∨ j = 1 ∨ j = 2 ∨ j = 3 ∨ j = 4 ∨ j = 5 ∨ j = 6 ∨ j = 7 ∨ j = 8 by omega) with rfl | rfl | rfl | rfl | rfl | rfl | rfl | rfl | rfl <;> rfl
theorem wd_1_71 : Cond.classLink "RosterRules" 23 "RosterRules$AutomatonMaker" ∈ xTbl := xIn_1 (List.mem_of_getElem? (i := 71) (by decide +kernel)) rfl
theorem wd_1_72 : Cond.instantiable "RosterRules$AutomatonMaker" 9 ∈ xTbl := xIn_1 (List.mem_of_getElem? (i := 72) (by decide +kernel)) rfl
theorem nw_RR_23 : xNw "RosterRules" 23 1 9 [.null, .null, .null, .null, .null, .null, .null, .null, .int 0] := ⟨RC_1, TC_1, yC_1, rfl, iC_1, pC_1, dv_1, wd_1_71, wd_1_72, wd_1_4⟩
theorem wn_1_73 : Cond.methodLinkNest "RosterRules" 25 ⟨"RosterRules$AutomatonMaker", "<init>", "()V"⟩ "RosterRules" ∈ xNs := xNs_1 (List.mem_of_getElem? (i := 73) (by decide +kernel)) rfl
theorem wd_1_75 : Cond.code ⟨"RosterRules$AutomatonMaker", "<init>", "()V"⟩ prog_3_method_1_code 1 (none : Option FieldType) ∈ xTbl := xIn_1 (List.mem_of_getElem? (i := 75) rfl) rfl
theorem gi_AutomatonMaker_init : GoodIn xTbl ws_AutomatonMaker_init := xGI wd_1_75
theorem hi_AutomatonMaker_init : y_AutomatonMaker_init.cls ≠ "java/lang/invoke/MethodHandle" ∧ y_AutomatonMaker_init.cls ≠ "java/lang/invoke/VarHandle" ∧ (parseMethodDescriptor y_AutomatonMaker_init.desc).map (fun d => d.parameters.length) = some 0 := by decide +kernel
theorem wd_1_74 : Cond.instanceMethod ⟨"RosterRules$AutomatonMaker", "<init>", "()V"⟩ ∈ xTbl := xIn_1 (List.mem_of_getElem? (i := 74) (by decide +kernel)) rfl
theorem lf_RR_26 : xLf "RosterRules" 26 11 5 (.object "RosterRules$AutomatonMaker") := ⟨RC_11, TC_11, 9, yC_11, rfl, by decide, iC_11, wd_2_149, pC_11, nC_11, rfl, rfl, by decide +kernel⟩
theorem wd_1_106 : Cond.classLink "RosterRules" 30 "RosterRules$Law" ∈ xTbl := xIn_1 (List.mem_of_getElem? (i := 106) (by decide +kernel)) rfl
theorem dv_8 : ∀ j, j < 13 → defaultValue (yC_8 j) = vp_V [.int 0, .int 0, .null, .null, .null, .null, .null, .null, .null, .null, .null, .int 0, .int 0] j := fun j hj => by rcases (show j = 0 ∨ j = 1 ∨ j = 2 ∨ j = 3 ∨ j = 4 ∨ j = 5 ∨ j = 6 ∨ j = 7 ∨ j = 8 ∨ j = 9 ∨ j = 10 ∨ j = 11 ∨ j = 12 by omega) with rfl | rfl | rfl | rfl | rfl | rfl | rfl | rfl | rfl | rfl | rfl | rfl | rfl <;> rfl
theorem wd_1_108 : Cond.classLink "RosterRules" 39 "RosterRules$Roster" ∈ xTbl := xIn_1 (List.mem_of_getElem? (i := 108) (by decide +kernel)) rfl
theorem wd_1_109 : Cond.instantiable "RosterRules$Roster" 13 ∈ xTbl := xIn_1 (List.mem_of_getElem? (i := 109) (by decide +kernel)) rfl
theorem nw_RR_39 : xNw "RosterRules" 39 8 13 [.int 0, .int 0, .null, .null, .null, .null, .null, .null, .null, .null, .null, .int 0, .int 0] := ⟨RC_8, TC_8, yC_8, rfl, iC_8, pC_8, dv_8, wd_1_108, wd_1_109, wd_1_5⟩
theorem wd_1_110 : Cond.methodLink "RosterRules" 41 ⟨"java/lang/Math", "min", "(II)I"⟩ ∈ xTbl := xIn_1 (List.mem_of_getElem? (i := 110) (by decide +kernel)) rfl
theorem lm_RR_41 : xMn "RosterRules" 41 := ⟨wd_1_110, wd_1_111, wd_1_6, wd_1_112⟩
theorem wd_1_113 : Cond.methodLink "RosterRules" 47 ⟨"java/lang/Math", "max", "(II)I"⟩ ∈ xTbl := xIn_1 (List.mem_of_getElem? (i := 113) (by decide +kernel)) rfl
theorem lm_RR_47 : xMx "RosterRules" 47 := ⟨wd_1_113, wd_1_114, wd_1_6, wd_1_115⟩
theorem wd_1_118 : Cond.code ⟨"RosterRules$Roster", "<init>", "(II)V"⟩ prog_10_method_1_code 4 (none : Option FieldType) ∈ xTbl := xIn_1 (List.mem_of_getElem? (i := 118) rfl) rfl
theorem gi_Roster_init : GoodIn xTbl ws_Roster_init := xGI wd_1_118
theorem hi_Roster_init : y_Roster_init.cls ≠ "java/lang/invoke/MethodHandle" ∧ y_Roster_init.cls ≠ "java/lang/invoke/VarHandle" ∧ (parseMethodDescriptor y_Roster_init.desc).map (fun d => d.parameters.length) = some 2 := by decide +kernel
theorem wd_1_116 : Cond.methodLink "RosterRules" 50 ⟨"RosterRules$Roster", "<init>", "(II)V"⟩ ∈ xTbl := xIn_1 (List.mem_of_getElem? (i := 116) (by decide +kernel)) rfl
theorem wd_1_117 : Cond.instanceMethod ⟨"RosterRules$Roster", "<init>", "(II)V"⟩ ∈ xTbl := xIn_1 (List.mem_of_getElem? (i := 117) (by decide +kernel)) rfl
theorem lf_RR_53 : xLf "RosterRules" 53 11 1 (.object "RosterRules$Roster") := ⟨RC_11, TC_11, 9, yC_11, rfl, by decide, iC_11, wd_2_145, pC_11, nC_11, rfl, rfl, by decide +kernel⟩
theorem dv_3 : ∀ j, j < 1 → defaultValue (yC_3 j) = vp_V [.null] j := fun j hj => by rcases (show j = 0 by omega) with rfl <;> rfl
theorem wd_1_179 : Cond.classLink "RosterRules" 57 "RosterRules$Judge" ∈ xTbl := xIn_1 (List.mem_of_getElem? (i := 179) (by decide +kernel)) rfl
theorem wd_1_180 : Cond.instantiable "RosterRules$Judge" 1 ∈ xTbl := xIn_1 (List.mem_of_getElem? (i := 180) (by decide +kernel)) rfl
theorem nw_RR_57 : xNw "RosterRules" 57 3 1 [.null] := ⟨RC_3, TC_3, yC_3, rfl, iC_3, pC_3, dv_3, wd_1_179, wd_1_180, wd_1_7⟩
theorem wd_1_183 : Cond.code ⟨"RosterRules$Judge", "<init>", "(LRosterRules$Roster;)V"⟩ prog_5_method_1_code 2 (none : Option FieldType) ∈ xTbl := xIn_1 (List.mem_of_getElem? (i := 183) rfl) rfl
theorem gi_Judge_init : GoodIn xTbl ws_Judge_init := xGI wd_1_183
theorem hi_Judge_init : y_Judge_init.cls ≠ "java/lang/invoke/MethodHandle" ∧ y_Judge_init.cls ≠ "java/lang/invoke/VarHandle" ∧ (parseMethodDescriptor y_Judge_init.desc).map (fun d => d.parameters.length) = some 1 := by decide +kernel
theorem wd_1_181 : Cond.methodLink "RosterRules" 59 ⟨"RosterRules$Judge", "<init>", "(LRosterRules$Roster;)V"⟩ ∈ xTbl := xIn_1 (List.mem_of_getElem? (i := 181) (by decide +kernel)) rfl
theorem wd_1_182 : Cond.instanceMethod ⟨"RosterRules$Judge", "<init>", "(LRosterRules$Roster;)V"⟩ ∈ xTbl := xIn_1 (List.mem_of_getElem? (i := 182) (by decide +kernel)) rfl
theorem lf_RR_62 : xLf "RosterRules" 62 11 2 (.object "RosterRules$Judge") := ⟨RC_11, TC_11, 9, yC_11, rfl, by decide, iC_11, wd_2_146, pC_11, nC_11, rfl, rfl, by decide +kernel⟩
theorem dv_5 : ∀ j, j < 5 → defaultValue (yC_5 j) = vp_V [.null, .null, .int 0, .int 0, .int 0] j := fun j hj => by rcases (show j = 0 ∨ j = 1 ∨ j = 2 ∨ j = 3 ∨ j = 4 by omega) with rfl | rfl | rfl | rfl | rfl <;> rfl
theorem wd_1_189 : Cond.classLink "RosterRules" 66 "RosterRules$LawReader" ∈ xTbl := xIn_1 (List.mem_of_getElem? (i := 189) (by decide +kernel)) rfl
theorem wd_1_190 : Cond.instantiable "RosterRules$LawReader" 5 ∈ xTbl := xIn_1 (List.mem_of_getElem? (i := 190) (by decide +kernel)) rfl
theorem nw_RR_66 : xNw "RosterRules" 66 5 5 [.null, .null, .int 0, .int 0, .int 0] := ⟨RC_5, TC_5, yC_5, rfl, iC_5, pC_5, dv_5, wd_1_189, wd_1_190, wd_1_8⟩
theorem wd_1_193 : Cond.code ⟨"RosterRules$LawReader", "<init>", "(LRosterRules$Tape;I)V"⟩ prog_7_method_1_code 3 (none : Option FieldType) ∈ xTbl := xIn_1 (List.mem_of_getElem? (i := 193) rfl) rfl
theorem gi_LawReader_init : GoodIn xTbl ws_LawReader_init := xGI wd_1_193
theorem hi_LawReader_init : y_LawReader_init.cls ≠ "java/lang/invoke/MethodHandle" ∧ y_LawReader_init.cls ≠ "java/lang/invoke/VarHandle" ∧ (parseMethodDescriptor y_LawReader_init.desc).map (fun d => d.parameters.length) = some 2 := by decide +kernel
theorem wd_1_191 : Cond.methodLink "RosterRules" 72 ⟨"RosterRules$LawReader", "<init>", "(LRosterRules$Tape;I)V"⟩ ∈ xTbl := xIn_1 (List.mem_of_getElem? (i := 191) (by decide +kernel)) rfl
theorem wd_1_192 : Cond.instanceMethod ⟨"RosterRules$LawReader", "<init>", "(LRosterRules$Tape;I)V"⟩ ∈ xTbl := xIn_1 (List.mem_of_getElem? (i := 192) (by decide +kernel)) rfl
theorem lf_RR_75 : xLf "RosterRules" 75 11 4 (.object "RosterRules$LawReader") := ⟨RC_11, TC_11, 9, yC_11, rfl, by decide, iC_11, wd_2_148, pC_11, nC_11, rfl, rfl, by decide +kernel⟩
theorem dv_4 : ∀ j, j < 9 → defaultValue (yC_4 j) = vp_V [.null, .null, .int 0, .int 0, .int 0, .int 0, .int 0, .int 0, .int 0] j := fun j hj => by rcases (show j = 0 ∨ j = 1 ∨ j = 2 ∨ j = 3 ∨ j = 4 ∨ j = 5 ∨ j = 6 ∨ j = 7 ∨ j = 8 by omega) with rfl | rfl | rfl | rfl | rfl | rfl | rfl | rfl | rfl <;> rfl
theorem wd_2_38 : Cond.instantiable "RosterRules$Law" 9 ∈ xTbl := xIn_2 (List.mem_of_getElem? (i := 38) (by decide +kernel)) rfl
theorem nw_RR_30 : xNw "RosterRules" 30 4 9 [.null, .null, .int 0, .int 0, .int 0, .int 0, .int 0, .int 0, .int 0] := ⟨RC_4, TC_4, yC_4, rfl, iC_4, pC_4, dv_4, wd_1_106, wd_2_38, wd_1_11⟩
theorem wn_2_39 : Cond.methodLinkNest "RosterRules" 79 ⟨"RosterRules$Law", "<init>", "()V"⟩ "RosterRules" ∈ xNs := xNs_2 (List.mem_of_getElem? (i := 39) (by decide +kernel)) rfl
theorem wd_2_41 : Cond.code ⟨"RosterRules$Law", "<init>", "()V"⟩ prog_6_method_1_code 1 (none : Option FieldType) ∈ xTbl := xIn_2 (List.mem_of_getElem? (i := 41) rfl) rfl
theorem gi_Law_init : GoodIn xTbl ws_Law_init := xGI wd_2_41
theorem hi_Law_init : y_Law_init.cls ≠ "java/lang/invoke/MethodHandle" ∧ y_Law_init.cls ≠ "java/lang/invoke/VarHandle" ∧ (parseMethodDescriptor y_Law_init.desc).map (fun d => d.parameters.length) = some 0 := by decide +kernel
theorem wd_2_40 : Cond.instanceMethod ⟨"RosterRules$Law", "<init>", "()V"⟩ ∈ xTbl := xIn_2 (List.mem_of_getElem? (i := 40) (by decide +kernel)) rfl
def y_RR_init : MethodName := ⟨"RosterRules", "<init>", "(II)V"⟩
abbrev b_RR_init : ByteArray := prog_1_method_1_code
def ws_RR_init : List Cond := Cond.code y_RR_init b_RR_init 4 none :: xTbl
theorem d_RR_init_0 : decode b_RR_init 0 = .ok (.aload_n 0, 1) := by decide +kernel
theorem d_RR_init_1 : decode b_RR_init 1 = .ok (.invokespecial 1, 3) := by decide +kernel
theorem d_RR_init_4 : decode b_RR_init 4 = .ok (.aload_n 0, 1) := by decide +kernel
theorem d_RR_init_5 : decode b_RR_init 5 = .ok (.new 7, 3) := by decide +kernel
theorem d_RR_init_8 : decode b_RR_init 8 = .ok (.dup, 1) := by decide +kernel
theorem d_RR_init_9 : decode b_RR_init 9 = .ok (.invokespecial 9, 3) := by decide +kernel
theorem d_RR_init_12 : decode b_RR_init 12 = .ok (.putfield 10, 3) := by decide +kernel
theorem d_RR_init_15 : decode b_RR_init 15 = .ok (.aload_n 0, 1) := by decide +kernel
theorem d_RR_init_16 : decode b_RR_init 16 = .ok (.new 16, 3) := by decide +kernel
theorem d_RR_init_19 : decode b_RR_init 19 = .ok (.dup, 1) := by decide +kernel
theorem d_RR_init_20 : decode b_RR_init 20 = .ok (.invokespecial 18, 3) := by decide +kernel
theorem d_RR_init_23 : decode b_RR_init 23 = .ok (.putfield 19, 3) := by decide +kernel
theorem d_RR_init_26 : decode b_RR_init 26 = .ok (.aload_n 0, 1) := by decide +kernel
theorem d_RR_init_27 : decode b_RR_init 27 = .ok (.new 23, 3) := by decide +kernel
theorem d_RR_init_30 : decode b_RR_init 30 = .ok (.dup, 1) := by decide +kernel
theorem d_RR_init_31 : decode b_RR_init 31 = .ok (.invokespecial 25, 3) := by decide +kernel
theorem d_RR_init_34 : decode b_RR_init 34 = .ok (.putfield 26, 3) := by decide +kernel
theorem d_RR_init_37 : decode b_RR_init 37 = .ok (.aload_n 0, 1) := by decide +kernel
theorem d_RR_init_38 : decode b_RR_init 38 = .ok (.bipush 16, 2) := by decide +kernel
theorem d_RR_init_40 : decode b_RR_init 40 = .ok (.anewarray 30, 3) := by decide +kernel
theorem d_RR_init_43 : decode b_RR_init 43 = .ok (.putfield 32, 3) := by decide +kernel
theorem d_RR_init_46 : decode b_RR_init 46 = .ok (.aload_n 0, 1) := by decide +kernel
theorem d_RR_init_47 : decode b_RR_init 47 = .ok (.bipush 16, 2) := by decide +kernel
theorem d_RR_init_49 : decode b_RR_init 49 = .ok (.anewarray 30, 3) := by decide +kernel
theorem d_RR_init_52 : decode b_RR_init 52 = .ok (.putfield 36, 3) := by decide +kernel
theorem d_RR_init_55 : decode b_RR_init 55 = .ok (.aload_n 0, 1) := by decide +kernel
theorem d_RR_init_56 : decode b_RR_init 56 = .ok (.new 39, 3) := by decide +kernel
theorem d_RR_init_59 : decode b_RR_init 59 = .ok (.dup, 1) := by decide +kernel
theorem d_RR_init_60 : decode b_RR_init 60 = .ok (.iconst 1, 1) := by decide +kernel
theorem d_RR_init_61 : decode b_RR_init 61 = .ok (.bipush 8, 2) := by decide +kernel
theorem d_RR_init_63 : decode b_RR_init 63 = .ok (.iload_n 1, 1) := by decide +kernel
theorem d_RR_init_64 : decode b_RR_init 64 = .ok (.invokestatic 41, 3) := by decide +kernel
theorem d_RR_init_67 : decode b_RR_init 67 = .ok (.invokestatic 47, 3) := by decide +kernel
theorem d_RR_init_70 : decode b_RR_init 70 = .ok (.iconst 1, 1) := by decide +kernel
theorem d_RR_init_71 : decode b_RR_init 71 = .ok (.bipush 21, 2) := by decide +kernel
theorem d_RR_init_73 : decode b_RR_init 73 = .ok (.iload_n 2, 1) := by decide +kernel
theorem d_RR_init_74 : decode b_RR_init 74 = .ok (.invokestatic 41, 3) := by decide +kernel
theorem d_RR_init_77 : decode b_RR_init 77 = .ok (.invokestatic 47, 3) := by decide +kernel
theorem d_RR_init_80 : decode b_RR_init 80 = .ok (.invokespecial 50, 3) := by decide +kernel
theorem d_RR_init_83 : decode b_RR_init 83 = .ok (.putfield 53, 3) := by decide +kernel
theorem d_RR_init_86 : decode b_RR_init 86 = .ok (.aload_n 0, 1) := by decide +kernel
theorem d_RR_init_87 : decode b_RR_init 87 = .ok (.new 57, 3) := by decide +kernel
theorem d_RR_init_90 : decode b_RR_init 90 = .ok (.dup, 1) := by decide +kernel
theorem d_RR_init_91 : decode b_RR_init 91 = .ok (.aload_n 0, 1) := by decide +kernel
theorem d_RR_init_92 : decode b_RR_init 92 = .ok (.getfield 53, 3) := by decide +kernel
theorem d_RR_init_95 : decode b_RR_init 95 = .ok (.invokespecial 59, 3) := by decide +kernel
theorem d_RR_init_98 : decode b_RR_init 98 = .ok (.putfield 62, 3) := by decide +kernel
theorem d_RR_init_101 : decode b_RR_init 101 = .ok (.aload_n 0, 1) := by decide +kernel
theorem d_RR_init_102 : decode b_RR_init 102 = .ok (.new 66, 3) := by decide +kernel
theorem d_RR_init_105 : decode b_RR_init 105 = .ok (.dup, 1) := by decide +kernel
theorem d_RR_init_106 : decode b_RR_init 106 = .ok (.aload_n 0, 1) := by decide +kernel
theorem d_RR_init_107 : decode b_RR_init 107 = .ok (.getfield 10, 3) := by decide +kernel
theorem d_RR_init_110 : decode b_RR_init 110 = .ok (.aload_n 0, 1) := by decide +kernel
theorem d_RR_init_111 : decode b_RR_init 111 = .ok (.getfield 53, 3) := by decide +kernel
theorem d_RR_init_114 : decode b_RR_init 114 = .ok (.getfield 68, 3) := by decide +kernel
theorem d_RR_init_117 : decode b_RR_init 117 = .ok (.invokespecial 72, 3) := by decide +kernel
theorem d_RR_init_120 : decode b_RR_init 120 = .ok (.putfield 75, 3) := by decide +kernel
theorem d_RR_init_123 : decode b_RR_init 123 = .ok (.iconst 0, 1) := by decide +kernel
theorem d_RR_init_124 : decode b_RR_init 124 = .ok (.istore_n 3, 1) := by decide +kernel
theorem d_RR_init_125 : decode b_RR_init 125 = .ok (.iload_n 3, 1) := by decide +kernel
theorem d_RR_init_126 : decode b_RR_init 126 = .ok (.bipush 16, 2) := by decide +kernel
theorem d_RR_init_128 : decode b_RR_init 128 = .ok (.if_icmp .ge 35, 3) := by decide +kernel
theorem d_RR_init_131 : decode b_RR_init 131 = .ok (.aload_n 0, 1) := by decide +kernel
theorem d_RR_init_132 : decode b_RR_init 132 = .ok (.getfield 32, 3) := by decide +kernel
theorem d_RR_init_135 : decode b_RR_init 135 = .ok (.iload_n 3, 1) := by decide +kernel
theorem d_RR_init_136 : decode b_RR_init 136 = .ok (.new 30, 3) := by decide +kernel
theorem d_RR_init_139 : decode b_RR_init 139 = .ok (.dup, 1) := by decide +kernel
theorem d_RR_init_140 : decode b_RR_init 140 = .ok (.invokespecial 79, 3) := by decide +kernel
theorem d_RR_init_143 : decode b_RR_init 143 = .ok (.aastore, 1) := by decide +kernel
theorem d_RR_init_144 : decode b_RR_init 144 = .ok (.aload_n 0, 1) := by decide +kernel
theorem d_RR_init_145 : decode b_RR_init 145 = .ok (.getfield 36, 3) := by decide +kernel
theorem d_RR_init_148 : decode b_RR_init 148 = .ok (.iload_n 3, 1) := by decide +kernel
theorem d_RR_init_149 : decode b_RR_init 149 = .ok (.new 30, 3) := by decide +kernel
theorem d_RR_init_152 : decode b_RR_init 152 = .ok (.dup, 1) := by decide +kernel
theorem d_RR_init_153 : decode b_RR_init 153 = .ok (.invokespecial 79, 3) := by decide +kernel
theorem d_RR_init_156 : decode b_RR_init 156 = .ok (.aastore, 1) := by decide +kernel
theorem d_RR_init_157 : decode b_RR_init 157 = .ok (.iinc 3 1, 3) := by decide +kernel
theorem d_RR_init_160 : decode b_RR_init 160 = .ok (.goto (-35), 3) := by decide +kernel
theorem d_RR_init_163 : decode b_RR_init 163 = .ok (.return_, 1) := by decide +kernel
def f_RR_init_125 : Nat → Nat → Int32 → Nat → xS → Option (Nat × xS)
  | 0, _, _, _, _ => none
  | n + 1, a0, x3, z, ω =>
    if 16 ≤ x3 then (some (z, ω))
    else (
      (xgr ω a0 11 6).bind fun t1 =>
      xl (xu ω z (.inr (4, [.null, .null, .int 0, .int 0, .int 0, .int 0, .int 0, .int 0, .int 0]))) fun w2 =>
      (f_Law_init z (z + 1) w2).bind fun w3 =>
      (xsr w3 3 4 t1 x3 z).bind fun w5 =>
      (xgr w5 a0 11 7).bind fun t6 =>
      xl (xu w5 (z + 8) (.inr (4, [.null, .null, .int 0, .int 0, .int 0, .int 0, .int 0, .int 0, .int 0]))) fun w7 =>
      (f_Law_init (z + 8) (z + 9) w7).bind fun w8 =>
      (xsr w8 3 4 t6 x3 (z + 8)).bind fun w10 =>
      f_RR_init_125 n a0 (x3 + 1) (z + 16) w10)
set_option maxHeartbeats 4000000 in
set_option maxRecDepth 100000 in
theorem w_RR_init_125 {p : Program} {l : Launch} {e : Env} {s : State} {m : MethodId} {args : Array Value} {below : List Frame} {meth : Method} {c : Code} {E : xV} {z1 CT ST : Nat} {ω1 : xS} (S : CallFix p m c b_RR_init 4 s args xTbl "RosterRules") (hr : meth.sig.returnType = none) (hlocks : meth.locks = false) (hin : meth.name = "<init>") : ∀ (n k a0 z : Nat) (ω : xS) (cc0 uu0 : Nat) (H : Heap) (locs : List Loc) (ls : Array Slot), k ≤ 16 → cc0 + 16 * (16 - k) = CT → uu0 + 206 * (16 - k) = ST → xW E z ω s s.heap H locs → lv_has ls 4 [(0, .ref a0), (3, .int (nI k))] → f_RR_init_125 n a0 (nI k) z ω = some (z1, ω1) → W p l e (headSpec ws_RR_init { frames := 3, cells := CT, slots := ST, locals := 63 }).room s m args below meth c H locs cc0 uu0 (MQ below (xQ E none z1 ω1) args s CT ST (fun q => E.2.2 ≤ q)) (F0 m 125 ls []) := by
  intro n
  induction n with
  | zero =>
    intro k a0 z ω cc0 uu0 H locs ls hk hc hu hw hl hf
    have h2 : (none : Option (Nat × xS)) = some (z1, ω1) := hf
    cases h2
  | succ n ih =>
    intro k a0 z ω cc0 uu0 H locs ls hk hc hu hw hl hf
    rw [f_RR_init_125] at hf
    refine lv_iload_n S.1 S.2.1 d_RR_init_125 rfl (lv_at hl 1 rfl) ?_
    refine lv_bipush (v := 16) S.1 S.2.1 d_RR_init_126 (by decide) ?_
    refine lv_icmp_ge (tgt := 163) S.1 S.2.1 d_RR_init_128 (by decide) (fun c1 => ?_) (fun c1 => ?_)
    · replace hf := xt c1 hf
      have hk16 : 16 ≤ k := (nI_leI (a := 16) (b := k) (by omega) (by omega)).mp c1
      have hc2 : cc0 = CT := by omega
      have hu2 : uu0 = ST := by omega
      subst hc2
      subst hu2
      obtain ⟨rfl, rfl⟩ := xe2 hf
      exact x_vret S hr hlocks hw d_RR_init_163
    · replace hf := xf c1 hf
      have hk15 : k < 16 := by
        rcases Nat.lt_or_ge k 16 with q | q
        · exact q
        · exact absurd ((nI_leI (a := 16) (b := k) (by omega) (by omega)).mpr q) c1
      refine lv_aload_n S.1 S.2.1 d_RR_init_131 rfl (lv_at hl 0 rfl) ?_
      obtain ⟨t1, ht1, hf⟩ := xb hf
      refine x_getr S hw lk_RR_32 ht1 d_RR_init_132 ?_
      refine lv_iload_n S.1 S.2.1 d_RR_init_135 rfl (lv_at hl 1 rfl) ?_
      obtain ⟨w2, hw2, hf⟩ := xlb hf
      refine x_new S hw nw_RR_30 hw2 (show _ ≤ CT by (try dsimp only); omega) (show _ ≤ ST by (try dsimp only); omega) d_RR_init_136 (fun H hw => ?_)
      refine W.widen (k := (1 + cc0)) (n := (9 + uu0)) (by (try dsimp only); omega) (by (try dsimp only); omega) ?_
      refine lv_dup S.1 S.2.1 d_RR_init_139 rfl ?_
      obtain ⟨w3, h4, hf⟩ := xb hf
      refine x_callIN (As := []) (rest := [.ref z, .int (nI k), .ref t1]) S hw (c_Law_init h4) ⟨va_cnB (host := "RosterRules") 0 S.2.2.2.2 gi_Law_init rfl rfl rfl (hw.1.2.2.1 _ wn_2_39) (S.2.2.2.2 _ wd_1_11) hi_Law_init ⟨Nat.le_of_ble_eq_true rfl, Nat.le_of_ble_eq_true rfl⟩, rfl, S.2.2.2.2 _ wd_2_40⟩ rfl hl.1 rfl (Nat.le_of_ble_eq_true rfl) d_RR_init_140 ⟨(show _ ≤ CT by (try dsimp only); omega), (show _ ≤ ST by (try dsimp only); omega)⟩ (fun H locs hw => ?_)
      refine W.widen (k := (8 + cc0)) (n := (103 + uu0)) (by (try dsimp only); omega) (by (try dsimp only); omega) ?_
      obtain ⟨w5, hw5, hf⟩ := xb hf
      refine x_aast S hw (t := 3) rfl rfl hw5 d_RR_init_143 (fun H locs hw => ?_)
      refine lv_aload_n S.1 S.2.1 d_RR_init_144 rfl (lv_at hl 0 rfl) ?_
      obtain ⟨t6, ht6, hf⟩ := xb hf
      refine x_getr S hw lk_RR_36 ht6 d_RR_init_145 ?_
      refine lv_iload_n S.1 S.2.1 d_RR_init_148 rfl (lv_at hl 1 rfl) ?_
      obtain ⟨w7, hw7, hf⟩ := xlb hf
      refine x_new S hw nw_RR_30 hw7 (show _ ≤ CT by (try dsimp only); omega) (show _ ≤ ST by (try dsimp only); omega) d_RR_init_149 (fun H hw => ?_)
      refine W.widen (k := (9 + cc0)) (n := (112 + uu0)) (by (try dsimp only); omega) (by (try dsimp only); omega) ?_
      refine lv_dup S.1 S.2.1 d_RR_init_152 rfl ?_
      obtain ⟨w8, h9, hf⟩ := xb hf
      refine x_callIN (As := []) (rest := [.ref (z + 8), .int (nI k), .ref t6]) S hw (c_Law_init h9) ⟨va_cnB (host := "RosterRules") 0 S.2.2.2.2 gi_Law_init rfl rfl rfl (hw.1.2.2.1 _ wn_2_39) (S.2.2.2.2 _ wd_1_11) hi_Law_init ⟨Nat.le_of_ble_eq_true rfl, Nat.le_of_ble_eq_true rfl⟩, rfl, S.2.2.2.2 _ wd_2_40⟩ rfl hl.1 rfl (Nat.le_of_ble_eq_true rfl) d_RR_init_153 ⟨(show _ ≤ CT by (try dsimp only); omega), (show _ ≤ ST by (try dsimp only); omega)⟩ (fun H locs hw => ?_)
      refine W.widen (k := (16 + cc0)) (n := (206 + uu0)) (by (try dsimp only); omega) (by (try dsimp only); omega) ?_
      obtain ⟨w10, hw10, hf⟩ := xb hf
      refine x_aast S hw (t := 3) rfl rfl hw10 d_RR_init_156 (fun H locs hw => ?_)
      refine lv_iinc (v := ((nI k) + 1)) (lv' := [(3, .int ((nI k) + 1)), (0, .ref a0)]) S.1 S.2.1 d_RR_init_157 hl (k := 1) rfl rfl (by decide) rfl (fun ls hl => ?_)
      refine lv_goto (tgt := 125) S.1 S.2.1 d_RR_init_160 (by decide) ?_
      rw [nI_1] at hl hf
      exact ih (k + 1) _ _ _ _ _ _ _ _ (by omega) (by (try dsimp only); omega) (by (try dsimp only); omega) hw (lv_sub hl [1, 0] rfl) hf
def f_RR_init (a0 : Nat) (x1 : Int32) (x2 : Int32) (z : Nat) (ω : xS) : Option (Nat × xS) :=
  xl (xu ω z (.inr (9, [.null, .int 0]))) fun w1 =>
  (f_Tape_init z (z + 1) w1).bind fun w2 =>
  (xp w2 a0 11 0 (.ref z)).bind fun w4 =>
  xl (xu w4 (z + 2) (.inr (2, [.null, .null, .null, .int 0, .int 0]))) fun w5 =>
  (f_History_init (z + 2) (z + 3) w5).bind fun w6 =>
  (xp w6 a0 11 3 (.ref (z + 2))).bind fun w8 =>
  xl (xu w8 (z + 6) (.inr (1, [.null, .null, .null, .null, .null, .null, .null, .null, .int 0]))) fun w9 =>
  (f_AutomatonMaker_init (z + 6) (z + 7) w9).bind fun w10 =>
  (xp w10 a0 11 5 (.ref (z + 6))).bind fun w12 =>
  xl (xu w12 (z + 15) (.inl (3, 16, .inr (.inr (.inr (.inr (fun _ => none))))))) fun w13 =>
  (xp w13 a0 11 6 (.ref (z + 15))).bind fun w14 =>
  xl (xu w14 (z + 16) (.inl (3, 16, .inr (.inr (.inr (.inr (fun _ => none))))))) fun w15 =>
  (xp w15 a0 11 7 (.ref (z + 16))).bind fun w16 =>
  xl (xu w16 (z + 17) (.inr (8, [.int 0, .int 0, .null, .null, .null, .null, .null, .null, .null, .null, .null, .int 0, .int 0]))) fun w17 =>
  (f_Roster_init (z + 17) (xmax 1 (xmin 8 x1)) (xmax 1 (xmin 21 x2)) (z + 18) w17).bind fun w18 =>
  (xp w18 a0 11 1 (.ref (z + 17))).bind fun w20 =>
  xl (xu w20 (((((((z + 18) + 4) + 1 + (xmax 1 (xmin 8 x1)).toNatClampNeg) + 1 + (xmax 1 (xmin 8 x1)).toNatClampNeg) + 1 + (xmax 1 (xmin 8 x1)).toNatClampNeg) + 1 + (xmax 1 (xmin 8 x1)).toNatClampNeg) + 1 + (xmax 1 (xmin 21 x2)).toNatClampNeg) (.inr (3, [.null]))) fun w21 =>
  (xgr w21 a0 11 1).bind fun t22 =>
  (f_Judge_init (((((((z + 18) + 4) + 1 + (xmax 1 (xmin 8 x1)).toNatClampNeg) + 1 + (xmax 1 (xmin 8 x1)).toNatClampNeg) + 1 + (xmax 1 (xmin 8 x1)).toNatClampNeg) + 1 + (xmax 1 (xmin 8 x1)).toNatClampNeg) + 1 + (xmax 1 (xmin 21 x2)).toNatClampNeg) t22 w21).bind fun w23 =>
  (xp w23 a0 11 2 (.ref (((((((z + 18) + 4) + 1 + (xmax 1 (xmin 8 x1)).toNatClampNeg) + 1 + (xmax 1 (xmin 8 x1)).toNatClampNeg) + 1 + (xmax 1 (xmin 8 x1)).toNatClampNeg) + 1 + (xmax 1 (xmin 8 x1)).toNatClampNeg) + 1 + (xmax 1 (xmin 21 x2)).toNatClampNeg))).bind fun w25 =>
  xl (xu w25 ((((((((z + 18) + 4) + 1 + (xmax 1 (xmin 8 x1)).toNatClampNeg) + 1 + (xmax 1 (xmin 8 x1)).toNatClampNeg) + 1 + (xmax 1 (xmin 8 x1)).toNatClampNeg) + 1 + (xmax 1 (xmin 8 x1)).toNatClampNeg) + 1 + (xmax 1 (xmin 21 x2)).toNatClampNeg) + 1) (.inr (5, [.null, .null, .int 0, .int 0, .int 0]))) fun w26 =>
  (xgr w26 a0 11 0).bind fun t27 =>
  (xgr w26 a0 11 1).bind fun t28 =>
  (xgi w26 t28 8 1).bind fun t29 =>
  (f_LawReader_init ((((((((z + 18) + 4) + 1 + (xmax 1 (xmin 8 x1)).toNatClampNeg) + 1 + (xmax 1 (xmin 8 x1)).toNatClampNeg) + 1 + (xmax 1 (xmin 8 x1)).toNatClampNeg) + 1 + (xmax 1 (xmin 8 x1)).toNatClampNeg) + 1 + (xmax 1 (xmin 21 x2)).toNatClampNeg) + 1) t27 t29 ((((((((z + 18) + 4) + 1 + (xmax 1 (xmin 8 x1)).toNatClampNeg) + 1 + (xmax 1 (xmin 8 x1)).toNatClampNeg) + 1 + (xmax 1 (xmin 8 x1)).toNatClampNeg) + 1 + (xmax 1 (xmin 8 x1)).toNatClampNeg) + 1 + (xmax 1 (xmin 21 x2)).toNatClampNeg) + 2) w26).bind fun w30 =>
  (xp w30 a0 11 4 (.ref ((((((((z + 18) + 4) + 1 + (xmax 1 (xmin 8 x1)).toNatClampNeg) + 1 + (xmax 1 (xmin 8 x1)).toNatClampNeg) + 1 + (xmax 1 (xmin 8 x1)).toNatClampNeg) + 1 + (xmax 1 (xmin 8 x1)).toNatClampNeg) + 1 + (xmax 1 (xmin 21 x2)).toNatClampNeg) + 1))).bind fun w32 =>
  f_RR_init_125 xFU a0 0 ((((((((z + 18) + 4) + 1 + (xmax 1 (xmin 8 x1)).toNatClampNeg) + 1 + (xmax 1 (xmin 8 x1)).toNatClampNeg) + 1 + (xmax 1 (xmin 8 x1)).toNatClampNeg) + 1 + (xmax 1 (xmin 8 x1)).toNatClampNeg) + 1 + (xmax 1 (xmin 21 x2)).toNatClampNeg) + 7) w32
set_option maxHeartbeats 4000000 in
set_option maxRecDepth 100000 in
theorem c_RR_init {l : Launch} {E : xV} {z z1 a0 : Nat} {x1 x2 : Int32} {ω ω1 : xS} (hf : f_RR_init a0 x1 x2 z ω = some (z1, ω1)) : xM l E y_RR_init ws_RR_init { frames := 3, cells := ((25 + (4 + (1 + (xmax 1 (xmin 8 x1)).toNatClampNeg) + (1 + (xmax 1 (xmin 8 x1)).toNatClampNeg) + (1 + (xmax 1 (xmin 8 x1)).toNatClampNeg) + (1 + (xmax 1 (xmin 8 x1)).toNatClampNeg) + (1 + (xmax 1 (xmin 21 x2)).toNatClampNeg))) + 256), slots := ((19729 + (27 + (xmax 1 (xmin 8 x1)).toNatClampNeg + ((xmax 1 (xmin 8 x1)).toNatClampNeg + (xmax 1 (xmin 8 x1)).toNatClampNeg * (7 + (xmax 1 (xmin 21 x2))).toNatClampNeg) + ((xmax 1 (xmin 8 x1)).toNatClampNeg + (xmax 1 (xmin 8 x1)).toNatClampNeg * (xmax 1 (xmin 21 x2)).toNatClampNeg) + ((xmax 1 (xmin 8 x1)).toNatClampNeg + (xmax 1 (xmin 8 x1)).toNatClampNeg * (xmax 1 (xmin 21 x2)).toNatClampNeg) + ((xmax 1 (xmin 8 x1)).toNatClampNeg + (xmax 1 (xmin 8 x1)).toNatClampNeg * 9) + ((xmax 1 (xmin 21 x2)).toNatClampNeg + (xmax 1 (xmin 21 x2)).toNatClampNeg * 9))) + 3296), locals := 63 } [.ref a0, .int x1, .int x2] z ω none z1 ω1 := by
  refine x_start (cc := b_RR_init) (maxL := 4) (ret := none) (by decide) rfl (Nat.le_of_ble_eq_true rfl) ?_
  intro p e s m below meth c S hr hlocks hin ls hl hw
  have hl : lv_has ls 4 [(0, .ref a0), (1, .int x1), (2, .int x2)] := hl
  have hin := hin rfl
  unfold f_RR_init at hf
  refine lv_aload_n S.1 S.2.1 d_RR_init_0 rfl (lv_at hl 0 rfl) ?_
  refine x_obj S hl.1 ob_RR_1 d_RR_init_1 (Nat.le_of_ble_eq_true rfl) (Nat.le_of_ble_eq_true rfl) ?_
  refine lv_aload_n S.1 S.2.1 d_RR_init_4 rfl (lv_at hl 0 rfl) ?_
  obtain ⟨w1, hw1, hf⟩ := xlb hf
  refine x_new S hw nw_RR_7 hw1 (show _ ≤ ((25 + (4 + (1 + (xmax 1 (xmin 8 x1)).toNatClampNeg) + (1 + (xmax 1 (xmin 8 x1)).toNatClampNeg) + (1 + (xmax 1 (xmin 8 x1)).toNatClampNeg) + (1 + (xmax 1 (xmin 8 x1)).toNatClampNeg) + (1 + (xmax 1 (xmin 21 x2)).toNatClampNeg))) + 256) by (try dsimp only); omega) (show _ ≤ ((19729 + (27 + (xmax 1 (xmin 8 x1)).toNatClampNeg + ((xmax 1 (xmin 8 x1)).toNatClampNeg + (xmax 1 (xmin 8 x1)).toNatClampNeg * (7 + (xmax 1 (xmin 21 x2))).toNatClampNeg) + ((xmax 1 (xmin 8 x1)).toNatClampNeg + (xmax 1 (xmin 8 x1)).toNatClampNeg * (xmax 1 (xmin 21 x2)).toNatClampNeg) + ((xmax 1 (xmin 8 x1)).toNatClampNeg + (xmax 1 (xmin 8 x1)).toNatClampNeg * (xmax 1 (xmin 21 x2)).toNatClampNeg) + ((xmax 1 (xmin 8 x1)).toNatClampNeg + (xmax 1 (xmin 8 x1)).toNatClampNeg * 9) + ((xmax 1 (xmin 21 x2)).toNatClampNeg + (xmax 1 (xmin 21 x2)).toNatClampNeg * 9))) + 3296) by (try dsimp only); omega) d_RR_init_5 (fun H hw => ?_)
  refine W.widen (k := 1) (n := 2) (by (try dsimp only); omega) (by (try dsimp only); omega) ?_
  refine lv_dup S.1 S.2.1 d_RR_init_8 rfl ?_
  obtain ⟨w2, h3, hf⟩ := xb hf
  refine x_callIN (As := []) (rest := [.ref z, .ref a0]) S hw (c_Tape_init h3) ⟨va_cnB (host := "RosterRules") 0 S.2.2.2.2 gi_Tape_init rfl rfl rfl (hw.1.2.2.1 _ wn_1_29) (S.2.2.2.2 _ wd_1_2) hi_Tape_init ⟨Nat.le_of_ble_eq_true rfl, Nat.le_of_ble_eq_true rfl⟩, rfl, S.2.2.2.2 _ wd_1_30⟩ rfl hl.1 rfl (Nat.le_of_ble_eq_true rfl) d_RR_init_9 ⟨(show _ ≤ ((25 + (4 + (1 + (xmax 1 (xmin 8 x1)).toNatClampNeg) + (1 + (xmax 1 (xmin 8 x1)).toNatClampNeg) + (1 + (xmax 1 (xmin 8 x1)).toNatClampNeg) + (1 + (xmax 1 (xmin 8 x1)).toNatClampNeg) + (1 + (xmax 1 (xmin 21 x2)).toNatClampNeg))) + 256) by (try dsimp only); omega), (show _ ≤ ((19729 + (27 + (xmax 1 (xmin 8 x1)).toNatClampNeg + ((xmax 1 (xmin 8 x1)).toNatClampNeg + (xmax 1 (xmin 8 x1)).toNatClampNeg * (7 + (xmax 1 (xmin 21 x2))).toNatClampNeg) + ((xmax 1 (xmin 8 x1)).toNatClampNeg + (xmax 1 (xmin 8 x1)).toNatClampNeg * (xmax 1 (xmin 21 x2)).toNatClampNeg) + ((xmax 1 (xmin 8 x1)).toNatClampNeg + (xmax 1 (xmin 8 x1)).toNatClampNeg * (xmax 1 (xmin 21 x2)).toNatClampNeg) + ((xmax 1 (xmin 8 x1)).toNatClampNeg + (xmax 1 (xmin 8 x1)).toNatClampNeg * 9) + ((xmax 1 (xmin 21 x2)).toNatClampNeg + (xmax 1 (xmin 21 x2)).toNatClampNeg * 9))) + 3296) by (try dsimp only); omega)⟩ (fun H locs hw => ?_)
  refine W.widen (k := 2) (n := 1502) (by (try dsimp only); omega) (by (try dsimp only); omega) ?_
  obtain ⟨w4, hw4, hf⟩ := xb hf
  refine x_putF S hin hw lf_RR_10 rfl rfl hw4 d_RR_init_12 (fun H locs hw => ?_)
  refine lv_aload_n S.1 S.2.1 d_RR_init_15 rfl (lv_at hl 0 rfl) ?_
  obtain ⟨w5, hw5, hf⟩ := xlb hf
  refine x_new S hw nw_RR_16 hw5 (show _ ≤ ((25 + (4 + (1 + (xmax 1 (xmin 8 x1)).toNatClampNeg) + (1 + (xmax 1 (xmin 8 x1)).toNatClampNeg) + (1 + (xmax 1 (xmin 8 x1)).toNatClampNeg) + (1 + (xmax 1 (xmin 8 x1)).toNatClampNeg) + (1 + (xmax 1 (xmin 21 x2)).toNatClampNeg))) + 256) by (try dsimp only); omega) (show _ ≤ ((19729 + (27 + (xmax 1 (xmin 8 x1)).toNatClampNeg + ((xmax 1 (xmin 8 x1)).toNatClampNeg + (xmax 1 (xmin 8 x1)).toNatClampNeg * (7 + (xmax 1 (xmin 21 x2))).toNatClampNeg) + ((xmax 1 (xmin 8 x1)).toNatClampNeg + (xmax 1 (xmin 8 x1)).toNatClampNeg * (xmax 1 (xmin 21 x2)).toNatClampNeg) + ((xmax 1 (xmin 8 x1)).toNatClampNeg + (xmax 1 (xmin 8 x1)).toNatClampNeg * (xmax 1 (xmin 21 x2)).toNatClampNeg) + ((xmax 1 (xmin 8 x1)).toNatClampNeg + (xmax 1 (xmin 8 x1)).toNatClampNeg * 9) + ((xmax 1 (xmin 21 x2)).toNatClampNeg + (xmax 1 (xmin 21 x2)).toNatClampNeg * 9))) + 3296) by (try dsimp only); omega) d_RR_init_16 (fun H hw => ?_)
  refine W.widen (k := 3) (n := 1507) (by (try dsimp only); omega) (by (try dsimp only); omega) ?_
  refine lv_dup S.1 S.2.1 d_RR_init_19 rfl ?_
  obtain ⟨w6, h7, hf⟩ := xb hf
  refine x_callIN (As := []) (rest := [.ref (z + 2), .ref a0]) S hw (c_History_init h7) ⟨va_cnB (host := "RosterRules") 0 S.2.2.2.2 gi_History_init rfl rfl rfl (hw.1.2.2.1 _ wn_1_46) (S.2.2.2.2 _ wd_1_3) hi_History_init ⟨Nat.le_of_ble_eq_true rfl, Nat.le_of_ble_eq_true rfl⟩, rfl, S.2.2.2.2 _ wd_1_47⟩ rfl hl.1 rfl (Nat.le_of_ble_eq_true rfl) d_RR_init_20 ⟨(show _ ≤ ((25 + (4 + (1 + (xmax 1 (xmin 8 x1)).toNatClampNeg) + (1 + (xmax 1 (xmin 8 x1)).toNatClampNeg) + (1 + (xmax 1 (xmin 8 x1)).toNatClampNeg) + (1 + (xmax 1 (xmin 8 x1)).toNatClampNeg) + (1 + (xmax 1 (xmin 21 x2)).toNatClampNeg))) + 256) by (try dsimp only); omega), (show _ ≤ ((19729 + (27 + (xmax 1 (xmin 8 x1)).toNatClampNeg + ((xmax 1 (xmin 8 x1)).toNatClampNeg + (xmax 1 (xmin 8 x1)).toNatClampNeg * (7 + (xmax 1 (xmin 21 x2))).toNatClampNeg) + ((xmax 1 (xmin 8 x1)).toNatClampNeg + (xmax 1 (xmin 8 x1)).toNatClampNeg * (xmax 1 (xmin 21 x2)).toNatClampNeg) + ((xmax 1 (xmin 8 x1)).toNatClampNeg + (xmax 1 (xmin 8 x1)).toNatClampNeg * (xmax 1 (xmin 21 x2)).toNatClampNeg) + ((xmax 1 (xmin 8 x1)).toNatClampNeg + (xmax 1 (xmin 8 x1)).toNatClampNeg * 9) + ((xmax 1 (xmin 21 x2)).toNatClampNeg + (xmax 1 (xmin 21 x2)).toNatClampNeg * 9))) + 3296) by (try dsimp only); omega)⟩ (fun H locs hw => ?_)
  refine W.widen (k := 6) (n := 2107) (by (try dsimp only); omega) (by (try dsimp only); omega) ?_
  obtain ⟨w8, hw8, hf⟩ := xb hf
  refine x_putF S hin hw lf_RR_19 rfl rfl hw8 d_RR_init_23 (fun H locs hw => ?_)
  refine lv_aload_n S.1 S.2.1 d_RR_init_26 rfl (lv_at hl 0 rfl) ?_
  obtain ⟨w9, hw9, hf⟩ := xlb hf
  refine x_new S hw nw_RR_23 hw9 (show _ ≤ ((25 + (4 + (1 + (xmax 1 (xmin 8 x1)).toNatClampNeg) + (1 + (xmax 1 (xmin 8 x1)).toNatClampNeg) + (1 + (xmax 1 (xmin 8 x1)).toNatClampNeg) + (1 + (xmax 1 (xmin 8 x1)).toNatClampNeg) + (1 + (xmax 1 (xmin 21 x2)).toNatClampNeg))) + 256) by (try dsimp only); omega) (show _ ≤ ((19729 + (27 + (xmax 1 (xmin 8 x1)).toNatClampNeg + ((xmax 1 (xmin 8 x1)).toNatClampNeg + (xmax 1 (xmin 8 x1)).toNatClampNeg * (7 + (xmax 1 (xmin 21 x2))).toNatClampNeg) + ((xmax 1 (xmin 8 x1)).toNatClampNeg + (xmax 1 (xmin 8 x1)).toNatClampNeg * (xmax 1 (xmin 21 x2)).toNatClampNeg) + ((xmax 1 (xmin 8 x1)).toNatClampNeg + (xmax 1 (xmin 8 x1)).toNatClampNeg * (xmax 1 (xmin 21 x2)).toNatClampNeg) + ((xmax 1 (xmin 8 x1)).toNatClampNeg + (xmax 1 (xmin 8 x1)).toNatClampNeg * 9) + ((xmax 1 (xmin 21 x2)).toNatClampNeg + (xmax 1 (xmin 21 x2)).toNatClampNeg * 9))) + 3296) by (try dsimp only); omega) d_RR_init_27 (fun H hw => ?_)
  refine W.widen (k := 7) (n := 2116) (by (try dsimp only); omega) (by (try dsimp only); omega) ?_
  refine lv_dup S.1 S.2.1 d_RR_init_30 rfl ?_
  obtain ⟨w10, h11, hf⟩ := xb hf
  refine x_callIN (As := []) (rest := [.ref (z + 6), .ref a0]) S hw (c_AutomatonMaker_init h11) ⟨va_cnB (host := "RosterRules") 0 S.2.2.2.2 gi_AutomatonMaker_init rfl rfl rfl (hw.1.2.2.1 _ wn_1_73) (S.2.2.2.2 _ wd_1_4) hi_AutomatonMaker_init ⟨Nat.le_of_ble_eq_true rfl, Nat.le_of_ble_eq_true rfl⟩, rfl, S.2.2.2.2 _ wd_1_74⟩ rfl hl.1 rfl (Nat.le_of_ble_eq_true rfl) d_RR_init_31 ⟨(show _ ≤ ((25 + (4 + (1 + (xmax 1 (xmin 8 x1)).toNatClampNeg) + (1 + (xmax 1 (xmin 8 x1)).toNatClampNeg) + (1 + (xmax 1 (xmin 8 x1)).toNatClampNeg) + (1 + (xmax 1 (xmin 8 x1)).toNatClampNeg) + (1 + (xmax 1 (xmin 21 x2)).toNatClampNeg))) + 256) by (try dsimp only); omega), (show _ ≤ ((19729 + (27 + (xmax 1 (xmin 8 x1)).toNatClampNeg + ((xmax 1 (xmin 8 x1)).toNatClampNeg + (xmax 1 (xmin 8 x1)).toNatClampNeg * (7 + (xmax 1 (xmin 21 x2))).toNatClampNeg) + ((xmax 1 (xmin 8 x1)).toNatClampNeg + (xmax 1 (xmin 8 x1)).toNatClampNeg * (xmax 1 (xmin 21 x2)).toNatClampNeg) + ((xmax 1 (xmin 8 x1)).toNatClampNeg + (xmax 1 (xmin 8 x1)).toNatClampNeg * (xmax 1 (xmin 21 x2)).toNatClampNeg) + ((xmax 1 (xmin 8 x1)).toNatClampNeg + (xmax 1 (xmin 8 x1)).toNatClampNeg * 9) + ((xmax 1 (xmin 21 x2)).toNatClampNeg + (xmax 1 (xmin 21 x2)).toNatClampNeg * 9))) + 3296) by (try dsimp only); omega)⟩ (fun H locs hw => ?_)
  refine W.widen (k := 15) (n := 19539) (by (try dsimp only); omega) (by (try dsimp only); omega) ?_
  obtain ⟨w12, hw12, hf⟩ := xb hf
  refine x_putF S hin hw lf_RR_26 rfl rfl hw12 d_RR_init_34 (fun H locs hw => ?_)
  refine lv_aload_n S.1 S.2.1 d_RR_init_37 rfl (lv_at hl 0 rfl) ?_
  refine lv_bipush (v := 16) S.1 S.2.1 d_RR_init_38 (by decide) ?_
  obtain ⟨w13, hw13, hf⟩ := xlb hf
  refine x_newq (N := 16) S hw wd_1_106 (by decide) (by decide) (by decide) hw13 (show _ ≤ ((25 + (4 + (1 + (xmax 1 (xmin 8 x1)).toNatClampNeg) + (1 + (xmax 1 (xmin 8 x1)).toNatClampNeg) + (1 + (xmax 1 (xmin 8 x1)).toNatClampNeg) + (1 + (xmax 1 (xmin 8 x1)).toNatClampNeg) + (1 + (xmax 1 (xmin 21 x2)).toNatClampNeg))) + 256) by (try dsimp only); omega) (show _ ≤ ((19729 + (27 + (xmax 1 (xmin 8 x1)).toNatClampNeg + ((xmax 1 (xmin 8 x1)).toNatClampNeg + (xmax 1 (xmin 8 x1)).toNatClampNeg * (7 + (xmax 1 (xmin 21 x2))).toNatClampNeg) + ((xmax 1 (xmin 8 x1)).toNatClampNeg + (xmax 1 (xmin 8 x1)).toNatClampNeg * (xmax 1 (xmin 21 x2)).toNatClampNeg) + ((xmax 1 (xmin 8 x1)).toNatClampNeg + (xmax 1 (xmin 8 x1)).toNatClampNeg * (xmax 1 (xmin 21 x2)).toNatClampNeg) + ((xmax 1 (xmin 8 x1)).toNatClampNeg + (xmax 1 (xmin 8 x1)).toNatClampNeg * 9) + ((xmax 1 (xmin 21 x2)).toNatClampNeg + (xmax 1 (xmin 21 x2)).toNatClampNeg * 9))) + 3296) by (try dsimp only); omega) d_RR_init_40 (fun H hw => ?_)
  refine W.widen (k := 16) (n := 19555) (by (try dsimp only); omega) (by (try dsimp only); omega) ?_
  obtain ⟨w14, hw14, hf⟩ := xb hf
  refine x_put S hw lp_RR_32 (rfl) rfl hw14 d_RR_init_43 (fun H locs hw => ?_)
  refine lv_aload_n S.1 S.2.1 d_RR_init_46 rfl (lv_at hl 0 rfl) ?_
  refine lv_bipush (v := 16) S.1 S.2.1 d_RR_init_47 (by decide) ?_
  obtain ⟨w15, hw15, hf⟩ := xlb hf
  refine x_newq (N := 16) S hw wd_1_106 (by decide) (by decide) (by decide) hw15 (show _ ≤ ((25 + (4 + (1 + (xmax 1 (xmin 8 x1)).toNatClampNeg) + (1 + (xmax 1 (xmin 8 x1)).toNatClampNeg) + (1 + (xmax 1 (xmin 8 x1)).toNatClampNeg) + (1 + (xmax 1 (xmin 8 x1)).toNatClampNeg) + (1 + (xmax 1 (xmin 21 x2)).toNatClampNeg))) + 256) by (try dsimp only); omega) (show _ ≤ ((19729 + (27 + (xmax 1 (xmin 8 x1)).toNatClampNeg + ((xmax 1 (xmin 8 x1)).toNatClampNeg + (xmax 1 (xmin 8 x1)).toNatClampNeg * (7 + (xmax 1 (xmin 21 x2))).toNatClampNeg) + ((xmax 1 (xmin 8 x1)).toNatClampNeg + (xmax 1 (xmin 8 x1)).toNatClampNeg * (xmax 1 (xmin 21 x2)).toNatClampNeg) + ((xmax 1 (xmin 8 x1)).toNatClampNeg + (xmax 1 (xmin 8 x1)).toNatClampNeg * (xmax 1 (xmin 21 x2)).toNatClampNeg) + ((xmax 1 (xmin 8 x1)).toNatClampNeg + (xmax 1 (xmin 8 x1)).toNatClampNeg * 9) + ((xmax 1 (xmin 21 x2)).toNatClampNeg + (xmax 1 (xmin 21 x2)).toNatClampNeg * 9))) + 3296) by (try dsimp only); omega) d_RR_init_49 (fun H hw => ?_)
  refine W.widen (k := 17) (n := 19571) (by (try dsimp only); omega) (by (try dsimp only); omega) ?_
  obtain ⟨w16, hw16, hf⟩ := xb hf
  refine x_put S hw lp_RR_36 (rfl) rfl hw16 d_RR_init_52 (fun H locs hw => ?_)
  refine lv_aload_n S.1 S.2.1 d_RR_init_55 rfl (lv_at hl 0 rfl) ?_
  obtain ⟨w17, hw17, hf⟩ := xlb hf
  refine x_new S hw nw_RR_39 hw17 (show _ ≤ ((25 + (4 + (1 + (xmax 1 (xmin 8 x1)).toNatClampNeg) + (1 + (xmax 1 (xmin 8 x1)).toNatClampNeg) + (1 + (xmax 1 (xmin 8 x1)).toNatClampNeg) + (1 + (xmax 1 (xmin 8 x1)).toNatClampNeg) + (1 + (xmax 1 (xmin 21 x2)).toNatClampNeg))) + 256) by (try dsimp only); omega) (show _ ≤ ((19729 + (27 + (xmax 1 (xmin 8 x1)).toNatClampNeg + ((xmax 1 (xmin 8 x1)).toNatClampNeg + (xmax 1 (xmin 8 x1)).toNatClampNeg * (7 + (xmax 1 (xmin 21 x2))).toNatClampNeg) + ((xmax 1 (xmin 8 x1)).toNatClampNeg + (xmax 1 (xmin 8 x1)).toNatClampNeg * (xmax 1 (xmin 21 x2)).toNatClampNeg) + ((xmax 1 (xmin 8 x1)).toNatClampNeg + (xmax 1 (xmin 8 x1)).toNatClampNeg * (xmax 1 (xmin 21 x2)).toNatClampNeg) + ((xmax 1 (xmin 8 x1)).toNatClampNeg + (xmax 1 (xmin 8 x1)).toNatClampNeg * 9) + ((xmax 1 (xmin 21 x2)).toNatClampNeg + (xmax 1 (xmin 21 x2)).toNatClampNeg * 9))) + 3296) by (try dsimp only); omega) d_RR_init_56 (fun H hw => ?_)
  refine W.widen (k := 18) (n := 19584) (by (try dsimp only); omega) (by (try dsimp only); omega) ?_
  refine lv_dup S.1 S.2.1 d_RR_init_59 rfl ?_
  refine lv_iconst (v := 1) S.1 S.2.1 d_RR_init_60 (by decide) ?_
  refine lv_bipush (v := 8) S.1 S.2.1 d_RR_init_61 (by decide) ?_
  refine lv_iload_n S.1 S.2.1 d_RR_init_63 rfl (lv_at hl 1 rfl) ?_
  refine x_mmin S hl.1 lm_RR_41 d_RR_init_64 (Nat.le_of_ble_eq_true rfl) (Nat.le_of_ble_eq_true rfl) (show _ ≤ ((25 + (4 + (1 + (xmax 1 (xmin 8 x1)).toNatClampNeg) + (1 + (xmax 1 (xmin 8 x1)).toNatClampNeg) + (1 + (xmax 1 (xmin 8 x1)).toNatClampNeg) + (1 + (xmax 1 (xmin 8 x1)).toNatClampNeg) + (1 + (xmax 1 (xmin 21 x2)).toNatClampNeg))) + 256) by (try dsimp only); omega) (show _ ≤ ((19729 + (27 + (xmax 1 (xmin 8 x1)).toNatClampNeg + ((xmax 1 (xmin 8 x1)).toNatClampNeg + (xmax 1 (xmin 8 x1)).toNatClampNeg * (7 + (xmax 1 (xmin 21 x2))).toNatClampNeg) + ((xmax 1 (xmin 8 x1)).toNatClampNeg + (xmax 1 (xmin 8 x1)).toNatClampNeg * (xmax 1 (xmin 21 x2)).toNatClampNeg) + ((xmax 1 (xmin 8 x1)).toNatClampNeg + (xmax 1 (xmin 8 x1)).toNatClampNeg * (xmax 1 (xmin 21 x2)).toNatClampNeg) + ((xmax 1 (xmin 8 x1)).toNatClampNeg + (xmax 1 (xmin 8 x1)).toNatClampNeg * 9) + ((xmax 1 (xmin 21 x2)).toNatClampNeg + (xmax 1 (xmin 21 x2)).toNatClampNeg * 9))) + 3296) by (try dsimp only); omega) ?_
  refine x_mmax S hl.1 lm_RR_47 d_RR_init_67 (Nat.le_of_ble_eq_true rfl) (Nat.le_of_ble_eq_true rfl) (show _ ≤ ((25 + (4 + (1 + (xmax 1 (xmin 8 x1)).toNatClampNeg) + (1 + (xmax 1 (xmin 8 x1)).toNatClampNeg) + (1 + (xmax 1 (xmin 8 x1)).toNatClampNeg) + (1 + (xmax 1 (xmin 8 x1)).toNatClampNeg) + (1 + (xmax 1 (xmin 21 x2)).toNatClampNeg))) + 256) by (try dsimp only); omega) (show _ ≤ ((19729 + (27 + (xmax 1 (xmin 8 x1)).toNatClampNeg + ((xmax 1 (xmin 8 x1)).toNatClampNeg + (xmax 1 (xmin 8 x1)).toNatClampNeg * (7 + (xmax 1 (xmin 21 x2))).toNatClampNeg) + ((xmax 1 (xmin 8 x1)).toNatClampNeg + (xmax 1 (xmin 8 x1)).toNatClampNeg * (xmax 1 (xmin 21 x2)).toNatClampNeg) + ((xmax 1 (xmin 8 x1)).toNatClampNeg + (xmax 1 (xmin 8 x1)).toNatClampNeg * (xmax 1 (xmin 21 x2)).toNatClampNeg) + ((xmax 1 (xmin 8 x1)).toNatClampNeg + (xmax 1 (xmin 8 x1)).toNatClampNeg * 9) + ((xmax 1 (xmin 21 x2)).toNatClampNeg + (xmax 1 (xmin 21 x2)).toNatClampNeg * 9))) + 3296) by (try dsimp only); omega) ?_
  refine lv_iconst (v := 1) S.1 S.2.1 d_RR_init_70 (by decide) ?_
  refine lv_bipush (v := 21) S.1 S.2.1 d_RR_init_71 (by decide) ?_
  refine lv_iload_n S.1 S.2.1 d_RR_init_73 rfl (lv_at hl 2 rfl) ?_
  refine x_mmin S hl.1 lm_RR_41 d_RR_init_74 (Nat.le_of_ble_eq_true rfl) (Nat.le_of_ble_eq_true rfl) (show _ ≤ ((25 + (4 + (1 + (xmax 1 (xmin 8 x1)).toNatClampNeg) + (1 + (xmax 1 (xmin 8 x1)).toNatClampNeg) + (1 + (xmax 1 (xmin 8 x1)).toNatClampNeg) + (1 + (xmax 1 (xmin 8 x1)).toNatClampNeg) + (1 + (xmax 1 (xmin 21 x2)).toNatClampNeg))) + 256) by (try dsimp only); omega) (show _ ≤ ((19729 + (27 + (xmax 1 (xmin 8 x1)).toNatClampNeg + ((xmax 1 (xmin 8 x1)).toNatClampNeg + (xmax 1 (xmin 8 x1)).toNatClampNeg * (7 + (xmax 1 (xmin 21 x2))).toNatClampNeg) + ((xmax 1 (xmin 8 x1)).toNatClampNeg + (xmax 1 (xmin 8 x1)).toNatClampNeg * (xmax 1 (xmin 21 x2)).toNatClampNeg) + ((xmax 1 (xmin 8 x1)).toNatClampNeg + (xmax 1 (xmin 8 x1)).toNatClampNeg * (xmax 1 (xmin 21 x2)).toNatClampNeg) + ((xmax 1 (xmin 8 x1)).toNatClampNeg + (xmax 1 (xmin 8 x1)).toNatClampNeg * 9) + ((xmax 1 (xmin 21 x2)).toNatClampNeg + (xmax 1 (xmin 21 x2)).toNatClampNeg * 9))) + 3296) by (try dsimp only); omega) ?_
  refine x_mmax S hl.1 lm_RR_47 d_RR_init_77 (Nat.le_of_ble_eq_true rfl) (Nat.le_of_ble_eq_true rfl) (show _ ≤ ((25 + (4 + (1 + (xmax 1 (xmin 8 x1)).toNatClampNeg) + (1 + (xmax 1 (xmin 8 x1)).toNatClampNeg) + (1 + (xmax 1 (xmin 8 x1)).toNatClampNeg) + (1 + (xmax 1 (xmin 8 x1)).toNatClampNeg) + (1 + (xmax 1 (xmin 21 x2)).toNatClampNeg))) + 256) by (try dsimp only); omega) (show _ ≤ ((19729 + (27 + (xmax 1 (xmin 8 x1)).toNatClampNeg + ((xmax 1 (xmin 8 x1)).toNatClampNeg + (xmax 1 (xmin 8 x1)).toNatClampNeg * (7 + (xmax 1 (xmin 21 x2))).toNatClampNeg) + ((xmax 1 (xmin 8 x1)).toNatClampNeg + (xmax 1 (xmin 8 x1)).toNatClampNeg * (xmax 1 (xmin 21 x2)).toNatClampNeg) + ((xmax 1 (xmin 8 x1)).toNatClampNeg + (xmax 1 (xmin 8 x1)).toNatClampNeg * (xmax 1 (xmin 21 x2)).toNatClampNeg) + ((xmax 1 (xmin 8 x1)).toNatClampNeg + (xmax 1 (xmin 8 x1)).toNatClampNeg * 9) + ((xmax 1 (xmin 21 x2)).toNatClampNeg + (xmax 1 (xmin 21 x2)).toNatClampNeg * 9))) + 3296) by (try dsimp only); omega) ?_
  obtain ⟨w18, h19, hf⟩ := xb hf
  refine x_callI (As := [.int (xmax 1 (xmin 8 x1)), .int (xmax 1 (xmin 21 x2))]) (rest := [.ref (z + 17), .ref a0]) S hw (c_Roster_init h19) (cwI 2 S.2.2.2.2 gi_Roster_init rfl rfl rfl (S.2.2.2.2 _ wd_1_5) (S.2.2.2.2 _ wd_1_116) (S.2.2.2.2 _ wd_1_117) rfl hi_Roster_init ⟨Nat.le_of_ble_eq_true rfl, Nat.le_of_ble_eq_true rfl⟩) rfl hl.1 rfl (Nat.le_of_ble_eq_true rfl) d_RR_init_80 ⟨(show _ ≤ ((25 + (4 + (1 + (xmax 1 (xmin 8 x1)).toNatClampNeg) + (1 + (xmax 1 (xmin 8 x1)).toNatClampNeg) + (1 + (xmax 1 (xmin 8 x1)).toNatClampNeg) + (1 + (xmax 1 (xmin 8 x1)).toNatClampNeg) + (1 + (xmax 1 (xmin 21 x2)).toNatClampNeg))) + 256) by (try dsimp only); omega), (show _ ≤ ((19729 + (27 + (xmax 1 (xmin 8 x1)).toNatClampNeg + ((xmax 1 (xmin 8 x1)).toNatClampNeg + (xmax 1 (xmin 8 x1)).toNatClampNeg * (7 + (xmax 1 (xmin 21 x2))).toNatClampNeg) + ((xmax 1 (xmin 8 x1)).toNatClampNeg + (xmax 1 (xmin 8 x1)).toNatClampNeg * (xmax 1 (xmin 21 x2)).toNatClampNeg) + ((xmax 1 (xmin 8 x1)).toNatClampNeg + (xmax 1 (xmin 8 x1)).toNatClampNeg * (xmax 1 (xmin 21 x2)).toNatClampNeg) + ((xmax 1 (xmin 8 x1)).toNatClampNeg + (xmax 1 (xmin 8 x1)).toNatClampNeg * 9) + ((xmax 1 (xmin 21 x2)).toNatClampNeg + (xmax 1 (xmin 21 x2)).toNatClampNeg * 9))) + 3296) by (try dsimp only); omega)⟩ (fun H locs hw => ?_)
  refine W.widen (k := (18 + (4 + (1 + (xmax 1 (xmin 8 x1)).toNatClampNeg) + (1 + (xmax 1 (xmin 8 x1)).toNatClampNeg) + (1 + (xmax 1 (xmin 8 x1)).toNatClampNeg) + (1 + (xmax 1 (xmin 8 x1)).toNatClampNeg) + (1 + (xmax 1 (xmin 21 x2)).toNatClampNeg)))) (n := (19584 + (27 + (xmax 1 (xmin 8 x1)).toNatClampNeg + ((xmax 1 (xmin 8 x1)).toNatClampNeg + (xmax 1 (xmin 8 x1)).toNatClampNeg * (7 + (xmax 1 (xmin 21 x2))).toNatClampNeg) + ((xmax 1 (xmin 8 x1)).toNatClampNeg + (xmax 1 (xmin 8 x1)).toNatClampNeg * (xmax 1 (xmin 21 x2)).toNatClampNeg) + ((xmax 1 (xmin 8 x1)).toNatClampNeg + (xmax 1 (xmin 8 x1)).toNatClampNeg * (xmax 1 (xmin 21 x2)).toNatClampNeg) + ((xmax 1 (xmin 8 x1)).toNatClampNeg + (xmax 1 (xmin 8 x1)).toNatClampNeg * 9) + ((xmax 1 (xmin 21 x2)).toNatClampNeg + (xmax 1 (xmin 21 x2)).toNatClampNeg * 9)))) (by (try dsimp only); omega) (by (try dsimp only); omega) ?_
  obtain ⟨w20, hw20, hf⟩ := xb hf
  refine x_putF S hin hw lf_RR_53 rfl rfl hw20 d_RR_init_83 (fun H locs hw => ?_)
  refine lv_aload_n S.1 S.2.1 d_RR_init_86 rfl (lv_at hl 0 rfl) ?_
  obtain ⟨w21, hw21, hf⟩ := xlb hf
  refine x_new S hw nw_RR_57 hw21 (show _ ≤ ((25 + (4 + (1 + (xmax 1 (xmin 8 x1)).toNatClampNeg) + (1 + (xmax 1 (xmin 8 x1)).toNatClampNeg) + (1 + (xmax 1 (xmin 8 x1)).toNatClampNeg) + (1 + (xmax 1 (xmin 8 x1)).toNatClampNeg) + (1 + (xmax 1 (xmin 21 x2)).toNatClampNeg))) + 256) by (try dsimp only); omega) (show _ ≤ ((19729 + (27 + (xmax 1 (xmin 8 x1)).toNatClampNeg + ((xmax 1 (xmin 8 x1)).toNatClampNeg + (xmax 1 (xmin 8 x1)).toNatClampNeg * (7 + (xmax 1 (xmin 21 x2))).toNatClampNeg) + ((xmax 1 (xmin 8 x1)).toNatClampNeg + (xmax 1 (xmin 8 x1)).toNatClampNeg * (xmax 1 (xmin 21 x2)).toNatClampNeg) + ((xmax 1 (xmin 8 x1)).toNatClampNeg + (xmax 1 (xmin 8 x1)).toNatClampNeg * (xmax 1 (xmin 21 x2)).toNatClampNeg) + ((xmax 1 (xmin 8 x1)).toNatClampNeg + (xmax 1 (xmin 8 x1)).toNatClampNeg * 9) + ((xmax 1 (xmin 21 x2)).toNatClampNeg + (xmax 1 (xmin 21 x2)).toNatClampNeg * 9))) + 3296) by (try dsimp only); omega) d_RR_init_87 (fun H hw => ?_)
  refine W.widen (k := (19 + (4 + (1 + (xmax 1 (xmin 8 x1)).toNatClampNeg) + (1 + (xmax 1 (xmin 8 x1)).toNatClampNeg) + (1 + (xmax 1 (xmin 8 x1)).toNatClampNeg) + (1 + (xmax 1 (xmin 8 x1)).toNatClampNeg) + (1 + (xmax 1 (xmin 21 x2)).toNatClampNeg)))) (n := (19585 + (27 + (xmax 1 (xmin 8 x1)).toNatClampNeg + ((xmax 1 (xmin 8 x1)).toNatClampNeg + (xmax 1 (xmin 8 x1)).toNatClampNeg * (7 + (xmax 1 (xmin 21 x2))).toNatClampNeg) + ((xmax 1 (xmin 8 x1)).toNatClampNeg + (xmax 1 (xmin 8 x1)).toNatClampNeg * (xmax 1 (xmin 21 x2)).toNatClampNeg) + ((xmax 1 (xmin 8 x1)).toNatClampNeg + (xmax 1 (xmin 8 x1)).toNatClampNeg * (xmax 1 (xmin 21 x2)).toNatClampNeg) + ((xmax 1 (xmin 8 x1)).toNatClampNeg + (xmax 1 (xmin 8 x1)).toNatClampNeg * 9) + ((xmax 1 (xmin 21 x2)).toNatClampNeg + (xmax 1 (xmin 21 x2)).toNatClampNeg * 9)))) (by (try dsimp only); omega) (by (try dsimp only); omega) ?_
  refine lv_dup S.1 S.2.1 d_RR_init_90 rfl ?_
  refine lv_aload_n S.1 S.2.1 d_RR_init_91 rfl (lv_at hl 0 rfl) ?_
  obtain ⟨t22, ht22, hf⟩ := xb hf
  refine x_getr S hw lk_RR_53 ht22 d_RR_init_92 ?_
  obtain ⟨w23, h24, hf⟩ := xb hf
  refine x_callI (As := [.ref t22]) (rest := [.ref (((((((z + 18) + 4) + 1 + (xmax 1 (xmin 8 x1)).toNatClampNeg) + 1 + (xmax 1 (xmin 8 x1)).toNatClampNeg) + 1 + (xmax 1 (xmin 8 x1)).toNatClampNeg) + 1 + (xmax 1 (xmin 8 x1)).toNatClampNeg) + 1 + (xmax 1 (xmin 21 x2)).toNatClampNeg), .ref a0]) S hw (c_Judge_init h24) (cwI 1 S.2.2.2.2 gi_Judge_init rfl rfl rfl (S.2.2.2.2 _ wd_1_7) (S.2.2.2.2 _ wd_1_181) (S.2.2.2.2 _ wd_1_182) rfl hi_Judge_init ⟨Nat.le_of_ble_eq_true rfl, Nat.le_of_ble_eq_true rfl⟩) rfl hl.1 rfl (Nat.le_of_ble_eq_true rfl) d_RR_init_95 ⟨(show _ ≤ ((25 + (4 + (1 + (xmax 1 (xmin 8 x1)).toNatClampNeg) + (1 + (xmax 1 (xmin 8 x1)).toNatClampNeg) + (1 + (xmax 1 (xmin 8 x1)).toNatClampNeg) + (1 + (xmax 1 (xmin 8 x1)).toNatClampNeg) + (1 + (xmax 1 (xmin 21 x2)).toNatClampNeg))) + 256) by (try dsimp only); omega), (show _ ≤ ((19729 + (27 + (xmax 1 (xmin 8 x1)).toNatClampNeg + ((xmax 1 (xmin 8 x1)).toNatClampNeg + (xmax 1 (xmin 8 x1)).toNatClampNeg * (7 + (xmax 1 (xmin 21 x2))).toNatClampNeg) + ((xmax 1 (xmin 8 x1)).toNatClampNeg + (xmax 1 (xmin 8 x1)).toNatClampNeg * (xmax 1 (xmin 21 x2)).toNatClampNeg) + ((xmax 1 (xmin 8 x1)).toNatClampNeg + (xmax 1 (xmin 8 x1)).toNatClampNeg * (xmax 1 (xmin 21 x2)).toNatClampNeg) + ((xmax 1 (xmin 8 x1)).toNatClampNeg + (xmax 1 (xmin 8 x1)).toNatClampNeg * 9) + ((xmax 1 (xmin 21 x2)).toNatClampNeg + (xmax 1 (xmin 21 x2)).toNatClampNeg * 9))) + 3296) by (try dsimp only); omega)⟩ (fun H locs hw => ?_)
  obtain ⟨w25, hw25, hf⟩ := xb hf
  refine x_putF S hin hw lf_RR_62 rfl rfl hw25 d_RR_init_98 (fun H locs hw => ?_)
  refine lv_aload_n S.1 S.2.1 d_RR_init_101 rfl (lv_at hl 0 rfl) ?_
  obtain ⟨w26, hw26, hf⟩ := xlb hf
  refine x_new S hw nw_RR_66 hw26 (show _ ≤ ((25 + (4 + (1 + (xmax 1 (xmin 8 x1)).toNatClampNeg) + (1 + (xmax 1 (xmin 8 x1)).toNatClampNeg) + (1 + (xmax 1 (xmin 8 x1)).toNatClampNeg) + (1 + (xmax 1 (xmin 8 x1)).toNatClampNeg) + (1 + (xmax 1 (xmin 21 x2)).toNatClampNeg))) + 256) by (try dsimp only); omega) (show _ ≤ ((19729 + (27 + (xmax 1 (xmin 8 x1)).toNatClampNeg + ((xmax 1 (xmin 8 x1)).toNatClampNeg + (xmax 1 (xmin 8 x1)).toNatClampNeg * (7 + (xmax 1 (xmin 21 x2))).toNatClampNeg) + ((xmax 1 (xmin 8 x1)).toNatClampNeg + (xmax 1 (xmin 8 x1)).toNatClampNeg * (xmax 1 (xmin 21 x2)).toNatClampNeg) + ((xmax 1 (xmin 8 x1)).toNatClampNeg + (xmax 1 (xmin 8 x1)).toNatClampNeg * (xmax 1 (xmin 21 x2)).toNatClampNeg) + ((xmax 1 (xmin 8 x1)).toNatClampNeg + (xmax 1 (xmin 8 x1)).toNatClampNeg * 9) + ((xmax 1 (xmin 21 x2)).toNatClampNeg + (xmax 1 (xmin 21 x2)).toNatClampNeg * 9))) + 3296) by (try dsimp only); omega) d_RR_init_102 (fun H hw => ?_)
  refine W.widen (k := (20 + (4 + (1 + (xmax 1 (xmin 8 x1)).toNatClampNeg) + (1 + (xmax 1 (xmin 8 x1)).toNatClampNeg) + (1 + (xmax 1 (xmin 8 x1)).toNatClampNeg) + (1 + (xmax 1 (xmin 8 x1)).toNatClampNeg) + (1 + (xmax 1 (xmin 21 x2)).toNatClampNeg)))) (n := (19590 + (27 + (xmax 1 (xmin 8 x1)).toNatClampNeg + ((xmax 1 (xmin 8 x1)).toNatClampNeg + (xmax 1 (xmin 8 x1)).toNatClampNeg * (7 + (xmax 1 (xmin 21 x2))).toNatClampNeg) + ((xmax 1 (xmin 8 x1)).toNatClampNeg + (xmax 1 (xmin 8 x1)).toNatClampNeg * (xmax 1 (xmin 21 x2)).toNatClampNeg) + ((xmax 1 (xmin 8 x1)).toNatClampNeg + (xmax 1 (xmin 8 x1)).toNatClampNeg * (xmax 1 (xmin 21 x2)).toNatClampNeg) + ((xmax 1 (xmin 8 x1)).toNatClampNeg + (xmax 1 (xmin 8 x1)).toNatClampNeg * 9) + ((xmax 1 (xmin 21 x2)).toNatClampNeg + (xmax 1 (xmin 21 x2)).toNatClampNeg * 9)))) (by (try dsimp only); omega) (by (try dsimp only); omega) ?_
  refine lv_dup S.1 S.2.1 d_RR_init_105 rfl ?_
  refine lv_aload_n S.1 S.2.1 d_RR_init_106 rfl (lv_at hl 0 rfl) ?_
  obtain ⟨t27, ht27, hf⟩ := xb hf
  refine x_getr S hw lk_RR_10 ht27 d_RR_init_107 ?_
  refine lv_aload_n S.1 S.2.1 d_RR_init_110 rfl (lv_at hl 0 rfl) ?_
  obtain ⟨t28, ht28, hf⟩ := xb hf
  refine x_getr S hw lk_RR_53 ht28 d_RR_init_111 ?_
  obtain ⟨t29, ht29, hf⟩ := xb hf
  refine x_geti S hw lk_RR_68 ht29 d_RR_init_114 ?_
  obtain ⟨w30, h31, hf⟩ := xb hf
  refine x_callI (As := [.ref t27, .int t29]) (rest := [.ref ((((((((z + 18) + 4) + 1 + (xmax 1 (xmin 8 x1)).toNatClampNeg) + 1 + (xmax 1 (xmin 8 x1)).toNatClampNeg) + 1 + (xmax 1 (xmin 8 x1)).toNatClampNeg) + 1 + (xmax 1 (xmin 8 x1)).toNatClampNeg) + 1 + (xmax 1 (xmin 21 x2)).toNatClampNeg) + 1), .ref a0]) S hw (c_LawReader_init h31) (cwI 2 S.2.2.2.2 gi_LawReader_init rfl rfl rfl (S.2.2.2.2 _ wd_1_8) (S.2.2.2.2 _ wd_1_191) (S.2.2.2.2 _ wd_1_192) rfl hi_LawReader_init ⟨Nat.le_of_ble_eq_true rfl, Nat.le_of_ble_eq_true rfl⟩) rfl hl.1 rfl (Nat.le_of_ble_eq_true rfl) d_RR_init_117 ⟨(show _ ≤ ((25 + (4 + (1 + (xmax 1 (xmin 8 x1)).toNatClampNeg) + (1 + (xmax 1 (xmin 8 x1)).toNatClampNeg) + (1 + (xmax 1 (xmin 8 x1)).toNatClampNeg) + (1 + (xmax 1 (xmin 8 x1)).toNatClampNeg) + (1 + (xmax 1 (xmin 21 x2)).toNatClampNeg))) + 256) by (try dsimp only); omega), (show _ ≤ ((19729 + (27 + (xmax 1 (xmin 8 x1)).toNatClampNeg + ((xmax 1 (xmin 8 x1)).toNatClampNeg + (xmax 1 (xmin 8 x1)).toNatClampNeg * (7 + (xmax 1 (xmin 21 x2))).toNatClampNeg) + ((xmax 1 (xmin 8 x1)).toNatClampNeg + (xmax 1 (xmin 8 x1)).toNatClampNeg * (xmax 1 (xmin 21 x2)).toNatClampNeg) + ((xmax 1 (xmin 8 x1)).toNatClampNeg + (xmax 1 (xmin 8 x1)).toNatClampNeg * (xmax 1 (xmin 21 x2)).toNatClampNeg) + ((xmax 1 (xmin 8 x1)).toNatClampNeg + (xmax 1 (xmin 8 x1)).toNatClampNeg * 9) + ((xmax 1 (xmin 21 x2)).toNatClampNeg + (xmax 1 (xmin 21 x2)).toNatClampNeg * 9))) + 3296) by (try dsimp only); omega)⟩ (fun H locs hw => ?_)
  refine W.widen (k := (25 + (4 + (1 + (xmax 1 (xmin 8 x1)).toNatClampNeg) + (1 + (xmax 1 (xmin 8 x1)).toNatClampNeg) + (1 + (xmax 1 (xmin 8 x1)).toNatClampNeg) + (1 + (xmax 1 (xmin 8 x1)).toNatClampNeg) + (1 + (xmax 1 (xmin 21 x2)).toNatClampNeg)))) (n := (19729 + (27 + (xmax 1 (xmin 8 x1)).toNatClampNeg + ((xmax 1 (xmin 8 x1)).toNatClampNeg + (xmax 1 (xmin 8 x1)).toNatClampNeg * (7 + (xmax 1 (xmin 21 x2))).toNatClampNeg) + ((xmax 1 (xmin 8 x1)).toNatClampNeg + (xmax 1 (xmin 8 x1)).toNatClampNeg * (xmax 1 (xmin 21 x2)).toNatClampNeg) + ((xmax 1 (xmin 8 x1)).toNatClampNeg + (xmax 1 (xmin 8 x1)).toNatClampNeg * (xmax 1 (xmin 21 x2)).toNatClampNeg) + ((xmax 1 (xmin 8 x1)).toNatClampNeg + (xmax 1 (xmin 8 x1)).toNatClampNeg * 9) + ((xmax 1 (xmin 21 x2)).toNatClampNeg + (xmax 1 (xmin 21 x2)).toNatClampNeg * 9)))) (by (try dsimp only); omega) (by (try dsimp only); omega) ?_
  obtain ⟨w32, hw32, hf⟩ := xb hf
  refine x_putF S hin hw lf_RR_75 rfl rfl hw32 d_RR_init_120 (fun H locs hw => ?_)
  refine lv_iconst (v := 0) S.1 S.2.1 d_RR_init_123 (by decide) ?_
  refine lv_istore_n (lv' := [(3, .int 0), (0, .ref a0), (1, .int x1), (2, .int x2)]) S.1 S.2.1 d_RR_init_124 rfl hl (by decide) rfl (fun ls hl => ?_)
  exact w_RR_init_125 S hr hlocks hin _ 0 _ _ _ _ _ _ _ _ (by omega) (by first | omega | rfl) (by first | omega | rfl) hw (lv_sub hl [1, 0] rfl) hf
