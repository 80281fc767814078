theorem wd_1_43 : Cond.arrayClass FieldType.int ∈ xTbl := xIn_1 (List.mem_of_getElem? (i := 43) (by decide +kernel)) rfl
theorem xArr_i : Cond.arrayClass .int ∈ xTbl := wd_1_43
theorem wd_1_105 : Cond.arrayClass FieldType.long ∈ xTbl := xIn_1 (List.mem_of_getElem? (i := 105) (by decide +kernel)) rfl
theorem xArr_l : Cond.arrayClass .long ∈ xTbl := wd_1_105
theorem wd_2_99 : Cond.lays "RosterRules$Automaton" "RosterRules$Automaton" "table" "[I" ∈ xTbl := xIn_2 (List.mem_of_getElem? (i := 99) (by decide +kernel)) rfl
theorem wd_2_101 : Cond.lays "RosterRules$Automaton" "RosterRules$Automaton" "states" "I" ∈ xTbl := xIn_2 (List.mem_of_getElem? (i := 101) (by decide +kernel)) rfl
theorem iC_0 : ∀ w ∈ u_ws RC_0 TC_0 2, w ∈ xTbl := fun w h => by
  obtain ⟨k, hk, rfl⟩ := List.mem_map.mp h
  have hk := List.mem_range.mp hk
  rcases (show k = 0 ∨ k = 1 by omega) with rfl | rfl
  · exact wd_2_99
  · exact wd_2_101
theorem wd_1_86 : Cond.laysFinal "RosterRules$AutomatonMaker" "RosterRules$AutomatonMaker" "sets" "[I" ∈ xTbl := xIn_1 (List.mem_of_getElem? (i := 86) (by decide +kernel)) rfl
theorem wd_1_88 : Cond.laysFinal "RosterRules$AutomatonMaker" "RosterRules$AutomatonMaker" "numbers" "[I" ∈ xTbl := xIn_1 (List.mem_of_getElem? (i := 88) (by decide +kernel)) rfl
theorem wd_1_90 : Cond.laysFinal "RosterRules$AutomatonMaker" "RosterRules$AutomatonMaker" "targets" "[I" ∈ xTbl := xIn_1 (List.mem_of_getElem? (i := 90) (by decide +kernel)) rfl
theorem wd_1_92 : Cond.laysFinal "RosterRules$AutomatonMaker" "RosterRules$AutomatonMaker" "slots" "[I" ∈ xTbl := xIn_1 (List.mem_of_getElem? (i := 92) (by decide +kernel)) rfl
theorem wd_1_94 : Cond.lays "RosterRules$AutomatonMaker" "RosterRules$AutomatonMaker" "parts" "[I" ∈ xTbl := xIn_1 (List.mem_of_getElem? (i := 94) (by decide +kernel)) rfl
theorem wd_1_96 : Cond.lays "RosterRules$AutomatonMaker" "RosterRules$AutomatonMaker" "finerParts" "[I" ∈ xTbl := xIn_1 (List.mem_of_getElem? (i := 96) (by decide +kernel)) rfl
theorem wd_1_98 : Cond.lays "RosterRules$AutomatonMaker" "RosterRules$AutomatonMaker" "ways" "[J" ∈ xTbl := xIn_1 (List.mem_of_getElem? (i := 98) (by decide +kernel)) rfl
theorem wd_1_100 : Cond.lays "RosterRules$AutomatonMaker" "RosterRules$AutomatonMaker" "longerWays" "[J" ∈ xTbl := xIn_1 (List.mem_of_getElem? (i := 100) (by decide +kernel)) rfl
theorem wd_1_102 : Cond.lays "RosterRules$AutomatonMaker" "RosterRules$AutomatonMaker" "states" "I" ∈ xTbl := xIn_1 (List.mem_of_getElem? (i := 102) (by decide +kernel)) rfl
theorem iC_1 : ∀ w ∈ u_ws RC_1 TC_1 9, w ∈ xTbl := fun w h => by
  obtain ⟨k, hk, rfl⟩ := List.mem_map.mp h
  have hk := List.mem_range.mp hk
  rcases (show k = 0 ∨ k = 1 ∨ k = 2 ∨ k = 3 ∨ k = 4 ∨ k = 5 ∨ k = 6 ∨ k = 7 ∨ k = 8 by omega) with rfl | rfl | rfl | rfl | rfl | rfl | rfl | rfl | rfl
  · exact wd_1_86
  · exact wd_1_88
  · exact wd_1_90
  · exact wd_1_92
  · exact wd_1_94
  · exact wd_1_96
  · exact wd_1_98
  · exact wd_1_100
  · exact wd_1_102
theorem wd_1_60 : Cond.laysFinal "RosterRules$History" "RosterRules$History" "people" "[I" ∈ xTbl := xIn_1 (List.mem_of_getElem? (i := 60) (by decide +kernel)) rfl
theorem wd_1_62 : Cond.laysFinal "RosterRules$History" "RosterRules$History" "days" "[I" ∈ xTbl := xIn_1 (List.mem_of_getElem? (i := 62) (by decide +kernel)) rfl
theorem wd_1_64 : Cond.laysFinal "RosterRules$History" "RosterRules$History" "letters" "[I" ∈ xTbl := xIn_1 (List.mem_of_getElem? (i := 64) (by decide +kernel)) rfl
theorem wd_1_66 : Cond.lays "RosterRules$History" "RosterRules$History" "newest" "I" ∈ xTbl := xIn_1 (List.mem_of_getElem? (i := 66) (by decide +kernel)) rfl
theorem wd_1_68 : Cond.lays "RosterRules$History" "RosterRules$History" "kept" "I" ∈ xTbl := xIn_1 (List.mem_of_getElem? (i := 68) (by decide +kernel)) rfl
theorem iC_2 : ∀ w ∈ u_ws RC_2 TC_2 5, w ∈ xTbl := fun w h => by
  obtain ⟨k, hk, rfl⟩ := List.mem_map.mp h
  have hk := List.mem_range.mp hk
  rcases (show k = 0 ∨ k = 1 ∨ k = 2 ∨ k = 3 ∨ k = 4 by omega) with rfl | rfl | rfl | rfl | rfl
  · exact wd_1_60
  · exact wd_1_62
  · exact wd_1_64
  · exact wd_1_66
  · exact wd_1_68
theorem wd_1_186 : Cond.laysFinal "RosterRules$Judge" "RosterRules$Judge" "roster" "LRosterRules$Roster;" ∈ xTbl := xIn_1 (List.mem_of_getElem? (i := 186) (by decide +kernel)) rfl
theorem iC_3 : ∀ w ∈ u_ws RC_3 TC_3 1, w ∈ xTbl := fun w h => by
  obtain ⟨k, hk, rfl⟩ := List.mem_map.mp h
  have hk := List.mem_range.mp hk
  rcases (show k = 0 by omega) with rfl
  · exact wd_1_186
theorem wd_2_125 : Cond.laysFinal "RosterRules$Law" "RosterRules$Law" "positions" "LRosterRules$Positions;" ∈ xTbl := xIn_2 (List.mem_of_getElem? (i := 125) (by decide +kernel)) rfl
theorem wd_2_127 : Cond.laysFinal "RosterRules$Law" "RosterRules$Law" "automaton" "LRosterRules$Automaton;" ∈ xTbl := xIn_2 (List.mem_of_getElem? (i := 127) (by decide +kernel)) rfl
theorem wd_2_129 : Cond.lays "RosterRules$Law" "RosterRules$Law" "sort" "I" ∈ xTbl := xIn_2 (List.mem_of_getElem? (i := 129) (by decide +kernel)) rfl
theorem wd_2_131 : Cond.lays "RosterRules$Law" "RosterRules$Law" "weight" "I" ∈ xTbl := xIn_2 (List.mem_of_getElem? (i := 131) (by decide +kernel)) rfl
theorem wd_2_133 : Cond.lays "RosterRules$Law" "RosterRules$Law" "begin" "I" ∈ xTbl := xIn_2 (List.mem_of_getElem? (i := 133) (by decide +kernel)) rfl
theorem wd_2_135 : Cond.lays "RosterRules$Law" "RosterRules$Law" "low" "I" ∈ xTbl := xIn_2 (List.mem_of_getElem? (i := 135) (by decide +kernel)) rfl
theorem wd_2_137 : Cond.lays "RosterRules$Law" "RosterRules$Law" "high" "I" ∈ xTbl := xIn_2 (List.mem_of_getElem? (i := 137) (by decide +kernel)) rfl
theorem wd_2_139 : Cond.lays "RosterRules$Law" "RosterRules$Law" "span" "I" ∈ xTbl := xIn_2 (List.mem_of_getElem? (i := 139) (by decide +kernel)) rfl
theorem wd_2_141 : Cond.lays "RosterRules$Law" "RosterRules$Law" "letter" "I" ∈ xTbl := xIn_2 (List.mem_of_getElem? (i := 141) (by decide +kernel)) rfl
theorem iC_4 : ∀ w ∈ u_ws RC_4 TC_4 9, w ∈ xTbl := fun w h => by
  obtain ⟨k, hk, rfl⟩ := List.mem_map.mp h
  have hk := List.mem_range.mp hk
  rcases (show k = 0 ∨ k = 1 ∨ k = 2 ∨ k = 3 ∨ k = 4 ∨ k = 5 ∨ k = 6 ∨ k = 7 ∨ k = 8 by omega) with rfl | rfl | rfl | rfl | rfl | rfl | rfl | rfl | rfl
  · exact wd_2_125
  · exact wd_2_127
  · exact wd_2_129
  · exact wd_2_131
  · exact wd_2_133
  · exact wd_2_135
  · exact wd_2_137
  · exact wd_2_139
  · exact wd_2_141
theorem wd_2_27 : Cond.laysFinal "RosterRules$LawReader" "RosterRules$LawReader" "tokens" "LRosterRules$Tokens;" ∈ xTbl := xIn_2 (List.mem_of_getElem? (i := 27) (by decide +kernel)) rfl
theorem wd_2_29 : Cond.laysFinal "RosterRules$LawReader" "RosterRules$LawReader" "patterns" "LRosterRules$PatternParser;" ∈ xTbl := xIn_2 (List.mem_of_getElem? (i := 29) (by decide +kernel)) rfl
theorem wd_2_31 : Cond.laysFinal "RosterRules$LawReader" "RosterRules$LawReader" "days" "I" ∈ xTbl := xIn_2 (List.mem_of_getElem? (i := 31) (by decide +kernel)) rfl
theorem wd_2_33 : Cond.lays "RosterRules$LawReader" "RosterRules$LawReader" "fault" "I" ∈ xTbl := xIn_2 (List.mem_of_getElem? (i := 33) (by decide +kernel)) rfl
theorem wd_2_35 : Cond.lays "RosterRules$LawReader" "RosterRules$LawReader" "faultPlace" "I" ∈ xTbl := xIn_2 (List.mem_of_getElem? (i := 35) (by decide +kernel)) rfl
theorem iC_5 : ∀ w ∈ u_ws RC_5 TC_5 5, w ∈ xTbl := fun w h => by
  obtain ⟨k, hk, rfl⟩ := List.mem_map.mp h
  have hk := List.mem_range.mp hk
  rcases (show k = 0 ∨ k = 1 ∨ k = 2 ∨ k = 3 ∨ k = 4 by omega) with rfl | rfl | rfl | rfl | rfl
  · exact wd_2_27
  · exact wd_2_29
  · exact wd_2_31
  · exact wd_2_33
  · exact wd_2_35
theorem wd_1_235 : Cond.laysFinal "RosterRules$PatternParser" "RosterRules$PatternParser" "tape" "LRosterRules$Tape;" ∈ xTbl := xIn_1 (List.mem_of_getElem? (i := 235) (by decide +kernel)) rfl
theorem wd_1_237 : Cond.laysFinal "RosterRules$PatternParser" "RosterRules$PatternParser" "ended" "[I" ∈ xTbl := xIn_1 (List.mem_of_getElem? (i := 237) (by decide +kernel)) rfl
theorem wd_1_239 : Cond.laysFinal "RosterRules$PatternParser" "RosterRules$PatternParser" "rows" "[I" ∈ xTbl := xIn_1 (List.mem_of_getElem? (i := 239) (by decide +kernel)) rfl
theorem wd_2_1 : Cond.laysFinal "RosterRules$PatternParser" "RosterRules$PatternParser" "begins" "[I" ∈ xTbl := xIn_2 (List.mem_of_getElem? (i := 1) (by decide +kernel)) rfl
theorem wd_2_3 : Cond.lays "RosterRules$PatternParser" "RosterRules$PatternParser" "depth" "I" ∈ xTbl := xIn_2 (List.mem_of_getElem? (i := 3) (by decide +kernel)) rfl
theorem wd_2_5 : Cond.lays "RosterRules$PatternParser" "RosterRules$PatternParser" "item" "I" ∈ xTbl := xIn_2 (List.mem_of_getElem? (i := 5) (by decide +kernel)) rfl
theorem wd_2_7 : Cond.lays "RosterRules$PatternParser" "RosterRules$PatternParser" "itemBegin" "I" ∈ xTbl := xIn_2 (List.mem_of_getElem? (i := 7) (by decide +kernel)) rfl
theorem wd_2_9 : Cond.lays "RosterRules$PatternParser" "RosterRules$PatternParser" "repeatable" "Z" ∈ xTbl := xIn_2 (List.mem_of_getElem? (i := 9) (by decide +kernel)) rfl
theorem wd_2_11 : Cond.lays "RosterRules$PatternParser" "RosterRules$PatternParser" "closed" "Z" ∈ xTbl := xIn_2 (List.mem_of_getElem? (i := 11) (by decide +kernel)) rfl
theorem wd_2_13 : Cond.lays "RosterRules$PatternParser" "RosterRules$PatternParser" "next" "I" ∈ xTbl := xIn_2 (List.mem_of_getElem? (i := 13) (by decide +kernel)) rfl
theorem wd_2_15 : Cond.lays "RosterRules$PatternParser" "RosterRules$PatternParser" "fault" "I" ∈ xTbl := xIn_2 (List.mem_of_getElem? (i := 15) (by decide +kernel)) rfl
theorem wd_2_17 : Cond.lays "RosterRules$PatternParser" "RosterRules$PatternParser" "faultPlace" "I" ∈ xTbl := xIn_2 (List.mem_of_getElem? (i := 17) (by decide +kernel)) rfl
theorem iC_6 : ∀ w ∈ u_ws RC_6 TC_6 12, w ∈ xTbl := fun w h => by
  obtain ⟨k, hk, rfl⟩ := List.mem_map.mp h
  have hk := List.mem_range.mp hk
  rcases (show k = 0 ∨ k = 1 ∨ k = 2 ∨ k = 3 ∨ k = 4 ∨ k = 5 ∨ k = 6 ∨ k = 7 ∨ k = 8 ∨ k = 9 ∨ k = 10 ∨ k = 11 by omega) with rfl | rfl | rfl | rfl | rfl | rfl | rfl | rfl | rfl | rfl | rfl | rfl
  · exact wd_1_235
  · exact wd_1_237
  · exact wd_1_239
  · exact wd_2_1
  · exact wd_2_3
  · exact wd_2_5
  · exact wd_2_7
  · exact wd_2_9
  · exact wd_2_11
  · exact wd_2_13
  · exact wd_2_15
  · exact wd_2_17
theorem wd_2_68 : Cond.laysFinal "RosterRules$Positions" "RosterRules$Positions" "takers" "[I" ∈ xTbl := xIn_2 (List.mem_of_getElem? (i := 68) (by decide +kernel)) rfl
theorem wd_2_70 : Cond.laysFinal "RosterRules$Positions" "RosterRules$Positions" "followers" "[I" ∈ xTbl := xIn_2 (List.mem_of_getElem? (i := 70) (by decide +kernel)) rfl
theorem wd_2_72 : Cond.laysFinal "RosterRules$Positions" "RosterRules$Positions" "afterLower" "[I" ∈ xTbl := xIn_2 (List.mem_of_getElem? (i := 72) (by decide +kernel)) rfl
theorem wd_2_74 : Cond.laysFinal "RosterRules$Positions" "RosterRules$Positions" "afterUpper" "[I" ∈ xTbl := xIn_2 (List.mem_of_getElem? (i := 74) (by decide +kernel)) rfl
theorem wd_2_76 : Cond.lays "RosterRules$Positions" "RosterRules$Positions" "size" "I" ∈ xTbl := xIn_2 (List.mem_of_getElem? (i := 76) (by decide +kernel)) rfl
theorem wd_2_78 : Cond.lays "RosterRules$Positions" "RosterRules$Positions" "overfull" "Z" ∈ xTbl := xIn_2 (List.mem_of_getElem? (i := 78) (by decide +kernel)) rfl
theorem wd_2_80 : Cond.lays "RosterRules$Positions" "RosterRules$Positions" "first" "I" ∈ xTbl := xIn_2 (List.mem_of_getElem? (i := 80) (by decide +kernel)) rfl
theorem wd_2_82 : Cond.lays "RosterRules$Positions" "RosterRules$Positions" "last" "I" ∈ xTbl := xIn_2 (List.mem_of_getElem? (i := 82) (by decide +kernel)) rfl
theorem wd_2_84 : Cond.lays "RosterRules$Positions" "RosterRules$Positions" "takesEmpty" "Z" ∈ xTbl := xIn_2 (List.mem_of_getElem? (i := 84) (by decide +kernel)) rfl
theorem iC_7 : ∀ w ∈ u_ws RC_7 TC_7 9, w ∈ xTbl := fun w h => by
  obtain ⟨k, hk, rfl⟩ := List.mem_map.mp h
  have hk := List.mem_range.mp hk
  rcases (show k = 0 ∨ k = 1 ∨ k = 2 ∨ k = 3 ∨ k = 4 ∨ k = 5 ∨ k = 6 ∨ k = 7 ∨ k = 8 by omega) with rfl | rfl | rfl | rfl | rfl | rfl | rfl | rfl | rfl
  · exact wd_2_68
  · exact wd_2_70
  · exact wd_2_72
  · exact wd_2_74
  · exact wd_2_76
  · exact wd_2_78
  · exact wd_2_80
  · exact wd_2_82
  · exact wd_2_84
theorem wd_1_152 : Cond.laysFinal "RosterRules$Roster" "RosterRules$Roster" "people" "I" ∈ xTbl := xIn_1 (List.mem_of_getElem? (i := 152) (by decide +kernel)) rfl
theorem wd_1_154 : Cond.laysFinal "RosterRules$Roster" "RosterRules$Roster" "days" "I" ∈ xTbl := xIn_1 (List.mem_of_getElem? (i := 154) (by decide +kernel)) rfl
theorem wd_1_156 : Cond.laysFinal "RosterRules$Roster" "RosterRules$Roster" "begins" "[I" ∈ xTbl := xIn_1 (List.mem_of_getElem? (i := 156) (by decide +kernel)) rfl
theorem wd_1_158 : Cond.laysFinal "RosterRules$Roster" "RosterRules$Roster" "lengths" "[I" ∈ xTbl := xIn_1 (List.mem_of_getElem? (i := 158) (by decide +kernel)) rfl
theorem wd_1_160 : Cond.laysFinal "RosterRules$Roster" "RosterRules$Roster" "needs" "[I" ∈ xTbl := xIn_1 (List.mem_of_getElem? (i := 160) (by decide +kernel)) rfl
theorem wd_1_162 : Cond.laysFinal "RosterRules$Roster" "RosterRules$Roster" "skills" "[I" ∈ xTbl := xIn_1 (List.mem_of_getElem? (i := 162) (by decide +kernel)) rfl
theorem wd_1_164 : Cond.laysFinal "RosterRules$Roster" "RosterRules$Roster" "rows" "[[I" ∈ xTbl := xIn_1 (List.mem_of_getElem? (i := 164) (by decide +kernel)) rfl
theorem wd_1_166 : Cond.laysFinal "RosterRules$Roster" "RosterRules$Roster" "wished" "[[I" ∈ xTbl := xIn_1 (List.mem_of_getElem? (i := 166) (by decide +kernel)) rfl
theorem wd_1_168 : Cond.laysFinal "RosterRules$Roster" "RosterRules$Roster" "weights" "[[I" ∈ xTbl := xIn_1 (List.mem_of_getElem? (i := 168) (by decide +kernel)) rfl
theorem wd_1_170 : Cond.laysFinal "RosterRules$Roster" "RosterRules$Roster" "timesOf" "[[I" ∈ xTbl := xIn_1 (List.mem_of_getElem? (i := 170) (by decide +kernel)) rfl
theorem wd_1_172 : Cond.laysFinal "RosterRules$Roster" "RosterRules$Roster" "timesOn" "[[I" ∈ xTbl := xIn_1 (List.mem_of_getElem? (i := 172) (by decide +kernel)) rfl
theorem wd_1_174 : Cond.lays "RosterRules$Roster" "RosterRules$Roster" "filled" "I" ∈ xTbl := xIn_1 (List.mem_of_getElem? (i := 174) (by decide +kernel)) rfl
theorem wd_1_176 : Cond.lays "RosterRules$Roster" "RosterRules$Roster" "wishes" "I" ∈ xTbl := xIn_1 (List.mem_of_getElem? (i := 176) (by decide +kernel)) rfl
theorem iC_8 : ∀ w ∈ u_ws RC_8 TC_8 13, w ∈ xTbl := fun w h => by
  obtain ⟨k, hk, rfl⟩ := List.mem_map.mp h
  have hk := List.mem_range.mp hk
  rcases (show k = 0 ∨ k = 1 ∨ k = 2 ∨ k = 3 ∨ k = 4 ∨ k = 5 ∨ k = 6 ∨ k = 7 ∨ k = 8 ∨ k = 9 ∨ k = 10 ∨ k = 11 ∨ k = 12 by omega) with rfl | rfl | rfl | rfl | rfl | rfl | rfl | rfl | rfl | rfl | rfl | rfl | rfl
  · exact wd_1_152
  · exact wd_1_154
  · exact wd_1_156
  · exact wd_1_158
  · exact wd_1_160
  · exact wd_1_162
  · exact wd_1_164
  · exact wd_1_166
  · exact wd_1_168
  · exact wd_1_170
  · exact wd_1_172
  · exact wd_1_174
  · exact wd_1_176
theorem wd_1_38 : Cond.laysFinal "RosterRules$Tape" "RosterRules$Tape" "bytes" "[I" ∈ xTbl := xIn_1 (List.mem_of_getElem? (i := 38) (by decide +kernel)) rfl
theorem wd_1_40 : Cond.lays "RosterRules$Tape" "RosterRules$Tape" "length" "I" ∈ xTbl := xIn_1 (List.mem_of_getElem? (i := 40) (by decide +kernel)) rfl
theorem iC_9 : ∀ w ∈ u_ws RC_9 TC_9 2, w ∈ xTbl := fun w h => by
  obtain ⟨k, hk, rfl⟩ := List.mem_map.mp h
  have hk := List.mem_range.mp hk
  rcases (show k = 0 ∨ k = 1 by omega) with rfl | rfl
  · exact wd_1_38
  · exact wd_1_40
theorem wd_1_206 : Cond.laysFinal "RosterRules$Tokens" "RosterRules$Tokens" "tape" "LRosterRules$Tape;" ∈ xTbl := xIn_1 (List.mem_of_getElem? (i := 206) (by decide +kernel)) rfl
theorem wd_1_208 : Cond.lays "RosterRules$Tokens" "RosterRules$Tokens" "kind" "I" ∈ xTbl := xIn_1 (List.mem_of_getElem? (i := 208) (by decide +kernel)) rfl
theorem wd_1_210 : Cond.lays "RosterRules$Tokens" "RosterRules$Tokens" "begin" "I" ∈ xTbl := xIn_1 (List.mem_of_getElem? (i := 210) (by decide +kernel)) rfl
theorem wd_1_212 : Cond.lays "RosterRules$Tokens" "RosterRules$Tokens" "end" "I" ∈ xTbl := xIn_1 (List.mem_of_getElem? (i := 212) (by decide +kernel)) rfl
theorem iC_10 : ∀ w ∈ u_ws RC_10 TC_10 4, w ∈ xTbl := fun w h => by
  obtain ⟨k, hk, rfl⟩ := List.mem_map.mp h
  have hk := List.mem_range.mp hk
  rcases (show k = 0 ∨ k = 1 ∨ k = 2 ∨ k = 3 by omega) with rfl | rfl | rfl | rfl
  · exact wd_1_206
  · exact wd_1_208
  · exact wd_1_210
  · exact wd_1_212
theorem wd_2_153 : Cond.laysFinal "RosterRules" "RosterRules" "tape" "LRosterRules$Tape;" ∈ xTbl := xIn_2 (List.mem_of_getElem? (i := 153) (by decide +kernel)) rfl
theorem wd_2_155 : Cond.laysFinal "RosterRules" "RosterRules" "roster" "LRosterRules$Roster;" ∈ xTbl := xIn_2 (List.mem_of_getElem? (i := 155) (by decide +kernel)) rfl
theorem wd_2_157 : Cond.laysFinal "RosterRules" "RosterRules" "judge" "LRosterRules$Judge;" ∈ xTbl := xIn_2 (List.mem_of_getElem? (i := 157) (by decide +kernel)) rfl
theorem wd_2_159 : Cond.laysFinal "RosterRules" "RosterRules" "history" "LRosterRules$History;" ∈ xTbl := xIn_2 (List.mem_of_getElem? (i := 159) (by decide +kernel)) rfl
theorem wd_2_161 : Cond.laysFinal "RosterRules" "RosterRules" "reader" "LRosterRules$LawReader;" ∈ xTbl := xIn_2 (List.mem_of_getElem? (i := 161) (by decide +kernel)) rfl
theorem wd_2_163 : Cond.laysFinal "RosterRules" "RosterRules" "maker" "LRosterRules$AutomatonMaker;" ∈ xTbl := xIn_2 (List.mem_of_getElem? (i := 163) (by decide +kernel)) rfl
theorem wd_2_165 : Cond.lays "RosterRules" "RosterRules" "laws" "[LRosterRules$Law;" ∈ xTbl := xIn_2 (List.mem_of_getElem? (i := 165) (by decide +kernel)) rfl
theorem wd_2_167 : Cond.lays "RosterRules" "RosterRules" "spareLaws" "[LRosterRules$Law;" ∈ xTbl := xIn_2 (List.mem_of_getElem? (i := 167) (by decide +kernel)) rfl
theorem wd_2_169 : Cond.lays "RosterRules" "RosterRules" "lawCount" "I" ∈ xTbl := xIn_2 (List.mem_of_getElem? (i := 169) (by decide +kernel)) rfl
theorem iC_11 : ∀ w ∈ u_ws RC_11 TC_11 9, w ∈ xTbl := fun w h => by
  obtain ⟨k, hk, rfl⟩ := List.mem_map.mp h
  have hk := List.mem_range.mp hk
  rcases (show k = 0 ∨ k = 1 ∨ k = 2 ∨ k = 3 ∨ k = 4 ∨ k = 5 ∨ k = 6 ∨ k = 7 ∨ k = 8 by omega) with rfl | rfl | rfl | rfl | rfl | rfl | rfl | rfl | rfl
  · exact wd_2_153
  · exact wd_2_155
  · exact wd_2_157
  · exact wd_2_159
  · exact wd_2_161
  · exact wd_2_163
  · exact wd_2_165
  · exact wd_2_167
  · exact wd_2_169
theorem wd_5_41 : Cond.laysFinal "RosterRulesModel" "RosterRulesModel" "people" "I" ∈ xTbl := xIn_5 (List.mem_of_getElem? (i := 41) (by decide +kernel)) rfl
theorem wd_5_43 : Cond.laysFinal "RosterRulesModel" "RosterRulesModel" "days" "I" ∈ xTbl := xIn_5 (List.mem_of_getElem? (i := 43) (by decide +kernel)) rfl
theorem wd_5_45 : Cond.laysFinal "RosterRulesModel" "RosterRulesModel" "cells" "[I" ∈ xTbl := xIn_5 (List.mem_of_getElem? (i := 45) (by decide +kernel)) rfl
theorem wd_5_47 : Cond.laysFinal "RosterRulesModel" "RosterRulesModel" "past" "[I" ∈ xTbl := xIn_5 (List.mem_of_getElem? (i := 47) (by decide +kernel)) rfl
theorem wd_5_49 : Cond.laysFinal "RosterRulesModel" "RosterRulesModel" "begin" "[I" ∈ xTbl := xIn_5 (List.mem_of_getElem? (i := 49) (by decide +kernel)) rfl
theorem wd_5_51 : Cond.laysFinal "RosterRulesModel" "RosterRulesModel" "minutes" "[I" ∈ xTbl := xIn_5 (List.mem_of_getElem? (i := 51) (by decide +kernel)) rfl
theorem wd_5_53 : Cond.laysFinal "RosterRulesModel" "RosterRulesModel" "skill" "[I" ∈ xTbl := xIn_5 (List.mem_of_getElem? (i := 53) (by decide +kernel)) rfl
theorem wd_5_55 : Cond.laysFinal "RosterRulesModel" "RosterRulesModel" "skills" "[I" ∈ xTbl := xIn_5 (List.mem_of_getElem? (i := 55) (by decide +kernel)) rfl
theorem wd_5_57 : Cond.laysFinal "RosterRulesModel" "RosterRulesModel" "wishShift" "[I" ∈ xTbl := xIn_5 (List.mem_of_getElem? (i := 57) (by decide +kernel)) rfl
theorem wd_5_59 : Cond.laysFinal "RosterRulesModel" "RosterRulesModel" "wishWeight" "[I" ∈ xTbl := xIn_5 (List.mem_of_getElem? (i := 59) (by decide +kernel)) rfl
theorem wd_5_61 : Cond.laysFinal "RosterRulesModel" "RosterRulesModel" "tape" "[B" ∈ xTbl := xIn_5 (List.mem_of_getElem? (i := 61) (by decide +kernel)) rfl
theorem wd_5_63 : Cond.lays "RosterRulesModel" "RosterRulesModel" "tapeSize" "I" ∈ xTbl := xIn_5 (List.mem_of_getElem? (i := 63) (by decide +kernel)) rfl
theorem wd_5_65 : Cond.lays "RosterRulesModel" "RosterRulesModel" "faultPlace" "I" ∈ xTbl := xIn_5 (List.mem_of_getElem? (i := 65) (by decide +kernel)) rfl
theorem wd_5_67 : Cond.laysFinal "RosterRulesModel" "RosterRulesModel" "sort" "[I" ∈ xTbl := xIn_5 (List.mem_of_getElem? (i := 67) (by decide +kernel)) rfl
theorem wd_5_69 : Cond.laysFinal "RosterRulesModel" "RosterRulesModel" "weight" "[I" ∈ xTbl := xIn_5 (List.mem_of_getElem? (i := 69) (by decide +kernel)) rfl
theorem wd_5_71 : Cond.laysFinal "RosterRulesModel" "RosterRulesModel" "placeOf" "[I" ∈ xTbl := xIn_5 (List.mem_of_getElem? (i := 71) (by decide +kernel)) rfl
theorem wd_5_73 : Cond.laysFinal "RosterRulesModel" "RosterRulesModel" "low" "[I" ∈ xTbl := xIn_5 (List.mem_of_getElem? (i := 73) (by decide +kernel)) rfl
theorem wd_5_75 : Cond.laysFinal "RosterRulesModel" "RosterRulesModel" "high" "[I" ∈ xTbl := xIn_5 (List.mem_of_getElem? (i := 75) (by decide +kernel)) rfl
theorem wd_5_77 : Cond.laysFinal "RosterRulesModel" "RosterRulesModel" "length" "[I" ∈ xTbl := xIn_5 (List.mem_of_getElem? (i := 77) (by decide +kernel)) rfl
theorem wd_5_79 : Cond.laysFinal "RosterRulesModel" "RosterRulesModel" "letter" "[I" ∈ xTbl := xIn_5 (List.mem_of_getElem? (i := 79) (by decide +kernel)) rfl
theorem wd_5_81 : Cond.lays "RosterRulesModel" "RosterRulesModel" "laws" "I" ∈ xTbl := xIn_5 (List.mem_of_getElem? (i := 81) (by decide +kernel)) rfl
theorem wd_5_83 : Cond.laysFinal "RosterRulesModel" "RosterRulesModel" "letters" "[I" ∈ xTbl := xIn_5 (List.mem_of_getElem? (i := 83) (by decide +kernel)) rfl
theorem wd_5_85 : Cond.laysFinal "RosterRulesModel" "RosterRulesModel" "follow" "[I" ∈ xTbl := xIn_5 (List.mem_of_getElem? (i := 85) (by decide +kernel)) rfl
theorem wd_5_87 : Cond.laysFinal "RosterRulesModel" "RosterRulesModel" "lasts" "[I" ∈ xTbl := xIn_5 (List.mem_of_getElem? (i := 87) (by decide +kernel)) rfl
theorem wd_5_89 : Cond.laysFinal "RosterRulesModel" "RosterRulesModel" "hasNone" "[Z" ∈ xTbl := xIn_5 (List.mem_of_getElem? (i := 89) (by decide +kernel)) rfl
theorem wd_5_91 : Cond.laysFinal "RosterRulesModel" "RosterRulesModel" "places" "[I" ∈ xTbl := xIn_5 (List.mem_of_getElem? (i := 91) (by decide +kernel)) rfl
theorem wd_5_93 : Cond.laysFinal "RosterRulesModel" "RosterRulesModel" "states" "[I" ∈ xTbl := xIn_5 (List.mem_of_getElem? (i := 93) (by decide +kernel)) rfl
theorem wd_5_95 : Cond.laysFinal "RosterRulesModel" "RosterRulesModel" "next" "[I" ∈ xTbl := xIn_5 (List.mem_of_getElem? (i := 95) (by decide +kernel)) rfl
theorem wd_5_97 : Cond.laysFinal "RosterRulesModel" "RosterRulesModel" "ends" "[Z" ∈ xTbl := xIn_5 (List.mem_of_getElem? (i := 97) (by decide +kernel)) rfl
theorem wd_5_99 : Cond.laysFinal "RosterRulesModel" "RosterRulesModel" "undoCell" "[I" ∈ xTbl := xIn_5 (List.mem_of_getElem? (i := 99) (by decide +kernel)) rfl
theorem wd_5_101 : Cond.laysFinal "RosterRulesModel" "RosterRulesModel" "undoShift" "[I" ∈ xTbl := xIn_5 (List.mem_of_getElem? (i := 101) (by decide +kernel)) rfl
theorem wd_5_103 : Cond.lays "RosterRulesModel" "RosterRulesModel" "undoFrom" "I" ∈ xTbl := xIn_5 (List.mem_of_getElem? (i := 103) (by decide +kernel)) rfl
theorem wd_5_105 : Cond.lays "RosterRulesModel" "RosterRulesModel" "undoCount" "I" ∈ xTbl := xIn_5 (List.mem_of_getElem? (i := 105) (by decide +kernel)) rfl
theorem wd_5_107 : Cond.lays "RosterRulesModel" "RosterRulesModel" "thrown" "I" ∈ xTbl := xIn_5 (List.mem_of_getElem? (i := 107) (by decide +kernel)) rfl
theorem wd_5_109 : Cond.lays "RosterRulesModel" "RosterRulesModel" "at" "I" ∈ xTbl := xIn_5 (List.mem_of_getElem? (i := 109) (by decide +kernel)) rfl
theorem wd_5_111 : Cond.lays "RosterRulesModel" "RosterRulesModel" "token" "I" ∈ xTbl := xIn_5 (List.mem_of_getElem? (i := 111) (by decide +kernel)) rfl
theorem wd_5_113 : Cond.lays "RosterRulesModel" "RosterRulesModel" "tokenAt" "I" ∈ xTbl := xIn_5 (List.mem_of_getElem? (i := 113) (by decide +kernel)) rfl
theorem wd_5_115 : Cond.lays "RosterRulesModel" "RosterRulesModel" "tokenEnd" "I" ∈ xTbl := xIn_5 (List.mem_of_getElem? (i := 115) (by decide +kernel)) rfl
theorem wd_5_117 : Cond.lays "RosterRulesModel" "RosterRulesModel" "tokenWord" "J" ∈ xTbl := xIn_5 (List.mem_of_getElem? (i := 117) (by decide +kernel)) rfl
theorem wd_5_119 : Cond.lays "RosterRulesModel" "RosterRulesModel" "fault" "I" ∈ xTbl := xIn_5 (List.mem_of_getElem? (i := 119) (by decide +kernel)) rfl
theorem wd_5_121 : Cond.lays "RosterRulesModel" "RosterRulesModel" "faultAt" "I" ∈ xTbl := xIn_5 (List.mem_of_getElem? (i := 121) (by decide +kernel)) rfl
theorem wd_5_123 : Cond.lays "RosterRulesModel" "RosterRulesModel" "stores" "Z" ∈ xTbl := xIn_5 (List.mem_of_getElem? (i := 123) (by decide +kernel)) rfl
theorem wd_5_125 : Cond.lays "RosterRulesModel" "RosterRulesModel" "pp" "I" ∈ xTbl := xIn_5 (List.mem_of_getElem? (i := 125) (by decide +kernel)) rfl
theorem wd_5_127 : Cond.lays "RosterRulesModel" "RosterRulesModel" "used" "I" ∈ xTbl := xIn_5 (List.mem_of_getElem? (i := 127) (by decide +kernel)) rfl
theorem wd_5_129 : Cond.lays "RosterRulesModel" "RosterRulesModel" "own" "I" ∈ xTbl := xIn_5 (List.mem_of_getElem? (i := 129) (by decide +kernel)) rfl
theorem wd_5_131 : Cond.laysFinal "RosterRulesModel" "RosterRulesModel" "over" "[I" ∈ xTbl := xIn_5 (List.mem_of_getElem? (i := 131) (by decide +kernel)) rfl
theorem wd_5_133 : Cond.laysFinal "RosterRulesModel" "RosterRulesModel" "inRow" "[I" ∈ xTbl := xIn_5 (List.mem_of_getElem? (i := 133) (by decide +kernel)) rfl
theorem wd_5_135 : Cond.laysFinal "RosterRulesModel" "RosterRulesModel" "inItem" "[I" ∈ xTbl := xIn_5 (List.mem_of_getElem? (i := 135) (by decide +kernel)) rfl
theorem wd_5_137 : Cond.laysFinal "RosterRulesModel" "RosterRulesModel" "hasItem" "[Z" ∈ xTbl := xIn_5 (List.mem_of_getElem? (i := 137) (by decide +kernel)) rfl
theorem wd_5_139 : Cond.laysFinal "RosterRulesModel" "RosterRulesModel" "allOf" "[J" ∈ xTbl := xIn_5 (List.mem_of_getElem? (i := 139) (by decide +kernel)) rfl
theorem wd_5_141 : Cond.laysFinal "RosterRulesModel" "RosterRulesModel" "rowOf" "[J" ∈ xTbl := xIn_5 (List.mem_of_getElem? (i := 141) (by decide +kernel)) rfl
theorem wd_5_143 : Cond.laysFinal "RosterRulesModel" "RosterRulesModel" "itemOf" "[J" ∈ xTbl := xIn_5 (List.mem_of_getElem? (i := 143) (by decide +kernel)) rfl
theorem wd_5_145 : Cond.laysFinal "RosterRulesModel" "RosterRulesModel" "hasAll" "[Z" ∈ xTbl := xIn_5 (List.mem_of_getElem? (i := 145) (by decide +kernel)) rfl
theorem wd_5_147 : Cond.laysFinal "RosterRulesModel" "RosterRulesModel" "hasRow" "[Z" ∈ xTbl := xIn_5 (List.mem_of_getElem? (i := 147) (by decide +kernel)) rfl
theorem wd_5_149 : Cond.laysFinal "RosterRulesModel" "RosterRulesModel" "itemFrom" "[I" ∈ xTbl := xIn_5 (List.mem_of_getElem? (i := 149) (by decide +kernel)) rfl
theorem wd_5_151 : Cond.laysFinal "RosterRulesModel" "RosterRulesModel" "groupFrom" "[I" ∈ xTbl := xIn_5 (List.mem_of_getElem? (i := 151) (by decide +kernel)) rfl
theorem wd_5_153 : Cond.laysFinal "RosterRulesModel" "RosterRulesModel" "sets" "[I" ∈ xTbl := xIn_5 (List.mem_of_getElem? (i := 153) (by decide +kernel)) rfl
theorem wd_5_155 : Cond.laysFinal "RosterRulesModel" "RosterRulesModel" "idOf" "[I" ∈ xTbl := xIn_5 (List.mem_of_getElem? (i := 155) (by decide +kernel)) rfl
theorem wd_5_157 : Cond.laysFinal "RosterRulesModel" "RosterRulesModel" "lead" "[I" ∈ xTbl := xIn_5 (List.mem_of_getElem? (i := 157) (by decide +kernel)) rfl
theorem wd_5_159 : Cond.laysFinal "RosterRulesModel" "RosterRulesModel" "group" "[I" ∈ xTbl := xIn_5 (List.mem_of_getElem? (i := 159) (by decide +kernel)) rfl
theorem wd_5_161 : Cond.laysFinal "RosterRulesModel" "RosterRulesModel" "fresh" "[I" ∈ xTbl := xIn_5 (List.mem_of_getElem? (i := 161) (by decide +kernel)) rfl
theorem wd_5_163 : Cond.laysFinal "RosterRulesModel" "RosterRulesModel" "model" "[I" ∈ xTbl := xIn_5 (List.mem_of_getElem? (i := 163) (by decide +kernel)) rfl
theorem wd_5_165 : Cond.laysFinal "RosterRulesModel" "RosterRulesModel" "number" "[I" ∈ xTbl := xIn_5 (List.mem_of_getElem? (i := 165) (by decide +kernel)) rfl
theorem wd_5_167 : Cond.laysFinal "RosterRulesModel" "RosterRulesModel" "ways" "[J" ∈ xTbl := xIn_5 (List.mem_of_getElem? (i := 167) (by decide +kernel)) rfl
theorem wd_5_169 : Cond.laysFinal "RosterRulesModel" "RosterRulesModel" "waysOn" "[J" ∈ xTbl := xIn_5 (List.mem_of_getElem? (i := 169) (by decide +kernel)) rfl
theorem iC_12 : ∀ w ∈ u_ws RC_12 TC_12 65, w ∈ xTbl := fun w h => by
  obtain ⟨k, hk, rfl⟩ := List.mem_map.mp h
  have hk := List.mem_range.mp hk
  rcases (show k = 0 ∨ k = 1 ∨ k = 2 ∨ k = 3 ∨ k = 4 ∨ k = 5 ∨ k = 6 ∨ k = 7 ∨ k = 8 ∨ k = 9 ∨ k = 10 ∨ k = 11 ∨ k = 12 ∨ k = 13 ∨ k = 14 ∨ k = 15 ∨ k = 16 ∨ k = 17 ∨ k = 18 ∨ k = 19 ∨ k = 20 ∨ k = 21 ∨ k = 22 ∨ k = 23 ∨ k = 24 ∨ k = 25 ∨ k = 26 ∨ k = 27 ∨ k = 28 ∨ k = 29 ∨ k = 30 ∨ k = 31 ∨ k = 32 ∨ k = 33 ∨ k = 34 ∨ k = 35 ∨ k = 36 ∨ k = 37 ∨ k = 38 ∨ k = 39 ∨ k = 40 ∨ k = 41 ∨ k = 42 ∨ k = 43 ∨ k = 44 ∨ k = 45 ∨ k = 46 ∨ k = 47 ∨ k = 48 ∨ k = 49 ∨ k = 50 ∨ k = 51 ∨ k = 52 ∨ k = 53 ∨ k = 54 ∨ k = 55 ∨ k = 56 ∨ k = 57 ∨ k = 58 ∨ k = 59 ∨ k = 60 ∨ k = 61 ∨ k = 62 ∨ k = 63 ∨ k = 64 by omega) with rfl | rfl | rfl | rfl | rfl | rfl | rfl | rfl | rfl | rfl | rfl | rfl | rfl | rfl | rfl | rfl | rfl | rfl | rfl | rfl | rfl | rfl | rfl | rfl | rfl | rfl | rfl | rfl | rfl | rfl | rfl | rfl | rfl | rfl | rfl | rfl | rfl | rfl | rfl | rfl | rfl | rfl | rfl | rfl | rfl | rfl | rfl | rfl | rfl | rfl | rfl | rfl | rfl | rfl | rfl | rfl | rfl | rfl | rfl | rfl | rfl | rfl | rfl | rfl | rfl
  · exact wd_5_41
  · exact wd_5_43
  · exact wd_5_45
  · exact wd_5_47
  · exact wd_5_49
  · exact wd_5_51
  · exact wd_5_53
  · exact wd_5_55
  · exact wd_5_57
  · exact wd_5_59
  · exact wd_5_61
  · exact wd_5_63
  · exact wd_5_65
  · exact wd_5_67
  · exact wd_5_69
  · exact wd_5_71
  · exact wd_5_73
  · exact wd_5_75
  · exact wd_5_77
  · exact wd_5_79
  · exact wd_5_81
  · exact wd_5_83
  · exact wd_5_85
  · exact wd_5_87
  · exact wd_5_89
  · exact wd_5_91
  · exact wd_5_93
  · exact wd_5_95
  · exact wd_5_97
  · exact wd_5_99
  · exact wd_5_101
  · exact wd_5_103
  · exact wd_5_105
  · exact wd_5_107
  · exact wd_5_109
  · exact wd_5_111
  · exact wd_5_113
  · exact wd_5_115
  · exact wd_5_117
  · exact wd_5_119
  · exact wd_5_121
  · exact wd_5_123
  · exact wd_5_125
  · exact wd_5_127
  · exact wd_5_129
  · exact wd_5_131
  · exact wd_5_133
  · exact wd_5_135
  · exact wd_5_137
  · exact wd_5_139
  · exact wd_5_141
  · exact wd_5_143
  · exact wd_5_145
  · exact wd_5_147
  · exact wd_5_149
  · exact wd_5_151
  · exact wd_5_153
  · exact wd_5_155
  · exact wd_5_157
  · exact wd_5_159
  · exact wd_5_161
  · exact wd_5_163
  · exact wd_5_165
  · exact wd_5_167
  · exact wd_5_169
theorem wd_2_92 : Cond.methodLink "RosterRules$Automaton" 3 ⟨"java/lang/Object", "<init>", "()V"⟩ ∈ xTbl := xIn_2 (List.mem_of_getElem? (i := 92) (by decide +kernel)) rfl
theorem wd_1_25 : Cond.instanceMethod ⟨"java/lang/Object", "<init>", "()V"⟩ ∈ xTbl := xIn_1 (List.mem_of_getElem? (i := 25) (by decide +kernel)) rfl
theorem wd_1_26 : Cond.code ⟨"java/lang/Object", "<init>", "()V"⟩ object_method_1_code 1 (none : Option FieldType) ∈ xTbl := xIn_1 (List.mem_of_getElem? (i := 26) rfl) rfl
theorem ob_Automaton_3 : xOb "RosterRules$Automaton" 3 := ⟨wd_2_92, wd_1_25, wd_1_26⟩
theorem wd_2_93 : Cond.fieldLink "RosterRules$Automaton" 9 "RosterRules$Automaton" "table" "[I" ∈ xTbl := xIn_2 (List.mem_of_getElem? (i := 93) (by decide +kernel)) rfl
theorem lp_Automaton_9 : xLp "RosterRules$Automaton" 9 0 0 (.array .int) := ⟨RC_0, TC_0, 2, yC_0, rfl, by decide, iC_0, Or.inl wd_2_93, pC_0, nC_0, rfl, by decide +kernel⟩
def y_Automaton_init : MethodName := ⟨"RosterRules$Automaton", "<init>", "()V"⟩
abbrev b_Automaton_init : ByteArray := prog_2_method_1_code
def ws_Automaton_init : List Cond := Cond.code y_Automaton_init b_Automaton_init 1 none :: xTbl
theorem lk_Automaton_9 : xLk "RosterRules$Automaton" 9 0 0 := ⟨RC_0, TC_0, 2, rfl, by decide, iC_0, Or.inl wd_2_93⟩
theorem wd_4_162 : Cond.methodLink "RosterRules$Automaton" 15 ⟨"java/lang/Math", "max", "(II)I"⟩ ∈ xTbl := xIn_4 (List.mem_of_getElem? (i := 162) (by decide +kernel)) rfl
theorem wd_1_114 : Cond.static ⟨"java/lang/Math", "max", "(II)I"⟩ ∈ xTbl := xIn_1 (List.mem_of_getElem? (i := 114) (by decide +kernel)) rfl
theorem wd_1_6 : Cond.initialized "java/lang/Math" ∈ xTbl := xIn_1 (List.mem_of_getElem? (i := 6) (by decide +kernel)) rfl
theorem wd_1_115 : Cond.code ⟨"java/lang/Math", "max", "(II)I"⟩ prog_15_method_65_code 2 (some FieldType.int) ∈ xTbl := xIn_1 (List.mem_of_getElem? (i := 115) rfl) rfl
theorem lm_Automaton_15 : xMx "RosterRules$Automaton" 15 := ⟨wd_4_162, wd_1_114, wd_1_6, wd_1_115⟩
theorem wd_4_163 : Cond.methodLink "RosterRules$Automaton" 23 ⟨"java/lang/Math", "min", "(II)I"⟩ ∈ xTbl := xIn_4 (List.mem_of_getElem? (i := 163) (by decide +kernel)) rfl
theorem wd_1_111 : Cond.static ⟨"java/lang/Math", "min", "(II)I"⟩ ∈ xTbl := xIn_1 (List.mem_of_getElem? (i := 111) (by decide +kernel)) rfl
theorem wd_1_112 : Cond.code ⟨"java/lang/Math", "min", "(II)I"⟩ prog_15_method_69_code 2 (some FieldType.int) ∈ xTbl := xIn_1 (List.mem_of_getElem? (i := 112) rfl) rfl
theorem lm_Automaton_23 : xMn "RosterRules$Automaton" 23 := ⟨wd_4_163, wd_1_111, wd_1_6, wd_1_112⟩
def y_Automaton_reserve : MethodName := ⟨"RosterRules$Automaton", "reserve", "(I)V"⟩
abbrev b_Automaton_reserve : ByteArray := prog_2_method_2_code
def ws_Automaton_reserve : List Cond := Cond.code y_Automaton_reserve b_Automaton_reserve 3 none :: xTbl
def y_Automaton_entry : MethodName := ⟨"RosterRules$Automaton", "entry", "(II)I"⟩
abbrev b_Automaton_entry : ByteArray := prog_2_method_3_code
def ws_Automaton_entry : List Cond := Cond.code y_Automaton_entry b_Automaton_entry 4 (some .int) :: xTbl
theorem wd_2_96 : Cond.fieldLink "RosterRules$Automaton" 26 "RosterRules$Automaton" "states" "I" ∈ xTbl := xIn_2 (List.mem_of_getElem? (i := 96) (by decide +kernel)) rfl
theorem lk_Automaton_26 : xLk "RosterRules$Automaton" 26 0 1 := ⟨RC_0, TC_0, 2, rfl, by decide, iC_0, Or.inl wd_2_96⟩
def y_Automaton_equalTo : MethodName := ⟨"RosterRules$Automaton", "equalTo", "(LRosterRules$Automaton;)Z"⟩
abbrev b_Automaton_equalTo : ByteArray := prog_2_method_4_code
def ws_Automaton_equalTo : List Cond := Cond.code y_Automaton_equalTo b_Automaton_equalTo 3 (some .boolean) :: xTbl
def y_Automaton_firstWayTo : MethodName := ⟨"RosterRules$Automaton", "firstWayTo", "(I)I"⟩
abbrev b_Automaton_firstWayTo : ByteArray := prog_2_method_6_code
def ws_Automaton_firstWayTo : List Cond := Cond.code y_Automaton_firstWayTo b_Automaton_firstWayTo 3 (some .int) :: xTbl
theorem wd_4_198 : Cond.methodLink "RosterRules$Automaton" 30 ⟨"RosterRules$Automaton", "entry", "(II)I"⟩ ∈ xTbl := xIn_4 (List.mem_of_getElem? (i := 198) (by decide +kernel)) rfl
theorem wd_4_169 : Cond.instanceMethod ⟨"RosterRules$Automaton", "entry", "(II)I"⟩ ∈ xTbl := xIn_4 (List.mem_of_getElem? (i := 169) (by decide +kernel)) rfl
theorem wd_4_170 : Cond.selects "RosterRules$Automaton" ⟨"RosterRules$Automaton", "entry", "(II)I"⟩ ⟨"RosterRules$Automaton", "entry", "(II)I"⟩ ∈ xTbl := xIn_4 (List.mem_of_getElem? (i := 170) (by decide +kernel)) rfl
theorem wd_1_13 : Cond.initialized "RosterRules$Automaton" ∈ xTbl := xIn_1 (List.mem_of_getElem? (i := 13) (by decide +kernel)) rfl
theorem wd_4_171 : Cond.code ⟨"RosterRules$Automaton", "entry", "(II)I"⟩ prog_2_method_3_code 4 (some FieldType.int) ∈ xTbl := xIn_4 (List.mem_of_getElem? (i := 171) rfl) rfl
theorem gv_Automaton_30 : GoodIn xTbl (wsV "RosterRules$Automaton" 30 "RosterRules$Automaton" y_Automaton_entry ws_Automaton_entry) := xGV wd_4_198 wd_4_169 wd_4_170 wd_1_13 wd_4_171
theorem hd_Automaton_entry : y_Automaton_entry.cls = "RosterRules$Automaton" ∧ y_Automaton_entry.cls ≠ "java/lang/invoke/MethodHandle" ∧ y_Automaton_entry.cls ≠ "java/lang/invoke/VarHandle" ∧ (parseMethodDescriptor y_Automaton_entry.desc).map (fun d => d.parameters.length) = some 2 := by decide +kernel
theorem wd_4_199 : Cond.methodLink "RosterRules$Automaton" 33 ⟨"RosterRules$Automaton", "firstWayTo", "(I)I"⟩ ∈ xTbl := xIn_4 (List.mem_of_getElem? (i := 199) (by decide +kernel)) rfl
theorem wd_4_201 : Cond.instanceMethod ⟨"RosterRules$Automaton", "firstWayTo", "(I)I"⟩ ∈ xTbl := xIn_4 (List.mem_of_getElem? (i := 201) (by decide +kernel)) rfl
theorem wz_48 : Cond.selects "RosterRules$Automaton" ⟨"RosterRules$Automaton", "firstWayTo", "(I)I"⟩ ⟨"RosterRules$Automaton", "firstWayTo", "(I)I"⟩ ∈ xTbl := List.mem_filter.mpr ⟨List.mem_append_left _ (List.mem_of_getElem? (i := 48) (by decide +kernel)), rfl⟩
theorem wd_4_202 : Cond.code ⟨"RosterRules$Automaton", "firstWayTo", "(I)I"⟩ prog_2_method_6_code 3 (some FieldType.int) ∈ xTbl := xIn_4 (List.mem_of_getElem? (i := 202) rfl) rfl
theorem gv_Automaton_33 : GoodIn xTbl (wsV "RosterRules$Automaton" 33 "RosterRules$Automaton" y_Automaton_firstWayTo ws_Automaton_firstWayTo) := xGV wd_4_199 wd_4_201 wz_48 wd_1_13 wd_4_202
theorem hd_Automaton_firstWayTo : y_Automaton_firstWayTo.cls = "RosterRules$Automaton" ∧ y_Automaton_firstWayTo.cls ≠ "java/lang/invoke/MethodHandle" ∧ y_Automaton_firstWayTo.cls ≠ "java/lang/invoke/VarHandle" ∧ (parseMethodDescriptor y_Automaton_firstWayTo.desc).map (fun d => d.parameters.length) = some 1 := by decide +kernel
def y_Automaton_letterOfShortest : MethodName := ⟨"RosterRules$Automaton", "letterOfShortest", "(I)I"⟩
abbrev b_Automaton_letterOfShortest : ByteArray := prog_2_method_5_code
def ws_Automaton_letterOfShortest : List Cond := Cond.code y_Automaton_letterOfShortest b_Automaton_letterOfShortest 6 (some .int) :: xTbl
theorem wd_1_76 : Cond.methodLink "RosterRules$AutomatonMaker" 5 ⟨"java/lang/Object", "<init>", "()V"⟩ ∈ xTbl := xIn_1 (List.mem_of_getElem? (i := 76) (by decide +kernel)) rfl
theorem ob_AutomatonMaker_5 : xOb "RosterRules$AutomatonMaker" 5 := ⟨wd_1_76, wd_1_25, wd_1_26⟩
theorem wd_1_77 : Cond.fieldLink "RosterRules$AutomatonMaker" 13 "RosterRules$AutomatonMaker" "sets" "[I" ∈ xTbl := xIn_1 (List.mem_of_getElem? (i := 77) (by decide +kernel)) rfl
theorem lf_AutomatonMaker_13 : xLf "RosterRules$AutomatonMaker" 13 1 0 (.array .int) := ⟨RC_1, TC_1, 9, yC_1, rfl, by decide, iC_1, wd_1_77, pC_1, nC_1, rfl, rfl, by decide +kernel⟩
theorem wd_1_78 : Cond.fieldLink "RosterRules$AutomatonMaker" 17 "RosterRules$AutomatonMaker" "numbers" "[I" ∈ xTbl := xIn_1 (List.mem_of_getElem? (i := 78) (by decide +kernel)) rfl
theorem lf_AutomatonMaker_17 : xLf "RosterRules$AutomatonMaker" 17 1 1 (.array .int) := ⟨RC_1, TC_1, 9, yC_1, rfl, by decide, iC_1, wd_1_78, pC_1, nC_1, rfl, rfl, by decide +kernel⟩
theorem wd_1_79 : Cond.fieldLink "RosterRules$AutomatonMaker" 20 "RosterRules$AutomatonMaker" "targets" "[I" ∈ xTbl := xIn_1 (List.mem_of_getElem? (i := 79) (by decide +kernel)) rfl
theorem lf_AutomatonMaker_20 : xLf "RosterRules$AutomatonMaker" 20 1 2 (.array .int) := ⟨RC_1, TC_1, 9, yC_1, rfl, by decide, iC_1, wd_1_79, pC_1, nC_1, rfl, rfl, by decide +kernel⟩
theorem wd_1_80 : Cond.fieldLink "RosterRules$AutomatonMaker" 23 "RosterRules$AutomatonMaker" "slots" "[I" ∈ xTbl := xIn_1 (List.mem_of_getElem? (i := 80) (by decide +kernel)) rfl
theorem lf_AutomatonMaker_23 : xLf "RosterRules$AutomatonMaker" 23 1 3 (.array .int) := ⟨RC_1, TC_1, 9, yC_1, rfl, by decide, iC_1, wd_1_80, pC_1, nC_1, rfl, rfl, by decide +kernel⟩
theorem wd_1_81 : Cond.fieldLink "RosterRules$AutomatonMaker" 26 "RosterRules$AutomatonMaker" "parts" "[I" ∈ xTbl := xIn_1 (List.mem_of_getElem? (i := 81) (by decide +kernel)) rfl
theorem lp_AutomatonMaker_26 : xLp "RosterRules$AutomatonMaker" 26 1 4 (.array .int) := ⟨RC_1, TC_1, 9, yC_1, rfl, by decide, iC_1, Or.inl wd_1_81, pC_1, nC_1, rfl, by decide +kernel⟩
theorem wd_1_82 : Cond.fieldLink "RosterRules$AutomatonMaker" 29 "RosterRules$AutomatonMaker" "finerParts" "[I" ∈ xTbl := xIn_1 (List.mem_of_getElem? (i := 82) (by decide +kernel)) rfl
theorem lp_AutomatonMaker_29 : xLp "RosterRules$AutomatonMaker" 29 1 5 (.array .int) := ⟨RC_1, TC_1, 9, yC_1, rfl, by decide, iC_1, Or.inl wd_1_82, pC_1, nC_1, rfl, by decide +kernel⟩
theorem wd_1_83 : Cond.fieldLink "RosterRules$AutomatonMaker" 32 "RosterRules$AutomatonMaker" "ways" "[J" ∈ xTbl := xIn_1 (List.mem_of_getElem? (i := 83) (by decide +kernel)) rfl
theorem lp_AutomatonMaker_32 : xLp "RosterRules$AutomatonMaker" 32 1 6 (.array .long) := ⟨RC_1, TC_1, 9, yC_1, rfl, by decide, iC_1, Or.inl wd_1_83, pC_1, nC_1, rfl, by decide +kernel⟩
theorem wd_1_84 : Cond.fieldLink "RosterRules$AutomatonMaker" 36 "RosterRules$AutomatonMaker" "longerWays" "[J" ∈ xTbl := xIn_1 (List.mem_of_getElem? (i := 84) (by decide +kernel)) rfl
theorem lp_AutomatonMaker_36 : xLp "RosterRules$AutomatonMaker" 36 1 7 (.array .long) := ⟨RC_1, TC_1, 9, yC_1, rfl, by decide, iC_1, Or.inl wd_1_84, pC_1, nC_1, rfl, by decide +kernel⟩
def y_AutomatonMaker_init : MethodName := ⟨"RosterRules$AutomatonMaker", "<init>", "()V"⟩
abbrev b_AutomatonMaker_init : ByteArray := prog_3_method_1_code
def ws_AutomatonMaker_init : List Cond := Cond.code y_AutomatonMaker_init b_AutomatonMaker_init 1 none :: xTbl
theorem lk_AutomatonMaker_17 : xLk "RosterRules$AutomatonMaker" 17 1 1 := ⟨RC_1, TC_1, 9, rfl, by decide, iC_1, Or.inl wd_1_78⟩
theorem wd_1_85 : Cond.fieldLink "RosterRules$AutomatonMaker" 47 "RosterRules$AutomatonMaker" "states" "I" ∈ xTbl := xIn_1 (List.mem_of_getElem? (i := 85) (by decide +kernel)) rfl
theorem lk_AutomatonMaker_47 : xLk "RosterRules$AutomatonMaker" 47 1 8 := ⟨RC_1, TC_1, 9, rfl, by decide, iC_1, Or.inl wd_1_85⟩
theorem lk_AutomatonMaker_13 : xLk "RosterRules$AutomatonMaker" 13 1 0 := ⟨RC_1, TC_1, 9, rfl, by decide, iC_1, Or.inl wd_1_77⟩
theorem lp_AutomatonMaker_47 : xLp "RosterRules$AutomatonMaker" 47 1 8 .int := ⟨RC_1, TC_1, 9, yC_1, rfl, by decide, iC_1, Or.inl wd_1_85, pC_1, nC_1, rfl, by decide +kernel⟩
theorem wd_4_132 : Cond.methodLink "RosterRules$AutomatonMaker" 72 ⟨"java/lang/Math", "max", "(II)I"⟩ ∈ xTbl := xIn_4 (List.mem_of_getElem? (i := 132) (by decide +kernel)) rfl
theorem lm_AutomatonMaker_72 : xMx "RosterRules$AutomatonMaker" 72 := ⟨wd_4_132, wd_1_114, wd_1_6, wd_1_115⟩
def y_AutomatonMaker_numberOf : MethodName := ⟨"RosterRules$AutomatonMaker", "numberOf", "(I)I"⟩
abbrev b_AutomatonMaker_numberOf : ByteArray := prog_3_method_4_code
def ws_AutomatonMaker_numberOf : List Cond := Cond.code y_AutomatonMaker_numberOf b_AutomatonMaker_numberOf 2 (some .int) :: xTbl
theorem wd_2_53 : Cond.fieldLink "RosterRules$Positions" 18 "RosterRules$Positions" "afterLower" "[I" ∈ xTbl := xIn_2 (List.mem_of_getElem? (i := 53) (by decide +kernel)) rfl
theorem lk_Positions_18 : xLk "RosterRules$Positions" 18 7 2 := ⟨RC_7, TC_7, 9, rfl, by decide, iC_7, Or.inl wd_2_53⟩
theorem wd_2_54 : Cond.fieldLink "RosterRules$Positions" 21 "RosterRules$Positions" "afterUpper" "[I" ∈ xTbl := xIn_2 (List.mem_of_getElem? (i := 54) (by decide +kernel)) rfl
theorem lk_Positions_21 : xLk "RosterRules$Positions" 21 7 3 := ⟨RC_7, TC_7, 9, rfl, by decide, iC_7, Or.inl wd_2_54⟩
def y_Positions_after : MethodName := ⟨"RosterRules$Positions", "after", "(I)I"⟩
abbrev b_Positions_after : ByteArray := prog_9_method_8_code
def ws_Positions_after : List Cond := Cond.code y_Positions_after b_Positions_after 2 (some .int) :: xTbl
theorem wd_4_128 : Cond.methodLink "RosterRules$AutomatonMaker" 59 ⟨"RosterRules$AutomatonMaker", "numberOf", "(I)I"⟩ ∈ xTbl := xIn_4 (List.mem_of_getElem? (i := 128) (by decide +kernel)) rfl
theorem wd_4_130 : Cond.instanceMethod ⟨"RosterRules$AutomatonMaker", "numberOf", "(I)I"⟩ ∈ xTbl := xIn_4 (List.mem_of_getElem? (i := 130) (by decide +kernel)) rfl
theorem wz_41 : Cond.selects "RosterRules$AutomatonMaker" ⟨"RosterRules$AutomatonMaker", "numberOf", "(I)I"⟩ ⟨"RosterRules$AutomatonMaker", "numberOf", "(I)I"⟩ ∈ xTbl := List.mem_filter.mpr ⟨List.mem_append_left _ (List.mem_of_getElem? (i := 41) (by decide +kernel)), rfl⟩
theorem wd_1_4 : Cond.initialized "RosterRules$AutomatonMaker" ∈ xTbl := xIn_1 (List.mem_of_getElem? (i := 4) (by decide +kernel)) rfl
theorem wd_4_131 : Cond.code ⟨"RosterRules$AutomatonMaker", "numberOf", "(I)I"⟩ prog_3_method_4_code 2 (some FieldType.int) ∈ xTbl := xIn_4 (List.mem_of_getElem? (i := 131) rfl) rfl
theorem gv_AutomatonMaker_59 : GoodIn xTbl (wsV "RosterRules$AutomatonMaker" 59 "RosterRules$AutomatonMaker" y_AutomatonMaker_numberOf ws_AutomatonMaker_numberOf) := xGV wd_4_128 wd_4_130 wz_41 wd_1_4 wd_4_131
theorem hd_AutomatonMaker_numberOf : y_AutomatonMaker_numberOf.cls = "RosterRules$AutomatonMaker" ∧ y_AutomatonMaker_numberOf.cls ≠ "java/lang/invoke/MethodHandle" ∧ y_AutomatonMaker_numberOf.cls ≠ "java/lang/invoke/VarHandle" ∧ (parseMethodDescriptor y_AutomatonMaker_numberOf.desc).map (fun d => d.parameters.length) = some 1 := by decide +kernel
theorem wn_2_60 : Cond.fieldLinkNest "RosterRules$AutomatonMaker" 63 "RosterRules$Positions" "first" "I" "RosterRules" ∈ xNs := xNs_2 (List.mem_of_getElem? (i := 60) (by decide +kernel)) rfl
theorem lk_AutomatonMaker_63 : xLk "RosterRules$AutomatonMaker" 63 7 6 := ⟨RC_7, TC_7, 9, rfl, by decide, iC_7, Or.inr ⟨"RosterRules", wn_2_60⟩⟩
theorem lk_AutomatonMaker_20 : xLk "RosterRules$AutomatonMaker" 20 1 2 := ⟨RC_1, TC_1, 9, rfl, by decide, iC_1, Or.inl wd_1_79⟩
theorem wn_2_50 : Cond.fieldLinkNest "RosterRules$AutomatonMaker" 69 "RosterRules$Positions" "takers" "[I" "RosterRules" ∈ xNs := xNs_2 (List.mem_of_getElem? (i := 50) (by decide +kernel)) rfl
theorem lk_AutomatonMaker_69 : xLk "RosterRules$AutomatonMaker" 69 7 0 := ⟨RC_7, TC_7, 9, rfl, by decide, iC_7, Or.inr ⟨"RosterRules", wn_2_50⟩⟩
theorem wd_4_133 : Cond.methodLink "RosterRules$AutomatonMaker" 66 ⟨"RosterRules$Positions", "after", "(I)I"⟩ ∈ xTbl := xIn_4 (List.mem_of_getElem? (i := 133) (by decide +kernel)) rfl
theorem wd_4_19 : Cond.instanceMethod ⟨"RosterRules$Positions", "after", "(I)I"⟩ ∈ xTbl := xIn_4 (List.mem_of_getElem? (i := 19) (by decide +kernel)) rfl
theorem wd_4_20 : Cond.selects "RosterRules$Positions" ⟨"RosterRules$Positions", "after", "(I)I"⟩ ⟨"RosterRules$Positions", "after", "(I)I"⟩ ∈ xTbl := xIn_4 (List.mem_of_getElem? (i := 20) (by decide +kernel)) rfl
theorem wd_1_12 : Cond.initialized "RosterRules$Positions" ∈ xTbl := xIn_1 (List.mem_of_getElem? (i := 12) (by decide +kernel)) rfl
theorem wd_4_21 : Cond.code ⟨"RosterRules$Positions", "after", "(I)I"⟩ prog_9_method_8_code 2 (some FieldType.int) ∈ xTbl := xIn_4 (List.mem_of_getElem? (i := 21) rfl) rfl
theorem gv_AutomatonMaker_66 : GoodIn xTbl (wsV "RosterRules$AutomatonMaker" 66 "RosterRules$Positions" y_Positions_after ws_Positions_after) := xGV wd_4_133 wd_4_19 wd_4_20 wd_1_12 wd_4_21
theorem hd_Positions_after : y_Positions_after.cls = "RosterRules$Positions" ∧ y_Positions_after.cls ≠ "java/lang/invoke/MethodHandle" ∧ y_Positions_after.cls ≠ "java/lang/invoke/VarHandle" ∧ (parseMethodDescriptor y_Positions_after.desc).map (fun d => d.parameters.length) = some 1 := by decide +kernel
def y_AutomatonMaker_explore : MethodName := ⟨"RosterRules$AutomatonMaker", "explore", "(LRosterRules$Positions;)V"⟩
abbrev b_AutomatonMaker_explore : ByteArray := prog_3_method_3_code
def ws_AutomatonMaker_explore : List Cond := Cond.code y_AutomatonMaker_explore b_AutomatonMaker_explore 5 none :: xTbl
theorem wn_2_66 : Cond.fieldLinkNest "RosterRules$AutomatonMaker" 78 "RosterRules$Positions" "takesEmpty" "Z" "RosterRules" ∈ xNs := xNs_2 (List.mem_of_getElem? (i := 66) (by decide +kernel)) rfl
theorem lk_AutomatonMaker_78 : xLk "RosterRules$AutomatonMaker" 78 7 8 := ⟨RC_7, TC_7, 9, rfl, by decide, iC_7, Or.inr ⟨"RosterRules", wn_2_66⟩⟩
theorem wn_2_63 : Cond.fieldLinkNest "RosterRules$AutomatonMaker" 82 "RosterRules$Positions" "last" "I" "RosterRules" ∈ xNs := xNs_2 (List.mem_of_getElem? (i := 63) (by decide +kernel)) rfl
theorem lk_AutomatonMaker_82 : xLk "RosterRules$AutomatonMaker" 82 7 7 := ⟨RC_7, TC_7, 9, rfl, by decide, iC_7, Or.inr ⟨"RosterRules", wn_2_63⟩⟩
def y_AutomatonMaker_mayEnd : MethodName := ⟨"RosterRules$AutomatonMaker", "mayEnd", "(LRosterRules$Positions;I)Z"⟩
abbrev b_AutomatonMaker_mayEnd : ByteArray := prog_3_method_5_code
def ws_AutomatonMaker_mayEnd : List Cond := Cond.code y_AutomatonMaker_mayEnd b_AutomatonMaker_mayEnd 3 (some .boolean) :: xTbl
theorem lk_AutomatonMaker_26 : xLk "RosterRules$AutomatonMaker" 26 1 4 := ⟨RC_1, TC_1, 9, rfl, by decide, iC_1, Or.inl wd_1_81⟩
theorem wd_4_138 : Cond.methodLink "RosterRules$AutomatonMaker" 85 ⟨"RosterRules$AutomatonMaker", "mayEnd", "(LRosterRules$Positions;I)Z"⟩ ∈ xTbl := xIn_4 (List.mem_of_getElem? (i := 138) (by decide +kernel)) rfl
theorem wd_4_140 : Cond.instanceMethod ⟨"RosterRules$AutomatonMaker", "mayEnd", "(LRosterRules$Positions;I)Z"⟩ ∈ xTbl := xIn_4 (List.mem_of_getElem? (i := 140) (by decide +kernel)) rfl
theorem wz_43 : Cond.selects "RosterRules$AutomatonMaker" ⟨"RosterRules$AutomatonMaker", "mayEnd", "(LRosterRules$Positions;I)Z"⟩ ⟨"RosterRules$AutomatonMaker", "mayEnd", "(LRosterRules$Positions;I)Z"⟩ ∈ xTbl := List.mem_filter.mpr ⟨List.mem_append_left _ (List.mem_of_getElem? (i := 43) (by decide +kernel)), rfl⟩
theorem wd_4_141 : Cond.code ⟨"RosterRules$AutomatonMaker", "mayEnd", "(LRosterRules$Positions;I)Z"⟩ prog_3_method_5_code 3 (some FieldType.boolean) ∈ xTbl := xIn_4 (List.mem_of_getElem? (i := 141) rfl) rfl
theorem gv_AutomatonMaker_85 : GoodIn xTbl (wsV "RosterRules$AutomatonMaker" 85 "RosterRules$AutomatonMaker" y_AutomatonMaker_mayEnd ws_AutomatonMaker_mayEnd) := xGV wd_4_138 wd_4_140 wz_43 wd_1_4 wd_4_141
theorem hd_AutomatonMaker_mayEnd : y_AutomatonMaker_mayEnd.cls = "RosterRules$AutomatonMaker" ∧ y_AutomatonMaker_mayEnd.cls ≠ "java/lang/invoke/MethodHandle" ∧ y_AutomatonMaker_mayEnd.cls ≠ "java/lang/invoke/VarHandle" ∧ (parseMethodDescriptor y_AutomatonMaker_mayEnd.desc).map (fun d => d.parameters.length) = some 2 := by decide +kernel
def y_AutomatonMaker_partByEnds : MethodName := ⟨"RosterRules$AutomatonMaker", "partByEnds", "(LRosterRules$Positions;)I"⟩
abbrev b_AutomatonMaker_partByEnds : ByteArray := prog_3_method_6_code
def ws_AutomatonMaker_partByEnds : List Cond := Cond.code y_AutomatonMaker_partByEnds b_AutomatonMaker_partByEnds 4 (some .int) :: xTbl
def y_AutomatonMaker_together : MethodName := ⟨"RosterRules$AutomatonMaker", "together", "(II)Z"⟩
abbrev b_AutomatonMaker_together : ByteArray := prog_3_method_9_code
def ws_AutomatonMaker_together : List Cond := Cond.code y_AutomatonMaker_together b_AutomatonMaker_together 5 (some .boolean) :: xTbl
theorem lk_AutomatonMaker_23 : xLk "RosterRules$AutomatonMaker" 23 1 3 := ⟨RC_1, TC_1, 9, rfl, by decide, iC_1, Or.inl wd_1_80⟩
theorem wd_4_150 : Cond.methodLink "RosterRules$AutomatonMaker" 92 ⟨"RosterRules$AutomatonMaker", "together", "(II)Z"⟩ ∈ xTbl := xIn_4 (List.mem_of_getElem? (i := 150) (by decide +kernel)) rfl
theorem wd_4_152 : Cond.instanceMethod ⟨"RosterRules$AutomatonMaker", "together", "(II)Z"⟩ ∈ xTbl := xIn_4 (List.mem_of_getElem? (i := 152) (by decide +kernel)) rfl
theorem wz_46 : Cond.selects "RosterRules$AutomatonMaker" ⟨"RosterRules$AutomatonMaker", "together", "(II)Z"⟩ ⟨"RosterRules$AutomatonMaker", "together", "(II)Z"⟩ ∈ xTbl := List.mem_filter.mpr ⟨List.mem_append_left _ (List.mem_of_getElem? (i := 46) (by decide +kernel)), rfl⟩
theorem wd_4_153 : Cond.code ⟨"RosterRules$AutomatonMaker", "together", "(II)Z"⟩ prog_3_method_9_code 5 (some FieldType.boolean) ∈ xTbl := xIn_4 (List.mem_of_getElem? (i := 153) rfl) rfl
theorem gv_AutomatonMaker_92 : GoodIn xTbl (wsV "RosterRules$AutomatonMaker" 92 "RosterRules$AutomatonMaker" y_AutomatonMaker_together ws_AutomatonMaker_together) := xGV wd_4_150 wd_4_152 wz_46 wd_1_4 wd_4_153
theorem hd_AutomatonMaker_together : y_AutomatonMaker_together.cls = "RosterRules$AutomatonMaker" ∧ y_AutomatonMaker_together.cls ≠ "java/lang/invoke/MethodHandle" ∧ y_AutomatonMaker_together.cls ≠ "java/lang/invoke/VarHandle" ∧ (parseMethodDescriptor y_AutomatonMaker_together.desc).map (fun d => d.parameters.length) = some 2 := by decide +kernel
def y_AutomatonMaker_slotOf : MethodName := ⟨"RosterRules$AutomatonMaker", "slotOf", "(I)I"⟩
abbrev b_AutomatonMaker_slotOf : ByteArray := prog_3_method_8_code
def ws_AutomatonMaker_slotOf : List Cond := Cond.code y_AutomatonMaker_slotOf b_AutomatonMaker_slotOf 5 (some .int) :: xTbl
theorem wd_4_146 : Cond.methodLink "RosterRules$AutomatonMaker" 89 ⟨"RosterRules$AutomatonMaker", "slotOf", "(I)I"⟩ ∈ xTbl := xIn_4 (List.mem_of_getElem? (i := 146) (by decide +kernel)) rfl
theorem wd_4_148 : Cond.instanceMethod ⟨"RosterRules$AutomatonMaker", "slotOf", "(I)I"⟩ ∈ xTbl := xIn_4 (List.mem_of_getElem? (i := 148) (by decide +kernel)) rfl
theorem wz_45 : Cond.selects "RosterRules$AutomatonMaker" ⟨"RosterRules$AutomatonMaker", "slotOf", "(I)I"⟩ ⟨"RosterRules$AutomatonMaker", "slotOf", "(I)I"⟩ ∈ xTbl := List.mem_filter.mpr ⟨List.mem_append_left _ (List.mem_of_getElem? (i := 45) (by decide +kernel)), rfl⟩
theorem wd_4_149 : Cond.code ⟨"RosterRules$AutomatonMaker", "slotOf", "(I)I"⟩ prog_3_method_8_code 5 (some FieldType.int) ∈ xTbl := xIn_4 (List.mem_of_getElem? (i := 149) rfl) rfl
theorem gv_AutomatonMaker_89 : GoodIn xTbl (wsV "RosterRules$AutomatonMaker" 89 "RosterRules$AutomatonMaker" y_AutomatonMaker_slotOf ws_AutomatonMaker_slotOf) := xGV wd_4_146 wd_4_148 wz_45 wd_1_4 wd_4_149
theorem hd_AutomatonMaker_slotOf : y_AutomatonMaker_slotOf.cls = "RosterRules$AutomatonMaker" ∧ y_AutomatonMaker_slotOf.cls ≠ "java/lang/invoke/MethodHandle" ∧ y_AutomatonMaker_slotOf.cls ≠ "java/lang/invoke/VarHandle" ∧ (parseMethodDescriptor y_AutomatonMaker_slotOf.desc).map (fun d => d.parameters.length) = some 1 := by decide +kernel
theorem lk_AutomatonMaker_29 : xLk "RosterRules$AutomatonMaker" 29 1 5 := ⟨RC_1, TC_1, 9, rfl, by decide, iC_1, Or.inl wd_1_82⟩
def y_AutomatonMaker_refine : MethodName := ⟨"RosterRules$AutomatonMaker", "refine", "()I"⟩
abbrev b_AutomatonMaker_refine : ByteArray := prog_3_method_7_code
def ws_AutomatonMaker_refine : List Cond := Cond.code y_AutomatonMaker_refine b_AutomatonMaker_refine 4 (some .int) :: xTbl
theorem wd_4_158 : Cond.methodLink "RosterRules$AutomatonMaker" 96 ⟨"RosterRules$Automaton", "reserve", "(I)V"⟩ ∈ xTbl := xIn_4 (List.mem_of_getElem? (i := 158) (by decide +kernel)) rfl
theorem wd_4_159 : Cond.instanceMethod ⟨"RosterRules$Automaton", "reserve", "(I)V"⟩ ∈ xTbl := xIn_4 (List.mem_of_getElem? (i := 159) (by decide +kernel)) rfl
theorem wd_4_160 : Cond.selects "RosterRules$Automaton" ⟨"RosterRules$Automaton", "reserve", "(I)V"⟩ ⟨"RosterRules$Automaton", "reserve", "(I)V"⟩ ∈ xTbl := xIn_4 (List.mem_of_getElem? (i := 160) (by decide +kernel)) rfl
theorem wd_4_161 : Cond.code ⟨"RosterRules$Automaton", "reserve", "(I)V"⟩ prog_2_method_2_code 3 (none : Option FieldType) ∈ xTbl := xIn_4 (List.mem_of_getElem? (i := 161) rfl) rfl
theorem gv_AutomatonMaker_96 : GoodIn xTbl (wsV "RosterRules$AutomatonMaker" 96 "RosterRules$Automaton" y_Automaton_reserve ws_Automaton_reserve) := xGV wd_4_158 wd_4_159 wd_4_160 wd_1_13 wd_4_161
theorem hd_Automaton_reserve : y_Automaton_reserve.cls = "RosterRules$Automaton" ∧ y_Automaton_reserve.cls ≠ "java/lang/invoke/MethodHandle" ∧ y_Automaton_reserve.cls ≠ "java/lang/invoke/VarHandle" ∧ (parseMethodDescriptor y_Automaton_reserve.desc).map (fun d => d.parameters.length) = some 1 := by decide +kernel
theorem wn_2_94 : Cond.fieldLinkNest "RosterRules$AutomatonMaker" 102 "RosterRules$Automaton" "table" "[I" "RosterRules" ∈ xNs := xNs_2 (List.mem_of_getElem? (i := 94) (by decide +kernel)) rfl
theorem lk_AutomatonMaker_102 : xLk "RosterRules$AutomatonMaker" 102 0 0 := ⟨RC_0, TC_0, 2, rfl, by decide, iC_0, Or.inr ⟨"RosterRules", wn_2_94⟩⟩
theorem wn_2_97 : Cond.fieldLinkNest "RosterRules$AutomatonMaker" 105 "RosterRules$Automaton" "states" "I" "RosterRules" ∈ xNs := xNs_2 (List.mem_of_getElem? (i := 97) (by decide +kernel)) rfl
theorem lp_AutomatonMaker_105 : xLp "RosterRules$AutomatonMaker" 105 0 1 .int := ⟨RC_0, TC_0, 2, yC_0, rfl, by decide, iC_0, Or.inr ⟨"RosterRules", wn_2_97⟩, pC_0, nC_0, rfl, by decide +kernel⟩
def y_AutomatonMaker_copyParts : MethodName := ⟨"RosterRules$AutomatonMaker", "copyParts", "(LRosterRules$Positions;LRosterRules$Automaton;I)V"⟩
abbrev b_AutomatonMaker_copyParts : ByteArray := prog_3_method_10_code
def ws_AutomatonMaker_copyParts : List Cond := Cond.code y_AutomatonMaker_copyParts b_AutomatonMaker_copyParts 7 none :: xTbl
theorem wd_4_124 : Cond.methodLink "RosterRules$AutomatonMaker" 39 ⟨"RosterRules$AutomatonMaker", "explore", "(LRosterRules$Positions;)V"⟩ ∈ xTbl := xIn_4 (List.mem_of_getElem? (i := 124) (by decide +kernel)) rfl
theorem wd_4_126 : Cond.instanceMethod ⟨"RosterRules$AutomatonMaker", "explore", "(LRosterRules$Positions;)V"⟩ ∈ xTbl := xIn_4 (List.mem_of_getElem? (i := 126) (by decide +kernel)) rfl
theorem wz_40 : Cond.selects "RosterRules$AutomatonMaker" ⟨"RosterRules$AutomatonMaker", "explore", "(LRosterRules$Positions;)V"⟩ ⟨"RosterRules$AutomatonMaker", "explore", "(LRosterRules$Positions;)V"⟩ ∈ xTbl := List.mem_filter.mpr ⟨List.mem_append_left _ (List.mem_of_getElem? (i := 40) (by decide +kernel)), rfl⟩
theorem wd_4_127 : Cond.code ⟨"RosterRules$AutomatonMaker", "explore", "(LRosterRules$Positions;)V"⟩ prog_3_method_3_code 5 (none : Option FieldType) ∈ xTbl := xIn_4 (List.mem_of_getElem? (i := 127) rfl) rfl
theorem gv_AutomatonMaker_39 : GoodIn xTbl (wsV "RosterRules$AutomatonMaker" 39 "RosterRules$AutomatonMaker" y_AutomatonMaker_explore ws_AutomatonMaker_explore) := xGV wd_4_124 wd_4_126 wz_40 wd_1_4 wd_4_127
theorem hd_AutomatonMaker_explore : y_AutomatonMaker_explore.cls = "RosterRules$AutomatonMaker" ∧ y_AutomatonMaker_explore.cls ≠ "java/lang/invoke/MethodHandle" ∧ y_AutomatonMaker_explore.cls ≠ "java/lang/invoke/VarHandle" ∧ (parseMethodDescriptor y_AutomatonMaker_explore.desc).map (fun d => d.parameters.length) = some 1 := by decide +kernel
theorem wd_4_134 : Cond.methodLink "RosterRules$AutomatonMaker" 43 ⟨"RosterRules$AutomatonMaker", "partByEnds", "(LRosterRules$Positions;)I"⟩ ∈ xTbl := xIn_4 (List.mem_of_getElem? (i := 134) (by decide +kernel)) rfl
theorem wd_4_136 : Cond.instanceMethod ⟨"RosterRules$AutomatonMaker", "partByEnds", "(LRosterRules$Positions;)I"⟩ ∈ xTbl := xIn_4 (List.mem_of_getElem? (i := 136) (by decide +kernel)) rfl
theorem wz_42 : Cond.selects "RosterRules$AutomatonMaker" ⟨"RosterRules$AutomatonMaker", "partByEnds", "(LRosterRules$Positions;)I"⟩ ⟨"RosterRules$AutomatonMaker", "partByEnds", "(LRosterRules$Positions;)I"⟩ ∈ xTbl := List.mem_filter.mpr ⟨List.mem_append_left _ (List.mem_of_getElem? (i := 42) (by decide +kernel)), rfl⟩
theorem wd_4_137 : Cond.code ⟨"RosterRules$AutomatonMaker", "partByEnds", "(LRosterRules$Positions;)I"⟩ prog_3_method_6_code 4 (some FieldType.int) ∈ xTbl := xIn_4 (List.mem_of_getElem? (i := 137) rfl) rfl
theorem gv_AutomatonMaker_43 : GoodIn xTbl (wsV "RosterRules$AutomatonMaker" 43 "RosterRules$AutomatonMaker" y_AutomatonMaker_partByEnds ws_AutomatonMaker_partByEnds) := xGV wd_4_134 wd_4_136 wz_42 wd_1_4 wd_4_137
theorem hd_AutomatonMaker_partByEnds : y_AutomatonMaker_partByEnds.cls = "RosterRules$AutomatonMaker" ∧ y_AutomatonMaker_partByEnds.cls ≠ "java/lang/invoke/MethodHandle" ∧ y_AutomatonMaker_partByEnds.cls ≠ "java/lang/invoke/VarHandle" ∧ (parseMethodDescriptor y_AutomatonMaker_partByEnds.desc).map (fun d => d.parameters.length) = some 1 := by decide +kernel
theorem wd_4_142 : Cond.methodLink "RosterRules$AutomatonMaker" 51 ⟨"RosterRules$AutomatonMaker", "refine", "()I"⟩ ∈ xTbl := xIn_4 (List.mem_of_getElem? (i := 142) (by decide +kernel)) rfl
theorem wd_4_144 : Cond.instanceMethod ⟨"RosterRules$AutomatonMaker", "refine", "()I"⟩ ∈ xTbl := xIn_4 (List.mem_of_getElem? (i := 144) (by decide +kernel)) rfl
theorem wz_44 : Cond.selects "RosterRules$AutomatonMaker" ⟨"RosterRules$AutomatonMaker", "refine", "()I"⟩ ⟨"RosterRules$AutomatonMaker", "refine", "()I"⟩ ∈ xTbl := List.mem_filter.mpr ⟨List.mem_append_left _ (List.mem_of_getElem? (i := 44) (by decide +kernel)), rfl⟩
theorem wd_4_145 : Cond.code ⟨"RosterRules$AutomatonMaker", "refine", "()I"⟩ prog_3_method_7_code 4 (some FieldType.int) ∈ xTbl := xIn_4 (List.mem_of_getElem? (i := 145) rfl) rfl
theorem gv_AutomatonMaker_51 : GoodIn xTbl (wsV "RosterRules$AutomatonMaker" 51 "RosterRules$AutomatonMaker" y_AutomatonMaker_refine ws_AutomatonMaker_refine) := xGV wd_4_142 wd_4_144 wz_44 wd_1_4 wd_4_145
theorem hd_AutomatonMaker_refine : y_AutomatonMaker_refine.cls = "RosterRules$AutomatonMaker" ∧ y_AutomatonMaker_refine.cls ≠ "java/lang/invoke/MethodHandle" ∧ y_AutomatonMaker_refine.cls ≠ "java/lang/invoke/VarHandle" ∧ (parseMethodDescriptor y_AutomatonMaker_refine.desc).map (fun d => d.parameters.length) = some 0 := by decide +kernel
theorem wd_4_154 : Cond.methodLink "RosterRules$AutomatonMaker" 55 ⟨"RosterRules$AutomatonMaker", "copyParts", "(LRosterRules$Positions;LRosterRules$Automaton;I)V"⟩ ∈ xTbl := xIn_4 (List.mem_of_getElem? (i := 154) (by decide +kernel)) rfl
theorem wd_4_156 : Cond.instanceMethod ⟨"RosterRules$AutomatonMaker", "copyParts", "(LRosterRules$Positions;LRosterRules$Automaton;I)V"⟩ ∈ xTbl := xIn_4 (List.mem_of_getElem? (i := 156) (by decide +kernel)) rfl
theorem wz_47 : Cond.selects "RosterRules$AutomatonMaker" ⟨"RosterRules$AutomatonMaker", "copyParts", "(LRosterRules$Positions;LRosterRules$Automaton;I)V"⟩ ⟨"RosterRules$AutomatonMaker", "copyParts", "(LRosterRules$Positions;LRosterRules$Automaton;I)V"⟩ ∈ xTbl := List.mem_filter.mpr ⟨List.mem_append_left _ (List.mem_of_getElem? (i := 47) (by decide +kernel)), rfl⟩
theorem wd_4_157 : Cond.code ⟨"RosterRules$AutomatonMaker", "copyParts", "(LRosterRules$Positions;LRosterRules$Automaton;I)V"⟩ prog_3_method_10_code 7 (none : Option FieldType) ∈ xTbl := xIn_4 (List.mem_of_getElem? (i := 157) rfl) rfl
theorem gv_AutomatonMaker_55 : GoodIn xTbl (wsV "RosterRules$AutomatonMaker" 55 "RosterRules$AutomatonMaker" y_AutomatonMaker_copyParts ws_AutomatonMaker_copyParts) := xGV wd_4_154 wd_4_156 wz_47 wd_1_4 wd_4_157
theorem hd_AutomatonMaker_copyParts : y_AutomatonMaker_copyParts.cls = "RosterRules$AutomatonMaker" ∧ y_AutomatonMaker_copyParts.cls ≠ "java/lang/invoke/MethodHandle" ∧ y_AutomatonMaker_copyParts.cls ≠ "java/lang/invoke/VarHandle" ∧ (parseMethodDescriptor y_AutomatonMaker_copyParts.desc).map (fun d => d.parameters.length) = some 3 := by decide +kernel
def y_AutomatonMaker_make : MethodName := ⟨"RosterRules$AutomatonMaker", "make", "(LRosterRules$Positions;LRosterRules$Automaton;)V"⟩
abbrev b_AutomatonMaker_make : ByteArray := prog_3_method_2_code
def ws_AutomatonMaker_make : List Cond := Cond.code y_AutomatonMaker_make b_AutomatonMaker_make 6 none :: xTbl
theorem lk_AutomatonMaker_105 : xLk "RosterRules$AutomatonMaker" 105 0 1 := ⟨RC_0, TC_0, 2, rfl, by decide, iC_0, Or.inr ⟨"RosterRules", wn_2_97⟩⟩
theorem wd_4_188 : Cond.methodLink "RosterRules$AutomatonMaker" 106 ⟨"java/lang/Math", "min", "(II)I"⟩ ∈ xTbl := xIn_4 (List.mem_of_getElem? (i := 188) (by decide +kernel)) rfl
theorem lm_AutomatonMaker_106 : xMn "RosterRules$AutomatonMaker" 106 := ⟨wd_4_188, wd_1_111, wd_1_6, wd_1_112⟩
theorem lk_AutomatonMaker_32 : xLk "RosterRules$AutomatonMaker" 32 1 6 := ⟨RC_1, TC_1, 9, rfl, by decide, iC_1, Or.inl wd_1_83⟩
theorem wd_4_189 : Cond.methodLink "RosterRules$AutomatonMaker" 109 ⟨"RosterRules$Automaton", "entry", "(II)I"⟩ ∈ xTbl := xIn_4 (List.mem_of_getElem? (i := 189) (by decide +kernel)) rfl
theorem gv_AutomatonMaker_109 : GoodIn xTbl (wsV "RosterRules$AutomatonMaker" 109 "RosterRules$Automaton" y_Automaton_entry ws_Automaton_entry) := xGV wd_4_189 wd_4_169 wd_4_170 wd_1_13 wd_4_171
theorem lk_AutomatonMaker_36 : xLk "RosterRules$AutomatonMaker" 36 1 7 := ⟨RC_1, TC_1, 9, rfl, by decide, iC_1, Or.inl wd_1_84⟩
def y_AutomatonMaker_wordsOf : MethodName := ⟨"RosterRules$AutomatonMaker", "wordsOf", "(LRosterRules$Automaton;I)J"⟩
abbrev b_AutomatonMaker_wordsOf : ByteArray := prog_3_method_11_code
def ws_AutomatonMaker_wordsOf : List Cond := Cond.code y_AutomatonMaker_wordsOf b_AutomatonMaker_wordsOf 9 (some .long) :: xTbl
theorem wd_1_49 : Cond.methodLink "RosterRules$History" 1 ⟨"java/lang/Object", "<init>", "()V"⟩ ∈ xTbl := xIn_1 (List.mem_of_getElem? (i := 49) (by decide +kernel)) rfl
theorem ob_History_1 : xOb "RosterRules$History" 1 := ⟨wd_1_49, wd_1_25, wd_1_26⟩
theorem wd_1_50 : Cond.fieldLink "RosterRules$History" 9 "RosterRules$History" "people" "[I" ∈ xTbl := xIn_1 (List.mem_of_getElem? (i := 50) (by decide +kernel)) rfl
theorem lf_History_9 : xLf "RosterRules$History" 9 2 0 (.array .int) := ⟨RC_2, TC_2, 5, yC_2, rfl, by decide, iC_2, wd_1_50, pC_2, nC_2, rfl, rfl, by decide +kernel⟩
theorem wd_1_52 : Cond.fieldLink "RosterRules$History" 13 "RosterRules$History" "days" "[I" ∈ xTbl := xIn_1 (List.mem_of_getElem? (i := 52) (by decide +kernel)) rfl
theorem lf_History_13 : xLf "RosterRules$History" 13 2 1 (.array .int) := ⟨RC_2, TC_2, 5, yC_2, rfl, by decide, iC_2, wd_1_52, pC_2, nC_2, rfl, rfl, by decide +kernel⟩
theorem wd_1_54 : Cond.fieldLink "RosterRules$History" 16 "RosterRules$History" "letters" "[I" ∈ xTbl := xIn_1 (List.mem_of_getElem? (i := 54) (by decide +kernel)) rfl
theorem lf_History_16 : xLf "RosterRules$History" 16 2 2 (.array .int) := ⟨RC_2, TC_2, 5, yC_2, rfl, by decide, iC_2, wd_1_54, pC_2, nC_2, rfl, rfl, by decide +kernel⟩
def y_History_init : MethodName := ⟨"RosterRules$History", "<init>", "()V"⟩
abbrev b_History_init : ByteArray := prog_4_method_1_code
def ws_History_init : List Cond := Cond.code y_History_init b_History_init 1 none :: xTbl
theorem wd_1_56 : Cond.fieldLink "RosterRules$History" 19 "RosterRules$History" "newest" "I" ∈ xTbl := xIn_1 (List.mem_of_getElem? (i := 56) (by decide +kernel)) rfl
theorem lk_History_19 : xLk "RosterRules$History" 19 2 3 := ⟨RC_2, TC_2, 5, rfl, by decide, iC_2, Or.inl wd_1_56⟩
theorem lp_History_19 : xLp "RosterRules$History" 19 2 3 .int := ⟨RC_2, TC_2, 5, yC_2, rfl, by decide, iC_2, Or.inl wd_1_56, pC_2, nC_2, rfl, by decide +kernel⟩
theorem lk_History_9 : xLk "RosterRules$History" 9 2 0 := ⟨RC_2, TC_2, 5, rfl, by decide, iC_2, Or.inl wd_1_50⟩
theorem lk_History_13 : xLk "RosterRules$History" 13 2 1 := ⟨RC_2, TC_2, 5, rfl, by decide, iC_2, Or.inl wd_1_52⟩
theorem lk_History_16 : xLk "RosterRules$History" 16 2 2 := ⟨RC_2, TC_2, 5, rfl, by decide, iC_2, Or.inl wd_1_54⟩
theorem wd_1_58 : Cond.fieldLink "RosterRules$History" 23 "RosterRules$History" "kept" "I" ∈ xTbl := xIn_1 (List.mem_of_getElem? (i := 58) (by decide +kernel)) rfl
theorem lk_History_23 : xLk "RosterRules$History" 23 2 4 := ⟨RC_2, TC_2, 5, rfl, by decide, iC_2, Or.inl wd_1_58⟩
theorem wd_4_46 : Cond.methodLink "RosterRules$History" 26 ⟨"java/lang/Math", "min", "(II)I"⟩ ∈ xTbl := xIn_4 (List.mem_of_getElem? (i := 46) (by decide +kernel)) rfl
theorem lm_History_26 : xMn "RosterRules$History" 26 := ⟨wd_4_46, wd_1_111, wd_1_6, wd_1_112⟩
theorem lp_History_23 : xLp "RosterRules$History" 23 2 4 .int := ⟨RC_2, TC_2, 5, yC_2, rfl, by decide, iC_2, Or.inl wd_1_58, pC_2, nC_2, rfl, by decide +kernel⟩
def y_History_keep : MethodName := ⟨"RosterRules$History", "keep", "(III)V"⟩
abbrev b_History_keep : ByteArray := prog_4_method_2_code
def ws_History_keep : List Cond := Cond.code y_History_keep b_History_keep 4 none :: xTbl
def y_History_dropNewest : MethodName := ⟨"RosterRules$History", "dropNewest", "()V"⟩
abbrev b_History_dropNewest : ByteArray := prog_4_method_3_code
def ws_History_dropNewest : List Cond := Cond.code y_History_dropNewest b_History_dropNewest 1 none :: xTbl
theorem wd_1_184 : Cond.methodLink "RosterRules$Judge" 3 ⟨"java/lang/Object", "<init>", "()V"⟩ ∈ xTbl := xIn_1 (List.mem_of_getElem? (i := 184) (by decide +kernel)) rfl
theorem ob_Judge_3 : xOb "RosterRules$Judge" 3 := ⟨wd_1_184, wd_1_25, wd_1_26⟩
theorem wd_1_185 : Cond.fieldLink "RosterRules$Judge" 9 "RosterRules$Judge" "roster" "LRosterRules$Roster;" ∈ xTbl := xIn_1 (List.mem_of_getElem? (i := 185) (by decide +kernel)) rfl
theorem lf_Judge_9 : xLf "RosterRules$Judge" 9 3 0 (.object "RosterRules$Roster") := ⟨RC_3, TC_3, 1, yC_3, rfl, by decide, iC_3, wd_1_185, pC_3, nC_3, rfl, rfl, by decide +kernel⟩
def y_Judge_init : MethodName := ⟨"RosterRules$Judge", "<init>", "(LRosterRules$Roster;)V"⟩
abbrev b_Judge_init : ByteArray := prog_5_method_1_code
def ws_Judge_init : List Cond := Cond.code y_Judge_init b_Judge_init 2 none :: xTbl
theorem lk_Judge_9 : xLk "RosterRules$Judge" 9 3 0 := ⟨RC_3, TC_3, 1, rfl, by decide, iC_3, Or.inl wd_1_185⟩
theorem wn_1_145 : Cond.fieldLinkNest "RosterRules$Judge" 95 "RosterRules$Roster" "timesOf" "[[I" "RosterRules" ∈ xNs := xNs_1 (List.mem_of_getElem? (i := 145) (by decide +kernel)) rfl
theorem lk_Judge_95 : xLk "RosterRules$Judge" 95 8 9 := ⟨RC_8, TC_8, 13, rfl, by decide, iC_8, Or.inr ⟨"RosterRules", wn_1_145⟩⟩
theorem wn_1_123 : Cond.fieldLinkNest "RosterRules$Judge" 37 "RosterRules$Roster" "people" "I" "RosterRules" ∈ xNs := xNs_1 (List.mem_of_getElem? (i := 123) (by decide +kernel)) rfl
theorem lk_Judge_37 : xLk "RosterRules$Judge" 37 8 0 := ⟨RC_8, TC_8, 13, rfl, by decide, iC_8, Or.inr ⟨"RosterRules", wn_1_123⟩⟩
theorem wd_3_237 : Cond.methodLink "RosterRules$Judge" 72 ⟨"java/lang/Math", "max", "(II)I"⟩ ∈ xTbl := xIn_3 (List.mem_of_getElem? (i := 237) (by decide +kernel)) rfl
theorem lm_Judge_72 : xMx "RosterRules$Judge" 72 := ⟨wd_3_237, wd_1_114, wd_1_6, wd_1_115⟩
theorem wd_3_238 : Cond.methodLink "RosterRules$Judge" 78 ⟨"java/lang/Math", "min", "(II)I"⟩ ∈ xTbl := xIn_3 (List.mem_of_getElem? (i := 238) (by decide +kernel)) rfl
theorem lm_Judge_78 : xMn "RosterRules$Judge" 78 := ⟨wd_3_238, wd_1_111, wd_1_6, wd_1_112⟩
def y_Judge_unfairness : MethodName := ⟨"RosterRules$Judge", "unfairness", "(I)J"⟩
abbrev b_Judge_unfairness : ByteArray := prog_5_method_7_code
def ws_Judge_unfairness : List Cond := Cond.code y_Judge_unfairness b_Judge_unfairness 5 (some .long) :: xTbl
theorem wn_2_117 : Cond.fieldLinkNest "RosterRules$Judge" 47 "RosterRules$Law" "low" "I" "RosterRules" ∈ xNs := xNs_2 (List.mem_of_getElem? (i := 117) (by decide +kernel)) rfl
theorem lk_Judge_47 : xLk "RosterRules$Judge" 47 4 5 := ⟨RC_4, TC_4, 9, rfl, by decide, iC_4, Or.inr ⟨"RosterRules", wn_2_117⟩⟩
theorem wd_4_11 : Cond.methodLink "RosterRules$Judge" 89 ⟨"java/lang/Math", "max", "(JJ)J"⟩ ∈ xTbl := xIn_4 (List.mem_of_getElem? (i := 11) (by decide +kernel)) rfl
theorem wd_4_12 : Cond.static ⟨"java/lang/Math", "max", "(JJ)J"⟩ ∈ xTbl := xIn_4 (List.mem_of_getElem? (i := 12) (by decide +kernel)) rfl
theorem wd_4_13 : Cond.code ⟨"java/lang/Math", "max", "(JJ)J"⟩ prog_15_method_66_code 4 (some FieldType.long) ∈ xTbl := xIn_4 (List.mem_of_getElem? (i := 13) rfl) rfl
theorem lm_Judge_89 : xMxl "RosterRules$Judge" 89 := ⟨wd_4_11, wd_4_12, wd_1_6, wd_4_13⟩
theorem wn_2_120 : Cond.fieldLinkNest "RosterRules$Judge" 92 "RosterRules$Law" "high" "I" "RosterRules" ∈ xNs := xNs_2 (List.mem_of_getElem? (i := 120) (by decide +kernel)) rfl
theorem lk_Judge_92 : xLk "RosterRules$Judge" 92 4 6 := ⟨RC_4, TC_4, 9, rfl, by decide, iC_4, Or.inr ⟨"RosterRules", wn_2_120⟩⟩
def y_Judge_outside : MethodName := ⟨"RosterRules$Judge", "outside", "(JLRosterRules$Law;)J"⟩
abbrev b_Judge_outside : ByteArray := prog_5_method_6_code
def ws_Judge_outside : List Cond := Cond.code y_Judge_outside b_Judge_outside 4 (some .long) :: xTbl
theorem wn_1_147 : Cond.fieldLinkNest "RosterRules$Judge" 81 "RosterRules$Roster" "timesOn" "[[I" "RosterRules" ∈ xNs := xNs_1 (List.mem_of_getElem? (i := 147) (by decide +kernel)) rfl
theorem lk_Judge_81 : xLk "RosterRules$Judge" 81 8 10 := ⟨RC_8, TC_8, 13, rfl, by decide, iC_8, Or.inr ⟨"RosterRules", wn_1_147⟩⟩
theorem wn_2_123 : Cond.fieldLinkNest "RosterRules$Judge" 21 "RosterRules$Law" "letter" "I" "RosterRules" ∈ xNs := xNs_2 (List.mem_of_getElem? (i := 123) (by decide +kernel)) rfl
theorem lk_Judge_21 : xLk "RosterRules$Judge" 21 4 8 := ⟨RC_4, TC_4, 9, rfl, by decide, iC_4, Or.inr ⟨"RosterRules", wn_2_123⟩⟩
theorem wd_4_7 : Cond.methodLink "RosterRules$Judge" 85 ⟨"RosterRules$Judge", "outside", "(JLRosterRules$Law;)J"⟩ ∈ xTbl := xIn_4 (List.mem_of_getElem? (i := 7) (by decide +kernel)) rfl
theorem wd_4_9 : Cond.instanceMethod ⟨"RosterRules$Judge", "outside", "(JLRosterRules$Law;)J"⟩ ∈ xTbl := xIn_4 (List.mem_of_getElem? (i := 9) (by decide +kernel)) rfl
theorem wz_31 : Cond.selects "RosterRules$Judge" ⟨"RosterRules$Judge", "outside", "(JLRosterRules$Law;)J"⟩ ⟨"RosterRules$Judge", "outside", "(JLRosterRules$Law;)J"⟩ ∈ xTbl := List.mem_filter.mpr ⟨List.mem_append_left _ (List.mem_of_getElem? (i := 31) (by decide +kernel)), rfl⟩
theorem wd_1_7 : Cond.initialized "RosterRules$Judge" ∈ xTbl := xIn_1 (List.mem_of_getElem? (i := 7) (by decide +kernel)) rfl
theorem wd_4_10 : Cond.code ⟨"RosterRules$Judge", "outside", "(JLRosterRules$Law;)J"⟩ prog_5_method_6_code 4 (some FieldType.long) ∈ xTbl := xIn_4 (List.mem_of_getElem? (i := 10) rfl) rfl
theorem gv_Judge_85 : GoodIn xTbl (wsV "RosterRules$Judge" 85 "RosterRules$Judge" y_Judge_outside ws_Judge_outside) := xGV wd_4_7 wd_4_9 wz_31 wd_1_7 wd_4_10
theorem hd_Judge_outside : y_Judge_outside.cls = "RosterRules$Judge" ∧ y_Judge_outside.cls ≠ "java/lang/invoke/MethodHandle" ∧ y_Judge_outside.cls ≠ "java/lang/invoke/VarHandle" ∧ (parseMethodDescriptor y_Judge_outside.desc).map (fun d => d.parameters.length) = some 2 := by decide +kernel
def y_Judge_coverAmiss : MethodName := ⟨"RosterRules$Judge", "coverAmiss", "(LRosterRules$Law;I)J"⟩
abbrev b_Judge_coverAmiss : ByteArray := prog_5_method_5_code
def ws_Judge_coverAmiss : List Cond := Cond.code y_Judge_coverAmiss b_Judge_coverAmiss 3 (some .long) :: xTbl
theorem wd_1_139 : Cond.fieldLink "RosterRules$Roster" 33 "RosterRules$Roster" "rows" "[[I" ∈ xTbl := xIn_1 (List.mem_of_getElem? (i := 139) (by decide +kernel)) rfl
theorem lk_Roster_33 : xLk "RosterRules$Roster" 33 8 6 := ⟨RC_8, TC_8, 13, rfl, by decide, iC_8, Or.inl wd_1_139⟩
def y_Roster_letterOf : MethodName := ⟨"RosterRules$Roster", "letterOf", "(II)I"⟩
abbrev b_Roster_letterOf : ByteArray := prog_10_method_2_code
def ws_Roster_letterOf : List Cond := Cond.code y_Roster_letterOf b_Roster_letterOf 3 (some .int) :: xTbl
theorem wd_3_228 : Cond.methodLink "RosterRules$Judge" 98 ⟨"RosterRules$Roster", "letterOf", "(II)I"⟩ ∈ xTbl := xIn_3 (List.mem_of_getElem? (i := 228) (by decide +kernel)) rfl
theorem wd_3_199 : Cond.instanceMethod ⟨"RosterRules$Roster", "letterOf", "(II)I"⟩ ∈ xTbl := xIn_3 (List.mem_of_getElem? (i := 199) (by decide +kernel)) rfl
theorem wd_3_200 : Cond.selects "RosterRules$Roster" ⟨"RosterRules$Roster", "letterOf", "(II)I"⟩ ⟨"RosterRules$Roster", "letterOf", "(II)I"⟩ ∈ xTbl := xIn_3 (List.mem_of_getElem? (i := 200) (by decide +kernel)) rfl
theorem wd_1_5 : Cond.initialized "RosterRules$Roster" ∈ xTbl := xIn_1 (List.mem_of_getElem? (i := 5) (by decide +kernel)) rfl
theorem wd_3_201 : Cond.code ⟨"RosterRules$Roster", "letterOf", "(II)I"⟩ prog_10_method_2_code 3 (some FieldType.int) ∈ xTbl := xIn_3 (List.mem_of_getElem? (i := 201) rfl) rfl
theorem gv_Judge_98 : GoodIn xTbl (wsV "RosterRules$Judge" 98 "RosterRules$Roster" y_Roster_letterOf ws_Roster_letterOf) := xGV wd_3_228 wd_3_199 wd_3_200 wd_1_5 wd_3_201
theorem hd_Roster_letterOf : y_Roster_letterOf.cls = "RosterRules$Roster" ∧ y_Roster_letterOf.cls ≠ "java/lang/invoke/MethodHandle" ∧ y_Roster_letterOf.cls ≠ "java/lang/invoke/VarHandle" ∧ (parseMethodDescriptor y_Roster_letterOf.desc).map (fun d => d.parameters.length) = some 2 := by decide +kernel
theorem wn_1_138 : Cond.fieldLinkNest "RosterRules$Judge" 101 "RosterRules$Roster" "skills" "[I" "RosterRules" ∈ xNs := xNs_1 (List.mem_of_getElem? (i := 138) (by decide +kernel)) rfl
theorem lk_Judge_101 : xLk "RosterRules$Judge" 101 8 5 := ⟨RC_8, TC_8, 13, rfl, by decide, iC_8, Or.inr ⟨"RosterRules", wn_1_138⟩⟩
theorem wn_1_135 : Cond.fieldLinkNest "RosterRules$Judge" 105 "RosterRules$Roster" "needs" "[I" "RosterRules" ∈ xNs := xNs_1 (List.mem_of_getElem? (i := 135) (by decide +kernel)) rfl
theorem lk_Judge_105 : xLk "RosterRules$Judge" 105 8 4 := ⟨RC_8, TC_8, 13, rfl, by decide, iC_8, Or.inr ⟨"RosterRules", wn_1_135⟩⟩
def y_Judge_unskilled : MethodName := ⟨"RosterRules$Judge", "unskilled", "(III)J"⟩
abbrev b_Judge_unskilled : ByteArray := prog_5_method_8_code
def ws_Judge_unskilled : List Cond := Cond.code y_Judge_unskilled b_Judge_unskilled 8 (some .long) :: xTbl
theorem wd_1_128 : Cond.fieldLink "RosterRules$Roster" 9 "RosterRules$Roster" "begins" "[I" ∈ xTbl := xIn_1 (List.mem_of_getElem? (i := 128) (by decide +kernel)) rfl
theorem lk_Roster_9 : xLk "RosterRules$Roster" 9 8 2 := ⟨RC_8, TC_8, 13, rfl, by decide, iC_8, Or.inl wd_1_128⟩
theorem wd_1_130 : Cond.fieldLink "RosterRules$Roster" 15 "RosterRules$Roster" "lengths" "[I" ∈ xTbl := xIn_1 (List.mem_of_getElem? (i := 130) (by decide +kernel)) rfl
theorem lk_Roster_15 : xLk "RosterRules$Roster" 15 8 3 := ⟨RC_8, TC_8, 13, rfl, by decide, iC_8, Or.inl wd_1_130⟩
def y_Roster_gap : MethodName := ⟨"RosterRules$Roster", "gap", "(III)I"⟩
abbrev b_Roster_gap : ByteArray := prog_10_method_8_code
def ws_Roster_gap : List Cond := Cond.code y_Roster_gap b_Roster_gap 4 (some .int) :: xTbl
theorem wn_1_141 : Cond.fieldLinkNest "RosterRules$Judge" 108 "RosterRules$Roster" "rows" "[[I" "RosterRules" ∈ xNs := xNs_1 (List.mem_of_getElem? (i := 141) (by decide +kernel)) rfl
theorem lk_Judge_108 : xLk "RosterRules$Judge" 108 8 6 := ⟨RC_8, TC_8, 13, rfl, by decide, iC_8, Or.inr ⟨"RosterRules", wn_1_141⟩⟩
theorem wd_3_233 : Cond.methodLink "RosterRules$Judge" 111 ⟨"RosterRules$Roster", "gap", "(III)I"⟩ ∈ xTbl := xIn_3 (List.mem_of_getElem? (i := 233) (by decide +kernel)) rfl
theorem wd_3_234 : Cond.instanceMethod ⟨"RosterRules$Roster", "gap", "(III)I"⟩ ∈ xTbl := xIn_3 (List.mem_of_getElem? (i := 234) (by decide +kernel)) rfl
theorem wd_3_235 : Cond.selects "RosterRules$Roster" ⟨"RosterRules$Roster", "gap", "(III)I"⟩ ⟨"RosterRules$Roster", "gap", "(III)I"⟩ ∈ xTbl := xIn_3 (List.mem_of_getElem? (i := 235) (by decide +kernel)) rfl
theorem wd_3_236 : Cond.code ⟨"RosterRules$Roster", "gap", "(III)I"⟩ prog_10_method_8_code 4 (some FieldType.int) ∈ xTbl := xIn_3 (List.mem_of_getElem? (i := 236) rfl) rfl
theorem gv_Judge_111 : GoodIn xTbl (wsV "RosterRules$Judge" 111 "RosterRules$Roster" y_Roster_gap ws_Roster_gap) := xGV wd_3_233 wd_3_234 wd_3_235 wd_1_5 wd_3_236
theorem hd_Roster_gap : y_Roster_gap.cls = "RosterRules$Roster" ∧ y_Roster_gap.cls ≠ "java/lang/invoke/MethodHandle" ∧ y_Roster_gap.cls ≠ "java/lang/invoke/VarHandle" ∧ (parseMethodDescriptor y_Roster_gap.desc).map (fun d => d.parameters.length) = some 3 := by decide +kernel
def y_Judge_shortRests : MethodName := ⟨"RosterRules$Judge", "shortRests", "(II)J"⟩
abbrev b_Judge_shortRests : ByteArray := prog_5_method_9_code
def ws_Judge_shortRests : List Cond := Cond.code y_Judge_shortRests b_Judge_shortRests 8 (some .long) :: xTbl
theorem wd_3_219 : Cond.methodLink "RosterRules$Roster" 48 ⟨"RosterRules$Roster", "letterOf", "(II)I"⟩ ∈ xTbl := xIn_3 (List.mem_of_getElem? (i := 219) (by decide +kernel)) rfl
theorem gv_Roster_48 : GoodIn xTbl (wsV "RosterRules$Roster" 48 "RosterRules$Roster" y_Roster_letterOf ws_Roster_letterOf) := xGV wd_3_219 wd_3_199 wd_3_200 wd_1_5 wd_3_201
def y_Roster_minutesBetween : MethodName := ⟨"RosterRules$Roster", "minutesBetween", "(III)J"⟩
abbrev b_Roster_minutesBetween : ByteArray := prog_10_method_7_code
def ws_Roster_minutesBetween : List Cond := Cond.code y_Roster_minutesBetween b_Roster_minutesBetween 7 (some .long) :: xTbl
theorem wn_2_121 : Cond.fieldLinkNest "RosterRules$Judge" 54 "RosterRules$Law" "span" "I" "RosterRules" ∈ xNs := xNs_2 (List.mem_of_getElem? (i := 121) (by decide +kernel)) rfl
theorem lk_Judge_54 : xLk "RosterRules$Judge" 54 4 7 := ⟨RC_4, TC_4, 9, rfl, by decide, iC_4, Or.inr ⟨"RosterRules", wn_2_121⟩⟩
theorem wd_4_3 : Cond.methodLink "RosterRules$Judge" 115 ⟨"RosterRules$Roster", "minutesBetween", "(III)J"⟩ ∈ xTbl := xIn_4 (List.mem_of_getElem? (i := 3) (by decide +kernel)) rfl
theorem wd_4_4 : Cond.instanceMethod ⟨"RosterRules$Roster", "minutesBetween", "(III)J"⟩ ∈ xTbl := xIn_4 (List.mem_of_getElem? (i := 4) (by decide +kernel)) rfl
theorem wd_4_5 : Cond.selects "RosterRules$Roster" ⟨"RosterRules$Roster", "minutesBetween", "(III)J"⟩ ⟨"RosterRules$Roster", "minutesBetween", "(III)J"⟩ ∈ xTbl := xIn_4 (List.mem_of_getElem? (i := 5) (by decide +kernel)) rfl
theorem wd_4_6 : Cond.code ⟨"RosterRules$Roster", "minutesBetween", "(III)J"⟩ prog_10_method_7_code 7 (some FieldType.long) ∈ xTbl := xIn_4 (List.mem_of_getElem? (i := 6) rfl) rfl
theorem gv_Judge_115 : GoodIn xTbl (wsV "RosterRules$Judge" 115 "RosterRules$Roster" y_Roster_minutesBetween ws_Roster_minutesBetween) := xGV wd_4_3 wd_4_4 wd_4_5 wd_1_5 wd_4_6
theorem hd_Roster_minutesBetween : y_Roster_minutesBetween.cls = "RosterRules$Roster" ∧ y_Roster_minutesBetween.cls ≠ "java/lang/invoke/MethodHandle" ∧ y_Roster_minutesBetween.cls ≠ "java/lang/invoke/VarHandle" ∧ (parseMethodDescriptor y_Roster_minutesBetween.desc).map (fun d => d.parameters.length) = some 3 := by decide +kernel
theorem wn_1_132 : Cond.fieldLinkNest "RosterRules$Judge" 118 "RosterRules$Roster" "lengths" "[I" "RosterRules" ∈ xNs := xNs_1 (List.mem_of_getElem? (i := 132) (by decide +kernel)) rfl
theorem lk_Judge_118 : xLk "RosterRules$Judge" 118 8 3 := ⟨RC_8, TC_8, 13, rfl, by decide, iC_8, Or.inr ⟨"RosterRules", wn_1_132⟩⟩
def y_Judge_hoursAmiss : MethodName := ⟨"RosterRules$Judge", "hoursAmiss", "(LRosterRules$Law;III)J"⟩
abbrev b_Judge_hoursAmiss : ByteArray := prog_5_method_10_code
def ws_Judge_hoursAmiss : List Cond := Cond.code y_Judge_hoursAmiss b_Judge_hoursAmiss 10 (some .long) :: xTbl
theorem wd_4_18 : Cond.methodLink "RosterRules$Judge" 121 ⟨"RosterRules$Positions", "after", "(I)I"⟩ ∈ xTbl := xIn_4 (List.mem_of_getElem? (i := 18) (by decide +kernel)) rfl
theorem gv_Judge_121 : GoodIn xTbl (wsV "RosterRules$Judge" 121 "RosterRules$Positions" y_Positions_after ws_Positions_after) := xGV wd_4_18 wd_4_19 wd_4_20 wd_1_12 wd_4_21
theorem wn_2_62 : Cond.fieldLinkNest "RosterRules$Judge" 127 "RosterRules$Positions" "first" "I" "RosterRules" ∈ xNs := xNs_2 (List.mem_of_getElem? (i := 62) (by decide +kernel)) rfl
theorem lk_Judge_127 : xLk "RosterRules$Judge" 127 7 6 := ⟨RC_7, TC_7, 9, rfl, by decide, iC_7, Or.inr ⟨"RosterRules", wn_2_62⟩⟩
theorem wn_2_51 : Cond.fieldLinkNest "RosterRules$Judge" 130 "RosterRules$Positions" "takers" "[I" "RosterRules" ∈ xNs := xNs_2 (List.mem_of_getElem? (i := 51) (by decide +kernel)) rfl
theorem lk_Judge_130 : xLk "RosterRules$Judge" 130 7 0 := ⟨RC_7, TC_7, 9, rfl, by decide, iC_7, Or.inr ⟨"RosterRules", wn_2_51⟩⟩
theorem wn_2_65 : Cond.fieldLinkNest "RosterRules$Judge" 133 "RosterRules$Positions" "last" "I" "RosterRules" ∈ xNs := xNs_2 (List.mem_of_getElem? (i := 65) (by decide +kernel)) rfl
theorem lk_Judge_133 : xLk "RosterRules$Judge" 133 7 7 := ⟨RC_7, TC_7, 9, rfl, by decide, iC_7, Or.inr ⟨"RosterRules", wn_2_65⟩⟩
def y_Judge_matches : MethodName := ⟨"RosterRules$Judge", "matches", "(LRosterRules$Positions;I)J"⟩
abbrev b_Judge_matches : ByteArray := prog_5_method_11_code
def ws_Judge_matches : List Cond := Cond.code y_Judge_matches b_Judge_matches 8 (some .long) :: xTbl
def y_Judge_noWord : MethodName := ⟨"RosterRules$Judge", "noWord", "(LRosterRules$Positions;I)J"⟩
abbrev b_Judge_noWord : ByteArray := prog_5_method_12_code
def ws_Judge_noWord : List Cond := Cond.code y_Judge_noWord b_Judge_noWord 7 (some .long) :: xTbl
theorem wn_2_110 : Cond.fieldLinkNest "RosterRules$Judge" 15 "RosterRules$Law" "sort" "I" "RosterRules" ∈ xNs := xNs_2 (List.mem_of_getElem? (i := 110) (by decide +kernel)) rfl
theorem lk_Judge_15 : xLk "RosterRules$Judge" 15 4 2 := ⟨RC_4, TC_4, 9, rfl, by decide, iC_4, Or.inr ⟨"RosterRules", wn_2_110⟩⟩
theorem wn_2_105 : Cond.fieldLinkNest "RosterRules$Judge" 61 "RosterRules$Law" "positions" "LRosterRules$Positions;" "RosterRules" ∈ xNs := xNs_2 (List.mem_of_getElem? (i := 105) (by decide +kernel)) rfl
theorem lk_Judge_61 : xLk "RosterRules$Judge" 61 4 0 := ⟨RC_4, TC_4, 9, rfl, by decide, iC_4, Or.inr ⟨"RosterRules", wn_2_105⟩⟩
theorem wd_4_22 : Cond.methodLink "RosterRules$Judge" 69 ⟨"RosterRules$Judge", "noWord", "(LRosterRules$Positions;I)J"⟩ ∈ xTbl := xIn_4 (List.mem_of_getElem? (i := 22) (by decide +kernel)) rfl
theorem wd_4_24 : Cond.instanceMethod ⟨"RosterRules$Judge", "noWord", "(LRosterRules$Positions;I)J"⟩ ∈ xTbl := xIn_4 (List.mem_of_getElem? (i := 24) (by decide +kernel)) rfl
theorem wz_33 : Cond.selects "RosterRules$Judge" ⟨"RosterRules$Judge", "noWord", "(LRosterRules$Positions;I)J"⟩ ⟨"RosterRules$Judge", "noWord", "(LRosterRules$Positions;I)J"⟩ ∈ xTbl := List.mem_filter.mpr ⟨List.mem_append_left _ (List.mem_of_getElem? (i := 33) (by decide +kernel)), rfl⟩
theorem wd_4_25 : Cond.code ⟨"RosterRules$Judge", "noWord", "(LRosterRules$Positions;I)J"⟩ prog_5_method_12_code 7 (some FieldType.long) ∈ xTbl := xIn_4 (List.mem_of_getElem? (i := 25) rfl) rfl
theorem gv_Judge_69 : GoodIn xTbl (wsV "RosterRules$Judge" 69 "RosterRules$Judge" y_Judge_noWord ws_Judge_noWord) := xGV wd_4_22 wd_4_24 wz_33 wd_1_7 wd_4_25
theorem hd_Judge_noWord : y_Judge_noWord.cls = "RosterRules$Judge" ∧ y_Judge_noWord.cls ≠ "java/lang/invoke/MethodHandle" ∧ y_Judge_noWord.cls ≠ "java/lang/invoke/VarHandle" ∧ (parseMethodDescriptor y_Judge_noWord.desc).map (fun d => d.parameters.length) = some 2 := by decide +kernel
theorem wd_4_14 : Cond.methodLink "RosterRules$Judge" 65 ⟨"RosterRules$Judge", "matches", "(LRosterRules$Positions;I)J"⟩ ∈ xTbl := xIn_4 (List.mem_of_getElem? (i := 14) (by decide +kernel)) rfl
theorem wd_4_16 : Cond.instanceMethod ⟨"RosterRules$Judge", "matches", "(LRosterRules$Positions;I)J"⟩ ∈ xTbl := xIn_4 (List.mem_of_getElem? (i := 16) (by decide +kernel)) rfl
theorem wz_32 : Cond.selects "RosterRules$Judge" ⟨"RosterRules$Judge", "matches", "(LRosterRules$Positions;I)J"⟩ ⟨"RosterRules$Judge", "matches", "(LRosterRules$Positions;I)J"⟩ ∈ xTbl := List.mem_filter.mpr ⟨List.mem_append_left _ (List.mem_of_getElem? (i := 32) (by decide +kernel)), rfl⟩
theorem wd_4_17 : Cond.code ⟨"RosterRules$Judge", "matches", "(LRosterRules$Positions;I)J"⟩ prog_5_method_11_code 8 (some FieldType.long) ∈ xTbl := xIn_4 (List.mem_of_getElem? (i := 17) rfl) rfl
theorem gv_Judge_65 : GoodIn xTbl (wsV "RosterRules$Judge" 65 "RosterRules$Judge" y_Judge_matches ws_Judge_matches) := xGV wd_4_14 wd_4_16 wz_32 wd_1_7 wd_4_17
theorem hd_Judge_matches : y_Judge_matches.cls = "RosterRules$Judge" ∧ y_Judge_matches.cls ≠ "java/lang/invoke/MethodHandle" ∧ y_Judge_matches.cls ≠ "java/lang/invoke/VarHandle" ∧ (parseMethodDescriptor y_Judge_matches.desc).map (fun d => d.parameters.length) = some 2 := by decide +kernel
theorem wn_1_127 : Cond.fieldLinkNest "RosterRules$Judge" 28 "RosterRules$Roster" "days" "I" "RosterRules" ∈ xNs := xNs_1 (List.mem_of_getElem? (i := 127) (by decide +kernel)) rfl
theorem lk_Judge_28 : xLk "RosterRules$Judge" 28 8 1 := ⟨RC_8, TC_8, 13, rfl, by decide, iC_8, Or.inr ⟨"RosterRules", wn_1_127⟩⟩
theorem wd_3_239 : Cond.methodLink "RosterRules$Judge" 57 ⟨"RosterRules$Judge", "hoursAmiss", "(LRosterRules$Law;III)J"⟩ ∈ xTbl := xIn_3 (List.mem_of_getElem? (i := 239) (by decide +kernel)) rfl
theorem wd_4_1 : Cond.instanceMethod ⟨"RosterRules$Judge", "hoursAmiss", "(LRosterRules$Law;III)J"⟩ ∈ xTbl := xIn_4 (List.mem_of_getElem? (i := 1) (by decide +kernel)) rfl
theorem wz_30 : Cond.selects "RosterRules$Judge" ⟨"RosterRules$Judge", "hoursAmiss", "(LRosterRules$Law;III)J"⟩ ⟨"RosterRules$Judge", "hoursAmiss", "(LRosterRules$Law;III)J"⟩ ∈ xTbl := List.mem_filter.mpr ⟨List.mem_append_left _ (List.mem_of_getElem? (i := 30) (by decide +kernel)), rfl⟩
theorem wd_4_2 : Cond.code ⟨"RosterRules$Judge", "hoursAmiss", "(LRosterRules$Law;III)J"⟩ prog_5_method_10_code 10 (some FieldType.long) ∈ xTbl := xIn_4 (List.mem_of_getElem? (i := 2) rfl) rfl
theorem gv_Judge_57 : GoodIn xTbl (wsV "RosterRules$Judge" 57 "RosterRules$Judge" y_Judge_hoursAmiss ws_Judge_hoursAmiss) := xGV wd_3_239 wd_4_1 wz_30 wd_1_7 wd_4_2
theorem hd_Judge_hoursAmiss : y_Judge_hoursAmiss.cls = "RosterRules$Judge" ∧ y_Judge_hoursAmiss.cls ≠ "java/lang/invoke/MethodHandle" ∧ y_Judge_hoursAmiss.cls ≠ "java/lang/invoke/VarHandle" ∧ (parseMethodDescriptor y_Judge_hoursAmiss.desc).map (fun d => d.parameters.length) = some 4 := by decide +kernel
theorem wd_3_229 : Cond.methodLink "RosterRules$Judge" 50 ⟨"RosterRules$Judge", "shortRests", "(II)J"⟩ ∈ xTbl := xIn_3 (List.mem_of_getElem? (i := 229) (by decide +kernel)) rfl
theorem wd_3_231 : Cond.instanceMethod ⟨"RosterRules$Judge", "shortRests", "(II)J"⟩ ∈ xTbl := xIn_3 (List.mem_of_getElem? (i := 231) (by decide +kernel)) rfl
theorem wz_29 : Cond.selects "RosterRules$Judge" ⟨"RosterRules$Judge", "shortRests", "(II)J"⟩ ⟨"RosterRules$Judge", "shortRests", "(II)J"⟩ ∈ xTbl := List.mem_filter.mpr ⟨List.mem_append_left _ (List.mem_of_getElem? (i := 29) (by decide +kernel)), rfl⟩
theorem wd_3_232 : Cond.code ⟨"RosterRules$Judge", "shortRests", "(II)J"⟩ prog_5_method_9_code 8 (some FieldType.long) ∈ xTbl := xIn_3 (List.mem_of_getElem? (i := 232) rfl) rfl
theorem gv_Judge_50 : GoodIn xTbl (wsV "RosterRules$Judge" 50 "RosterRules$Judge" y_Judge_shortRests ws_Judge_shortRests) := xGV wd_3_229 wd_3_231 wz_29 wd_1_7 wd_3_232
theorem hd_Judge_shortRests : y_Judge_shortRests.cls = "RosterRules$Judge" ∧ y_Judge_shortRests.cls ≠ "java/lang/invoke/MethodHandle" ∧ y_Judge_shortRests.cls ≠ "java/lang/invoke/VarHandle" ∧ (parseMethodDescriptor y_Judge_shortRests.desc).map (fun d => d.parameters.length) = some 2 := by decide +kernel
theorem wd_3_224 : Cond.methodLink "RosterRules$Judge" 43 ⟨"RosterRules$Judge", "unskilled", "(III)J"⟩ ∈ xTbl := xIn_3 (List.mem_of_getElem? (i := 224) (by decide +kernel)) rfl
theorem wd_3_226 : Cond.instanceMethod ⟨"RosterRules$Judge", "unskilled", "(III)J"⟩ ∈ xTbl := xIn_3 (List.mem_of_getElem? (i := 226) (by decide +kernel)) rfl
theorem wz_28 : Cond.selects "RosterRules$Judge" ⟨"RosterRules$Judge", "unskilled", "(III)J"⟩ ⟨"RosterRules$Judge", "unskilled", "(III)J"⟩ ∈ xTbl := List.mem_filter.mpr ⟨List.mem_append_left _ (List.mem_of_getElem? (i := 28) (by decide +kernel)), rfl⟩
theorem wd_3_227 : Cond.code ⟨"RosterRules$Judge", "unskilled", "(III)J"⟩ prog_5_method_8_code 8 (some FieldType.long) ∈ xTbl := xIn_3 (List.mem_of_getElem? (i := 227) rfl) rfl
theorem gv_Judge_43 : GoodIn xTbl (wsV "RosterRules$Judge" 43 "RosterRules$Judge" y_Judge_unskilled ws_Judge_unskilled) := xGV wd_3_224 wd_3_226 wz_28 wd_1_7 wd_3_227
theorem hd_Judge_unskilled : y_Judge_unskilled.cls = "RosterRules$Judge" ∧ y_Judge_unskilled.cls ≠ "java/lang/invoke/MethodHandle" ∧ y_Judge_unskilled.cls ≠ "java/lang/invoke/VarHandle" ∧ (parseMethodDescriptor y_Judge_unskilled.desc).map (fun d => d.parameters.length) = some 3 := by decide +kernel
def y_Judge_ofPerson : MethodName := ⟨"RosterRules$Judge", "ofPerson", "(LRosterRules$Law;I)J"⟩
abbrev b_Judge_ofPerson : ByteArray := prog_5_method_3_code
def ws_Judge_ofPerson : List Cond := Cond.code y_Judge_ofPerson b_Judge_ofPerson 3 (some .long) :: xTbl
theorem wd_4_26 : Cond.methodLink "RosterRules$Judge" 24 ⟨"RosterRules$Judge", "unfairness", "(I)J"⟩ ∈ xTbl := xIn_4 (List.mem_of_getElem? (i := 26) (by decide +kernel)) rfl
theorem wd_4_28 : Cond.instanceMethod ⟨"RosterRules$Judge", "unfairness", "(I)J"⟩ ∈ xTbl := xIn_4 (List.mem_of_getElem? (i := 28) (by decide +kernel)) rfl
theorem wz_34 : Cond.selects "RosterRules$Judge" ⟨"RosterRules$Judge", "unfairness", "(I)J"⟩ ⟨"RosterRules$Judge", "unfairness", "(I)J"⟩ ∈ xTbl := List.mem_filter.mpr ⟨List.mem_append_left _ (List.mem_of_getElem? (i := 34) (by decide +kernel)), rfl⟩
theorem wd_4_29 : Cond.code ⟨"RosterRules$Judge", "unfairness", "(I)J"⟩ prog_5_method_7_code 5 (some FieldType.long) ∈ xTbl := xIn_4 (List.mem_of_getElem? (i := 29) rfl) rfl
theorem gv_Judge_24 : GoodIn xTbl (wsV "RosterRules$Judge" 24 "RosterRules$Judge" y_Judge_unfairness ws_Judge_unfairness) := xGV wd_4_26 wd_4_28 wz_34 wd_1_7 wd_4_29
theorem hd_Judge_unfairness : y_Judge_unfairness.cls = "RosterRules$Judge" ∧ y_Judge_unfairness.cls ≠ "java/lang/invoke/MethodHandle" ∧ y_Judge_unfairness.cls ≠ "java/lang/invoke/VarHandle" ∧ (parseMethodDescriptor y_Judge_unfairness.desc).map (fun d => d.parameters.length) = some 1 := by decide +kernel
theorem wd_4_30 : Cond.methodLink "RosterRules$Judge" 33 ⟨"RosterRules$Judge", "coverAmiss", "(LRosterRules$Law;I)J"⟩ ∈ xTbl := xIn_4 (List.mem_of_getElem? (i := 30) (by decide +kernel)) rfl
theorem wd_4_31 : Cond.instanceMethod ⟨"RosterRules$Judge", "coverAmiss", "(LRosterRules$Law;I)J"⟩ ∈ xTbl := xIn_4 (List.mem_of_getElem? (i := 31) (by decide +kernel)) rfl
theorem wd_4_32 : Cond.selects "RosterRules$Judge" ⟨"RosterRules$Judge", "coverAmiss", "(LRosterRules$Law;I)J"⟩ ⟨"RosterRules$Judge", "coverAmiss", "(LRosterRules$Law;I)J"⟩ ∈ xTbl := xIn_4 (List.mem_of_getElem? (i := 32) (by decide +kernel)) rfl
theorem wd_4_33 : Cond.code ⟨"RosterRules$Judge", "coverAmiss", "(LRosterRules$Law;I)J"⟩ prog_5_method_5_code 3 (some FieldType.long) ∈ xTbl := xIn_4 (List.mem_of_getElem? (i := 33) rfl) rfl
theorem gv_Judge_33 : GoodIn xTbl (wsV "RosterRules$Judge" 33 "RosterRules$Judge" y_Judge_coverAmiss ws_Judge_coverAmiss) := xGV wd_4_30 wd_4_31 wd_4_32 wd_1_7 wd_4_33
theorem hd_Judge_coverAmiss : y_Judge_coverAmiss.cls = "RosterRules$Judge" ∧ y_Judge_coverAmiss.cls ≠ "java/lang/invoke/MethodHandle" ∧ y_Judge_coverAmiss.cls ≠ "java/lang/invoke/VarHandle" ∧ (parseMethodDescriptor y_Judge_coverAmiss.desc).map (fun d => d.parameters.length) = some 2 := by decide +kernel
theorem wd_4_88 : Cond.methodLink "RosterRules$Judge" 40 ⟨"RosterRules$Judge", "ofPerson", "(LRosterRules$Law;I)J"⟩ ∈ xTbl := xIn_4 (List.mem_of_getElem? (i := 88) (by decide +kernel)) rfl
theorem wd_4_89 : Cond.instanceMethod ⟨"RosterRules$Judge", "ofPerson", "(LRosterRules$Law;I)J"⟩ ∈ xTbl := xIn_4 (List.mem_of_getElem? (i := 89) (by decide +kernel)) rfl
theorem wd_4_90 : Cond.selects "RosterRules$Judge" ⟨"RosterRules$Judge", "ofPerson", "(LRosterRules$Law;I)J"⟩ ⟨"RosterRules$Judge", "ofPerson", "(LRosterRules$Law;I)J"⟩ ∈ xTbl := xIn_4 (List.mem_of_getElem? (i := 90) (by decide +kernel)) rfl
theorem wd_4_91 : Cond.code ⟨"RosterRules$Judge", "ofPerson", "(LRosterRules$Law;I)J"⟩ prog_5_method_3_code 3 (some FieldType.long) ∈ xTbl := xIn_4 (List.mem_of_getElem? (i := 91) rfl) rfl
theorem gv_Judge_40 : GoodIn xTbl (wsV "RosterRules$Judge" 40 "RosterRules$Judge" y_Judge_ofPerson ws_Judge_ofPerson) := xGV wd_4_88 wd_4_89 wd_4_90 wd_1_7 wd_4_91
theorem hd_Judge_ofPerson : y_Judge_ofPerson.cls = "RosterRules$Judge" ∧ y_Judge_ofPerson.cls ≠ "java/lang/invoke/MethodHandle" ∧ y_Judge_ofPerson.cls ≠ "java/lang/invoke/VarHandle" ∧ (parseMethodDescriptor y_Judge_ofPerson.desc).map (fun d => d.parameters.length) = some 2 := by decide +kernel
def y_Judge_everywhere : MethodName := ⟨"RosterRules$Judge", "everywhere", "(LRosterRules$Law;)J"⟩
abbrev b_Judge_everywhere : ByteArray := prog_5_method_2_code
def ws_Judge_everywhere : List Cond := Cond.code y_Judge_everywhere b_Judge_everywhere 5 (some .long) :: xTbl
def y_Judge_aroundCell : MethodName := ⟨"RosterRules$Judge", "aroundCell", "(LRosterRules$Law;II)J"⟩
abbrev b_Judge_aroundCell : ByteArray := prog_5_method_4_code
def ws_Judge_aroundCell : List Cond := Cond.code y_Judge_aroundCell b_Judge_aroundCell 4 (some .long) :: xTbl
theorem wd_2_48 : Cond.methodLink "RosterRules$Positions" 5 ⟨"java/lang/Object", "<init>", "()V"⟩ ∈ xTbl := xIn_2 (List.mem_of_getElem? (i := 48) (by decide +kernel)) rfl
theorem ob_Positions_5 : xOb "RosterRules$Positions" 5 := ⟨wd_2_48, wd_1_25, wd_1_26⟩
theorem wd_2_49 : Cond.fieldLink "RosterRules$Positions" 11 "RosterRules$Positions" "takers" "[I" ∈ xTbl := xIn_2 (List.mem_of_getElem? (i := 49) (by decide +kernel)) rfl
theorem lf_Positions_11 : xLf "RosterRules$Positions" 11 7 0 (.array .int) := ⟨RC_7, TC_7, 9, yC_7, rfl, by decide, iC_7, wd_2_49, pC_7, nC_7, rfl, rfl, by decide +kernel⟩
theorem wd_2_52 : Cond.fieldLink "RosterRules$Positions" 15 "RosterRules$Positions" "followers" "[I" ∈ xTbl := xIn_2 (List.mem_of_getElem? (i := 52) (by decide +kernel)) rfl
theorem lf_Positions_15 : xLf "RosterRules$Positions" 15 7 1 (.array .int) := ⟨RC_7, TC_7, 9, yC_7, rfl, by decide, iC_7, wd_2_52, pC_7, nC_7, rfl, rfl, by decide +kernel⟩
theorem lf_Positions_18 : xLf "RosterRules$Positions" 18 7 2 (.array .int) := ⟨RC_7, TC_7, 9, yC_7, rfl, by decide, iC_7, wd_2_53, pC_7, nC_7, rfl, rfl, by decide +kernel⟩
theorem lf_Positions_21 : xLf "RosterRules$Positions" 21 7 3 (.array .int) := ⟨RC_7, TC_7, 9, yC_7, rfl, by decide, iC_7, wd_2_54, pC_7, nC_7, rfl, rfl, by decide +kernel⟩
def y_Positions_init : MethodName := ⟨"RosterRules$Positions", "<init>", "()V"⟩
abbrev b_Positions_init : ByteArray := prog_9_method_1_code
def ws_Positions_init : List Cond := Cond.code y_Positions_init b_Positions_init 1 none :: xTbl
theorem wd_2_42 : Cond.methodLink "RosterRules$Law" 1 ⟨"java/lang/Object", "<init>", "()V"⟩ ∈ xTbl := xIn_2 (List.mem_of_getElem? (i := 42) (by decide +kernel)) rfl
theorem ob_Law_1 : xOb "RosterRules$Law" 1 := ⟨wd_2_42, wd_1_25, wd_1_26⟩
theorem dv_7 : ∀ j, j < 9 → defaultValue (yC_7 j) = vp_V [.null, .null, .null, .null, .int 0, .int 0, .int 0, .int 0, .int 0] j := fun j hj => by rcases (show j = 0 ∨ j = 1 ∨ j = 2 ∨ j = 3 ∨ j = 4 ∨ j = 5 ∨ j = 6 ∨ j = 7 ∨ j = 8 by omega) with rfl | rfl | rfl | rfl | rfl | rfl | rfl | rfl | rfl <;> rfl
theorem wd_2_43 : Cond.classLink "RosterRules$Law" 7 "RosterRules$Positions" ∈ xTbl := xIn_2 (List.mem_of_getElem? (i := 43) (by decide +kernel)) rfl
theorem wd_2_44 : Cond.instantiable "RosterRules$Positions" 9 ∈ xTbl := xIn_2 (List.mem_of_getElem? (i := 44) (by decide +kernel)) rfl
theorem nw_Law_7 : xNw "RosterRules$Law" 7 7 9 [.null, .null, .null, .null, .int 0, .int 0, .int 0, .int 0, .int 0] := ⟨RC_7, TC_7, yC_7, rfl, iC_7, pC_7, dv_7, wd_2_43, wd_2_44, wd_1_12⟩
theorem wn_2_45 : Cond.methodLinkNest "RosterRules$Law" 9 ⟨"RosterRules$Positions", "<init>", "()V"⟩ "RosterRules" ∈ xNs := xNs_2 (List.mem_of_getElem? (i := 45) (by decide +kernel)) rfl
theorem wd_2_47 : Cond.code ⟨"RosterRules$Positions", "<init>", "()V"⟩ prog_9_method_1_code 1 (none : Option FieldType) ∈ xTbl := xIn_2 (List.mem_of_getElem? (i := 47) rfl) rfl
theorem gi_Positions_init : GoodIn xTbl ws_Positions_init := xGI wd_2_47
theorem hi_Positions_init : y_Positions_init.cls ≠ "java/lang/invoke/MethodHandle" ∧ y_Positions_init.cls ≠ "java/lang/invoke/VarHandle" ∧ (parseMethodDescriptor y_Positions_init.desc).map (fun d => d.parameters.length) = some 0 := by decide +kernel
theorem wd_2_46 : Cond.instanceMethod ⟨"RosterRules$Positions", "<init>", "()V"⟩ ∈ xTbl := xIn_2 (List.mem_of_getElem? (i := 46) (by decide +kernel)) rfl
theorem wd_2_104 : Cond.fieldLink "RosterRules$Law" 10 "RosterRules$Law" "positions" "LRosterRules$Positions;" ∈ xTbl := xIn_2 (List.mem_of_getElem? (i := 104) (by decide +kernel)) rfl
theorem lf_Law_10 : xLf "RosterRules$Law" 10 4 0 (.object "RosterRules$Positions") := ⟨RC_4, TC_4, 9, yC_4, rfl, by decide, iC_4, wd_2_104, pC_4, nC_4, rfl, rfl, by decide +kernel⟩
theorem dv_0 : ∀ j, j < 2 → defaultValue (yC_0 j) = vp_V [.null, .int 0] j := fun j hj => by rcases (show j = 0 ∨ j = 1 by omega) with rfl | rfl <;> rfl
theorem wd_2_87 : Cond.classLink "RosterRules$Law" 16 "RosterRules$Automaton" ∈ xTbl := xIn_2 (List.mem_of_getElem? (i := 87) (by decide +kernel)) rfl
theorem wd_2_88 : Cond.instantiable "RosterRules$Automaton" 2 ∈ xTbl := xIn_2 (List.mem_of_getElem? (i := 88) (by decide +kernel)) rfl
theorem nw_Law_16 : xNw "RosterRules$Law" 16 0 2 [.null, .int 0] := ⟨RC_0, TC_0, yC_0, rfl, iC_0, pC_0, dv_0, wd_2_87, wd_2_88, wd_1_13⟩
theorem wn_2_89 : Cond.methodLinkNest "RosterRules$Law" 18 ⟨"RosterRules$Automaton", "<init>", "()V"⟩ "RosterRules" ∈ xNs := xNs_2 (List.mem_of_getElem? (i := 89) (by decide +kernel)) rfl
theorem wd_2_91 : Cond.code ⟨"RosterRules$Automaton", "<init>", "()V"⟩ prog_2_method_1_code 1 (none : Option FieldType) ∈ xTbl := xIn_2 (List.mem_of_getElem? (i := 91) rfl) rfl
theorem gi_Automaton_init : GoodIn xTbl ws_Automaton_init := xGI wd_2_91
theorem hi_Automaton_init : y_Automaton_init.cls ≠ "java/lang/invoke/MethodHandle" ∧ y_Automaton_init.cls ≠ "java/lang/invoke/VarHandle" ∧ (parseMethodDescriptor y_Automaton_init.desc).map (fun d => d.parameters.length) = some 0 := by decide +kernel
theorem wd_2_90 : Cond.instanceMethod ⟨"RosterRules$Automaton", "<init>", "()V"⟩ ∈ xTbl := xIn_2 (List.mem_of_getElem? (i := 90) (by decide +kernel)) rfl
theorem wd_2_108 : Cond.fieldLink "RosterRules$Law" 19 "RosterRules$Law" "automaton" "LRosterRules$Automaton;" ∈ xTbl := xIn_2 (List.mem_of_getElem? (i := 108) (by decide +kernel)) rfl
theorem lf_Law_19 : xLf "RosterRules$Law" 19 4 1 (.object "RosterRules$Automaton") := ⟨RC_4, TC_4, 9, yC_4, rfl, by decide, iC_4, wd_2_108, pC_4, nC_4, rfl, rfl, by decide +kernel⟩
def y_Law_init : MethodName := ⟨"RosterRules$Law", "<init>", "()V"⟩
abbrev b_Law_init : ByteArray := prog_6_method_1_code
def ws_Law_init : List Cond := Cond.code y_Law_init b_Law_init 1 none :: xTbl
theorem wd_2_111 : Cond.fieldLink "RosterRules$Law" 37 "RosterRules$Law" "sort" "I" ∈ xTbl := xIn_2 (List.mem_of_getElem? (i := 111) (by decide +kernel)) rfl
theorem lp_Law_37 : xLp "RosterRules$Law" 37 4 2 .int := ⟨RC_4, TC_4, 9, yC_4, rfl, by decide, iC_4, Or.inl wd_2_111, pC_4, nC_4, rfl, by decide +kernel⟩
theorem wd_2_115 : Cond.fieldLink "RosterRules$Law" 41 "RosterRules$Law" "begin" "I" ∈ xTbl := xIn_2 (List.mem_of_getElem? (i := 115) (by decide +kernel)) rfl
theorem lp_Law_41 : xLp "RosterRules$Law" 41 4 4 .int := ⟨RC_4, TC_4, 9, yC_4, rfl, by decide, iC_4, Or.inl wd_2_115, pC_4, nC_4, rfl, by decide +kernel⟩
theorem lk_Law_19 : xLk "RosterRules$Law" 19 4 1 := ⟨RC_4, TC_4, 9, rfl, by decide, iC_4, Or.inl wd_2_108⟩
theorem wn_2_95 : Cond.fieldLinkNest "RosterRules$Law" 44 "RosterRules$Automaton" "states" "I" "RosterRules" ∈ xNs := xNs_2 (List.mem_of_getElem? (i := 95) (by decide +kernel)) rfl
theorem lp_Law_44 : xLp "RosterRules$Law" 44 0 1 .int := ⟨RC_0, TC_0, 2, yC_0, rfl, by decide, iC_0, Or.inr ⟨"RosterRules", wn_2_95⟩, pC_0, nC_0, rfl, by decide +kernel⟩
def y_Law_start : MethodName := ⟨"RosterRules$Law", "start", "(II)V"⟩
abbrev b_Law_start : ByteArray := prog_6_method_3_code
def ws_Law_start : List Cond := Cond.code y_Law_start b_Law_start 3 none :: xTbl
theorem lk_Law_37 : xLk "RosterRules$Law" 37 4 2 := ⟨RC_4, TC_4, 9, rfl, by decide, iC_4, Or.inl wd_2_111⟩
def y_Law_hasPattern : MethodName := ⟨"RosterRules$Law", "hasPattern", "()Z"⟩
abbrev b_Law_hasPattern : ByteArray := prog_6_method_4_code
def ws_Law_hasPattern : List Cond := Cond.code y_Law_hasPattern b_Law_hasPattern 1 (some .boolean) :: xTbl
theorem wd_1_200 : Cond.methodLink "RosterRules$Tokens" 3 ⟨"java/lang/Object", "<init>", "()V"⟩ ∈ xTbl := xIn_1 (List.mem_of_getElem? (i := 200) (by decide +kernel)) rfl
theorem ob_Tokens_3 : xOb "RosterRules$Tokens" 3 := ⟨wd_1_200, wd_1_25, wd_1_26⟩
theorem wd_1_201 : Cond.fieldLink "RosterRules$Tokens" 9 "RosterRules$Tokens" "tape" "LRosterRules$Tape;" ∈ xTbl := xIn_1 (List.mem_of_getElem? (i := 201) (by decide +kernel)) rfl
theorem lf_Tokens_9 : xLf "RosterRules$Tokens" 9 10 0 (.object "RosterRules$Tape") := ⟨RC_10, TC_10, 4, yC_10, rfl, by decide, iC_10, wd_1_201, pC_10, nC_10, rfl, rfl, by decide +kernel⟩
def y_Tokens_init : MethodName := ⟨"RosterRules$Tokens", "<init>", "(LRosterRules$Tape;)V"⟩
abbrev b_Tokens_init : ByteArray := prog_12_method_1_code
def ws_Tokens_init : List Cond := Cond.code y_Tokens_init b_Tokens_init 2 none :: xTbl
theorem wd_1_220 : Cond.methodLink "RosterRules$PatternParser" 5 ⟨"java/lang/Object", "<init>", "()V"⟩ ∈ xTbl := xIn_1 (List.mem_of_getElem? (i := 220) (by decide +kernel)) rfl
theorem ob_PatternParser_5 : xOb "RosterRules$PatternParser" 5 := ⟨wd_1_220, wd_1_25, wd_1_26⟩
theorem wd_1_222 : Cond.fieldLink "RosterRules$PatternParser" 13 "RosterRules$PatternParser" "ended" "[I" ∈ xTbl := xIn_1 (List.mem_of_getElem? (i := 222) (by decide +kernel)) rfl
theorem lf_PatternParser_13 : xLf "RosterRules$PatternParser" 13 6 1 (.array .int) := ⟨RC_6, TC_6, 12, yC_6, rfl, by decide, iC_6, wd_1_222, pC_6, nC_6, rfl, rfl, by decide +kernel⟩
theorem wd_1_223 : Cond.fieldLink "RosterRules$PatternParser" 17 "RosterRules$PatternParser" "rows" "[I" ∈ xTbl := xIn_1 (List.mem_of_getElem? (i := 223) (by decide +kernel)) rfl
theorem lf_PatternParser_17 : xLf "RosterRules$PatternParser" 17 6 2 (.array .int) := ⟨RC_6, TC_6, 12, yC_6, rfl, by decide, iC_6, wd_1_223, pC_6, nC_6, rfl, rfl, by decide +kernel⟩
theorem wd_1_224 : Cond.fieldLink "RosterRules$PatternParser" 20 "RosterRules$PatternParser" "begins" "[I" ∈ xTbl := xIn_1 (List.mem_of_getElem? (i := 224) (by decide +kernel)) rfl
theorem lf_PatternParser_20 : xLf "RosterRules$PatternParser" 20 6 3 (.array .int) := ⟨RC_6, TC_6, 12, yC_6, rfl, by decide, iC_6, wd_1_224, pC_6, nC_6, rfl, rfl, by decide +kernel⟩
theorem wd_1_221 : Cond.fieldLink "RosterRules$PatternParser" 23 "RosterRules$PatternParser" "tape" "LRosterRules$Tape;" ∈ xTbl := xIn_1 (List.mem_of_getElem? (i := 221) (by decide +kernel)) rfl
theorem lf_PatternParser_23 : xLf "RosterRules$PatternParser" 23 6 0 (.object "RosterRules$Tape") := ⟨RC_6, TC_6, 12, yC_6, rfl, by decide, iC_6, wd_1_221, pC_6, nC_6, rfl, rfl, by decide +kernel⟩
def y_PatternParser_init : MethodName := ⟨"RosterRules$PatternParser", "<init>", "(LRosterRules$Tape;)V"⟩
abbrev b_PatternParser_init : ByteArray := prog_8_method_1_code
def ws_PatternParser_init : List Cond := Cond.code y_PatternParser_init b_PatternParser_init 2 none :: xTbl
theorem wd_1_194 : Cond.methodLink "RosterRules$LawReader" 3 ⟨"java/lang/Object", "<init>", "()V"⟩ ∈ xTbl := xIn_1 (List.mem_of_getElem? (i := 194) (by decide +kernel)) rfl
theorem ob_LawReader_3 : xOb "RosterRules$LawReader" 3 := ⟨wd_1_194, wd_1_25, wd_1_26⟩
theorem wd_2_25 : Cond.fieldLink "RosterRules$LawReader" 9 "RosterRules$LawReader" "faultPlace" "I" ∈ xTbl := xIn_2 (List.mem_of_getElem? (i := 25) (by decide +kernel)) rfl
theorem lp_LawReader_9 : xLp "RosterRules$LawReader" 9 5 4 .int := ⟨RC_5, TC_5, 5, yC_5, rfl, by decide, iC_5, Or.inl wd_2_25, pC_5, nC_5, rfl, by decide +kernel⟩
theorem dv_10 : ∀ j, j < 4 → defaultValue (yC_10 j) = vp_V [.null, .int 0, .int 0, .int 0] j := fun j hj => by rcases (show j = 0 ∨ j = 1 ∨ j = 2 ∨ j = 3 by omega) with rfl | rfl | rfl | rfl <;> rfl
theorem wd_1_195 : Cond.classLink "RosterRules$LawReader" 15 "RosterRules$Tokens" ∈ xTbl := xIn_1 (List.mem_of_getElem? (i := 195) (by decide +kernel)) rfl
theorem wd_1_196 : Cond.instantiable "RosterRules$Tokens" 4 ∈ xTbl := xIn_1 (List.mem_of_getElem? (i := 196) (by decide +kernel)) rfl
theorem wd_1_9 : Cond.initialized "RosterRules$Tokens" ∈ xTbl := xIn_1 (List.mem_of_getElem? (i := 9) (by decide +kernel)) rfl
theorem nw_LawReader_15 : xNw "RosterRules$LawReader" 15 10 4 [.null, .int 0, .int 0, .int 0] := ⟨RC_10, TC_10, yC_10, rfl, iC_10, pC_10, dv_10, wd_1_195, wd_1_196, wd_1_9⟩
theorem wd_1_199 : Cond.code ⟨"RosterRules$Tokens", "<init>", "(LRosterRules$Tape;)V"⟩ prog_12_method_1_code 2 (none : Option FieldType) ∈ xTbl := xIn_1 (List.mem_of_getElem? (i := 199) rfl) rfl
theorem gi_Tokens_init : GoodIn xTbl ws_Tokens_init := xGI wd_1_199
theorem hi_Tokens_init : y_Tokens_init.cls ≠ "java/lang/invoke/MethodHandle" ∧ y_Tokens_init.cls ≠ "java/lang/invoke/VarHandle" ∧ (parseMethodDescriptor y_Tokens_init.desc).map (fun d => d.parameters.length) = some 1 := by decide +kernel
theorem wd_1_197 : Cond.methodLink "RosterRules$LawReader" 17 ⟨"RosterRules$Tokens", "<init>", "(LRosterRules$Tape;)V"⟩ ∈ xTbl := xIn_1 (List.mem_of_getElem? (i := 197) (by decide +kernel)) rfl
theorem wd_1_198 : Cond.instanceMethod ⟨"RosterRules$Tokens", "<init>", "(LRosterRules$Tape;)V"⟩ ∈ xTbl := xIn_1 (List.mem_of_getElem? (i := 198) (by decide +kernel)) rfl
theorem wd_2_20 : Cond.fieldLink "RosterRules$LawReader" 20 "RosterRules$LawReader" "tokens" "LRosterRules$Tokens;" ∈ xTbl := xIn_2 (List.mem_of_getElem? (i := 20) (by decide +kernel)) rfl
theorem lf_LawReader_20 : xLf "RosterRules$LawReader" 20 5 0 (.object "RosterRules$Tokens") := ⟨RC_5, TC_5, 5, yC_5, rfl, by decide, iC_5, wd_2_20, pC_5, nC_5, rfl, rfl, by decide +kernel⟩
theorem dv_6 : ∀ j, j < 12 → defaultValue (yC_6 j) = vp_V [.null, .null, .null, .null, .int 0, .int 0, .int 0, .int 0, .int 0, .int 0, .int 0, .int 0] j := fun j hj => by rcases (show j = 0 ∨ j = 1 ∨ j = 2 ∨ j = 3 ∨ j = 4 ∨ j = 5 ∨ j = 6 ∨ j = 7 ∨ j = 8 ∨ j = 9 ∨ j = 10 ∨ j = 11 by omega) with rfl | rfl | rfl | rfl | rfl | rfl | rfl | rfl | rfl | rfl | rfl | rfl <;> rfl
theorem wd_1_215 : Cond.classLink "RosterRules$LawReader" 24 "RosterRules$PatternParser" ∈ xTbl := xIn_1 (List.mem_of_getElem? (i := 215) (by decide +kernel)) rfl
theorem wd_1_216 : Cond.instantiable "RosterRules$PatternParser" 12 ∈ xTbl := xIn_1 (List.mem_of_getElem? (i := 216) (by decide +kernel)) rfl
theorem wd_1_10 : Cond.initialized "RosterRules$PatternParser" ∈ xTbl := xIn_1 (List.mem_of_getElem? (i := 10) (by decide +kernel)) rfl
theorem nw_LawReader_24 : xNw "RosterRules$LawReader" 24 6 12 [.null, .null, .null, .null, .int 0, .int 0, .int 0, .int 0, .int 0, .int 0, .int 0, .int 0] := ⟨RC_6, TC_6, yC_6, rfl, iC_6, pC_6, dv_6, wd_1_215, wd_1_216, wd_1_10⟩
theorem wd_1_219 : Cond.code ⟨"RosterRules$PatternParser", "<init>", "(LRosterRules$Tape;)V"⟩ prog_8_method_1_code 2 (none : Option FieldType) ∈ xTbl := xIn_1 (List.mem_of_getElem? (i := 219) rfl) rfl
theorem gi_PatternParser_init : GoodIn xTbl ws_PatternParser_init := xGI wd_1_219
theorem hi_PatternParser_init : y_PatternParser_init.cls ≠ "java/lang/invoke/MethodHandle" ∧ y_PatternParser_init.cls ≠ "java/lang/invoke/VarHandle" ∧ (parseMethodDescriptor y_PatternParser_init.desc).map (fun d => d.parameters.length) = some 1 := by decide +kernel
theorem wd_1_217 : Cond.methodLink "RosterRules$LawReader" 26 ⟨"RosterRules$PatternParser", "<init>", "(LRosterRules$Tape;)V"⟩ ∈ xTbl := xIn_1 (List.mem_of_getElem? (i := 217) (by decide +kernel)) rfl
theorem wd_1_218 : Cond.instanceMethod ⟨"RosterRules$PatternParser", "<init>", "(LRosterRules$Tape;)V"⟩ ∈ xTbl := xIn_1 (List.mem_of_getElem? (i := 218) (by decide +kernel)) rfl
theorem wd_2_21 : Cond.fieldLink "RosterRules$LawReader" 27 "RosterRules$LawReader" "patterns" "LRosterRules$PatternParser;" ∈ xTbl := xIn_2 (List.mem_of_getElem? (i := 21) (by decide +kernel)) rfl
theorem lf_LawReader_27 : xLf "RosterRules$LawReader" 27 5 1 (.object "RosterRules$PatternParser") := ⟨RC_5, TC_5, 5, yC_5, rfl, by decide, iC_5, wd_2_21, pC_5, nC_5, rfl, rfl, by decide +kernel⟩
theorem wd_2_22 : Cond.fieldLink "RosterRules$LawReader" 31 "RosterRules$LawReader" "days" "I" ∈ xTbl := xIn_2 (List.mem_of_getElem? (i := 22) (by decide +kernel)) rfl
theorem lf_LawReader_31 : xLf "RosterRules$LawReader" 31 5 2 .int := ⟨RC_5, TC_5, 5, yC_5, rfl, by decide, iC_5, wd_2_22, pC_5, nC_5, rfl, rfl, by decide +kernel⟩
def y_LawReader_init : MethodName := ⟨"RosterRules$LawReader", "<init>", "(LRosterRules$Tape;I)V"⟩
abbrev b_LawReader_init : ByteArray := prog_7_method_1_code
def ws_LawReader_init : List Cond := Cond.code y_LawReader_init b_LawReader_init 3 none :: xTbl
theorem wd_1_205 : Cond.fieldLink "RosterRules$Tokens" 15 "RosterRules$Tokens" "end" "I" ∈ xTbl := xIn_1 (List.mem_of_getElem? (i := 205) (by decide +kernel)) rfl
theorem lp_Tokens_15 : xLp "RosterRules$Tokens" 15 10 3 .int := ⟨RC_10, TC_10, 4, yC_10, rfl, by decide, iC_10, Or.inl wd_1_205, pC_10, nC_10, rfl, by decide +kernel⟩
def y_Tokens_rewind : MethodName := ⟨"RosterRules$Tokens", "rewind", "()V"⟩
abbrev b_Tokens_rewind : ByteArray := prog_12_method_2_code
def ws_Tokens_rewind : List Cond := Cond.code y_Tokens_rewind b_Tokens_rewind 1 none :: xTbl
theorem wd_1_35 : Cond.fieldLink "RosterRules$Tape" 15 "RosterRules$Tape" "length" "I" ∈ xTbl := xIn_1 (List.mem_of_getElem? (i := 35) (by decide +kernel)) rfl
theorem lk_Tape_15 : xLk "RosterRules$Tape" 15 9 1 := ⟨RC_9, TC_9, 2, rfl, by decide, iC_9, Or.inl wd_1_35⟩
theorem wd_1_33 : Cond.fieldLink "RosterRules$Tape" 9 "RosterRules$Tape" "bytes" "[I" ∈ xTbl := xIn_1 (List.mem_of_getElem? (i := 33) (by decide +kernel)) rfl
theorem lk_Tape_9 : xLk "RosterRules$Tape" 9 9 0 := ⟨RC_9, TC_9, 2, rfl, by decide, iC_9, Or.inl wd_1_33⟩
def y_Tape_byteAt : MethodName := ⟨"RosterRules$Tape", "byteAt", "(I)I"⟩
abbrev b_Tape_byteAt : ByteArray := prog_11_method_3_code
def ws_Tape_byteAt : List Cond := Cond.code y_Tape_byteAt b_Tape_byteAt 2 (some .int) :: xTbl
theorem wd_1_204 : Cond.fieldLink "RosterRules$Tokens" 19 "RosterRules$Tokens" "begin" "I" ∈ xTbl := xIn_1 (List.mem_of_getElem? (i := 204) (by decide +kernel)) rfl
theorem lk_Tokens_19 : xLk "RosterRules$Tokens" 19 10 2 := ⟨RC_10, TC_10, 4, rfl, by decide, iC_10, Or.inl wd_1_204⟩
theorem lk_Tokens_9 : xLk "RosterRules$Tokens" 9 10 0 := ⟨RC_10, TC_10, 4, rfl, by decide, iC_10, Or.inl wd_1_201⟩
theorem wn_1_37 : Cond.fieldLinkNest "RosterRules$Tokens" 22 "RosterRules$Tape" "length" "I" "RosterRules" ∈ xNs := xNs_1 (List.mem_of_getElem? (i := 37) (by decide +kernel)) rfl
theorem lk_Tokens_22 : xLk "RosterRules$Tokens" 22 9 1 := ⟨RC_9, TC_9, 2, rfl, by decide, iC_9, Or.inr ⟨"RosterRules", wn_1_37⟩⟩
theorem wn_1_34 : Cond.fieldLinkNest "RosterRules$Tokens" 27 "RosterRules$Tape" "bytes" "[I" "RosterRules" ∈ xNs := xNs_1 (List.mem_of_getElem? (i := 34) (by decide +kernel)) rfl
theorem lk_Tokens_27 : xLk "RosterRules$Tokens" 27 9 0 := ⟨RC_9, TC_9, 2, rfl, by decide, iC_9, Or.inr ⟨"RosterRules", wn_1_34⟩⟩
def y_Tokens_runEnd : MethodName := ⟨"RosterRules$Tokens", "runEnd", "(II)I"⟩
abbrev b_Tokens_runEnd : ByteArray := prog_12_method_5_code
def ws_Tokens_runEnd : List Cond := Cond.code y_Tokens_runEnd b_Tokens_runEnd 4 (some .int) :: xTbl
def y_Tokens_closePattern : MethodName := ⟨"RosterRules$Tokens", "closePattern", "()Z"⟩
abbrev b_Tokens_closePattern : ByteArray := prog_12_method_6_code
def ws_Tokens_closePattern : List Cond := Cond.code y_Tokens_closePattern b_Tokens_closePattern 2 (some .boolean) :: xTbl
theorem wd_2_204 : Cond.methodLink "RosterRules$Tokens" 41 ⟨"RosterRules$Tokens", "runEnd", "(II)I"⟩ ∈ xTbl := xIn_2 (List.mem_of_getElem? (i := 204) (by decide +kernel)) rfl
theorem wd_2_206 : Cond.instanceMethod ⟨"RosterRules$Tokens", "runEnd", "(II)I"⟩ ∈ xTbl := xIn_2 (List.mem_of_getElem? (i := 206) (by decide +kernel)) rfl
theorem wz_1 : Cond.selects "RosterRules$Tokens" ⟨"RosterRules$Tokens", "runEnd", "(II)I"⟩ ⟨"RosterRules$Tokens", "runEnd", "(II)I"⟩ ∈ xTbl := List.mem_filter.mpr ⟨List.mem_append_left _ (List.mem_of_getElem? (i := 1) (by decide +kernel)), rfl⟩
theorem wd_2_207 : Cond.code ⟨"RosterRules$Tokens", "runEnd", "(II)I"⟩ prog_12_method_5_code 4 (some FieldType.int) ∈ xTbl := xIn_2 (List.mem_of_getElem? (i := 207) rfl) rfl
theorem gv_Tokens_41 : GoodIn xTbl (wsV "RosterRules$Tokens" 41 "RosterRules$Tokens" y_Tokens_runEnd ws_Tokens_runEnd) := xGV wd_2_204 wd_2_206 wz_1 wd_1_9 wd_2_207
theorem hd_Tokens_runEnd : y_Tokens_runEnd.cls = "RosterRules$Tokens" ∧ y_Tokens_runEnd.cls ≠ "java/lang/invoke/MethodHandle" ∧ y_Tokens_runEnd.cls ≠ "java/lang/invoke/VarHandle" ∧ (parseMethodDescriptor y_Tokens_runEnd.desc).map (fun d => d.parameters.length) = some 2 := by decide +kernel
theorem lk_Tokens_15 : xLk "RosterRules$Tokens" 15 10 3 := ⟨RC_10, TC_10, 4, rfl, by decide, iC_10, Or.inl wd_1_205⟩
theorem wd_2_208 : Cond.methodLink "RosterRules$Tokens" 45 ⟨"RosterRules$Tokens", "closePattern", "()Z"⟩ ∈ xTbl := xIn_2 (List.mem_of_getElem? (i := 208) (by decide +kernel)) rfl
theorem wd_2_210 : Cond.instanceMethod ⟨"RosterRules$Tokens", "closePattern", "()Z"⟩ ∈ xTbl := xIn_2 (List.mem_of_getElem? (i := 210) (by decide +kernel)) rfl
theorem wz_2 : Cond.selects "RosterRules$Tokens" ⟨"RosterRules$Tokens", "closePattern", "()Z"⟩ ⟨"RosterRules$Tokens", "closePattern", "()Z"⟩ ∈ xTbl := List.mem_filter.mpr ⟨List.mem_append_left _ (List.mem_of_getElem? (i := 2) (by decide +kernel)), rfl⟩
theorem wd_2_211 : Cond.code ⟨"RosterRules$Tokens", "closePattern", "()Z"⟩ prog_12_method_6_code 2 (some FieldType.boolean) ∈ xTbl := xIn_2 (List.mem_of_getElem? (i := 211) rfl) rfl
theorem gv_Tokens_45 : GoodIn xTbl (wsV "RosterRules$Tokens" 45 "RosterRules$Tokens" y_Tokens_closePattern ws_Tokens_closePattern) := xGV wd_2_208 wd_2_210 wz_2 wd_1_9 wd_2_211
theorem hd_Tokens_closePattern : y_Tokens_closePattern.cls = "RosterRules$Tokens" ∧ y_Tokens_closePattern.cls ≠ "java/lang/invoke/MethodHandle" ∧ y_Tokens_closePattern.cls ≠ "java/lang/invoke/VarHandle" ∧ (parseMethodDescriptor y_Tokens_closePattern.desc).map (fun d => d.parameters.length) = some 0 := by decide +kernel
def y_Tokens_kindFrom : MethodName := ⟨"RosterRules$Tokens", "kindFrom", "(I)I"⟩
abbrev b_Tokens_kindFrom : ByteArray := prog_12_method_4_code
def ws_Tokens_kindFrom : List Cond := Cond.code y_Tokens_kindFrom b_Tokens_kindFrom 2 (some .int) :: xTbl
theorem lp_Tokens_19 : xLp "RosterRules$Tokens" 19 10 2 .int := ⟨RC_10, TC_10, 4, yC_10, rfl, by decide, iC_10, Or.inl wd_1_204, pC_10, nC_10, rfl, by decide +kernel⟩
theorem wd_2_196 : Cond.methodLink "RosterRules$Tokens" 31 ⟨"RosterRules$Tape", "byteAt", "(I)I"⟩ ∈ xTbl := xIn_2 (List.mem_of_getElem? (i := 196) (by decide +kernel)) rfl
theorem wd_2_197 : Cond.instanceMethod ⟨"RosterRules$Tape", "byteAt", "(I)I"⟩ ∈ xTbl := xIn_2 (List.mem_of_getElem? (i := 197) (by decide +kernel)) rfl
theorem wd_2_198 : Cond.selects "RosterRules$Tape" ⟨"RosterRules$Tape", "byteAt", "(I)I"⟩ ⟨"RosterRules$Tape", "byteAt", "(I)I"⟩ ∈ xTbl := xIn_2 (List.mem_of_getElem? (i := 198) (by decide +kernel)) rfl
theorem wd_1_2 : Cond.initialized "RosterRules$Tape" ∈ xTbl := xIn_1 (List.mem_of_getElem? (i := 2) (by decide +kernel)) rfl
theorem wd_2_199 : Cond.code ⟨"RosterRules$Tape", "byteAt", "(I)I"⟩ prog_11_method_3_code 2 (some FieldType.int) ∈ xTbl := xIn_2 (List.mem_of_getElem? (i := 199) rfl) rfl
theorem gv_Tokens_31 : GoodIn xTbl (wsV "RosterRules$Tokens" 31 "RosterRules$Tape" y_Tape_byteAt ws_Tape_byteAt) := xGV wd_2_196 wd_2_197 wd_2_198 wd_1_2 wd_2_199
theorem hd_Tape_byteAt : y_Tape_byteAt.cls = "RosterRules$Tape" ∧ y_Tape_byteAt.cls ≠ "java/lang/invoke/MethodHandle" ∧ y_Tape_byteAt.cls ≠ "java/lang/invoke/VarHandle" ∧ (parseMethodDescriptor y_Tape_byteAt.desc).map (fun d => d.parameters.length) = some 1 := by decide +kernel
theorem wd_2_200 : Cond.methodLink "RosterRules$Tokens" 35 ⟨"RosterRules$Tokens", "kindFrom", "(I)I"⟩ ∈ xTbl := xIn_2 (List.mem_of_getElem? (i := 200) (by decide +kernel)) rfl
theorem wd_2_202 : Cond.instanceMethod ⟨"RosterRules$Tokens", "kindFrom", "(I)I"⟩ ∈ xTbl := xIn_2 (List.mem_of_getElem? (i := 202) (by decide +kernel)) rfl
theorem wz_0 : Cond.selects "RosterRules$Tokens" ⟨"RosterRules$Tokens", "kindFrom", "(I)I"⟩ ⟨"RosterRules$Tokens", "kindFrom", "(I)I"⟩ ∈ xTbl := List.mem_filter.mpr ⟨List.mem_append_left _ (List.mem_of_getElem? (i := 0) (by decide +kernel)), rfl⟩
theorem wd_2_203 : Cond.code ⟨"RosterRules$Tokens", "kindFrom", "(I)I"⟩ prog_12_method_4_code 2 (some FieldType.int) ∈ xTbl := xIn_2 (List.mem_of_getElem? (i := 203) rfl) rfl
theorem gv_Tokens_35 : GoodIn xTbl (wsV "RosterRules$Tokens" 35 "RosterRules$Tokens" y_Tokens_kindFrom ws_Tokens_kindFrom) := xGV wd_2_200 wd_2_202 wz_0 wd_1_9 wd_2_203
theorem hd_Tokens_kindFrom : y_Tokens_kindFrom.cls = "RosterRules$Tokens" ∧ y_Tokens_kindFrom.cls ≠ "java/lang/invoke/MethodHandle" ∧ y_Tokens_kindFrom.cls ≠ "java/lang/invoke/VarHandle" ∧ (parseMethodDescriptor y_Tokens_kindFrom.desc).map (fun d => d.parameters.length) = some 1 := by decide +kernel
theorem wd_1_202 : Cond.fieldLink "RosterRules$Tokens" 38 "RosterRules$Tokens" "kind" "I" ∈ xTbl := xIn_1 (List.mem_of_getElem? (i := 202) (by decide +kernel)) rfl
theorem lp_Tokens_38 : xLp "RosterRules$Tokens" 38 10 1 .int := ⟨RC_10, TC_10, 4, yC_10, rfl, by decide, iC_10, Or.inl wd_1_202, pC_10, nC_10, rfl, by decide +kernel⟩
theorem lk_Tokens_38 : xLk "RosterRules$Tokens" 38 10 1 := ⟨RC_10, TC_10, 4, rfl, by decide, iC_10, Or.inl wd_1_202⟩
def y_Tokens_advance : MethodName := ⟨"RosterRules$Tokens", "advance", "()I"⟩
abbrev b_Tokens_advance : ByteArray := prog_12_method_3_code
def ws_Tokens_advance : List Cond := Cond.code y_Tokens_advance b_Tokens_advance 1 (some .int) :: xTbl
theorem wd_2_23 : Cond.fieldLink "RosterRules$LawReader" 34 "RosterRules$LawReader" "fault" "I" ∈ xTbl := xIn_2 (List.mem_of_getElem? (i := 23) (by decide +kernel)) rfl
theorem lp_LawReader_34 : xLp "RosterRules$LawReader" 34 5 3 .int := ⟨RC_5, TC_5, 5, yC_5, rfl, by decide, iC_5, Or.inl wd_2_23, pC_5, nC_5, rfl, by decide +kernel⟩
def y_LawReader_refuse : MethodName := ⟨"RosterRules$LawReader", "refuse", "(II)V"⟩
abbrev b_LawReader_refuse : ByteArray := prog_7_method_3_code
def ws_LawReader_refuse : List Cond := Cond.code y_LawReader_refuse b_LawReader_refuse 3 none :: xTbl
theorem lk_LawReader_34 : xLk "RosterRules$LawReader" 34 5 3 := ⟨RC_5, TC_5, 5, rfl, by decide, iC_5, Or.inl wd_2_23⟩
theorem lk_LawReader_20 : xLk "RosterRules$LawReader" 20 5 0 := ⟨RC_5, TC_5, 5, rfl, by decide, iC_5, Or.inl wd_2_20⟩
theorem wd_2_192 : Cond.methodLink "RosterRules$LawReader" 40 ⟨"RosterRules$Tokens", "advance", "()I"⟩ ∈ xTbl := xIn_2 (List.mem_of_getElem? (i := 192) (by decide +kernel)) rfl
theorem wd_2_193 : Cond.instanceMethod ⟨"RosterRules$Tokens", "advance", "()I"⟩ ∈ xTbl := xIn_2 (List.mem_of_getElem? (i := 193) (by decide +kernel)) rfl
theorem wd_2_194 : Cond.selects "RosterRules$Tokens" ⟨"RosterRules$Tokens", "advance", "()I"⟩ ⟨"RosterRules$Tokens", "advance", "()I"⟩ ∈ xTbl := xIn_2 (List.mem_of_getElem? (i := 194) (by decide +kernel)) rfl
theorem wd_2_195 : Cond.code ⟨"RosterRules$Tokens", "advance", "()I"⟩ prog_12_method_3_code 1 (some FieldType.int) ∈ xTbl := xIn_2 (List.mem_of_getElem? (i := 195) rfl) rfl
theorem gv_LawReader_40 : GoodIn xTbl (wsV "RosterRules$LawReader" 40 "RosterRules$Tokens" y_Tokens_advance ws_Tokens_advance) := xGV wd_2_192 wd_2_193 wd_2_194 wd_1_9 wd_2_195
theorem hd_Tokens_advance : y_Tokens_advance.cls = "RosterRules$Tokens" ∧ y_Tokens_advance.cls ≠ "java/lang/invoke/MethodHandle" ∧ y_Tokens_advance.cls ≠ "java/lang/invoke/VarHandle" ∧ (parseMethodDescriptor y_Tokens_advance.desc).map (fun d => d.parameters.length) = some 0 := by decide +kernel
theorem wn_1_203 : Cond.fieldLinkNest "RosterRules$LawReader" 44 "RosterRules$Tokens" "begin" "I" "RosterRules" ∈ xNs := xNs_1 (List.mem_of_getElem? (i := 203) (by decide +kernel)) rfl
theorem lk_LawReader_44 : xLk "RosterRules$LawReader" 44 10 2 := ⟨RC_10, TC_10, 4, rfl, by decide, iC_10, Or.inr ⟨"RosterRules", wn_1_203⟩⟩
theorem wd_2_212 : Cond.methodLink "RosterRules$LawReader" 47 ⟨"RosterRules$LawReader", "refuse", "(II)V"⟩ ∈ xTbl := xIn_2 (List.mem_of_getElem? (i := 212) (by decide +kernel)) rfl
theorem wd_2_214 : Cond.instanceMethod ⟨"RosterRules$LawReader", "refuse", "(II)V"⟩ ∈ xTbl := xIn_2 (List.mem_of_getElem? (i := 214) (by decide +kernel)) rfl
theorem wz_3 : Cond.selects "RosterRules$LawReader" ⟨"RosterRules$LawReader", "refuse", "(II)V"⟩ ⟨"RosterRules$LawReader", "refuse", "(II)V"⟩ ∈ xTbl := List.mem_filter.mpr ⟨List.mem_append_left _ (List.mem_of_getElem? (i := 3) (by decide +kernel)), rfl⟩
theorem wd_1_8 : Cond.initialized "RosterRules$LawReader" ∈ xTbl := xIn_1 (List.mem_of_getElem? (i := 8) (by decide +kernel)) rfl
theorem wd_2_215 : Cond.code ⟨"RosterRules$LawReader", "refuse", "(II)V"⟩ prog_7_method_3_code 3 (none : Option FieldType) ∈ xTbl := xIn_2 (List.mem_of_getElem? (i := 215) rfl) rfl
theorem gv_LawReader_47 : GoodIn xTbl (wsV "RosterRules$LawReader" 47 "RosterRules$LawReader" y_LawReader_refuse ws_LawReader_refuse) := xGV wd_2_212 wd_2_214 wz_3 wd_1_8 wd_2_215
theorem hd_LawReader_refuse : y_LawReader_refuse.cls = "RosterRules$LawReader" ∧ y_LawReader_refuse.cls ≠ "java/lang/invoke/MethodHandle" ∧ y_LawReader_refuse.cls ≠ "java/lang/invoke/VarHandle" ∧ (parseMethodDescriptor y_LawReader_refuse.desc).map (fun d => d.parameters.length) = some 2 := by decide +kernel
def y_LawReader_expect : MethodName := ⟨"RosterRules$LawReader", "expect", "(I)Z"⟩
abbrev b_LawReader_expect : ByteArray := prog_7_method_6_code
def ws_LawReader_expect : List Cond := Cond.code y_LawReader_expect b_LawReader_expect 3 (some .boolean) :: xTbl
def y_Tokens_value : MethodName := ⟨"RosterRules$Tokens", "value", "()I"⟩
abbrev b_Tokens_value : ByteArray := prog_12_method_8_code
def ws_Tokens_value : List Cond := Cond.code y_Tokens_value b_Tokens_value 3 (some .int) :: xTbl
theorem wd_3_54 : Cond.methodLink "RosterRules$LawReader" 94 ⟨"RosterRules$LawReader", "expect", "(I)Z"⟩ ∈ xTbl := xIn_3 (List.mem_of_getElem? (i := 54) (by decide +kernel)) rfl
theorem wd_3_56 : Cond.instanceMethod ⟨"RosterRules$LawReader", "expect", "(I)Z"⟩ ∈ xTbl := xIn_3 (List.mem_of_getElem? (i := 56) (by decide +kernel)) rfl
theorem wz_7 : Cond.selects "RosterRules$LawReader" ⟨"RosterRules$LawReader", "expect", "(I)Z"⟩ ⟨"RosterRules$LawReader", "expect", "(I)Z"⟩ ∈ xTbl := List.mem_filter.mpr ⟨List.mem_append_left _ (List.mem_of_getElem? (i := 7) (by decide +kernel)), rfl⟩
theorem wd_3_57 : Cond.code ⟨"RosterRules$LawReader", "expect", "(I)Z"⟩ prog_7_method_6_code 3 (some FieldType.boolean) ∈ xTbl := xIn_3 (List.mem_of_getElem? (i := 57) rfl) rfl
theorem gv_LawReader_94 : GoodIn xTbl (wsV "RosterRules$LawReader" 94 "RosterRules$LawReader" y_LawReader_expect ws_LawReader_expect) := xGV wd_3_54 wd_3_56 wz_7 wd_1_8 wd_3_57
theorem hd_LawReader_expect : y_LawReader_expect.cls = "RosterRules$LawReader" ∧ y_LawReader_expect.cls ≠ "java/lang/invoke/MethodHandle" ∧ y_LawReader_expect.cls ≠ "java/lang/invoke/VarHandle" ∧ (parseMethodDescriptor y_LawReader_expect.desc).map (fun d => d.parameters.length) = some 1 := by decide +kernel
theorem wd_3_58 : Cond.methodLink "RosterRules$LawReader" 106 ⟨"RosterRules$Tokens", "value", "()I"⟩ ∈ xTbl := xIn_3 (List.mem_of_getElem? (i := 58) (by decide +kernel)) rfl
theorem wd_3_59 : Cond.instanceMethod ⟨"RosterRules$Tokens", "value", "()I"⟩ ∈ xTbl := xIn_3 (List.mem_of_getElem? (i := 59) (by decide +kernel)) rfl
theorem wd_3_60 : Cond.selects "RosterRules$Tokens" ⟨"RosterRules$Tokens", "value", "()I"⟩ ⟨"RosterRules$Tokens", "value", "()I"⟩ ∈ xTbl := xIn_3 (List.mem_of_getElem? (i := 60) (by decide +kernel)) rfl
theorem wd_3_61 : Cond.code ⟨"RosterRules$Tokens", "value", "()I"⟩ prog_12_method_8_code 3 (some FieldType.int) ∈ xTbl := xIn_3 (List.mem_of_getElem? (i := 61) rfl) rfl
theorem gv_LawReader_106 : GoodIn xTbl (wsV "RosterRules$LawReader" 106 "RosterRules$Tokens" y_Tokens_value ws_Tokens_value) := xGV wd_3_58 wd_3_59 wd_3_60 wd_1_9 wd_3_61
theorem hd_Tokens_value : y_Tokens_value.cls = "RosterRules$Tokens" ∧ y_Tokens_value.cls ≠ "java/lang/invoke/MethodHandle" ∧ y_Tokens_value.cls ≠ "java/lang/invoke/VarHandle" ∧ (parseMethodDescriptor y_Tokens_value.desc).map (fun d => d.parameters.length) = some 0 := by decide +kernel
def y_LawReader_number : MethodName := ⟨"RosterRules$LawReader", "number", "(II)I"⟩
abbrev b_LawReader_number : ByteArray := prog_7_method_7_code
def ws_LawReader_number : List Cond := Cond.code y_LawReader_number b_LawReader_number 4 (some .int) :: xTbl
theorem wd_2_55 : Cond.fieldLink "RosterRules$Positions" 24 "RosterRules$Positions" "size" "I" ∈ xTbl := xIn_2 (List.mem_of_getElem? (i := 55) (by decide +kernel)) rfl
theorem lp_Positions_24 : xLp "RosterRules$Positions" 24 7 4 .int := ⟨RC_7, TC_7, 9, yC_7, rfl, by decide, iC_7, Or.inl wd_2_55, pC_7, nC_7, rfl, by decide +kernel⟩
theorem wd_2_58 : Cond.fieldLink "RosterRules$Positions" 28 "RosterRules$Positions" "overfull" "Z" ∈ xTbl := xIn_2 (List.mem_of_getElem? (i := 58) (by decide +kernel)) rfl
theorem lp_Positions_28 : xLp "RosterRules$Positions" 28 7 5 .boolean := ⟨RC_7, TC_7, 9, yC_7, rfl, by decide, iC_7, Or.inl wd_2_58, pC_7, nC_7, rfl, by decide +kernel⟩
theorem lk_Positions_11 : xLk "RosterRules$Positions" 11 7 0 := ⟨RC_7, TC_7, 9, rfl, by decide, iC_7, Or.inl wd_2_49⟩
theorem lk_Positions_15 : xLk "RosterRules$Positions" 15 7 1 := ⟨RC_7, TC_7, 9, rfl, by decide, iC_7, Or.inl wd_2_52⟩
def y_Positions_clear : MethodName := ⟨"RosterRules$Positions", "clear", "()V"⟩
abbrev b_Positions_clear : ByteArray := prog_9_method_2_code
def ws_Positions_clear : List Cond := Cond.code y_Positions_clear b_Positions_clear 2 none :: xTbl
def y_PatternParser_letterBit : MethodName := ⟨"RosterRules$PatternParser", "letterBit", "(I)I"⟩
abbrev b_PatternParser_letterBit : ByteArray := prog_8_method_5_code
def ws_PatternParser_letterBit : List Cond := Cond.code y_PatternParser_letterBit b_PatternParser_letterBit 2 (some .int) :: xTbl
theorem wd_1_231 : Cond.fieldLink "RosterRules$PatternParser" 32 "RosterRules$PatternParser" "fault" "I" ∈ xTbl := xIn_1 (List.mem_of_getElem? (i := 231) (by decide +kernel)) rfl
theorem lp_PatternParser_32 : xLp "RosterRules$PatternParser" 32 6 10 .int := ⟨RC_6, TC_6, 12, yC_6, rfl, by decide, iC_6, Or.inl wd_1_231, pC_6, nC_6, rfl, by decide +kernel⟩
theorem wd_1_233 : Cond.fieldLink "RosterRules$PatternParser" 73 "RosterRules$PatternParser" "faultPlace" "I" ∈ xTbl := xIn_1 (List.mem_of_getElem? (i := 233) (by decide +kernel)) rfl
theorem lp_PatternParser_73 : xLp "RosterRules$PatternParser" 73 6 11 .int := ⟨RC_6, TC_6, 12, yC_6, rfl, by decide, iC_6, Or.inl wd_1_233, pC_6, nC_6, rfl, by decide +kernel⟩
def y_PatternParser_refuse : MethodName := ⟨"RosterRules$PatternParser", "refuse", "(II)V"⟩
abbrev b_PatternParser_refuse : ByteArray := prog_8_method_3_code
def ws_PatternParser_refuse : List Cond := Cond.code y_PatternParser_refuse b_PatternParser_refuse 3 none :: xTbl
theorem wd_1_230 : Cond.fieldLink "RosterRules$PatternParser" 40 "RosterRules$PatternParser" "next" "I" ∈ xTbl := xIn_1 (List.mem_of_getElem? (i := 230) (by decide +kernel)) rfl
theorem lk_PatternParser_40 : xLk "RosterRules$PatternParser" 40 6 9 := ⟨RC_6, TC_6, 12, rfl, by decide, iC_6, Or.inl wd_1_230⟩
theorem lp_PatternParser_40 : xLp "RosterRules$PatternParser" 40 6 9 .int := ⟨RC_6, TC_6, 12, yC_6, rfl, by decide, iC_6, Or.inl wd_1_230, pC_6, nC_6, rfl, by decide +kernel⟩
theorem lk_PatternParser_23 : xLk "RosterRules$PatternParser" 23 6 0 := ⟨RC_6, TC_6, 12, rfl, by decide, iC_6, Or.inl wd_1_221⟩
theorem wd_3_76 : Cond.methodLink "RosterRules$PatternParser" 50 ⟨"RosterRules$Tape", "byteAt", "(I)I"⟩ ∈ xTbl := xIn_3 (List.mem_of_getElem? (i := 76) (by decide +kernel)) rfl
theorem gv_PatternParser_50 : GoodIn xTbl (wsV "RosterRules$PatternParser" 50 "RosterRules$Tape" y_Tape_byteAt ws_Tape_byteAt) := xGV wd_3_76 wd_2_197 wd_2_198 wd_1_2 wd_2_199
theorem wd_3_85 : Cond.methodLink "RosterRules$PatternParser" 80 ⟨"RosterRules$PatternParser", "letterBit", "(I)I"⟩ ∈ xTbl := xIn_3 (List.mem_of_getElem? (i := 85) (by decide +kernel)) rfl
theorem wd_3_87 : Cond.instanceMethod ⟨"RosterRules$PatternParser", "letterBit", "(I)I"⟩ ∈ xTbl := xIn_3 (List.mem_of_getElem? (i := 87) (by decide +kernel)) rfl
theorem wz_11 : Cond.selects "RosterRules$PatternParser" ⟨"RosterRules$PatternParser", "letterBit", "(I)I"⟩ ⟨"RosterRules$PatternParser", "letterBit", "(I)I"⟩ ∈ xTbl := List.mem_filter.mpr ⟨List.mem_append_left _ (List.mem_of_getElem? (i := 11) (by decide +kernel)), rfl⟩
theorem wd_3_88 : Cond.code ⟨"RosterRules$PatternParser", "letterBit", "(I)I"⟩ prog_8_method_5_code 2 (some FieldType.int) ∈ xTbl := xIn_3 (List.mem_of_getElem? (i := 88) rfl) rfl
theorem gv_PatternParser_80 : GoodIn xTbl (wsV "RosterRules$PatternParser" 80 "RosterRules$PatternParser" y_PatternParser_letterBit ws_PatternParser_letterBit) := xGV wd_3_85 wd_3_87 wz_11 wd_1_10 wd_3_88
theorem hd_PatternParser_letterBit : y_PatternParser_letterBit.cls = "RosterRules$PatternParser" ∧ y_PatternParser_letterBit.cls ≠ "java/lang/invoke/MethodHandle" ∧ y_PatternParser_letterBit.cls ≠ "java/lang/invoke/VarHandle" ∧ (parseMethodDescriptor y_PatternParser_letterBit.desc).map (fun d => d.parameters.length) = some 1 := by decide +kernel
theorem wd_3_89 : Cond.methodLink "RosterRules$PatternParser" 65 ⟨"RosterRules$PatternParser", "refuse", "(II)V"⟩ ∈ xTbl := xIn_3 (List.mem_of_getElem? (i := 89) (by decide +kernel)) rfl
theorem wd_3_91 : Cond.instanceMethod ⟨"RosterRules$PatternParser", "refuse", "(II)V"⟩ ∈ xTbl := xIn_3 (List.mem_of_getElem? (i := 91) (by decide +kernel)) rfl
theorem wz_12 : Cond.selects "RosterRules$PatternParser" ⟨"RosterRules$PatternParser", "refuse", "(II)V"⟩ ⟨"RosterRules$PatternParser", "refuse", "(II)V"⟩ ∈ xTbl := List.mem_filter.mpr ⟨List.mem_append_left _ (List.mem_of_getElem? (i := 12) (by decide +kernel)), rfl⟩
theorem wd_3_92 : Cond.code ⟨"RosterRules$PatternParser", "refuse", "(II)V"⟩ prog_8_method_3_code 3 (none : Option FieldType) ∈ xTbl := xIn_3 (List.mem_of_getElem? (i := 92) rfl) rfl
theorem gv_PatternParser_65 : GoodIn xTbl (wsV "RosterRules$PatternParser" 65 "RosterRules$PatternParser" y_PatternParser_refuse ws_PatternParser_refuse) := xGV wd_3_89 wd_3_91 wz_12 wd_1_10 wd_3_92
theorem hd_PatternParser_refuse : y_PatternParser_refuse.cls = "RosterRules$PatternParser" ∧ y_PatternParser_refuse.cls ≠ "java/lang/invoke/MethodHandle" ∧ y_PatternParser_refuse.cls ≠ "java/lang/invoke/VarHandle" ∧ (parseMethodDescriptor y_PatternParser_refuse.desc).map (fun d => d.parameters.length) = some 2 := by decide +kernel
def y_PatternParser_choice : MethodName := ⟨"RosterRules$PatternParser", "choice", "()I"⟩
abbrev b_PatternParser_choice : ByteArray := prog_8_method_6_code
def ws_PatternParser_choice : List Cond := Cond.code y_PatternParser_choice b_PatternParser_choice 4 (some .int) :: xTbl
theorem lk_Positions_24 : xLk "RosterRules$Positions" 24 7 4 := ⟨RC_7, TC_7, 9, rfl, by decide, iC_7, Or.inl wd_2_55⟩
theorem wd_3_101 : Cond.constant "RosterRules$Positions" 32 1048576 ∈ xTbl := xIn_3 (List.mem_of_getElem? (i := 101) (by decide +kernel)) rfl
theorem wd_3_102 : Cond.constant "RosterRules$Positions" 33 1047552 ∈ xTbl := xIn_3 (List.mem_of_getElem? (i := 102) (by decide +kernel)) rfl
def y_Positions_chain : MethodName := ⟨"RosterRules$Positions", "chain", "(II)I"⟩
abbrev b_Positions_chain : ByteArray := prog_9_method_5_code
def ws_Positions_chain : List Cond := Cond.code y_Positions_chain b_Positions_chain 5 (some .int) :: xTbl
def y_Positions_add : MethodName := ⟨"RosterRules$Positions", "add", "(I)I"⟩
abbrev b_Positions_add : ByteArray := prog_9_method_3_code
def ws_Positions_add : List Cond := Cond.code y_Positions_add b_Positions_add 4 (some .int) :: xTbl
theorem wd_1_226 : Cond.fieldLink "RosterRules$PatternParser" 43 "RosterRules$PatternParser" "item" "I" ∈ xTbl := xIn_1 (List.mem_of_getElem? (i := 226) (by decide +kernel)) rfl
theorem lk_PatternParser_43 : xLk "RosterRules$PatternParser" 43 6 5 := ⟨RC_6, TC_6, 12, rfl, by decide, iC_6, Or.inl wd_1_226⟩
theorem lk_PatternParser_17 : xLk "RosterRules$PatternParser" 17 6 2 := ⟨RC_6, TC_6, 12, rfl, by decide, iC_6, Or.inl wd_1_223⟩
theorem wd_1_225 : Cond.fieldLink "RosterRules$PatternParser" 46 "RosterRules$PatternParser" "depth" "I" ∈ xTbl := xIn_1 (List.mem_of_getElem? (i := 225) (by decide +kernel)) rfl
theorem lk_PatternParser_46 : xLk "RosterRules$PatternParser" 46 6 4 := ⟨RC_6, TC_6, 12, rfl, by decide, iC_6, Or.inl wd_1_225⟩
theorem wd_3_97 : Cond.methodLink "RosterRules$PatternParser" 105 ⟨"RosterRules$Positions", "chain", "(II)I"⟩ ∈ xTbl := xIn_3 (List.mem_of_getElem? (i := 97) (by decide +kernel)) rfl
theorem wd_3_98 : Cond.instanceMethod ⟨"RosterRules$Positions", "chain", "(II)I"⟩ ∈ xTbl := xIn_3 (List.mem_of_getElem? (i := 98) (by decide +kernel)) rfl
theorem wd_3_99 : Cond.selects "RosterRules$Positions" ⟨"RosterRules$Positions", "chain", "(II)I"⟩ ⟨"RosterRules$Positions", "chain", "(II)I"⟩ ∈ xTbl := xIn_3 (List.mem_of_getElem? (i := 99) (by decide +kernel)) rfl
theorem wd_3_100 : Cond.code ⟨"RosterRules$Positions", "chain", "(II)I"⟩ prog_9_method_5_code 5 (some FieldType.int) ∈ xTbl := xIn_3 (List.mem_of_getElem? (i := 100) rfl) rfl
theorem gv_PatternParser_105 : GoodIn xTbl (wsV "RosterRules$PatternParser" 105 "RosterRules$Positions" y_Positions_chain ws_Positions_chain) := xGV wd_3_97 wd_3_98 wd_3_99 wd_1_12 wd_3_100
theorem hd_Positions_chain : y_Positions_chain.cls = "RosterRules$Positions" ∧ y_Positions_chain.cls ≠ "java/lang/invoke/MethodHandle" ∧ y_Positions_chain.cls ≠ "java/lang/invoke/VarHandle" ∧ (parseMethodDescriptor y_Positions_chain.desc).map (fun d => d.parameters.length) = some 2 := by decide +kernel
theorem wn_2_56 : Cond.fieldLinkNest "RosterRules$PatternParser" 109 "RosterRules$Positions" "size" "I" "RosterRules" ∈ xNs := xNs_2 (List.mem_of_getElem? (i := 56) (by decide +kernel)) rfl
theorem lk_PatternParser_109 : xLk "RosterRules$PatternParser" 109 7 4 := ⟨RC_7, TC_7, 9, rfl, by decide, iC_7, Or.inr ⟨"RosterRules", wn_2_56⟩⟩
theorem wd_1_227 : Cond.fieldLink "RosterRules$PatternParser" 112 "RosterRules$PatternParser" "itemBegin" "I" ∈ xTbl := xIn_1 (List.mem_of_getElem? (i := 227) (by decide +kernel)) rfl
theorem lp_PatternParser_112 : xLp "RosterRules$PatternParser" 112 6 6 .int := ⟨RC_6, TC_6, 12, yC_6, rfl, by decide, iC_6, Or.inl wd_1_227, pC_6, nC_6, rfl, by decide +kernel⟩
theorem wd_3_103 : Cond.methodLink "RosterRules$PatternParser" 115 ⟨"RosterRules$Positions", "add", "(I)I"⟩ ∈ xTbl := xIn_3 (List.mem_of_getElem? (i := 103) (by decide +kernel)) rfl
theorem wd_3_104 : Cond.instanceMethod ⟨"RosterRules$Positions", "add", "(I)I"⟩ ∈ xTbl := xIn_3 (List.mem_of_getElem? (i := 104) (by decide +kernel)) rfl
theorem wd_3_105 : Cond.selects "RosterRules$Positions" ⟨"RosterRules$Positions", "add", "(I)I"⟩ ⟨"RosterRules$Positions", "add", "(I)I"⟩ ∈ xTbl := xIn_3 (List.mem_of_getElem? (i := 105) (by decide +kernel)) rfl
theorem wd_3_106 : Cond.code ⟨"RosterRules$Positions", "add", "(I)I"⟩ prog_9_method_3_code 4 (some FieldType.int) ∈ xTbl := xIn_3 (List.mem_of_getElem? (i := 106) rfl) rfl
theorem gv_PatternParser_115 : GoodIn xTbl (wsV "RosterRules$PatternParser" 115 "RosterRules$Positions" y_Positions_add ws_Positions_add) := xGV wd_3_103 wd_3_104 wd_3_105 wd_1_12 wd_3_106
theorem hd_Positions_add : y_Positions_add.cls = "RosterRules$Positions" ∧ y_Positions_add.cls ≠ "java/lang/invoke/MethodHandle" ∧ y_Positions_add.cls ≠ "java/lang/invoke/VarHandle" ∧ (parseMethodDescriptor y_Positions_add.desc).map (fun d => d.parameters.length) = some 1 := by decide +kernel
theorem lp_PatternParser_43 : xLp "RosterRules$PatternParser" 43 6 5 .int := ⟨RC_6, TC_6, 12, yC_6, rfl, by decide, iC_6, Or.inl wd_1_226, pC_6, nC_6, rfl, by decide +kernel⟩
theorem wd_1_228 : Cond.fieldLink "RosterRules$PatternParser" 93 "RosterRules$PatternParser" "repeatable" "Z" ∈ xTbl := xIn_1 (List.mem_of_getElem? (i := 228) (by decide +kernel)) rfl
theorem lp_PatternParser_93 : xLp "RosterRules$PatternParser" 93 6 7 .boolean := ⟨RC_6, TC_6, 12, yC_6, rfl, by decide, iC_6, Or.inl wd_1_228, pC_6, nC_6, rfl, by decide +kernel⟩
def y_PatternParser_addAtom : MethodName := ⟨"RosterRules$PatternParser", "addAtom", "(ILRosterRules$Positions;)V"⟩
abbrev b_PatternParser_addAtom : ByteArray := prog_8_method_7_code
def ws_PatternParser_addAtom : List Cond := Cond.code y_PatternParser_addAtom b_PatternParser_addAtom 3 none :: xTbl
theorem lp_PatternParser_46 : xLp "RosterRules$PatternParser" 46 6 4 .int := ⟨RC_6, TC_6, 12, yC_6, rfl, by decide, iC_6, Or.inl wd_1_225, pC_6, nC_6, rfl, by decide +kernel⟩
theorem lk_PatternParser_13 : xLk "RosterRules$PatternParser" 13 6 1 := ⟨RC_6, TC_6, 12, rfl, by decide, iC_6, Or.inl wd_1_222⟩
theorem wd_3_75 : Cond.constant "RosterRules$PatternParser" 49 1048576 ∈ xTbl := xIn_3 (List.mem_of_getElem? (i := 75) (by decide +kernel)) rfl
theorem lk_PatternParser_20 : xLk "RosterRules$PatternParser" 20 6 3 := ⟨RC_6, TC_6, 12, rfl, by decide, iC_6, Or.inl wd_1_224⟩
def y_PatternParser_openGroup : MethodName := ⟨"RosterRules$PatternParser", "openGroup", "(LRosterRules$Positions;)V"⟩
abbrev b_PatternParser_openGroup : ByteArray := prog_8_method_8_code
def ws_PatternParser_openGroup : List Cond := Cond.code y_PatternParser_openGroup b_PatternParser_openGroup 2 none :: xTbl
theorem wd_1_229 : Cond.fieldLink "RosterRules$PatternParser" 36 "RosterRules$PatternParser" "closed" "Z" ∈ xTbl := xIn_1 (List.mem_of_getElem? (i := 229) (by decide +kernel)) rfl
theorem lp_PatternParser_36 : xLp "RosterRules$PatternParser" 36 6 8 .boolean := ⟨RC_6, TC_6, 12, yC_6, rfl, by decide, iC_6, Or.inl wd_1_229, pC_6, nC_6, rfl, by decide +kernel⟩
theorem wd_3_115 : Cond.methodLink "RosterRules$PatternParser" 118 ⟨"java/lang/Math", "max", "(II)I"⟩ ∈ xTbl := xIn_3 (List.mem_of_getElem? (i := 115) (by decide +kernel)) rfl
theorem lm_PatternParser_118 : xMx "RosterRules$PatternParser" 118 := ⟨wd_3_115, wd_1_114, wd_1_6, wd_1_115⟩
def y_PatternParser_endRow : MethodName := ⟨"RosterRules$PatternParser", "endRow", "(ILRosterRules$Positions;)V"⟩
abbrev b_PatternParser_endRow : ByteArray := prog_8_method_9_code
def ws_PatternParser_endRow : List Cond := Cond.code y_PatternParser_endRow b_PatternParser_endRow 4 none :: xTbl
theorem lk_PatternParser_32 : xLk "RosterRules$PatternParser" 32 6 10 := ⟨RC_6, TC_6, 12, rfl, by decide, iC_6, Or.inl wd_1_231⟩
def y_PatternParser_timesInBraces : MethodName := ⟨"RosterRules$PatternParser", "timesInBraces", "()I"⟩
abbrev b_PatternParser_timesInBraces : ByteArray := prog_8_method_11_code
def ws_PatternParser_timesInBraces : List Cond := Cond.code y_PatternParser_timesInBraces b_PatternParser_timesInBraces 3 (some .int) :: xTbl
def y_PatternParser_timesBySign : MethodName := ⟨"RosterRules$PatternParser", "timesBySign", "(I)I"⟩
abbrev b_PatternParser_timesBySign : ByteArray := prog_8_method_10_code
def ws_PatternParser_timesBySign : List Cond := Cond.code y_PatternParser_timesBySign b_PatternParser_timesBySign 2 (some .int) :: xTbl
def y_Positions_copyPlaces : MethodName := ⟨"RosterRules$Positions", "copyPlaces", "(III)V"⟩
abbrev b_Positions_copyPlaces : ByteArray := prog_9_method_4_code
def ws_Positions_copyPlaces : List Cond := Cond.code y_Positions_copyPlaces b_Positions_copyPlaces 7 none :: xTbl
theorem lk_PatternParser_112 : xLk "RosterRules$PatternParser" 112 6 6 := ⟨RC_6, TC_6, 12, rfl, by decide, iC_6, Or.inl wd_1_227⟩
theorem wd_3_128 : Cond.methodLink "RosterRules$PatternParser" 123 ⟨"RosterRules$Positions", "copyPlaces", "(III)V"⟩ ∈ xTbl := xIn_3 (List.mem_of_getElem? (i := 128) (by decide +kernel)) rfl
theorem wd_3_129 : Cond.instanceMethod ⟨"RosterRules$Positions", "copyPlaces", "(III)V"⟩ ∈ xTbl := xIn_3 (List.mem_of_getElem? (i := 129) (by decide +kernel)) rfl
theorem wd_3_130 : Cond.selects "RosterRules$Positions" ⟨"RosterRules$Positions", "copyPlaces", "(III)V"⟩ ⟨"RosterRules$Positions", "copyPlaces", "(III)V"⟩ ∈ xTbl := xIn_3 (List.mem_of_getElem? (i := 130) (by decide +kernel)) rfl
theorem wd_3_131 : Cond.code ⟨"RosterRules$Positions", "copyPlaces", "(III)V"⟩ prog_9_method_4_code 7 (none : Option FieldType) ∈ xTbl := xIn_3 (List.mem_of_getElem? (i := 131) rfl) rfl
theorem gv_PatternParser_123 : GoodIn xTbl (wsV "RosterRules$PatternParser" 123 "RosterRules$Positions" y_Positions_copyPlaces ws_Positions_copyPlaces) := xGV wd_3_128 wd_3_129 wd_3_130 wd_1_12 wd_3_131
theorem hd_Positions_copyPlaces : y_Positions_copyPlaces.cls = "RosterRules$Positions" ∧ y_Positions_copyPlaces.cls ≠ "java/lang/invoke/MethodHandle" ∧ y_Positions_copyPlaces.cls ≠ "java/lang/invoke/VarHandle" ∧ (parseMethodDescriptor y_Positions_copyPlaces.desc).map (fun d => d.parameters.length) = some 3 := by decide +kernel
theorem wn_2_59 : Cond.fieldLinkNest "RosterRules$PatternParser" 60 "RosterRules$Positions" "overfull" "Z" "RosterRules" ∈ xNs := xNs_2 (List.mem_of_getElem? (i := 59) (by decide +kernel)) rfl
theorem lk_PatternParser_60 : xLk "RosterRules$PatternParser" 60 7 5 := ⟨RC_7, TC_7, 9, rfl, by decide, iC_7, Or.inr ⟨"RosterRules", wn_2_59⟩⟩
theorem wd_3_132 : Cond.constant "RosterRules$PatternParser" 127 (-1048577) ∈ xTbl := xIn_3 (List.mem_of_getElem? (i := 132) (by decide +kernel)) rfl
def y_PatternParser_repeatItem : MethodName := ⟨"RosterRules$PatternParser", "repeatItem", "(ILRosterRules$Positions;)V"⟩
abbrev b_PatternParser_repeatItem : ByteArray := prog_8_method_12_code
def ws_PatternParser_repeatItem : List Cond := Cond.code y_PatternParser_repeatItem b_PatternParser_repeatItem 9 none :: xTbl
theorem wd_3_81 : Cond.methodLink "RosterRules$PatternParser" 76 ⟨"RosterRules$PatternParser", "choice", "()I"⟩ ∈ xTbl := xIn_3 (List.mem_of_getElem? (i := 81) (by decide +kernel)) rfl
theorem wd_3_83 : Cond.instanceMethod ⟨"RosterRules$PatternParser", "choice", "()I"⟩ ∈ xTbl := xIn_3 (List.mem_of_getElem? (i := 83) (by decide +kernel)) rfl
theorem wz_10 : Cond.selects "RosterRules$PatternParser" ⟨"RosterRules$PatternParser", "choice", "()I"⟩ ⟨"RosterRules$PatternParser", "choice", "()I"⟩ ∈ xTbl := List.mem_filter.mpr ⟨List.mem_append_left _ (List.mem_of_getElem? (i := 10) (by decide +kernel)), rfl⟩
theorem wd_3_84 : Cond.code ⟨"RosterRules$PatternParser", "choice", "()I"⟩ prog_8_method_6_code 4 (some FieldType.int) ∈ xTbl := xIn_3 (List.mem_of_getElem? (i := 84) rfl) rfl
theorem gv_PatternParser_76 : GoodIn xTbl (wsV "RosterRules$PatternParser" 76 "RosterRules$PatternParser" y_PatternParser_choice ws_PatternParser_choice) := xGV wd_3_81 wd_3_83 wz_10 wd_1_10 wd_3_84
theorem hd_PatternParser_choice : y_PatternParser_choice.cls = "RosterRules$PatternParser" ∧ y_PatternParser_choice.cls ≠ "java/lang/invoke/MethodHandle" ∧ y_PatternParser_choice.cls ≠ "java/lang/invoke/VarHandle" ∧ (parseMethodDescriptor y_PatternParser_choice.desc).map (fun d => d.parameters.length) = some 0 := by decide +kernel
theorem wd_3_93 : Cond.methodLink "RosterRules$PatternParser" 83 ⟨"RosterRules$PatternParser", "addAtom", "(ILRosterRules$Positions;)V"⟩ ∈ xTbl := xIn_3 (List.mem_of_getElem? (i := 93) (by decide +kernel)) rfl
theorem wd_3_95 : Cond.instanceMethod ⟨"RosterRules$PatternParser", "addAtom", "(ILRosterRules$Positions;)V"⟩ ∈ xTbl := xIn_3 (List.mem_of_getElem? (i := 95) (by decide +kernel)) rfl
theorem wz_13 : Cond.selects "RosterRules$PatternParser" ⟨"RosterRules$PatternParser", "addAtom", "(ILRosterRules$Positions;)V"⟩ ⟨"RosterRules$PatternParser", "addAtom", "(ILRosterRules$Positions;)V"⟩ ∈ xTbl := List.mem_filter.mpr ⟨List.mem_append_left _ (List.mem_of_getElem? (i := 13) (by decide +kernel)), rfl⟩
theorem wd_3_96 : Cond.code ⟨"RosterRules$PatternParser", "addAtom", "(ILRosterRules$Positions;)V"⟩ prog_8_method_7_code 3 (none : Option FieldType) ∈ xTbl := xIn_3 (List.mem_of_getElem? (i := 96) rfl) rfl
theorem gv_PatternParser_83 : GoodIn xTbl (wsV "RosterRules$PatternParser" 83 "RosterRules$PatternParser" y_PatternParser_addAtom ws_PatternParser_addAtom) := xGV wd_3_93 wd_3_95 wz_13 wd_1_10 wd_3_96
theorem hd_PatternParser_addAtom : y_PatternParser_addAtom.cls = "RosterRules$PatternParser" ∧ y_PatternParser_addAtom.cls ≠ "java/lang/invoke/MethodHandle" ∧ y_PatternParser_addAtom.cls ≠ "java/lang/invoke/VarHandle" ∧ (parseMethodDescriptor y_PatternParser_addAtom.desc).map (fun d => d.parameters.length) = some 2 := by decide +kernel
theorem wd_3_107 : Cond.methodLink "RosterRules$PatternParser" 86 ⟨"RosterRules$PatternParser", "openGroup", "(LRosterRules$Positions;)V"⟩ ∈ xTbl := xIn_3 (List.mem_of_getElem? (i := 107) (by decide +kernel)) rfl
theorem wd_3_109 : Cond.instanceMethod ⟨"RosterRules$PatternParser", "openGroup", "(LRosterRules$Positions;)V"⟩ ∈ xTbl := xIn_3 (List.mem_of_getElem? (i := 109) (by decide +kernel)) rfl
theorem wz_14 : Cond.selects "RosterRules$PatternParser" ⟨"RosterRules$PatternParser", "openGroup", "(LRosterRules$Positions;)V"⟩ ⟨"RosterRules$PatternParser", "openGroup", "(LRosterRules$Positions;)V"⟩ ∈ xTbl := List.mem_filter.mpr ⟨List.mem_append_left _ (List.mem_of_getElem? (i := 14) (by decide +kernel)), rfl⟩
theorem wd_3_110 : Cond.code ⟨"RosterRules$PatternParser", "openGroup", "(LRosterRules$Positions;)V"⟩ prog_8_method_8_code 2 (none : Option FieldType) ∈ xTbl := xIn_3 (List.mem_of_getElem? (i := 110) rfl) rfl
theorem gv_PatternParser_86 : GoodIn xTbl (wsV "RosterRules$PatternParser" 86 "RosterRules$PatternParser" y_PatternParser_openGroup ws_PatternParser_openGroup) := xGV wd_3_107 wd_3_109 wz_14 wd_1_10 wd_3_110
theorem hd_PatternParser_openGroup : y_PatternParser_openGroup.cls = "RosterRules$PatternParser" ∧ y_PatternParser_openGroup.cls ≠ "java/lang/invoke/MethodHandle" ∧ y_PatternParser_openGroup.cls ≠ "java/lang/invoke/VarHandle" ∧ (parseMethodDescriptor y_PatternParser_openGroup.desc).map (fun d => d.parameters.length) = some 1 := by decide +kernel
theorem wd_3_111 : Cond.methodLink "RosterRules$PatternParser" 90 ⟨"RosterRules$PatternParser", "endRow", "(ILRosterRules$Positions;)V"⟩ ∈ xTbl := xIn_3 (List.mem_of_getElem? (i := 111) (by decide +kernel)) rfl
theorem wd_3_113 : Cond.instanceMethod ⟨"RosterRules$PatternParser", "endRow", "(ILRosterRules$Positions;)V"⟩ ∈ xTbl := xIn_3 (List.mem_of_getElem? (i := 113) (by decide +kernel)) rfl
theorem wz_15 : Cond.selects "RosterRules$PatternParser" ⟨"RosterRules$PatternParser", "endRow", "(ILRosterRules$Positions;)V"⟩ ⟨"RosterRules$PatternParser", "endRow", "(ILRosterRules$Positions;)V"⟩ ∈ xTbl := List.mem_filter.mpr ⟨List.mem_append_left _ (List.mem_of_getElem? (i := 15) (by decide +kernel)), rfl⟩
theorem wd_3_114 : Cond.code ⟨"RosterRules$PatternParser", "endRow", "(ILRosterRules$Positions;)V"⟩ prog_8_method_9_code 4 (none : Option FieldType) ∈ xTbl := xIn_3 (List.mem_of_getElem? (i := 114) rfl) rfl
theorem gv_PatternParser_90 : GoodIn xTbl (wsV "RosterRules$PatternParser" 90 "RosterRules$PatternParser" y_PatternParser_endRow ws_PatternParser_endRow) := xGV wd_3_111 wd_3_113 wz_15 wd_1_10 wd_3_114
theorem hd_PatternParser_endRow : y_PatternParser_endRow.cls = "RosterRules$PatternParser" ∧ y_PatternParser_endRow.cls ≠ "java/lang/invoke/MethodHandle" ∧ y_PatternParser_endRow.cls ≠ "java/lang/invoke/VarHandle" ∧ (parseMethodDescriptor y_PatternParser_endRow.desc).map (fun d => d.parameters.length) = some 2 := by decide +kernel
theorem lk_PatternParser_93 : xLk "RosterRules$PatternParser" 93 6 7 := ⟨RC_6, TC_6, 12, rfl, by decide, iC_6, Or.inl wd_1_228⟩
theorem wd_3_116 : Cond.methodLink "RosterRules$PatternParser" 96 ⟨"RosterRules$PatternParser", "timesInBraces", "()I"⟩ ∈ xTbl := xIn_3 (List.mem_of_getElem? (i := 116) (by decide +kernel)) rfl
theorem wd_3_118 : Cond.instanceMethod ⟨"RosterRules$PatternParser", "timesInBraces", "()I"⟩ ∈ xTbl := xIn_3 (List.mem_of_getElem? (i := 118) (by decide +kernel)) rfl
theorem wz_16 : Cond.selects "RosterRules$PatternParser" ⟨"RosterRules$PatternParser", "timesInBraces", "()I"⟩ ⟨"RosterRules$PatternParser", "timesInBraces", "()I"⟩ ∈ xTbl := List.mem_filter.mpr ⟨List.mem_append_left _ (List.mem_of_getElem? (i := 16) (by decide +kernel)), rfl⟩
theorem wd_3_119 : Cond.code ⟨"RosterRules$PatternParser", "timesInBraces", "()I"⟩ prog_8_method_11_code 3 (some FieldType.int) ∈ xTbl := xIn_3 (List.mem_of_getElem? (i := 119) rfl) rfl
theorem gv_PatternParser_96 : GoodIn xTbl (wsV "RosterRules$PatternParser" 96 "RosterRules$PatternParser" y_PatternParser_timesInBraces ws_PatternParser_timesInBraces) := xGV wd_3_116 wd_3_118 wz_16 wd_1_10 wd_3_119
theorem hd_PatternParser_timesInBraces : y_PatternParser_timesInBraces.cls = "RosterRules$PatternParser" ∧ y_PatternParser_timesInBraces.cls ≠ "java/lang/invoke/MethodHandle" ∧ y_PatternParser_timesInBraces.cls ≠ "java/lang/invoke/VarHandle" ∧ (parseMethodDescriptor y_PatternParser_timesInBraces.desc).map (fun d => d.parameters.length) = some 0 := by decide +kernel
theorem wd_3_124 : Cond.methodLink "RosterRules$PatternParser" 102 ⟨"RosterRules$PatternParser", "repeatItem", "(ILRosterRules$Positions;)V"⟩ ∈ xTbl := xIn_3 (List.mem_of_getElem? (i := 124) (by decide +kernel)) rfl
theorem wd_3_126 : Cond.instanceMethod ⟨"RosterRules$PatternParser", "repeatItem", "(ILRosterRules$Positions;)V"⟩ ∈ xTbl := xIn_3 (List.mem_of_getElem? (i := 126) (by decide +kernel)) rfl
theorem wz_18 : Cond.selects "RosterRules$PatternParser" ⟨"RosterRules$PatternParser", "repeatItem", "(ILRosterRules$Positions;)V"⟩ ⟨"RosterRules$PatternParser", "repeatItem", "(ILRosterRules$Positions;)V"⟩ ∈ xTbl := List.mem_filter.mpr ⟨List.mem_append_left _ (List.mem_of_getElem? (i := 18) (by decide +kernel)), rfl⟩
theorem wd_3_127 : Cond.code ⟨"RosterRules$PatternParser", "repeatItem", "(ILRosterRules$Positions;)V"⟩ prog_8_method_12_code 9 (none : Option FieldType) ∈ xTbl := xIn_3 (List.mem_of_getElem? (i := 127) rfl) rfl
theorem gv_PatternParser_102 : GoodIn xTbl (wsV "RosterRules$PatternParser" 102 "RosterRules$PatternParser" y_PatternParser_repeatItem ws_PatternParser_repeatItem) := xGV wd_3_124 wd_3_126 wz_18 wd_1_10 wd_3_127
theorem hd_PatternParser_repeatItem : y_PatternParser_repeatItem.cls = "RosterRules$PatternParser" ∧ y_PatternParser_repeatItem.cls ≠ "java/lang/invoke/MethodHandle" ∧ y_PatternParser_repeatItem.cls ≠ "java/lang/invoke/VarHandle" ∧ (parseMethodDescriptor y_PatternParser_repeatItem.desc).map (fun d => d.parameters.length) = some 2 := by decide +kernel
theorem wd_3_120 : Cond.methodLink "RosterRules$PatternParser" 99 ⟨"RosterRules$PatternParser", "timesBySign", "(I)I"⟩ ∈ xTbl := xIn_3 (List.mem_of_getElem? (i := 120) (by decide +kernel)) rfl
theorem wd_3_122 : Cond.instanceMethod ⟨"RosterRules$PatternParser", "timesBySign", "(I)I"⟩ ∈ xTbl := xIn_3 (List.mem_of_getElem? (i := 122) (by decide +kernel)) rfl
theorem wz_17 : Cond.selects "RosterRules$PatternParser" ⟨"RosterRules$PatternParser", "timesBySign", "(I)I"⟩ ⟨"RosterRules$PatternParser", "timesBySign", "(I)I"⟩ ∈ xTbl := List.mem_filter.mpr ⟨List.mem_append_left _ (List.mem_of_getElem? (i := 17) (by decide +kernel)), rfl⟩
theorem wd_3_123 : Cond.code ⟨"RosterRules$PatternParser", "timesBySign", "(I)I"⟩ prog_8_method_10_code 2 (some FieldType.int) ∈ xTbl := xIn_3 (List.mem_of_getElem? (i := 123) rfl) rfl
theorem gv_PatternParser_99 : GoodIn xTbl (wsV "RosterRules$PatternParser" 99 "RosterRules$PatternParser" y_PatternParser_timesBySign ws_PatternParser_timesBySign) := xGV wd_3_120 wd_3_122 wz_17 wd_1_10 wd_3_123
theorem hd_PatternParser_timesBySign : y_PatternParser_timesBySign.cls = "RosterRules$PatternParser" ∧ y_PatternParser_timesBySign.cls ≠ "java/lang/invoke/MethodHandle" ∧ y_PatternParser_timesBySign.cls ≠ "java/lang/invoke/VarHandle" ∧ (parseMethodDescriptor y_PatternParser_timesBySign.desc).map (fun d => d.parameters.length) = some 1 := by decide +kernel
def y_PatternParser_takeByte : MethodName := ⟨"RosterRules$PatternParser", "takeByte", "(ILRosterRules$Positions;)V"⟩
abbrev b_PatternParser_takeByte : ByteArray := prog_8_method_4_code
def ws_PatternParser_takeByte : List Cond := Cond.code y_PatternParser_takeByte b_PatternParser_takeByte 4 none :: xTbl
def y_Positions_followersOf : MethodName := ⟨"RosterRules$Positions", "followersOf", "(II)I"⟩
abbrev b_Positions_followersOf : ByteArray := prog_9_method_7_code
def ws_Positions_followersOf : List Cond := Cond.code y_Positions_followersOf b_Positions_followersOf 5 (some .int) :: xTbl
theorem wd_2_61 : Cond.fieldLink "RosterRules$Positions" 34 "RosterRules$Positions" "first" "I" ∈ xTbl := xIn_2 (List.mem_of_getElem? (i := 61) (by decide +kernel)) rfl
theorem lp_Positions_34 : xLp "RosterRules$Positions" 34 7 6 .int := ⟨RC_7, TC_7, 9, yC_7, rfl, by decide, iC_7, Or.inl wd_2_61, pC_7, nC_7, rfl, by decide +kernel⟩
theorem wd_2_64 : Cond.fieldLink "RosterRules$Positions" 37 "RosterRules$Positions" "last" "I" ∈ xTbl := xIn_2 (List.mem_of_getElem? (i := 64) (by decide +kernel)) rfl
theorem lp_Positions_37 : xLp "RosterRules$Positions" 37 7 7 .int := ⟨RC_7, TC_7, 9, yC_7, rfl, by decide, iC_7, Or.inl wd_2_64, pC_7, nC_7, rfl, by decide +kernel⟩
theorem wd_2_67 : Cond.fieldLink "RosterRules$Positions" 40 "RosterRules$Positions" "takesEmpty" "Z" ∈ xTbl := xIn_2 (List.mem_of_getElem? (i := 67) (by decide +kernel)) rfl
theorem lp_Positions_40 : xLp "RosterRules$Positions" 40 7 8 .boolean := ⟨RC_7, TC_7, 9, yC_7, rfl, by decide, iC_7, Or.inl wd_2_67, pC_7, nC_7, rfl, by decide +kernel⟩
theorem wd_3_137 : Cond.methodLink "RosterRules$Positions" 43 ⟨"RosterRules$Positions", "followersOf", "(II)I"⟩ ∈ xTbl := xIn_3 (List.mem_of_getElem? (i := 137) (by decide +kernel)) rfl
theorem wd_3_139 : Cond.instanceMethod ⟨"RosterRules$Positions", "followersOf", "(II)I"⟩ ∈ xTbl := xIn_3 (List.mem_of_getElem? (i := 139) (by decide +kernel)) rfl
theorem wz_19 : Cond.selects "RosterRules$Positions" ⟨"RosterRules$Positions", "followersOf", "(II)I"⟩ ⟨"RosterRules$Positions", "followersOf", "(II)I"⟩ ∈ xTbl := List.mem_filter.mpr ⟨List.mem_append_left _ (List.mem_of_getElem? (i := 19) (by decide +kernel)), rfl⟩
theorem wd_3_140 : Cond.code ⟨"RosterRules$Positions", "followersOf", "(II)I"⟩ prog_9_method_7_code 5 (some FieldType.int) ∈ xTbl := xIn_3 (List.mem_of_getElem? (i := 140) rfl) rfl
theorem gv_Positions_43 : GoodIn xTbl (wsV "RosterRules$Positions" 43 "RosterRules$Positions" y_Positions_followersOf ws_Positions_followersOf) := xGV wd_3_137 wd_3_139 wz_19 wd_1_12 wd_3_140
theorem hd_Positions_followersOf : y_Positions_followersOf.cls = "RosterRules$Positions" ∧ y_Positions_followersOf.cls ≠ "java/lang/invoke/MethodHandle" ∧ y_Positions_followersOf.cls ≠ "java/lang/invoke/VarHandle" ∧ (parseMethodDescriptor y_Positions_followersOf.desc).map (fun d => d.parameters.length) = some 2 := by decide +kernel
def y_Positions_finish : MethodName := ⟨"RosterRules$Positions", "finish", "(I)V"⟩
abbrev b_Positions_finish : ByteArray := prog_9_method_6_code
def ws_Positions_finish : List Cond := Cond.code y_Positions_finish b_Positions_finish 3 none :: xTbl
theorem wd_3_71 : Cond.methodLink "RosterRules$PatternParser" 27 ⟨"RosterRules$Positions", "clear", "()V"⟩ ∈ xTbl := xIn_3 (List.mem_of_getElem? (i := 71) (by decide +kernel)) rfl
theorem wd_3_72 : Cond.instanceMethod ⟨"RosterRules$Positions", "clear", "()V"⟩ ∈ xTbl := xIn_3 (List.mem_of_getElem? (i := 72) (by decide +kernel)) rfl
theorem wd_3_73 : Cond.selects "RosterRules$Positions" ⟨"RosterRules$Positions", "clear", "()V"⟩ ⟨"RosterRules$Positions", "clear", "()V"⟩ ∈ xTbl := xIn_3 (List.mem_of_getElem? (i := 73) (by decide +kernel)) rfl
theorem wd_3_74 : Cond.code ⟨"RosterRules$Positions", "clear", "()V"⟩ prog_9_method_2_code 2 (none : Option FieldType) ∈ xTbl := xIn_3 (List.mem_of_getElem? (i := 74) rfl) rfl
theorem gv_PatternParser_27 : GoodIn xTbl (wsV "RosterRules$PatternParser" 27 "RosterRules$Positions" y_Positions_clear ws_Positions_clear) := xGV wd_3_71 wd_3_72 wd_3_73 wd_1_12 wd_3_74
theorem hd_Positions_clear : y_Positions_clear.cls = "RosterRules$Positions" ∧ y_Positions_clear.cls ≠ "java/lang/invoke/MethodHandle" ∧ y_Positions_clear.cls ≠ "java/lang/invoke/VarHandle" ∧ (parseMethodDescriptor y_Positions_clear.desc).map (fun d => d.parameters.length) = some 0 := by decide +kernel
theorem lk_PatternParser_36 : xLk "RosterRules$PatternParser" 36 6 8 := ⟨RC_6, TC_6, 12, rfl, by decide, iC_6, Or.inl wd_1_229⟩
theorem wd_3_77 : Cond.methodLink "RosterRules$PatternParser" 56 ⟨"RosterRules$PatternParser", "takeByte", "(ILRosterRules$Positions;)V"⟩ ∈ xTbl := xIn_3 (List.mem_of_getElem? (i := 77) (by decide +kernel)) rfl
theorem wd_3_79 : Cond.instanceMethod ⟨"RosterRules$PatternParser", "takeByte", "(ILRosterRules$Positions;)V"⟩ ∈ xTbl := xIn_3 (List.mem_of_getElem? (i := 79) (by decide +kernel)) rfl
theorem wz_9 : Cond.selects "RosterRules$PatternParser" ⟨"RosterRules$PatternParser", "takeByte", "(ILRosterRules$Positions;)V"⟩ ⟨"RosterRules$PatternParser", "takeByte", "(ILRosterRules$Positions;)V"⟩ ∈ xTbl := List.mem_filter.mpr ⟨List.mem_append_left _ (List.mem_of_getElem? (i := 9) (by decide +kernel)), rfl⟩
theorem wd_3_80 : Cond.code ⟨"RosterRules$PatternParser", "takeByte", "(ILRosterRules$Positions;)V"⟩ prog_8_method_4_code 4 (none : Option FieldType) ∈ xTbl := xIn_3 (List.mem_of_getElem? (i := 80) rfl) rfl
theorem gv_PatternParser_56 : GoodIn xTbl (wsV "RosterRules$PatternParser" 56 "RosterRules$PatternParser" y_PatternParser_takeByte ws_PatternParser_takeByte) := xGV wd_3_77 wd_3_79 wz_9 wd_1_10 wd_3_80
theorem hd_PatternParser_takeByte : y_PatternParser_takeByte.cls = "RosterRules$PatternParser" ∧ y_PatternParser_takeByte.cls ≠ "java/lang/invoke/MethodHandle" ∧ y_PatternParser_takeByte.cls ≠ "java/lang/invoke/VarHandle" ∧ (parseMethodDescriptor y_PatternParser_takeByte.desc).map (fun d => d.parameters.length) = some 2 := by decide +kernel
theorem wd_3_133 : Cond.methodLink "RosterRules$PatternParser" 69 ⟨"RosterRules$Positions", "finish", "(I)V"⟩ ∈ xTbl := xIn_3 (List.mem_of_getElem? (i := 133) (by decide +kernel)) rfl
theorem wd_3_134 : Cond.instanceMethod ⟨"RosterRules$Positions", "finish", "(I)V"⟩ ∈ xTbl := xIn_3 (List.mem_of_getElem? (i := 134) (by decide +kernel)) rfl
theorem wd_3_135 : Cond.selects "RosterRules$Positions" ⟨"RosterRules$Positions", "finish", "(I)V"⟩ ⟨"RosterRules$Positions", "finish", "(I)V"⟩ ∈ xTbl := xIn_3 (List.mem_of_getElem? (i := 135) (by decide +kernel)) rfl
theorem wd_3_136 : Cond.code ⟨"RosterRules$Positions", "finish", "(I)V"⟩ prog_9_method_6_code 3 (none : Option FieldType) ∈ xTbl := xIn_3 (List.mem_of_getElem? (i := 136) rfl) rfl
theorem gv_PatternParser_69 : GoodIn xTbl (wsV "RosterRules$PatternParser" 69 "RosterRules$Positions" y_Positions_finish ws_Positions_finish) := xGV wd_3_133 wd_3_134 wd_3_135 wd_1_12 wd_3_136
theorem hd_Positions_finish : y_Positions_finish.cls = "RosterRules$Positions" ∧ y_Positions_finish.cls ≠ "java/lang/invoke/MethodHandle" ∧ y_Positions_finish.cls ≠ "java/lang/invoke/VarHandle" ∧ (parseMethodDescriptor y_Positions_finish.desc).map (fun d => d.parameters.length) = some 1 := by decide +kernel
def y_PatternParser_parse : MethodName := ⟨"RosterRules$PatternParser", "parse", "(ILRosterRules$Positions;)V"⟩
abbrev b_PatternParser_parse : ByteArray := prog_8_method_2_code
def ws_PatternParser_parse : List Cond := Cond.code y_PatternParser_parse b_PatternParser_parse 4 none :: xTbl
theorem lk_LawReader_27 : xLk "RosterRules$LawReader" 27 5 1 := ⟨RC_5, TC_5, 5, rfl, by decide, iC_5, Or.inl wd_2_21⟩
theorem wd_3_67 : Cond.methodLink "RosterRules$LawReader" 112 ⟨"RosterRules$PatternParser", "parse", "(ILRosterRules$Positions;)V"⟩ ∈ xTbl := xIn_3 (List.mem_of_getElem? (i := 67) (by decide +kernel)) rfl
theorem wd_3_68 : Cond.instanceMethod ⟨"RosterRules$PatternParser", "parse", "(ILRosterRules$Positions;)V"⟩ ∈ xTbl := xIn_3 (List.mem_of_getElem? (i := 68) (by decide +kernel)) rfl
theorem wd_3_69 : Cond.selects "RosterRules$PatternParser" ⟨"RosterRules$PatternParser", "parse", "(ILRosterRules$Positions;)V"⟩ ⟨"RosterRules$PatternParser", "parse", "(ILRosterRules$Positions;)V"⟩ ∈ xTbl := xIn_3 (List.mem_of_getElem? (i := 69) (by decide +kernel)) rfl
theorem wd_3_70 : Cond.code ⟨"RosterRules$PatternParser", "parse", "(ILRosterRules$Positions;)V"⟩ prog_8_method_2_code 4 (none : Option FieldType) ∈ xTbl := xIn_3 (List.mem_of_getElem? (i := 70) rfl) rfl
theorem gv_LawReader_112 : GoodIn xTbl (wsV "RosterRules$LawReader" 112 "RosterRules$PatternParser" y_PatternParser_parse ws_PatternParser_parse) := xGV wd_3_67 wd_3_68 wd_3_69 wd_1_10 wd_3_70
theorem hd_PatternParser_parse : y_PatternParser_parse.cls = "RosterRules$PatternParser" ∧ y_PatternParser_parse.cls ≠ "java/lang/invoke/MethodHandle" ∧ y_PatternParser_parse.cls ≠ "java/lang/invoke/VarHandle" ∧ (parseMethodDescriptor y_PatternParser_parse.desc).map (fun d => d.parameters.length) = some 2 := by decide +kernel
theorem wn_1_232 : Cond.fieldLinkNest "RosterRules$LawReader" 116 "RosterRules$PatternParser" "fault" "I" "RosterRules" ∈ xNs := xNs_1 (List.mem_of_getElem? (i := 232) (by decide +kernel)) rfl
theorem lk_LawReader_116 : xLk "RosterRules$LawReader" 116 6 10 := ⟨RC_6, TC_6, 12, rfl, by decide, iC_6, Or.inr ⟨"RosterRules", wn_1_232⟩⟩
theorem wn_1_234 : Cond.fieldLinkNest "RosterRules$LawReader" 117 "RosterRules$PatternParser" "faultPlace" "I" "RosterRules" ∈ xNs := xNs_1 (List.mem_of_getElem? (i := 234) (by decide +kernel)) rfl
theorem lk_LawReader_117 : xLk "RosterRules$LawReader" 117 6 11 := ⟨RC_6, TC_6, 12, rfl, by decide, iC_6, Or.inr ⟨"RosterRules", wn_1_234⟩⟩
def y_LawReader_pattern : MethodName := ⟨"RosterRules$LawReader", "pattern", "(LRosterRules$Positions;)V"⟩
abbrev b_LawReader_pattern : ByteArray := prog_7_method_9_code
def ws_LawReader_pattern : List Cond := Cond.code y_LawReader_pattern b_LawReader_pattern 2 none :: xTbl
def y_Tokens_namedLetter : MethodName := ⟨"RosterRules$Tokens", "namedLetter", "()I"⟩
abbrev b_Tokens_namedLetter : ByteArray := prog_12_method_9_code
def ws_Tokens_namedLetter : List Cond := Cond.code y_Tokens_namedLetter b_Tokens_namedLetter 2 (some .int) :: xTbl
theorem wd_3_145 : Cond.methodLink "RosterRules$LawReader" 109 ⟨"RosterRules$Tokens", "namedLetter", "()I"⟩ ∈ xTbl := xIn_3 (List.mem_of_getElem? (i := 145) (by decide +kernel)) rfl
theorem wd_3_146 : Cond.instanceMethod ⟨"RosterRules$Tokens", "namedLetter", "()I"⟩ ∈ xTbl := xIn_3 (List.mem_of_getElem? (i := 146) (by decide +kernel)) rfl
theorem wd_3_147 : Cond.selects "RosterRules$Tokens" ⟨"RosterRules$Tokens", "namedLetter", "()I"⟩ ⟨"RosterRules$Tokens", "namedLetter", "()I"⟩ ∈ xTbl := xIn_3 (List.mem_of_getElem? (i := 147) (by decide +kernel)) rfl
theorem wd_3_148 : Cond.code ⟨"RosterRules$Tokens", "namedLetter", "()I"⟩ prog_12_method_9_code 2 (some FieldType.int) ∈ xTbl := xIn_3 (List.mem_of_getElem? (i := 148) rfl) rfl
theorem gv_LawReader_109 : GoodIn xTbl (wsV "RosterRules$LawReader" 109 "RosterRules$Tokens" y_Tokens_namedLetter ws_Tokens_namedLetter) := xGV wd_3_145 wd_3_146 wd_3_147 wd_1_9 wd_3_148
theorem hd_Tokens_namedLetter : y_Tokens_namedLetter.cls = "RosterRules$Tokens" ∧ y_Tokens_namedLetter.cls ≠ "java/lang/invoke/MethodHandle" ∧ y_Tokens_namedLetter.cls ≠ "java/lang/invoke/VarHandle" ∧ (parseMethodDescriptor y_Tokens_namedLetter.desc).map (fun d => d.parameters.length) = some 0 := by decide +kernel
def y_LawReader_shiftLetter : MethodName := ⟨"RosterRules$LawReader", "shiftLetter", "()I"⟩
abbrev b_LawReader_shiftLetter : ByteArray := prog_7_method_8_code
def ws_LawReader_shiftLetter : List Cond := Cond.code y_LawReader_shiftLetter b_LawReader_shiftLetter 2 (some .int) :: xTbl
theorem wd_1_119 : Cond.methodLink "RosterRules$Roster" 3 ⟨"java/lang/Object", "<init>", "()V"⟩ ∈ xTbl := xIn_1 (List.mem_of_getElem? (i := 119) (by decide +kernel)) rfl
theorem ob_Roster_3 : xOb "RosterRules$Roster" 3 := ⟨wd_1_119, wd_1_25, wd_1_26⟩
theorem lf_Roster_9 : xLf "RosterRules$Roster" 9 8 2 (.array .int) := ⟨RC_8, TC_8, 13, yC_8, rfl, by decide, iC_8, wd_1_128, pC_8, nC_8, rfl, rfl, by decide +kernel⟩
theorem lf_Roster_15 : xLf "RosterRules$Roster" 15 8 3 (.array .int) := ⟨RC_8, TC_8, 13, yC_8, rfl, by decide, iC_8, wd_1_130, pC_8, nC_8, rfl, rfl, by decide +kernel⟩
theorem wd_1_133 : Cond.fieldLink "RosterRules$Roster" 18 "RosterRules$Roster" "needs" "[I" ∈ xTbl := xIn_1 (List.mem_of_getElem? (i := 133) (by decide +kernel)) rfl
theorem lf_Roster_18 : xLf "RosterRules$Roster" 18 8 4 (.array .int) := ⟨RC_8, TC_8, 13, yC_8, rfl, by decide, iC_8, wd_1_133, pC_8, nC_8, rfl, rfl, by decide +kernel⟩
theorem wd_1_122 : Cond.fieldLink "RosterRules$Roster" 21 "RosterRules$Roster" "people" "I" ∈ xTbl := xIn_1 (List.mem_of_getElem? (i := 122) (by decide +kernel)) rfl
theorem lf_Roster_21 : xLf "RosterRules$Roster" 21 8 0 .int := ⟨RC_8, TC_8, 13, yC_8, rfl, by decide, iC_8, wd_1_122, pC_8, nC_8, rfl, rfl, by decide +kernel⟩
theorem wd_1_125 : Cond.fieldLink "RosterRules$Roster" 25 "RosterRules$Roster" "days" "I" ∈ xTbl := xIn_1 (List.mem_of_getElem? (i := 125) (by decide +kernel)) rfl
theorem lf_Roster_25 : xLf "RosterRules$Roster" 25 8 1 .int := ⟨RC_8, TC_8, 13, yC_8, rfl, by decide, iC_8, wd_1_125, pC_8, nC_8, rfl, rfl, by decide +kernel⟩
theorem wd_1_136 : Cond.fieldLink "RosterRules$Roster" 28 "RosterRules$Roster" "skills" "[I" ∈ xTbl := xIn_1 (List.mem_of_getElem? (i := 136) (by decide +kernel)) rfl
theorem lf_Roster_28 : xLf "RosterRules$Roster" 28 8 5 (.array .int) := ⟨RC_8, TC_8, 13, yC_8, rfl, by decide, iC_8, wd_1_136, pC_8, nC_8, rfl, rfl, by decide +kernel⟩
theorem wd_1_120 : Cond.classLink "RosterRules$Roster" 31 "[[I" ∈ xTbl := xIn_1 (List.mem_of_getElem? (i := 120) (by decide +kernel)) rfl
theorem lf_Roster_33 : xLf "RosterRules$Roster" 33 8 6 (.array (.array .int)) := ⟨RC_8, TC_8, 13, yC_8, rfl, by decide, iC_8, wd_1_139, pC_8, nC_8, rfl, rfl, by decide +kernel⟩
theorem wd_1_142 : Cond.fieldLink "RosterRules$Roster" 36 "RosterRules$Roster" "wished" "[[I" ∈ xTbl := xIn_1 (List.mem_of_getElem? (i := 142) (by decide +kernel)) rfl
theorem lf_Roster_36 : xLf "RosterRules$Roster" 36 8 7 (.array (.array .int)) := ⟨RC_8, TC_8, 13, yC_8, rfl, by decide, iC_8, wd_1_142, pC_8, nC_8, rfl, rfl, by decide +kernel⟩
theorem wd_1_143 : Cond.fieldLink "RosterRules$Roster" 39 "RosterRules$Roster" "weights" "[[I" ∈ xTbl := xIn_1 (List.mem_of_getElem? (i := 143) (by decide +kernel)) rfl
theorem lf_Roster_39 : xLf "RosterRules$Roster" 39 8 8 (.array (.array .int)) := ⟨RC_8, TC_8, 13, yC_8, rfl, by decide, iC_8, wd_1_143, pC_8, nC_8, rfl, rfl, by decide +kernel⟩
theorem wd_1_144 : Cond.fieldLink "RosterRules$Roster" 42 "RosterRules$Roster" "timesOf" "[[I" ∈ xTbl := xIn_1 (List.mem_of_getElem? (i := 144) (by decide +kernel)) rfl
theorem lf_Roster_42 : xLf "RosterRules$Roster" 42 8 9 (.array (.array .int)) := ⟨RC_8, TC_8, 13, yC_8, rfl, by decide, iC_8, wd_1_144, pC_8, nC_8, rfl, rfl, by decide +kernel⟩
theorem wd_1_146 : Cond.fieldLink "RosterRules$Roster" 45 "RosterRules$Roster" "timesOn" "[[I" ∈ xTbl := xIn_1 (List.mem_of_getElem? (i := 146) (by decide +kernel)) rfl
theorem lf_Roster_45 : xLf "RosterRules$Roster" 45 8 10 (.array (.array .int)) := ⟨RC_8, TC_8, 13, yC_8, rfl, by decide, iC_8, wd_1_146, pC_8, nC_8, rfl, rfl, by decide +kernel⟩
theorem lk_Roster_28 : xLk "RosterRules$Roster" 28 8 5 := ⟨RC_8, TC_8, 13, rfl, by decide, iC_8, Or.inl wd_1_136⟩
theorem lk_Roster_42 : xLk "RosterRules$Roster" 42 8 9 := ⟨RC_8, TC_8, 13, rfl, by decide, iC_8, Or.inl wd_1_144⟩
theorem lk_Roster_45 : xLk "RosterRules$Roster" 45 8 10 := ⟨RC_8, TC_8, 13, rfl, by decide, iC_8, Or.inl wd_1_146⟩
def y_Roster_init : MethodName := ⟨"RosterRules$Roster", "<init>", "(II)V"⟩
abbrev b_Roster_init : ByteArray := prog_10_method_1_code
def ws_Roster_init : List Cond := Cond.code y_Roster_init b_Roster_init 4 none :: xTbl
theorem wd_1_148 : Cond.fieldLink "RosterRules$Roster" 52 "RosterRules$Roster" "filled" "I" ∈ xTbl := xIn_1 (List.mem_of_getElem? (i := 148) (by decide +kernel)) rfl
theorem lk_Roster_52 : xLk "RosterRules$Roster" 52 8 11 := ⟨RC_8, TC_8, 13, rfl, by decide, iC_8, Or.inl wd_1_148⟩
theorem lp_Roster_52 : xLp "RosterRules$Roster" 52 8 11 .int := ⟨RC_8, TC_8, 13, yC_8, rfl, by decide, iC_8, Or.inl wd_1_148, pC_8, nC_8, rfl, by decide +kernel⟩
def y_Roster_setCell : MethodName := ⟨"RosterRules$Roster", "setCell", "(III)V"⟩
abbrev b_Roster_setCell : ByteArray := prog_10_method_3_code
def ws_Roster_setCell : List Cond := Cond.code y_Roster_setCell b_Roster_setCell 5 none :: xTbl
theorem wd_1_150 : Cond.fieldLink "RosterRules$Roster" 55 "RosterRules$Roster" "wishes" "I" ∈ xTbl := xIn_1 (List.mem_of_getElem? (i := 150) (by decide +kernel)) rfl
theorem lk_Roster_55 : xLk "RosterRules$Roster" 55 8 12 := ⟨RC_8, TC_8, 13, rfl, by decide, iC_8, Or.inl wd_1_150⟩
theorem lk_Roster_39 : xLk "RosterRules$Roster" 39 8 8 := ⟨RC_8, TC_8, 13, rfl, by decide, iC_8, Or.inl wd_1_143⟩
theorem lp_Roster_55 : xLp "RosterRules$Roster" 55 8 12 .int := ⟨RC_8, TC_8, 13, yC_8, rfl, by decide, iC_8, Or.inl wd_1_150, pC_8, nC_8, rfl, by decide +kernel⟩
theorem lk_Roster_36 : xLk "RosterRules$Roster" 36 8 7 := ⟨RC_8, TC_8, 13, rfl, by decide, iC_8, Or.inl wd_1_142⟩
def y_Roster_setWish : MethodName := ⟨"RosterRules$Roster", "setWish", "(IIII)V"⟩
abbrev b_Roster_setWish : ByteArray := prog_10_method_4_code
def ws_Roster_setWish : List Cond := Cond.code y_Roster_setWish b_Roster_setWish 5 none :: xTbl
def y_Roster_wishCost : MethodName := ⟨"RosterRules$Roster", "wishCost", "(II)J"⟩
abbrev b_Roster_wishCost : ByteArray := prog_10_method_5_code
def ws_Roster_wishCost : List Cond := Cond.code y_Roster_wishCost b_Roster_wishCost 3 (some .long) :: xTbl
theorem lk_Roster_21 : xLk "RosterRules$Roster" 21 8 0 := ⟨RC_8, TC_8, 13, rfl, by decide, iC_8, Or.inl wd_1_122⟩
theorem lk_Roster_25 : xLk "RosterRules$Roster" 25 8 1 := ⟨RC_8, TC_8, 13, rfl, by decide, iC_8, Or.inl wd_1_125⟩
theorem wd_4_102 : Cond.methodLink "RosterRules$Roster" 58 ⟨"RosterRules$Roster", "wishCost", "(II)J"⟩ ∈ xTbl := xIn_4 (List.mem_of_getElem? (i := 102) (by decide +kernel)) rfl
theorem wd_3_216 : Cond.instanceMethod ⟨"RosterRules$Roster", "wishCost", "(II)J"⟩ ∈ xTbl := xIn_3 (List.mem_of_getElem? (i := 216) (by decide +kernel)) rfl
theorem wd_3_217 : Cond.selects "RosterRules$Roster" ⟨"RosterRules$Roster", "wishCost", "(II)J"⟩ ⟨"RosterRules$Roster", "wishCost", "(II)J"⟩ ∈ xTbl := xIn_3 (List.mem_of_getElem? (i := 217) (by decide +kernel)) rfl
theorem wd_3_218 : Cond.code ⟨"RosterRules$Roster", "wishCost", "(II)J"⟩ prog_10_method_5_code 3 (some FieldType.long) ∈ xTbl := xIn_3 (List.mem_of_getElem? (i := 218) rfl) rfl
theorem gv_Roster_58 : GoodIn xTbl (wsV "RosterRules$Roster" 58 "RosterRules$Roster" y_Roster_wishCost ws_Roster_wishCost) := xGV wd_4_102 wd_3_216 wd_3_217 wd_1_5 wd_3_218
theorem hd_Roster_wishCost : y_Roster_wishCost.cls = "RosterRules$Roster" ∧ y_Roster_wishCost.cls ≠ "java/lang/invoke/MethodHandle" ∧ y_Roster_wishCost.cls ≠ "java/lang/invoke/VarHandle" ∧ (parseMethodDescriptor y_Roster_wishCost.desc).map (fun d => d.parameters.length) = some 2 := by decide +kernel
def y_Roster_allWishesCost : MethodName := ⟨"RosterRules$Roster", "allWishesCost", "()J"⟩
abbrev b_Roster_allWishesCost : ByteArray := prog_10_method_6_code
def ws_Roster_allWishesCost : List Cond := Cond.code y_Roster_allWishesCost b_Roster_allWishesCost 5 (some .long) :: xTbl
theorem wd_1_32 : Cond.methodLink "RosterRules$Tape" 3 ⟨"java/lang/Object", "<init>", "()V"⟩ ∈ xTbl := xIn_1 (List.mem_of_getElem? (i := 32) (by decide +kernel)) rfl
theorem ob_Tape_3 : xOb "RosterRules$Tape" 3 := ⟨wd_1_32, wd_1_25, wd_1_26⟩
theorem lf_Tape_9 : xLf "RosterRules$Tape" 9 9 0 (.array .int) := ⟨RC_9, TC_9, 2, yC_9, rfl, by decide, iC_9, wd_1_33, pC_9, nC_9, rfl, rfl, by decide +kernel⟩
def y_Tape_init : MethodName := ⟨"RosterRules$Tape", "<init>", "()V"⟩
abbrev b_Tape_init : ByteArray := prog_11_method_1_code
def ws_Tape_init : List Cond := Cond.code y_Tape_init b_Tape_init 1 none :: xTbl
theorem lp_Tape_15 : xLp "RosterRules$Tape" 15 9 1 .int := ⟨RC_9, TC_9, 2, yC_9, rfl, by decide, iC_9, Or.inl wd_1_35, pC_9, nC_9, rfl, by decide +kernel⟩
def y_Tape_append : MethodName := ⟨"RosterRules$Tape", "append", "(IJ)V"⟩
abbrev b_Tape_append : ByteArray := prog_11_method_2_code
def ws_Tape_append : List Cond := Cond.code y_Tape_append b_Tape_append 5 none :: xTbl
theorem wd_2_144 : Cond.fieldLink "RosterRules" 10 "RosterRules" "tape" "LRosterRules$Tape;" ∈ xTbl := xIn_2 (List.mem_of_getElem? (i := 144) (by decide +kernel)) rfl
theorem lk_RR_10 : xLk "RosterRules" 10 11 0 := ⟨RC_11, TC_11, 9, rfl, by decide, iC_11, Or.inl wd_2_144⟩
theorem wn_1_36 : Cond.fieldLinkNest "RosterRules" 80 "RosterRules$Tape" "length" "I" "RosterRules" ∈ xNs := xNs_1 (List.mem_of_getElem? (i := 36) (by decide +kernel)) rfl
theorem lk_RR_80 : xLk "RosterRules" 80 9 1 := ⟨RC_9, TC_9, 2, rfl, by decide, iC_9, Or.inr ⟨"RosterRules", wn_1_36⟩⟩
theorem wd_2_176 : Cond.methodLink "RosterRules" 83 ⟨"RosterRules$Tape", "append", "(IJ)V"⟩ ∈ xTbl := xIn_2 (List.mem_of_getElem? (i := 176) (by decide +kernel)) rfl
theorem wd_2_177 : Cond.instanceMethod ⟨"RosterRules$Tape", "append", "(IJ)V"⟩ ∈ xTbl := xIn_2 (List.mem_of_getElem? (i := 177) (by decide +kernel)) rfl
theorem wd_2_178 : Cond.selects "RosterRules$Tape" ⟨"RosterRules$Tape", "append", "(IJ)V"⟩ ⟨"RosterRules$Tape", "append", "(IJ)V"⟩ ∈ xTbl := xIn_2 (List.mem_of_getElem? (i := 178) (by decide +kernel)) rfl
theorem wd_2_179 : Cond.code ⟨"RosterRules$Tape", "append", "(IJ)V"⟩ prog_11_method_2_code 5 (none : Option FieldType) ∈ xTbl := xIn_2 (List.mem_of_getElem? (i := 179) rfl) rfl
theorem gv_RR_83 : GoodIn xTbl (wsV "RosterRules" 83 "RosterRules$Tape" y_Tape_append ws_Tape_append) := xGV wd_2_176 wd_2_177 wd_2_178 wd_1_2 wd_2_179
theorem hd_Tape_append : y_Tape_append.cls = "RosterRules$Tape" ∧ y_Tape_append.cls ≠ "java/lang/invoke/MethodHandle" ∧ y_Tape_append.cls ≠ "java/lang/invoke/VarHandle" ∧ (parseMethodDescriptor y_Tape_append.desc).map (fun d => d.parameters.length) = some 2 := by decide +kernel
def y_RR_feed : MethodName := ⟨"RosterRules", "feed", "(IJ)I"⟩
abbrev b_RR_feed : ByteArray := prog_1_method_2_code
def ws_RR_feed : List Cond := Cond.code y_RR_feed b_RR_feed 4 (some .int) :: xTbl
theorem wd_2_148 : Cond.fieldLink "RosterRules" 75 "RosterRules" "reader" "LRosterRules$LawReader;" ∈ xTbl := xIn_2 (List.mem_of_getElem? (i := 148) (by decide +kernel)) rfl
theorem lk_RR_75 : xLk "RosterRules" 75 11 4 := ⟨RC_11, TC_11, 9, rfl, by decide, iC_11, Or.inl wd_2_148⟩
theorem wn_2_26 : Cond.fieldLinkNest "RosterRules" 97 "RosterRules$LawReader" "faultPlace" "I" "RosterRules" ∈ xNs := xNs_2 (List.mem_of_getElem? (i := 26) (by decide +kernel)) rfl
theorem lk_RR_97 : xLk "RosterRules" 97 5 4 := ⟨RC_5, TC_5, 5, rfl, by decide, iC_5, Or.inr ⟨"RosterRules", wn_2_26⟩⟩
def y_RR_place : MethodName := ⟨"RosterRules", "place", "()I"⟩
abbrev b_RR_place : ByteArray := prog_1_method_4_code
def ws_RR_place : List Cond := Cond.code y_RR_place b_RR_place 1 (some .int) :: xTbl
def y_RR_isShift : MethodName := ⟨"RosterRules", "isShift", "(I)Z"⟩
abbrev b_RR_isShift : ByteArray := prog_1_method_27_code
def ws_RR_isShift : List Cond := Cond.code y_RR_isShift b_RR_isShift 2 (some .boolean) :: xTbl
theorem wd_3_158 : Cond.methodLink "RosterRules" 100 ⟨"RosterRules", "isShift", "(I)Z"⟩ ∈ xTbl := xIn_3 (List.mem_of_getElem? (i := 158) (by decide +kernel)) rfl
theorem wd_3_160 : Cond.instanceMethod ⟨"RosterRules", "isShift", "(I)Z"⟩ ∈ xTbl := xIn_3 (List.mem_of_getElem? (i := 160) (by decide +kernel)) rfl
theorem wz_21 : Cond.selects "RosterRules" ⟨"RosterRules", "isShift", "(I)Z"⟩ ⟨"RosterRules", "isShift", "(I)Z"⟩ ∈ xTbl := List.mem_filter.mpr ⟨List.mem_append_left _ (List.mem_of_getElem? (i := 21) (by decide +kernel)), rfl⟩
theorem wd_1_1 : Cond.initialized "RosterRules" ∈ xTbl := xIn_1 (List.mem_of_getElem? (i := 1) (by decide +kernel)) rfl
theorem wd_3_161 : Cond.code ⟨"RosterRules", "isShift", "(I)Z"⟩ prog_1_method_27_code 2 (some FieldType.boolean) ∈ xTbl := xIn_3 (List.mem_of_getElem? (i := 161) rfl) rfl
theorem gv_RR_100 : GoodIn xTbl (wsV "RosterRules" 100 "RosterRules" y_RR_isShift ws_RR_isShift) := xGV wd_3_158 wd_3_160 wz_21 wd_1_1 wd_3_161
theorem hd_RR_isShift : y_RR_isShift.cls = "RosterRules" ∧ y_RR_isShift.cls ≠ "java/lang/invoke/MethodHandle" ∧ y_RR_isShift.cls ≠ "java/lang/invoke/VarHandle" ∧ (parseMethodDescriptor y_RR_isShift.desc).map (fun d => d.parameters.length) = some 1 := by decide +kernel
theorem wd_2_145 : Cond.fieldLink "RosterRules" 53 "RosterRules" "roster" "LRosterRules$Roster;" ∈ xTbl := xIn_2 (List.mem_of_getElem? (i := 145) (by decide +kernel)) rfl
theorem lk_RR_53 : xLk "RosterRules" 53 11 1 := ⟨RC_11, TC_11, 9, rfl, by decide, iC_11, Or.inl wd_2_145⟩
theorem wn_1_129 : Cond.fieldLinkNest "RosterRules" 104 "RosterRules$Roster" "begins" "[I" "RosterRules" ∈ xNs := xNs_1 (List.mem_of_getElem? (i := 129) (by decide +kernel)) rfl
theorem lk_RR_104 : xLk "RosterRules" 104 8 2 := ⟨RC_8, TC_8, 13, rfl, by decide, iC_8, Or.inr ⟨"RosterRules", wn_1_129⟩⟩
theorem wn_1_131 : Cond.fieldLinkNest "RosterRules" 108 "RosterRules$Roster" "lengths" "[I" "RosterRules" ∈ xNs := xNs_1 (List.mem_of_getElem? (i := 131) (by decide +kernel)) rfl
theorem lk_RR_108 : xLk "RosterRules" 108 8 3 := ⟨RC_8, TC_8, 13, rfl, by decide, iC_8, Or.inr ⟨"RosterRules", wn_1_131⟩⟩
theorem wn_1_134 : Cond.fieldLinkNest "RosterRules" 111 "RosterRules$Roster" "needs" "[I" "RosterRules" ∈ xNs := xNs_1 (List.mem_of_getElem? (i := 134) (by decide +kernel)) rfl
theorem lk_RR_111 : xLk "RosterRules" 111 8 4 := ⟨RC_8, TC_8, 13, rfl, by decide, iC_8, Or.inr ⟨"RosterRules", wn_1_134⟩⟩
def y_RR_shift : MethodName := ⟨"RosterRules", "shift", "(IIII)I"⟩
abbrev b_RR_shift : ByteArray := prog_1_method_5_code
def ws_RR_shift : List Cond := Cond.code y_RR_shift b_RR_shift 5 (some .int) :: xTbl
theorem wn_1_124 : Cond.fieldLinkNest "RosterRules" 252 "RosterRules$Roster" "people" "I" "RosterRules" ∈ xNs := xNs_1 (List.mem_of_getElem? (i := 124) (by decide +kernel)) rfl
theorem lk_RR_252 : xLk "RosterRules" 252 8 0 := ⟨RC_8, TC_8, 13, rfl, by decide, iC_8, Or.inr ⟨"RosterRules", wn_1_124⟩⟩
def y_RR_isPerson : MethodName := ⟨"RosterRules", "isPerson", "(I)Z"⟩
abbrev b_RR_isPerson : ByteArray := prog_1_method_24_code
def ws_RR_isPerson : List Cond := Cond.code y_RR_isPerson b_RR_isPerson 2 (some .boolean) :: xTbl
theorem wd_3_166 : Cond.methodLink "RosterRules" 114 ⟨"RosterRules", "isPerson", "(I)Z"⟩ ∈ xTbl := xIn_3 (List.mem_of_getElem? (i := 166) (by decide +kernel)) rfl
theorem wd_3_168 : Cond.instanceMethod ⟨"RosterRules", "isPerson", "(I)Z"⟩ ∈ xTbl := xIn_3 (List.mem_of_getElem? (i := 168) (by decide +kernel)) rfl
theorem wz_22 : Cond.selects "RosterRules" ⟨"RosterRules", "isPerson", "(I)Z"⟩ ⟨"RosterRules", "isPerson", "(I)Z"⟩ ∈ xTbl := List.mem_filter.mpr ⟨List.mem_append_left _ (List.mem_of_getElem? (i := 22) (by decide +kernel)), rfl⟩
theorem wd_3_169 : Cond.code ⟨"RosterRules", "isPerson", "(I)Z"⟩ prog_1_method_24_code 2 (some FieldType.boolean) ∈ xTbl := xIn_3 (List.mem_of_getElem? (i := 169) rfl) rfl
theorem gv_RR_114 : GoodIn xTbl (wsV "RosterRules" 114 "RosterRules" y_RR_isPerson ws_RR_isPerson) := xGV wd_3_166 wd_3_168 wz_22 wd_1_1 wd_3_169
theorem hd_RR_isPerson : y_RR_isPerson.cls = "RosterRules" ∧ y_RR_isPerson.cls ≠ "java/lang/invoke/MethodHandle" ∧ y_RR_isPerson.cls ≠ "java/lang/invoke/VarHandle" ∧ (parseMethodDescriptor y_RR_isPerson.desc).map (fun d => d.parameters.length) = some 1 := by decide +kernel
theorem wn_1_137 : Cond.fieldLinkNest "RosterRules" 117 "RosterRules$Roster" "skills" "[I" "RosterRules" ∈ xNs := xNs_1 (List.mem_of_getElem? (i := 137) (by decide +kernel)) rfl
theorem lk_RR_117 : xLk "RosterRules" 117 8 5 := ⟨RC_8, TC_8, 13, rfl, by decide, iC_8, Or.inr ⟨"RosterRules", wn_1_137⟩⟩
def y_RR_person : MethodName := ⟨"RosterRules", "person", "(II)I"⟩
abbrev b_RR_person : ByteArray := prog_1_method_6_code
def ws_RR_person : List Cond := Cond.code y_RR_person b_RR_person 3 (some .int) :: xTbl
def y_RR_isShiftOrOff : MethodName := ⟨"RosterRules", "isShiftOrOff", "(I)Z"⟩
abbrev b_RR_isShiftOrOff : ByteArray := prog_1_method_28_code
def ws_RR_isShiftOrOff : List Cond := Cond.code y_RR_isShiftOrOff b_RR_isShiftOrOff 2 (some .boolean) :: xTbl
theorem wd_3_174 : Cond.methodLink "RosterRules" 120 ⟨"RosterRules", "isShiftOrOff", "(I)Z"⟩ ∈ xTbl := xIn_3 (List.mem_of_getElem? (i := 174) (by decide +kernel)) rfl
theorem wd_3_176 : Cond.instanceMethod ⟨"RosterRules", "isShiftOrOff", "(I)Z"⟩ ∈ xTbl := xIn_3 (List.mem_of_getElem? (i := 176) (by decide +kernel)) rfl
theorem wz_23 : Cond.selects "RosterRules" ⟨"RosterRules", "isShiftOrOff", "(I)Z"⟩ ⟨"RosterRules", "isShiftOrOff", "(I)Z"⟩ ∈ xTbl := List.mem_filter.mpr ⟨List.mem_append_left _ (List.mem_of_getElem? (i := 23) (by decide +kernel)), rfl⟩
theorem wd_3_177 : Cond.code ⟨"RosterRules", "isShiftOrOff", "(I)Z"⟩ prog_1_method_28_code 2 (some FieldType.boolean) ∈ xTbl := xIn_3 (List.mem_of_getElem? (i := 177) rfl) rfl
theorem gv_RR_120 : GoodIn xTbl (wsV "RosterRules" 120 "RosterRules" y_RR_isShiftOrOff ws_RR_isShiftOrOff) := xGV wd_3_174 wd_3_176 wz_23 wd_1_1 wd_3_177
theorem hd_RR_isShiftOrOff : y_RR_isShiftOrOff.cls = "RosterRules" ∧ y_RR_isShiftOrOff.cls ≠ "java/lang/invoke/MethodHandle" ∧ y_RR_isShiftOrOff.cls ≠ "java/lang/invoke/VarHandle" ∧ (parseMethodDescriptor y_RR_isShiftOrOff.desc).map (fun d => d.parameters.length) = some 1 := by decide +kernel
theorem wn_1_140 : Cond.fieldLinkNest "RosterRules" 123 "RosterRules$Roster" "rows" "[[I" "RosterRules" ∈ xNs := xNs_1 (List.mem_of_getElem? (i := 140) (by decide +kernel)) rfl
theorem lk_RR_123 : xLk "RosterRules" 123 8 6 := ⟨RC_8, TC_8, 13, rfl, by decide, iC_8, Or.inr ⟨"RosterRules", wn_1_140⟩⟩
def y_RR_past : MethodName := ⟨"RosterRules", "past", "(III)I"⟩
abbrev b_RR_past : ByteArray := prog_1_method_7_code
def ws_RR_past : List Cond := Cond.code y_RR_past b_RR_past 5 (some .int) :: xTbl
theorem wn_1_126 : Cond.fieldLinkNest "RosterRules" 68 "RosterRules$Roster" "days" "I" "RosterRules" ∈ xNs := xNs_1 (List.mem_of_getElem? (i := 126) (by decide +kernel)) rfl
theorem lk_RR_68 : xLk "RosterRules" 68 8 1 := ⟨RC_8, TC_8, 13, rfl, by decide, iC_8, Or.inr ⟨"RosterRules", wn_1_126⟩⟩
def y_RR_isDay : MethodName := ⟨"RosterRules", "isDay", "(I)Z"⟩
abbrev b_RR_isDay : ByteArray := prog_1_method_25_code
def ws_RR_isDay : List Cond := Cond.code y_RR_isDay b_RR_isDay 2 (some .boolean) :: xTbl
theorem wd_3_186 : Cond.methodLink "RosterRules" 187 ⟨"RosterRules", "isDay", "(I)Z"⟩ ∈ xTbl := xIn_3 (List.mem_of_getElem? (i := 186) (by decide +kernel)) rfl
theorem wd_3_188 : Cond.instanceMethod ⟨"RosterRules", "isDay", "(I)Z"⟩ ∈ xTbl := xIn_3 (List.mem_of_getElem? (i := 188) (by decide +kernel)) rfl
theorem wz_25 : Cond.selects "RosterRules" ⟨"RosterRules", "isDay", "(I)Z"⟩ ⟨"RosterRules", "isDay", "(I)Z"⟩ ∈ xTbl := List.mem_filter.mpr ⟨List.mem_append_left _ (List.mem_of_getElem? (i := 25) (by decide +kernel)), rfl⟩
theorem wd_3_189 : Cond.code ⟨"RosterRules", "isDay", "(I)Z"⟩ prog_1_method_25_code 2 (some FieldType.boolean) ∈ xTbl := xIn_3 (List.mem_of_getElem? (i := 189) rfl) rfl
theorem gv_RR_187 : GoodIn xTbl (wsV "RosterRules" 187 "RosterRules" y_RR_isDay ws_RR_isDay) := xGV wd_3_186 wd_3_188 wz_25 wd_1_1 wd_3_189
theorem hd_RR_isDay : y_RR_isDay.cls = "RosterRules" ∧ y_RR_isDay.cls ≠ "java/lang/invoke/MethodHandle" ∧ y_RR_isDay.cls ≠ "java/lang/invoke/VarHandle" ∧ (parseMethodDescriptor y_RR_isDay.desc).map (fun d => d.parameters.length) = some 1 := by decide +kernel
def y_RR_isCell : MethodName := ⟨"RosterRules", "isCell", "(II)Z"⟩
abbrev b_RR_isCell : ByteArray := prog_1_method_26_code
def ws_RR_isCell : List Cond := Cond.code y_RR_isCell b_RR_isCell 3 (some .boolean) :: xTbl
theorem wd_3_182 : Cond.methodLink "RosterRules" 127 ⟨"RosterRules", "isCell", "(II)Z"⟩ ∈ xTbl := xIn_3 (List.mem_of_getElem? (i := 182) (by decide +kernel)) rfl
theorem wd_3_184 : Cond.instanceMethod ⟨"RosterRules", "isCell", "(II)Z"⟩ ∈ xTbl := xIn_3 (List.mem_of_getElem? (i := 184) (by decide +kernel)) rfl
theorem wz_24 : Cond.selects "RosterRules" ⟨"RosterRules", "isCell", "(II)Z"⟩ ⟨"RosterRules", "isCell", "(II)Z"⟩ ∈ xTbl := List.mem_filter.mpr ⟨List.mem_append_left _ (List.mem_of_getElem? (i := 24) (by decide +kernel)), rfl⟩
theorem wd_3_185 : Cond.code ⟨"RosterRules", "isCell", "(II)Z"⟩ prog_1_method_26_code 3 (some FieldType.boolean) ∈ xTbl := xIn_3 (List.mem_of_getElem? (i := 185) rfl) rfl
theorem gv_RR_127 : GoodIn xTbl (wsV "RosterRules" 127 "RosterRules" y_RR_isCell ws_RR_isCell) := xGV wd_3_182 wd_3_184 wz_24 wd_1_1 wd_3_185
theorem hd_RR_isCell : y_RR_isCell.cls = "RosterRules" ∧ y_RR_isCell.cls ≠ "java/lang/invoke/MethodHandle" ∧ y_RR_isCell.cls ≠ "java/lang/invoke/VarHandle" ∧ (parseMethodDescriptor y_RR_isCell.desc).map (fun d => d.parameters.length) = some 2 := by decide +kernel
theorem wd_3_190 : Cond.methodLink "RosterRules" 131 ⟨"RosterRules$Roster", "setWish", "(IIII)V"⟩ ∈ xTbl := xIn_3 (List.mem_of_getElem? (i := 190) (by decide +kernel)) rfl
theorem wd_3_191 : Cond.instanceMethod ⟨"RosterRules$Roster", "setWish", "(IIII)V"⟩ ∈ xTbl := xIn_3 (List.mem_of_getElem? (i := 191) (by decide +kernel)) rfl
theorem wd_3_192 : Cond.selects "RosterRules$Roster" ⟨"RosterRules$Roster", "setWish", "(IIII)V"⟩ ⟨"RosterRules$Roster", "setWish", "(IIII)V"⟩ ∈ xTbl := xIn_3 (List.mem_of_getElem? (i := 192) (by decide +kernel)) rfl
theorem wd_3_193 : Cond.code ⟨"RosterRules$Roster", "setWish", "(IIII)V"⟩ prog_10_method_4_code 5 (none : Option FieldType) ∈ xTbl := xIn_3 (List.mem_of_getElem? (i := 193) rfl) rfl
theorem gv_RR_131 : GoodIn xTbl (wsV "RosterRules" 131 "RosterRules$Roster" y_Roster_setWish ws_Roster_setWish) := xGV wd_3_190 wd_3_191 wd_3_192 wd_1_5 wd_3_193
theorem hd_Roster_setWish : y_Roster_setWish.cls = "RosterRules$Roster" ∧ y_Roster_setWish.cls ≠ "java/lang/invoke/MethodHandle" ∧ y_Roster_setWish.cls ≠ "java/lang/invoke/VarHandle" ∧ (parseMethodDescriptor y_Roster_setWish.desc).map (fun d => d.parameters.length) = some 4 := by decide +kernel
def y_RR_wish : MethodName := ⟨"RosterRules", "wish", "(IIII)I"⟩
abbrev b_RR_wish : ByteArray := prog_1_method_8_code
def ws_RR_wish : List Cond := Cond.code y_RR_wish b_RR_wish 5 (some .int) :: xTbl
theorem wd_3_198 : Cond.methodLink "RosterRules" 135 ⟨"RosterRules$Roster", "letterOf", "(II)I"⟩ ∈ xTbl := xIn_3 (List.mem_of_getElem? (i := 198) (by decide +kernel)) rfl
theorem gv_RR_135 : GoodIn xTbl (wsV "RosterRules" 135 "RosterRules$Roster" y_Roster_letterOf ws_Roster_letterOf) := xGV wd_3_198 wd_3_199 wd_3_200 wd_1_5 wd_3_201
def y_RR_at : MethodName := ⟨"RosterRules", "at", "(II)I"⟩
abbrev b_RR_at : ByteArray := prog_1_method_9_code
def ws_RR_at : List Cond := Cond.code y_RR_at b_RR_at 3 (some .int) :: xTbl
theorem wd_3_215 : Cond.methodLink "RosterRules" 262 ⟨"RosterRules$Roster", "wishCost", "(II)J"⟩ ∈ xTbl := xIn_3 (List.mem_of_getElem? (i := 215) (by decide +kernel)) rfl
theorem gv_RR_262 : GoodIn xTbl (wsV "RosterRules" 262 "RosterRules$Roster" y_Roster_wishCost ws_Roster_wishCost) := xGV wd_3_215 wd_3_216 wd_3_217 wd_1_5 wd_3_218
theorem wd_2_152 : Cond.fieldLink "RosterRules" 94 "RosterRules" "lawCount" "I" ∈ xTbl := xIn_2 (List.mem_of_getElem? (i := 152) (by decide +kernel)) rfl
theorem lk_RR_94 : xLk "RosterRules" 94 11 8 := ⟨RC_11, TC_11, 9, rfl, by decide, iC_11, Or.inl wd_2_152⟩
theorem wd_2_150 : Cond.fieldLink "RosterRules" 32 "RosterRules" "laws" "[LRosterRules$Law;" ∈ xTbl := xIn_2 (List.mem_of_getElem? (i := 150) (by decide +kernel)) rfl
theorem lk_RR_32 : xLk "RosterRules" 32 11 6 := ⟨RC_11, TC_11, 9, rfl, by decide, iC_11, Or.inl wd_2_150⟩
theorem wn_2_114 : Cond.fieldLinkNest "RosterRules" 201 "RosterRules$Law" "weight" "I" "RosterRules" ∈ xNs := xNs_2 (List.mem_of_getElem? (i := 114) (by decide +kernel)) rfl
theorem lk_RR_201 : xLk "RosterRules" 201 4 3 := ⟨RC_4, TC_4, 9, rfl, by decide, iC_4, Or.inr ⟨"RosterRules", wn_2_114⟩⟩
theorem wd_2_146 : Cond.fieldLink "RosterRules" 62 "RosterRules" "judge" "LRosterRules$Judge;" ∈ xTbl := xIn_2 (List.mem_of_getElem? (i := 146) (by decide +kernel)) rfl
theorem lk_RR_62 : xLk "RosterRules" 62 11 2 := ⟨RC_11, TC_11, 9, rfl, by decide, iC_11, Or.inl wd_2_146⟩
theorem wd_3_220 : Cond.methodLink "RosterRules" 266 ⟨"RosterRules$Judge", "aroundCell", "(LRosterRules$Law;II)J"⟩ ∈ xTbl := xIn_3 (List.mem_of_getElem? (i := 220) (by decide +kernel)) rfl
theorem wd_3_221 : Cond.instanceMethod ⟨"RosterRules$Judge", "aroundCell", "(LRosterRules$Law;II)J"⟩ ∈ xTbl := xIn_3 (List.mem_of_getElem? (i := 221) (by decide +kernel)) rfl
theorem wd_3_222 : Cond.selects "RosterRules$Judge" ⟨"RosterRules$Judge", "aroundCell", "(LRosterRules$Law;II)J"⟩ ⟨"RosterRules$Judge", "aroundCell", "(LRosterRules$Law;II)J"⟩ ∈ xTbl := xIn_3 (List.mem_of_getElem? (i := 222) (by decide +kernel)) rfl
theorem wd_3_223 : Cond.code ⟨"RosterRules$Judge", "aroundCell", "(LRosterRules$Law;II)J"⟩ prog_5_method_4_code 4 (some FieldType.long) ∈ xTbl := xIn_3 (List.mem_of_getElem? (i := 223) rfl) rfl
theorem gv_RR_266 : GoodIn xTbl (wsV "RosterRules" 266 "RosterRules$Judge" y_Judge_aroundCell ws_Judge_aroundCell) := xGV wd_3_220 wd_3_221 wd_3_222 wd_1_7 wd_3_223
theorem hd_Judge_aroundCell : y_Judge_aroundCell.cls = "RosterRules$Judge" ∧ y_Judge_aroundCell.cls ≠ "java/lang/invoke/MethodHandle" ∧ y_Judge_aroundCell.cls ≠ "java/lang/invoke/VarHandle" ∧ (parseMethodDescriptor y_Judge_aroundCell.desc).map (fun d => d.parameters.length) = some 3 := by decide +kernel
def y_RR_costAround : MethodName := ⟨"RosterRules", "costAround", "(II)J"⟩
abbrev b_RR_costAround : ByteArray := prog_1_method_31_code
def ws_RR_costAround : List Cond := Cond.code y_RR_costAround b_RR_costAround 6 (some .long) :: xTbl
theorem wd_3_211 : Cond.methodLink "RosterRules" 270 ⟨"RosterRules", "costAround", "(II)J"⟩ ∈ xTbl := xIn_3 (List.mem_of_getElem? (i := 211) (by decide +kernel)) rfl
theorem wd_3_213 : Cond.instanceMethod ⟨"RosterRules", "costAround", "(II)J"⟩ ∈ xTbl := xIn_3 (List.mem_of_getElem? (i := 213) (by decide +kernel)) rfl
theorem wz_27 : Cond.selects "RosterRules" ⟨"RosterRules", "costAround", "(II)J"⟩ ⟨"RosterRules", "costAround", "(II)J"⟩ ∈ xTbl := List.mem_filter.mpr ⟨List.mem_append_left _ (List.mem_of_getElem? (i := 27) (by decide +kernel)), rfl⟩
theorem wd_3_214 : Cond.code ⟨"RosterRules", "costAround", "(II)J"⟩ prog_1_method_31_code 6 (some FieldType.long) ∈ xTbl := xIn_3 (List.mem_of_getElem? (i := 214) rfl) rfl
theorem gv_RR_270 : GoodIn xTbl (wsV "RosterRules" 270 "RosterRules" y_RR_costAround ws_RR_costAround) := xGV wd_3_211 wd_3_213 wz_27 wd_1_1 wd_3_214
theorem hd_RR_costAround : y_RR_costAround.cls = "RosterRules" ∧ y_RR_costAround.cls ≠ "java/lang/invoke/MethodHandle" ∧ y_RR_costAround.cls ≠ "java/lang/invoke/VarHandle" ∧ (parseMethodDescriptor y_RR_costAround.desc).map (fun d => d.parameters.length) = some 2 := by decide +kernel
theorem wd_4_34 : Cond.methodLink "RosterRules" 162 ⟨"RosterRules$Roster", "setCell", "(III)V"⟩ ∈ xTbl := xIn_4 (List.mem_of_getElem? (i := 34) (by decide +kernel)) rfl
theorem wd_4_35 : Cond.instanceMethod ⟨"RosterRules$Roster", "setCell", "(III)V"⟩ ∈ xTbl := xIn_4 (List.mem_of_getElem? (i := 35) (by decide +kernel)) rfl
theorem wd_4_36 : Cond.selects "RosterRules$Roster" ⟨"RosterRules$Roster", "setCell", "(III)V"⟩ ⟨"RosterRules$Roster", "setCell", "(III)V"⟩ ∈ xTbl := xIn_4 (List.mem_of_getElem? (i := 36) (by decide +kernel)) rfl
theorem wd_4_37 : Cond.code ⟨"RosterRules$Roster", "setCell", "(III)V"⟩ prog_10_method_3_code 5 (none : Option FieldType) ∈ xTbl := xIn_4 (List.mem_of_getElem? (i := 37) rfl) rfl
theorem gv_RR_162 : GoodIn xTbl (wsV "RosterRules" 162 "RosterRules$Roster" y_Roster_setCell ws_Roster_setCell) := xGV wd_4_34 wd_4_35 wd_4_36 wd_1_5 wd_4_37
theorem hd_Roster_setCell : y_Roster_setCell.cls = "RosterRules$Roster" ∧ y_Roster_setCell.cls ≠ "java/lang/invoke/MethodHandle" ∧ y_Roster_setCell.cls ≠ "java/lang/invoke/VarHandle" ∧ (parseMethodDescriptor y_Roster_setCell.desc).map (fun d => d.parameters.length) = some 3 := by decide +kernel
def y_RR_differenceBy : MethodName := ⟨"RosterRules", "differenceBy", "(III)J"⟩
abbrev b_RR_differenceBy : ByteArray := prog_1_method_32_code
def ws_RR_differenceBy : List Cond := Cond.code y_RR_differenceBy b_RR_differenceBy 9 (some .long) :: xTbl
theorem wd_2_147 : Cond.fieldLink "RosterRules" 19 "RosterRules" "history" "LRosterRules$History;" ∈ xTbl := xIn_2 (List.mem_of_getElem? (i := 147) (by decide +kernel)) rfl
theorem lk_RR_19 : xLk "RosterRules" 19 11 3 := ⟨RC_11, TC_11, 9, rfl, by decide, iC_11, Or.inl wd_2_147⟩
theorem wd_4_42 : Cond.methodLink "RosterRules" 273 ⟨"RosterRules$History", "keep", "(III)V"⟩ ∈ xTbl := xIn_4 (List.mem_of_getElem? (i := 42) (by decide +kernel)) rfl
theorem wd_4_43 : Cond.instanceMethod ⟨"RosterRules$History", "keep", "(III)V"⟩ ∈ xTbl := xIn_4 (List.mem_of_getElem? (i := 43) (by decide +kernel)) rfl
theorem wd_4_44 : Cond.selects "RosterRules$History" ⟨"RosterRules$History", "keep", "(III)V"⟩ ⟨"RosterRules$History", "keep", "(III)V"⟩ ∈ xTbl := xIn_4 (List.mem_of_getElem? (i := 44) (by decide +kernel)) rfl
theorem wd_1_3 : Cond.initialized "RosterRules$History" ∈ xTbl := xIn_1 (List.mem_of_getElem? (i := 3) (by decide +kernel)) rfl
theorem wd_4_45 : Cond.code ⟨"RosterRules$History", "keep", "(III)V"⟩ prog_4_method_2_code 4 (none : Option FieldType) ∈ xTbl := xIn_4 (List.mem_of_getElem? (i := 45) rfl) rfl
theorem gv_RR_273 : GoodIn xTbl (wsV "RosterRules" 273 "RosterRules$History" y_History_keep ws_History_keep) := xGV wd_4_42 wd_4_43 wd_4_44 wd_1_3 wd_4_45
theorem hd_History_keep : y_History_keep.cls = "RosterRules$History" ∧ y_History_keep.cls ≠ "java/lang/invoke/MethodHandle" ∧ y_History_keep.cls ≠ "java/lang/invoke/VarHandle" ∧ (parseMethodDescriptor y_History_keep.desc).map (fun d => d.parameters.length) = some 3 := by decide +kernel
def y_RR_keepCell : MethodName := ⟨"RosterRules", "keepCell", "(III)V"⟩
abbrev b_RR_keepCell : ByteArray := prog_1_method_33_code
def ws_RR_keepCell : List Cond := Cond.code y_RR_keepCell b_RR_keepCell 4 none :: xTbl
theorem wd_3_206 : Cond.constantLong "RosterRules" 138 4611686018427387904 ∈ xTbl := xIn_3 (List.mem_of_getElem? (i := 206) (by decide +kernel)) rfl
theorem wd_3_207 : Cond.methodLink "RosterRules" 140 ⟨"RosterRules", "differenceBy", "(III)J"⟩ ∈ xTbl := xIn_3 (List.mem_of_getElem? (i := 207) (by decide +kernel)) rfl
theorem wd_3_209 : Cond.instanceMethod ⟨"RosterRules", "differenceBy", "(III)J"⟩ ∈ xTbl := xIn_3 (List.mem_of_getElem? (i := 209) (by decide +kernel)) rfl
theorem wz_26 : Cond.selects "RosterRules" ⟨"RosterRules", "differenceBy", "(III)J"⟩ ⟨"RosterRules", "differenceBy", "(III)J"⟩ ∈ xTbl := List.mem_filter.mpr ⟨List.mem_append_left _ (List.mem_of_getElem? (i := 26) (by decide +kernel)), rfl⟩
theorem wd_3_210 : Cond.code ⟨"RosterRules", "differenceBy", "(III)J"⟩ prog_1_method_32_code 9 (some FieldType.long) ∈ xTbl := xIn_3 (List.mem_of_getElem? (i := 210) rfl) rfl
theorem gv_RR_140 : GoodIn xTbl (wsV "RosterRules" 140 "RosterRules" y_RR_differenceBy ws_RR_differenceBy) := xGV wd_3_207 wd_3_209 wz_26 wd_1_1 wd_3_210
theorem hd_RR_differenceBy : y_RR_differenceBy.cls = "RosterRules" ∧ y_RR_differenceBy.cls ≠ "java/lang/invoke/MethodHandle" ∧ y_RR_differenceBy.cls ≠ "java/lang/invoke/VarHandle" ∧ (parseMethodDescriptor y_RR_differenceBy.desc).map (fun d => d.parameters.length) = some 3 := by decide +kernel
theorem wd_4_38 : Cond.methodLink "RosterRules" 144 ⟨"RosterRules", "keepCell", "(III)V"⟩ ∈ xTbl := xIn_4 (List.mem_of_getElem? (i := 38) (by decide +kernel)) rfl
theorem wd_4_40 : Cond.instanceMethod ⟨"RosterRules", "keepCell", "(III)V"⟩ ∈ xTbl := xIn_4 (List.mem_of_getElem? (i := 40) (by decide +kernel)) rfl
theorem wz_35 : Cond.selects "RosterRules" ⟨"RosterRules", "keepCell", "(III)V"⟩ ⟨"RosterRules", "keepCell", "(III)V"⟩ ∈ xTbl := List.mem_filter.mpr ⟨List.mem_append_left _ (List.mem_of_getElem? (i := 35) (by decide +kernel)), rfl⟩
theorem wd_4_41 : Cond.code ⟨"RosterRules", "keepCell", "(III)V"⟩ prog_1_method_33_code 4 (none : Option FieldType) ∈ xTbl := xIn_4 (List.mem_of_getElem? (i := 41) rfl) rfl
theorem gv_RR_144 : GoodIn xTbl (wsV "RosterRules" 144 "RosterRules" y_RR_keepCell ws_RR_keepCell) := xGV wd_4_38 wd_4_40 wz_35 wd_1_1 wd_4_41
theorem hd_RR_keepCell : y_RR_keepCell.cls = "RosterRules" ∧ y_RR_keepCell.cls ≠ "java/lang/invoke/MethodHandle" ∧ y_RR_keepCell.cls ≠ "java/lang/invoke/VarHandle" ∧ (parseMethodDescriptor y_RR_keepCell.desc).map (fun d => d.parameters.length) = some 3 := by decide +kernel
def y_RR_put : MethodName := ⟨"RosterRules", "put", "(III)J"⟩
abbrev b_RR_put : ByteArray := prog_1_method_10_code
def ws_RR_put : List Cond := Cond.code y_RR_put b_RR_put 6 (some .long) :: xTbl
def y_RR_change : MethodName := ⟨"RosterRules", "change", "(III)J"⟩
abbrev b_RR_change : ByteArray := prog_1_method_11_code
def ws_RR_change : List Cond := Cond.code y_RR_change b_RR_change 4 (some .long) :: xTbl
theorem wn_1_59 : Cond.fieldLinkNest "RosterRules" 148 "RosterRules$History" "kept" "I" "RosterRules" ∈ xNs := xNs_1 (List.mem_of_getElem? (i := 59) (by decide +kernel)) rfl
theorem lk_RR_148 : xLk "RosterRules" 148 2 4 := ⟨RC_2, TC_2, 5, rfl, by decide, iC_2, Or.inr ⟨"RosterRules", wn_1_59⟩⟩
theorem wn_1_57 : Cond.fieldLinkNest "RosterRules" 151 "RosterRules$History" "newest" "I" "RosterRules" ∈ xNs := xNs_1 (List.mem_of_getElem? (i := 57) (by decide +kernel)) rfl
theorem lk_RR_151 : xLk "RosterRules" 151 2 3 := ⟨RC_2, TC_2, 5, rfl, by decide, iC_2, Or.inr ⟨"RosterRules", wn_1_57⟩⟩
theorem wn_1_51 : Cond.fieldLinkNest "RosterRules" 154 "RosterRules$History" "people" "[I" "RosterRules" ∈ xNs := xNs_1 (List.mem_of_getElem? (i := 51) (by decide +kernel)) rfl
theorem lk_RR_154 : xLk "RosterRules" 154 2 0 := ⟨RC_2, TC_2, 5, rfl, by decide, iC_2, Or.inr ⟨"RosterRules", wn_1_51⟩⟩
theorem wn_1_53 : Cond.fieldLinkNest "RosterRules" 157 "RosterRules$History" "days" "[I" "RosterRules" ∈ xNs := xNs_1 (List.mem_of_getElem? (i := 53) (by decide +kernel)) rfl
theorem lk_RR_157 : xLk "RosterRules" 157 2 1 := ⟨RC_2, TC_2, 5, rfl, by decide, iC_2, Or.inr ⟨"RosterRules", wn_1_53⟩⟩
theorem wn_1_55 : Cond.fieldLinkNest "RosterRules" 159 "RosterRules$History" "letters" "[I" "RosterRules" ∈ xNs := xNs_1 (List.mem_of_getElem? (i := 55) (by decide +kernel)) rfl
theorem lk_RR_159 : xLk "RosterRules" 159 2 2 := ⟨RC_2, TC_2, 5, rfl, by decide, iC_2, Or.inr ⟨"RosterRules", wn_1_55⟩⟩
theorem wd_4_55 : Cond.methodLink "RosterRules" 165 ⟨"RosterRules$History", "dropNewest", "()V"⟩ ∈ xTbl := xIn_4 (List.mem_of_getElem? (i := 55) (by decide +kernel)) rfl
theorem wd_4_56 : Cond.instanceMethod ⟨"RosterRules$History", "dropNewest", "()V"⟩ ∈ xTbl := xIn_4 (List.mem_of_getElem? (i := 56) (by decide +kernel)) rfl
theorem wd_4_57 : Cond.selects "RosterRules$History" ⟨"RosterRules$History", "dropNewest", "()V"⟩ ⟨"RosterRules$History", "dropNewest", "()V"⟩ ∈ xTbl := xIn_4 (List.mem_of_getElem? (i := 57) (by decide +kernel)) rfl
theorem wd_4_58 : Cond.code ⟨"RosterRules$History", "dropNewest", "()V"⟩ prog_4_method_3_code 1 (none : Option FieldType) ∈ xTbl := xIn_4 (List.mem_of_getElem? (i := 58) rfl) rfl
theorem gv_RR_165 : GoodIn xTbl (wsV "RosterRules" 165 "RosterRules$History" y_History_dropNewest ws_History_dropNewest) := xGV wd_4_55 wd_4_56 wd_4_57 wd_1_3 wd_4_58
theorem hd_History_dropNewest : y_History_dropNewest.cls = "RosterRules$History" ∧ y_History_dropNewest.cls ≠ "java/lang/invoke/MethodHandle" ∧ y_History_dropNewest.cls ≠ "java/lang/invoke/VarHandle" ∧ (parseMethodDescriptor y_History_dropNewest.desc).map (fun d => d.parameters.length) = some 0 := by decide +kernel
def y_RR_undo : MethodName := ⟨"RosterRules", "undo", "()I"⟩
abbrev b_RR_undo : ByteArray := prog_1_method_12_code
def ws_RR_undo : List Cond := Cond.code y_RR_undo b_RR_undo 2 (some .int) :: xTbl
def y_RR_bestLetter : MethodName := ⟨"RosterRules", "bestLetter", "(II)I"⟩
abbrev b_RR_bestLetter : ByteArray := prog_1_method_34_code
def ws_RR_bestLetter : List Cond := Cond.code y_RR_bestLetter b_RR_bestLetter 10 (some .int) :: xTbl
theorem wd_4_63 : Cond.methodLink "RosterRules" 168 ⟨"RosterRules", "bestLetter", "(II)I"⟩ ∈ xTbl := xIn_4 (List.mem_of_getElem? (i := 63) (by decide +kernel)) rfl
theorem wd_4_65 : Cond.instanceMethod ⟨"RosterRules", "bestLetter", "(II)I"⟩ ∈ xTbl := xIn_4 (List.mem_of_getElem? (i := 65) (by decide +kernel)) rfl
theorem wz_36 : Cond.selects "RosterRules" ⟨"RosterRules", "bestLetter", "(II)I"⟩ ⟨"RosterRules", "bestLetter", "(II)I"⟩ ∈ xTbl := List.mem_filter.mpr ⟨List.mem_append_left _ (List.mem_of_getElem? (i := 36) (by decide +kernel)), rfl⟩
theorem wd_4_66 : Cond.code ⟨"RosterRules", "bestLetter", "(II)I"⟩ prog_1_method_34_code 10 (some FieldType.int) ∈ xTbl := xIn_4 (List.mem_of_getElem? (i := 66) rfl) rfl
theorem gv_RR_168 : GoodIn xTbl (wsV "RosterRules" 168 "RosterRules" y_RR_bestLetter ws_RR_bestLetter) := xGV wd_4_63 wd_4_65 wz_36 wd_1_1 wd_4_66
theorem hd_RR_bestLetter : y_RR_bestLetter.cls = "RosterRules" ∧ y_RR_bestLetter.cls ≠ "java/lang/invoke/MethodHandle" ∧ y_RR_bestLetter.cls ≠ "java/lang/invoke/VarHandle" ∧ (parseMethodDescriptor y_RR_bestLetter.desc).map (fun d => d.parameters.length) = some 2 := by decide +kernel
def y_RR_best : MethodName := ⟨"RosterRules", "best", "(II)I"⟩
abbrev b_RR_best : ByteArray := prog_1_method_13_code
def ws_RR_best : List Cond := Cond.code y_RR_best b_RR_best 3 (some .int) :: xTbl
def y_RR_stepDown : MethodName := ⟨"RosterRules", "stepDown", "()Z"⟩
abbrev b_RR_stepDown : ByteArray := prog_1_method_35_code
def ws_RR_stepDown : List Cond := Cond.code y_RR_stepDown b_RR_stepDown 11 (some .boolean) :: xTbl
theorem wd_4_71 : Cond.methodLink "RosterRules" 171 ⟨"RosterRules", "stepDown", "()Z"⟩ ∈ xTbl := xIn_4 (List.mem_of_getElem? (i := 71) (by decide +kernel)) rfl
theorem wd_4_73 : Cond.instanceMethod ⟨"RosterRules", "stepDown", "()Z"⟩ ∈ xTbl := xIn_4 (List.mem_of_getElem? (i := 73) (by decide +kernel)) rfl
theorem wz_37 : Cond.selects "RosterRules" ⟨"RosterRules", "stepDown", "()Z"⟩ ⟨"RosterRules", "stepDown", "()Z"⟩ ∈ xTbl := List.mem_filter.mpr ⟨List.mem_append_left _ (List.mem_of_getElem? (i := 37) (by decide +kernel)), rfl⟩
theorem wd_4_74 : Cond.code ⟨"RosterRules", "stepDown", "()Z"⟩ prog_1_method_35_code 11 (some FieldType.boolean) ∈ xTbl := xIn_4 (List.mem_of_getElem? (i := 74) rfl) rfl
theorem gv_RR_171 : GoodIn xTbl (wsV "RosterRules" 171 "RosterRules" y_RR_stepDown ws_RR_stepDown) := xGV wd_4_71 wd_4_73 wz_37 wd_1_1 wd_4_74
theorem hd_RR_stepDown : y_RR_stepDown.cls = "RosterRules" ∧ y_RR_stepDown.cls ≠ "java/lang/invoke/MethodHandle" ∧ y_RR_stepDown.cls ≠ "java/lang/invoke/VarHandle" ∧ (parseMethodDescriptor y_RR_stepDown.desc).map (fun d => d.parameters.length) = some 0 := by decide +kernel
def y_RR_descend : MethodName := ⟨"RosterRules", "descend", "(I)I"⟩
abbrev b_RR_descend : ByteArray := prog_1_method_14_code
def ws_RR_descend : List Cond := Cond.code y_RR_descend b_RR_descend 3 (some .int) :: xTbl
def y_RR_isLaw : MethodName := ⟨"RosterRules", "isLaw", "(I)Z"⟩
abbrev b_RR_isLaw : ByteArray := prog_1_method_29_code
def ws_RR_isLaw : List Cond := Cond.code y_RR_isLaw b_RR_isLaw 2 (some .boolean) :: xTbl
theorem wd_4_79 : Cond.methodLink "RosterRules" 175 ⟨"RosterRules", "isLaw", "(I)Z"⟩ ∈ xTbl := xIn_4 (List.mem_of_getElem? (i := 79) (by decide +kernel)) rfl
theorem wd_4_81 : Cond.instanceMethod ⟨"RosterRules", "isLaw", "(I)Z"⟩ ∈ xTbl := xIn_4 (List.mem_of_getElem? (i := 81) (by decide +kernel)) rfl
theorem wz_38 : Cond.selects "RosterRules" ⟨"RosterRules", "isLaw", "(I)Z"⟩ ⟨"RosterRules", "isLaw", "(I)Z"⟩ ∈ xTbl := List.mem_filter.mpr ⟨List.mem_append_left _ (List.mem_of_getElem? (i := 38) (by decide +kernel)), rfl⟩
theorem wd_4_82 : Cond.code ⟨"RosterRules", "isLaw", "(I)Z"⟩ prog_1_method_29_code 2 (some FieldType.boolean) ∈ xTbl := xIn_4 (List.mem_of_getElem? (i := 82) rfl) rfl
theorem gv_RR_175 : GoodIn xTbl (wsV "RosterRules" 175 "RosterRules" y_RR_isLaw ws_RR_isLaw) := xGV wd_4_79 wd_4_81 wz_38 wd_1_1 wd_4_82
theorem hd_RR_isLaw : y_RR_isLaw.cls = "RosterRules" ∧ y_RR_isLaw.cls ≠ "java/lang/invoke/MethodHandle" ∧ y_RR_isLaw.cls ≠ "java/lang/invoke/VarHandle" ∧ (parseMethodDescriptor y_RR_isLaw.desc).map (fun d => d.parameters.length) = some 1 := by decide +kernel
theorem wd_4_83 : Cond.constantLong "RosterRules" 178 (-1) ∈ xTbl := xIn_4 (List.mem_of_getElem? (i := 83) (by decide +kernel)) rfl
theorem wd_4_84 : Cond.methodLink "RosterRules" 180 ⟨"RosterRules$Judge", "everywhere", "(LRosterRules$Law;)J"⟩ ∈ xTbl := xIn_4 (List.mem_of_getElem? (i := 84) (by decide +kernel)) rfl
theorem wd_4_85 : Cond.instanceMethod ⟨"RosterRules$Judge", "everywhere", "(LRosterRules$Law;)J"⟩ ∈ xTbl := xIn_4 (List.mem_of_getElem? (i := 85) (by decide +kernel)) rfl
theorem wd_4_86 : Cond.selects "RosterRules$Judge" ⟨"RosterRules$Judge", "everywhere", "(LRosterRules$Law;)J"⟩ ⟨"RosterRules$Judge", "everywhere", "(LRosterRules$Law;)J"⟩ ∈ xTbl := xIn_4 (List.mem_of_getElem? (i := 86) (by decide +kernel)) rfl
theorem wd_4_87 : Cond.code ⟨"RosterRules$Judge", "everywhere", "(LRosterRules$Law;)J"⟩ prog_5_method_2_code 5 (some FieldType.long) ∈ xTbl := xIn_4 (List.mem_of_getElem? (i := 87) rfl) rfl
theorem gv_RR_180 : GoodIn xTbl (wsV "RosterRules" 180 "RosterRules$Judge" y_Judge_everywhere ws_Judge_everywhere) := xGV wd_4_84 wd_4_85 wd_4_86 wd_1_7 wd_4_87
theorem hd_Judge_everywhere : y_Judge_everywhere.cls = "RosterRules$Judge" ∧ y_Judge_everywhere.cls ≠ "java/lang/invoke/MethodHandle" ∧ y_Judge_everywhere.cls ≠ "java/lang/invoke/VarHandle" ∧ (parseMethodDescriptor y_Judge_everywhere.desc).map (fun d => d.parameters.length) = some 1 := by decide +kernel
theorem wn_2_112 : Cond.fieldLinkNest "RosterRules" 184 "RosterRules$Law" "sort" "I" "RosterRules" ∈ xNs := xNs_2 (List.mem_of_getElem? (i := 112) (by decide +kernel)) rfl
theorem lk_RR_184 : xLk "RosterRules" 184 4 2 := ⟨RC_4, TC_4, 9, rfl, by decide, iC_4, Or.inr ⟨"RosterRules", wn_2_112⟩⟩
theorem wd_4_92 : Cond.methodLink "RosterRules" 190 ⟨"RosterRules$Judge", "coverAmiss", "(LRosterRules$Law;I)J"⟩ ∈ xTbl := xIn_4 (List.mem_of_getElem? (i := 92) (by decide +kernel)) rfl
theorem gv_RR_190 : GoodIn xTbl (wsV "RosterRules" 190 "RosterRules$Judge" y_Judge_coverAmiss ws_Judge_coverAmiss) := xGV wd_4_92 wd_4_31 wd_4_32 wd_1_7 wd_4_33
theorem wd_4_93 : Cond.methodLink "RosterRules" 194 ⟨"RosterRules$Judge", "ofPerson", "(LRosterRules$Law;I)J"⟩ ∈ xTbl := xIn_4 (List.mem_of_getElem? (i := 93) (by decide +kernel)) rfl
theorem gv_RR_194 : GoodIn xTbl (wsV "RosterRules" 194 "RosterRules$Judge" y_Judge_ofPerson ws_Judge_ofPerson) := xGV wd_4_93 wd_4_89 wd_4_90 wd_1_7 wd_4_91
def y_RR_broken : MethodName := ⟨"RosterRules", "broken", "(II)J"⟩
abbrev b_RR_broken : ByteArray := prog_1_method_15_code
def ws_RR_broken : List Cond := Cond.code y_RR_broken b_RR_broken 4 (some .long) :: xTbl
theorem wd_4_98 : Cond.methodLink "RosterRules" 197 ⟨"RosterRules$Roster", "allWishesCost", "()J"⟩ ∈ xTbl := xIn_4 (List.mem_of_getElem? (i := 98) (by decide +kernel)) rfl
theorem wd_4_99 : Cond.instanceMethod ⟨"RosterRules$Roster", "allWishesCost", "()J"⟩ ∈ xTbl := xIn_4 (List.mem_of_getElem? (i := 99) (by decide +kernel)) rfl
theorem wd_4_100 : Cond.selects "RosterRules$Roster" ⟨"RosterRules$Roster", "allWishesCost", "()J"⟩ ⟨"RosterRules$Roster", "allWishesCost", "()J"⟩ ∈ xTbl := xIn_4 (List.mem_of_getElem? (i := 100) (by decide +kernel)) rfl
theorem wd_4_101 : Cond.code ⟨"RosterRules$Roster", "allWishesCost", "()J"⟩ prog_10_method_6_code 5 (some FieldType.long) ∈ xTbl := xIn_4 (List.mem_of_getElem? (i := 101) rfl) rfl
theorem gv_RR_197 : GoodIn xTbl (wsV "RosterRules" 197 "RosterRules$Roster" y_Roster_allWishesCost ws_Roster_allWishesCost) := xGV wd_4_98 wd_4_99 wd_4_100 wd_1_5 wd_4_101
theorem hd_Roster_allWishesCost : y_Roster_allWishesCost.cls = "RosterRules$Roster" ∧ y_Roster_allWishesCost.cls ≠ "java/lang/invoke/MethodHandle" ∧ y_Roster_allWishesCost.cls ≠ "java/lang/invoke/VarHandle" ∧ (parseMethodDescriptor y_Roster_allWishesCost.desc).map (fun d => d.parameters.length) = some 0 := by decide +kernel
def y_RR_score : MethodName := ⟨"RosterRules", "score", "()J"⟩
abbrev b_RR_score : ByteArray := prog_1_method_16_code
def ws_RR_score : List Cond := Cond.code y_RR_score b_RR_score 4 (some .long) :: xTbl
theorem wd_4_107 : Cond.methodLink "RosterRules" 204 ⟨"RosterRules$Roster", "minutesBetween", "(III)J"⟩ ∈ xTbl := xIn_4 (List.mem_of_getElem? (i := 107) (by decide +kernel)) rfl
theorem gv_RR_204 : GoodIn xTbl (wsV "RosterRules" 204 "RosterRules$Roster" y_Roster_minutesBetween ws_Roster_minutesBetween) := xGV wd_4_107 wd_4_4 wd_4_5 wd_1_5 wd_4_6
def y_RR_minutes : MethodName := ⟨"RosterRules", "minutes", "(III)J"⟩
abbrev b_RR_minutes : ByteArray := prog_1_method_17_code
def ws_RR_minutes : List Cond := Cond.code y_RR_minutes b_RR_minutes 4 (some .long) :: xTbl
theorem wn_2_109 : Cond.fieldLinkNest "RosterRules" 254 "RosterRules$Law" "automaton" "LRosterRules$Automaton;" "RosterRules" ∈ xNs := xNs_2 (List.mem_of_getElem? (i := 109) (by decide +kernel)) rfl
theorem lk_RR_254 : xLk "RosterRules" 254 4 1 := ⟨RC_4, TC_4, 9, rfl, by decide, iC_4, Or.inr ⟨"RosterRules", wn_2_109⟩⟩
theorem wn_2_98 : Cond.fieldLinkNest "RosterRules" 217 "RosterRules$Automaton" "states" "I" "RosterRules" ∈ xNs := xNs_2 (List.mem_of_getElem? (i := 98) (by decide +kernel)) rfl
theorem lk_RR_217 : xLk "RosterRules" 217 0 1 := ⟨RC_0, TC_0, 2, rfl, by decide, iC_0, Or.inr ⟨"RosterRules", wn_2_98⟩⟩
theorem wd_2_149 : Cond.fieldLink "RosterRules" 26 "RosterRules" "maker" "LRosterRules$AutomatonMaker;" ∈ xTbl := xIn_2 (List.mem_of_getElem? (i := 149) (by decide +kernel)) rfl
theorem lk_RR_26 : xLk "RosterRules" 26 11 5 := ⟨RC_11, TC_11, 9, rfl, by decide, iC_11, Or.inl wd_2_149⟩
theorem wn_2_107 : Cond.fieldLinkNest "RosterRules" 222 "RosterRules$Law" "positions" "LRosterRules$Positions;" "RosterRules" ∈ xNs := xNs_2 (List.mem_of_getElem? (i := 107) (by decide +kernel)) rfl
theorem lk_RR_222 : xLk "RosterRules" 222 4 0 := ⟨RC_4, TC_4, 9, rfl, by decide, iC_4, Or.inr ⟨"RosterRules", wn_2_107⟩⟩
theorem wd_4_120 : Cond.methodLink "RosterRules" 258 ⟨"RosterRules$AutomatonMaker", "make", "(LRosterRules$Positions;LRosterRules$Automaton;)V"⟩ ∈ xTbl := xIn_4 (List.mem_of_getElem? (i := 120) (by decide +kernel)) rfl
theorem wd_4_121 : Cond.instanceMethod ⟨"RosterRules$AutomatonMaker", "make", "(LRosterRules$Positions;LRosterRules$Automaton;)V"⟩ ∈ xTbl := xIn_4 (List.mem_of_getElem? (i := 121) (by decide +kernel)) rfl
theorem wd_4_122 : Cond.selects "RosterRules$AutomatonMaker" ⟨"RosterRules$AutomatonMaker", "make", "(LRosterRules$Positions;LRosterRules$Automaton;)V"⟩ ⟨"RosterRules$AutomatonMaker", "make", "(LRosterRules$Positions;LRosterRules$Automaton;)V"⟩ ∈ xTbl := xIn_4 (List.mem_of_getElem? (i := 122) (by decide +kernel)) rfl
theorem wd_4_123 : Cond.code ⟨"RosterRules$AutomatonMaker", "make", "(LRosterRules$Positions;LRosterRules$Automaton;)V"⟩ prog_3_method_2_code 6 (none : Option FieldType) ∈ xTbl := xIn_4 (List.mem_of_getElem? (i := 123) rfl) rfl
theorem gv_RR_258 : GoodIn xTbl (wsV "RosterRules" 258 "RosterRules$AutomatonMaker" y_AutomatonMaker_make ws_AutomatonMaker_make) := xGV wd_4_120 wd_4_121 wd_4_122 wd_1_4 wd_4_123
theorem hd_AutomatonMaker_make : y_AutomatonMaker_make.cls = "RosterRules$AutomatonMaker" ∧ y_AutomatonMaker_make.cls ≠ "java/lang/invoke/MethodHandle" ∧ y_AutomatonMaker_make.cls ≠ "java/lang/invoke/VarHandle" ∧ (parseMethodDescriptor y_AutomatonMaker_make.desc).map (fun d => d.parameters.length) = some 2 := by decide +kernel
def y_RR_automatonOf : MethodName := ⟨"RosterRules", "automatonOf", "(LRosterRules$Law;)LRosterRules$Automaton;"⟩
abbrev b_RR_automatonOf : ByteArray := prog_1_method_30_code
def ws_RR_automatonOf : List Cond := Cond.code y_RR_automatonOf b_RR_automatonOf 2 (some (.object "RosterRules$Automaton")) :: xTbl
theorem wd_4_112 : Cond.methodLink "RosterRules" 210 ⟨"RosterRules$Law", "hasPattern", "()Z"⟩ ∈ xTbl := xIn_4 (List.mem_of_getElem? (i := 112) (by decide +kernel)) rfl
theorem wd_4_113 : Cond.instanceMethod ⟨"RosterRules$Law", "hasPattern", "()Z"⟩ ∈ xTbl := xIn_4 (List.mem_of_getElem? (i := 113) (by decide +kernel)) rfl
theorem wd_4_114 : Cond.selects "RosterRules$Law" ⟨"RosterRules$Law", "hasPattern", "()Z"⟩ ⟨"RosterRules$Law", "hasPattern", "()Z"⟩ ∈ xTbl := xIn_4 (List.mem_of_getElem? (i := 114) (by decide +kernel)) rfl
theorem wd_1_11 : Cond.initialized "RosterRules$Law" ∈ xTbl := xIn_1 (List.mem_of_getElem? (i := 11) (by decide +kernel)) rfl
theorem wd_4_115 : Cond.code ⟨"RosterRules$Law", "hasPattern", "()Z"⟩ prog_6_method_4_code 1 (some FieldType.boolean) ∈ xTbl := xIn_4 (List.mem_of_getElem? (i := 115) rfl) rfl
theorem gv_RR_210 : GoodIn xTbl (wsV "RosterRules" 210 "RosterRules$Law" y_Law_hasPattern ws_Law_hasPattern) := xGV wd_4_112 wd_4_113 wd_4_114 wd_1_11 wd_4_115
theorem hd_Law_hasPattern : y_Law_hasPattern.cls = "RosterRules$Law" ∧ y_Law_hasPattern.cls ≠ "java/lang/invoke/MethodHandle" ∧ y_Law_hasPattern.cls ≠ "java/lang/invoke/VarHandle" ∧ (parseMethodDescriptor y_Law_hasPattern.desc).map (fun d => d.parameters.length) = some 0 := by decide +kernel
theorem wn_2_57 : Cond.fieldLinkNest "RosterRules" 226 "RosterRules$Positions" "size" "I" "RosterRules" ∈ xNs := xNs_2 (List.mem_of_getElem? (i := 57) (by decide +kernel)) rfl
theorem lk_RR_226 : xLk "RosterRules" 226 7 4 := ⟨RC_7, TC_7, 9, rfl, by decide, iC_7, Or.inr ⟨"RosterRules", wn_2_57⟩⟩
theorem wd_4_116 : Cond.methodLink "RosterRules" 213 ⟨"RosterRules", "automatonOf", "(LRosterRules$Law;)LRosterRules$Automaton;"⟩ ∈ xTbl := xIn_4 (List.mem_of_getElem? (i := 116) (by decide +kernel)) rfl
theorem wd_4_118 : Cond.instanceMethod ⟨"RosterRules", "automatonOf", "(LRosterRules$Law;)LRosterRules$Automaton;"⟩ ∈ xTbl := xIn_4 (List.mem_of_getElem? (i := 118) (by decide +kernel)) rfl
theorem wz_39 : Cond.selects "RosterRules" ⟨"RosterRules", "automatonOf", "(LRosterRules$Law;)LRosterRules$Automaton;"⟩ ⟨"RosterRules", "automatonOf", "(LRosterRules$Law;)LRosterRules$Automaton;"⟩ ∈ xTbl := List.mem_filter.mpr ⟨List.mem_append_left _ (List.mem_of_getElem? (i := 39) (by decide +kernel)), rfl⟩
theorem wd_4_119 : Cond.code ⟨"RosterRules", "automatonOf", "(LRosterRules$Law;)LRosterRules$Automaton;"⟩ prog_1_method_30_code 2 (some (FieldType.object "RosterRules$Automaton")) ∈ xTbl := xIn_4 (List.mem_of_getElem? (i := 119) rfl) rfl
theorem gv_RR_213 : GoodIn xTbl (wsV "RosterRules" 213 "RosterRules" y_RR_automatonOf ws_RR_automatonOf) := xGV wd_4_116 wd_4_118 wz_39 wd_1_1 wd_4_119
theorem hd_RR_automatonOf : y_RR_automatonOf.cls = "RosterRules" ∧ y_RR_automatonOf.cls ≠ "java/lang/invoke/MethodHandle" ∧ y_RR_automatonOf.cls ≠ "java/lang/invoke/VarHandle" ∧ (parseMethodDescriptor y_RR_automatonOf.desc).map (fun d => d.parameters.length) = some 1 := by decide +kernel
theorem wn_2_116 : Cond.fieldLinkNest "RosterRules" 207 "RosterRules$Law" "begin" "I" "RosterRules" ∈ xNs := xNs_2 (List.mem_of_getElem? (i := 116) (by decide +kernel)) rfl
theorem lk_RR_207 : xLk "RosterRules" 207 4 4 := ⟨RC_4, TC_4, 9, rfl, by decide, iC_4, Or.inr ⟨"RosterRules", wn_2_116⟩⟩
def y_RR_law : MethodName := ⟨"RosterRules", "law", "(II)I"⟩
abbrev b_RR_law : ByteArray := prog_1_method_18_code
def ws_RR_law : List Cond := Cond.code y_RR_law b_RR_law 4 (some .int) :: xTbl
theorem wd_4_168 : Cond.methodLink "RosterRules" 231 ⟨"RosterRules$Automaton", "entry", "(II)I"⟩ ∈ xTbl := xIn_4 (List.mem_of_getElem? (i := 168) (by decide +kernel)) rfl
theorem gv_RR_231 : GoodIn xTbl (wsV "RosterRules" 231 "RosterRules$Automaton" y_Automaton_entry ws_Automaton_entry) := xGV wd_4_168 wd_4_169 wd_4_170 wd_1_13 wd_4_171
def y_RR_state : MethodName := ⟨"RosterRules", "state", "(III)I"⟩
abbrev b_RR_state : ByteArray := prog_1_method_19_code
def ws_RR_state : List Cond := Cond.code y_RR_state b_RR_state 5 (some .int) :: xTbl
theorem wd_4_176 : Cond.methodLink "RosterRules" 234 ⟨"RosterRules$Automaton", "equalTo", "(LRosterRules$Automaton;)Z"⟩ ∈ xTbl := xIn_4 (List.mem_of_getElem? (i := 176) (by decide +kernel)) rfl
theorem wd_4_177 : Cond.instanceMethod ⟨"RosterRules$Automaton", "equalTo", "(LRosterRules$Automaton;)Z"⟩ ∈ xTbl := xIn_4 (List.mem_of_getElem? (i := 177) (by decide +kernel)) rfl
theorem wd_4_178 : Cond.selects "RosterRules$Automaton" ⟨"RosterRules$Automaton", "equalTo", "(LRosterRules$Automaton;)Z"⟩ ⟨"RosterRules$Automaton", "equalTo", "(LRosterRules$Automaton;)Z"⟩ ∈ xTbl := xIn_4 (List.mem_of_getElem? (i := 178) (by decide +kernel)) rfl
theorem wd_4_179 : Cond.code ⟨"RosterRules$Automaton", "equalTo", "(LRosterRules$Automaton;)Z"⟩ prog_2_method_4_code 3 (some FieldType.boolean) ∈ xTbl := xIn_4 (List.mem_of_getElem? (i := 179) rfl) rfl
theorem gv_RR_234 : GoodIn xTbl (wsV "RosterRules" 234 "RosterRules$Automaton" y_Automaton_equalTo ws_Automaton_equalTo) := xGV wd_4_176 wd_4_177 wd_4_178 wd_1_13 wd_4_179
theorem hd_Automaton_equalTo : y_Automaton_equalTo.cls = "RosterRules$Automaton" ∧ y_Automaton_equalTo.cls ≠ "java/lang/invoke/MethodHandle" ∧ y_Automaton_equalTo.cls ≠ "java/lang/invoke/VarHandle" ∧ (parseMethodDescriptor y_Automaton_equalTo.desc).map (fun d => d.parameters.length) = some 1 := by decide +kernel
def y_RR_alike : MethodName := ⟨"RosterRules", "alike", "(II)I"⟩
abbrev b_RR_alike : ByteArray := prog_1_method_20_code
def ws_RR_alike : List Cond := Cond.code y_RR_alike b_RR_alike 3 (some .int) :: xTbl
theorem wd_4_184 : Cond.methodLink "RosterRules" 238 ⟨"RosterRules$AutomatonMaker", "wordsOf", "(LRosterRules$Automaton;I)J"⟩ ∈ xTbl := xIn_4 (List.mem_of_getElem? (i := 184) (by decide +kernel)) rfl
theorem wd_4_185 : Cond.instanceMethod ⟨"RosterRules$AutomatonMaker", "wordsOf", "(LRosterRules$Automaton;I)J"⟩ ∈ xTbl := xIn_4 (List.mem_of_getElem? (i := 185) (by decide +kernel)) rfl
theorem wd_4_186 : Cond.selects "RosterRules$AutomatonMaker" ⟨"RosterRules$AutomatonMaker", "wordsOf", "(LRosterRules$Automaton;I)J"⟩ ⟨"RosterRules$AutomatonMaker", "wordsOf", "(LRosterRules$Automaton;I)J"⟩ ∈ xTbl := xIn_4 (List.mem_of_getElem? (i := 186) (by decide +kernel)) rfl
theorem wd_4_187 : Cond.code ⟨"RosterRules$AutomatonMaker", "wordsOf", "(LRosterRules$Automaton;I)J"⟩ prog_3_method_11_code 9 (some FieldType.long) ∈ xTbl := xIn_4 (List.mem_of_getElem? (i := 187) rfl) rfl
theorem gv_RR_238 : GoodIn xTbl (wsV "RosterRules" 238 "RosterRules$AutomatonMaker" y_AutomatonMaker_wordsOf ws_AutomatonMaker_wordsOf) := xGV wd_4_184 wd_4_185 wd_4_186 wd_1_4 wd_4_187
theorem hd_AutomatonMaker_wordsOf : y_AutomatonMaker_wordsOf.cls = "RosterRules$AutomatonMaker" ∧ y_AutomatonMaker_wordsOf.cls ≠ "java/lang/invoke/MethodHandle" ∧ y_AutomatonMaker_wordsOf.cls ≠ "java/lang/invoke/VarHandle" ∧ (parseMethodDescriptor y_AutomatonMaker_wordsOf.desc).map (fun d => d.parameters.length) = some 2 := by decide +kernel
def y_RR_words : MethodName := ⟨"RosterRules", "words", "(II)J"⟩
abbrev b_RR_words : ByteArray := prog_1_method_21_code
def ws_RR_words : List Cond := Cond.code y_RR_words b_RR_words 3 (some .long) :: xTbl
theorem wd_4_194 : Cond.methodLink "RosterRules" 242 ⟨"RosterRules$Automaton", "letterOfShortest", "(I)I"⟩ ∈ xTbl := xIn_4 (List.mem_of_getElem? (i := 194) (by decide +kernel)) rfl
theorem wd_4_195 : Cond.instanceMethod ⟨"RosterRules$Automaton", "letterOfShortest", "(I)I"⟩ ∈ xTbl := xIn_4 (List.mem_of_getElem? (i := 195) (by decide +kernel)) rfl
theorem wd_4_196 : Cond.selects "RosterRules$Automaton" ⟨"RosterRules$Automaton", "letterOfShortest", "(I)I"⟩ ⟨"RosterRules$Automaton", "letterOfShortest", "(I)I"⟩ ∈ xTbl := xIn_4 (List.mem_of_getElem? (i := 196) (by decide +kernel)) rfl
theorem wd_4_197 : Cond.code ⟨"RosterRules$Automaton", "letterOfShortest", "(I)I"⟩ prog_2_method_5_code 6 (some FieldType.int) ∈ xTbl := xIn_4 (List.mem_of_getElem? (i := 197) rfl) rfl
theorem gv_RR_242 : GoodIn xTbl (wsV "RosterRules" 242 "RosterRules$Automaton" y_Automaton_letterOfShortest ws_Automaton_letterOfShortest) := xGV wd_4_194 wd_4_195 wd_4_196 wd_1_13 wd_4_197
theorem hd_Automaton_letterOfShortest : y_Automaton_letterOfShortest.cls = "RosterRules$Automaton" ∧ y_Automaton_letterOfShortest.cls ≠ "java/lang/invoke/MethodHandle" ∧ y_Automaton_letterOfShortest.cls ≠ "java/lang/invoke/VarHandle" ∧ (parseMethodDescriptor y_Automaton_letterOfShortest.desc).map (fun d => d.parameters.length) = some 1 := by decide +kernel
def y_RR_word : MethodName := ⟨"RosterRules", "word", "(II)I"⟩
abbrev b_RR_word : ByteArray := prog_1_method_22_code
def ws_RR_word : List Cond := Cond.code y_RR_word b_RR_word 3 (some .int) :: xTbl
theorem wn_1_151 : Cond.fieldLinkNest "RosterRules" 249 "RosterRules$Roster" "wishes" "I" "RosterRules" ∈ xNs := xNs_1 (List.mem_of_getElem? (i := 151) (by decide +kernel)) rfl
theorem lk_RR_249 : xLk "RosterRules" 249 8 12 := ⟨RC_8, TC_8, 13, rfl, by decide, iC_8, Or.inr ⟨"RosterRules", wn_1_151⟩⟩
theorem wn_1_149 : Cond.fieldLinkNest "RosterRules" 246 "RosterRules$Roster" "filled" "I" "RosterRules" ∈ xNs := xNs_1 (List.mem_of_getElem? (i := 149) (by decide +kernel)) rfl
theorem lk_RR_246 : xLk "RosterRules" 246 8 11 := ⟨RC_8, TC_8, 13, rfl, by decide, iC_8, Or.inr ⟨"RosterRules", wn_1_149⟩⟩
def y_RR_count : MethodName := ⟨"RosterRules", "count", "(I)I"⟩
abbrev b_RR_count : ByteArray := prog_1_method_23_code
def ws_RR_count : List Cond := Cond.code y_RR_count b_RR_count 2 (some .int) :: xTbl
theorem wd_4_215 : Cond.methodLink "RosterRulesModel" 1 ⟨"java/lang/Object", "<init>", "()V"⟩ ∈ xTbl := xIn_4 (List.mem_of_getElem? (i := 215) (by decide +kernel)) rfl
theorem ob_Mo_1 : xOb "RosterRulesModel" 1 := ⟨wd_4_215, wd_1_25, wd_1_26⟩
theorem wd_4_219 : Cond.fieldLink "RosterRulesModel" 7 "RosterRulesModel" "cells" "[I" ∈ xTbl := xIn_4 (List.mem_of_getElem? (i := 219) (by decide +kernel)) rfl
theorem lf_Mo_7 : xLf "RosterRulesModel" 7 12 2 (.array .int) := ⟨RC_12, TC_12, 65, yC_12, rfl, by decide, iC_12, wd_4_219, pC_12, nC_12, rfl, rfl, by decide +kernel⟩
theorem wd_4_220 : Cond.fieldLink "RosterRulesModel" 13 "RosterRulesModel" "past" "[I" ∈ xTbl := xIn_4 (List.mem_of_getElem? (i := 220) (by decide +kernel)) rfl
theorem lf_Mo_13 : xLf "RosterRulesModel" 13 12 3 (.array .int) := ⟨RC_12, TC_12, 65, yC_12, rfl, by decide, iC_12, wd_4_220, pC_12, nC_12, rfl, rfl, by decide +kernel⟩
theorem wd_4_221 : Cond.fieldLink "RosterRulesModel" 16 "RosterRulesModel" "begin" "[I" ∈ xTbl := xIn_4 (List.mem_of_getElem? (i := 221) (by decide +kernel)) rfl
theorem lf_Mo_16 : xLf "RosterRulesModel" 16 12 4 (.array .int) := ⟨RC_12, TC_12, 65, yC_12, rfl, by decide, iC_12, wd_4_221, pC_12, nC_12, rfl, rfl, by decide +kernel⟩
theorem wd_4_222 : Cond.fieldLink "RosterRulesModel" 19 "RosterRulesModel" "minutes" "[I" ∈ xTbl := xIn_4 (List.mem_of_getElem? (i := 222) (by decide +kernel)) rfl
theorem lf_Mo_19 : xLf "RosterRulesModel" 19 12 5 (.array .int) := ⟨RC_12, TC_12, 65, yC_12, rfl, by decide, iC_12, wd_4_222, pC_12, nC_12, rfl, rfl, by decide +kernel⟩
theorem wd_4_223 : Cond.fieldLink "RosterRulesModel" 22 "RosterRulesModel" "skill" "[I" ∈ xTbl := xIn_4 (List.mem_of_getElem? (i := 223) (by decide +kernel)) rfl
theorem lf_Mo_22 : xLf "RosterRulesModel" 22 12 6 (.array .int) := ⟨RC_12, TC_12, 65, yC_12, rfl, by decide, iC_12, wd_4_223, pC_12, nC_12, rfl, rfl, by decide +kernel⟩
theorem wd_4_224 : Cond.fieldLink "RosterRulesModel" 25 "RosterRulesModel" "skills" "[I" ∈ xTbl := xIn_4 (List.mem_of_getElem? (i := 224) (by decide +kernel)) rfl
theorem lf_Mo_25 : xLf "RosterRulesModel" 25 12 7 (.array .int) := ⟨RC_12, TC_12, 65, yC_12, rfl, by decide, iC_12, wd_4_224, pC_12, nC_12, rfl, rfl, by decide +kernel⟩
theorem wd_4_225 : Cond.fieldLink "RosterRulesModel" 28 "RosterRulesModel" "wishShift" "[I" ∈ xTbl := xIn_4 (List.mem_of_getElem? (i := 225) (by decide +kernel)) rfl
theorem lf_Mo_28 : xLf "RosterRulesModel" 28 12 8 (.array .int) := ⟨RC_12, TC_12, 65, yC_12, rfl, by decide, iC_12, wd_4_225, pC_12, nC_12, rfl, rfl, by decide +kernel⟩
theorem wd_4_226 : Cond.fieldLink "RosterRulesModel" 31 "RosterRulesModel" "wishWeight" "[I" ∈ xTbl := xIn_4 (List.mem_of_getElem? (i := 226) (by decide +kernel)) rfl
theorem lf_Mo_31 : xLf "RosterRulesModel" 31 12 9 (.array .int) := ⟨RC_12, TC_12, 65, yC_12, rfl, by decide, iC_12, wd_4_226, pC_12, nC_12, rfl, rfl, by decide +kernel⟩
theorem wd_3_149 : Cond.arrayClass FieldType.byte ∈ xTbl := xIn_3 (List.mem_of_getElem? (i := 149) (by decide +kernel)) rfl
theorem xArr_b : Cond.arrayClass .byte ∈ xTbl := wd_3_149
theorem wd_4_227 : Cond.fieldLink "RosterRulesModel" 34 "RosterRulesModel" "tape" "[B" ∈ xTbl := xIn_4 (List.mem_of_getElem? (i := 227) (by decide +kernel)) rfl
theorem lf_Mo_34 : xLf "RosterRulesModel" 34 12 10 (.array .byte) := ⟨RC_12, TC_12, 65, yC_12, rfl, by decide, iC_12, wd_4_227, pC_12, nC_12, rfl, rfl, by decide +kernel⟩
theorem wd_4_229 : Cond.fieldLink "RosterRulesModel" 38 "RosterRulesModel" "faultPlace" "I" ∈ xTbl := xIn_4 (List.mem_of_getElem? (i := 229) (by decide +kernel)) rfl
theorem lp_Mo_38 : xLp "RosterRulesModel" 38 12 12 .int := ⟨RC_12, TC_12, 65, yC_12, rfl, by decide, iC_12, Or.inl wd_4_229, pC_12, nC_12, rfl, by decide +kernel⟩
theorem wd_4_230 : Cond.fieldLink "RosterRulesModel" 42 "RosterRulesModel" "sort" "[I" ∈ xTbl := xIn_4 (List.mem_of_getElem? (i := 230) (by decide +kernel)) rfl
theorem lf_Mo_42 : xLf "RosterRulesModel" 42 12 13 (.array .int) := ⟨RC_12, TC_12, 65, yC_12, rfl, by decide, iC_12, wd_4_230, pC_12, nC_12, rfl, rfl, by decide +kernel⟩
theorem wd_4_231 : Cond.fieldLink "RosterRulesModel" 45 "RosterRulesModel" "weight" "[I" ∈ xTbl := xIn_4 (List.mem_of_getElem? (i := 231) (by decide +kernel)) rfl
theorem lf_Mo_45 : xLf "RosterRulesModel" 45 12 14 (.array .int) := ⟨RC_12, TC_12, 65, yC_12, rfl, by decide, iC_12, wd_4_231, pC_12, nC_12, rfl, rfl, by decide +kernel⟩
theorem wd_4_232 : Cond.fieldLink "RosterRulesModel" 48 "RosterRulesModel" "placeOf" "[I" ∈ xTbl := xIn_4 (List.mem_of_getElem? (i := 232) (by decide +kernel)) rfl
theorem lf_Mo_48 : xLf "RosterRulesModel" 48 12 15 (.array .int) := ⟨RC_12, TC_12, 65, yC_12, rfl, by decide, iC_12, wd_4_232, pC_12, nC_12, rfl, rfl, by decide +kernel⟩
theorem wd_4_233 : Cond.fieldLink "RosterRulesModel" 51 "RosterRulesModel" "low" "[I" ∈ xTbl := xIn_4 (List.mem_of_getElem? (i := 233) (by decide +kernel)) rfl
theorem lf_Mo_51 : xLf "RosterRulesModel" 51 12 16 (.array .int) := ⟨RC_12, TC_12, 65, yC_12, rfl, by decide, iC_12, wd_4_233, pC_12, nC_12, rfl, rfl, by decide +kernel⟩
theorem wd_4_234 : Cond.fieldLink "RosterRulesModel" 54 "RosterRulesModel" "high" "[I" ∈ xTbl := xIn_4 (List.mem_of_getElem? (i := 234) (by decide +kernel)) rfl
theorem lf_Mo_54 : xLf "RosterRulesModel" 54 12 17 (.array .int) := ⟨RC_12, TC_12, 65, yC_12, rfl, by decide, iC_12, wd_4_234, pC_12, nC_12, rfl, rfl, by decide +kernel⟩
theorem wd_4_235 : Cond.fieldLink "RosterRulesModel" 57 "RosterRulesModel" "length" "[I" ∈ xTbl := xIn_4 (List.mem_of_getElem? (i := 235) (by decide +kernel)) rfl
theorem lf_Mo_57 : xLf "RosterRulesModel" 57 12 18 (.array .int) := ⟨RC_12, TC_12, 65, yC_12, rfl, by decide, iC_12, wd_4_235, pC_12, nC_12, rfl, rfl, by decide +kernel⟩
theorem wd_4_236 : Cond.fieldLink "RosterRulesModel" 60 "RosterRulesModel" "letter" "[I" ∈ xTbl := xIn_4 (List.mem_of_getElem? (i := 236) (by decide +kernel)) rfl
theorem lf_Mo_60 : xLf "RosterRulesModel" 60 12 19 (.array .int) := ⟨RC_12, TC_12, 65, yC_12, rfl, by decide, iC_12, wd_4_236, pC_12, nC_12, rfl, rfl, by decide +kernel⟩
theorem wd_4_238 : Cond.fieldLink "RosterRulesModel" 63 "RosterRulesModel" "letters" "[I" ∈ xTbl := xIn_4 (List.mem_of_getElem? (i := 238) (by decide +kernel)) rfl
theorem lf_Mo_63 : xLf "RosterRulesModel" 63 12 21 (.array .int) := ⟨RC_12, TC_12, 65, yC_12, rfl, by decide, iC_12, wd_4_238, pC_12, nC_12, rfl, rfl, by decide +kernel⟩
theorem wd_4_239 : Cond.fieldLink "RosterRulesModel" 66 "RosterRulesModel" "follow" "[I" ∈ xTbl := xIn_4 (List.mem_of_getElem? (i := 239) (by decide +kernel)) rfl
theorem lf_Mo_66 : xLf "RosterRulesModel" 66 12 22 (.array .int) := ⟨RC_12, TC_12, 65, yC_12, rfl, by decide, iC_12, wd_4_239, pC_12, nC_12, rfl, rfl, by decide +kernel⟩
theorem wd_5_0 : Cond.fieldLink "RosterRulesModel" 69 "RosterRulesModel" "lasts" "[I" ∈ xTbl := xIn_5 (List.mem_of_getElem? (i := 0) (by decide +kernel)) rfl
theorem lf_Mo_69 : xLf "RosterRulesModel" 69 12 23 (.array .int) := ⟨RC_12, TC_12, 65, yC_12, rfl, by decide, iC_12, wd_5_0, pC_12, nC_12, rfl, rfl, by decide +kernel⟩
theorem wd_5_172 : Cond.arrayClass FieldType.boolean ∈ xTbl := xIn_5 (List.mem_of_getElem? (i := 172) (by decide +kernel)) rfl
theorem xArr_z : Cond.arrayClass .boolean ∈ xTbl := wd_5_172
theorem wd_5_1 : Cond.fieldLink "RosterRulesModel" 72 "RosterRulesModel" "hasNone" "[Z" ∈ xTbl := xIn_5 (List.mem_of_getElem? (i := 1) (by decide +kernel)) rfl
theorem lf_Mo_72 : xLf "RosterRulesModel" 72 12 24 (.array .boolean) := ⟨RC_12, TC_12, 65, yC_12, rfl, by decide, iC_12, wd_5_1, pC_12, nC_12, rfl, rfl, by decide +kernel⟩
theorem wd_5_2 : Cond.fieldLink "RosterRulesModel" 76 "RosterRulesModel" "places" "[I" ∈ xTbl := xIn_5 (List.mem_of_getElem? (i := 2) (by decide +kernel)) rfl
theorem lf_Mo_76 : xLf "RosterRulesModel" 76 12 25 (.array .int) := ⟨RC_12, TC_12, 65, yC_12, rfl, by decide, iC_12, wd_5_2, pC_12, nC_12, rfl, rfl, by decide +kernel⟩
theorem wd_5_3 : Cond.fieldLink "RosterRulesModel" 79 "RosterRulesModel" "states" "[I" ∈ xTbl := xIn_5 (List.mem_of_getElem? (i := 3) (by decide +kernel)) rfl
theorem lf_Mo_79 : xLf "RosterRulesModel" 79 12 26 (.array .int) := ⟨RC_12, TC_12, 65, yC_12, rfl, by decide, iC_12, wd_5_3, pC_12, nC_12, rfl, rfl, by decide +kernel⟩
theorem wd_4_216 : Cond.constant "RosterRulesModel" 82 147600 ∈ xTbl := xIn_4 (List.mem_of_getElem? (i := 216) (by decide +kernel)) rfl
theorem wd_5_4 : Cond.fieldLink "RosterRulesModel" 83 "RosterRulesModel" "next" "[I" ∈ xTbl := xIn_5 (List.mem_of_getElem? (i := 4) (by decide +kernel)) rfl
theorem lf_Mo_83 : xLf "RosterRulesModel" 83 12 27 (.array .int) := ⟨RC_12, TC_12, 65, yC_12, rfl, by decide, iC_12, wd_5_4, pC_12, nC_12, rfl, rfl, by decide +kernel⟩
theorem wd_5_5 : Cond.fieldLink "RosterRulesModel" 86 "RosterRulesModel" "ends" "[Z" ∈ xTbl := xIn_5 (List.mem_of_getElem? (i := 5) (by decide +kernel)) rfl
theorem lf_Mo_86 : xLf "RosterRulesModel" 86 12 28 (.array .boolean) := ⟨RC_12, TC_12, 65, yC_12, rfl, by decide, iC_12, wd_5_5, pC_12, nC_12, rfl, rfl, by decide +kernel⟩
theorem wd_5_6 : Cond.fieldLink "RosterRulesModel" 89 "RosterRulesModel" "undoCell" "[I" ∈ xTbl := xIn_5 (List.mem_of_getElem? (i := 6) (by decide +kernel)) rfl
theorem lf_Mo_89 : xLf "RosterRulesModel" 89 12 29 (.array .int) := ⟨RC_12, TC_12, 65, yC_12, rfl, by decide, iC_12, wd_5_6, pC_12, nC_12, rfl, rfl, by decide +kernel⟩
theorem wd_5_7 : Cond.fieldLink "RosterRulesModel" 92 "RosterRulesModel" "undoShift" "[I" ∈ xTbl := xIn_5 (List.mem_of_getElem? (i := 7) (by decide +kernel)) rfl
theorem lf_Mo_92 : xLf "RosterRulesModel" 92 12 30 (.array .int) := ⟨RC_12, TC_12, 65, yC_12, rfl, by decide, iC_12, wd_5_7, pC_12, nC_12, rfl, rfl, by decide +kernel⟩
theorem wd_5_21 : Cond.fieldLink "RosterRulesModel" 95 "RosterRulesModel" "over" "[I" ∈ xTbl := xIn_5 (List.mem_of_getElem? (i := 21) (by decide +kernel)) rfl
theorem lf_Mo_95 : xLf "RosterRulesModel" 95 12 45 (.array .int) := ⟨RC_12, TC_12, 65, yC_12, rfl, by decide, iC_12, wd_5_21, pC_12, nC_12, rfl, rfl, by decide +kernel⟩
theorem wd_5_22 : Cond.fieldLink "RosterRulesModel" 98 "RosterRulesModel" "inRow" "[I" ∈ xTbl := xIn_5 (List.mem_of_getElem? (i := 22) (by decide +kernel)) rfl
theorem lf_Mo_98 : xLf "RosterRulesModel" 98 12 46 (.array .int) := ⟨RC_12, TC_12, 65, yC_12, rfl, by decide, iC_12, wd_5_22, pC_12, nC_12, rfl, rfl, by decide +kernel⟩
theorem wd_5_23 : Cond.fieldLink "RosterRulesModel" 101 "RosterRulesModel" "inItem" "[I" ∈ xTbl := xIn_5 (List.mem_of_getElem? (i := 23) (by decide +kernel)) rfl
theorem lf_Mo_101 : xLf "RosterRulesModel" 101 12 47 (.array .int) := ⟨RC_12, TC_12, 65, yC_12, rfl, by decide, iC_12, wd_5_23, pC_12, nC_12, rfl, rfl, by decide +kernel⟩
theorem wd_5_24 : Cond.fieldLink "RosterRulesModel" 104 "RosterRulesModel" "hasItem" "[Z" ∈ xTbl := xIn_5 (List.mem_of_getElem? (i := 24) (by decide +kernel)) rfl
theorem lf_Mo_104 : xLf "RosterRulesModel" 104 12 48 (.array .boolean) := ⟨RC_12, TC_12, 65, yC_12, rfl, by decide, iC_12, wd_5_24, pC_12, nC_12, rfl, rfl, by decide +kernel⟩
theorem wd_5_25 : Cond.fieldLink "RosterRulesModel" 107 "RosterRulesModel" "allOf" "[J" ∈ xTbl := xIn_5 (List.mem_of_getElem? (i := 25) (by decide +kernel)) rfl
theorem lf_Mo_107 : xLf "RosterRulesModel" 107 12 49 (.array .long) := ⟨RC_12, TC_12, 65, yC_12, rfl, by decide, iC_12, wd_5_25, pC_12, nC_12, rfl, rfl, by decide +kernel⟩
theorem wd_5_26 : Cond.fieldLink "RosterRulesModel" 111 "RosterRulesModel" "rowOf" "[J" ∈ xTbl := xIn_5 (List.mem_of_getElem? (i := 26) (by decide +kernel)) rfl
theorem lf_Mo_111 : xLf "RosterRulesModel" 111 12 50 (.array .long) := ⟨RC_12, TC_12, 65, yC_12, rfl, by decide, iC_12, wd_5_26, pC_12, nC_12, rfl, rfl, by decide +kernel⟩
theorem wd_5_27 : Cond.fieldLink "RosterRulesModel" 114 "RosterRulesModel" "itemOf" "[J" ∈ xTbl := xIn_5 (List.mem_of_getElem? (i := 27) (by decide +kernel)) rfl
theorem lf_Mo_114 : xLf "RosterRulesModel" 114 12 51 (.array .long) := ⟨RC_12, TC_12, 65, yC_12, rfl, by decide, iC_12, wd_5_27, pC_12, nC_12, rfl, rfl, by decide +kernel⟩
theorem wd_5_28 : Cond.fieldLink "RosterRulesModel" 117 "RosterRulesModel" "hasAll" "[Z" ∈ xTbl := xIn_5 (List.mem_of_getElem? (i := 28) (by decide +kernel)) rfl
theorem lf_Mo_117 : xLf "RosterRulesModel" 117 12 52 (.array .boolean) := ⟨RC_12, TC_12, 65, yC_12, rfl, by decide, iC_12, wd_5_28, pC_12, nC_12, rfl, rfl, by decide +kernel⟩
theorem wd_5_29 : Cond.fieldLink "RosterRulesModel" 120 "RosterRulesModel" "hasRow" "[Z" ∈ xTbl := xIn_5 (List.mem_of_getElem? (i := 29) (by decide +kernel)) rfl
theorem lf_Mo_120 : xLf "RosterRulesModel" 120 12 53 (.array .boolean) := ⟨RC_12, TC_12, 65, yC_12, rfl, by decide, iC_12, wd_5_29, pC_12, nC_12, rfl, rfl, by decide +kernel⟩
theorem wd_5_30 : Cond.fieldLink "RosterRulesModel" 123 "RosterRulesModel" "itemFrom" "[I" ∈ xTbl := xIn_5 (List.mem_of_getElem? (i := 30) (by decide +kernel)) rfl
theorem lf_Mo_123 : xLf "RosterRulesModel" 123 12 54 (.array .int) := ⟨RC_12, TC_12, 65, yC_12, rfl, by decide, iC_12, wd_5_30, pC_12, nC_12, rfl, rfl, by decide +kernel⟩
theorem wd_5_31 : Cond.fieldLink "RosterRulesModel" 126 "RosterRulesModel" "groupFrom" "[I" ∈ xTbl := xIn_5 (List.mem_of_getElem? (i := 31) (by decide +kernel)) rfl
theorem lf_Mo_126 : xLf "RosterRulesModel" 126 12 55 (.array .int) := ⟨RC_12, TC_12, 65, yC_12, rfl, by decide, iC_12, wd_5_31, pC_12, nC_12, rfl, rfl, by decide +kernel⟩
theorem wd_5_32 : Cond.fieldLink "RosterRulesModel" 129 "RosterRulesModel" "sets" "[I" ∈ xTbl := xIn_5 (List.mem_of_getElem? (i := 32) (by decide +kernel)) rfl
theorem lf_Mo_129 : xLf "RosterRulesModel" 129 12 56 (.array .int) := ⟨RC_12, TC_12, 65, yC_12, rfl, by decide, iC_12, wd_5_32, pC_12, nC_12, rfl, rfl, by decide +kernel⟩
theorem wd_5_33 : Cond.fieldLink "RosterRulesModel" 132 "RosterRulesModel" "idOf" "[I" ∈ xTbl := xIn_5 (List.mem_of_getElem? (i := 33) (by decide +kernel)) rfl
theorem lf_Mo_132 : xLf "RosterRulesModel" 132 12 57 (.array .int) := ⟨RC_12, TC_12, 65, yC_12, rfl, by decide, iC_12, wd_5_33, pC_12, nC_12, rfl, rfl, by decide +kernel⟩
theorem wd_5_34 : Cond.fieldLink "RosterRulesModel" 135 "RosterRulesModel" "lead" "[I" ∈ xTbl := xIn_5 (List.mem_of_getElem? (i := 34) (by decide +kernel)) rfl
theorem lf_Mo_135 : xLf "RosterRulesModel" 135 12 58 (.array .int) := ⟨RC_12, TC_12, 65, yC_12, rfl, by decide, iC_12, wd_5_34, pC_12, nC_12, rfl, rfl, by decide +kernel⟩
theorem wd_5_35 : Cond.fieldLink "RosterRulesModel" 138 "RosterRulesModel" "group" "[I" ∈ xTbl := xIn_5 (List.mem_of_getElem? (i := 35) (by decide +kernel)) rfl
theorem lf_Mo_138 : xLf "RosterRulesModel" 138 12 59 (.array .int) := ⟨RC_12, TC_12, 65, yC_12, rfl, by decide, iC_12, wd_5_35, pC_12, nC_12, rfl, rfl, by decide +kernel⟩
theorem wd_5_36 : Cond.fieldLink "RosterRulesModel" 141 "RosterRulesModel" "fresh" "[I" ∈ xTbl := xIn_5 (List.mem_of_getElem? (i := 36) (by decide +kernel)) rfl
theorem lf_Mo_141 : xLf "RosterRulesModel" 141 12 60 (.array .int) := ⟨RC_12, TC_12, 65, yC_12, rfl, by decide, iC_12, wd_5_36, pC_12, nC_12, rfl, rfl, by decide +kernel⟩
theorem wd_5_37 : Cond.fieldLink "RosterRulesModel" 144 "RosterRulesModel" "model" "[I" ∈ xTbl := xIn_5 (List.mem_of_getElem? (i := 37) (by decide +kernel)) rfl
theorem lf_Mo_144 : xLf "RosterRulesModel" 144 12 61 (.array .int) := ⟨RC_12, TC_12, 65, yC_12, rfl, by decide, iC_12, wd_5_37, pC_12, nC_12, rfl, rfl, by decide +kernel⟩
theorem wd_5_38 : Cond.fieldLink "RosterRulesModel" 147 "RosterRulesModel" "number" "[I" ∈ xTbl := xIn_5 (List.mem_of_getElem? (i := 38) (by decide +kernel)) rfl
theorem lf_Mo_147 : xLf "RosterRulesModel" 147 12 62 (.array .int) := ⟨RC_12, TC_12, 65, yC_12, rfl, by decide, iC_12, wd_5_38, pC_12, nC_12, rfl, rfl, by decide +kernel⟩
theorem wd_5_39 : Cond.fieldLink "RosterRulesModel" 150 "RosterRulesModel" "ways" "[J" ∈ xTbl := xIn_5 (List.mem_of_getElem? (i := 39) (by decide +kernel)) rfl
theorem lf_Mo_150 : xLf "RosterRulesModel" 150 12 63 (.array .long) := ⟨RC_12, TC_12, 65, yC_12, rfl, by decide, iC_12, wd_5_39, pC_12, nC_12, rfl, rfl, by decide +kernel⟩
theorem wd_5_40 : Cond.fieldLink "RosterRulesModel" 153 "RosterRulesModel" "waysOn" "[J" ∈ xTbl := xIn_5 (List.mem_of_getElem? (i := 40) (by decide +kernel)) rfl
theorem lf_Mo_153 : xLf "RosterRulesModel" 153 12 64 (.array .long) := ⟨RC_12, TC_12, 65, yC_12, rfl, by decide, iC_12, wd_5_40, pC_12, nC_12, rfl, rfl, by decide +kernel⟩
theorem wd_4_217 : Cond.fieldLink "RosterRulesModel" 156 "RosterRulesModel" "people" "I" ∈ xTbl := xIn_4 (List.mem_of_getElem? (i := 217) (by decide +kernel)) rfl
theorem lf_Mo_156 : xLf "RosterRulesModel" 156 12 0 .int := ⟨RC_12, TC_12, 65, yC_12, rfl, by decide, iC_12, wd_4_217, pC_12, nC_12, rfl, rfl, by decide +kernel⟩
theorem wd_4_218 : Cond.fieldLink "RosterRulesModel" 159 "RosterRulesModel" "days" "I" ∈ xTbl := xIn_4 (List.mem_of_getElem? (i := 218) (by decide +kernel)) rfl
theorem lf_Mo_159 : xLf "RosterRulesModel" 159 12 1 .int := ⟨RC_12, TC_12, 65, yC_12, rfl, by decide, iC_12, wd_4_218, pC_12, nC_12, rfl, rfl, by decide +kernel⟩
theorem lk_Mo_7 : xLk "RosterRulesModel" 7 12 2 := ⟨RC_12, TC_12, 65, rfl, by decide, iC_12, Or.inl wd_4_219⟩
theorem lk_Mo_13 : xLk "RosterRulesModel" 13 12 3 := ⟨RC_12, TC_12, 65, rfl, by decide, iC_12, Or.inl wd_4_220⟩
theorem lk_Mo_16 : xLk "RosterRulesModel" 16 12 4 := ⟨RC_12, TC_12, 65, rfl, by decide, iC_12, Or.inl wd_4_221⟩
theorem lk_Mo_19 : xLk "RosterRulesModel" 19 12 5 := ⟨RC_12, TC_12, 65, rfl, by decide, iC_12, Or.inl wd_4_222⟩
theorem lk_Mo_25 : xLk "RosterRulesModel" 25 12 7 := ⟨RC_12, TC_12, 65, rfl, by decide, iC_12, Or.inl wd_4_224⟩
def y_Mo_init : MethodName := ⟨"RosterRulesModel", "<init>", "(II)V"⟩
abbrev b_Mo_init : ByteArray := prog_14_method_1_code
def ws_Mo_init : List Cond := Cond.code y_Mo_init b_Mo_init 4 none :: xTbl
theorem lk_Mo_156 : xLk "RosterRulesModel" 156 12 0 := ⟨RC_12, TC_12, 65, rfl, by decide, iC_12, Or.inl wd_4_217⟩
def y_Mo_isPerson : MethodName := ⟨"RosterRulesModel", "isPerson", "(I)Z"⟩
abbrev b_Mo_isPerson : ByteArray := prog_14_method_3_code
def ws_Mo_isPerson : List Cond := Cond.code y_Mo_isPerson b_Mo_isPerson 2 (some .boolean) :: xTbl
theorem wd_6_98 : Cond.methodLink "RosterRulesModel" 165 ⟨"RosterRulesModel", "isPerson", "(I)Z"⟩ ∈ xTbl := xIn_6 (List.mem_of_getElem? (i := 98) (by decide +kernel)) rfl
theorem wd_6_100 : Cond.instanceMethod ⟨"RosterRulesModel", "isPerson", "(I)Z"⟩ ∈ xTbl := xIn_6 (List.mem_of_getElem? (i := 100) (by decide +kernel)) rfl
theorem wz_76 : Cond.selects "RosterRulesModel" ⟨"RosterRulesModel", "isPerson", "(I)Z"⟩ ⟨"RosterRulesModel", "isPerson", "(I)Z"⟩ ∈ xTbl := List.mem_filter.mpr ⟨List.mem_append_left _ (List.mem_of_getElem? (i := 76) (by decide +kernel)), rfl⟩
theorem wd_1_14 : Cond.initialized "RosterRulesModel" ∈ xTbl := xIn_1 (List.mem_of_getElem? (i := 14) (by decide +kernel)) rfl
theorem wd_6_101 : Cond.code ⟨"RosterRulesModel", "isPerson", "(I)Z"⟩ prog_14_method_3_code 2 (some FieldType.boolean) ∈ xTbl := xIn_6 (List.mem_of_getElem? (i := 101) rfl) rfl
theorem gv_Mo_165 : GoodIn xTbl (wsV "RosterRulesModel" 165 "RosterRulesModel" y_Mo_isPerson ws_Mo_isPerson) := xGV wd_6_98 wd_6_100 wz_76 wd_1_14 wd_6_101
theorem hd_Mo_isPerson : y_Mo_isPerson.cls = "RosterRulesModel" ∧ y_Mo_isPerson.cls ≠ "java/lang/invoke/MethodHandle" ∧ y_Mo_isPerson.cls ≠ "java/lang/invoke/VarHandle" ∧ (parseMethodDescriptor y_Mo_isPerson.desc).map (fun d => d.parameters.length) = some 1 := by decide +kernel
theorem lk_Mo_159 : xLk "RosterRulesModel" 159 12 1 := ⟨RC_12, TC_12, 65, rfl, by decide, iC_12, Or.inl wd_4_218⟩
def y_Mo_isCell : MethodName := ⟨"RosterRulesModel", "isCell", "(II)Z"⟩
abbrev b_Mo_isCell : ByteArray := prog_14_method_4_code
def ws_Mo_isCell : List Cond := Cond.code y_Mo_isCell b_Mo_isCell 3 (some .boolean) :: xTbl
def y_Mo_isShift : MethodName := ⟨"RosterRulesModel", "isShift", "(I)Z"⟩
abbrev b_Mo_isShift : ByteArray := prog_14_method_5_code
def ws_Mo_isShift : List Cond := Cond.code y_Mo_isShift b_Mo_isShift 1 (some .boolean) :: xTbl
theorem wd_4_228 : Cond.fieldLink "RosterRulesModel" 169 "RosterRulesModel" "tapeSize" "I" ∈ xTbl := xIn_4 (List.mem_of_getElem? (i := 228) (by decide +kernel)) rfl
theorem lk_Mo_169 : xLk "RosterRulesModel" 169 12 11 := ⟨RC_12, TC_12, 65, rfl, by decide, iC_12, Or.inl wd_4_228⟩
theorem lk_Mo_34 : xLk "RosterRulesModel" 34 12 10 := ⟨RC_12, TC_12, 65, rfl, by decide, iC_12, Or.inl wd_4_227⟩
theorem lp_Mo_169 : xLp "RosterRulesModel" 169 12 11 .int := ⟨RC_12, TC_12, 65, yC_12, rfl, by decide, iC_12, Or.inl wd_4_228, pC_12, nC_12, rfl, by decide +kernel⟩
def y_Mo_feed : MethodName := ⟨"RosterRulesModel", "feed", "(IJ)I"⟩
abbrev b_Mo_feed : ByteArray := prog_14_method_6_code
def ws_Mo_feed : List Cond := Cond.code y_Mo_feed b_Mo_feed 5 (some .int) :: xTbl
def y_Mo_look : MethodName := ⟨"RosterRulesModel", "look", "(I)I"⟩
abbrev b_Mo_look : ByteArray := prog_14_method_7_code
def ws_Mo_look : List Cond := Cond.code y_Mo_look b_Mo_look 2 (some .int) :: xTbl
def y_Mo_isSmall : MethodName := ⟨"RosterRulesModel", "isSmall", "(I)Z"⟩
abbrev b_Mo_isSmall : ByteArray := prog_14_method_8_code
def ws_Mo_isSmall : List Cond := Cond.code y_Mo_isSmall b_Mo_isSmall 1 (some .boolean) :: xTbl
def y_Mo_isDigit : MethodName := ⟨"RosterRulesModel", "isDigit", "(I)Z"⟩
abbrev b_Mo_isDigit : ByteArray := prog_14_method_9_code
def ws_Mo_isDigit : List Cond := Cond.code y_Mo_isDigit b_Mo_isDigit 1 (some .boolean) :: xTbl
theorem wd_5_15 : Cond.fieldLink "RosterRulesModel" 172 "RosterRulesModel" "fault" "I" ∈ xTbl := xIn_5 (List.mem_of_getElem? (i := 15) (by decide +kernel)) rfl
theorem lk_Mo_172 : xLk "RosterRulesModel" 172 12 39 := ⟨RC_12, TC_12, 65, rfl, by decide, iC_12, Or.inl wd_5_15⟩
theorem lp_Mo_172 : xLp "RosterRulesModel" 172 12 39 .int := ⟨RC_12, TC_12, 65, yC_12, rfl, by decide, iC_12, Or.inl wd_5_15, pC_12, nC_12, rfl, by decide +kernel⟩
theorem wd_5_16 : Cond.fieldLink "RosterRulesModel" 175 "RosterRulesModel" "faultAt" "I" ∈ xTbl := xIn_5 (List.mem_of_getElem? (i := 16) (by decide +kernel)) rfl
theorem lp_Mo_175 : xLp "RosterRulesModel" 175 12 40 .int := ⟨RC_12, TC_12, 65, yC_12, rfl, by decide, iC_12, Or.inl wd_5_16, pC_12, nC_12, rfl, by decide +kernel⟩
def y_Mo_fails : MethodName := ⟨"RosterRulesModel", "fails", "(II)Z"⟩
abbrev b_Mo_fails : ByteArray := prog_14_method_10_code
def ws_Mo_fails : List Cond := Cond.code y_Mo_fails b_Mo_fails 3 (some .boolean) :: xTbl
theorem wd_5_10 : Cond.fieldLink "RosterRulesModel" 178 "RosterRulesModel" "at" "I" ∈ xTbl := xIn_5 (List.mem_of_getElem? (i := 10) (by decide +kernel)) rfl
theorem lk_Mo_178 : xLk "RosterRulesModel" 178 12 34 := ⟨RC_12, TC_12, 65, rfl, by decide, iC_12, Or.inl wd_5_10⟩
theorem wd_5_189 : Cond.methodLink "RosterRulesModel" 181 ⟨"RosterRulesModel", "look", "(I)I"⟩ ∈ xTbl := xIn_5 (List.mem_of_getElem? (i := 189) (by decide +kernel)) rfl
theorem wd_5_191 : Cond.instanceMethod ⟨"RosterRulesModel", "look", "(I)I"⟩ ∈ xTbl := xIn_5 (List.mem_of_getElem? (i := 191) (by decide +kernel)) rfl
theorem wz_51 : Cond.selects "RosterRulesModel" ⟨"RosterRulesModel", "look", "(I)I"⟩ ⟨"RosterRulesModel", "look", "(I)I"⟩ ∈ xTbl := List.mem_filter.mpr ⟨List.mem_append_left _ (List.mem_of_getElem? (i := 51) (by decide +kernel)), rfl⟩
theorem wd_5_192 : Cond.code ⟨"RosterRulesModel", "look", "(I)I"⟩ prog_14_method_7_code 2 (some FieldType.int) ∈ xTbl := xIn_5 (List.mem_of_getElem? (i := 192) rfl) rfl
theorem gv_Mo_181 : GoodIn xTbl (wsV "RosterRulesModel" 181 "RosterRulesModel" y_Mo_look ws_Mo_look) := xGV wd_5_189 wd_5_191 wz_51 wd_1_14 wd_5_192
theorem hd_Mo_look : y_Mo_look.cls = "RosterRulesModel" ∧ y_Mo_look.cls ≠ "java/lang/invoke/MethodHandle" ∧ y_Mo_look.cls ≠ "java/lang/invoke/VarHandle" ∧ (parseMethodDescriptor y_Mo_look.desc).map (fun d => d.parameters.length) = some 1 := by decide +kernel
theorem lp_Mo_178 : xLp "RosterRulesModel" 178 12 34 .int := ⟨RC_12, TC_12, 65, yC_12, rfl, by decide, iC_12, Or.inl wd_5_10, pC_12, nC_12, rfl, by decide +kernel⟩
theorem wd_5_12 : Cond.fieldLink "RosterRulesModel" 185 "RosterRulesModel" "tokenAt" "I" ∈ xTbl := xIn_5 (List.mem_of_getElem? (i := 12) (by decide +kernel)) rfl
theorem lp_Mo_185 : xLp "RosterRulesModel" 185 12 36 .int := ⟨RC_12, TC_12, 65, yC_12, rfl, by decide, iC_12, Or.inl wd_5_12, pC_12, nC_12, rfl, by decide +kernel⟩
theorem wd_5_11 : Cond.fieldLink "RosterRulesModel" 188 "RosterRulesModel" "token" "I" ∈ xTbl := xIn_5 (List.mem_of_getElem? (i := 11) (by decide +kernel)) rfl
theorem lp_Mo_188 : xLp "RosterRulesModel" 188 12 35 .int := ⟨RC_12, TC_12, 65, yC_12, rfl, by decide, iC_12, Or.inl wd_5_11, pC_12, nC_12, rfl, by decide +kernel⟩
theorem wd_5_13 : Cond.fieldLink "RosterRulesModel" 205 "RosterRulesModel" "tokenEnd" "I" ∈ xTbl := xIn_5 (List.mem_of_getElem? (i := 13) (by decide +kernel)) rfl
theorem lp_Mo_205 : xLp "RosterRulesModel" 205 12 37 .int := ⟨RC_12, TC_12, 65, yC_12, rfl, by decide, iC_12, Or.inl wd_5_13, pC_12, nC_12, rfl, by decide +kernel⟩
theorem wd_5_193 : Cond.methodLink "RosterRulesModel" 191 ⟨"RosterRulesModel", "isSmall", "(I)Z"⟩ ∈ xTbl := xIn_5 (List.mem_of_getElem? (i := 193) (by decide +kernel)) rfl
theorem wd_5_194 : Cond.static ⟨"RosterRulesModel", "isSmall", "(I)Z"⟩ ∈ xTbl := xIn_5 (List.mem_of_getElem? (i := 194) (by decide +kernel)) rfl
theorem wd_5_195 : Cond.code ⟨"RosterRulesModel", "isSmall", "(I)Z"⟩ prog_14_method_8_code 1 (some FieldType.boolean) ∈ xTbl := xIn_5 (List.mem_of_getElem? (i := 195) rfl) rfl
theorem gs_Mo_191 : GoodIn xTbl (wsS "RosterRulesModel" 191 y_Mo_isSmall ws_Mo_isSmall) := xGS wd_5_193 wd_5_194 wd_1_14 wd_5_195
theorem hd_Mo_isSmall : y_Mo_isSmall.cls = "RosterRulesModel" ∧ y_Mo_isSmall.cls ≠ "java/lang/invoke/MethodHandle" ∧ y_Mo_isSmall.cls ≠ "java/lang/invoke/VarHandle" ∧ (parseMethodDescriptor y_Mo_isSmall.desc).map (fun d => d.parameters.length) = some 1 := by decide +kernel
theorem wd_5_14 : Cond.fieldLink "RosterRulesModel" 194 "RosterRulesModel" "tokenWord" "J" ∈ xTbl := xIn_5 (List.mem_of_getElem? (i := 14) (by decide +kernel)) rfl
theorem lp_Mo_194 : xLp "RosterRulesModel" 194 12 38 .long := ⟨RC_12, TC_12, 65, yC_12, rfl, by decide, iC_12, Or.inl wd_5_14, pC_12, nC_12, rfl, by decide +kernel⟩
theorem lk_Mo_194 : xLk "RosterRulesModel" 194 12 38 := ⟨RC_12, TC_12, 65, rfl, by decide, iC_12, Or.inl wd_5_14⟩
theorem wd_5_196 : Cond.methodLink "RosterRulesModel" 198 ⟨"RosterRulesModel", "fails", "(II)Z"⟩ ∈ xTbl := xIn_5 (List.mem_of_getElem? (i := 196) (by decide +kernel)) rfl
theorem wd_5_198 : Cond.instanceMethod ⟨"RosterRulesModel", "fails", "(II)Z"⟩ ∈ xTbl := xIn_5 (List.mem_of_getElem? (i := 198) (by decide +kernel)) rfl
theorem wz_52 : Cond.selects "RosterRulesModel" ⟨"RosterRulesModel", "fails", "(II)Z"⟩ ⟨"RosterRulesModel", "fails", "(II)Z"⟩ ∈ xTbl := List.mem_filter.mpr ⟨List.mem_append_left _ (List.mem_of_getElem? (i := 52) (by decide +kernel)), rfl⟩
theorem wd_5_199 : Cond.code ⟨"RosterRulesModel", "fails", "(II)Z"⟩ prog_14_method_10_code 3 (some FieldType.boolean) ∈ xTbl := xIn_5 (List.mem_of_getElem? (i := 199) rfl) rfl
theorem gv_Mo_198 : GoodIn xTbl (wsV "RosterRulesModel" 198 "RosterRulesModel" y_Mo_fails ws_Mo_fails) := xGV wd_5_196 wd_5_198 wz_52 wd_1_14 wd_5_199
theorem hd_Mo_fails : y_Mo_fails.cls = "RosterRulesModel" ∧ y_Mo_fails.cls ≠ "java/lang/invoke/MethodHandle" ∧ y_Mo_fails.cls ≠ "java/lang/invoke/VarHandle" ∧ (parseMethodDescriptor y_Mo_fails.desc).map (fun d => d.parameters.length) = some 2 := by decide +kernel
theorem wd_5_200 : Cond.methodLink "RosterRulesModel" 202 ⟨"RosterRulesModel", "isDigit", "(I)Z"⟩ ∈ xTbl := xIn_5 (List.mem_of_getElem? (i := 200) (by decide +kernel)) rfl
theorem wd_5_201 : Cond.static ⟨"RosterRulesModel", "isDigit", "(I)Z"⟩ ∈ xTbl := xIn_5 (List.mem_of_getElem? (i := 201) (by decide +kernel)) rfl
theorem wd_5_202 : Cond.code ⟨"RosterRulesModel", "isDigit", "(I)Z"⟩ prog_14_method_9_code 1 (some FieldType.boolean) ∈ xTbl := xIn_5 (List.mem_of_getElem? (i := 202) rfl) rfl
theorem gs_Mo_202 : GoodIn xTbl (wsS "RosterRulesModel" 202 y_Mo_isDigit ws_Mo_isDigit) := xGS wd_5_200 wd_5_201 wd_1_14 wd_5_202
theorem hd_Mo_isDigit : y_Mo_isDigit.cls = "RosterRulesModel" ∧ y_Mo_isDigit.cls ≠ "java/lang/invoke/MethodHandle" ∧ y_Mo_isDigit.cls ≠ "java/lang/invoke/VarHandle" ∧ (parseMethodDescriptor y_Mo_isDigit.desc).map (fun d => d.parameters.length) = some 1 := by decide +kernel
def y_Mo_advance : MethodName := ⟨"RosterRulesModel", "advance", "()Z"⟩
abbrev b_Mo_advance : ByteArray := prog_14_method_11_code
def ws_Mo_advance : List Cond := Cond.code y_Mo_advance b_Mo_advance 3 (some .boolean) :: xTbl
theorem wd_5_185 : Cond.methodLink "RosterRulesModel" 208 ⟨"RosterRulesModel", "advance", "()Z"⟩ ∈ xTbl := xIn_5 (List.mem_of_getElem? (i := 185) (by decide +kernel)) rfl
theorem wd_5_187 : Cond.instanceMethod ⟨"RosterRulesModel", "advance", "()Z"⟩ ∈ xTbl := xIn_5 (List.mem_of_getElem? (i := 187) (by decide +kernel)) rfl
theorem wz_50 : Cond.selects "RosterRulesModel" ⟨"RosterRulesModel", "advance", "()Z"⟩ ⟨"RosterRulesModel", "advance", "()Z"⟩ ∈ xTbl := List.mem_filter.mpr ⟨List.mem_append_left _ (List.mem_of_getElem? (i := 50) (by decide +kernel)), rfl⟩
theorem wd_5_188 : Cond.code ⟨"RosterRulesModel", "advance", "()Z"⟩ prog_14_method_11_code 3 (some FieldType.boolean) ∈ xTbl := xIn_5 (List.mem_of_getElem? (i := 188) rfl) rfl
theorem gv_Mo_208 : GoodIn xTbl (wsV "RosterRulesModel" 208 "RosterRulesModel" y_Mo_advance ws_Mo_advance) := xGV wd_5_185 wd_5_187 wz_50 wd_1_14 wd_5_188
theorem hd_Mo_advance : y_Mo_advance.cls = "RosterRulesModel" ∧ y_Mo_advance.cls ≠ "java/lang/invoke/MethodHandle" ∧ y_Mo_advance.cls ≠ "java/lang/invoke/VarHandle" ∧ (parseMethodDescriptor y_Mo_advance.desc).map (fun d => d.parameters.length) = some 0 := by decide +kernel
theorem lk_Mo_188 : xLk "RosterRulesModel" 188 12 35 := ⟨RC_12, TC_12, 65, rfl, by decide, iC_12, Or.inl wd_5_11⟩
theorem lk_Mo_185 : xLk "RosterRulesModel" 185 12 36 := ⟨RC_12, TC_12, 65, rfl, by decide, iC_12, Or.inl wd_5_12⟩
theorem lk_Mo_205 : xLk "RosterRulesModel" 205 12 37 := ⟨RC_12, TC_12, 65, rfl, by decide, iC_12, Or.inl wd_5_13⟩
def y_Mo_number : MethodName := ⟨"RosterRulesModel", "number", "(II)I"⟩
abbrev b_Mo_number : ByteArray := prog_14_method_12_code
def ws_Mo_number : List Cond := Cond.code y_Mo_number b_Mo_number 5 (some .int) :: xTbl
theorem lk_Mo_95 : xLk "RosterRulesModel" 95 12 45 := ⟨RC_12, TC_12, 65, rfl, by decide, iC_12, Or.inl wd_5_21⟩
theorem lk_Mo_98 : xLk "RosterRulesModel" 98 12 46 := ⟨RC_12, TC_12, 65, rfl, by decide, iC_12, Or.inl wd_5_22⟩
theorem lk_Mo_101 : xLk "RosterRulesModel" 101 12 47 := ⟨RC_12, TC_12, 65, rfl, by decide, iC_12, Or.inl wd_5_23⟩
theorem lk_Mo_104 : xLk "RosterRulesModel" 104 12 48 := ⟨RC_12, TC_12, 65, rfl, by decide, iC_12, Or.inl wd_5_24⟩
def y_Mo_open : MethodName := ⟨"RosterRulesModel", "open", "(I)V"⟩
abbrev b_Mo_open : ByteArray := prog_14_method_21_code
def ws_Mo_open : List Cond := Cond.code y_Mo_open b_Mo_open 2 none :: xTbl
def y_Mo_letterOf : MethodName := ⟨"RosterRulesModel", "letterOf", "(I)I"⟩
abbrev b_Mo_letterOf : ByteArray := prog_14_method_17_code
def ws_Mo_letterOf : List Cond := Cond.code y_Mo_letterOf b_Mo_letterOf 1 (some .int) :: xTbl
theorem wd_5_234 : Cond.methodLink "RosterRulesModel" 277 ⟨"RosterRulesModel", "letterOf", "(I)I"⟩ ∈ xTbl := xIn_5 (List.mem_of_getElem? (i := 234) (by decide +kernel)) rfl
theorem wd_5_235 : Cond.static ⟨"RosterRulesModel", "letterOf", "(I)I"⟩ ∈ xTbl := xIn_5 (List.mem_of_getElem? (i := 235) (by decide +kernel)) rfl
theorem wd_5_236 : Cond.code ⟨"RosterRulesModel", "letterOf", "(I)I"⟩ prog_14_method_17_code 1 (some FieldType.int) ∈ xTbl := xIn_5 (List.mem_of_getElem? (i := 236) rfl) rfl
theorem gs_Mo_277 : GoodIn xTbl (wsS "RosterRulesModel" 277 y_Mo_letterOf ws_Mo_letterOf) := xGS wd_5_234 wd_5_235 wd_1_14 wd_5_236
theorem hd_Mo_letterOf : y_Mo_letterOf.cls = "RosterRulesModel" ∧ y_Mo_letterOf.cls ≠ "java/lang/invoke/MethodHandle" ∧ y_Mo_letterOf.cls ≠ "java/lang/invoke/VarHandle" ∧ (parseMethodDescriptor y_Mo_letterOf.desc).map (fun d => d.parameters.length) = some 1 := by decide +kernel
def y_Mo_beginsAtom : MethodName := ⟨"RosterRulesModel", "beginsAtom", "(I)Z"⟩
abbrev b_Mo_beginsAtom : ByteArray := prog_14_method_18_code
def ws_Mo_beginsAtom : List Cond := Cond.code y_Mo_beginsAtom b_Mo_beginsAtom 1 (some .boolean) :: xTbl
theorem wd_5_18 : Cond.fieldLink "RosterRulesModel" 247 "RosterRulesModel" "pp" "I" ∈ xTbl := xIn_5 (List.mem_of_getElem? (i := 18) (by decide +kernel)) rfl
theorem lk_Mo_247 : xLk "RosterRulesModel" 247 12 42 := ⟨RC_12, TC_12, 65, rfl, by decide, iC_12, Or.inl wd_5_18⟩
theorem lp_Mo_247 : xLp "RosterRulesModel" 247 12 42 .int := ⟨RC_12, TC_12, 65, yC_12, rfl, by decide, iC_12, Or.inl wd_5_18, pC_12, nC_12, rfl, by decide +kernel⟩
def y_Mo_set0 : MethodName := ⟨"RosterRulesModel", "set", "()I"⟩
abbrev b_Mo_set0 : ByteArray := prog_14_method_25_code
def ws_Mo_set0 : List Cond := Cond.code y_Mo_set0 b_Mo_set0 3 (some .int) :: xTbl
def y_Mo_few : MethodName := ⟨"RosterRulesModel", "few", "(I)I"⟩
abbrev b_Mo_few : ByteArray := prog_14_method_20_code
def ws_Mo_few : List Cond := Cond.code y_Mo_few b_Mo_few 1 (some .int) :: xTbl
theorem wd_6_5 : Cond.methodLink "RosterRulesModel" 300 ⟨"RosterRulesModel", "few", "(I)I"⟩ ∈ xTbl := xIn_6 (List.mem_of_getElem? (i := 5) (by decide +kernel)) rfl
theorem wd_6_6 : Cond.static ⟨"RosterRulesModel", "few", "(I)I"⟩ ∈ xTbl := xIn_6 (List.mem_of_getElem? (i := 6) (by decide +kernel)) rfl
theorem wd_6_7 : Cond.code ⟨"RosterRulesModel", "few", "(I)I"⟩ prog_14_method_20_code 1 (some FieldType.int) ∈ xTbl := xIn_6 (List.mem_of_getElem? (i := 7) rfl) rfl
theorem gs_Mo_300 : GoodIn xTbl (wsS "RosterRulesModel" 300 y_Mo_few ws_Mo_few) := xGS wd_6_5 wd_6_6 wd_1_14 wd_6_7
theorem hd_Mo_few : y_Mo_few.cls = "RosterRulesModel" ∧ y_Mo_few.cls ≠ "java/lang/invoke/MethodHandle" ∧ y_Mo_few.cls ≠ "java/lang/invoke/VarHandle" ∧ (parseMethodDescriptor y_Mo_few.desc).map (fun d => d.parameters.length) = some 1 := by decide +kernel
def y_Mo_item : MethodName := ⟨"RosterRulesModel", "item", "(II)V"⟩
abbrev b_Mo_item : ByteArray := prog_14_method_22_code
def ws_Mo_item : List Cond := Cond.code y_Mo_item b_Mo_item 3 none :: xTbl
def y_Mo_digit : MethodName := ⟨"RosterRulesModel", "digit", "()I"⟩
abbrev b_Mo_digit : ByteArray := prog_14_method_23_code
def ws_Mo_digit : List Cond := Cond.code y_Mo_digit b_Mo_digit 2 (some .int) :: xTbl
def y_Mo_sign : MethodName := ⟨"RosterRulesModel", "sign", "(I)V"⟩
abbrev b_Mo_sign : ByteArray := prog_14_method_24_code
def ws_Mo_sign : List Cond := Cond.code y_Mo_sign b_Mo_sign 2 none :: xTbl
theorem wd_5_227 : Cond.methodLink "RosterRulesModel" 280 ⟨"RosterRulesModel", "open", "(I)V"⟩ ∈ xTbl := xIn_5 (List.mem_of_getElem? (i := 227) (by decide +kernel)) rfl
theorem wd_5_229 : Cond.instanceMethod ⟨"RosterRulesModel", "open", "(I)V"⟩ ∈ xTbl := xIn_5 (List.mem_of_getElem? (i := 229) (by decide +kernel)) rfl
theorem wz_57 : Cond.selects "RosterRulesModel" ⟨"RosterRulesModel", "open", "(I)V"⟩ ⟨"RosterRulesModel", "open", "(I)V"⟩ ∈ xTbl := List.mem_filter.mpr ⟨List.mem_append_left _ (List.mem_of_getElem? (i := 57) (by decide +kernel)), rfl⟩
theorem wd_5_230 : Cond.code ⟨"RosterRulesModel", "open", "(I)V"⟩ prog_14_method_21_code 2 (none : Option FieldType) ∈ xTbl := xIn_5 (List.mem_of_getElem? (i := 230) rfl) rfl
theorem gv_Mo_280 : GoodIn xTbl (wsV "RosterRulesModel" 280 "RosterRulesModel" y_Mo_open ws_Mo_open) := xGV wd_5_227 wd_5_229 wz_57 wd_1_14 wd_5_230
theorem hd_Mo_open : y_Mo_open.cls = "RosterRulesModel" ∧ y_Mo_open.cls ≠ "java/lang/invoke/MethodHandle" ∧ y_Mo_open.cls ≠ "java/lang/invoke/VarHandle" ∧ (parseMethodDescriptor y_Mo_open.desc).map (fun d => d.parameters.length) = some 1 := by decide +kernel
theorem wd_5_231 : Cond.methodLink "RosterRulesModel" 283 ⟨"RosterRulesModel", "beginsAtom", "(I)Z"⟩ ∈ xTbl := xIn_5 (List.mem_of_getElem? (i := 231) (by decide +kernel)) rfl
theorem wd_5_232 : Cond.static ⟨"RosterRulesModel", "beginsAtom", "(I)Z"⟩ ∈ xTbl := xIn_5 (List.mem_of_getElem? (i := 232) (by decide +kernel)) rfl
theorem wd_5_233 : Cond.code ⟨"RosterRulesModel", "beginsAtom", "(I)Z"⟩ prog_14_method_18_code 1 (some FieldType.boolean) ∈ xTbl := xIn_5 (List.mem_of_getElem? (i := 233) rfl) rfl
theorem gs_Mo_283 : GoodIn xTbl (wsS "RosterRulesModel" 283 y_Mo_beginsAtom ws_Mo_beginsAtom) := xGS wd_5_231 wd_5_232 wd_1_14 wd_5_233
theorem hd_Mo_beginsAtom : y_Mo_beginsAtom.cls = "RosterRulesModel" ∧ y_Mo_beginsAtom.cls ≠ "java/lang/invoke/MethodHandle" ∧ y_Mo_beginsAtom.cls ≠ "java/lang/invoke/VarHandle" ∧ (parseMethodDescriptor y_Mo_beginsAtom.desc).map (fun d => d.parameters.length) = some 1 := by decide +kernel
theorem wd_5_237 : Cond.methodLink "RosterRulesModel" 286 ⟨"RosterRulesModel", "set", "()I"⟩ ∈ xTbl := xIn_5 (List.mem_of_getElem? (i := 237) (by decide +kernel)) rfl
theorem wd_5_239 : Cond.instanceMethod ⟨"RosterRulesModel", "set", "()I"⟩ ∈ xTbl := xIn_5 (List.mem_of_getElem? (i := 239) (by decide +kernel)) rfl
theorem wz_58 : Cond.selects "RosterRulesModel" ⟨"RosterRulesModel", "set", "()I"⟩ ⟨"RosterRulesModel", "set", "()I"⟩ ∈ xTbl := List.mem_filter.mpr ⟨List.mem_append_left _ (List.mem_of_getElem? (i := 58) (by decide +kernel)), rfl⟩
theorem wd_6_0 : Cond.code ⟨"RosterRulesModel", "set", "()I"⟩ prog_14_method_25_code 3 (some FieldType.int) ∈ xTbl := xIn_6 (List.mem_of_getElem? (i := 0) rfl) rfl
theorem gv_Mo_286 : GoodIn xTbl (wsV "RosterRulesModel" 286 "RosterRulesModel" y_Mo_set0 ws_Mo_set0) := xGV wd_5_237 wd_5_239 wz_58 wd_1_14 wd_6_0
theorem hd_Mo_set0 : y_Mo_set0.cls = "RosterRulesModel" ∧ y_Mo_set0.cls ≠ "java/lang/invoke/MethodHandle" ∧ y_Mo_set0.cls ≠ "java/lang/invoke/VarHandle" ∧ (parseMethodDescriptor y_Mo_set0.desc).map (fun d => d.parameters.length) = some 0 := by decide +kernel
theorem wd_6_1 : Cond.methodLink "RosterRulesModel" 290 ⟨"RosterRulesModel", "item", "(II)V"⟩ ∈ xTbl := xIn_6 (List.mem_of_getElem? (i := 1) (by decide +kernel)) rfl
theorem wd_6_3 : Cond.instanceMethod ⟨"RosterRulesModel", "item", "(II)V"⟩ ∈ xTbl := xIn_6 (List.mem_of_getElem? (i := 3) (by decide +kernel)) rfl
theorem wz_59 : Cond.selects "RosterRulesModel" ⟨"RosterRulesModel", "item", "(II)V"⟩ ⟨"RosterRulesModel", "item", "(II)V"⟩ ∈ xTbl := List.mem_filter.mpr ⟨List.mem_append_left _ (List.mem_of_getElem? (i := 59) (by decide +kernel)), rfl⟩
theorem wd_6_4 : Cond.code ⟨"RosterRulesModel", "item", "(II)V"⟩ prog_14_method_22_code 3 (none : Option FieldType) ∈ xTbl := xIn_6 (List.mem_of_getElem? (i := 4) rfl) rfl
theorem gv_Mo_290 : GoodIn xTbl (wsV "RosterRulesModel" 290 "RosterRulesModel" y_Mo_item ws_Mo_item) := xGV wd_6_1 wd_6_3 wz_59 wd_1_14 wd_6_4
theorem hd_Mo_item : y_Mo_item.cls = "RosterRulesModel" ∧ y_Mo_item.cls ≠ "java/lang/invoke/MethodHandle" ∧ y_Mo_item.cls ≠ "java/lang/invoke/VarHandle" ∧ (parseMethodDescriptor y_Mo_item.desc).map (fun d => d.parameters.length) = some 2 := by decide +kernel
theorem wd_6_8 : Cond.methodLink "RosterRulesModel" 294 ⟨"RosterRulesModel", "digit", "()I"⟩ ∈ xTbl := xIn_6 (List.mem_of_getElem? (i := 8) (by decide +kernel)) rfl
theorem wd_6_10 : Cond.instanceMethod ⟨"RosterRulesModel", "digit", "()I"⟩ ∈ xTbl := xIn_6 (List.mem_of_getElem? (i := 10) (by decide +kernel)) rfl
theorem wz_60 : Cond.selects "RosterRulesModel" ⟨"RosterRulesModel", "digit", "()I"⟩ ⟨"RosterRulesModel", "digit", "()I"⟩ ∈ xTbl := List.mem_filter.mpr ⟨List.mem_append_left _ (List.mem_of_getElem? (i := 60) (by decide +kernel)), rfl⟩
theorem wd_6_11 : Cond.code ⟨"RosterRulesModel", "digit", "()I"⟩ prog_14_method_23_code 2 (some FieldType.int) ∈ xTbl := xIn_6 (List.mem_of_getElem? (i := 11) rfl) rfl
theorem gv_Mo_294 : GoodIn xTbl (wsV "RosterRulesModel" 294 "RosterRulesModel" y_Mo_digit ws_Mo_digit) := xGV wd_6_8 wd_6_10 wz_60 wd_1_14 wd_6_11
theorem hd_Mo_digit : y_Mo_digit.cls = "RosterRulesModel" ∧ y_Mo_digit.cls ≠ "java/lang/invoke/MethodHandle" ∧ y_Mo_digit.cls ≠ "java/lang/invoke/VarHandle" ∧ (parseMethodDescriptor y_Mo_digit.desc).map (fun d => d.parameters.length) = some 0 := by decide +kernel
theorem wd_6_12 : Cond.methodLink "RosterRulesModel" 297 ⟨"RosterRulesModel", "sign", "(I)V"⟩ ∈ xTbl := xIn_6 (List.mem_of_getElem? (i := 12) (by decide +kernel)) rfl
theorem wd_6_14 : Cond.instanceMethod ⟨"RosterRulesModel", "sign", "(I)V"⟩ ∈ xTbl := xIn_6 (List.mem_of_getElem? (i := 14) (by decide +kernel)) rfl
theorem wz_61 : Cond.selects "RosterRulesModel" ⟨"RosterRulesModel", "sign", "(I)V"⟩ ⟨"RosterRulesModel", "sign", "(I)V"⟩ ∈ xTbl := List.mem_filter.mpr ⟨List.mem_append_left _ (List.mem_of_getElem? (i := 61) (by decide +kernel)), rfl⟩
theorem wd_6_15 : Cond.code ⟨"RosterRulesModel", "sign", "(I)V"⟩ prog_14_method_24_code 2 (none : Option FieldType) ∈ xTbl := xIn_6 (List.mem_of_getElem? (i := 15) rfl) rfl
theorem gv_Mo_297 : GoodIn xTbl (wsV "RosterRulesModel" 297 "RosterRulesModel" y_Mo_sign ws_Mo_sign) := xGV wd_6_12 wd_6_14 wz_61 wd_1_14 wd_6_15
theorem hd_Mo_sign : y_Mo_sign.cls = "RosterRulesModel" ∧ y_Mo_sign.cls ≠ "java/lang/invoke/MethodHandle" ∧ y_Mo_sign.cls ≠ "java/lang/invoke/VarHandle" ∧ (parseMethodDescriptor y_Mo_sign.desc).map (fun d => d.parameters.length) = some 1 := by decide +kernel
def y_Mo_check : MethodName := ⟨"RosterRulesModel", "check", "(I)I"⟩
abbrev b_Mo_check : ByteArray := prog_14_method_19_code
def ws_Mo_check : List Cond := Cond.code y_Mo_check b_Mo_check 8 (some .int) :: xTbl
theorem lk_Mo_117 : xLk "RosterRulesModel" 117 12 52 := ⟨RC_12, TC_12, 65, rfl, by decide, iC_12, Or.inl wd_5_28⟩
theorem lk_Mo_120 : xLk "RosterRulesModel" 120 12 53 := ⟨RC_12, TC_12, 65, rfl, by decide, iC_12, Or.inl wd_5_29⟩
theorem lk_Mo_126 : xLk "RosterRulesModel" 126 12 55 := ⟨RC_12, TC_12, 65, rfl, by decide, iC_12, Or.inl wd_5_31⟩
theorem wd_5_19 : Cond.fieldLink "RosterRulesModel" 256 "RosterRulesModel" "used" "I" ∈ xTbl := xIn_5 (List.mem_of_getElem? (i := 19) (by decide +kernel)) rfl
theorem lk_Mo_256 : xLk "RosterRulesModel" 256 12 43 := ⟨RC_12, TC_12, 65, rfl, by decide, iC_12, Or.inl wd_5_19⟩
def y_Mo_begin : MethodName := ⟨"RosterRulesModel", "begin", "(I)V"⟩
abbrev b_Mo_begin : ByteArray := prog_14_method_32_code
def ws_Mo_begin : List Cond := Cond.code y_Mo_begin b_Mo_begin 2 none :: xTbl
theorem wd_6_35 : Cond.constantLong "RosterRulesModel" 305 65535 ∈ xTbl := xIn_6 (List.mem_of_getElem? (i := 35) (by decide +kernel)) rfl
def y_Mo_lastOf : MethodName := ⟨"RosterRulesModel", "lastOf", "(J)I"⟩
abbrev b_Mo_lastOf : ByteArray := prog_14_method_28_code
def ws_Mo_lastOf : List Cond := Cond.code y_Mo_lastOf b_Mo_lastOf 2 (some .int) :: xTbl
def y_Mo_firstOf : MethodName := ⟨"RosterRulesModel", "firstOf", "(J)I"⟩
abbrev b_Mo_firstOf : ByteArray := prog_14_method_27_code
def ws_Mo_firstOf : List Cond := Cond.code y_Mo_firstOf b_Mo_firstOf 2 (some .int) :: xTbl
theorem lk_Mo_66 : xLk "RosterRulesModel" 66 12 22 := ⟨RC_12, TC_12, 65, rfl, by decide, iC_12, Or.inl wd_4_239⟩
theorem wd_5_20 : Cond.fieldLink "RosterRulesModel" 253 "RosterRulesModel" "own" "I" ∈ xTbl := xIn_5 (List.mem_of_getElem? (i := 20) (by decide +kernel)) rfl
theorem lk_Mo_253 : xLk "RosterRulesModel" 253 12 44 := ⟨RC_12, TC_12, 65, rfl, by decide, iC_12, Or.inl wd_5_20⟩
def y_Mo_join : MethodName := ⟨"RosterRulesModel", "join", "(II)V"⟩
abbrev b_Mo_join : ByteArray := prog_14_method_30_code
def ws_Mo_join : List Cond := Cond.code y_Mo_join b_Mo_join 4 none :: xTbl
def y_Mo_noneOf : MethodName := ⟨"RosterRulesModel", "noneOf", "(J)Z"⟩
abbrev b_Mo_noneOf : ByteArray := prog_14_method_29_code
def ws_Mo_noneOf : List Cond := Cond.code y_Mo_noneOf b_Mo_noneOf 2 (some .boolean) :: xTbl
theorem wd_6_49 : Cond.constantLong "RosterRulesModel" 303 4294967296 ∈ xTbl := xIn_6 (List.mem_of_getElem? (i := 49) (by decide +kernel)) rfl
def y_Mo_part : MethodName := ⟨"RosterRulesModel", "part", "(IIZ)J"⟩
abbrev b_Mo_part : ByteArray := prog_14_method_26_code
def ws_Mo_part : List Cond := Cond.code y_Mo_part b_Mo_part 3 (some .long) :: xTbl
theorem wd_6_32 : Cond.methodLink "RosterRulesModel" 267 ⟨"RosterRulesModel", "lastOf", "(J)I"⟩ ∈ xTbl := xIn_6 (List.mem_of_getElem? (i := 32) (by decide +kernel)) rfl
theorem wd_6_33 : Cond.static ⟨"RosterRulesModel", "lastOf", "(J)I"⟩ ∈ xTbl := xIn_6 (List.mem_of_getElem? (i := 33) (by decide +kernel)) rfl
theorem wd_6_34 : Cond.code ⟨"RosterRulesModel", "lastOf", "(J)I"⟩ prog_14_method_28_code 2 (some FieldType.int) ∈ xTbl := xIn_6 (List.mem_of_getElem? (i := 34) rfl) rfl
theorem gs_Mo_267 : GoodIn xTbl (wsS "RosterRulesModel" 267 y_Mo_lastOf ws_Mo_lastOf) := xGS wd_6_32 wd_6_33 wd_1_14 wd_6_34
theorem hd_Mo_lastOf : y_Mo_lastOf.cls = "RosterRulesModel" ∧ y_Mo_lastOf.cls ≠ "java/lang/invoke/MethodHandle" ∧ y_Mo_lastOf.cls ≠ "java/lang/invoke/VarHandle" ∧ (parseMethodDescriptor y_Mo_lastOf.desc).map (fun d => d.parameters.length) = some 1 := by decide +kernel
theorem wd_6_36 : Cond.methodLink "RosterRulesModel" 263 ⟨"RosterRulesModel", "firstOf", "(J)I"⟩ ∈ xTbl := xIn_6 (List.mem_of_getElem? (i := 36) (by decide +kernel)) rfl
theorem wd_6_37 : Cond.static ⟨"RosterRulesModel", "firstOf", "(J)I"⟩ ∈ xTbl := xIn_6 (List.mem_of_getElem? (i := 37) (by decide +kernel)) rfl
theorem wd_6_38 : Cond.code ⟨"RosterRulesModel", "firstOf", "(J)I"⟩ prog_14_method_27_code 2 (some FieldType.int) ∈ xTbl := xIn_6 (List.mem_of_getElem? (i := 38) rfl) rfl
theorem gs_Mo_263 : GoodIn xTbl (wsS "RosterRulesModel" 263 y_Mo_firstOf ws_Mo_firstOf) := xGS wd_6_36 wd_6_37 wd_1_14 wd_6_38
theorem hd_Mo_firstOf : y_Mo_firstOf.cls = "RosterRulesModel" ∧ y_Mo_firstOf.cls ≠ "java/lang/invoke/MethodHandle" ∧ y_Mo_firstOf.cls ≠ "java/lang/invoke/VarHandle" ∧ (parseMethodDescriptor y_Mo_firstOf.desc).map (fun d => d.parameters.length) = some 1 := by decide +kernel
theorem wd_6_39 : Cond.methodLink "RosterRulesModel" 307 ⟨"RosterRulesModel", "join", "(II)V"⟩ ∈ xTbl := xIn_6 (List.mem_of_getElem? (i := 39) (by decide +kernel)) rfl
theorem wd_6_41 : Cond.instanceMethod ⟨"RosterRulesModel", "join", "(II)V"⟩ ∈ xTbl := xIn_6 (List.mem_of_getElem? (i := 41) (by decide +kernel)) rfl
theorem wz_66 : Cond.selects "RosterRulesModel" ⟨"RosterRulesModel", "join", "(II)V"⟩ ⟨"RosterRulesModel", "join", "(II)V"⟩ ∈ xTbl := List.mem_filter.mpr ⟨List.mem_append_left _ (List.mem_of_getElem? (i := 66) (by decide +kernel)), rfl⟩
theorem wd_6_42 : Cond.code ⟨"RosterRulesModel", "join", "(II)V"⟩ prog_14_method_30_code 4 (none : Option FieldType) ∈ xTbl := xIn_6 (List.mem_of_getElem? (i := 42) rfl) rfl
theorem gv_Mo_307 : GoodIn xTbl (wsV "RosterRulesModel" 307 "RosterRulesModel" y_Mo_join ws_Mo_join) := xGV wd_6_39 wd_6_41 wz_66 wd_1_14 wd_6_42
theorem hd_Mo_join : y_Mo_join.cls = "RosterRulesModel" ∧ y_Mo_join.cls ≠ "java/lang/invoke/MethodHandle" ∧ y_Mo_join.cls ≠ "java/lang/invoke/VarHandle" ∧ (parseMethodDescriptor y_Mo_join.desc).map (fun d => d.parameters.length) = some 2 := by decide +kernel
theorem wd_6_43 : Cond.methodLink "RosterRulesModel" 270 ⟨"RosterRulesModel", "noneOf", "(J)Z"⟩ ∈ xTbl := xIn_6 (List.mem_of_getElem? (i := 43) (by decide +kernel)) rfl
theorem wd_6_44 : Cond.static ⟨"RosterRulesModel", "noneOf", "(J)Z"⟩ ∈ xTbl := xIn_6 (List.mem_of_getElem? (i := 44) (by decide +kernel)) rfl
theorem wd_6_45 : Cond.code ⟨"RosterRulesModel", "noneOf", "(J)Z"⟩ prog_14_method_29_code 2 (some FieldType.boolean) ∈ xTbl := xIn_6 (List.mem_of_getElem? (i := 45) rfl) rfl
theorem gs_Mo_270 : GoodIn xTbl (wsS "RosterRulesModel" 270 y_Mo_noneOf ws_Mo_noneOf) := xGS wd_6_43 wd_6_44 wd_1_14 wd_6_45
theorem hd_Mo_noneOf : y_Mo_noneOf.cls = "RosterRulesModel" ∧ y_Mo_noneOf.cls ≠ "java/lang/invoke/MethodHandle" ∧ y_Mo_noneOf.cls ≠ "java/lang/invoke/VarHandle" ∧ (parseMethodDescriptor y_Mo_noneOf.desc).map (fun d => d.parameters.length) = some 1 := by decide +kernel
theorem wd_6_46 : Cond.methodLink "RosterRulesModel" 310 ⟨"RosterRulesModel", "part", "(IIZ)J"⟩ ∈ xTbl := xIn_6 (List.mem_of_getElem? (i := 46) (by decide +kernel)) rfl
theorem wd_6_47 : Cond.static ⟨"RosterRulesModel", "part", "(IIZ)J"⟩ ∈ xTbl := xIn_6 (List.mem_of_getElem? (i := 47) (by decide +kernel)) rfl
theorem wd_6_48 : Cond.code ⟨"RosterRulesModel", "part", "(IIZ)J"⟩ prog_14_method_26_code 3 (some FieldType.long) ∈ xTbl := xIn_6 (List.mem_of_getElem? (i := 48) rfl) rfl
theorem gs_Mo_310 : GoodIn xTbl (wsS "RosterRulesModel" 310 y_Mo_part ws_Mo_part) := xGS wd_6_46 wd_6_47 wd_1_14 wd_6_48
theorem hd_Mo_part : y_Mo_part.cls = "RosterRulesModel" ∧ y_Mo_part.cls ≠ "java/lang/invoke/MethodHandle" ∧ y_Mo_part.cls ≠ "java/lang/invoke/VarHandle" ∧ (parseMethodDescriptor y_Mo_part.desc).map (fun d => d.parameters.length) = some 3 := by decide +kernel
def y_Mo_behind : MethodName := ⟨"RosterRulesModel", "behind", "(JJ)J"⟩
abbrev b_Mo_behind : ByteArray := prog_14_method_31_code
def ws_Mo_behind : List Cond := Cond.code y_Mo_behind b_Mo_behind 5 (some .long) :: xTbl
theorem lk_Mo_111 : xLk "RosterRulesModel" 111 12 50 := ⟨RC_12, TC_12, 65, rfl, by decide, iC_12, Or.inl wd_5_26⟩
theorem lk_Mo_114 : xLk "RosterRulesModel" 114 12 51 := ⟨RC_12, TC_12, 65, rfl, by decide, iC_12, Or.inl wd_5_27⟩
theorem wd_6_28 : Cond.methodLink "RosterRulesModel" 314 ⟨"RosterRulesModel", "behind", "(JJ)J"⟩ ∈ xTbl := xIn_6 (List.mem_of_getElem? (i := 28) (by decide +kernel)) rfl
theorem wd_6_30 : Cond.instanceMethod ⟨"RosterRulesModel", "behind", "(JJ)J"⟩ ∈ xTbl := xIn_6 (List.mem_of_getElem? (i := 30) (by decide +kernel)) rfl
theorem wz_65 : Cond.selects "RosterRulesModel" ⟨"RosterRulesModel", "behind", "(JJ)J"⟩ ⟨"RosterRulesModel", "behind", "(JJ)J"⟩ ∈ xTbl := List.mem_filter.mpr ⟨List.mem_append_left _ (List.mem_of_getElem? (i := 65) (by decide +kernel)), rfl⟩
theorem wd_6_31 : Cond.code ⟨"RosterRulesModel", "behind", "(JJ)J"⟩ prog_14_method_31_code 5 (some FieldType.long) ∈ xTbl := xIn_6 (List.mem_of_getElem? (i := 31) rfl) rfl
theorem gv_Mo_314 : GoodIn xTbl (wsV "RosterRulesModel" 314 "RosterRulesModel" y_Mo_behind ws_Mo_behind) := xGV wd_6_28 wd_6_30 wz_65 wd_1_14 wd_6_31
theorem hd_Mo_behind : y_Mo_behind.cls = "RosterRulesModel" ∧ y_Mo_behind.cls ≠ "java/lang/invoke/MethodHandle" ∧ y_Mo_behind.cls ≠ "java/lang/invoke/VarHandle" ∧ (parseMethodDescriptor y_Mo_behind.desc).map (fun d => d.parameters.length) = some 2 := by decide +kernel
def y_Mo_settle : MethodName := ⟨"RosterRulesModel", "settle", "(I)V"⟩
abbrev b_Mo_settle : ByteArray := prog_14_method_33_code
def ws_Mo_settle : List Cond := Cond.code y_Mo_settle b_Mo_settle 2 none :: xTbl
theorem wd_6_24 : Cond.methodLink "RosterRulesModel" 318 ⟨"RosterRulesModel", "settle", "(I)V"⟩ ∈ xTbl := xIn_6 (List.mem_of_getElem? (i := 24) (by decide +kernel)) rfl
theorem wd_6_26 : Cond.instanceMethod ⟨"RosterRulesModel", "settle", "(I)V"⟩ ∈ xTbl := xIn_6 (List.mem_of_getElem? (i := 26) (by decide +kernel)) rfl
theorem wz_64 : Cond.selects "RosterRulesModel" ⟨"RosterRulesModel", "settle", "(I)V"⟩ ⟨"RosterRulesModel", "settle", "(I)V"⟩ ∈ xTbl := List.mem_filter.mpr ⟨List.mem_append_left _ (List.mem_of_getElem? (i := 64) (by decide +kernel)), rfl⟩
theorem wd_6_27 : Cond.code ⟨"RosterRulesModel", "settle", "(I)V"⟩ prog_14_method_33_code 2 (none : Option FieldType) ∈ xTbl := xIn_6 (List.mem_of_getElem? (i := 27) rfl) rfl
theorem gv_Mo_318 : GoodIn xTbl (wsV "RosterRulesModel" 318 "RosterRulesModel" y_Mo_settle ws_Mo_settle) := xGV wd_6_24 wd_6_26 wz_64 wd_1_14 wd_6_27
theorem hd_Mo_settle : y_Mo_settle.cls = "RosterRulesModel" ∧ y_Mo_settle.cls ≠ "java/lang/invoke/MethodHandle" ∧ y_Mo_settle.cls ≠ "java/lang/invoke/VarHandle" ∧ (parseMethodDescriptor y_Mo_settle.desc).map (fun d => d.parameters.length) = some 1 := by decide +kernel
theorem lk_Mo_107 : xLk "RosterRulesModel" 107 12 49 := ⟨RC_12, TC_12, 65, rfl, by decide, iC_12, Or.inl wd_5_25⟩
def y_Mo_finish : MethodName := ⟨"RosterRulesModel", "finish", "(I)V"⟩
abbrev b_Mo_finish : ByteArray := prog_14_method_34_code
def ws_Mo_finish : List Cond := Cond.code y_Mo_finish b_Mo_finish 6 none :: xTbl
theorem lk_Mo_63 : xLk "RosterRulesModel" 63 12 21 := ⟨RC_12, TC_12, 65, rfl, by decide, iC_12, Or.inl wd_4_238⟩
theorem lp_Mo_256 : xLp "RosterRulesModel" 256 12 43 .int := ⟨RC_12, TC_12, 65, yC_12, rfl, by decide, iC_12, Or.inl wd_5_19, pC_12, nC_12, rfl, by decide +kernel⟩
def y_Mo_often : MethodName := ⟨"RosterRulesModel", "often", "(JI)J"⟩
abbrev b_Mo_often : ByteArray := prog_14_method_36_code
def ws_Mo_often : List Cond := Cond.code y_Mo_often b_Mo_often 13 (some .long) :: xTbl
theorem wd_6_20 : Cond.methodLink "RosterRulesModel" 321 ⟨"RosterRulesModel", "begin", "(I)V"⟩ ∈ xTbl := xIn_6 (List.mem_of_getElem? (i := 20) (by decide +kernel)) rfl
theorem wd_6_22 : Cond.instanceMethod ⟨"RosterRulesModel", "begin", "(I)V"⟩ ∈ xTbl := xIn_6 (List.mem_of_getElem? (i := 22) (by decide +kernel)) rfl
theorem wz_63 : Cond.selects "RosterRulesModel" ⟨"RosterRulesModel", "begin", "(I)V"⟩ ⟨"RosterRulesModel", "begin", "(I)V"⟩ ∈ xTbl := List.mem_filter.mpr ⟨List.mem_append_left _ (List.mem_of_getElem? (i := 63) (by decide +kernel)), rfl⟩
theorem wd_6_23 : Cond.code ⟨"RosterRulesModel", "begin", "(I)V"⟩ prog_14_method_32_code 2 (none : Option FieldType) ∈ xTbl := xIn_6 (List.mem_of_getElem? (i := 23) rfl) rfl
theorem gv_Mo_321 : GoodIn xTbl (wsV "RosterRulesModel" 321 "RosterRulesModel" y_Mo_begin ws_Mo_begin) := xGV wd_6_20 wd_6_22 wz_63 wd_1_14 wd_6_23
theorem hd_Mo_begin : y_Mo_begin.cls = "RosterRulesModel" ∧ y_Mo_begin.cls ≠ "java/lang/invoke/MethodHandle" ∧ y_Mo_begin.cls ≠ "java/lang/invoke/VarHandle" ∧ (parseMethodDescriptor y_Mo_begin.desc).map (fun d => d.parameters.length) = some 1 := by decide +kernel
theorem wd_6_50 : Cond.methodLink "RosterRulesModel" 323 ⟨"RosterRulesModel", "finish", "(I)V"⟩ ∈ xTbl := xIn_6 (List.mem_of_getElem? (i := 50) (by decide +kernel)) rfl
theorem wd_6_52 : Cond.instanceMethod ⟨"RosterRulesModel", "finish", "(I)V"⟩ ∈ xTbl := xIn_6 (List.mem_of_getElem? (i := 52) (by decide +kernel)) rfl
theorem wz_67 : Cond.selects "RosterRulesModel" ⟨"RosterRulesModel", "finish", "(I)V"⟩ ⟨"RosterRulesModel", "finish", "(I)V"⟩ ∈ xTbl := List.mem_filter.mpr ⟨List.mem_append_left _ (List.mem_of_getElem? (i := 67) (by decide +kernel)), rfl⟩
theorem wd_6_53 : Cond.code ⟨"RosterRulesModel", "finish", "(I)V"⟩ prog_14_method_34_code 6 (none : Option FieldType) ∈ xTbl := xIn_6 (List.mem_of_getElem? (i := 53) rfl) rfl
theorem gv_Mo_323 : GoodIn xTbl (wsV "RosterRulesModel" 323 "RosterRulesModel" y_Mo_finish ws_Mo_finish) := xGV wd_6_50 wd_6_52 wz_67 wd_1_14 wd_6_53
theorem hd_Mo_finish : y_Mo_finish.cls = "RosterRulesModel" ∧ y_Mo_finish.cls ≠ "java/lang/invoke/MethodHandle" ∧ y_Mo_finish.cls ≠ "java/lang/invoke/VarHandle" ∧ (parseMethodDescriptor y_Mo_finish.desc).map (fun d => d.parameters.length) = some 1 := by decide +kernel
theorem lk_Mo_123 : xLk "RosterRulesModel" 123 12 54 := ⟨RC_12, TC_12, 65, rfl, by decide, iC_12, Or.inl wd_5_30⟩
theorem wd_6_54 : Cond.methodLink "RosterRulesModel" 326 ⟨"RosterRulesModel", "often", "(JI)J"⟩ ∈ xTbl := xIn_6 (List.mem_of_getElem? (i := 54) (by decide +kernel)) rfl
theorem wd_6_56 : Cond.instanceMethod ⟨"RosterRulesModel", "often", "(JI)J"⟩ ∈ xTbl := xIn_6 (List.mem_of_getElem? (i := 56) (by decide +kernel)) rfl
theorem wz_68 : Cond.selects "RosterRulesModel" ⟨"RosterRulesModel", "often", "(JI)J"⟩ ⟨"RosterRulesModel", "often", "(JI)J"⟩ ∈ xTbl := List.mem_filter.mpr ⟨List.mem_append_left _ (List.mem_of_getElem? (i := 68) (by decide +kernel)), rfl⟩
theorem wd_6_57 : Cond.code ⟨"RosterRulesModel", "often", "(JI)J"⟩ prog_14_method_36_code 13 (some FieldType.long) ∈ xTbl := xIn_6 (List.mem_of_getElem? (i := 57) rfl) rfl
theorem gv_Mo_326 : GoodIn xTbl (wsV "RosterRulesModel" 326 "RosterRulesModel" y_Mo_often ws_Mo_often) := xGV wd_6_54 wd_6_56 wz_68 wd_1_14 wd_6_57
theorem hd_Mo_often : y_Mo_often.cls = "RosterRulesModel" ∧ y_Mo_often.cls ≠ "java/lang/invoke/MethodHandle" ∧ y_Mo_often.cls ≠ "java/lang/invoke/VarHandle" ∧ (parseMethodDescriptor y_Mo_often.desc).map (fun d => d.parameters.length) = some 2 := by decide +kernel
def y_Mo_build : MethodName := ⟨"RosterRulesModel", "build", "(I)J"⟩
abbrev b_Mo_build : ByteArray := prog_14_method_35_code
def ws_Mo_build : List Cond := Cond.code y_Mo_build b_Mo_build 5 (some .long) :: xTbl
theorem lk_Mo_76 : xLk "RosterRulesModel" 76 12 25 := ⟨RC_12, TC_12, 65, rfl, by decide, iC_12, Or.inl wd_5_2⟩
def y_Mo_lead : MethodName := ⟨"RosterRulesModel", "lead", "(III)I"⟩
abbrev b_Mo_lead : ByteArray := prog_14_method_37_code
def ws_Mo_lead : List Cond := Cond.code y_Mo_lead b_Mo_lead 7 (some .int) :: xTbl
theorem lk_Mo_132 : xLk "RosterRulesModel" 132 12 57 := ⟨RC_12, TC_12, 65, rfl, by decide, iC_12, Or.inl wd_5_33⟩
def y_Mo_idOf : MethodName := ⟨"RosterRulesModel", "idOf", "(I)I"⟩
abbrev b_Mo_idOf : ByteArray := prog_14_method_39_code
def ws_Mo_idOf : List Cond := Cond.code y_Mo_idOf b_Mo_idOf 2 (some .int) :: xTbl
theorem lk_Mo_69 : xLk "RosterRulesModel" 69 12 23 := ⟨RC_12, TC_12, 65, rfl, by decide, iC_12, Or.inl wd_5_0⟩
theorem lk_Mo_72 : xLk "RosterRulesModel" 72 12 24 := ⟨RC_12, TC_12, 65, rfl, by decide, iC_12, Or.inl wd_5_1⟩
def y_Mo_isEnd : MethodName := ⟨"RosterRulesModel", "isEnd", "(II)Z"⟩
abbrev b_Mo_isEnd : ByteArray := prog_14_method_38_code
def ws_Mo_isEnd : List Cond := Cond.code y_Mo_isEnd b_Mo_isEnd 3 (some .boolean) :: xTbl
theorem lk_Mo_138 : xLk "RosterRulesModel" 138 12 59 := ⟨RC_12, TC_12, 65, rfl, by decide, iC_12, Or.inl wd_5_35⟩
theorem lk_Mo_135 : xLk "RosterRulesModel" 135 12 58 := ⟨RC_12, TC_12, 65, rfl, by decide, iC_12, Or.inl wd_5_34⟩
def y_Mo_goesAlike : MethodName := ⟨"RosterRulesModel", "goesAlike", "(II)Z"⟩
abbrev b_Mo_goesAlike : ByteArray := prog_14_method_42_code
def ws_Mo_goesAlike : List Cond := Cond.code y_Mo_goesAlike b_Mo_goesAlike 5 (some .boolean) :: xTbl
theorem lk_Mo_144 : xLk "RosterRulesModel" 144 12 61 := ⟨RC_12, TC_12, 65, rfl, by decide, iC_12, Or.inl wd_5_37⟩
theorem wd_6_78 : Cond.methodLink "RosterRulesModel" 344 ⟨"RosterRulesModel", "goesAlike", "(II)Z"⟩ ∈ xTbl := xIn_6 (List.mem_of_getElem? (i := 78) (by decide +kernel)) rfl
theorem wd_6_80 : Cond.instanceMethod ⟨"RosterRulesModel", "goesAlike", "(II)Z"⟩ ∈ xTbl := xIn_6 (List.mem_of_getElem? (i := 80) (by decide +kernel)) rfl
theorem wz_74 : Cond.selects "RosterRulesModel" ⟨"RosterRulesModel", "goesAlike", "(II)Z"⟩ ⟨"RosterRulesModel", "goesAlike", "(II)Z"⟩ ∈ xTbl := List.mem_filter.mpr ⟨List.mem_append_left _ (List.mem_of_getElem? (i := 74) (by decide +kernel)), rfl⟩
theorem wd_6_81 : Cond.code ⟨"RosterRulesModel", "goesAlike", "(II)Z"⟩ prog_14_method_42_code 5 (some FieldType.boolean) ∈ xTbl := xIn_6 (List.mem_of_getElem? (i := 81) rfl) rfl
theorem gv_Mo_344 : GoodIn xTbl (wsV "RosterRulesModel" 344 "RosterRulesModel" y_Mo_goesAlike ws_Mo_goesAlike) := xGV wd_6_78 wd_6_80 wz_74 wd_1_14 wd_6_81
theorem hd_Mo_goesAlike : y_Mo_goesAlike.cls = "RosterRulesModel" ∧ y_Mo_goesAlike.cls ≠ "java/lang/invoke/MethodHandle" ∧ y_Mo_goesAlike.cls ≠ "java/lang/invoke/VarHandle" ∧ (parseMethodDescriptor y_Mo_goesAlike.desc).map (fun d => d.parameters.length) = some 2 := by decide +kernel
theorem lk_Mo_141 : xLk "RosterRulesModel" 141 12 60 := ⟨RC_12, TC_12, 65, rfl, by decide, iC_12, Or.inl wd_5_36⟩
def y_Mo_refine : MethodName := ⟨"RosterRulesModel", "refine", "(I)I"⟩
abbrev b_Mo_refine : ByteArray := prog_14_method_41_code
def ws_Mo_refine : List Cond := Cond.code y_Mo_refine b_Mo_refine 5 (some .int) :: xTbl
theorem lk_Mo_147 : xLk "RosterRulesModel" 147 12 62 := ⟨RC_12, TC_12, 65, rfl, by decide, iC_12, Or.inl wd_5_38⟩
theorem lk_Mo_86 : xLk "RosterRulesModel" 86 12 28 := ⟨RC_12, TC_12, 65, rfl, by decide, iC_12, Or.inl wd_5_5⟩
theorem lk_Mo_129 : xLk "RosterRulesModel" 129 12 56 := ⟨RC_12, TC_12, 65, rfl, by decide, iC_12, Or.inl wd_5_32⟩
theorem wd_6_70 : Cond.methodLink "RosterRulesModel" 335 ⟨"RosterRulesModel", "isEnd", "(II)Z"⟩ ∈ xTbl := xIn_6 (List.mem_of_getElem? (i := 70) (by decide +kernel)) rfl
theorem wd_6_72 : Cond.instanceMethod ⟨"RosterRulesModel", "isEnd", "(II)Z"⟩ ∈ xTbl := xIn_6 (List.mem_of_getElem? (i := 72) (by decide +kernel)) rfl
theorem wz_72 : Cond.selects "RosterRulesModel" ⟨"RosterRulesModel", "isEnd", "(II)Z"⟩ ⟨"RosterRulesModel", "isEnd", "(II)Z"⟩ ∈ xTbl := List.mem_filter.mpr ⟨List.mem_append_left _ (List.mem_of_getElem? (i := 72) (by decide +kernel)), rfl⟩
theorem wd_6_73 : Cond.code ⟨"RosterRulesModel", "isEnd", "(II)Z"⟩ prog_14_method_38_code 3 (some FieldType.boolean) ∈ xTbl := xIn_6 (List.mem_of_getElem? (i := 73) rfl) rfl
theorem gv_Mo_335 : GoodIn xTbl (wsV "RosterRulesModel" 335 "RosterRulesModel" y_Mo_isEnd ws_Mo_isEnd) := xGV wd_6_70 wd_6_72 wz_72 wd_1_14 wd_6_73
theorem hd_Mo_isEnd : y_Mo_isEnd.cls = "RosterRulesModel" ∧ y_Mo_isEnd.cls ≠ "java/lang/invoke/MethodHandle" ∧ y_Mo_isEnd.cls ≠ "java/lang/invoke/VarHandle" ∧ (parseMethodDescriptor y_Mo_isEnd.desc).map (fun d => d.parameters.length) = some 2 := by decide +kernel
theorem lk_Mo_83 : xLk "RosterRulesModel" 83 12 27 := ⟨RC_12, TC_12, 65, rfl, by decide, iC_12, Or.inl wd_5_4⟩
theorem lk_Mo_79 : xLk "RosterRulesModel" 79 12 26 := ⟨RC_12, TC_12, 65, rfl, by decide, iC_12, Or.inl wd_5_3⟩
def y_Mo_lay : MethodName := ⟨"RosterRulesModel", "lay", "(II)V"⟩
abbrev b_Mo_lay : ByteArray := prog_14_method_43_code
def ws_Mo_lay : List Cond := Cond.code y_Mo_lay b_Mo_lay 8 none :: xTbl
theorem wd_6_62 : Cond.methodLink "RosterRulesModel" 330 ⟨"RosterRulesModel", "lead", "(III)I"⟩ ∈ xTbl := xIn_6 (List.mem_of_getElem? (i := 62) (by decide +kernel)) rfl
theorem wd_6_64 : Cond.instanceMethod ⟨"RosterRulesModel", "lead", "(III)I"⟩ ∈ xTbl := xIn_6 (List.mem_of_getElem? (i := 64) (by decide +kernel)) rfl
theorem wz_70 : Cond.selects "RosterRulesModel" ⟨"RosterRulesModel", "lead", "(III)I"⟩ ⟨"RosterRulesModel", "lead", "(III)I"⟩ ∈ xTbl := List.mem_filter.mpr ⟨List.mem_append_left _ (List.mem_of_getElem? (i := 70) (by decide +kernel)), rfl⟩
theorem wd_6_65 : Cond.code ⟨"RosterRulesModel", "lead", "(III)I"⟩ prog_14_method_37_code 7 (some FieldType.int) ∈ xTbl := xIn_6 (List.mem_of_getElem? (i := 65) rfl) rfl
theorem gv_Mo_330 : GoodIn xTbl (wsV "RosterRulesModel" 330 "RosterRulesModel" y_Mo_lead ws_Mo_lead) := xGV wd_6_62 wd_6_64 wz_70 wd_1_14 wd_6_65
theorem hd_Mo_lead : y_Mo_lead.cls = "RosterRulesModel" ∧ y_Mo_lead.cls ≠ "java/lang/invoke/MethodHandle" ∧ y_Mo_lead.cls ≠ "java/lang/invoke/VarHandle" ∧ (parseMethodDescriptor y_Mo_lead.desc).map (fun d => d.parameters.length) = some 3 := by decide +kernel
theorem wd_6_66 : Cond.methodLink "RosterRulesModel" 333 ⟨"RosterRulesModel", "idOf", "(I)I"⟩ ∈ xTbl := xIn_6 (List.mem_of_getElem? (i := 66) (by decide +kernel)) rfl
theorem wd_6_68 : Cond.instanceMethod ⟨"RosterRulesModel", "idOf", "(I)I"⟩ ∈ xTbl := xIn_6 (List.mem_of_getElem? (i := 68) (by decide +kernel)) rfl
theorem wz_71 : Cond.selects "RosterRulesModel" ⟨"RosterRulesModel", "idOf", "(I)I"⟩ ⟨"RosterRulesModel", "idOf", "(I)I"⟩ ∈ xTbl := List.mem_filter.mpr ⟨List.mem_append_left _ (List.mem_of_getElem? (i := 71) (by decide +kernel)), rfl⟩
theorem wd_6_69 : Cond.code ⟨"RosterRulesModel", "idOf", "(I)I"⟩ prog_14_method_39_code 2 (some FieldType.int) ∈ xTbl := xIn_6 (List.mem_of_getElem? (i := 69) rfl) rfl
theorem gv_Mo_333 : GoodIn xTbl (wsV "RosterRulesModel" 333 "RosterRulesModel" y_Mo_idOf ws_Mo_idOf) := xGV wd_6_66 wd_6_68 wz_71 wd_1_14 wd_6_69
theorem hd_Mo_idOf : y_Mo_idOf.cls = "RosterRulesModel" ∧ y_Mo_idOf.cls ≠ "java/lang/invoke/MethodHandle" ∧ y_Mo_idOf.cls ≠ "java/lang/invoke/VarHandle" ∧ (parseMethodDescriptor y_Mo_idOf.desc).map (fun d => d.parameters.length) = some 1 := by decide +kernel
theorem wd_6_74 : Cond.methodLink "RosterRulesModel" 338 ⟨"RosterRulesModel", "refine", "(I)I"⟩ ∈ xTbl := xIn_6 (List.mem_of_getElem? (i := 74) (by decide +kernel)) rfl
theorem wd_6_76 : Cond.instanceMethod ⟨"RosterRulesModel", "refine", "(I)I"⟩ ∈ xTbl := xIn_6 (List.mem_of_getElem? (i := 76) (by decide +kernel)) rfl
theorem wz_73 : Cond.selects "RosterRulesModel" ⟨"RosterRulesModel", "refine", "(I)I"⟩ ⟨"RosterRulesModel", "refine", "(I)I"⟩ ∈ xTbl := List.mem_filter.mpr ⟨List.mem_append_left _ (List.mem_of_getElem? (i := 73) (by decide +kernel)), rfl⟩
theorem wd_6_77 : Cond.code ⟨"RosterRulesModel", "refine", "(I)I"⟩ prog_14_method_41_code 5 (some FieldType.int) ∈ xTbl := xIn_6 (List.mem_of_getElem? (i := 77) rfl) rfl
theorem gv_Mo_338 : GoodIn xTbl (wsV "RosterRulesModel" 338 "RosterRulesModel" y_Mo_refine ws_Mo_refine) := xGV wd_6_74 wd_6_76 wz_73 wd_1_14 wd_6_77
theorem hd_Mo_refine : y_Mo_refine.cls = "RosterRulesModel" ∧ y_Mo_refine.cls ≠ "java/lang/invoke/MethodHandle" ∧ y_Mo_refine.cls ≠ "java/lang/invoke/VarHandle" ∧ (parseMethodDescriptor y_Mo_refine.desc).map (fun d => d.parameters.length) = some 1 := by decide +kernel
theorem wd_6_82 : Cond.methodLink "RosterRulesModel" 341 ⟨"RosterRulesModel", "lay", "(II)V"⟩ ∈ xTbl := xIn_6 (List.mem_of_getElem? (i := 82) (by decide +kernel)) rfl
theorem wd_6_84 : Cond.instanceMethod ⟨"RosterRulesModel", "lay", "(II)V"⟩ ∈ xTbl := xIn_6 (List.mem_of_getElem? (i := 84) (by decide +kernel)) rfl
theorem wz_75 : Cond.selects "RosterRulesModel" ⟨"RosterRulesModel", "lay", "(II)V"⟩ ⟨"RosterRulesModel", "lay", "(II)V"⟩ ∈ xTbl := List.mem_filter.mpr ⟨List.mem_append_left _ (List.mem_of_getElem? (i := 75) (by decide +kernel)), rfl⟩
theorem wd_6_85 : Cond.code ⟨"RosterRulesModel", "lay", "(II)V"⟩ prog_14_method_43_code 8 (none : Option FieldType) ∈ xTbl := xIn_6 (List.mem_of_getElem? (i := 85) rfl) rfl
theorem gv_Mo_341 : GoodIn xTbl (wsV "RosterRulesModel" 341 "RosterRulesModel" y_Mo_lay ws_Mo_lay) := xGV wd_6_82 wd_6_84 wz_75 wd_1_14 wd_6_85
theorem hd_Mo_lay : y_Mo_lay.cls = "RosterRulesModel" ∧ y_Mo_lay.cls ≠ "java/lang/invoke/MethodHandle" ∧ y_Mo_lay.cls ≠ "java/lang/invoke/VarHandle" ∧ (parseMethodDescriptor y_Mo_lay.desc).map (fun d => d.parameters.length) = some 2 := by decide +kernel
def y_Mo_automaton : MethodName := ⟨"RosterRulesModel", "automaton", "(I)V"⟩
abbrev b_Mo_automaton : ByteArray := prog_14_method_40_code
def ws_Mo_automaton : List Cond := Cond.code y_Mo_automaton b_Mo_automaton 6 none :: xTbl
theorem wd_5_223 : Cond.methodLink "RosterRulesModel" 250 ⟨"RosterRulesModel", "check", "(I)I"⟩ ∈ xTbl := xIn_5 (List.mem_of_getElem? (i := 223) (by decide +kernel)) rfl
theorem wd_5_225 : Cond.instanceMethod ⟨"RosterRulesModel", "check", "(I)I"⟩ ∈ xTbl := xIn_5 (List.mem_of_getElem? (i := 225) (by decide +kernel)) rfl
theorem wz_56 : Cond.selects "RosterRulesModel" ⟨"RosterRulesModel", "check", "(I)I"⟩ ⟨"RosterRulesModel", "check", "(I)I"⟩ ∈ xTbl := List.mem_filter.mpr ⟨List.mem_append_left _ (List.mem_of_getElem? (i := 56) (by decide +kernel)), rfl⟩
theorem wd_5_226 : Cond.code ⟨"RosterRulesModel", "check", "(I)I"⟩ prog_14_method_19_code 8 (some FieldType.int) ∈ xTbl := xIn_5 (List.mem_of_getElem? (i := 226) rfl) rfl
theorem gv_Mo_250 : GoodIn xTbl (wsV "RosterRulesModel" 250 "RosterRulesModel" y_Mo_check ws_Mo_check) := xGV wd_5_223 wd_5_225 wz_56 wd_1_14 wd_5_226
theorem hd_Mo_check : y_Mo_check.cls = "RosterRulesModel" ∧ y_Mo_check.cls ≠ "java/lang/invoke/MethodHandle" ∧ y_Mo_check.cls ≠ "java/lang/invoke/VarHandle" ∧ (parseMethodDescriptor y_Mo_check.desc).map (fun d => d.parameters.length) = some 1 := by decide +kernel
theorem wd_5_17 : Cond.fieldLink "RosterRulesModel" 212 "RosterRulesModel" "stores" "Z" ∈ xTbl := xIn_5 (List.mem_of_getElem? (i := 17) (by decide +kernel)) rfl
theorem lk_Mo_212 : xLk "RosterRulesModel" 212 12 41 := ⟨RC_12, TC_12, 65, rfl, by decide, iC_12, Or.inl wd_5_17⟩
theorem lp_Mo_253 : xLp "RosterRulesModel" 253 12 44 .int := ⟨RC_12, TC_12, 65, yC_12, rfl, by decide, iC_12, Or.inl wd_5_20, pC_12, nC_12, rfl, by decide +kernel⟩
theorem wd_6_16 : Cond.methodLink "RosterRulesModel" 259 ⟨"RosterRulesModel", "build", "(I)J"⟩ ∈ xTbl := xIn_6 (List.mem_of_getElem? (i := 16) (by decide +kernel)) rfl
theorem wd_6_18 : Cond.instanceMethod ⟨"RosterRulesModel", "build", "(I)J"⟩ ∈ xTbl := xIn_6 (List.mem_of_getElem? (i := 18) (by decide +kernel)) rfl
theorem wz_62 : Cond.selects "RosterRulesModel" ⟨"RosterRulesModel", "build", "(I)J"⟩ ⟨"RosterRulesModel", "build", "(I)J"⟩ ∈ xTbl := List.mem_filter.mpr ⟨List.mem_append_left _ (List.mem_of_getElem? (i := 62) (by decide +kernel)), rfl⟩
theorem wd_6_19 : Cond.code ⟨"RosterRulesModel", "build", "(I)J"⟩ prog_14_method_35_code 5 (some FieldType.long) ∈ xTbl := xIn_6 (List.mem_of_getElem? (i := 19) rfl) rfl
theorem gv_Mo_259 : GoodIn xTbl (wsV "RosterRulesModel" 259 "RosterRulesModel" y_Mo_build ws_Mo_build) := xGV wd_6_16 wd_6_18 wz_62 wd_1_14 wd_6_19
theorem hd_Mo_build : y_Mo_build.cls = "RosterRulesModel" ∧ y_Mo_build.cls ≠ "java/lang/invoke/MethodHandle" ∧ y_Mo_build.cls ≠ "java/lang/invoke/VarHandle" ∧ (parseMethodDescriptor y_Mo_build.desc).map (fun d => d.parameters.length) = some 1 := by decide +kernel
theorem wd_6_58 : Cond.methodLink "RosterRulesModel" 274 ⟨"RosterRulesModel", "automaton", "(I)V"⟩ ∈ xTbl := xIn_6 (List.mem_of_getElem? (i := 58) (by decide +kernel)) rfl
theorem wd_6_60 : Cond.instanceMethod ⟨"RosterRulesModel", "automaton", "(I)V"⟩ ∈ xTbl := xIn_6 (List.mem_of_getElem? (i := 60) (by decide +kernel)) rfl
theorem wz_69 : Cond.selects "RosterRulesModel" ⟨"RosterRulesModel", "automaton", "(I)V"⟩ ⟨"RosterRulesModel", "automaton", "(I)V"⟩ ∈ xTbl := List.mem_filter.mpr ⟨List.mem_append_left _ (List.mem_of_getElem? (i := 69) (by decide +kernel)), rfl⟩
theorem wd_6_61 : Cond.code ⟨"RosterRulesModel", "automaton", "(I)V"⟩ prog_14_method_40_code 6 (none : Option FieldType) ∈ xTbl := xIn_6 (List.mem_of_getElem? (i := 61) rfl) rfl
theorem gv_Mo_274 : GoodIn xTbl (wsV "RosterRulesModel" 274 "RosterRulesModel" y_Mo_automaton ws_Mo_automaton) := xGV wd_6_58 wd_6_60 wz_69 wd_1_14 wd_6_61
theorem hd_Mo_automaton : y_Mo_automaton.cls = "RosterRulesModel" ∧ y_Mo_automaton.cls ≠ "java/lang/invoke/MethodHandle" ∧ y_Mo_automaton.cls ≠ "java/lang/invoke/VarHandle" ∧ (parseMethodDescriptor y_Mo_automaton.desc).map (fun d => d.parameters.length) = some 1 := by decide +kernel
def y_Mo_pattern : MethodName := ⟨"RosterRulesModel", "pattern", "(I)V"⟩
abbrev b_Mo_pattern : ByteArray := prog_14_method_16_code
def ws_Mo_pattern : List Cond := Cond.code y_Mo_pattern b_Mo_pattern 7 none :: xTbl
theorem wd_5_207 : Cond.constantLong "RosterRulesModel" 226 495723310188 ∈ xTbl := xIn_5 (List.mem_of_getElem? (i := 207) (by decide +kernel)) rfl
theorem wd_5_214 : Cond.methodLink "RosterRulesModel" 240 ⟨"RosterRulesModel", "number", "(II)I"⟩ ∈ xTbl := xIn_5 (List.mem_of_getElem? (i := 214) (by decide +kernel)) rfl
theorem wd_5_216 : Cond.instanceMethod ⟨"RosterRulesModel", "number", "(II)I"⟩ ∈ xTbl := xIn_5 (List.mem_of_getElem? (i := 216) (by decide +kernel)) rfl
theorem wz_54 : Cond.selects "RosterRulesModel" ⟨"RosterRulesModel", "number", "(II)I"⟩ ⟨"RosterRulesModel", "number", "(II)I"⟩ ∈ xTbl := List.mem_filter.mpr ⟨List.mem_append_left _ (List.mem_of_getElem? (i := 54) (by decide +kernel)), rfl⟩
theorem wd_5_217 : Cond.code ⟨"RosterRulesModel", "number", "(II)I"⟩ prog_14_method_12_code 5 (some FieldType.int) ∈ xTbl := xIn_5 (List.mem_of_getElem? (i := 217) rfl) rfl
theorem gv_Mo_240 : GoodIn xTbl (wsV "RosterRulesModel" 240 "RosterRulesModel" y_Mo_number ws_Mo_number) := xGV wd_5_214 wd_5_216 wz_54 wd_1_14 wd_5_217
theorem hd_Mo_number : y_Mo_number.cls = "RosterRulesModel" ∧ y_Mo_number.cls ≠ "java/lang/invoke/MethodHandle" ∧ y_Mo_number.cls ≠ "java/lang/invoke/VarHandle" ∧ (parseMethodDescriptor y_Mo_number.desc).map (fun d => d.parameters.length) = some 2 := by decide +kernel
theorem lk_Mo_42 : xLk "RosterRulesModel" 42 12 13 := ⟨RC_12, TC_12, 65, rfl, by decide, iC_12, Or.inl wd_4_230⟩
theorem lk_Mo_45 : xLk "RosterRulesModel" 45 12 14 := ⟨RC_12, TC_12, 65, rfl, by decide, iC_12, Or.inl wd_4_231⟩
theorem lk_Mo_48 : xLk "RosterRulesModel" 48 12 15 := ⟨RC_12, TC_12, 65, rfl, by decide, iC_12, Or.inl wd_4_232⟩
theorem lk_Mo_51 : xLk "RosterRulesModel" 51 12 16 := ⟨RC_12, TC_12, 65, rfl, by decide, iC_12, Or.inl wd_4_233⟩
theorem lk_Mo_54 : xLk "RosterRulesModel" 54 12 17 := ⟨RC_12, TC_12, 65, rfl, by decide, iC_12, Or.inl wd_4_234⟩
theorem lk_Mo_57 : xLk "RosterRulesModel" 57 12 18 := ⟨RC_12, TC_12, 65, rfl, by decide, iC_12, Or.inl wd_4_235⟩
theorem lk_Mo_60 : xLk "RosterRulesModel" 60 12 19 := ⟨RC_12, TC_12, 65, rfl, by decide, iC_12, Or.inl wd_4_236⟩
theorem wd_5_218 : Cond.constant "RosterRulesModel" 243 99999 ∈ xTbl := xIn_5 (List.mem_of_getElem? (i := 218) (by decide +kernel)) rfl
theorem wd_5_219 : Cond.methodLink "RosterRulesModel" 244 ⟨"RosterRulesModel", "pattern", "(I)V"⟩ ∈ xTbl := xIn_5 (List.mem_of_getElem? (i := 219) (by decide +kernel)) rfl
theorem wd_5_221 : Cond.instanceMethod ⟨"RosterRulesModel", "pattern", "(I)V"⟩ ∈ xTbl := xIn_5 (List.mem_of_getElem? (i := 221) (by decide +kernel)) rfl
theorem wz_55 : Cond.selects "RosterRulesModel" ⟨"RosterRulesModel", "pattern", "(I)V"⟩ ⟨"RosterRulesModel", "pattern", "(I)V"⟩ ∈ xTbl := List.mem_filter.mpr ⟨List.mem_append_left _ (List.mem_of_getElem? (i := 55) (by decide +kernel)), rfl⟩
theorem wd_5_222 : Cond.code ⟨"RosterRulesModel", "pattern", "(I)V"⟩ prog_14_method_16_code 7 (none : Option FieldType) ∈ xTbl := xIn_5 (List.mem_of_getElem? (i := 222) rfl) rfl
theorem gv_Mo_244 : GoodIn xTbl (wsV "RosterRulesModel" 244 "RosterRulesModel" y_Mo_pattern ws_Mo_pattern) := xGV wd_5_219 wd_5_221 wz_55 wd_1_14 wd_5_222
theorem hd_Mo_pattern : y_Mo_pattern.cls = "RosterRulesModel" ∧ y_Mo_pattern.cls ≠ "java/lang/invoke/MethodHandle" ∧ y_Mo_pattern.cls ≠ "java/lang/invoke/VarHandle" ∧ (parseMethodDescriptor y_Mo_pattern.desc).map (fun d => d.parameters.length) = some 1 := by decide +kernel
theorem wd_5_208 : Cond.constantLong "RosterRulesModel" 228 1919251316 ∈ xTbl := xIn_5 (List.mem_of_getElem? (i := 208) (by decide +kernel)) rfl
theorem wd_5_209 : Cond.constantLong "RosterRulesModel" 230 448546566771 ∈ xTbl := xIn_5 (List.mem_of_getElem? (i := 209) (by decide +kernel)) rfl
theorem wd_5_210 : Cond.constantLong "RosterRulesModel" 232 474148660594 ∈ xTbl := xIn_5 (List.mem_of_getElem? (i := 210) (by decide +kernel)) rfl
theorem wd_5_211 : Cond.constantLong "RosterRulesModel" 234 512853240933 ∈ xTbl := xIn_5 (List.mem_of_getElem? (i := 211) (by decide +kernel)) rfl
theorem wd_5_212 : Cond.constantLong "RosterRulesModel" 236 1717660018 ∈ xTbl := xIn_5 (List.mem_of_getElem? (i := 212) (by decide +kernel)) rfl
theorem wd_5_213 : Cond.constantLong "RosterRulesModel" 238 427071792498 ∈ xTbl := xIn_5 (List.mem_of_getElem? (i := 213) (by decide +kernel)) rfl
def y_Mo_law0 : MethodName := ⟨"RosterRulesModel", "law", "(I)V"⟩
abbrev b_Mo_law0 : ByteArray := prog_14_method_15_code
def ws_Mo_law0 : List Cond := Cond.code y_Mo_law0 b_Mo_law0 9 none :: xTbl
theorem wd_5_203 : Cond.methodLink "RosterRulesModel" 222 ⟨"RosterRulesModel", "law", "(I)V"⟩ ∈ xTbl := xIn_5 (List.mem_of_getElem? (i := 203) (by decide +kernel)) rfl
theorem wd_5_205 : Cond.instanceMethod ⟨"RosterRulesModel", "law", "(I)V"⟩ ∈ xTbl := xIn_5 (List.mem_of_getElem? (i := 205) (by decide +kernel)) rfl
theorem wz_53 : Cond.selects "RosterRulesModel" ⟨"RosterRulesModel", "law", "(I)V"⟩ ⟨"RosterRulesModel", "law", "(I)V"⟩ ∈ xTbl := List.mem_filter.mpr ⟨List.mem_append_left _ (List.mem_of_getElem? (i := 53) (by decide +kernel)), rfl⟩
theorem wd_5_206 : Cond.code ⟨"RosterRulesModel", "law", "(I)V"⟩ prog_14_method_15_code 9 (none : Option FieldType) ∈ xTbl := xIn_5 (List.mem_of_getElem? (i := 206) rfl) rfl
theorem gv_Mo_222 : GoodIn xTbl (wsV "RosterRulesModel" 222 "RosterRulesModel" y_Mo_law0 ws_Mo_law0) := xGV wd_5_203 wd_5_205 wz_53 wd_1_14 wd_5_206
theorem hd_Mo_law0 : y_Mo_law0.cls = "RosterRulesModel" ∧ y_Mo_law0.cls ≠ "java/lang/invoke/MethodHandle" ∧ y_Mo_law0.cls ≠ "java/lang/invoke/VarHandle" ∧ (parseMethodDescriptor y_Mo_law0.desc).map (fun d => d.parameters.length) = some 1 := by decide +kernel
theorem wd_4_237 : Cond.fieldLink "RosterRulesModel" 219 "RosterRulesModel" "laws" "I" ∈ xTbl := xIn_4 (List.mem_of_getElem? (i := 237) (by decide +kernel)) rfl
theorem lp_Mo_219 : xLp "RosterRulesModel" 219 12 20 .int := ⟨RC_12, TC_12, 65, yC_12, rfl, by decide, iC_12, Or.inl wd_4_237, pC_12, nC_12, rfl, by decide +kernel⟩
def y_Mo_text : MethodName := ⟨"RosterRulesModel", "text", "()V"⟩
abbrev b_Mo_text : ByteArray := prog_14_method_14_code
def ws_Mo_text : List Cond := Cond.code y_Mo_text b_Mo_text 3 none :: xTbl
theorem lp_Mo_212 : xLp "RosterRulesModel" 212 12 41 .boolean := ⟨RC_12, TC_12, 65, yC_12, rfl, by decide, iC_12, Or.inl wd_5_17, pC_12, nC_12, rfl, by decide +kernel⟩
theorem wd_5_181 : Cond.methodLink "RosterRulesModel" 216 ⟨"RosterRulesModel", "text", "()V"⟩ ∈ xTbl := xIn_5 (List.mem_of_getElem? (i := 181) (by decide +kernel)) rfl
theorem wd_5_183 : Cond.instanceMethod ⟨"RosterRulesModel", "text", "()V"⟩ ∈ xTbl := xIn_5 (List.mem_of_getElem? (i := 183) (by decide +kernel)) rfl
theorem wz_49 : Cond.selects "RosterRulesModel" ⟨"RosterRulesModel", "text", "()V"⟩ ⟨"RosterRulesModel", "text", "()V"⟩ ∈ xTbl := List.mem_filter.mpr ⟨List.mem_append_left _ (List.mem_of_getElem? (i := 49) (by decide +kernel)), rfl⟩
theorem wd_5_184 : Cond.code ⟨"RosterRulesModel", "text", "()V"⟩ prog_14_method_14_code 3 (none : Option FieldType) ∈ xTbl := xIn_5 (List.mem_of_getElem? (i := 184) rfl) rfl
theorem gv_Mo_216 : GoodIn xTbl (wsV "RosterRulesModel" 216 "RosterRulesModel" y_Mo_text ws_Mo_text) := xGV wd_5_181 wd_5_183 wz_49 wd_1_14 wd_5_184
theorem hd_Mo_text : y_Mo_text.cls = "RosterRulesModel" ∧ y_Mo_text.cls ≠ "java/lang/invoke/MethodHandle" ∧ y_Mo_text.cls ≠ "java/lang/invoke/VarHandle" ∧ (parseMethodDescriptor y_Mo_text.desc).map (fun d => d.parameters.length) = some 0 := by decide +kernel
theorem lk_Mo_175 : xLk "RosterRulesModel" 175 12 40 := ⟨RC_12, TC_12, 65, rfl, by decide, iC_12, Or.inl wd_5_16⟩
theorem lk_Mo_219 : xLk "RosterRulesModel" 219 12 20 := ⟨RC_12, TC_12, 65, rfl, by decide, iC_12, Or.inl wd_4_237⟩
def y_Mo_read : MethodName := ⟨"RosterRulesModel", "read", "()I"⟩
abbrev b_Mo_read : ByteArray := prog_14_method_13_code
def ws_Mo_read : List Cond := Cond.code y_Mo_read b_Mo_read 1 (some .int) :: xTbl
theorem lk_Mo_38 : xLk "RosterRulesModel" 38 12 12 := ⟨RC_12, TC_12, 65, rfl, by decide, iC_12, Or.inl wd_4_229⟩
def y_Mo_place : MethodName := ⟨"RosterRulesModel", "place", "()I"⟩
abbrev b_Mo_place : ByteArray := prog_14_method_44_code
def ws_Mo_place : List Cond := Cond.code y_Mo_place b_Mo_place 1 (some .int) :: xTbl
theorem lk_Mo_22 : xLk "RosterRulesModel" 22 12 6 := ⟨RC_12, TC_12, 65, rfl, by decide, iC_12, Or.inl wd_4_223⟩
def y_Mo_shift : MethodName := ⟨"RosterRulesModel", "shift", "(IIII)I"⟩
abbrev b_Mo_shift : ByteArray := prog_14_method_45_code
def ws_Mo_shift : List Cond := Cond.code y_Mo_shift b_Mo_shift 5 (some .int) :: xTbl
def y_Mo_person : MethodName := ⟨"RosterRulesModel", "person", "(II)I"⟩
abbrev b_Mo_person : ByteArray := prog_14_method_46_code
def ws_Mo_person : List Cond := Cond.code y_Mo_person b_Mo_person 3 (some .int) :: xTbl
theorem wd_6_106 : Cond.methodLink "RosterRulesModel" 347 ⟨"RosterRulesModel", "isShift", "(I)Z"⟩ ∈ xTbl := xIn_6 (List.mem_of_getElem? (i := 106) (by decide +kernel)) rfl
theorem wd_6_107 : Cond.static ⟨"RosterRulesModel", "isShift", "(I)Z"⟩ ∈ xTbl := xIn_6 (List.mem_of_getElem? (i := 107) (by decide +kernel)) rfl
theorem wd_6_108 : Cond.code ⟨"RosterRulesModel", "isShift", "(I)Z"⟩ prog_14_method_5_code 1 (some FieldType.boolean) ∈ xTbl := xIn_6 (List.mem_of_getElem? (i := 108) rfl) rfl
theorem gs_Mo_347 : GoodIn xTbl (wsS "RosterRulesModel" 347 y_Mo_isShift ws_Mo_isShift) := xGS wd_6_106 wd_6_107 wd_1_14 wd_6_108
theorem hd_Mo_isShift : y_Mo_isShift.cls = "RosterRulesModel" ∧ y_Mo_isShift.cls ≠ "java/lang/invoke/MethodHandle" ∧ y_Mo_isShift.cls ≠ "java/lang/invoke/VarHandle" ∧ (parseMethodDescriptor y_Mo_isShift.desc).map (fun d => d.parameters.length) = some 1 := by decide +kernel
def y_Mo_past : MethodName := ⟨"RosterRulesModel", "past", "(III)I"⟩
abbrev b_Mo_past : ByteArray := prog_14_method_47_code
def ws_Mo_past : List Cond := Cond.code y_Mo_past b_Mo_past 5 (some .int) :: xTbl
theorem wd_6_113 : Cond.methodLink "RosterRulesModel" 350 ⟨"RosterRulesModel", "isCell", "(II)Z"⟩ ∈ xTbl := xIn_6 (List.mem_of_getElem? (i := 113) (by decide +kernel)) rfl
theorem wd_6_115 : Cond.instanceMethod ⟨"RosterRulesModel", "isCell", "(II)Z"⟩ ∈ xTbl := xIn_6 (List.mem_of_getElem? (i := 115) (by decide +kernel)) rfl
theorem wz_77 : Cond.selects "RosterRulesModel" ⟨"RosterRulesModel", "isCell", "(II)Z"⟩ ⟨"RosterRulesModel", "isCell", "(II)Z"⟩ ∈ xTbl := List.mem_filter.mpr ⟨List.mem_append_left _ (List.mem_of_getElem? (i := 77) (by decide +kernel)), rfl⟩
theorem wd_6_116 : Cond.code ⟨"RosterRulesModel", "isCell", "(II)Z"⟩ prog_14_method_4_code 3 (some FieldType.boolean) ∈ xTbl := xIn_6 (List.mem_of_getElem? (i := 116) rfl) rfl
theorem gv_Mo_350 : GoodIn xTbl (wsV "RosterRulesModel" 350 "RosterRulesModel" y_Mo_isCell ws_Mo_isCell) := xGV wd_6_113 wd_6_115 wz_77 wd_1_14 wd_6_116
theorem hd_Mo_isCell : y_Mo_isCell.cls = "RosterRulesModel" ∧ y_Mo_isCell.cls ≠ "java/lang/invoke/MethodHandle" ∧ y_Mo_isCell.cls ≠ "java/lang/invoke/VarHandle" ∧ (parseMethodDescriptor y_Mo_isCell.desc).map (fun d => d.parameters.length) = some 2 := by decide +kernel
theorem lk_Mo_28 : xLk "RosterRulesModel" 28 12 8 := ⟨RC_12, TC_12, 65, rfl, by decide, iC_12, Or.inl wd_4_225⟩
theorem lk_Mo_31 : xLk "RosterRulesModel" 31 12 9 := ⟨RC_12, TC_12, 65, rfl, by decide, iC_12, Or.inl wd_4_226⟩
def y_Mo_wish : MethodName := ⟨"RosterRulesModel", "wish", "(IIII)I"⟩
abbrev b_Mo_wish : ByteArray := prog_14_method_48_code
def ws_Mo_wish : List Cond := Cond.code y_Mo_wish b_Mo_wish 5 (some .int) :: xTbl
def y_Mo_at : MethodName := ⟨"RosterRulesModel", "at", "(II)I"⟩
abbrev b_Mo_at : ByteArray := prog_14_method_49_code
def ws_Mo_at : List Cond := Cond.code y_Mo_at b_Mo_at 3 (some .int) :: xTbl
def y_Mo_rowAt : MethodName := ⟨"RosterRulesModel", "rowAt", "(II)I"⟩
abbrev b_Mo_rowAt : ByteArray := prog_14_method_50_code
def ws_Mo_rowAt : List Cond := Cond.code y_Mo_rowAt b_Mo_rowAt 3 (some .int) :: xTbl
theorem wd_6_142 : Cond.methodLink "RosterRulesModel" 363 ⟨"RosterRulesModel", "rowAt", "(II)I"⟩ ∈ xTbl := xIn_6 (List.mem_of_getElem? (i := 142) (by decide +kernel)) rfl
theorem wd_6_144 : Cond.instanceMethod ⟨"RosterRulesModel", "rowAt", "(II)I"⟩ ∈ xTbl := xIn_6 (List.mem_of_getElem? (i := 144) (by decide +kernel)) rfl
theorem wz_82 : Cond.selects "RosterRulesModel" ⟨"RosterRulesModel", "rowAt", "(II)I"⟩ ⟨"RosterRulesModel", "rowAt", "(II)I"⟩ ∈ xTbl := List.mem_filter.mpr ⟨List.mem_append_left _ (List.mem_of_getElem? (i := 82) (by decide +kernel)), rfl⟩
theorem wd_6_145 : Cond.code ⟨"RosterRulesModel", "rowAt", "(II)I"⟩ prog_14_method_50_code 3 (some FieldType.int) ∈ xTbl := xIn_6 (List.mem_of_getElem? (i := 145) rfl) rfl
theorem gv_Mo_363 : GoodIn xTbl (wsV "RosterRulesModel" 363 "RosterRulesModel" y_Mo_rowAt ws_Mo_rowAt) := xGV wd_6_142 wd_6_144 wz_82 wd_1_14 wd_6_145
theorem hd_Mo_rowAt : y_Mo_rowAt.cls = "RosterRulesModel" ∧ y_Mo_rowAt.cls ≠ "java/lang/invoke/MethodHandle" ∧ y_Mo_rowAt.cls ≠ "java/lang/invoke/VarHandle" ∧ (parseMethodDescriptor y_Mo_rowAt.desc).map (fun d => d.parameters.length) = some 2 := by decide +kernel
def y_Mo_restOf : MethodName := ⟨"RosterRulesModel", "restOf", "(II)J"⟩
abbrev b_Mo_restOf : ByteArray := prog_14_method_52_code
def ws_Mo_restOf : List Cond := Cond.code y_Mo_restOf b_Mo_restOf 9 (some .long) :: xTbl
theorem wd_6_125 : Cond.constantLong "RosterRulesModel" 366 (-1) ∈ xTbl := xIn_6 (List.mem_of_getElem? (i := 125) (by decide +kernel)) rfl
def y_Mo_minutes : MethodName := ⟨"RosterRulesModel", "minutes", "(III)J"⟩
abbrev b_Mo_minutes : ByteArray := prog_14_method_67_code
def ws_Mo_minutes : List Cond := Cond.code y_Mo_minutes b_Mo_minutes 7 (some .long) :: xTbl
def y_Mo_neverOf : MethodName := ⟨"RosterRulesModel", "neverOf", "(II)J"⟩
abbrev b_Mo_neverOf : ByteArray := prog_14_method_53_code
def ws_Mo_neverOf : List Cond := Cond.code y_Mo_neverOf b_Mo_neverOf 7 (some .long) :: xTbl
theorem wd_6_150 : Cond.methodLink "RosterRulesModel" 360 ⟨"RosterRulesModel", "neverOf", "(II)J"⟩ ∈ xTbl := xIn_6 (List.mem_of_getElem? (i := 150) (by decide +kernel)) rfl
theorem wd_6_152 : Cond.instanceMethod ⟨"RosterRulesModel", "neverOf", "(II)J"⟩ ∈ xTbl := xIn_6 (List.mem_of_getElem? (i := 152) (by decide +kernel)) rfl
theorem wz_83 : Cond.selects "RosterRulesModel" ⟨"RosterRulesModel", "neverOf", "(II)J"⟩ ⟨"RosterRulesModel", "neverOf", "(II)J"⟩ ∈ xTbl := List.mem_filter.mpr ⟨List.mem_append_left _ (List.mem_of_getElem? (i := 83) (by decide +kernel)), rfl⟩
theorem wd_6_153 : Cond.code ⟨"RosterRulesModel", "neverOf", "(II)J"⟩ prog_14_method_53_code 7 (some FieldType.long) ∈ xTbl := xIn_6 (List.mem_of_getElem? (i := 153) rfl) rfl
theorem gv_Mo_360 : GoodIn xTbl (wsV "RosterRulesModel" 360 "RosterRulesModel" y_Mo_neverOf ws_Mo_neverOf) := xGV wd_6_150 wd_6_152 wz_83 wd_1_14 wd_6_153
theorem hd_Mo_neverOf : y_Mo_neverOf.cls = "RosterRulesModel" ∧ y_Mo_neverOf.cls ≠ "java/lang/invoke/MethodHandle" ∧ y_Mo_neverOf.cls ≠ "java/lang/invoke/VarHandle" ∧ (parseMethodDescriptor y_Mo_neverOf.desc).map (fun d => d.parameters.length) = some 2 := by decide +kernel
theorem wd_6_146 : Cond.methodLink "RosterRulesModel" 357 ⟨"RosterRulesModel", "minutes", "(III)J"⟩ ∈ xTbl := xIn_6 (List.mem_of_getElem? (i := 146) (by decide +kernel)) rfl
theorem wd_6_147 : Cond.instanceMethod ⟨"RosterRulesModel", "minutes", "(III)J"⟩ ∈ xTbl := xIn_6 (List.mem_of_getElem? (i := 147) (by decide +kernel)) rfl
theorem wd_6_148 : Cond.selects "RosterRulesModel" ⟨"RosterRulesModel", "minutes", "(III)J"⟩ ⟨"RosterRulesModel", "minutes", "(III)J"⟩ ∈ xTbl := xIn_6 (List.mem_of_getElem? (i := 148) (by decide +kernel)) rfl
theorem wd_6_149 : Cond.code ⟨"RosterRulesModel", "minutes", "(III)J"⟩ prog_14_method_67_code 7 (some FieldType.long) ∈ xTbl := xIn_6 (List.mem_of_getElem? (i := 149) rfl) rfl
theorem gv_Mo_357 : GoodIn xTbl (wsV "RosterRulesModel" 357 "RosterRulesModel" y_Mo_minutes ws_Mo_minutes) := xGV wd_6_146 wd_6_147 wd_6_148 wd_1_14 wd_6_149
theorem hd_Mo_minutes : y_Mo_minutes.cls = "RosterRulesModel" ∧ y_Mo_minutes.cls ≠ "java/lang/invoke/MethodHandle" ∧ y_Mo_minutes.cls ≠ "java/lang/invoke/VarHandle" ∧ (parseMethodDescriptor y_Mo_minutes.desc).map (fun d => d.parameters.length) = some 3 := by decide +kernel
theorem wd_6_138 : Cond.methodLink "RosterRulesModel" 353 ⟨"RosterRulesModel", "restOf", "(II)J"⟩ ∈ xTbl := xIn_6 (List.mem_of_getElem? (i := 138) (by decide +kernel)) rfl
theorem wd_6_140 : Cond.instanceMethod ⟨"RosterRulesModel", "restOf", "(II)J"⟩ ∈ xTbl := xIn_6 (List.mem_of_getElem? (i := 140) (by decide +kernel)) rfl
theorem wz_81 : Cond.selects "RosterRulesModel" ⟨"RosterRulesModel", "restOf", "(II)J"⟩ ⟨"RosterRulesModel", "restOf", "(II)J"⟩ ∈ xTbl := List.mem_filter.mpr ⟨List.mem_append_left _ (List.mem_of_getElem? (i := 81) (by decide +kernel)), rfl⟩
theorem wd_6_141 : Cond.code ⟨"RosterRulesModel", "restOf", "(II)J"⟩ prog_14_method_52_code 9 (some FieldType.long) ∈ xTbl := xIn_6 (List.mem_of_getElem? (i := 141) rfl) rfl
theorem gv_Mo_353 : GoodIn xTbl (wsV "RosterRulesModel" 353 "RosterRulesModel" y_Mo_restOf ws_Mo_restOf) := xGV wd_6_138 wd_6_140 wz_81 wd_1_14 wd_6_141
theorem hd_Mo_restOf : y_Mo_restOf.cls = "RosterRulesModel" ∧ y_Mo_restOf.cls ≠ "java/lang/invoke/MethodHandle" ∧ y_Mo_restOf.cls ≠ "java/lang/invoke/VarHandle" ∧ (parseMethodDescriptor y_Mo_restOf.desc).map (fun d => d.parameters.length) = some 2 := by decide +kernel
def y_Mo_byPerson : MethodName := ⟨"RosterRulesModel", "byPerson", "(II)J"⟩
abbrev b_Mo_byPerson : ByteArray := prog_14_method_51_code
def ws_Mo_byPerson : List Cond := Cond.code y_Mo_byPerson b_Mo_byPerson 8 (some .long) :: xTbl
def y_Mo_byDay : MethodName := ⟨"RosterRulesModel", "byDay", "(II)J"⟩
abbrev b_Mo_byDay : ByteArray := prog_14_method_54_code
def ws_Mo_byDay : List Cond := Cond.code y_Mo_byDay b_Mo_byDay 5 (some .long) :: xTbl
def y_Mo_spread : MethodName := ⟨"RosterRulesModel", "spread", "(I)J"⟩
abbrev b_Mo_spread : ByteArray := prog_14_method_55_code
def ws_Mo_spread : List Cond := Cond.code y_Mo_spread b_Mo_spread 7 (some .long) :: xTbl
def y_Mo_wishOf : MethodName := ⟨"RosterRulesModel", "wishOf", "(II)J"⟩
abbrev b_Mo_wishOf : ByteArray := prog_14_method_56_code
def ws_Mo_wishOf : List Cond := Cond.code y_Mo_wishOf b_Mo_wishOf 3 (some .long) :: xTbl
theorem wd_6_126 : Cond.methodLink "RosterRulesModel" 368 ⟨"RosterRulesModel", "spread", "(I)J"⟩ ∈ xTbl := xIn_6 (List.mem_of_getElem? (i := 126) (by decide +kernel)) rfl
theorem wd_6_128 : Cond.instanceMethod ⟨"RosterRulesModel", "spread", "(I)J"⟩ ∈ xTbl := xIn_6 (List.mem_of_getElem? (i := 128) (by decide +kernel)) rfl
theorem wz_78 : Cond.selects "RosterRulesModel" ⟨"RosterRulesModel", "spread", "(I)J"⟩ ⟨"RosterRulesModel", "spread", "(I)J"⟩ ∈ xTbl := List.mem_filter.mpr ⟨List.mem_append_left _ (List.mem_of_getElem? (i := 78) (by decide +kernel)), rfl⟩
theorem wd_6_129 : Cond.code ⟨"RosterRulesModel", "spread", "(I)J"⟩ prog_14_method_55_code 7 (some FieldType.long) ∈ xTbl := xIn_6 (List.mem_of_getElem? (i := 129) rfl) rfl
theorem gv_Mo_368 : GoodIn xTbl (wsV "RosterRulesModel" 368 "RosterRulesModel" y_Mo_spread ws_Mo_spread) := xGV wd_6_126 wd_6_128 wz_78 wd_1_14 wd_6_129
theorem hd_Mo_spread : y_Mo_spread.cls = "RosterRulesModel" ∧ y_Mo_spread.cls ≠ "java/lang/invoke/MethodHandle" ∧ y_Mo_spread.cls ≠ "java/lang/invoke/VarHandle" ∧ (parseMethodDescriptor y_Mo_spread.desc).map (fun d => d.parameters.length) = some 1 := by decide +kernel
theorem wd_6_130 : Cond.methodLink "RosterRulesModel" 371 ⟨"RosterRulesModel", "byDay", "(II)J"⟩ ∈ xTbl := xIn_6 (List.mem_of_getElem? (i := 130) (by decide +kernel)) rfl
theorem wd_6_132 : Cond.instanceMethod ⟨"RosterRulesModel", "byDay", "(II)J"⟩ ∈ xTbl := xIn_6 (List.mem_of_getElem? (i := 132) (by decide +kernel)) rfl
theorem wz_79 : Cond.selects "RosterRulesModel" ⟨"RosterRulesModel", "byDay", "(II)J"⟩ ⟨"RosterRulesModel", "byDay", "(II)J"⟩ ∈ xTbl := List.mem_filter.mpr ⟨List.mem_append_left _ (List.mem_of_getElem? (i := 79) (by decide +kernel)), rfl⟩
theorem wd_6_133 : Cond.code ⟨"RosterRulesModel", "byDay", "(II)J"⟩ prog_14_method_54_code 5 (some FieldType.long) ∈ xTbl := xIn_6 (List.mem_of_getElem? (i := 133) rfl) rfl
theorem gv_Mo_371 : GoodIn xTbl (wsV "RosterRulesModel" 371 "RosterRulesModel" y_Mo_byDay ws_Mo_byDay) := xGV wd_6_130 wd_6_132 wz_79 wd_1_14 wd_6_133
theorem hd_Mo_byDay : y_Mo_byDay.cls = "RosterRulesModel" ∧ y_Mo_byDay.cls ≠ "java/lang/invoke/MethodHandle" ∧ y_Mo_byDay.cls ≠ "java/lang/invoke/VarHandle" ∧ (parseMethodDescriptor y_Mo_byDay.desc).map (fun d => d.parameters.length) = some 2 := by decide +kernel
theorem wd_6_134 : Cond.methodLink "RosterRulesModel" 374 ⟨"RosterRulesModel", "byPerson", "(II)J"⟩ ∈ xTbl := xIn_6 (List.mem_of_getElem? (i := 134) (by decide +kernel)) rfl
theorem wd_6_136 : Cond.instanceMethod ⟨"RosterRulesModel", "byPerson", "(II)J"⟩ ∈ xTbl := xIn_6 (List.mem_of_getElem? (i := 136) (by decide +kernel)) rfl
theorem wz_80 : Cond.selects "RosterRulesModel" ⟨"RosterRulesModel", "byPerson", "(II)J"⟩ ⟨"RosterRulesModel", "byPerson", "(II)J"⟩ ∈ xTbl := List.mem_filter.mpr ⟨List.mem_append_left _ (List.mem_of_getElem? (i := 80) (by decide +kernel)), rfl⟩
theorem wd_6_137 : Cond.code ⟨"RosterRulesModel", "byPerson", "(II)J"⟩ prog_14_method_51_code 8 (some FieldType.long) ∈ xTbl := xIn_6 (List.mem_of_getElem? (i := 137) rfl) rfl
theorem gv_Mo_374 : GoodIn xTbl (wsV "RosterRulesModel" 374 "RosterRulesModel" y_Mo_byPerson ws_Mo_byPerson) := xGV wd_6_134 wd_6_136 wz_80 wd_1_14 wd_6_137
theorem hd_Mo_byPerson : y_Mo_byPerson.cls = "RosterRulesModel" ∧ y_Mo_byPerson.cls ≠ "java/lang/invoke/MethodHandle" ∧ y_Mo_byPerson.cls ≠ "java/lang/invoke/VarHandle" ∧ (parseMethodDescriptor y_Mo_byPerson.desc).map (fun d => d.parameters.length) = some 2 := by decide +kernel
def y_Mo_broken : MethodName := ⟨"RosterRulesModel", "broken", "(II)J"⟩
abbrev b_Mo_broken : ByteArray := prog_14_method_57_code
def ws_Mo_broken : List Cond := Cond.code y_Mo_broken b_Mo_broken 7 (some .long) :: xTbl
theorem wd_6_158 : Cond.methodLink "RosterRulesModel" 377 ⟨"RosterRulesModel", "broken", "(II)J"⟩ ∈ xTbl := xIn_6 (List.mem_of_getElem? (i := 158) (by decide +kernel)) rfl
theorem wd_6_122 : Cond.instanceMethod ⟨"RosterRulesModel", "broken", "(II)J"⟩ ∈ xTbl := xIn_6 (List.mem_of_getElem? (i := 122) (by decide +kernel)) rfl
theorem wd_6_123 : Cond.selects "RosterRulesModel" ⟨"RosterRulesModel", "broken", "(II)J"⟩ ⟨"RosterRulesModel", "broken", "(II)J"⟩ ∈ xTbl := xIn_6 (List.mem_of_getElem? (i := 123) (by decide +kernel)) rfl
theorem wd_6_124 : Cond.code ⟨"RosterRulesModel", "broken", "(II)J"⟩ prog_14_method_57_code 7 (some FieldType.long) ∈ xTbl := xIn_6 (List.mem_of_getElem? (i := 124) rfl) rfl
theorem gv_Mo_377 : GoodIn xTbl (wsV "RosterRulesModel" 377 "RosterRulesModel" y_Mo_broken ws_Mo_broken) := xGV wd_6_158 wd_6_122 wd_6_123 wd_1_14 wd_6_124
theorem hd_Mo_broken : y_Mo_broken.cls = "RosterRulesModel" ∧ y_Mo_broken.cls ≠ "java/lang/invoke/MethodHandle" ∧ y_Mo_broken.cls ≠ "java/lang/invoke/VarHandle" ∧ (parseMethodDescriptor y_Mo_broken.desc).map (fun d => d.parameters.length) = some 2 := by decide +kernel
theorem wd_6_159 : Cond.methodLink "RosterRulesModel" 380 ⟨"RosterRulesModel", "wishOf", "(II)J"⟩ ∈ xTbl := xIn_6 (List.mem_of_getElem? (i := 159) (by decide +kernel)) rfl
theorem wd_6_161 : Cond.instanceMethod ⟨"RosterRulesModel", "wishOf", "(II)J"⟩ ∈ xTbl := xIn_6 (List.mem_of_getElem? (i := 161) (by decide +kernel)) rfl
theorem wz_84 : Cond.selects "RosterRulesModel" ⟨"RosterRulesModel", "wishOf", "(II)J"⟩ ⟨"RosterRulesModel", "wishOf", "(II)J"⟩ ∈ xTbl := List.mem_filter.mpr ⟨List.mem_append_left _ (List.mem_of_getElem? (i := 84) (by decide +kernel)), rfl⟩
theorem wd_6_162 : Cond.code ⟨"RosterRulesModel", "wishOf", "(II)J"⟩ prog_14_method_56_code 3 (some FieldType.long) ∈ xTbl := xIn_6 (List.mem_of_getElem? (i := 162) rfl) rfl
theorem gv_Mo_380 : GoodIn xTbl (wsV "RosterRulesModel" 380 "RosterRulesModel" y_Mo_wishOf ws_Mo_wishOf) := xGV wd_6_159 wd_6_161 wz_84 wd_1_14 wd_6_162
theorem hd_Mo_wishOf : y_Mo_wishOf.cls = "RosterRulesModel" ∧ y_Mo_wishOf.cls ≠ "java/lang/invoke/MethodHandle" ∧ y_Mo_wishOf.cls ≠ "java/lang/invoke/VarHandle" ∧ (parseMethodDescriptor y_Mo_wishOf.desc).map (fun d => d.parameters.length) = some 2 := by decide +kernel
def y_Mo_score : MethodName := ⟨"RosterRulesModel", "score", "()J"⟩
abbrev b_Mo_score : ByteArray := prog_14_method_58_code
def ws_Mo_score : List Cond := Cond.code y_Mo_score b_Mo_score 5 (some .long) :: xTbl
def y_Mo_near : MethodName := ⟨"RosterRulesModel", "near", "(II)J"⟩
abbrev b_Mo_near : ByteArray := prog_14_method_59_code
def ws_Mo_near : List Cond := Cond.code y_Mo_near b_Mo_near 6 (some .long) :: xTbl
theorem wd_6_171 : Cond.methodLink "RosterRulesModel" 383 ⟨"RosterRulesModel", "near", "(II)J"⟩ ∈ xTbl := xIn_6 (List.mem_of_getElem? (i := 171) (by decide +kernel)) rfl
theorem wd_6_173 : Cond.instanceMethod ⟨"RosterRulesModel", "near", "(II)J"⟩ ∈ xTbl := xIn_6 (List.mem_of_getElem? (i := 173) (by decide +kernel)) rfl
theorem wz_86 : Cond.selects "RosterRulesModel" ⟨"RosterRulesModel", "near", "(II)J"⟩ ⟨"RosterRulesModel", "near", "(II)J"⟩ ∈ xTbl := List.mem_filter.mpr ⟨List.mem_append_left _ (List.mem_of_getElem? (i := 86) (by decide +kernel)), rfl⟩
theorem wd_6_174 : Cond.code ⟨"RosterRulesModel", "near", "(II)J"⟩ prog_14_method_59_code 6 (some FieldType.long) ∈ xTbl := xIn_6 (List.mem_of_getElem? (i := 174) rfl) rfl
theorem gv_Mo_383 : GoodIn xTbl (wsV "RosterRulesModel" 383 "RosterRulesModel" y_Mo_near ws_Mo_near) := xGV wd_6_171 wd_6_173 wz_86 wd_1_14 wd_6_174
theorem hd_Mo_near : y_Mo_near.cls = "RosterRulesModel" ∧ y_Mo_near.cls ≠ "java/lang/invoke/MethodHandle" ∧ y_Mo_near.cls ≠ "java/lang/invoke/VarHandle" ∧ (parseMethodDescriptor y_Mo_near.desc).map (fun d => d.parameters.length) = some 2 := by decide +kernel
def y_Mo_changed : MethodName := ⟨"RosterRulesModel", "changed", "(III)J"⟩
abbrev b_Mo_changed : ByteArray := prog_14_method_60_code
def ws_Mo_changed : List Cond := Cond.code y_Mo_changed b_Mo_changed 9 (some .long) :: xTbl
theorem wd_6_167 : Cond.methodLink "RosterRulesModel" 386 ⟨"RosterRulesModel", "changed", "(III)J"⟩ ∈ xTbl := xIn_6 (List.mem_of_getElem? (i := 167) (by decide +kernel)) rfl
theorem wd_6_169 : Cond.instanceMethod ⟨"RosterRulesModel", "changed", "(III)J"⟩ ∈ xTbl := xIn_6 (List.mem_of_getElem? (i := 169) (by decide +kernel)) rfl
theorem wz_85 : Cond.selects "RosterRulesModel" ⟨"RosterRulesModel", "changed", "(III)J"⟩ ⟨"RosterRulesModel", "changed", "(III)J"⟩ ∈ xTbl := List.mem_filter.mpr ⟨List.mem_append_left _ (List.mem_of_getElem? (i := 85) (by decide +kernel)), rfl⟩
theorem wd_6_170 : Cond.code ⟨"RosterRulesModel", "changed", "(III)J"⟩ prog_14_method_60_code 9 (some FieldType.long) ∈ xTbl := xIn_6 (List.mem_of_getElem? (i := 170) rfl) rfl
theorem gv_Mo_386 : GoodIn xTbl (wsV "RosterRulesModel" 386 "RosterRulesModel" y_Mo_changed ws_Mo_changed) := xGV wd_6_167 wd_6_169 wz_85 wd_1_14 wd_6_170
theorem hd_Mo_changed : y_Mo_changed.cls = "RosterRulesModel" ∧ y_Mo_changed.cls ≠ "java/lang/invoke/MethodHandle" ∧ y_Mo_changed.cls ≠ "java/lang/invoke/VarHandle" ∧ (parseMethodDescriptor y_Mo_changed.desc).map (fun d => d.parameters.length) = some 3 := by decide +kernel
theorem wd_6_175 : Cond.constantLong "RosterRulesModel" 389 4611686018427387904 ∈ xTbl := xIn_6 (List.mem_of_getElem? (i := 175) (by decide +kernel)) rfl
def y_Mo_change : MethodName := ⟨"RosterRulesModel", "change", "(III)J"⟩
abbrev b_Mo_change : ByteArray := prog_14_method_61_code
def ws_Mo_change : List Cond := Cond.code y_Mo_change b_Mo_change 4 (some .long) :: xTbl
theorem wd_5_8 : Cond.fieldLink "RosterRulesModel" 393 "RosterRulesModel" "undoFrom" "I" ∈ xTbl := xIn_5 (List.mem_of_getElem? (i := 8) (by decide +kernel)) rfl
theorem lk_Mo_393 : xLk "RosterRulesModel" 393 12 31 := ⟨RC_12, TC_12, 65, rfl, by decide, iC_12, Or.inl wd_5_8⟩
theorem wd_5_9 : Cond.fieldLink "RosterRulesModel" 396 "RosterRulesModel" "undoCount" "I" ∈ xTbl := xIn_5 (List.mem_of_getElem? (i := 9) (by decide +kernel)) rfl
theorem lk_Mo_396 : xLk "RosterRulesModel" 396 12 32 := ⟨RC_12, TC_12, 65, rfl, by decide, iC_12, Or.inl wd_5_9⟩
theorem lk_Mo_89 : xLk "RosterRulesModel" 89 12 29 := ⟨RC_12, TC_12, 65, rfl, by decide, iC_12, Or.inl wd_5_6⟩
theorem lk_Mo_92 : xLk "RosterRulesModel" 92 12 30 := ⟨RC_12, TC_12, 65, rfl, by decide, iC_12, Or.inl wd_5_7⟩
theorem lp_Mo_393 : xLp "RosterRulesModel" 393 12 31 .int := ⟨RC_12, TC_12, 65, yC_12, rfl, by decide, iC_12, Or.inl wd_5_8, pC_12, nC_12, rfl, by decide +kernel⟩
theorem lp_Mo_396 : xLp "RosterRulesModel" 396 12 32 .int := ⟨RC_12, TC_12, 65, yC_12, rfl, by decide, iC_12, Or.inl wd_5_9, pC_12, nC_12, rfl, by decide +kernel⟩
def y_Mo_set1 : MethodName := ⟨"RosterRulesModel", "set", "(II)V"⟩
abbrev b_Mo_set1 : ByteArray := prog_14_method_63_code
def ws_Mo_set1 : List Cond := Cond.code y_Mo_set1 b_Mo_set1 4 none :: xTbl
theorem wd_6_180 : Cond.methodLink "RosterRulesModel" 391 ⟨"RosterRulesModel", "set", "(II)V"⟩ ∈ xTbl := xIn_6 (List.mem_of_getElem? (i := 180) (by decide +kernel)) rfl
theorem wd_6_182 : Cond.instanceMethod ⟨"RosterRulesModel", "set", "(II)V"⟩ ∈ xTbl := xIn_6 (List.mem_of_getElem? (i := 182) (by decide +kernel)) rfl
theorem wz_87 : Cond.selects "RosterRulesModel" ⟨"RosterRulesModel", "set", "(II)V"⟩ ⟨"RosterRulesModel", "set", "(II)V"⟩ ∈ xTbl := List.mem_filter.mpr ⟨List.mem_append_left _ (List.mem_of_getElem? (i := 87) (by decide +kernel)), rfl⟩
theorem wd_6_183 : Cond.code ⟨"RosterRulesModel", "set", "(II)V"⟩ prog_14_method_63_code 4 (none : Option FieldType) ∈ xTbl := xIn_6 (List.mem_of_getElem? (i := 183) rfl) rfl
theorem gv_Mo_391 : GoodIn xTbl (wsV "RosterRulesModel" 391 "RosterRulesModel" y_Mo_set1 ws_Mo_set1) := xGV wd_6_180 wd_6_182 wz_87 wd_1_14 wd_6_183
theorem hd_Mo_set1 : y_Mo_set1.cls = "RosterRulesModel" ∧ y_Mo_set1.cls ≠ "java/lang/invoke/MethodHandle" ∧ y_Mo_set1.cls ≠ "java/lang/invoke/VarHandle" ∧ (parseMethodDescriptor y_Mo_set1.desc).map (fun d => d.parameters.length) = some 2 := by decide +kernel
def y_Mo_put : MethodName := ⟨"RosterRulesModel", "put", "(III)J"⟩
abbrev b_Mo_put : ByteArray := prog_14_method_62_code
def ws_Mo_put : List Cond := Cond.code y_Mo_put b_Mo_put 6 (some .long) :: xTbl
def y_Mo_undo : MethodName := ⟨"RosterRulesModel", "undo", "()I"⟩
abbrev b_Mo_undo : ByteArray := prog_14_method_64_code
def ws_Mo_undo : List Cond := Cond.code y_Mo_undo b_Mo_undo 2 (some .int) :: xTbl
def y_Mo_best : MethodName := ⟨"RosterRulesModel", "best", "(II)I"⟩
abbrev b_Mo_best : ByteArray := prog_14_method_65_code
def ws_Mo_best : List Cond := Cond.code y_Mo_best b_Mo_best 5 (some .int) :: xTbl
def y_Mo_descend : MethodName := ⟨"RosterRulesModel", "descend", "(I)I"⟩
abbrev b_Mo_descend : ByteArray := prog_14_method_66_code
def ws_Mo_descend : List Cond := Cond.code y_Mo_descend b_Mo_descend 13 (some .int) :: xTbl
def y_Mo_isLaw : MethodName := ⟨"RosterRulesModel", "isLaw", "(I)Z"⟩
abbrev b_Mo_isLaw : ByteArray := prog_14_method_68_code
def ws_Mo_isLaw : List Cond := Cond.code y_Mo_isLaw b_Mo_isLaw 2 (some .boolean) :: xTbl
def y_Mo_hasPattern : MethodName := ⟨"RosterRulesModel", "hasPattern", "(I)Z"⟩
abbrev b_Mo_hasPattern : ByteArray := prog_14_method_69_code
def ws_Mo_hasPattern : List Cond := Cond.code y_Mo_hasPattern b_Mo_hasPattern 2 (some .boolean) :: xTbl
theorem wd_6_201 : Cond.methodLink "RosterRulesModel" 399 ⟨"RosterRulesModel", "isLaw", "(I)Z"⟩ ∈ xTbl := xIn_6 (List.mem_of_getElem? (i := 201) (by decide +kernel)) rfl
theorem wd_6_203 : Cond.instanceMethod ⟨"RosterRulesModel", "isLaw", "(I)Z"⟩ ∈ xTbl := xIn_6 (List.mem_of_getElem? (i := 203) (by decide +kernel)) rfl
theorem wz_88 : Cond.selects "RosterRulesModel" ⟨"RosterRulesModel", "isLaw", "(I)Z"⟩ ⟨"RosterRulesModel", "isLaw", "(I)Z"⟩ ∈ xTbl := List.mem_filter.mpr ⟨List.mem_append_left _ (List.mem_of_getElem? (i := 88) (by decide +kernel)), rfl⟩
theorem wd_6_204 : Cond.code ⟨"RosterRulesModel", "isLaw", "(I)Z"⟩ prog_14_method_68_code 2 (some FieldType.boolean) ∈ xTbl := xIn_6 (List.mem_of_getElem? (i := 204) rfl) rfl
theorem gv_Mo_399 : GoodIn xTbl (wsV "RosterRulesModel" 399 "RosterRulesModel" y_Mo_isLaw ws_Mo_isLaw) := xGV wd_6_201 wd_6_203 wz_88 wd_1_14 wd_6_204
theorem hd_Mo_isLaw : y_Mo_isLaw.cls = "RosterRulesModel" ∧ y_Mo_isLaw.cls ≠ "java/lang/invoke/MethodHandle" ∧ y_Mo_isLaw.cls ≠ "java/lang/invoke/VarHandle" ∧ (parseMethodDescriptor y_Mo_isLaw.desc).map (fun d => d.parameters.length) = some 1 := by decide +kernel
theorem wd_6_205 : Cond.methodLink "RosterRulesModel" 402 ⟨"RosterRulesModel", "hasPattern", "(I)Z"⟩ ∈ xTbl := xIn_6 (List.mem_of_getElem? (i := 205) (by decide +kernel)) rfl
theorem wd_6_207 : Cond.instanceMethod ⟨"RosterRulesModel", "hasPattern", "(I)Z"⟩ ∈ xTbl := xIn_6 (List.mem_of_getElem? (i := 207) (by decide +kernel)) rfl
theorem wz_89 : Cond.selects "RosterRulesModel" ⟨"RosterRulesModel", "hasPattern", "(I)Z"⟩ ⟨"RosterRulesModel", "hasPattern", "(I)Z"⟩ ∈ xTbl := List.mem_filter.mpr ⟨List.mem_append_left _ (List.mem_of_getElem? (i := 89) (by decide +kernel)), rfl⟩
theorem wd_6_208 : Cond.code ⟨"RosterRulesModel", "hasPattern", "(I)Z"⟩ prog_14_method_69_code 2 (some FieldType.boolean) ∈ xTbl := xIn_6 (List.mem_of_getElem? (i := 208) rfl) rfl
theorem gv_Mo_402 : GoodIn xTbl (wsV "RosterRulesModel" 402 "RosterRulesModel" y_Mo_hasPattern ws_Mo_hasPattern) := xGV wd_6_205 wd_6_207 wz_89 wd_1_14 wd_6_208
theorem hd_Mo_hasPattern : y_Mo_hasPattern.cls = "RosterRulesModel" ∧ y_Mo_hasPattern.cls ≠ "java/lang/invoke/MethodHandle" ∧ y_Mo_hasPattern.cls ≠ "java/lang/invoke/VarHandle" ∧ (parseMethodDescriptor y_Mo_hasPattern.desc).map (fun d => d.parameters.length) = some 1 := by decide +kernel
def y_Mo_law1 : MethodName := ⟨"RosterRulesModel", "law", "(II)I"⟩
abbrev b_Mo_law1 : ByteArray := prog_14_method_70_code
def ws_Mo_law1 : List Cond := Cond.code y_Mo_law1 b_Mo_law1 3 (some .int) :: xTbl
def y_Mo_state : MethodName := ⟨"RosterRulesModel", "state", "(III)I"⟩
abbrev b_Mo_state : ByteArray := prog_14_method_71_code
def ws_Mo_state : List Cond := Cond.code y_Mo_state b_Mo_state 4 (some .int) :: xTbl
def y_Mo_alike : MethodName := ⟨"RosterRulesModel", "alike", "(II)I"⟩
abbrev b_Mo_alike : ByteArray := prog_14_method_72_code
def ws_Mo_alike : List Cond := Cond.code y_Mo_alike b_Mo_alike 6 (some .int) :: xTbl
theorem lk_Mo_150 : xLk "RosterRulesModel" 150 12 63 := ⟨RC_12, TC_12, 65, rfl, by decide, iC_12, Or.inl wd_5_39⟩
theorem lk_Mo_153 : xLk "RosterRulesModel" 153 12 64 := ⟨RC_12, TC_12, 65, rfl, by decide, iC_12, Or.inl wd_5_40⟩
def y_Mo_words : MethodName := ⟨"RosterRulesModel", "words", "(II)J"⟩
abbrev b_Mo_words : ByteArray := prog_14_method_73_code
def ws_Mo_words : List Cond := Cond.code y_Mo_words b_Mo_words 6 (some .long) :: xTbl
theorem wd_6_225 : Cond.constant "RosterRulesModel" 405 100000 ∈ xTbl := xIn_6 (List.mem_of_getElem? (i := 225) (by decide +kernel)) rfl
def y_Mo_word : MethodName := ⟨"RosterRulesModel", "word", "(II)I"⟩
abbrev b_Mo_word : ByteArray := prog_14_method_74_code
def ws_Mo_word : List Cond := Cond.code y_Mo_word b_Mo_word 9 (some .int) :: xTbl
def y_Mo_count : MethodName := ⟨"RosterRulesModel", "count", "(I)I"⟩
abbrev b_Mo_count : ByteArray := prog_14_method_75_code
def ws_Mo_count : List Cond := Cond.code y_Mo_count b_Mo_count 5 (some .int) :: xTbl
