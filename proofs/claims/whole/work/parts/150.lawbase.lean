/-! THE CLAIM OUT OF ONE WALK OF THE LAW'S BODY. Your part is whole_start (and what it stands on); all else here is the same for every law, but numbers. -/
def R_law : String := "RosterRulesLaw"
def lw_P (b : Addr) (xs : List Int32) (args : Array Value) (s : State) : Prop := args = #[.ref b] ∧ s.IntsAt b xs ∧ xs.length ≤ 2562 ∧ (Jvm.Cond.and given_1 narrow_1).before args s = true
def lw_Q (_ : Array Value) (s : State) (o : Outcome) (t : State) : Prop := o = .returned (some (.int 1)) ∧ Framed s o t [] 600000 7302250
def lw_Z (below : List Frame) (a : Array Value) (s : State) : State → Prop := fun t => ∃ o, t.status = .running ∧ Ended t below o ∧ lw_Q a s o t
/-- the law's own end, with 1 on the stack, nothing written that was there before, its room as the claim has it -/
theorem lw_ret {p : Program} {l : Launch} {e : Env} {s : State} {m : MethodId} {below : List Frame} {meth : Method} {c : Code} {b : Nat} (hx : p.tables.exec = Jvm.exec) (hb : c.code = code) (hr : meth.sig.returnType = ret) (hlocks : meth.locks = false) {pc : Nat} {H : Heap} {ls : Array Slot} (hdg : decode code pc = .ok (.ireturn, 1)) : W p l e room_1 s m #[Value.ref b] below meth c H [] 600000 7302250 (lw_Z below #[Value.ref b] s) (F0 m pc ls [.int 1]) := by
  intro T hT X
  obtain ⟨fs, hret, hrun, hended, hW, hframe⟩ := X.leave (v := some (.int 1)) (hlocks := hlocks) (fun h => by rw [hr] at h; cases h)
  have hmeth' : T.vm.method? m = some meth := X.method'
  refine ⟨T.setFrames fs, ?_, .returned (some (.int 1)), hrun, hended, rfl, ⟨_, rfl⟩, hW, hframe⟩
  jvm_step X.here [X.here.top, hx, hb, hdg, hmeth', hr, ret, narrow_b1]
  (try refine ⟨rfl, ?_⟩); (try refine ⟨rfl, ?_⟩)
  first | (intro acts; rw [hret _ acts rfl rfl rfl]) | rw [hret _ _ rfl rfl rfl]
  exact Steps.refl _
/-- what holds at the law's entry: the machine, the code, the tables' words (any of lw_tbl by 'hts w (by decide +kernel)'), the script of L ints xs at the cell b, what the Statement gives of the start (any of its parts by flat_of_before) -/
def lw_At (p : Program) (s : State) (m : MethodId) (meth : Method) (c : Code) (b L : Nat) (xs : Nat → Int32) : Prop :=
  p.tables.exec = Jvm.exec ∧ c.code = code ∧ meth.sig.returnType = ret ∧ c.maxLocals = 4 ∧ s.vm.findClass R_law = some m.cls ∧ (∀ w ∈ lw_tbl, w.before #[Value.ref b] s = true) ∧ va_X b L xs s s.heap ∧ b < s.heap.size ∧ meth.locks = false ∧ (Jvm.Cond.and given_1 narrow_1).before #[Value.ref b] s = true

def y_Lw_cell : MethodName := ⟨"RosterRulesLaw", "cell", "([II)I"⟩
abbrev b_Lw_cell : ByteArray := method_2_code
def ws_Lw_cell : List Cond := Cond.code y_Lw_cell b_Lw_cell 2 (some .int) :: xTbl
theorem wd_6_230 : Cond.constantLong "RosterRulesLaw" 21 4294967295 ∈ xTbl := xIn_6 (List.mem_of_getElem? (i := 230) (by decide +kernel)) rfl
theorem wd_2_172 : Cond.methodLink "RosterRulesLaw" 23 ⟨"RosterRules", "feed", "(IJ)I"⟩ ∈ xTbl := xIn_2 (List.mem_of_getElem? (i := 172) (by decide +kernel)) rfl
theorem wd_2_173 : Cond.instanceMethod ⟨"RosterRules", "feed", "(IJ)I"⟩ ∈ xTbl := xIn_2 (List.mem_of_getElem? (i := 173) (by decide +kernel)) rfl
theorem wd_2_174 : Cond.selects "RosterRules" ⟨"RosterRules", "feed", "(IJ)I"⟩ ⟨"RosterRules", "feed", "(IJ)I"⟩ ∈ xTbl := xIn_2 (List.mem_of_getElem? (i := 174) (by decide +kernel)) rfl
theorem wd_2_175 : Cond.code ⟨"RosterRules", "feed", "(IJ)I"⟩ prog_1_method_2_code 4 (some FieldType.int) ∈ xTbl := xIn_2 (List.mem_of_getElem? (i := 175) rfl) rfl
theorem gv_Lw_23 : GoodIn xTbl (wsV "RosterRulesLaw" 23 "RosterRules" y_RR_feed ws_RR_feed) := xGV wd_2_172 wd_2_173 wd_2_174 wd_1_1 wd_2_175
theorem hd_RR_feed : y_RR_feed.cls = "RosterRules" ∧ y_RR_feed.cls ≠ "java/lang/invoke/MethodHandle" ∧ y_RR_feed.cls ≠ "java/lang/invoke/VarHandle" ∧ (parseMethodDescriptor y_RR_feed.desc).map (fun d => d.parameters.length) = some 2 := by decide +kernel
theorem wd_5_173 : Cond.methodLink "RosterRulesLaw" 27 ⟨"RosterRulesModel", "feed", "(IJ)I"⟩ ∈ xTbl := xIn_5 (List.mem_of_getElem? (i := 173) (by decide +kernel)) rfl
theorem wd_5_174 : Cond.instanceMethod ⟨"RosterRulesModel", "feed", "(IJ)I"⟩ ∈ xTbl := xIn_5 (List.mem_of_getElem? (i := 174) (by decide +kernel)) rfl
theorem wd_5_175 : Cond.selects "RosterRulesModel" ⟨"RosterRulesModel", "feed", "(IJ)I"⟩ ⟨"RosterRulesModel", "feed", "(IJ)I"⟩ ∈ xTbl := xIn_5 (List.mem_of_getElem? (i := 175) (by decide +kernel)) rfl
theorem wd_5_176 : Cond.code ⟨"RosterRulesModel", "feed", "(IJ)I"⟩ prog_14_method_6_code 5 (some FieldType.int) ∈ xTbl := xIn_5 (List.mem_of_getElem? (i := 176) rfl) rfl
theorem gv_Lw_27 : GoodIn xTbl (wsV "RosterRulesLaw" 27 "RosterRulesModel" y_Mo_feed ws_Mo_feed) := xGV wd_5_173 wd_5_174 wd_5_175 wd_1_14 wd_5_176
theorem hd_Mo_feed : y_Mo_feed.cls = "RosterRulesModel" ∧ y_Mo_feed.cls ≠ "java/lang/invoke/MethodHandle" ∧ y_Mo_feed.cls ≠ "java/lang/invoke/VarHandle" ∧ (parseMethodDescriptor y_Mo_feed.desc).map (fun d => d.parameters.length) = some 2 := by decide +kernel
theorem wd_2_180 : Cond.methodLink "RosterRulesLaw" 28 ⟨"RosterRules", "read", "()I"⟩ ∈ xTbl := xIn_2 (List.mem_of_getElem? (i := 180) (by decide +kernel)) rfl
theorem wd_2_181 : Cond.instanceMethod ⟨"RosterRules", "read", "()I"⟩ ∈ xTbl := xIn_2 (List.mem_of_getElem? (i := 181) (by decide +kernel)) rfl
theorem wd_2_182 : Cond.selects "RosterRules" ⟨"RosterRules", "read", "()I"⟩ ⟨"RosterRules", "read", "()I"⟩ ∈ xTbl := xIn_2 (List.mem_of_getElem? (i := 182) (by decide +kernel)) rfl
theorem wd_2_183 : Cond.code ⟨"RosterRules", "read", "()I"⟩ prog_1_method_3_code 3 (some FieldType.int) ∈ xTbl := xIn_2 (List.mem_of_getElem? (i := 183) rfl) rfl
theorem gv_Lw_28 : GoodIn xTbl (wsV "RosterRulesLaw" 28 "RosterRules" y_RR_read ws_RR_read) := xGV wd_2_180 wd_2_181 wd_2_182 wd_1_1 wd_2_183
theorem hd_RR_read : y_RR_read.cls = "RosterRules" ∧ y_RR_read.cls ≠ "java/lang/invoke/MethodHandle" ∧ y_RR_read.cls ≠ "java/lang/invoke/VarHandle" ∧ (parseMethodDescriptor y_RR_read.desc).map (fun d => d.parameters.length) = some 0 := by decide +kernel
theorem wd_5_177 : Cond.methodLink "RosterRulesLaw" 32 ⟨"RosterRulesModel", "read", "()I"⟩ ∈ xTbl := xIn_5 (List.mem_of_getElem? (i := 177) (by decide +kernel)) rfl
theorem wd_5_178 : Cond.instanceMethod ⟨"RosterRulesModel", "read", "()I"⟩ ∈ xTbl := xIn_5 (List.mem_of_getElem? (i := 178) (by decide +kernel)) rfl
theorem wd_5_179 : Cond.selects "RosterRulesModel" ⟨"RosterRulesModel", "read", "()I"⟩ ⟨"RosterRulesModel", "read", "()I"⟩ ∈ xTbl := xIn_5 (List.mem_of_getElem? (i := 179) (by decide +kernel)) rfl
theorem wd_5_180 : Cond.code ⟨"RosterRulesModel", "read", "()I"⟩ prog_14_method_13_code 1 (some FieldType.int) ∈ xTbl := xIn_5 (List.mem_of_getElem? (i := 180) rfl) rfl
theorem gv_Lw_32 : GoodIn xTbl (wsV "RosterRulesLaw" 32 "RosterRulesModel" y_Mo_read ws_Mo_read) := xGV wd_5_177 wd_5_178 wd_5_179 wd_1_14 wd_5_180
theorem hd_Mo_read : y_Mo_read.cls = "RosterRulesModel" ∧ y_Mo_read.cls ≠ "java/lang/invoke/MethodHandle" ∧ y_Mo_read.cls ≠ "java/lang/invoke/VarHandle" ∧ (parseMethodDescriptor y_Mo_read.desc).map (fun d => d.parameters.length) = some 0 := by decide +kernel
theorem wd_3_150 : Cond.methodLink "RosterRulesLaw" 33 ⟨"RosterRules", "place", "()I"⟩ ∈ xTbl := xIn_3 (List.mem_of_getElem? (i := 150) (by decide +kernel)) rfl
theorem wd_3_151 : Cond.instanceMethod ⟨"RosterRules", "place", "()I"⟩ ∈ xTbl := xIn_3 (List.mem_of_getElem? (i := 151) (by decide +kernel)) rfl
theorem wd_3_152 : Cond.selects "RosterRules" ⟨"RosterRules", "place", "()I"⟩ ⟨"RosterRules", "place", "()I"⟩ ∈ xTbl := xIn_3 (List.mem_of_getElem? (i := 152) (by decide +kernel)) rfl
theorem wd_3_153 : Cond.code ⟨"RosterRules", "place", "()I"⟩ prog_1_method_4_code 1 (some FieldType.int) ∈ xTbl := xIn_3 (List.mem_of_getElem? (i := 153) rfl) rfl
theorem gv_Lw_33 : GoodIn xTbl (wsV "RosterRulesLaw" 33 "RosterRules" y_RR_place ws_RR_place) := xGV wd_3_150 wd_3_151 wd_3_152 wd_1_1 wd_3_153
theorem hd_RR_place : y_RR_place.cls = "RosterRules" ∧ y_RR_place.cls ≠ "java/lang/invoke/MethodHandle" ∧ y_RR_place.cls ≠ "java/lang/invoke/VarHandle" ∧ (parseMethodDescriptor y_RR_place.desc).map (fun d => d.parameters.length) = some 0 := by decide +kernel
theorem wd_6_86 : Cond.methodLink "RosterRulesLaw" 36 ⟨"RosterRulesModel", "place", "()I"⟩ ∈ xTbl := xIn_6 (List.mem_of_getElem? (i := 86) (by decide +kernel)) rfl
theorem wd_6_87 : Cond.instanceMethod ⟨"RosterRulesModel", "place", "()I"⟩ ∈ xTbl := xIn_6 (List.mem_of_getElem? (i := 87) (by decide +kernel)) rfl
theorem wd_6_88 : Cond.selects "RosterRulesModel" ⟨"RosterRulesModel", "place", "()I"⟩ ⟨"RosterRulesModel", "place", "()I"⟩ ∈ xTbl := xIn_6 (List.mem_of_getElem? (i := 88) (by decide +kernel)) rfl
theorem wd_6_89 : Cond.code ⟨"RosterRulesModel", "place", "()I"⟩ prog_14_method_44_code 1 (some FieldType.int) ∈ xTbl := xIn_6 (List.mem_of_getElem? (i := 89) rfl) rfl
theorem gv_Lw_36 : GoodIn xTbl (wsV "RosterRulesLaw" 36 "RosterRulesModel" y_Mo_place ws_Mo_place) := xGV wd_6_86 wd_6_87 wd_6_88 wd_1_14 wd_6_89
theorem hd_Mo_place : y_Mo_place.cls = "RosterRulesModel" ∧ y_Mo_place.cls ≠ "java/lang/invoke/MethodHandle" ∧ y_Mo_place.cls ≠ "java/lang/invoke/VarHandle" ∧ (parseMethodDescriptor y_Mo_place.desc).map (fun d => d.parameters.length) = some 0 := by decide +kernel
theorem wd_3_154 : Cond.methodLink "RosterRulesLaw" 37 ⟨"RosterRules", "shift", "(IIII)I"⟩ ∈ xTbl := xIn_3 (List.mem_of_getElem? (i := 154) (by decide +kernel)) rfl
theorem wd_3_155 : Cond.instanceMethod ⟨"RosterRules", "shift", "(IIII)I"⟩ ∈ xTbl := xIn_3 (List.mem_of_getElem? (i := 155) (by decide +kernel)) rfl
theorem wd_3_156 : Cond.selects "RosterRules" ⟨"RosterRules", "shift", "(IIII)I"⟩ ⟨"RosterRules", "shift", "(IIII)I"⟩ ∈ xTbl := xIn_3 (List.mem_of_getElem? (i := 156) (by decide +kernel)) rfl
theorem wd_3_157 : Cond.code ⟨"RosterRules", "shift", "(IIII)I"⟩ prog_1_method_5_code 5 (some FieldType.int) ∈ xTbl := xIn_3 (List.mem_of_getElem? (i := 157) rfl) rfl
theorem gv_Lw_37 : GoodIn xTbl (wsV "RosterRulesLaw" 37 "RosterRules" y_RR_shift ws_RR_shift) := xGV wd_3_154 wd_3_155 wd_3_156 wd_1_1 wd_3_157
theorem hd_RR_shift : y_RR_shift.cls = "RosterRules" ∧ y_RR_shift.cls ≠ "java/lang/invoke/MethodHandle" ∧ y_RR_shift.cls ≠ "java/lang/invoke/VarHandle" ∧ (parseMethodDescriptor y_RR_shift.desc).map (fun d => d.parameters.length) = some 4 := by decide +kernel
theorem wd_6_90 : Cond.methodLink "RosterRulesLaw" 41 ⟨"RosterRulesModel", "shift", "(IIII)I"⟩ ∈ xTbl := xIn_6 (List.mem_of_getElem? (i := 90) (by decide +kernel)) rfl
theorem wd_6_91 : Cond.instanceMethod ⟨"RosterRulesModel", "shift", "(IIII)I"⟩ ∈ xTbl := xIn_6 (List.mem_of_getElem? (i := 91) (by decide +kernel)) rfl
theorem wd_6_92 : Cond.selects "RosterRulesModel" ⟨"RosterRulesModel", "shift", "(IIII)I"⟩ ⟨"RosterRulesModel", "shift", "(IIII)I"⟩ ∈ xTbl := xIn_6 (List.mem_of_getElem? (i := 92) (by decide +kernel)) rfl
theorem wd_6_93 : Cond.code ⟨"RosterRulesModel", "shift", "(IIII)I"⟩ prog_14_method_45_code 5 (some FieldType.int) ∈ xTbl := xIn_6 (List.mem_of_getElem? (i := 93) rfl) rfl
theorem gv_Lw_41 : GoodIn xTbl (wsV "RosterRulesLaw" 41 "RosterRulesModel" y_Mo_shift ws_Mo_shift) := xGV wd_6_90 wd_6_91 wd_6_92 wd_1_14 wd_6_93
theorem hd_Mo_shift : y_Mo_shift.cls = "RosterRulesModel" ∧ y_Mo_shift.cls ≠ "java/lang/invoke/MethodHandle" ∧ y_Mo_shift.cls ≠ "java/lang/invoke/VarHandle" ∧ (parseMethodDescriptor y_Mo_shift.desc).map (fun d => d.parameters.length) = some 4 := by decide +kernel
theorem wd_3_162 : Cond.methodLink "RosterRulesLaw" 42 ⟨"RosterRules", "person", "(II)I"⟩ ∈ xTbl := xIn_3 (List.mem_of_getElem? (i := 162) (by decide +kernel)) rfl
theorem wd_3_163 : Cond.instanceMethod ⟨"RosterRules", "person", "(II)I"⟩ ∈ xTbl := xIn_3 (List.mem_of_getElem? (i := 163) (by decide +kernel)) rfl
theorem wd_3_164 : Cond.selects "RosterRules" ⟨"RosterRules", "person", "(II)I"⟩ ⟨"RosterRules", "person", "(II)I"⟩ ∈ xTbl := xIn_3 (List.mem_of_getElem? (i := 164) (by decide +kernel)) rfl
theorem wd_3_165 : Cond.code ⟨"RosterRules", "person", "(II)I"⟩ prog_1_method_6_code 3 (some FieldType.int) ∈ xTbl := xIn_3 (List.mem_of_getElem? (i := 165) rfl) rfl
theorem gv_Lw_42 : GoodIn xTbl (wsV "RosterRulesLaw" 42 "RosterRules" y_RR_person ws_RR_person) := xGV wd_3_162 wd_3_163 wd_3_164 wd_1_1 wd_3_165
theorem hd_RR_person : y_RR_person.cls = "RosterRules" ∧ y_RR_person.cls ≠ "java/lang/invoke/MethodHandle" ∧ y_RR_person.cls ≠ "java/lang/invoke/VarHandle" ∧ (parseMethodDescriptor y_RR_person.desc).map (fun d => d.parameters.length) = some 2 := by decide +kernel
theorem wd_6_94 : Cond.methodLink "RosterRulesLaw" 46 ⟨"RosterRulesModel", "person", "(II)I"⟩ ∈ xTbl := xIn_6 (List.mem_of_getElem? (i := 94) (by decide +kernel)) rfl
theorem wd_6_95 : Cond.instanceMethod ⟨"RosterRulesModel", "person", "(II)I"⟩ ∈ xTbl := xIn_6 (List.mem_of_getElem? (i := 95) (by decide +kernel)) rfl
theorem wd_6_96 : Cond.selects "RosterRulesModel" ⟨"RosterRulesModel", "person", "(II)I"⟩ ⟨"RosterRulesModel", "person", "(II)I"⟩ ∈ xTbl := xIn_6 (List.mem_of_getElem? (i := 96) (by decide +kernel)) rfl
theorem wd_6_97 : Cond.code ⟨"RosterRulesModel", "person", "(II)I"⟩ prog_14_method_46_code 3 (some FieldType.int) ∈ xTbl := xIn_6 (List.mem_of_getElem? (i := 97) rfl) rfl
theorem gv_Lw_46 : GoodIn xTbl (wsV "RosterRulesLaw" 46 "RosterRulesModel" y_Mo_person ws_Mo_person) := xGV wd_6_94 wd_6_95 wd_6_96 wd_1_14 wd_6_97
theorem hd_Mo_person : y_Mo_person.cls = "RosterRulesModel" ∧ y_Mo_person.cls ≠ "java/lang/invoke/MethodHandle" ∧ y_Mo_person.cls ≠ "java/lang/invoke/VarHandle" ∧ (parseMethodDescriptor y_Mo_person.desc).map (fun d => d.parameters.length) = some 2 := by decide +kernel
theorem wd_3_170 : Cond.methodLink "RosterRulesLaw" 47 ⟨"RosterRules", "past", "(III)I"⟩ ∈ xTbl := xIn_3 (List.mem_of_getElem? (i := 170) (by decide +kernel)) rfl
theorem wd_3_171 : Cond.instanceMethod ⟨"RosterRules", "past", "(III)I"⟩ ∈ xTbl := xIn_3 (List.mem_of_getElem? (i := 171) (by decide +kernel)) rfl
theorem wd_3_172 : Cond.selects "RosterRules" ⟨"RosterRules", "past", "(III)I"⟩ ⟨"RosterRules", "past", "(III)I"⟩ ∈ xTbl := xIn_3 (List.mem_of_getElem? (i := 172) (by decide +kernel)) rfl
theorem wd_3_173 : Cond.code ⟨"RosterRules", "past", "(III)I"⟩ prog_1_method_7_code 5 (some FieldType.int) ∈ xTbl := xIn_3 (List.mem_of_getElem? (i := 173) rfl) rfl
theorem gv_Lw_47 : GoodIn xTbl (wsV "RosterRulesLaw" 47 "RosterRules" y_RR_past ws_RR_past) := xGV wd_3_170 wd_3_171 wd_3_172 wd_1_1 wd_3_173
theorem hd_RR_past : y_RR_past.cls = "RosterRules" ∧ y_RR_past.cls ≠ "java/lang/invoke/MethodHandle" ∧ y_RR_past.cls ≠ "java/lang/invoke/VarHandle" ∧ (parseMethodDescriptor y_RR_past.desc).map (fun d => d.parameters.length) = some 3 := by decide +kernel
theorem wd_6_102 : Cond.methodLink "RosterRulesLaw" 51 ⟨"RosterRulesModel", "past", "(III)I"⟩ ∈ xTbl := xIn_6 (List.mem_of_getElem? (i := 102) (by decide +kernel)) rfl
theorem wd_6_103 : Cond.instanceMethod ⟨"RosterRulesModel", "past", "(III)I"⟩ ∈ xTbl := xIn_6 (List.mem_of_getElem? (i := 103) (by decide +kernel)) rfl
theorem wd_6_104 : Cond.selects "RosterRulesModel" ⟨"RosterRulesModel", "past", "(III)I"⟩ ⟨"RosterRulesModel", "past", "(III)I"⟩ ∈ xTbl := xIn_6 (List.mem_of_getElem? (i := 104) (by decide +kernel)) rfl
theorem wd_6_105 : Cond.code ⟨"RosterRulesModel", "past", "(III)I"⟩ prog_14_method_47_code 5 (some FieldType.int) ∈ xTbl := xIn_6 (List.mem_of_getElem? (i := 105) rfl) rfl
theorem gv_Lw_51 : GoodIn xTbl (wsV "RosterRulesLaw" 51 "RosterRulesModel" y_Mo_past ws_Mo_past) := xGV wd_6_102 wd_6_103 wd_6_104 wd_1_14 wd_6_105
theorem hd_Mo_past : y_Mo_past.cls = "RosterRulesModel" ∧ y_Mo_past.cls ≠ "java/lang/invoke/MethodHandle" ∧ y_Mo_past.cls ≠ "java/lang/invoke/VarHandle" ∧ (parseMethodDescriptor y_Mo_past.desc).map (fun d => d.parameters.length) = some 3 := by decide +kernel
theorem wd_3_178 : Cond.methodLink "RosterRulesLaw" 52 ⟨"RosterRules", "wish", "(IIII)I"⟩ ∈ xTbl := xIn_3 (List.mem_of_getElem? (i := 178) (by decide +kernel)) rfl
theorem wd_3_179 : Cond.instanceMethod ⟨"RosterRules", "wish", "(IIII)I"⟩ ∈ xTbl := xIn_3 (List.mem_of_getElem? (i := 179) (by decide +kernel)) rfl
theorem wd_3_180 : Cond.selects "RosterRules" ⟨"RosterRules", "wish", "(IIII)I"⟩ ⟨"RosterRules", "wish", "(IIII)I"⟩ ∈ xTbl := xIn_3 (List.mem_of_getElem? (i := 180) (by decide +kernel)) rfl
theorem wd_3_181 : Cond.code ⟨"RosterRules", "wish", "(IIII)I"⟩ prog_1_method_8_code 5 (some FieldType.int) ∈ xTbl := xIn_3 (List.mem_of_getElem? (i := 181) rfl) rfl
theorem gv_Lw_52 : GoodIn xTbl (wsV "RosterRulesLaw" 52 "RosterRules" y_RR_wish ws_RR_wish) := xGV wd_3_178 wd_3_179 wd_3_180 wd_1_1 wd_3_181
theorem hd_RR_wish : y_RR_wish.cls = "RosterRules" ∧ y_RR_wish.cls ≠ "java/lang/invoke/MethodHandle" ∧ y_RR_wish.cls ≠ "java/lang/invoke/VarHandle" ∧ (parseMethodDescriptor y_RR_wish.desc).map (fun d => d.parameters.length) = some 4 := by decide +kernel
theorem wd_6_109 : Cond.methodLink "RosterRulesLaw" 55 ⟨"RosterRulesModel", "wish", "(IIII)I"⟩ ∈ xTbl := xIn_6 (List.mem_of_getElem? (i := 109) (by decide +kernel)) rfl
theorem wd_6_110 : Cond.instanceMethod ⟨"RosterRulesModel", "wish", "(IIII)I"⟩ ∈ xTbl := xIn_6 (List.mem_of_getElem? (i := 110) (by decide +kernel)) rfl
theorem wd_6_111 : Cond.selects "RosterRulesModel" ⟨"RosterRulesModel", "wish", "(IIII)I"⟩ ⟨"RosterRulesModel", "wish", "(IIII)I"⟩ ∈ xTbl := xIn_6 (List.mem_of_getElem? (i := 111) (by decide +kernel)) rfl
theorem wd_6_112 : Cond.code ⟨"RosterRulesModel", "wish", "(IIII)I"⟩ prog_14_method_48_code 5 (some FieldType.int) ∈ xTbl := xIn_6 (List.mem_of_getElem? (i := 112) rfl) rfl
theorem gv_Lw_55 : GoodIn xTbl (wsV "RosterRulesLaw" 55 "RosterRulesModel" y_Mo_wish ws_Mo_wish) := xGV wd_6_109 wd_6_110 wd_6_111 wd_1_14 wd_6_112
theorem hd_Mo_wish : y_Mo_wish.cls = "RosterRulesModel" ∧ y_Mo_wish.cls ≠ "java/lang/invoke/MethodHandle" ∧ y_Mo_wish.cls ≠ "java/lang/invoke/VarHandle" ∧ (parseMethodDescriptor y_Mo_wish.desc).map (fun d => d.parameters.length) = some 4 := by decide +kernel
theorem wd_3_194 : Cond.methodLink "RosterRulesLaw" 56 ⟨"RosterRules", "at", "(II)I"⟩ ∈ xTbl := xIn_3 (List.mem_of_getElem? (i := 194) (by decide +kernel)) rfl
theorem wd_3_195 : Cond.instanceMethod ⟨"RosterRules", "at", "(II)I"⟩ ∈ xTbl := xIn_3 (List.mem_of_getElem? (i := 195) (by decide +kernel)) rfl
theorem wd_3_196 : Cond.selects "RosterRules" ⟨"RosterRules", "at", "(II)I"⟩ ⟨"RosterRules", "at", "(II)I"⟩ ∈ xTbl := xIn_3 (List.mem_of_getElem? (i := 196) (by decide +kernel)) rfl
theorem wd_3_197 : Cond.code ⟨"RosterRules", "at", "(II)I"⟩ prog_1_method_9_code 3 (some FieldType.int) ∈ xTbl := xIn_3 (List.mem_of_getElem? (i := 197) rfl) rfl
theorem gv_Lw_56 : GoodIn xTbl (wsV "RosterRulesLaw" 56 "RosterRules" y_RR_at ws_RR_at) := xGV wd_3_194 wd_3_195 wd_3_196 wd_1_1 wd_3_197
theorem hd_RR_at : y_RR_at.cls = "RosterRules" ∧ y_RR_at.cls ≠ "java/lang/invoke/MethodHandle" ∧ y_RR_at.cls ≠ "java/lang/invoke/VarHandle" ∧ (parseMethodDescriptor y_RR_at.desc).map (fun d => d.parameters.length) = some 2 := by decide +kernel
theorem wd_6_117 : Cond.methodLink "RosterRulesLaw" 59 ⟨"RosterRulesModel", "at", "(II)I"⟩ ∈ xTbl := xIn_6 (List.mem_of_getElem? (i := 117) (by decide +kernel)) rfl
theorem wd_6_118 : Cond.instanceMethod ⟨"RosterRulesModel", "at", "(II)I"⟩ ∈ xTbl := xIn_6 (List.mem_of_getElem? (i := 118) (by decide +kernel)) rfl
theorem wd_6_119 : Cond.selects "RosterRulesModel" ⟨"RosterRulesModel", "at", "(II)I"⟩ ⟨"RosterRulesModel", "at", "(II)I"⟩ ∈ xTbl := xIn_6 (List.mem_of_getElem? (i := 119) (by decide +kernel)) rfl
theorem wd_6_120 : Cond.code ⟨"RosterRulesModel", "at", "(II)I"⟩ prog_14_method_49_code 3 (some FieldType.int) ∈ xTbl := xIn_6 (List.mem_of_getElem? (i := 120) rfl) rfl
theorem gv_Lw_59 : GoodIn xTbl (wsV "RosterRulesLaw" 59 "RosterRulesModel" y_Mo_at ws_Mo_at) := xGV wd_6_117 wd_6_118 wd_6_119 wd_1_14 wd_6_120
theorem hd_Mo_at : y_Mo_at.cls = "RosterRulesModel" ∧ y_Mo_at.cls ≠ "java/lang/invoke/MethodHandle" ∧ y_Mo_at.cls ≠ "java/lang/invoke/VarHandle" ∧ (parseMethodDescriptor y_Mo_at.desc).map (fun d => d.parameters.length) = some 2 := by decide +kernel
theorem wd_3_202 : Cond.methodLink "RosterRulesLaw" 60 ⟨"RosterRules", "put", "(III)J"⟩ ∈ xTbl := xIn_3 (List.mem_of_getElem? (i := 202) (by decide +kernel)) rfl
theorem wd_3_203 : Cond.instanceMethod ⟨"RosterRules", "put", "(III)J"⟩ ∈ xTbl := xIn_3 (List.mem_of_getElem? (i := 203) (by decide +kernel)) rfl
theorem wd_3_204 : Cond.selects "RosterRules" ⟨"RosterRules", "put", "(III)J"⟩ ⟨"RosterRules", "put", "(III)J"⟩ ∈ xTbl := xIn_3 (List.mem_of_getElem? (i := 204) (by decide +kernel)) rfl
theorem wd_3_205 : Cond.code ⟨"RosterRules", "put", "(III)J"⟩ prog_1_method_10_code 6 (some FieldType.long) ∈ xTbl := xIn_3 (List.mem_of_getElem? (i := 205) rfl) rfl
theorem gv_Lw_60 : GoodIn xTbl (wsV "RosterRulesLaw" 60 "RosterRules" y_RR_put ws_RR_put) := xGV wd_3_202 wd_3_203 wd_3_204 wd_1_1 wd_3_205
theorem hd_RR_put : y_RR_put.cls = "RosterRules" ∧ y_RR_put.cls ≠ "java/lang/invoke/MethodHandle" ∧ y_RR_put.cls ≠ "java/lang/invoke/VarHandle" ∧ (parseMethodDescriptor y_RR_put.desc).map (fun d => d.parameters.length) = some 3 := by decide +kernel
theorem wd_6_176 : Cond.methodLink "RosterRulesLaw" 64 ⟨"RosterRulesModel", "put", "(III)J"⟩ ∈ xTbl := xIn_6 (List.mem_of_getElem? (i := 176) (by decide +kernel)) rfl
theorem wd_6_177 : Cond.instanceMethod ⟨"RosterRulesModel", "put", "(III)J"⟩ ∈ xTbl := xIn_6 (List.mem_of_getElem? (i := 177) (by decide +kernel)) rfl
theorem wd_6_178 : Cond.selects "RosterRulesModel" ⟨"RosterRulesModel", "put", "(III)J"⟩ ⟨"RosterRulesModel", "put", "(III)J"⟩ ∈ xTbl := xIn_6 (List.mem_of_getElem? (i := 178) (by decide +kernel)) rfl
theorem wd_6_179 : Cond.code ⟨"RosterRulesModel", "put", "(III)J"⟩ prog_14_method_62_code 6 (some FieldType.long) ∈ xTbl := xIn_6 (List.mem_of_getElem? (i := 179) rfl) rfl
theorem gv_Lw_64 : GoodIn xTbl (wsV "RosterRulesLaw" 64 "RosterRulesModel" y_Mo_put ws_Mo_put) := xGV wd_6_176 wd_6_177 wd_6_178 wd_1_14 wd_6_179
theorem hd_Mo_put : y_Mo_put.cls = "RosterRulesModel" ∧ y_Mo_put.cls ≠ "java/lang/invoke/MethodHandle" ∧ y_Mo_put.cls ≠ "java/lang/invoke/VarHandle" ∧ (parseMethodDescriptor y_Mo_put.desc).map (fun d => d.parameters.length) = some 3 := by decide +kernel
theorem wd_4_47 : Cond.methodLink "RosterRulesLaw" 65 ⟨"RosterRules", "change", "(III)J"⟩ ∈ xTbl := xIn_4 (List.mem_of_getElem? (i := 47) (by decide +kernel)) rfl
theorem wd_4_48 : Cond.instanceMethod ⟨"RosterRules", "change", "(III)J"⟩ ∈ xTbl := xIn_4 (List.mem_of_getElem? (i := 48) (by decide +kernel)) rfl
theorem wd_4_49 : Cond.selects "RosterRules" ⟨"RosterRules", "change", "(III)J"⟩ ⟨"RosterRules", "change", "(III)J"⟩ ∈ xTbl := xIn_4 (List.mem_of_getElem? (i := 49) (by decide +kernel)) rfl
theorem wd_4_50 : Cond.code ⟨"RosterRules", "change", "(III)J"⟩ prog_1_method_11_code 4 (some FieldType.long) ∈ xTbl := xIn_4 (List.mem_of_getElem? (i := 50) rfl) rfl
theorem gv_Lw_65 : GoodIn xTbl (wsV "RosterRulesLaw" 65 "RosterRules" y_RR_change ws_RR_change) := xGV wd_4_47 wd_4_48 wd_4_49 wd_1_1 wd_4_50
theorem hd_RR_change : y_RR_change.cls = "RosterRules" ∧ y_RR_change.cls ≠ "java/lang/invoke/MethodHandle" ∧ y_RR_change.cls ≠ "java/lang/invoke/VarHandle" ∧ (parseMethodDescriptor y_RR_change.desc).map (fun d => d.parameters.length) = some 3 := by decide +kernel
theorem wd_6_163 : Cond.methodLink "RosterRulesLaw" 68 ⟨"RosterRulesModel", "change", "(III)J"⟩ ∈ xTbl := xIn_6 (List.mem_of_getElem? (i := 163) (by decide +kernel)) rfl
theorem wd_6_164 : Cond.instanceMethod ⟨"RosterRulesModel", "change", "(III)J"⟩ ∈ xTbl := xIn_6 (List.mem_of_getElem? (i := 164) (by decide +kernel)) rfl
theorem wd_6_165 : Cond.selects "RosterRulesModel" ⟨"RosterRulesModel", "change", "(III)J"⟩ ⟨"RosterRulesModel", "change", "(III)J"⟩ ∈ xTbl := xIn_6 (List.mem_of_getElem? (i := 165) (by decide +kernel)) rfl
theorem wd_6_166 : Cond.code ⟨"RosterRulesModel", "change", "(III)J"⟩ prog_14_method_61_code 4 (some FieldType.long) ∈ xTbl := xIn_6 (List.mem_of_getElem? (i := 166) rfl) rfl
theorem gv_Lw_68 : GoodIn xTbl (wsV "RosterRulesLaw" 68 "RosterRulesModel" y_Mo_change ws_Mo_change) := xGV wd_6_163 wd_6_164 wd_6_165 wd_1_14 wd_6_166
theorem hd_Mo_change : y_Mo_change.cls = "RosterRulesModel" ∧ y_Mo_change.cls ≠ "java/lang/invoke/MethodHandle" ∧ y_Mo_change.cls ≠ "java/lang/invoke/VarHandle" ∧ (parseMethodDescriptor y_Mo_change.desc).map (fun d => d.parameters.length) = some 3 := by decide +kernel
theorem wd_4_51 : Cond.methodLink "RosterRulesLaw" 69 ⟨"RosterRules", "undo", "()I"⟩ ∈ xTbl := xIn_4 (List.mem_of_getElem? (i := 51) (by decide +kernel)) rfl
theorem wd_4_52 : Cond.instanceMethod ⟨"RosterRules", "undo", "()I"⟩ ∈ xTbl := xIn_4 (List.mem_of_getElem? (i := 52) (by decide +kernel)) rfl
theorem wd_4_53 : Cond.selects "RosterRules" ⟨"RosterRules", "undo", "()I"⟩ ⟨"RosterRules", "undo", "()I"⟩ ∈ xTbl := xIn_4 (List.mem_of_getElem? (i := 53) (by decide +kernel)) rfl
theorem wd_4_54 : Cond.code ⟨"RosterRules", "undo", "()I"⟩ prog_1_method_12_code 2 (some FieldType.int) ∈ xTbl := xIn_4 (List.mem_of_getElem? (i := 54) rfl) rfl
theorem gv_Lw_69 : GoodIn xTbl (wsV "RosterRulesLaw" 69 "RosterRules" y_RR_undo ws_RR_undo) := xGV wd_4_51 wd_4_52 wd_4_53 wd_1_1 wd_4_54
theorem hd_RR_undo : y_RR_undo.cls = "RosterRules" ∧ y_RR_undo.cls ≠ "java/lang/invoke/MethodHandle" ∧ y_RR_undo.cls ≠ "java/lang/invoke/VarHandle" ∧ (parseMethodDescriptor y_RR_undo.desc).map (fun d => d.parameters.length) = some 0 := by decide +kernel
theorem wd_6_184 : Cond.methodLink "RosterRulesLaw" 72 ⟨"RosterRulesModel", "undo", "()I"⟩ ∈ xTbl := xIn_6 (List.mem_of_getElem? (i := 184) (by decide +kernel)) rfl
theorem wd_6_185 : Cond.instanceMethod ⟨"RosterRulesModel", "undo", "()I"⟩ ∈ xTbl := xIn_6 (List.mem_of_getElem? (i := 185) (by decide +kernel)) rfl
theorem wd_6_186 : Cond.selects "RosterRulesModel" ⟨"RosterRulesModel", "undo", "()I"⟩ ⟨"RosterRulesModel", "undo", "()I"⟩ ∈ xTbl := xIn_6 (List.mem_of_getElem? (i := 186) (by decide +kernel)) rfl
theorem wd_6_187 : Cond.code ⟨"RosterRulesModel", "undo", "()I"⟩ prog_14_method_64_code 2 (some FieldType.int) ∈ xTbl := xIn_6 (List.mem_of_getElem? (i := 187) rfl) rfl
theorem gv_Lw_72 : GoodIn xTbl (wsV "RosterRulesLaw" 72 "RosterRulesModel" y_Mo_undo ws_Mo_undo) := xGV wd_6_184 wd_6_185 wd_6_186 wd_1_14 wd_6_187
theorem hd_Mo_undo : y_Mo_undo.cls = "RosterRulesModel" ∧ y_Mo_undo.cls ≠ "java/lang/invoke/MethodHandle" ∧ y_Mo_undo.cls ≠ "java/lang/invoke/VarHandle" ∧ (parseMethodDescriptor y_Mo_undo.desc).map (fun d => d.parameters.length) = some 0 := by decide +kernel
theorem wd_4_59 : Cond.methodLink "RosterRulesLaw" 73 ⟨"RosterRules", "best", "(II)I"⟩ ∈ xTbl := xIn_4 (List.mem_of_getElem? (i := 59) (by decide +kernel)) rfl
theorem wd_4_60 : Cond.instanceMethod ⟨"RosterRules", "best", "(II)I"⟩ ∈ xTbl := xIn_4 (List.mem_of_getElem? (i := 60) (by decide +kernel)) rfl
theorem wd_4_61 : Cond.selects "RosterRules" ⟨"RosterRules", "best", "(II)I"⟩ ⟨"RosterRules", "best", "(II)I"⟩ ∈ xTbl := xIn_4 (List.mem_of_getElem? (i := 61) (by decide +kernel)) rfl
theorem wd_4_62 : Cond.code ⟨"RosterRules", "best", "(II)I"⟩ prog_1_method_13_code 3 (some FieldType.int) ∈ xTbl := xIn_4 (List.mem_of_getElem? (i := 62) rfl) rfl
theorem gv_Lw_73 : GoodIn xTbl (wsV "RosterRulesLaw" 73 "RosterRules" y_RR_best ws_RR_best) := xGV wd_4_59 wd_4_60 wd_4_61 wd_1_1 wd_4_62
theorem hd_RR_best : y_RR_best.cls = "RosterRules" ∧ y_RR_best.cls ≠ "java/lang/invoke/MethodHandle" ∧ y_RR_best.cls ≠ "java/lang/invoke/VarHandle" ∧ (parseMethodDescriptor y_RR_best.desc).map (fun d => d.parameters.length) = some 2 := by decide +kernel
theorem wd_6_188 : Cond.methodLink "RosterRulesLaw" 76 ⟨"RosterRulesModel", "best", "(II)I"⟩ ∈ xTbl := xIn_6 (List.mem_of_getElem? (i := 188) (by decide +kernel)) rfl
theorem wd_6_189 : Cond.instanceMethod ⟨"RosterRulesModel", "best", "(II)I"⟩ ∈ xTbl := xIn_6 (List.mem_of_getElem? (i := 189) (by decide +kernel)) rfl
theorem wd_6_190 : Cond.selects "RosterRulesModel" ⟨"RosterRulesModel", "best", "(II)I"⟩ ⟨"RosterRulesModel", "best", "(II)I"⟩ ∈ xTbl := xIn_6 (List.mem_of_getElem? (i := 190) (by decide +kernel)) rfl
theorem wd_6_191 : Cond.code ⟨"RosterRulesModel", "best", "(II)I"⟩ prog_14_method_65_code 5 (some FieldType.int) ∈ xTbl := xIn_6 (List.mem_of_getElem? (i := 191) rfl) rfl
theorem gv_Lw_76 : GoodIn xTbl (wsV "RosterRulesLaw" 76 "RosterRulesModel" y_Mo_best ws_Mo_best) := xGV wd_6_188 wd_6_189 wd_6_190 wd_1_14 wd_6_191
theorem hd_Mo_best : y_Mo_best.cls = "RosterRulesModel" ∧ y_Mo_best.cls ≠ "java/lang/invoke/MethodHandle" ∧ y_Mo_best.cls ≠ "java/lang/invoke/VarHandle" ∧ (parseMethodDescriptor y_Mo_best.desc).map (fun d => d.parameters.length) = some 2 := by decide +kernel
theorem wd_4_67 : Cond.methodLink "RosterRulesLaw" 77 ⟨"RosterRules", "descend", "(I)I"⟩ ∈ xTbl := xIn_4 (List.mem_of_getElem? (i := 67) (by decide +kernel)) rfl
theorem wd_4_68 : Cond.instanceMethod ⟨"RosterRules", "descend", "(I)I"⟩ ∈ xTbl := xIn_4 (List.mem_of_getElem? (i := 68) (by decide +kernel)) rfl
theorem wd_4_69 : Cond.selects "RosterRules" ⟨"RosterRules", "descend", "(I)I"⟩ ⟨"RosterRules", "descend", "(I)I"⟩ ∈ xTbl := xIn_4 (List.mem_of_getElem? (i := 69) (by decide +kernel)) rfl
theorem wd_4_70 : Cond.code ⟨"RosterRules", "descend", "(I)I"⟩ prog_1_method_14_code 3 (some FieldType.int) ∈ xTbl := xIn_4 (List.mem_of_getElem? (i := 70) rfl) rfl
theorem gv_Lw_77 : GoodIn xTbl (wsV "RosterRulesLaw" 77 "RosterRules" y_RR_descend ws_RR_descend) := xGV wd_4_67 wd_4_68 wd_4_69 wd_1_1 wd_4_70
theorem hd_RR_descend : y_RR_descend.cls = "RosterRules" ∧ y_RR_descend.cls ≠ "java/lang/invoke/MethodHandle" ∧ y_RR_descend.cls ≠ "java/lang/invoke/VarHandle" ∧ (parseMethodDescriptor y_RR_descend.desc).map (fun d => d.parameters.length) = some 1 := by decide +kernel
theorem wd_6_192 : Cond.methodLink "RosterRulesLaw" 81 ⟨"RosterRulesModel", "descend", "(I)I"⟩ ∈ xTbl := xIn_6 (List.mem_of_getElem? (i := 192) (by decide +kernel)) rfl
theorem wd_6_193 : Cond.instanceMethod ⟨"RosterRulesModel", "descend", "(I)I"⟩ ∈ xTbl := xIn_6 (List.mem_of_getElem? (i := 193) (by decide +kernel)) rfl
theorem wd_6_194 : Cond.selects "RosterRulesModel" ⟨"RosterRulesModel", "descend", "(I)I"⟩ ⟨"RosterRulesModel", "descend", "(I)I"⟩ ∈ xTbl := xIn_6 (List.mem_of_getElem? (i := 194) (by decide +kernel)) rfl
theorem wd_6_195 : Cond.code ⟨"RosterRulesModel", "descend", "(I)I"⟩ prog_14_method_66_code 13 (some FieldType.int) ∈ xTbl := xIn_6 (List.mem_of_getElem? (i := 195) rfl) rfl
theorem gv_Lw_81 : GoodIn xTbl (wsV "RosterRulesLaw" 81 "RosterRulesModel" y_Mo_descend ws_Mo_descend) := xGV wd_6_192 wd_6_193 wd_6_194 wd_1_14 wd_6_195
theorem hd_Mo_descend : y_Mo_descend.cls = "RosterRulesModel" ∧ y_Mo_descend.cls ≠ "java/lang/invoke/MethodHandle" ∧ y_Mo_descend.cls ≠ "java/lang/invoke/VarHandle" ∧ (parseMethodDescriptor y_Mo_descend.desc).map (fun d => d.parameters.length) = some 1 := by decide +kernel
theorem wd_4_75 : Cond.methodLink "RosterRulesLaw" 82 ⟨"RosterRules", "broken", "(II)J"⟩ ∈ xTbl := xIn_4 (List.mem_of_getElem? (i := 75) (by decide +kernel)) rfl
theorem wd_4_76 : Cond.instanceMethod ⟨"RosterRules", "broken", "(II)J"⟩ ∈ xTbl := xIn_4 (List.mem_of_getElem? (i := 76) (by decide +kernel)) rfl
theorem wd_4_77 : Cond.selects "RosterRules" ⟨"RosterRules", "broken", "(II)J"⟩ ⟨"RosterRules", "broken", "(II)J"⟩ ∈ xTbl := xIn_4 (List.mem_of_getElem? (i := 77) (by decide +kernel)) rfl
theorem wd_4_78 : Cond.code ⟨"RosterRules", "broken", "(II)J"⟩ prog_1_method_15_code 4 (some FieldType.long) ∈ xTbl := xIn_4 (List.mem_of_getElem? (i := 78) rfl) rfl
theorem gv_Lw_82 : GoodIn xTbl (wsV "RosterRulesLaw" 82 "RosterRules" y_RR_broken ws_RR_broken) := xGV wd_4_75 wd_4_76 wd_4_77 wd_1_1 wd_4_78
theorem hd_RR_broken : y_RR_broken.cls = "RosterRules" ∧ y_RR_broken.cls ≠ "java/lang/invoke/MethodHandle" ∧ y_RR_broken.cls ≠ "java/lang/invoke/VarHandle" ∧ (parseMethodDescriptor y_RR_broken.desc).map (fun d => d.parameters.length) = some 2 := by decide +kernel
theorem wd_6_121 : Cond.methodLink "RosterRulesLaw" 86 ⟨"RosterRulesModel", "broken", "(II)J"⟩ ∈ xTbl := xIn_6 (List.mem_of_getElem? (i := 121) (by decide +kernel)) rfl
theorem gv_Lw_86 : GoodIn xTbl (wsV "RosterRulesLaw" 86 "RosterRulesModel" y_Mo_broken ws_Mo_broken) := xGV wd_6_121 wd_6_122 wd_6_123 wd_1_14 wd_6_124
theorem wd_4_94 : Cond.methodLink "RosterRulesLaw" 87 ⟨"RosterRules", "score", "()J"⟩ ∈ xTbl := xIn_4 (List.mem_of_getElem? (i := 94) (by decide +kernel)) rfl
theorem wd_4_95 : Cond.instanceMethod ⟨"RosterRules", "score", "()J"⟩ ∈ xTbl := xIn_4 (List.mem_of_getElem? (i := 95) (by decide +kernel)) rfl
theorem wd_4_96 : Cond.selects "RosterRules" ⟨"RosterRules", "score", "()J"⟩ ⟨"RosterRules", "score", "()J"⟩ ∈ xTbl := xIn_4 (List.mem_of_getElem? (i := 96) (by decide +kernel)) rfl
theorem wd_4_97 : Cond.code ⟨"RosterRules", "score", "()J"⟩ prog_1_method_16_code 4 (some FieldType.long) ∈ xTbl := xIn_4 (List.mem_of_getElem? (i := 97) rfl) rfl
theorem gv_Lw_87 : GoodIn xTbl (wsV "RosterRulesLaw" 87 "RosterRules" y_RR_score ws_RR_score) := xGV wd_4_94 wd_4_95 wd_4_96 wd_1_1 wd_4_97
theorem hd_RR_score : y_RR_score.cls = "RosterRules" ∧ y_RR_score.cls ≠ "java/lang/invoke/MethodHandle" ∧ y_RR_score.cls ≠ "java/lang/invoke/VarHandle" ∧ (parseMethodDescriptor y_RR_score.desc).map (fun d => d.parameters.length) = some 0 := by decide +kernel
theorem wd_6_154 : Cond.methodLink "RosterRulesLaw" 91 ⟨"RosterRulesModel", "score", "()J"⟩ ∈ xTbl := xIn_6 (List.mem_of_getElem? (i := 154) (by decide +kernel)) rfl
theorem wd_6_155 : Cond.instanceMethod ⟨"RosterRulesModel", "score", "()J"⟩ ∈ xTbl := xIn_6 (List.mem_of_getElem? (i := 155) (by decide +kernel)) rfl
theorem wd_6_156 : Cond.selects "RosterRulesModel" ⟨"RosterRulesModel", "score", "()J"⟩ ⟨"RosterRulesModel", "score", "()J"⟩ ∈ xTbl := xIn_6 (List.mem_of_getElem? (i := 156) (by decide +kernel)) rfl
theorem wd_6_157 : Cond.code ⟨"RosterRulesModel", "score", "()J"⟩ prog_14_method_58_code 5 (some FieldType.long) ∈ xTbl := xIn_6 (List.mem_of_getElem? (i := 157) rfl) rfl
theorem gv_Lw_91 : GoodIn xTbl (wsV "RosterRulesLaw" 91 "RosterRulesModel" y_Mo_score ws_Mo_score) := xGV wd_6_154 wd_6_155 wd_6_156 wd_1_14 wd_6_157
theorem hd_Mo_score : y_Mo_score.cls = "RosterRulesModel" ∧ y_Mo_score.cls ≠ "java/lang/invoke/MethodHandle" ∧ y_Mo_score.cls ≠ "java/lang/invoke/VarHandle" ∧ (parseMethodDescriptor y_Mo_score.desc).map (fun d => d.parameters.length) = some 0 := by decide +kernel
theorem wd_4_103 : Cond.methodLink "RosterRulesLaw" 92 ⟨"RosterRules", "minutes", "(III)J"⟩ ∈ xTbl := xIn_4 (List.mem_of_getElem? (i := 103) (by decide +kernel)) rfl
theorem wd_4_104 : Cond.instanceMethod ⟨"RosterRules", "minutes", "(III)J"⟩ ∈ xTbl := xIn_4 (List.mem_of_getElem? (i := 104) (by decide +kernel)) rfl
theorem wd_4_105 : Cond.selects "RosterRules" ⟨"RosterRules", "minutes", "(III)J"⟩ ⟨"RosterRules", "minutes", "(III)J"⟩ ∈ xTbl := xIn_4 (List.mem_of_getElem? (i := 105) (by decide +kernel)) rfl
theorem wd_4_106 : Cond.code ⟨"RosterRules", "minutes", "(III)J"⟩ prog_1_method_17_code 4 (some FieldType.long) ∈ xTbl := xIn_4 (List.mem_of_getElem? (i := 106) rfl) rfl
theorem gv_Lw_92 : GoodIn xTbl (wsV "RosterRulesLaw" 92 "RosterRules" y_RR_minutes ws_RR_minutes) := xGV wd_4_103 wd_4_104 wd_4_105 wd_1_1 wd_4_106
theorem hd_RR_minutes : y_RR_minutes.cls = "RosterRules" ∧ y_RR_minutes.cls ≠ "java/lang/invoke/MethodHandle" ∧ y_RR_minutes.cls ≠ "java/lang/invoke/VarHandle" ∧ (parseMethodDescriptor y_RR_minutes.desc).map (fun d => d.parameters.length) = some 3 := by decide +kernel
theorem wd_6_196 : Cond.methodLink "RosterRulesLaw" 95 ⟨"RosterRulesModel", "minutes", "(III)J"⟩ ∈ xTbl := xIn_6 (List.mem_of_getElem? (i := 196) (by decide +kernel)) rfl
theorem gv_Lw_95 : GoodIn xTbl (wsV "RosterRulesLaw" 95 "RosterRulesModel" y_Mo_minutes ws_Mo_minutes) := xGV wd_6_196 wd_6_147 wd_6_148 wd_1_14 wd_6_149
theorem wd_4_108 : Cond.methodLink "RosterRulesLaw" 96 ⟨"RosterRules", "law", "(II)I"⟩ ∈ xTbl := xIn_4 (List.mem_of_getElem? (i := 108) (by decide +kernel)) rfl
theorem wd_4_109 : Cond.instanceMethod ⟨"RosterRules", "law", "(II)I"⟩ ∈ xTbl := xIn_4 (List.mem_of_getElem? (i := 109) (by decide +kernel)) rfl
theorem wd_4_110 : Cond.selects "RosterRules" ⟨"RosterRules", "law", "(II)I"⟩ ⟨"RosterRules", "law", "(II)I"⟩ ∈ xTbl := xIn_4 (List.mem_of_getElem? (i := 110) (by decide +kernel)) rfl
theorem wd_4_111 : Cond.code ⟨"RosterRules", "law", "(II)I"⟩ prog_1_method_18_code 4 (some FieldType.int) ∈ xTbl := xIn_4 (List.mem_of_getElem? (i := 111) rfl) rfl
theorem gv_Lw_96 : GoodIn xTbl (wsV "RosterRulesLaw" 96 "RosterRules" y_RR_law ws_RR_law) := xGV wd_4_108 wd_4_109 wd_4_110 wd_1_1 wd_4_111
theorem hd_RR_law : y_RR_law.cls = "RosterRules" ∧ y_RR_law.cls ≠ "java/lang/invoke/MethodHandle" ∧ y_RR_law.cls ≠ "java/lang/invoke/VarHandle" ∧ (parseMethodDescriptor y_RR_law.desc).map (fun d => d.parameters.length) = some 2 := by decide +kernel
theorem wd_6_197 : Cond.methodLink "RosterRulesLaw" 99 ⟨"RosterRulesModel", "law", "(II)I"⟩ ∈ xTbl := xIn_6 (List.mem_of_getElem? (i := 197) (by decide +kernel)) rfl
theorem wd_6_198 : Cond.instanceMethod ⟨"RosterRulesModel", "law", "(II)I"⟩ ∈ xTbl := xIn_6 (List.mem_of_getElem? (i := 198) (by decide +kernel)) rfl
theorem wd_6_199 : Cond.selects "RosterRulesModel" ⟨"RosterRulesModel", "law", "(II)I"⟩ ⟨"RosterRulesModel", "law", "(II)I"⟩ ∈ xTbl := xIn_6 (List.mem_of_getElem? (i := 199) (by decide +kernel)) rfl
theorem wd_6_200 : Cond.code ⟨"RosterRulesModel", "law", "(II)I"⟩ prog_14_method_70_code 3 (some FieldType.int) ∈ xTbl := xIn_6 (List.mem_of_getElem? (i := 200) rfl) rfl
theorem gv_Lw_99 : GoodIn xTbl (wsV "RosterRulesLaw" 99 "RosterRulesModel" y_Mo_law1 ws_Mo_law1) := xGV wd_6_197 wd_6_198 wd_6_199 wd_1_14 wd_6_200
theorem hd_Mo_law1 : y_Mo_law1.cls = "RosterRulesModel" ∧ y_Mo_law1.cls ≠ "java/lang/invoke/MethodHandle" ∧ y_Mo_law1.cls ≠ "java/lang/invoke/VarHandle" ∧ (parseMethodDescriptor y_Mo_law1.desc).map (fun d => d.parameters.length) = some 2 := by decide +kernel
theorem wd_4_164 : Cond.methodLink "RosterRulesLaw" 100 ⟨"RosterRules", "state", "(III)I"⟩ ∈ xTbl := xIn_4 (List.mem_of_getElem? (i := 164) (by decide +kernel)) rfl
theorem wd_4_165 : Cond.instanceMethod ⟨"RosterRules", "state", "(III)I"⟩ ∈ xTbl := xIn_4 (List.mem_of_getElem? (i := 165) (by decide +kernel)) rfl
theorem wd_4_166 : Cond.selects "RosterRules" ⟨"RosterRules", "state", "(III)I"⟩ ⟨"RosterRules", "state", "(III)I"⟩ ∈ xTbl := xIn_4 (List.mem_of_getElem? (i := 166) (by decide +kernel)) rfl
theorem wd_4_167 : Cond.code ⟨"RosterRules", "state", "(III)I"⟩ prog_1_method_19_code 5 (some FieldType.int) ∈ xTbl := xIn_4 (List.mem_of_getElem? (i := 167) rfl) rfl
theorem gv_Lw_100 : GoodIn xTbl (wsV "RosterRulesLaw" 100 "RosterRules" y_RR_state ws_RR_state) := xGV wd_4_164 wd_4_165 wd_4_166 wd_1_1 wd_4_167
theorem hd_RR_state : y_RR_state.cls = "RosterRules" ∧ y_RR_state.cls ≠ "java/lang/invoke/MethodHandle" ∧ y_RR_state.cls ≠ "java/lang/invoke/VarHandle" ∧ (parseMethodDescriptor y_RR_state.desc).map (fun d => d.parameters.length) = some 3 := by decide +kernel
theorem wd_6_209 : Cond.methodLink "RosterRulesLaw" 103 ⟨"RosterRulesModel", "state", "(III)I"⟩ ∈ xTbl := xIn_6 (List.mem_of_getElem? (i := 209) (by decide +kernel)) rfl
theorem wd_6_210 : Cond.instanceMethod ⟨"RosterRulesModel", "state", "(III)I"⟩ ∈ xTbl := xIn_6 (List.mem_of_getElem? (i := 210) (by decide +kernel)) rfl
theorem wd_6_211 : Cond.selects "RosterRulesModel" ⟨"RosterRulesModel", "state", "(III)I"⟩ ⟨"RosterRulesModel", "state", "(III)I"⟩ ∈ xTbl := xIn_6 (List.mem_of_getElem? (i := 211) (by decide +kernel)) rfl
theorem wd_6_212 : Cond.code ⟨"RosterRulesModel", "state", "(III)I"⟩ prog_14_method_71_code 4 (some FieldType.int) ∈ xTbl := xIn_6 (List.mem_of_getElem? (i := 212) rfl) rfl
theorem gv_Lw_103 : GoodIn xTbl (wsV "RosterRulesLaw" 103 "RosterRulesModel" y_Mo_state ws_Mo_state) := xGV wd_6_209 wd_6_210 wd_6_211 wd_1_14 wd_6_212
theorem hd_Mo_state : y_Mo_state.cls = "RosterRulesModel" ∧ y_Mo_state.cls ≠ "java/lang/invoke/MethodHandle" ∧ y_Mo_state.cls ≠ "java/lang/invoke/VarHandle" ∧ (parseMethodDescriptor y_Mo_state.desc).map (fun d => d.parameters.length) = some 3 := by decide +kernel
theorem wd_4_172 : Cond.methodLink "RosterRulesLaw" 104 ⟨"RosterRules", "alike", "(II)I"⟩ ∈ xTbl := xIn_4 (List.mem_of_getElem? (i := 172) (by decide +kernel)) rfl
theorem wd_4_173 : Cond.instanceMethod ⟨"RosterRules", "alike", "(II)I"⟩ ∈ xTbl := xIn_4 (List.mem_of_getElem? (i := 173) (by decide +kernel)) rfl
theorem wd_4_174 : Cond.selects "RosterRules" ⟨"RosterRules", "alike", "(II)I"⟩ ⟨"RosterRules", "alike", "(II)I"⟩ ∈ xTbl := xIn_4 (List.mem_of_getElem? (i := 174) (by decide +kernel)) rfl
theorem wd_4_175 : Cond.code ⟨"RosterRules", "alike", "(II)I"⟩ prog_1_method_20_code 3 (some FieldType.int) ∈ xTbl := xIn_4 (List.mem_of_getElem? (i := 175) rfl) rfl
theorem gv_Lw_104 : GoodIn xTbl (wsV "RosterRulesLaw" 104 "RosterRules" y_RR_alike ws_RR_alike) := xGV wd_4_172 wd_4_173 wd_4_174 wd_1_1 wd_4_175
theorem hd_RR_alike : y_RR_alike.cls = "RosterRules" ∧ y_RR_alike.cls ≠ "java/lang/invoke/MethodHandle" ∧ y_RR_alike.cls ≠ "java/lang/invoke/VarHandle" ∧ (parseMethodDescriptor y_RR_alike.desc).map (fun d => d.parameters.length) = some 2 := by decide +kernel
theorem wd_6_213 : Cond.methodLink "RosterRulesLaw" 107 ⟨"RosterRulesModel", "alike", "(II)I"⟩ ∈ xTbl := xIn_6 (List.mem_of_getElem? (i := 213) (by decide +kernel)) rfl
theorem wd_6_214 : Cond.instanceMethod ⟨"RosterRulesModel", "alike", "(II)I"⟩ ∈ xTbl := xIn_6 (List.mem_of_getElem? (i := 214) (by decide +kernel)) rfl
theorem wd_6_215 : Cond.selects "RosterRulesModel" ⟨"RosterRulesModel", "alike", "(II)I"⟩ ⟨"RosterRulesModel", "alike", "(II)I"⟩ ∈ xTbl := xIn_6 (List.mem_of_getElem? (i := 215) (by decide +kernel)) rfl
theorem wd_6_216 : Cond.code ⟨"RosterRulesModel", "alike", "(II)I"⟩ prog_14_method_72_code 6 (some FieldType.int) ∈ xTbl := xIn_6 (List.mem_of_getElem? (i := 216) rfl) rfl
theorem gv_Lw_107 : GoodIn xTbl (wsV "RosterRulesLaw" 107 "RosterRulesModel" y_Mo_alike ws_Mo_alike) := xGV wd_6_213 wd_6_214 wd_6_215 wd_1_14 wd_6_216
theorem hd_Mo_alike : y_Mo_alike.cls = "RosterRulesModel" ∧ y_Mo_alike.cls ≠ "java/lang/invoke/MethodHandle" ∧ y_Mo_alike.cls ≠ "java/lang/invoke/VarHandle" ∧ (parseMethodDescriptor y_Mo_alike.desc).map (fun d => d.parameters.length) = some 2 := by decide +kernel
theorem wd_4_180 : Cond.methodLink "RosterRulesLaw" 108 ⟨"RosterRules", "words", "(II)J"⟩ ∈ xTbl := xIn_4 (List.mem_of_getElem? (i := 180) (by decide +kernel)) rfl
theorem wd_4_181 : Cond.instanceMethod ⟨"RosterRules", "words", "(II)J"⟩ ∈ xTbl := xIn_4 (List.mem_of_getElem? (i := 181) (by decide +kernel)) rfl
theorem wd_4_182 : Cond.selects "RosterRules" ⟨"RosterRules", "words", "(II)J"⟩ ⟨"RosterRules", "words", "(II)J"⟩ ∈ xTbl := xIn_4 (List.mem_of_getElem? (i := 182) (by decide +kernel)) rfl
theorem wd_4_183 : Cond.code ⟨"RosterRules", "words", "(II)J"⟩ prog_1_method_21_code 3 (some FieldType.long) ∈ xTbl := xIn_4 (List.mem_of_getElem? (i := 183) rfl) rfl
theorem gv_Lw_108 : GoodIn xTbl (wsV "RosterRulesLaw" 108 "RosterRules" y_RR_words ws_RR_words) := xGV wd_4_180 wd_4_181 wd_4_182 wd_1_1 wd_4_183
theorem hd_RR_words : y_RR_words.cls = "RosterRules" ∧ y_RR_words.cls ≠ "java/lang/invoke/MethodHandle" ∧ y_RR_words.cls ≠ "java/lang/invoke/VarHandle" ∧ (parseMethodDescriptor y_RR_words.desc).map (fun d => d.parameters.length) = some 2 := by decide +kernel
theorem wd_6_217 : Cond.methodLink "RosterRulesLaw" 111 ⟨"RosterRulesModel", "words", "(II)J"⟩ ∈ xTbl := xIn_6 (List.mem_of_getElem? (i := 217) (by decide +kernel)) rfl
theorem wd_6_218 : Cond.instanceMethod ⟨"RosterRulesModel", "words", "(II)J"⟩ ∈ xTbl := xIn_6 (List.mem_of_getElem? (i := 218) (by decide +kernel)) rfl
theorem wd_6_219 : Cond.selects "RosterRulesModel" ⟨"RosterRulesModel", "words", "(II)J"⟩ ⟨"RosterRulesModel", "words", "(II)J"⟩ ∈ xTbl := xIn_6 (List.mem_of_getElem? (i := 219) (by decide +kernel)) rfl
theorem wd_6_220 : Cond.code ⟨"RosterRulesModel", "words", "(II)J"⟩ prog_14_method_73_code 6 (some FieldType.long) ∈ xTbl := xIn_6 (List.mem_of_getElem? (i := 220) rfl) rfl
theorem gv_Lw_111 : GoodIn xTbl (wsV "RosterRulesLaw" 111 "RosterRulesModel" y_Mo_words ws_Mo_words) := xGV wd_6_217 wd_6_218 wd_6_219 wd_1_14 wd_6_220
theorem hd_Mo_words : y_Mo_words.cls = "RosterRulesModel" ∧ y_Mo_words.cls ≠ "java/lang/invoke/MethodHandle" ∧ y_Mo_words.cls ≠ "java/lang/invoke/VarHandle" ∧ (parseMethodDescriptor y_Mo_words.desc).map (fun d => d.parameters.length) = some 2 := by decide +kernel
theorem wd_4_190 : Cond.methodLink "RosterRulesLaw" 112 ⟨"RosterRules", "word", "(II)I"⟩ ∈ xTbl := xIn_4 (List.mem_of_getElem? (i := 190) (by decide +kernel)) rfl
theorem wd_4_191 : Cond.instanceMethod ⟨"RosterRules", "word", "(II)I"⟩ ∈ xTbl := xIn_4 (List.mem_of_getElem? (i := 191) (by decide +kernel)) rfl
theorem wd_4_192 : Cond.selects "RosterRules" ⟨"RosterRules", "word", "(II)I"⟩ ⟨"RosterRules", "word", "(II)I"⟩ ∈ xTbl := xIn_4 (List.mem_of_getElem? (i := 192) (by decide +kernel)) rfl
theorem wd_4_193 : Cond.code ⟨"RosterRules", "word", "(II)I"⟩ prog_1_method_22_code 3 (some FieldType.int) ∈ xTbl := xIn_4 (List.mem_of_getElem? (i := 193) rfl) rfl
theorem gv_Lw_112 : GoodIn xTbl (wsV "RosterRulesLaw" 112 "RosterRules" y_RR_word ws_RR_word) := xGV wd_4_190 wd_4_191 wd_4_192 wd_1_1 wd_4_193
theorem hd_RR_word : y_RR_word.cls = "RosterRules" ∧ y_RR_word.cls ≠ "java/lang/invoke/MethodHandle" ∧ y_RR_word.cls ≠ "java/lang/invoke/VarHandle" ∧ (parseMethodDescriptor y_RR_word.desc).map (fun d => d.parameters.length) = some 2 := by decide +kernel
theorem wd_6_221 : Cond.methodLink "RosterRulesLaw" 115 ⟨"RosterRulesModel", "word", "(II)I"⟩ ∈ xTbl := xIn_6 (List.mem_of_getElem? (i := 221) (by decide +kernel)) rfl
theorem wd_6_222 : Cond.instanceMethod ⟨"RosterRulesModel", "word", "(II)I"⟩ ∈ xTbl := xIn_6 (List.mem_of_getElem? (i := 222) (by decide +kernel)) rfl
theorem wd_6_223 : Cond.selects "RosterRulesModel" ⟨"RosterRulesModel", "word", "(II)I"⟩ ⟨"RosterRulesModel", "word", "(II)I"⟩ ∈ xTbl := xIn_6 (List.mem_of_getElem? (i := 223) (by decide +kernel)) rfl
theorem wd_6_224 : Cond.code ⟨"RosterRulesModel", "word", "(II)I"⟩ prog_14_method_74_code 9 (some FieldType.int) ∈ xTbl := xIn_6 (List.mem_of_getElem? (i := 224) rfl) rfl
theorem gv_Lw_115 : GoodIn xTbl (wsV "RosterRulesLaw" 115 "RosterRulesModel" y_Mo_word ws_Mo_word) := xGV wd_6_221 wd_6_222 wd_6_223 wd_1_14 wd_6_224
theorem hd_Mo_word : y_Mo_word.cls = "RosterRulesModel" ∧ y_Mo_word.cls ≠ "java/lang/invoke/MethodHandle" ∧ y_Mo_word.cls ≠ "java/lang/invoke/VarHandle" ∧ (parseMethodDescriptor y_Mo_word.desc).map (fun d => d.parameters.length) = some 2 := by decide +kernel
theorem wd_4_203 : Cond.methodLink "RosterRulesLaw" 116 ⟨"RosterRules", "count", "(I)I"⟩ ∈ xTbl := xIn_4 (List.mem_of_getElem? (i := 203) (by decide +kernel)) rfl
theorem wd_4_204 : Cond.instanceMethod ⟨"RosterRules", "count", "(I)I"⟩ ∈ xTbl := xIn_4 (List.mem_of_getElem? (i := 204) (by decide +kernel)) rfl
theorem wd_4_205 : Cond.selects "RosterRules" ⟨"RosterRules", "count", "(I)I"⟩ ⟨"RosterRules", "count", "(I)I"⟩ ∈ xTbl := xIn_4 (List.mem_of_getElem? (i := 205) (by decide +kernel)) rfl
theorem wd_4_206 : Cond.code ⟨"RosterRules", "count", "(I)I"⟩ prog_1_method_23_code 2 (some FieldType.int) ∈ xTbl := xIn_4 (List.mem_of_getElem? (i := 206) rfl) rfl
theorem gv_Lw_116 : GoodIn xTbl (wsV "RosterRulesLaw" 116 "RosterRules" y_RR_count ws_RR_count) := xGV wd_4_203 wd_4_204 wd_4_205 wd_1_1 wd_4_206
theorem hd_RR_count : y_RR_count.cls = "RosterRules" ∧ y_RR_count.cls ≠ "java/lang/invoke/MethodHandle" ∧ y_RR_count.cls ≠ "java/lang/invoke/VarHandle" ∧ (parseMethodDescriptor y_RR_count.desc).map (fun d => d.parameters.length) = some 1 := by decide +kernel
theorem wd_6_226 : Cond.methodLink "RosterRulesLaw" 119 ⟨"RosterRulesModel", "count", "(I)I"⟩ ∈ xTbl := xIn_6 (List.mem_of_getElem? (i := 226) (by decide +kernel)) rfl
theorem wd_6_227 : Cond.instanceMethod ⟨"RosterRulesModel", "count", "(I)I"⟩ ∈ xTbl := xIn_6 (List.mem_of_getElem? (i := 227) (by decide +kernel)) rfl
theorem wd_6_228 : Cond.selects "RosterRulesModel" ⟨"RosterRulesModel", "count", "(I)I"⟩ ⟨"RosterRulesModel", "count", "(I)I"⟩ ∈ xTbl := xIn_6 (List.mem_of_getElem? (i := 228) (by decide +kernel)) rfl
theorem wd_6_229 : Cond.code ⟨"RosterRulesModel", "count", "(I)I"⟩ prog_14_method_75_code 5 (some FieldType.int) ∈ xTbl := xIn_6 (List.mem_of_getElem? (i := 229) rfl) rfl
theorem gv_Lw_119 : GoodIn xTbl (wsV "RosterRulesLaw" 119 "RosterRulesModel" y_Mo_count ws_Mo_count) := xGV wd_6_226 wd_6_227 wd_6_228 wd_1_14 wd_6_229
theorem hd_Mo_count : y_Mo_count.cls = "RosterRulesModel" ∧ y_Mo_count.cls ≠ "java/lang/invoke/MethodHandle" ∧ y_Mo_count.cls ≠ "java/lang/invoke/VarHandle" ∧ (parseMethodDescriptor y_Mo_count.desc).map (fun d => d.parameters.length) = some 1 := by decide +kernel
theorem dv_11 : ∀ j, j < 9 → defaultValue (yC_11 j) = vp_V [.null, .null, .null, .null, .null, .null, .null, .null, .int 0] j := fun j hj => by rcases (show j = 0 ∨ j = 1 ∨ j = 2 ∨ j = 3 ∨ j = 4 ∨ j = 5 ∨ j = 6 ∨ j = 7 ∨ j = 8 by omega) with rfl | rfl | rfl | rfl | rfl | rfl | rfl | rfl | rfl <;> rfl
theorem wd_1_19 : Cond.classLink "RosterRulesLaw" 7 "RosterRules" ∈ xTbl := xIn_1 (List.mem_of_getElem? (i := 19) (by decide +kernel)) rfl
theorem wd_1_20 : Cond.instantiable "RosterRules" 9 ∈ xTbl := xIn_1 (List.mem_of_getElem? (i := 20) (by decide +kernel)) rfl
theorem nw_Lw_7 : xNw "RosterRulesLaw" 7 11 9 [.null, .null, .null, .null, .null, .null, .null, .null, .int 0] := ⟨RC_11, TC_11, yC_11, rfl, iC_11, pC_11, dv_11, wd_1_19, wd_1_20, wd_1_1⟩
theorem wd_4_207 : Cond.methodLink "RosterRulesLaw" 9 ⟨"RosterRulesLaw", "cell", "([II)I"⟩ ∈ xTbl := xIn_4 (List.mem_of_getElem? (i := 207) (by decide +kernel)) rfl
theorem wd_4_208 : Cond.static ⟨"RosterRulesLaw", "cell", "([II)I"⟩ ∈ xTbl := xIn_4 (List.mem_of_getElem? (i := 208) (by decide +kernel)) rfl
theorem wd_1_0 : Cond.initialized "RosterRulesLaw" ∈ xTbl := xIn_1 (List.mem_of_getElem? (i := 0) (by decide +kernel)) rfl
theorem wd_4_209 : Cond.code ⟨"RosterRulesLaw", "cell", "([II)I"⟩ method_2_code 2 (some FieldType.int) ∈ xTbl := xIn_4 (List.mem_of_getElem? (i := 209) rfl) rfl
theorem gs_Lw_9 : GoodIn xTbl (wsS "RosterRulesLaw" 9 y_Lw_cell ws_Lw_cell) := xGS wd_4_207 wd_4_208 wd_1_0 wd_4_209
theorem hd_Lw_cell : y_Lw_cell.cls = "RosterRulesLaw" ∧ y_Lw_cell.cls ≠ "java/lang/invoke/MethodHandle" ∧ y_Lw_cell.cls ≠ "java/lang/invoke/VarHandle" ∧ (parseMethodDescriptor y_Lw_cell.desc).map (fun d => d.parameters.length) = some 2 := by decide +kernel
theorem wd_1_23 : Cond.code ⟨"RosterRules", "<init>", "(II)V"⟩ prog_1_method_1_code 4 (none : Option FieldType) ∈ xTbl := xIn_1 (List.mem_of_getElem? (i := 23) rfl) rfl
theorem gi_RR_init : GoodIn xTbl ws_RR_init := xGI wd_1_23
theorem hi_RR_init : y_RR_init.cls ≠ "java/lang/invoke/MethodHandle" ∧ y_RR_init.cls ≠ "java/lang/invoke/VarHandle" ∧ (parseMethodDescriptor y_RR_init.desc).map (fun d => d.parameters.length) = some 2 := by decide +kernel
theorem wd_1_21 : Cond.methodLink "RosterRulesLaw" 15 ⟨"RosterRules", "<init>", "(II)V"⟩ ∈ xTbl := xIn_1 (List.mem_of_getElem? (i := 21) (by decide +kernel)) rfl
theorem wd_1_22 : Cond.instanceMethod ⟨"RosterRules", "<init>", "(II)V"⟩ ∈ xTbl := xIn_1 (List.mem_of_getElem? (i := 22) (by decide +kernel)) rfl
theorem dv_12 : ∀ j, j < 65 → defaultValue (yC_12 j) = vp_V [.int 0, .int 0, .null, .null, .null, .null, .null, .null, .null, .null, .null, .int 0, .int 0, .null, .null, .null, .null, .null, .null, .null, .int 0, .null, .null, .null, .null, .null, .null, .null, .null, .null, .null, .int 0, .int 0, .int 0, .int 0, .int 0, .int 0, .int 0, .long 0, .int 0, .int 0, .int 0, .int 0, .int 0, .int 0, .null, .null, .null, .null, .null, .null, .null, .null, .null, .null, .null, .null, .null, .null, .null, .null, .null, .null, .null, .null] j := fun j hj => by rcases (show j = 0 ∨ j = 1 ∨ j = 2 ∨ j = 3 ∨ j = 4 ∨ j = 5 ∨ j = 6 ∨ j = 7 ∨ j = 8 ∨ j = 9 ∨ j = 10 ∨ j = 11 ∨ j = 12 ∨ j = 13 ∨ j = 14 ∨ j = 15 ∨ j = 16 ∨ j = 17 ∨ j = 18 ∨ j = 19 ∨ j = 20 ∨ j = 21 ∨ j = 22 ∨ j = 23 ∨ j = 24 ∨ j = 25 ∨ j = 26 ∨ j = 27 ∨ j = 28 ∨ j = 29 ∨ j = 30 ∨ j = 31 ∨ j = 32 ∨ j = 33 ∨ j = 34 ∨ j = 35 ∨ j = 36 ∨ j = 37 ∨ j = 38 ∨ j = 39 ∨ j = 40 ∨ j = 41 ∨ j = 42 ∨ j = 43 ∨ j = 44 ∨ j = 45 ∨ j = 46 ∨ j = 47 ∨ j = 48 ∨ j = 49 ∨ j = 50 ∨ j = 51 ∨ j = 52 ∨ j = 53 ∨ j = 54 ∨ j = 55 ∨ j = 56 ∨ j = 57 ∨ j = 58 ∨ j = 59 ∨ j = 60 ∨ j = 61 ∨ j = 62 ∨ j = 63 ∨ j = 64 by omega) with rfl | rfl | rfl | rfl | rfl | rfl | rfl | rfl | rfl | rfl | rfl | rfl | rfl | rfl | rfl | rfl | rfl | rfl | rfl | rfl | rfl | rfl | rfl | rfl | rfl | rfl | rfl | rfl | rfl | rfl | rfl | rfl | rfl | rfl | rfl | rfl | rfl | rfl | rfl | rfl | rfl | rfl | rfl | rfl | rfl | rfl | rfl | rfl | rfl | rfl | rfl | rfl | rfl | rfl | rfl | rfl | rfl | rfl | rfl | rfl | rfl | rfl | rfl | rfl | rfl <;> rfl
theorem wd_4_210 : Cond.classLink "RosterRulesLaw" 18 "RosterRulesModel" ∈ xTbl := xIn_4 (List.mem_of_getElem? (i := 210) (by decide +kernel)) rfl
theorem wd_4_211 : Cond.instantiable "RosterRulesModel" 65 ∈ xTbl := xIn_4 (List.mem_of_getElem? (i := 211) (by decide +kernel)) rfl
theorem nw_Lw_18 : xNw "RosterRulesLaw" 18 12 65 [.int 0, .int 0, .null, .null, .null, .null, .null, .null, .null, .null, .null, .int 0, .int 0, .null, .null, .null, .null, .null, .null, .null, .int 0, .null, .null, .null, .null, .null, .null, .null, .null, .null, .null, .int 0, .int 0, .int 0, .int 0, .int 0, .int 0, .int 0, .long 0, .int 0, .int 0, .int 0, .int 0, .int 0, .int 0, .null, .null, .null, .null, .null, .null, .null, .null, .null, .null, .null, .null, .null, .null, .null, .null, .null, .null, .null, .null] := ⟨RC_12, TC_12, yC_12, rfl, iC_12, pC_12, dv_12, wd_4_210, wd_4_211, wd_1_14⟩
theorem wd_4_214 : Cond.code ⟨"RosterRulesModel", "<init>", "(II)V"⟩ prog_14_method_1_code 4 (none : Option FieldType) ∈ xTbl := xIn_4 (List.mem_of_getElem? (i := 214) rfl) rfl
theorem gi_Mo_init : GoodIn xTbl ws_Mo_init := xGI wd_4_214
theorem hi_Mo_init : y_Mo_init.cls ≠ "java/lang/invoke/MethodHandle" ∧ y_Mo_init.cls ≠ "java/lang/invoke/VarHandle" ∧ (parseMethodDescriptor y_Mo_init.desc).map (fun d => d.parameters.length) = some 2 := by decide +kernel
theorem wd_4_212 : Cond.methodLink "RosterRulesLaw" 20 ⟨"RosterRulesModel", "<init>", "(II)V"⟩ ∈ xTbl := xIn_4 (List.mem_of_getElem? (i := 212) (by decide +kernel)) rfl
theorem wd_4_213 : Cond.instanceMethod ⟨"RosterRulesModel", "<init>", "(II)V"⟩ ∈ xTbl := xIn_4 (List.mem_of_getElem? (i := 213) (by decide +kernel)) rfl
abbrev b_Lw_law : ByteArray := code
/-! the law's script, beside the world -/
def ysc (xs : Nat → Int32) (L : Nat) (i : Int32) : Option Int32 := if ¬ (i < 0 ∨ L ≤ i.toNatClampNeg) then some (xs i.toNatClampNeg) else none
theorem ysc_spec {xs : Nat → Int32} {L : Nat} {i v : Int32} (h : ysc xs L i = some v) : vp_in i L ∧ v = xs i.toNatClampNeg := by
  unfold ysc at h
  split at h
  · rename_i hc
    cases h
    exact ⟨hc, rfl⟩
  · cases h
theorem x_callX {p : Program} {l : Launch} {e : Env} {R : Room} {s : State} {m : MethodId} {args : Array Value} {below : List Frame} {meth : Method} {c : Code} {H : Heap} {locs : List Loc} {cells slots : Nat} {Q : State → Prop} {cc : ByteArray} {nL : Nat} {own : String} {pc : Nat} {ls : Array Slot} {rest : List Value} {E : xV} {z z1 : Nat} {ω ω1 : xS} {H0 : Heap} {index b L : Nat} {xs : Nat → Int32} (S : CallFix p m c cc nL s args xTbl own) (hw : xW E z ω s H0 H locs) (hX : va_X b L xs s H0) (hbl : b < H0.size) (hbA : ¬ E.2.2 ≤ b) {y : MethodName} {bytes : ByteArray} {maxL n : Nat} {ret : Option FieldType} {ws : List Cond} {rm : Room} {As st0 st1 : List Value} {v : Option Value}
    (hM : Met l y ws rm (va_Pc As (fun U => xB E z ω U ∧ va_X b L xs U U.heap)) (xQ E v z1 ω1) rm.cells rm.slots (fun q => E.2.2 ≤ q)) (cw : CallB R s args own index y bytes maxL ret ws rm rm.cells rm.slots n ∧ (Cond.static y).before args s = true)
    (hn : As.length = n) (hsize : ls.size = nL) (hst : st0 = As.reverse ++ rest) (hst1 : v.toList ++ rest = st1) (hcat : (rest.map fun v => v.category).sum ≤ 8) (hdg : decode cc pc = .ok (.invokestatic index, 3)) (hf : cells + rm.cells ≤ R.cells ∧ slots + rm.slots ≤ R.slots)
    (kk : ∀ (H1 : Heap) (locs1 : List Loc), xW E z1 ω1 s H0 H1 locs1 → W p l e R s m args below meth c H1 locs1 (cells + rm.cells) (slots + rm.slots) Q (F0 m (pc + 3) ls st1)) : W p l e R s m args below meth c H locs cells slots Q (F0 m pc ls st0) := by
  subst hst1
  refine x_run (va_runS (As := As) (rest := rest) S hM cw ⟨fun a U g mk q => ⟨q.1, ⟨xK.same (u := U) (U := U.calling g mk a) rfl q.2.1.1, q.2.1.2⟩, va_X.moved (u := U) (U := U.calling g mk a) (Vm.Alike.refl U.vm) q.2.2⟩, fun U hU hW => ⟨rfl, ⟨by rw [hU]; exact hw.1.moved hW hw.2.2, by rw [hU]; exact hw.2.1⟩, by rw [hU]; exact (va_X.moved hW.alike hX).kept (hw.2.2.2.1 b hbl hbA)⟩⟩ rfl hn hsize hst (lv_room hcat) hdg hf) hw kk
theorem x_startX {l : Launch} {E : xV} {y : MethodName} {cc : ByteArray} {maxL : Nat} {ret : Option FieldType} {ws : List Cond} {rm : Room} {avs : List Value} {z z1 : Nat} {ω ω1 : xS} {v : Option Value} {b L : Nat} {xs : Nat → Int32} (hy : plainName y.cls = true) (hws : ws = Cond.code y cc maxL ret :: xTbl) (hlen : (lg_sl avs).length ≤ maxL)
    (body : ∀ (p : Program) (e : Env) (s : State) (m : MethodId) (below : List Frame) (meth : Method) (c : Code), CallFix p m c cc maxL s avs.toArray xTbl y.cls → meth.sig.returnType = ret → meth.locks = false → ∀ ls : Array Slot, lv_has ls maxL (lv_args 0 avs) → xW E z ω s s.heap s.heap [] → va_X b L xs s s.heap →
      W p l e (headSpec ws rm).room s m avs.toArray below meth c s.heap [] 0 0 (MQ below (xQ E v z1 ω1) avs.toArray s rm.cells rm.slots (fun q => E.2.2 ≤ q)) (F0 m 0 ls [])) : Met l y ws rm (va_Pc avs (fun U => xB E z ω U ∧ va_X b L xs U U.heap)) (xQ E v z1 ω1) rm.cells rm.slots (fun q => E.2.2 ≤ q) := by
  refine Met.ofW (cc := cc) (maxL := maxL) (ret := ret) hy hws ?_
  intro p e s m args below meth c s₁ B hml hv
  obtain ⟨rfl, ⟨hK, hP⟩, hX⟩ := hv
  have hts := atoms_spec (ws := ws) B.pre
  rw [lg_entry_eq]
  exact body p e s m below meth c ⟨B.exec, B.bytes, hml, findClass_of_methodNamed B.named, fun w h => hts w (by rw [hws]; exact List.mem_cons_of_mem _ h)⟩ B.returns B.notSynchronized _ (lv_entry avs hlen) ⟨hK, hP, va_S.rf⟩ hX
