theorem gs_LawReader_98 : GoodIn xTbl (va_wsS "RosterRules$LawReader" 98 y_Law_nameOf ws_Law_nameOf) := xGS2 wd_2_224 wd_2_225 wd_1_11 wd_2_226
theorem d_Law_nameOf_0 : decode b_Law_nameOf 0 = .ok (.iload_n 0, 1) := by decide +kernel
theorem d_Law_nameOf_1 : decode b_Law_nameOf 1 = .ok (.tableswitch 57 0 5 #[39, 42, 45, 48, 51, 54], 39) := by decide +kernel
theorem d_Law_nameOf_40 : decode b_Law_nameOf 40 = .ok (.ldc 23, 2) := by decide +kernel
theorem d_Law_nameOf_42 : decode b_Law_nameOf 42 = .ok (.areturn, 1) := by decide +kernel
theorem d_Law_nameOf_43 : decode b_Law_nameOf 43 = .ok (.ldc 25, 2) := by decide +kernel
theorem d_Law_nameOf_45 : decode b_Law_nameOf 45 = .ok (.areturn, 1) := by decide +kernel
theorem d_Law_nameOf_46 : decode b_Law_nameOf 46 = .ok (.ldc 27, 2) := by decide +kernel
theorem d_Law_nameOf_48 : decode b_Law_nameOf 48 = .ok (.areturn, 1) := by decide +kernel
theorem d_Law_nameOf_49 : decode b_Law_nameOf 49 = .ok (.ldc 29, 2) := by decide +kernel
theorem d_Law_nameOf_51 : decode b_Law_nameOf 51 = .ok (.areturn, 1) := by decide +kernel
theorem d_Law_nameOf_52 : decode b_Law_nameOf 52 = .ok (.ldc 31, 2) := by decide +kernel
theorem d_Law_nameOf_54 : decode b_Law_nameOf 54 = .ok (.areturn, 1) := by decide +kernel
theorem d_Law_nameOf_55 : decode b_Law_nameOf 55 = .ok (.ldc 33, 2) := by decide +kernel
theorem d_Law_nameOf_57 : decode b_Law_nameOf 57 = .ok (.areturn, 1) := by decide +kernel
theorem d_Law_nameOf_58 : decode b_Law_nameOf 58 = .ok (.ldc 35, 2) := by decide +kernel
theorem d_Law_nameOf_60 : decode b_Law_nameOf 60 = .ok (.areturn, 1) := by decide +kernel
theorem d_Tokens_spells_0 : decode b_Tokens_spells 0 = .ok (.aload_n 0, 1) := by decide +kernel
theorem d_Tokens_spells_1 : decode b_Tokens_spells 1 = .ok (.getfield 38, 3) := by decide +kernel
theorem d_Tokens_spells_4 : decode b_Tokens_spells 4 = .ok (.iconst 2, 1) := by decide +kernel
theorem d_Tokens_spells_5 : decode b_Tokens_spells 5 = .ok (.if_icmp .ne 19, 3) := by decide +kernel
theorem d_Tokens_spells_8 : decode b_Tokens_spells 8 = .ok (.aload_n 1, 1) := by decide +kernel
theorem d_Tokens_spells_9 : decode b_Tokens_spells 9 = .ok (.invokevirtual 49, 3) := by decide +kernel
theorem d_Tokens_spells_12 : decode b_Tokens_spells 12 = .ok (.aload_n 0, 1) := by decide +kernel
theorem d_Tokens_spells_13 : decode b_Tokens_spells 13 = .ok (.getfield 15, 3) := by decide +kernel
theorem d_Tokens_spells_16 : decode b_Tokens_spells 16 = .ok (.aload_n 0, 1) := by decide +kernel
theorem d_Tokens_spells_17 : decode b_Tokens_spells 17 = .ok (.getfield 19, 3) := by decide +kernel
theorem d_Tokens_spells_20 : decode b_Tokens_spells 20 = .ok (.isub, 1) := by decide +kernel
theorem d_Tokens_spells_21 : decode b_Tokens_spells 21 = .ok (.if_icmp .eq 5, 3) := by decide +kernel
theorem d_Tokens_spells_24 : decode b_Tokens_spells 24 = .ok (.iconst 0, 1) := by decide +kernel
theorem d_Tokens_spells_25 : decode b_Tokens_spells 25 = .ok (.ireturn, 1) := by decide +kernel
theorem d_Tokens_spells_26 : decode b_Tokens_spells 26 = .ok (.iconst 0, 1) := by decide +kernel
theorem d_Tokens_spells_27 : decode b_Tokens_spells 27 = .ok (.istore_n 2, 1) := by decide +kernel
theorem d_Tokens_spells_28 : decode b_Tokens_spells 28 = .ok (.iload_n 2, 1) := by decide +kernel
theorem d_Tokens_spells_29 : decode b_Tokens_spells 29 = .ok (.aload_n 1, 1) := by decide +kernel
theorem d_Tokens_spells_30 : decode b_Tokens_spells 30 = .ok (.invokevirtual 49, 3) := by decide +kernel
theorem d_Tokens_spells_33 : decode b_Tokens_spells 33 = .ok (.if_icmp .ge 32, 3) := by decide +kernel
theorem d_Tokens_spells_36 : decode b_Tokens_spells 36 = .ok (.aload_n 0, 1) := by decide +kernel
theorem d_Tokens_spells_37 : decode b_Tokens_spells 37 = .ok (.getfield 9, 3) := by decide +kernel
theorem d_Tokens_spells_40 : decode b_Tokens_spells 40 = .ok (.aload_n 0, 1) := by decide +kernel
theorem d_Tokens_spells_41 : decode b_Tokens_spells 41 = .ok (.getfield 19, 3) := by decide +kernel
theorem d_Tokens_spells_44 : decode b_Tokens_spells 44 = .ok (.iload_n 2, 1) := by decide +kernel
theorem d_Tokens_spells_45 : decode b_Tokens_spells 45 = .ok (.iadd, 1) := by decide +kernel
theorem d_Tokens_spells_46 : decode b_Tokens_spells 46 = .ok (.invokevirtual 31, 3) := by decide +kernel
theorem d_Tokens_spells_49 : decode b_Tokens_spells 49 = .ok (.aload_n 1, 1) := by decide +kernel
theorem d_Tokens_spells_50 : decode b_Tokens_spells 50 = .ok (.iload_n 2, 1) := by decide +kernel
theorem d_Tokens_spells_51 : decode b_Tokens_spells 51 = .ok (.invokevirtual 54, 3) := by decide +kernel
theorem d_Tokens_spells_54 : decode b_Tokens_spells 54 = .ok (.if_icmp .eq 5, 3) := by decide +kernel
theorem d_Tokens_spells_57 : decode b_Tokens_spells 57 = .ok (.iconst 0, 1) := by decide +kernel
theorem d_Tokens_spells_58 : decode b_Tokens_spells 58 = .ok (.ireturn, 1) := by decide +kernel
theorem d_Tokens_spells_59 : decode b_Tokens_spells 59 = .ok (.iinc 2 1, 3) := by decide +kernel
theorem d_Tokens_spells_62 : decode b_Tokens_spells 62 = .ok (.goto (-34), 3) := by decide +kernel
theorem d_Tokens_spells_65 : decode b_Tokens_spells 65 = .ok (.iconst 1, 1) := by decide +kernel
theorem d_Tokens_spells_66 : decode b_Tokens_spells 66 = .ok (.ireturn, 1) := by decide +kernel
theorem d_LawReader_sortNamed_0 : decode b_LawReader_sortNamed 0 = .ok (.iconst 0, 1) := by decide +kernel
theorem d_LawReader_sortNamed_1 : decode b_LawReader_sortNamed 1 = .ok (.istore_n 1, 1) := by decide +kernel
theorem d_LawReader_sortNamed_2 : decode b_LawReader_sortNamed 2 = .ok (.iload_n 1, 1) := by decide +kernel
theorem d_LawReader_sortNamed_3 : decode b_LawReader_sortNamed 3 = .ok (.bipush 7, 2) := by decide +kernel
theorem d_LawReader_sortNamed_5 : decode b_LawReader_sortNamed 5 = .ok (.if_icmp .ge 25, 3) := by decide +kernel
theorem d_LawReader_sortNamed_8 : decode b_LawReader_sortNamed 8 = .ok (.aload_n 0, 1) := by decide +kernel
theorem d_LawReader_sortNamed_9 : decode b_LawReader_sortNamed 9 = .ok (.getfield 20, 3) := by decide +kernel
theorem d_LawReader_sortNamed_12 : decode b_LawReader_sortNamed 12 = .ok (.iload_n 1, 1) := by decide +kernel
theorem d_LawReader_sortNamed_13 : decode b_LawReader_sortNamed 13 = .ok (.invokestatic 98, 3) := by decide +kernel
theorem d_LawReader_sortNamed_16 : decode b_LawReader_sortNamed 16 = .ok (.invokevirtual 102, 3) := by decide +kernel
theorem d_LawReader_sortNamed_19 : decode b_LawReader_sortNamed 19 = .ok (.ifCond .eq 5, 3) := by decide +kernel
theorem d_LawReader_sortNamed_22 : decode b_LawReader_sortNamed 22 = .ok (.iload_n 1, 1) := by decide +kernel
theorem d_LawReader_sortNamed_23 : decode b_LawReader_sortNamed 23 = .ok (.ireturn, 1) := by decide +kernel
theorem d_LawReader_sortNamed_24 : decode b_LawReader_sortNamed 24 = .ok (.iinc 1 1, 3) := by decide +kernel
theorem d_LawReader_sortNamed_27 : decode b_LawReader_sortNamed 27 = .ok (.goto (-25), 3) := by decide +kernel
theorem d_LawReader_sortNamed_30 : decode b_LawReader_sortNamed 30 = .ok (.iconst (-1), 1) := by decide +kernel
theorem d_LawReader_sortNamed_31 : decode b_LawReader_sortNamed 31 = .ok (.ireturn, 1) := by decide +kernel
theorem d_LawReader_readLaw_0 : decode b_LawReader_readLaw 0 = .ok (.aload_n 0, 1) := by decide +kernel
theorem d_LawReader_readLaw_1 : decode b_LawReader_readLaw 1 = .ok (.invokevirtual 55, 3) := by decide +kernel
theorem d_LawReader_readLaw_4 : decode b_LawReader_readLaw 4 = .ok (.istore_n 2, 1) := by decide +kernel
theorem d_LawReader_readLaw_5 : decode b_LawReader_readLaw 5 = .ok (.iload_n 2, 1) := by decide +kernel
theorem d_LawReader_readLaw_6 : decode b_LawReader_readLaw 6 = .ok (.ifCond .ge 16, 3) := by decide +kernel
theorem d_LawReader_readLaw_9 : decode b_LawReader_readLaw 9 = .ok (.aload_n 0, 1) := by decide +kernel
theorem d_LawReader_readLaw_10 : decode b_LawReader_readLaw 10 = .ok (.iconst 2, 1) := by decide +kernel
theorem d_LawReader_readLaw_11 : decode b_LawReader_readLaw 11 = .ok (.aload_n 0, 1) := by decide +kernel
theorem d_LawReader_readLaw_12 : decode b_LawReader_readLaw 12 = .ok (.getfield 20, 3) := by decide +kernel
theorem d_LawReader_readLaw_15 : decode b_LawReader_readLaw 15 = .ok (.getfield 44, 3) := by decide +kernel
theorem d_LawReader_readLaw_18 : decode b_LawReader_readLaw 18 = .ok (.invokevirtual 47, 3) := by decide +kernel
theorem d_LawReader_readLaw_21 : decode b_LawReader_readLaw 21 = .ok (.return_, 1) := by decide +kernel
theorem d_LawReader_readLaw_22 : decode b_LawReader_readLaw 22 = .ok (.aload_n 1, 1) := by decide +kernel
theorem d_LawReader_readLaw_23 : decode b_LawReader_readLaw 23 = .ok (.iload_n 2, 1) := by decide +kernel
theorem d_LawReader_readLaw_24 : decode b_LawReader_readLaw 24 = .ok (.aload_n 0, 1) := by decide +kernel
theorem d_LawReader_readLaw_25 : decode b_LawReader_readLaw 25 = .ok (.getfield 20, 3) := by decide +kernel
theorem d_LawReader_readLaw_28 : decode b_LawReader_readLaw 28 = .ok (.getfield 44, 3) := by decide +kernel
theorem d_LawReader_readLaw_31 : decode b_LawReader_readLaw 31 = .ok (.invokevirtual 58, 3) := by decide +kernel
theorem d_LawReader_readLaw_34 : decode b_LawReader_readLaw 34 = .ok (.iload_n 2, 1) := by decide +kernel
theorem d_LawReader_readLaw_35 : decode b_LawReader_readLaw 35 = .ok (.tableswitch 151 1 6 #[37, 52, 93, 93, 104, 115], 37) := by decide +kernel
theorem d_LawReader_readLaw_72 : decode b_LawReader_readLaw 72 = .ok (.aload_n 1, 1) := by decide +kernel
theorem d_LawReader_readLaw_73 : decode b_LawReader_readLaw 73 = .ok (.aload_n 0, 1) := by decide +kernel
theorem d_LawReader_readLaw_74 : decode b_LawReader_readLaw 74 = .ok (.iconst 0, 1) := by decide +kernel
theorem d_LawReader_readLaw_75 : decode b_LawReader_readLaw 75 = .ok (.sipush 10000, 3) := by decide +kernel
theorem d_LawReader_readLaw_78 : decode b_LawReader_readLaw 78 = .ok (.invokevirtual 63, 3) := by decide +kernel
theorem d_LawReader_readLaw_81 : decode b_LawReader_readLaw 81 = .ok (.putfield 67, 3) := by decide +kernel
theorem d_LawReader_readLaw_84 : decode b_LawReader_readLaw 84 = .ok (.goto 102, 3) := by decide +kernel
theorem d_LawReader_readLaw_87 : decode b_LawReader_readLaw 87 = .ok (.aload_n 1, 1) := by decide +kernel
theorem d_LawReader_readLaw_88 : decode b_LawReader_readLaw 88 = .ok (.aload_n 0, 1) := by decide +kernel
theorem d_LawReader_readLaw_89 : decode b_LawReader_readLaw 89 = .ok (.iconst 0, 1) := by decide +kernel
theorem d_LawReader_readLaw_90 : decode b_LawReader_readLaw 90 = .ok (.ldc 70, 2) := by decide +kernel
theorem d_LawReader_readLaw_92 : decode b_LawReader_readLaw 92 = .ok (.invokevirtual 63, 3) := by decide +kernel
theorem d_LawReader_readLaw_95 : decode b_LawReader_readLaw 95 = .ok (.putfield 67, 3) := by decide +kernel
theorem d_LawReader_readLaw_98 : decode b_LawReader_readLaw 98 = .ok (.aload_n 1, 1) := by decide +kernel
theorem d_LawReader_readLaw_99 : decode b_LawReader_readLaw 99 = .ok (.aload_n 0, 1) := by decide +kernel
theorem d_LawReader_readLaw_100 : decode b_LawReader_readLaw 100 = .ok (.aload_n 1, 1) := by decide +kernel
theorem d_LawReader_readLaw_101 : decode b_LawReader_readLaw 101 = .ok (.getfield 67, 3) := by decide +kernel
theorem d_LawReader_readLaw_104 : decode b_LawReader_readLaw 104 = .ok (.ldc 70, 2) := by decide +kernel
theorem d_LawReader_readLaw_106 : decode b_LawReader_readLaw 106 = .ok (.invokevirtual 63, 3) := by decide +kernel
theorem d_LawReader_readLaw_109 : decode b_LawReader_readLaw 109 = .ok (.putfield 71, 3) := by decide +kernel
theorem d_LawReader_readLaw_112 : decode b_LawReader_readLaw 112 = .ok (.aload_n 1, 1) := by decide +kernel
theorem d_LawReader_readLaw_113 : decode b_LawReader_readLaw 113 = .ok (.aload_n 0, 1) := by decide +kernel
theorem d_LawReader_readLaw_114 : decode b_LawReader_readLaw 114 = .ok (.iconst 1, 1) := by decide +kernel
theorem d_LawReader_readLaw_115 : decode b_LawReader_readLaw 115 = .ok (.aload_n 0, 1) := by decide +kernel
theorem d_LawReader_readLaw_116 : decode b_LawReader_readLaw 116 = .ok (.getfield 31, 3) := by decide +kernel
theorem d_LawReader_readLaw_119 : decode b_LawReader_readLaw 119 = .ok (.invokevirtual 63, 3) := by decide +kernel
theorem d_LawReader_readLaw_122 : decode b_LawReader_readLaw 122 = .ok (.putfield 74, 3) := by decide +kernel
theorem d_LawReader_readLaw_125 : decode b_LawReader_readLaw 125 = .ok (.goto 61, 3) := by decide +kernel
theorem d_LawReader_readLaw_128 : decode b_LawReader_readLaw 128 = .ok (.aload_n 0, 1) := by decide +kernel
theorem d_LawReader_readLaw_129 : decode b_LawReader_readLaw 129 = .ok (.aload_n 1, 1) := by decide +kernel
theorem d_LawReader_readLaw_130 : decode b_LawReader_readLaw 130 = .ok (.getfield 77, 3) := by decide +kernel
theorem d_LawReader_readLaw_133 : decode b_LawReader_readLaw 133 = .ok (.invokevirtual 81, 3) := by decide +kernel
theorem d_LawReader_readLaw_136 : decode b_LawReader_readLaw 136 = .ok (.goto 50, 3) := by decide +kernel
theorem d_LawReader_readLaw_139 : decode b_LawReader_readLaw 139 = .ok (.aload_n 1, 1) := by decide +kernel
theorem d_LawReader_readLaw_140 : decode b_LawReader_readLaw 140 = .ok (.aload_n 0, 1) := by decide +kernel
theorem d_LawReader_readLaw_141 : decode b_LawReader_readLaw 141 = .ok (.invokevirtual 85, 3) := by decide +kernel
theorem d_LawReader_readLaw_144 : decode b_LawReader_readLaw 144 = .ok (.putfield 88, 3) := by decide +kernel
theorem d_LawReader_readLaw_147 : decode b_LawReader_readLaw 147 = .ok (.goto 39, 3) := by decide +kernel
theorem d_LawReader_readLaw_150 : decode b_LawReader_readLaw 150 = .ok (.aload_n 1, 1) := by decide +kernel
theorem d_LawReader_readLaw_151 : decode b_LawReader_readLaw 151 = .ok (.aload_n 0, 1) := by decide +kernel
theorem d_LawReader_readLaw_152 : decode b_LawReader_readLaw 152 = .ok (.invokevirtual 85, 3) := by decide +kernel
theorem d_LawReader_readLaw_155 : decode b_LawReader_readLaw 155 = .ok (.putfield 88, 3) := by decide +kernel
theorem d_LawReader_readLaw_158 : decode b_LawReader_readLaw 158 = .ok (.aload_n 1, 1) := by decide +kernel
theorem d_LawReader_readLaw_159 : decode b_LawReader_readLaw 159 = .ok (.aload_n 0, 1) := by decide +kernel
theorem d_LawReader_readLaw_160 : decode b_LawReader_readLaw 160 = .ok (.iconst 0, 1) := by decide +kernel
theorem d_LawReader_readLaw_161 : decode b_LawReader_readLaw 161 = .ok (.bipush 8, 2) := by decide +kernel
theorem d_LawReader_readLaw_163 : decode b_LawReader_readLaw 163 = .ok (.invokevirtual 63, 3) := by decide +kernel
theorem d_LawReader_readLaw_166 : decode b_LawReader_readLaw 166 = .ok (.putfield 67, 3) := by decide +kernel
theorem d_LawReader_readLaw_169 : decode b_LawReader_readLaw 169 = .ok (.aload_n 1, 1) := by decide +kernel
theorem d_LawReader_readLaw_170 : decode b_LawReader_readLaw 170 = .ok (.aload_n 0, 1) := by decide +kernel
theorem d_LawReader_readLaw_171 : decode b_LawReader_readLaw 171 = .ok (.aload_n 1, 1) := by decide +kernel
theorem d_LawReader_readLaw_172 : decode b_LawReader_readLaw 172 = .ok (.getfield 67, 3) := by decide +kernel
theorem d_LawReader_readLaw_175 : decode b_LawReader_readLaw 175 = .ok (.bipush 8, 2) := by decide +kernel
theorem d_LawReader_readLaw_177 : decode b_LawReader_readLaw 177 = .ok (.invokevirtual 63, 3) := by decide +kernel
theorem d_LawReader_readLaw_180 : decode b_LawReader_readLaw 180 = .ok (.putfield 71, 3) := by decide +kernel
theorem d_LawReader_readLaw_183 : decode b_LawReader_readLaw 183 = .ok (.goto 3, 3) := by decide +kernel
theorem d_LawReader_readLaw_186 : decode b_LawReader_readLaw 186 = .ok (.aload_n 1, 1) := by decide +kernel
theorem d_LawReader_readLaw_187 : decode b_LawReader_readLaw 187 = .ok (.aload_n 0, 1) := by decide +kernel
theorem d_LawReader_readLaw_188 : decode b_LawReader_readLaw 188 = .ok (.iconst 0, 1) := by decide +kernel
theorem d_LawReader_readLaw_189 : decode b_LawReader_readLaw 189 = .ok (.sipush 1000, 3) := by decide +kernel
theorem d_LawReader_readLaw_192 : decode b_LawReader_readLaw 192 = .ok (.invokevirtual 63, 3) := by decide +kernel
theorem d_LawReader_readLaw_195 : decode b_LawReader_readLaw 195 = .ok (.putfield 91, 3) := by decide +kernel
theorem d_LawReader_readLaw_198 : decode b_LawReader_readLaw 198 = .ok (.aload_n 0, 1) := by decide +kernel
theorem d_LawReader_readLaw_199 : decode b_LawReader_readLaw 199 = .ok (.iconst 5, 1) := by decide +kernel
theorem d_LawReader_readLaw_200 : decode b_LawReader_readLaw 200 = .ok (.invokevirtual 94, 3) := by decide +kernel
theorem d_LawReader_readLaw_203 : decode b_LawReader_readLaw 203 = .ok (.pop, 1) := by decide +kernel
theorem d_LawReader_readLaw_204 : decode b_LawReader_readLaw 204 = .ok (.return_, 1) := by decide +kernel
theorem d_LawReader_readLaws_0 : decode b_LawReader_readLaws 0 = .ok (.aload_n 0, 1) := by decide +kernel
theorem d_LawReader_readLaws_1 : decode b_LawReader_readLaws 1 = .ok (.iconst 0, 1) := by decide +kernel
theorem d_LawReader_readLaws_2 : decode b_LawReader_readLaws 2 = .ok (.putfield 34, 3) := by decide +kernel
theorem d_LawReader_readLaws_5 : decode b_LawReader_readLaws 5 = .ok (.aload_n 0, 1) := by decide +kernel
theorem d_LawReader_readLaws_6 : decode b_LawReader_readLaws 6 = .ok (.bipush (-2), 2) := by decide +kernel
theorem d_LawReader_readLaws_8 : decode b_LawReader_readLaws 8 = .ok (.putfield 9, 3) := by decide +kernel
theorem d_LawReader_readLaws_11 : decode b_LawReader_readLaws 11 = .ok (.aload_n 0, 1) := by decide +kernel
theorem d_LawReader_readLaws_12 : decode b_LawReader_readLaws 12 = .ok (.getfield 20, 3) := by decide +kernel
theorem d_LawReader_readLaws_15 : decode b_LawReader_readLaws 15 = .ok (.invokevirtual 37, 3) := by decide +kernel
theorem d_LawReader_readLaws_18 : decode b_LawReader_readLaws 18 = .ok (.iconst 0, 1) := by decide +kernel
theorem d_LawReader_readLaws_19 : decode b_LawReader_readLaws 19 = .ok (.istore_n 2, 1) := by decide +kernel
theorem d_LawReader_readLaws_20 : decode b_LawReader_readLaws 20 = .ok (.iconst 0, 1) := by decide +kernel
theorem d_LawReader_readLaws_21 : decode b_LawReader_readLaws 21 = .ok (.istore_n 3, 1) := by decide +kernel
theorem d_LawReader_readLaws_22 : decode b_LawReader_readLaws 22 = .ok (.iload_n 3, 1) := by decide +kernel
theorem d_LawReader_readLaws_23 : decode b_LawReader_readLaws 23 = .ok (.bipush 16, 2) := by decide +kernel
theorem d_LawReader_readLaws_25 : decode b_LawReader_readLaws 25 = .ok (.if_icmp .gt 85, 3) := by decide +kernel
theorem d_LawReader_readLaws_28 : decode b_LawReader_readLaws 28 = .ok (.aload_n 0, 1) := by decide +kernel
theorem d_LawReader_readLaws_29 : decode b_LawReader_readLaws 29 = .ok (.getfield 34, 3) := by decide +kernel
theorem d_LawReader_readLaws_32 : decode b_LawReader_readLaws 32 = .ok (.ifCond .ne 78, 3) := by decide +kernel
theorem d_LawReader_readLaws_35 : decode b_LawReader_readLaws 35 = .ok (.aload_n 0, 1) := by decide +kernel
theorem d_LawReader_readLaws_36 : decode b_LawReader_readLaws 36 = .ok (.getfield 20, 3) := by decide +kernel
theorem d_LawReader_readLaws_39 : decode b_LawReader_readLaws 39 = .ok (.invokevirtual 40, 3) := by decide +kernel
theorem d_LawReader_readLaws_42 : decode b_LawReader_readLaws 42 = .ok (.istore 4, 2) := by decide +kernel
theorem d_LawReader_readLaws_44 : decode b_LawReader_readLaws 44 = .ok (.iload 4, 2) := by decide +kernel
theorem d_LawReader_readLaws_46 : decode b_LawReader_readLaws 46 = .ok (.iconst 1, 1) := by decide +kernel
theorem d_LawReader_readLaws_47 : decode b_LawReader_readLaws 47 = .ok (.if_icmp .ne 6, 3) := by decide +kernel
theorem d_LawReader_readLaws_50 : decode b_LawReader_readLaws 50 = .ok (.goto 60, 3) := by decide +kernel
theorem d_LawReader_readLaws_53 : decode b_LawReader_readLaws 53 = .ok (.iload 4, 2) := by decide +kernel
theorem d_LawReader_readLaws_55 : decode b_LawReader_readLaws 55 = .ok (.ifCond .ne 18, 3) := by decide +kernel
theorem d_LawReader_readLaws_58 : decode b_LawReader_readLaws 58 = .ok (.aload_n 0, 1) := by decide +kernel
theorem d_LawReader_readLaws_59 : decode b_LawReader_readLaws 59 = .ok (.iconst 1, 1) := by decide +kernel
theorem d_LawReader_readLaws_60 : decode b_LawReader_readLaws 60 = .ok (.aload_n 0, 1) := by decide +kernel
theorem d_LawReader_readLaws_61 : decode b_LawReader_readLaws 61 = .ok (.getfield 20, 3) := by decide +kernel
theorem d_LawReader_readLaws_64 : decode b_LawReader_readLaws 64 = .ok (.getfield 44, 3) := by decide +kernel
theorem d_LawReader_readLaws_67 : decode b_LawReader_readLaws 67 = .ok (.invokevirtual 47, 3) := by decide +kernel
theorem d_LawReader_readLaws_70 : decode b_LawReader_readLaws 70 = .ok (.goto 34, 3) := by decide +kernel
theorem d_LawReader_readLaws_73 : decode b_LawReader_readLaws 73 = .ok (.iload_n 3, 1) := by decide +kernel
theorem d_LawReader_readLaws_74 : decode b_LawReader_readLaws 74 = .ok (.aload_n 1, 1) := by decide +kernel
theorem d_LawReader_readLaws_75 : decode b_LawReader_readLaws 75 = .ok (.arraylength, 1) := by decide +kernel
theorem d_LawReader_readLaws_76 : decode b_LawReader_readLaws 76 = .ok (.if_icmp .lt 18, 3) := by decide +kernel
theorem d_LawReader_readLaws_79 : decode b_LawReader_readLaws 79 = .ok (.aload_n 0, 1) := by decide +kernel
theorem d_LawReader_readLaws_80 : decode b_LawReader_readLaws 80 = .ok (.iconst 3, 1) := by decide +kernel
theorem d_LawReader_readLaws_81 : decode b_LawReader_readLaws 81 = .ok (.aload_n 0, 1) := by decide +kernel
theorem d_LawReader_readLaws_82 : decode b_LawReader_readLaws 82 = .ok (.getfield 20, 3) := by decide +kernel
theorem d_LawReader_readLaws_85 : decode b_LawReader_readLaws 85 = .ok (.getfield 44, 3) := by decide +kernel
theorem d_LawReader_readLaws_88 : decode b_LawReader_readLaws 88 = .ok (.invokevirtual 47, 3) := by decide +kernel
theorem d_LawReader_readLaws_91 : decode b_LawReader_readLaws 91 = .ok (.goto 13, 3) := by decide +kernel
theorem d_LawReader_readLaws_94 : decode b_LawReader_readLaws 94 = .ok (.aload_n 0, 1) := by decide +kernel
theorem d_LawReader_readLaws_95 : decode b_LawReader_readLaws 95 = .ok (.aload_n 1, 1) := by decide +kernel
theorem d_LawReader_readLaws_96 : decode b_LawReader_readLaws 96 = .ok (.iload_n 3, 1) := by decide +kernel
theorem d_LawReader_readLaws_97 : decode b_LawReader_readLaws 97 = .ok (.aaload, 1) := by decide +kernel
theorem d_LawReader_readLaws_98 : decode b_LawReader_readLaws 98 = .ok (.invokevirtual 51, 3) := by decide +kernel
theorem d_LawReader_readLaws_101 : decode b_LawReader_readLaws 101 = .ok (.iinc 2 1, 3) := by decide +kernel
theorem d_LawReader_readLaws_104 : decode b_LawReader_readLaws 104 = .ok (.iinc 3 1, 3) := by decide +kernel
theorem d_LawReader_readLaws_107 : decode b_LawReader_readLaws 107 = .ok (.goto (-85), 3) := by decide +kernel
theorem d_LawReader_readLaws_110 : decode b_LawReader_readLaws 110 = .ok (.iload_n 2, 1) := by decide +kernel
theorem d_LawReader_readLaws_111 : decode b_LawReader_readLaws 111 = .ok (.ireturn, 1) := by decide +kernel
theorem d_RR_read_0 : decode b_RR_read 0 = .ok (.aload_n 0, 1) := by decide +kernel
theorem d_RR_read_1 : decode b_RR_read 1 = .ok (.getfield 75, 3) := by decide +kernel
theorem d_RR_read_4 : decode b_RR_read 4 = .ok (.aload_n 0, 1) := by decide +kernel
theorem d_RR_read_5 : decode b_RR_read 5 = .ok (.getfield 36, 3) := by decide +kernel
theorem d_RR_read_8 : decode b_RR_read 8 = .ok (.invokevirtual 87, 3) := by decide +kernel
theorem d_RR_read_11 : decode b_RR_read 11 = .ok (.istore_n 1, 1) := by decide +kernel
theorem d_RR_read_12 : decode b_RR_read 12 = .ok (.aload_n 0, 1) := by decide +kernel
theorem d_RR_read_13 : decode b_RR_read 13 = .ok (.getfield 10, 3) := by decide +kernel
theorem d_RR_read_16 : decode b_RR_read 16 = .ok (.iconst 0, 1) := by decide +kernel
theorem d_RR_read_17 : decode b_RR_read 17 = .ok (.putfield 80, 3) := by decide +kernel
theorem d_RR_read_20 : decode b_RR_read 20 = .ok (.aload_n 0, 1) := by decide +kernel
theorem d_RR_read_21 : decode b_RR_read 21 = .ok (.getfield 75, 3) := by decide +kernel
theorem d_RR_read_24 : decode b_RR_read 24 = .ok (.getfield 91, 3) := by decide +kernel
theorem d_RR_read_27 : decode b_RR_read 27 = .ok (.ifCond .eq 14, 3) := by decide +kernel
theorem d_RR_read_30 : decode b_RR_read 30 = .ok (.bipush (-10), 2) := by decide +kernel
theorem d_RR_read_32 : decode b_RR_read 32 = .ok (.aload_n 0, 1) := by decide +kernel
theorem d_RR_read_33 : decode b_RR_read 33 = .ok (.getfield 75, 3) := by decide +kernel
theorem d_RR_read_36 : decode b_RR_read 36 = .ok (.getfield 91, 3) := by decide +kernel
theorem d_RR_read_39 : decode b_RR_read 39 = .ok (.isub, 1) := by decide +kernel
theorem d_RR_read_40 : decode b_RR_read 40 = .ok (.ireturn, 1) := by decide +kernel
theorem d_RR_read_41 : decode b_RR_read 41 = .ok (.aload_n 0, 1) := by decide +kernel
theorem d_RR_read_42 : decode b_RR_read 42 = .ok (.getfield 32, 3) := by decide +kernel
theorem d_RR_read_45 : decode b_RR_read 45 = .ok (.astore_n 2, 1) := by decide +kernel
theorem d_RR_read_46 : decode b_RR_read 46 = .ok (.aload_n 0, 1) := by decide +kernel
theorem d_RR_read_47 : decode b_RR_read 47 = .ok (.aload_n 0, 1) := by decide +kernel
theorem d_RR_read_48 : decode b_RR_read 48 = .ok (.getfield 36, 3) := by decide +kernel
theorem d_RR_read_51 : decode b_RR_read 51 = .ok (.putfield 32, 3) := by decide +kernel
theorem d_RR_read_54 : decode b_RR_read 54 = .ok (.aload_n 0, 1) := by decide +kernel
theorem d_RR_read_55 : decode b_RR_read 55 = .ok (.aload_n 2, 1) := by decide +kernel
theorem d_RR_read_56 : decode b_RR_read 56 = .ok (.putfield 36, 3) := by decide +kernel
theorem d_RR_read_59 : decode b_RR_read 59 = .ok (.aload_n 0, 1) := by decide +kernel
theorem d_RR_read_60 : decode b_RR_read 60 = .ok (.iload_n 1, 1) := by decide +kernel
theorem d_RR_read_61 : decode b_RR_read 61 = .ok (.putfield 94, 3) := by decide +kernel
theorem d_RR_read_64 : decode b_RR_read 64 = .ok (.iload_n 1, 1) := by decide +kernel
theorem d_RR_read_65 : decode b_RR_read 65 = .ok (.ireturn, 1) := by decide +kernel
def f_Law_nameOf (x0 : Int32) (ω : xS) : Option Nat :=
  if x0 = 0 then (
    some 0)
  else (
  if x0 = 1 then (
    some 1)
  else (
  if x0 = 2 then (
    some 2)
  else (
  if x0 = 3 then (
    some 3)
  else (
  if x0 = 4 then (
    some 4)
  else (
  if x0 = 5 then (
    some 5)
  else (
  some 6))))))
set_option maxHeartbeats 4000000 in
set_option maxRecDepth 100000 in
theorem c_Law_nameOf {l : Launch} {E : xV} {z : Nat} {x0 : Int32} {r : Nat} {ω : xS} (hf : f_Law_nameOf x0 ω = some r) : xM l E y_Law_nameOf ws_Law_nameOf { frames := 0, cells := 0, slots := 0, locals := 0 } [.int x0] z ω (some (.ref (E.2.1 (100 + r)))) z ω := by
  refine x_start (cc := b_Law_nameOf) (maxL := 1) (ret := (some (.object "java/lang/String"))) (by decide) rfl (Nat.le_of_ble_eq_true rfl) ?_
  intro p e s m below meth c S hr hlocks hin ls hl hw
  have hl : lv_has ls 1 [(0, .int x0)] := hl
  unfold f_Law_nameOf at hf
  refine lv_iload_n S.1 S.2.1 d_Law_nameOf_0 rfl (lv_at hl 0 rfl) ?_
  by_cases c1 : x0 = 0
  · replace hf := xt c1 hf
    refine lv_tableIn (tgt := 40) S.1 S.2.1 d_Law_nameOf_1 (by rw [c1]; decide) (by rw [c1]; decide) (by rw [c1]; rfl) (by decide) ?_
    refine x_ldcS S hw 0 (by decide) rfl d_Law_nameOf_40 ?_
    obtain rfl := xe1 hf
    exact x_aret S hr (by first | exact Or.inl ⟨_, rfl⟩ | exact Or.inr ⟨_, rfl⟩) hlocks hw d_Law_nameOf_42
  replace hf := xf c1 hf
  by_cases c2 : x0 = 1
  · replace hf := xt c2 hf
    refine lv_tableIn (tgt := 43) S.1 S.2.1 d_Law_nameOf_1 (by rw [c2]; decide) (by rw [c2]; decide) (by rw [c2]; rfl) (by decide) ?_
    refine x_ldcS S hw 1 (by decide) rfl d_Law_nameOf_43 ?_
    obtain rfl := xe1 hf
    exact x_aret S hr (by first | exact Or.inl ⟨_, rfl⟩ | exact Or.inr ⟨_, rfl⟩) hlocks hw d_Law_nameOf_45
  replace hf := xf c2 hf
  by_cases c3 : x0 = 2
  · replace hf := xt c3 hf
    refine lv_tableIn (tgt := 46) S.1 S.2.1 d_Law_nameOf_1 (by rw [c3]; decide) (by rw [c3]; decide) (by rw [c3]; rfl) (by decide) ?_
    refine x_ldcS S hw 2 (by decide) rfl d_Law_nameOf_46 ?_
    obtain rfl := xe1 hf
    exact x_aret S hr (by first | exact Or.inl ⟨_, rfl⟩ | exact Or.inr ⟨_, rfl⟩) hlocks hw d_Law_nameOf_48
  replace hf := xf c3 hf
  by_cases c4 : x0 = 3
  · replace hf := xt c4 hf
    refine lv_tableIn (tgt := 49) S.1 S.2.1 d_Law_nameOf_1 (by rw [c4]; decide) (by rw [c4]; decide) (by rw [c4]; rfl) (by decide) ?_
    refine x_ldcS S hw 3 (by decide) rfl d_Law_nameOf_49 ?_
    obtain rfl := xe1 hf
    exact x_aret S hr (by first | exact Or.inl ⟨_, rfl⟩ | exact Or.inr ⟨_, rfl⟩) hlocks hw d_Law_nameOf_51
  replace hf := xf c4 hf
  by_cases c5 : x0 = 4
  · replace hf := xt c5 hf
    refine lv_tableIn (tgt := 52) S.1 S.2.1 d_Law_nameOf_1 (by rw [c5]; decide) (by rw [c5]; decide) (by rw [c5]; rfl) (by decide) ?_
    refine x_ldcS S hw 4 (by decide) rfl d_Law_nameOf_52 ?_
    obtain rfl := xe1 hf
    exact x_aret S hr (by first | exact Or.inl ⟨_, rfl⟩ | exact Or.inr ⟨_, rfl⟩) hlocks hw d_Law_nameOf_54
  replace hf := xf c5 hf
  by_cases c6 : x0 = 5
  · replace hf := xt c6 hf
    refine lv_tableIn (tgt := 55) S.1 S.2.1 d_Law_nameOf_1 (by rw [c6]; decide) (by rw [c6]; decide) (by rw [c6]; rfl) (by decide) ?_
    refine x_ldcS S hw 5 (by decide) rfl d_Law_nameOf_55 ?_
    obtain rfl := xe1 hf
    exact x_aret S hr (by first | exact Or.inl ⟨_, rfl⟩ | exact Or.inr ⟨_, rfl⟩) hlocks hw d_Law_nameOf_57
  replace hf := xf c6 hf
  refine lv_tableOut (tgt := 58) S.1 S.2.1 d_Law_nameOf_1 (by have h_c1 := lv_neT (a := 0) c1 (by decide); have h_c2 := lv_neT (a := 1) c2 (by decide); have h_c3 := lv_neT (a := 2) c3 (by decide); have h_c4 := lv_neT (a := 3) c4 (by decide); have h_c5 := lv_neT (a := 4) c5 (by decide); have h_c6 := lv_neT (a := 5) c6 (by decide); omega) (by decide) ?_
  refine x_ldcS S hw 6 (by decide) rfl d_Law_nameOf_58 ?_
  obtain rfl := xe1 hf
  exact x_aret S hr (by first | exact Or.inl ⟨_, rfl⟩ | exact Or.inr ⟨_, rfl⟩) hlocks hw d_Law_nameOf_60
def f_Tokens_spells_28 : Nat → Nat → Nat → Int32 → xS → Option Int32
  | 0, _, _, _, _ => none
  | n + 1, a0, i1, x2, ω =>
    (xslen i1).bind fun t7 =>
    if t7 ≤ x2 then (
      some 1)
    else (
      (xgr ω a0 10 0).bind fun t9 =>
      (xgi ω a0 10 2).bind fun t10 =>
      (xk ω t9 9 (f_Tape_byteAt t9 (t10 + x2) ω)).bind fun t12 =>
      (xsch i1 x2).bind fun t13 =>
      if t12 = t13 then (
        f_Tokens_spells_28  n a0 i1 (x2 + 1) ω)
      else (
        some 0))
set_option maxHeartbeats 4000000 in
set_option maxRecDepth 100000 in
theorem w_Tokens_spells_28 {p : Program} {l : Launch} {e : Env} {s : State} {m : MethodId} {args : Array Value} {below : List Frame} {meth : Method} {c : Code} {E : xV} {z : Nat} {r : Int32} {ω : xS} (S : CallFix p m c b_Tokens_spells 3 s args xTbl "RosterRules$Tokens") (hr : meth.sig.returnType = (some .boolean)) (hlocks : meth.locks = false) : ∀ n : Nat, ∀ (a0 : Nat) (i1 : Nat) (x2 : Int32) (H : Heap) (locs : List Loc) (ls : Array Slot), xW E z ω s s.heap H locs → lv_has ls 3 [(0, .ref a0), (1, .ref (E.2.1 (100 + i1))), (2, .int x2)] → f_Tokens_spells_28 n a0 i1 x2 ω = some r → W p l e (headSpec ws_Tokens_spells { frames := 4, cells := 0, slots := 0, locals := 85 }).room s m args below meth c H locs 0 0 (MQ below (xQ E (some (.int r)) z ω) args s 0 0 (fun q => E.2.2 ≤ q)) (F0 m 28 ls []) := by
  intro n
  induction n with
  | zero =>
    intro a0 i1 x2 H locs ls hw hl hf
    have h2 : (none : Option Int32) = some r := hf
    cases h2
  | succ n ih =>
    intro a0 i1 x2 H locs ls hw hl hf
    rw [f_Tokens_spells_28] at hf
    refine lv_iload_n S.1 S.2.1 d_Tokens_spells_28 rfl (lv_at hl 2 rfl) ?_
    refine lv_aload_n S.1 S.2.1 d_Tokens_spells_29 rfl (lv_at hl 1 rfl) ?_
    obtain ⟨t7, ht7, hf⟩ := xb hf
    refine x_slen S hw ht7 hl.1 (Nat.le_of_ble_eq_true rfl) ⟨Nat.le_of_ble_eq_true rfl, Nat.le_of_ble_eq_true rfl⟩ d_Tokens_spells_30 ⟨Nat.le_of_ble_eq_true rfl, Nat.le_of_ble_eq_true rfl⟩ (fun H locs hw => ?_)
    refine lv_icmp_ge (tgt := 65) S.1 S.2.1 d_Tokens_spells_33 (by decide) (fun c8 => ?_) (fun c8 => ?_)
    · replace hf := xt c8 hf
      refine lv_iconst (v := 1) S.1 S.2.1 d_Tokens_spells_65 (by decide) ?_
      obtain rfl := xe1 hf
      exact x_zret S hr hlocks hw (by decide) d_Tokens_spells_66
    · replace hf := xf c8 hf
      refine lv_aload_n S.1 S.2.1 d_Tokens_spells_36 rfl (lv_at hl 0 rfl) ?_
      obtain ⟨t9, ht9, hf⟩ := xb hf
      refine x_getr S hw lk_Tokens_9 ht9 d_Tokens_spells_37 ?_
      refine lv_aload_n S.1 S.2.1 d_Tokens_spells_40 rfl (lv_at hl 0 rfl) ?_
      obtain ⟨t10, ht10, hf⟩ := xb hf
      refine x_geti S hw lk_Tokens_19 ht10 d_Tokens_spells_41 ?_
      refine lv_iload_n S.1 S.2.1 d_Tokens_spells_44 rfl (lv_at hl 2 rfl) ?_
      refine lv_iadd S.1 S.2.1 d_Tokens_spells_45 ?_
      obtain ⟨t12, h11, hf⟩ := xb hf
      obtain ⟨h11b, h11⟩ := xkb h11
      refine x_callV (As := [.int (t10 + x2)]) (rest := []) (st1 := [.int t12]) S hw (c_Tape_byteAt h11) (cwV 1 S.2.2.2.2 gv_Tokens_31 rfl rfl rfl hd_Tape_byteAt ⟨Nat.le_of_ble_eq_true rfl, Nat.le_of_ble_eq_true rfl⟩) rfl h11b rfl hl.1 rfl rfl (Nat.le_of_ble_eq_true rfl) d_Tokens_spells_46 ⟨Nat.le_of_ble_eq_true rfl, Nat.le_of_ble_eq_true rfl⟩ (fun H locs hw => ?_)
      refine lv_aload_n S.1 S.2.1 d_Tokens_spells_49 rfl (lv_at hl 1 rfl) ?_
      refine lv_iload_n S.1 S.2.1 d_Tokens_spells_50 rfl (lv_at hl 2 rfl) ?_
      obtain ⟨t13, ht13, hf⟩ := xb hf
      refine x_schr S hw ht13 hl.1 (Nat.le_of_ble_eq_true rfl) ⟨Nat.le_of_ble_eq_true rfl, Nat.le_of_ble_eq_true rfl⟩ d_Tokens_spells_51 ⟨Nat.le_of_ble_eq_true rfl, Nat.le_of_ble_eq_true rfl⟩ (fun H locs hw => ?_)
      refine lv_icmp_eq (tgt := 59) S.1 S.2.1 d_Tokens_spells_54 (by decide) (fun c14 => ?_) (fun c14 => ?_)
      · replace hf := xt c14 hf
        refine lv_iinc (v := (x2 + 1)) (lv' := [(2, .int (x2 + 1)), (0, .ref a0), (1, .ref (E.2.1 (100 + i1)))]) S.1 S.2.1 d_Tokens_spells_59 hl (k := 2) rfl rfl (by decide) rfl (fun ls hl => ?_)
        refine lv_goto (tgt := 28) S.1 S.2.1 d_Tokens_spells_62 (by decide) ?_
        exact ih _ _ _ _ _ _ hw (lv_sub hl [1, 2, 0] rfl) hf
      · replace hf := xf c14 hf
        refine lv_iconst (v := 0) S.1 S.2.1 d_Tokens_spells_57 (by decide) ?_
        obtain rfl := xe1 hf
        exact x_zret S hr hlocks hw (by decide) d_Tokens_spells_58
def f_Tokens_spells (a0 : Nat) (i1 : Nat) (ω : xS) : Option Int32 :=
  (xgi ω a0 10 1).bind fun t1 =>
  if t1 = 2 then (
    (xslen i1).bind fun t3 =>
    (xgi ω a0 10 3).bind fun t4 =>
    (xgi ω a0 10 2).bind fun t5 =>
    if t3 = (t4 - t5) then (
      f_Tokens_spells_28  xFU a0 i1 0 ω)
    else (
      some 0))
  else (
    some 0)
set_option maxHeartbeats 4000000 in
set_option maxRecDepth 100000 in
theorem c_Tokens_spells {l : Launch} {E : xV} {z : Nat} {a0 : Nat} {i1 : Nat} {r : Int32} {ω : xS} (hf : f_Tokens_spells a0 i1 ω = some r) : xM l E y_Tokens_spells ws_Tokens_spells { frames := 4, cells := 0, slots := 0, locals := 85 } [.ref a0, .ref (E.2.1 (100 + i1))] z ω (some (.int r)) z ω := by
  refine x_start (cc := b_Tokens_spells) (maxL := 3) (ret := (some .boolean)) (by decide) rfl (Nat.le_of_ble_eq_true rfl) ?_
  intro p e s m below meth c S hr hlocks hin ls hl hw
  have hl : lv_has ls 3 [(0, .ref a0), (1, .ref (E.2.1 (100 + i1)))] := hl
  unfold f_Tokens_spells at hf
  refine lv_aload_n S.1 S.2.1 d_Tokens_spells_0 rfl (lv_at hl 0 rfl) ?_
  obtain ⟨t1, ht1, hf⟩ := xb hf
  refine x_geti S hw lk_Tokens_38 ht1 d_Tokens_spells_1 ?_
  refine lv_iconst (v := 2) S.1 S.2.1 d_Tokens_spells_4 (by decide) ?_
  refine lv_icmp_ne (tgt := 24) S.1 S.2.1 d_Tokens_spells_5 (by decide) (fun c2 => ?_) (fun c2 => ?_)
  · replace hf := xf c2 hf
    refine lv_iconst (v := 0) S.1 S.2.1 d_Tokens_spells_24 (by decide) ?_
    obtain rfl := xe1 hf
    exact x_zret S hr hlocks hw (by decide) d_Tokens_spells_25
  · replace hf := xt c2 hf
    refine lv_aload_n S.1 S.2.1 d_Tokens_spells_8 rfl (lv_at hl 1 rfl) ?_
    obtain ⟨t3, ht3, hf⟩ := xb hf
    refine x_slen S hw ht3 hl.1 (Nat.le_of_ble_eq_true rfl) ⟨Nat.le_of_ble_eq_true rfl, Nat.le_of_ble_eq_true rfl⟩ d_Tokens_spells_9 ⟨Nat.le_of_ble_eq_true rfl, Nat.le_of_ble_eq_true rfl⟩ (fun H locs hw => ?_)
    refine lv_aload_n S.1 S.2.1 d_Tokens_spells_12 rfl (lv_at hl 0 rfl) ?_
    obtain ⟨t4, ht4, hf⟩ := xb hf
    refine x_geti S hw lk_Tokens_15 ht4 d_Tokens_spells_13 ?_
    refine lv_aload_n S.1 S.2.1 d_Tokens_spells_16 rfl (lv_at hl 0 rfl) ?_
    obtain ⟨t5, ht5, hf⟩ := xb hf
    refine x_geti S hw lk_Tokens_19 ht5 d_Tokens_spells_17 ?_
    refine lv_isub S.1 S.2.1 d_Tokens_spells_20 ?_
    refine lv_icmp_eq (tgt := 26) S.1 S.2.1 d_Tokens_spells_21 (by decide) (fun c6 => ?_) (fun c6 => ?_)
    · replace hf := xt c6 hf
      refine lv_iconst (v := 0) S.1 S.2.1 d_Tokens_spells_26 (by decide) ?_
      refine lv_istore_n (lv' := [(2, .int 0), (0, .ref a0), (1, .ref (E.2.1 (100 + i1)))]) S.1 S.2.1 d_Tokens_spells_27 rfl hl (by decide) rfl (fun ls hl => ?_)
      exact w_Tokens_spells_28 S hr hlocks  _ _ _ _ _ _ _ hw (lv_sub hl [1, 2, 0] rfl) hf
    · replace hf := xf c6 hf
      refine lv_iconst (v := 0) S.1 S.2.1 d_Tokens_spells_24 (by decide) ?_
      obtain rfl := xe1 hf
      exact x_zret S hr hlocks hw (by decide) d_Tokens_spells_25
def f_LawReader_sortNamed_2 : Nat → Nat → Int32 → xS → Option Int32
  | 0, _, _, _ => none
  | n + 1, a0, x1, ω =>
    if 7 ≤ x1 then (
      some (-1))
    else (
      (xgr ω a0 5 0).bind fun t2 =>
      (f_Law_nameOf x1 ω).bind fun t4 =>
      (xk ω t2 10 (f_Tokens_spells t2 t4 ω)).bind fun t6 =>
      if t6 = 0 then (
        f_LawReader_sortNamed_2  n a0 (x1 + 1) ω)
      else (
        some x1))
set_option maxHeartbeats 4000000 in
set_option maxRecDepth 100000 in
theorem w_LawReader_sortNamed_2 {p : Program} {l : Launch} {e : Env} {s : State} {m : MethodId} {args : Array Value} {below : List Frame} {meth : Method} {c : Code} {E : xV} {z : Nat} {r : Int32} {ω : xS} (S : CallFix p m c b_LawReader_sortNamed 2 s args xTbl "RosterRules$LawReader") (hr : meth.sig.returnType = (some .int)) (hlocks : meth.locks = false) : ∀ n : Nat, ∀ (a0 : Nat) (x1 : Int32) (H : Heap) (locs : List Loc) (ls : Array Slot), xW E z ω s s.heap H locs → lv_has ls 2 [(0, .ref a0), (1, .int x1)] → f_LawReader_sortNamed_2 n a0 x1 ω = some r → W p l e (headSpec ws_LawReader_sortNamed { frames := 5, cells := 0, slots := 0, locals := 107 }).room s m args below meth c H locs 0 0 (MQ below (xQ E (some (.int r)) z ω) args s 0 0 (fun q => E.2.2 ≤ q)) (F0 m 2 ls []) := by
  intro n
  induction n with
  | zero =>
    intro a0 x1 H locs ls hw hl hf
    have h2 : (none : Option Int32) = some r := hf
    cases h2
  | succ n ih =>
    intro a0 x1 H locs ls hw hl hf
    rw [f_LawReader_sortNamed_2] at hf
    refine lv_iload_n S.1 S.2.1 d_LawReader_sortNamed_2 rfl (lv_at hl 1 rfl) ?_
    refine lv_bipush (v := 7) S.1 S.2.1 d_LawReader_sortNamed_3 (by decide) ?_
    refine lv_icmp_ge (tgt := 30) S.1 S.2.1 d_LawReader_sortNamed_5 (by decide) (fun c1 => ?_) (fun c1 => ?_)
    · replace hf := xt c1 hf
      refine lv_iconst (v := (-1)) S.1 S.2.1 d_LawReader_sortNamed_30 (by decide) ?_
      obtain rfl := xe1 hf
      exact x_iret S hr hlocks hw d_LawReader_sortNamed_31
    · replace hf := xf c1 hf
      refine lv_aload_n S.1 S.2.1 d_LawReader_sortNamed_8 rfl (lv_at hl 0 rfl) ?_
      obtain ⟨t2, ht2, hf⟩ := xb hf
      refine x_getr S hw lk_LawReader_20 ht2 d_LawReader_sortNamed_9 ?_
      refine lv_iload_n S.1 S.2.1 d_LawReader_sortNamed_12 rfl (lv_at hl 1 rfl) ?_
      obtain ⟨t4, h3, hf⟩ := xb hf
      refine x_callS (As := [.int x1]) (rest := [.ref t2]) (st1 := [.ref (E.2.1 (100 + t4)), .ref t2]) S hw (c_Law_nameOf h3) (va_cwS 1 S.2.2.2.2 gs_LawReader_98 rfl rfl rfl hi_Law_nameOf ⟨Nat.le_of_ble_eq_true rfl, Nat.le_of_ble_eq_true rfl⟩) rfl hl.1 rfl rfl (Nat.le_of_ble_eq_true rfl) d_LawReader_sortNamed_13 ⟨Nat.le_of_ble_eq_true rfl, Nat.le_of_ble_eq_true rfl⟩ (fun H locs hw => ?_)
      obtain ⟨t6, h5, hf⟩ := xb hf
      obtain ⟨h5b, h5⟩ := xkb h5
      refine x_callV (As := [.ref (E.2.1 (100 + t4))]) (rest := []) (st1 := [.int t6]) S hw (c_Tokens_spells h5) (cwV 1 S.2.2.2.2 gv_LawReader_102 rfl rfl rfl hd_Tokens_spells ⟨Nat.le_of_ble_eq_true rfl, Nat.le_of_ble_eq_true rfl⟩) rfl h5b rfl hl.1 rfl rfl (Nat.le_of_ble_eq_true rfl) d_LawReader_sortNamed_16 ⟨Nat.le_of_ble_eq_true rfl, Nat.le_of_ble_eq_true rfl⟩ (fun H locs hw => ?_)
      refine lv_if_eq (tgt := 24) S.1 S.2.1 d_LawReader_sortNamed_19 (by decide) (fun c7 => ?_) (fun c7 => ?_)
      · replace hf := xt c7 hf
        refine lv_iinc (v := (x1 + 1)) (lv' := [(1, .int (x1 + 1)), (0, .ref a0)]) S.1 S.2.1 d_LawReader_sortNamed_24 hl (k := 1) rfl rfl (by decide) rfl (fun ls hl => ?_)
        refine lv_goto (tgt := 2) S.1 S.2.1 d_LawReader_sortNamed_27 (by decide) ?_
        exact ih _ _ _ _ _ hw (lv_sub hl [1, 0] rfl) hf
      · replace hf := xf c7 hf
        refine lv_iload_n S.1 S.2.1 d_LawReader_sortNamed_22 rfl (lv_at hl 1 rfl) ?_
        obtain rfl := xe1 hf
        exact x_iret S hr hlocks hw d_LawReader_sortNamed_23
def f_LawReader_sortNamed (a0 : Nat) (ω : xS) : Option Int32 :=
  f_LawReader_sortNamed_2  xFU a0 0 ω
set_option maxHeartbeats 4000000 in
set_option maxRecDepth 100000 in
theorem c_LawReader_sortNamed {l : Launch} {E : xV} {z : Nat} {a0 : Nat} {r : Int32} {ω : xS} (hf : f_LawReader_sortNamed a0 ω = some r) : xM l E y_LawReader_sortNamed ws_LawReader_sortNamed { frames := 5, cells := 0, slots := 0, locals := 107 } [.ref a0] z ω (some (.int r)) z ω := by
  refine x_start (cc := b_LawReader_sortNamed) (maxL := 2) (ret := (some .int)) (by decide) rfl (Nat.le_of_ble_eq_true rfl) ?_
  intro p e s m below meth c S hr hlocks hin ls hl hw
  have hl : lv_has ls 2 [(0, .ref a0)] := hl
  unfold f_LawReader_sortNamed at hf
  refine lv_iconst (v := 0) S.1 S.2.1 d_LawReader_sortNamed_0 (by decide) ?_
  refine lv_istore_n (lv' := [(1, .int 0), (0, .ref a0)]) S.1 S.2.1 d_LawReader_sortNamed_1 rfl hl (by decide) rfl (fun ls hl => ?_)
  exact w_LawReader_sortNamed_2 S hr hlocks  _ _ _ _ _ _ hw (lv_sub hl [1, 0] rfl) hf
def f_LawReader_readLaw_128 (a0 : Nat) (a1 : Nat) (ω : xS) : Option xS :=
  (xgr ω a1 4 0).bind fun t90 =>
  (xk ω a0 5 (f_LawReader_pattern a0 t90 ω)).bind fun w93 =>
  xc (xk w93 a0 5 (f_LawReader_number a0 0 1000 w93)) fun t95 w96 =>
  (xp w96 a1 4 3 (.int t95)).bind fun w97 =>
  xc (xk w97 a0 5 (f_LawReader_expect a0 5 w97)) fun t99 w100 =>
  some w100
set_option maxHeartbeats 4000000 in
set_option maxRecDepth 100000 in
theorem w_LawReader_readLaw_128 {p : Program} {l : Launch} {e : Env} {s : State} {m : MethodId} {args : Array Value} {below : List Frame} {meth : Method} {c : Code} {E : xV} {z : Nat} {ω1 : xS} (S : CallFix p m c b_LawReader_readLaw 3 s args xTbl "RosterRules$LawReader") (hr : meth.sig.returnType = none) (hlocks : meth.locks = false) : ∀ (a0 : Nat) (a1 : Nat) (ω : xS) (H : Heap) (locs : List Loc) (ls : Array Slot), xW E z ω s s.heap H locs → lv_has ls 3 [(0, .ref a0), (1, .ref a1)] → f_LawReader_readLaw_128 a0 a1 ω = some ω1 → W p l e (headSpec ws_LawReader_readLaw { frames := 6, cells := 0, slots := 0, locals := 128 }).room s m args below meth c H locs 0 0 (MQ below (xQ E none z ω1) args s 0 0 (fun q => E.2.2 ≤ q)) (F0 m 128 ls []) := by
  intro a0 a1 ω H locs ls hw hl hf
  unfold f_LawReader_readLaw_128 at hf
  refine lv_aload_n S.1 S.2.1 d_LawReader_readLaw_128 rfl (lv_at hl 0 rfl) ?_
  refine lv_aload_n S.1 S.2.1 d_LawReader_readLaw_129 rfl (lv_at hl 1 rfl) ?_
  obtain ⟨t90, ht90, hf⟩ := xb hf
  refine x_getr S hw lk_LawReader_77 ht90 d_LawReader_readLaw_130 ?_
  obtain ⟨w93, h91, hf⟩ := xb hf
  obtain ⟨h91b, h91⟩ := xkb h91
  refine x_callV (As := [.ref t90]) (rest := []) (st1 := []) S hw (c_LawReader_pattern h91) (cwV 1 S.2.2.2.2 gv_LawReader_81 rfl rfl rfl hd_LawReader_pattern ⟨Nat.le_of_ble_eq_true rfl, Nat.le_of_ble_eq_true rfl⟩) rfl h91b rfl hl.1 rfl rfl (Nat.le_of_ble_eq_true rfl) d_LawReader_readLaw_133 ⟨Nat.le_of_ble_eq_true rfl, Nat.le_of_ble_eq_true rfl⟩ (fun H locs hw => ?_)
  refine lv_goto (tgt := 186) S.1 S.2.1 d_LawReader_readLaw_136 (by decide) ?_
  refine lv_aload_n S.1 S.2.1 d_LawReader_readLaw_186 rfl (lv_at hl 1 rfl) ?_
  refine lv_aload_n S.1 S.2.1 d_LawReader_readLaw_187 rfl (lv_at hl 0 rfl) ?_
  refine lv_iconst (v := 0) S.1 S.2.1 d_LawReader_readLaw_188 (by decide) ?_
  refine lv_sipush (v := 1000) S.1 S.2.1 d_LawReader_readLaw_189 (by decide) ?_
  obtain ⟨t95, w96, h94, hf⟩ := xcb hf
  obtain ⟨h94b, h94⟩ := xkb h94
  refine x_callV (As := [.int 0, .int 1000]) (rest := [.ref a1]) (st1 := [.int t95, .ref a1]) S hw (c_LawReader_number h94) (cwV 2 S.2.2.2.2 gv_LawReader_63 rfl rfl rfl hd_LawReader_number ⟨Nat.le_of_ble_eq_true rfl, Nat.le_of_ble_eq_true rfl⟩) rfl h94b rfl hl.1 rfl rfl (Nat.le_of_ble_eq_true rfl) d_LawReader_readLaw_192 ⟨Nat.le_of_ble_eq_true rfl, Nat.le_of_ble_eq_true rfl⟩ (fun H locs hw => ?_)
  obtain ⟨w97, hw97, hf⟩ := xb hf
  refine x_puti S hw lp_LawReader_91 hw97 d_LawReader_readLaw_195 (fun H locs hw => ?_)
  refine lv_aload_n S.1 S.2.1 d_LawReader_readLaw_198 rfl (lv_at hl 0 rfl) ?_
  refine lv_iconst (v := 5) S.1 S.2.1 d_LawReader_readLaw_199 (by decide) ?_
  obtain ⟨t99, w100, h98, hf⟩ := xcb hf
  obtain ⟨h98b, h98⟩ := xkb h98
  refine x_callV (As := [.int 5]) (rest := []) (st1 := [.int t99]) S hw (c_LawReader_expect h98) (cwV 1 S.2.2.2.2 gv_LawReader_94 rfl rfl rfl hd_LawReader_expect ⟨Nat.le_of_ble_eq_true rfl, Nat.le_of_ble_eq_true rfl⟩) rfl h98b rfl hl.1 rfl rfl (Nat.le_of_ble_eq_true rfl) d_LawReader_readLaw_200 ⟨Nat.le_of_ble_eq_true rfl, Nat.le_of_ble_eq_true rfl⟩ (fun H locs hw => ?_)
  refine lv_pop S.1 S.2.1 d_LawReader_readLaw_203 rfl ?_
  cases hf
  exact x_vret S hr hlocks hw d_LawReader_readLaw_204
def f_LawReader_readLaw (a0 : Nat) (a1 : Nat) (ω : xS) : Option xS :=
  (xk ω a0 5 (f_LawReader_sortNamed a0  ω)).bind fun t2 =>
  if 0 ≤ t2 then (
    (xgr ω a0 5 0).bind fun t4 =>
    (xgi ω t4 10 2).bind fun t5 =>
    (xk ω a1 4 (f_Law_start a1 t2 t5 ω)).bind fun w8 =>
    if t2 = 1 then (
      xc (xk w8 a0 5 (f_LawReader_number a0 0 10000 w8)) fun t11 w12 =>
      (xp w12 a1 4 5 (.int t11)).bind fun w13 =>
      xc (xk w13 a0 5 (f_LawReader_number a0 0 1000 w13)) fun t15 w16 =>
      (xp w16 a1 4 3 (.int t15)).bind fun w17 =>
      xc (xk w17 a0 5 (f_LawReader_expect a0 5 w17)) fun t19 w20 =>
      some w20)
    else (
    if t2 = 2 then (
      xc (xk w8 a0 5 (f_LawReader_number a0 0 99999 w8)) fun t23 w24 =>
      (xp w24 a1 4 5 (.int t23)).bind fun w25 =>
      (xgi w25 a1 4 5).bind fun t26 =>
      xc (xk w25 a0 5 (f_LawReader_number a0 t26 99999 w25)) fun t28 w29 =>
      (xp w29 a1 4 6 (.int t28)).bind fun w30 =>
      (xgi w30 a0 5 2).bind fun t31 =>
      xc (xk w30 a0 5 (f_LawReader_number a0 1 t31 w30)) fun t33 w34 =>
      (xp w34 a1 4 7 (.int t33)).bind fun w35 =>
      xc (xk w35 a0 5 (f_LawReader_number a0 0 1000 w35)) fun t37 w38 =>
      (xp w38 a1 4 3 (.int t37)).bind fun w39 =>
      xc (xk w39 a0 5 (f_LawReader_expect a0 5 w39)) fun t41 w42 =>
      some w42)
    else (
    if t2 = 3 then (
      f_LawReader_readLaw_128  a0 a1 w8)
    else (
    if t2 = 4 then (
      f_LawReader_readLaw_128  a0 a1 w8)
    else (
    if t2 = 5 then (
      xc (xk w8 a0 5 (f_LawReader_shiftLetter a0  w8)) fun t47 w48 =>
      (xp w48 a1 4 8 (.int t47)).bind fun w49 =>
      xc (xk w49 a0 5 (f_LawReader_number a0 0 1000 w49)) fun t51 w52 =>
      (xp w52 a1 4 3 (.int t51)).bind fun w53 =>
      xc (xk w53 a0 5 (f_LawReader_expect a0 5 w53)) fun t55 w56 =>
      some w56)
    else (
    if t2 = 6 then (
      xc (xk w8 a0 5 (f_LawReader_shiftLetter a0  w8)) fun t59 w60 =>
      (xp w60 a1 4 8 (.int t59)).bind fun w61 =>
      xc (xk w61 a0 5 (f_LawReader_number a0 0 8 w61)) fun t63 w64 =>
      (xp w64 a1 4 5 (.int t63)).bind fun w65 =>
      (xgi w65 a1 4 5).bind fun t66 =>
      xc (xk w65 a0 5 (f_LawReader_number a0 t66 8 w65)) fun t68 w69 =>
      (xp w69 a1 4 6 (.int t68)).bind fun w70 =>
      xc (xk w70 a0 5 (f_LawReader_number a0 0 1000 w70)) fun t72 w73 =>
      (xp w73 a1 4 3 (.int t72)).bind fun w74 =>
      xc (xk w74 a0 5 (f_LawReader_expect a0 5 w74)) fun t76 w77 =>
      some w77)
    else (
    xc (xk w8 a0 5 (f_LawReader_number a0 0 1000 w8)) fun t79 w80 =>
    (xp w80 a1 4 3 (.int t79)).bind fun w81 =>
    xc (xk w81 a0 5 (f_LawReader_expect a0 5 w81)) fun t83 w84 =>
    some w84)))))))
  else (
    (xgr ω a0 5 0).bind fun t85 =>
    (xgi ω t85 10 2).bind fun t86 =>
    (xk ω a0 5 (f_LawReader_refuse a0 2 t86 ω)).bind fun w89 =>
    some w89)
set_option maxHeartbeats 4000000 in
set_option maxRecDepth 100000 in
theorem c_LawReader_readLaw {l : Launch} {E : xV} {z : Nat} {a0 : Nat} {a1 : Nat} {ω1 : xS} {ω : xS} (hf : f_LawReader_readLaw a0 a1 ω = some ω1) : xM l E y_LawReader_readLaw ws_LawReader_readLaw { frames := 6, cells := 0, slots := 0, locals := 128 } [.ref a0, .ref a1] z ω none z ω1 := by
  refine x_start (cc := b_LawReader_readLaw) (maxL := 3) (ret := none) (by decide) rfl (Nat.le_of_ble_eq_true rfl) ?_
  intro p e s m below meth c S hr hlocks hin ls hl hw
  have hl : lv_has ls 3 [(0, .ref a0), (1, .ref a1)] := hl
  unfold f_LawReader_readLaw at hf
  refine lv_aload_n S.1 S.2.1 d_LawReader_readLaw_0 rfl (lv_at hl 0 rfl) ?_
  obtain ⟨t2, h1, hf⟩ := xb hf
  obtain ⟨h1b, h1⟩ := xkb h1
  refine x_callV (As := []) (rest := []) (st1 := [.int t2]) S hw (c_LawReader_sortNamed h1) (cwV 0 S.2.2.2.2 gv_LawReader_55 rfl rfl rfl hd_LawReader_sortNamed ⟨Nat.le_of_ble_eq_true rfl, Nat.le_of_ble_eq_true rfl⟩) rfl h1b rfl hl.1 rfl rfl (Nat.le_of_ble_eq_true rfl) d_LawReader_readLaw_1 ⟨Nat.le_of_ble_eq_true rfl, Nat.le_of_ble_eq_true rfl⟩ (fun H locs hw => ?_)
  refine lv_istore_n (lv' := [(2, .int t2), (0, .ref a0), (1, .ref a1)]) S.1 S.2.1 d_LawReader_readLaw_4 rfl hl (by decide) rfl (fun ls hl => ?_)
  refine lv_iload_n S.1 S.2.1 d_LawReader_readLaw_5 rfl (lv_at hl 0 rfl) ?_
  refine lv_if_ge (tgt := 22) S.1 S.2.1 d_LawReader_readLaw_6 (by decide) (fun c3 => ?_) (fun c3 => ?_)
  · replace hf := xt c3 hf
    refine lv_aload_n S.1 S.2.1 d_LawReader_readLaw_22 rfl (lv_at hl 2 rfl) ?_
    refine lv_iload_n S.1 S.2.1 d_LawReader_readLaw_23 rfl (lv_at hl 0 rfl) ?_
    refine lv_aload_n S.1 S.2.1 d_LawReader_readLaw_24 rfl (lv_at hl 1 rfl) ?_
    obtain ⟨t4, ht4, hf⟩ := xb hf
    refine x_getr S hw lk_LawReader_20 ht4 d_LawReader_readLaw_25 ?_
    obtain ⟨t5, ht5, hf⟩ := xb hf
    refine x_geti S hw lk_LawReader_44 ht5 d_LawReader_readLaw_28 ?_
    obtain ⟨w8, h6, hf⟩ := xb hf
    obtain ⟨h6b, h6⟩ := xkb h6
    refine x_callV (As := [.int t2, .int t5]) (rest := []) (st1 := []) S hw (c_Law_start h6) (cwV 2 S.2.2.2.2 gv_LawReader_58 rfl rfl rfl hd_Law_start ⟨Nat.le_of_ble_eq_true rfl, Nat.le_of_ble_eq_true rfl⟩) rfl h6b rfl hl.1 rfl rfl (Nat.le_of_ble_eq_true rfl) d_LawReader_readLaw_31 ⟨Nat.le_of_ble_eq_true rfl, Nat.le_of_ble_eq_true rfl⟩ (fun H locs hw => ?_)
    refine lv_iload_n S.1 S.2.1 d_LawReader_readLaw_34 rfl (lv_at hl 0 rfl) ?_
    by_cases c9 : t2 = 1
    · replace hf := xt c9 hf
      refine lv_tableIn (tgt := 72) S.1 S.2.1 d_LawReader_readLaw_35 (by rw [c9]; decide) (by rw [c9]; decide) (by rw [c9]; rfl) (by decide) ?_
      refine lv_aload_n S.1 S.2.1 d_LawReader_readLaw_72 rfl (lv_at hl 2 rfl) ?_
      refine lv_aload_n S.1 S.2.1 d_LawReader_readLaw_73 rfl (lv_at hl 1 rfl) ?_
      refine lv_iconst (v := 0) S.1 S.2.1 d_LawReader_readLaw_74 (by decide) ?_
      refine lv_sipush (v := 10000) S.1 S.2.1 d_LawReader_readLaw_75 (by decide) ?_
      obtain ⟨t11, w12, h10, hf⟩ := xcb hf
      obtain ⟨h10b, h10⟩ := xkb h10
      refine x_callV (As := [.int 0, .int 10000]) (rest := [.ref a1]) (st1 := [.int t11, .ref a1]) S hw (c_LawReader_number h10) (cwV 2 S.2.2.2.2 gv_LawReader_63 rfl rfl rfl hd_LawReader_number ⟨Nat.le_of_ble_eq_true rfl, Nat.le_of_ble_eq_true rfl⟩) rfl h10b rfl hl.1 rfl rfl (Nat.le_of_ble_eq_true rfl) d_LawReader_readLaw_78 ⟨Nat.le_of_ble_eq_true rfl, Nat.le_of_ble_eq_true rfl⟩ (fun H locs hw => ?_)
      obtain ⟨w13, hw13, hf⟩ := xb hf
      refine x_puti S hw lp_LawReader_67 hw13 d_LawReader_readLaw_81 (fun H locs hw => ?_)
      refine lv_goto (tgt := 186) S.1 S.2.1 d_LawReader_readLaw_84 (by decide) ?_
      refine lv_aload_n S.1 S.2.1 d_LawReader_readLaw_186 rfl (lv_at hl 2 rfl) ?_
      refine lv_aload_n S.1 S.2.1 d_LawReader_readLaw_187 rfl (lv_at hl 1 rfl) ?_
      refine lv_iconst (v := 0) S.1 S.2.1 d_LawReader_readLaw_188 (by decide) ?_
      refine lv_sipush (v := 1000) S.1 S.2.1 d_LawReader_readLaw_189 (by decide) ?_
      obtain ⟨t15, w16, h14, hf⟩ := xcb hf
      obtain ⟨h14b, h14⟩ := xkb h14
      refine x_callV (As := [.int 0, .int 1000]) (rest := [.ref a1]) (st1 := [.int t15, .ref a1]) S hw (c_LawReader_number h14) (cwV 2 S.2.2.2.2 gv_LawReader_63 rfl rfl rfl hd_LawReader_number ⟨Nat.le_of_ble_eq_true rfl, Nat.le_of_ble_eq_true rfl⟩) rfl h14b rfl hl.1 rfl rfl (Nat.le_of_ble_eq_true rfl) d_LawReader_readLaw_192 ⟨Nat.le_of_ble_eq_true rfl, Nat.le_of_ble_eq_true rfl⟩ (fun H locs hw => ?_)
      obtain ⟨w17, hw17, hf⟩ := xb hf
      refine x_puti S hw lp_LawReader_91 hw17 d_LawReader_readLaw_195 (fun H locs hw => ?_)
      refine lv_aload_n S.1 S.2.1 d_LawReader_readLaw_198 rfl (lv_at hl 1 rfl) ?_
      refine lv_iconst (v := 5) S.1 S.2.1 d_LawReader_readLaw_199 (by decide) ?_
      obtain ⟨t19, w20, h18, hf⟩ := xcb hf
      obtain ⟨h18b, h18⟩ := xkb h18
      refine x_callV (As := [.int 5]) (rest := []) (st1 := [.int t19]) S hw (c_LawReader_expect h18) (cwV 1 S.2.2.2.2 gv_LawReader_94 rfl rfl rfl hd_LawReader_expect ⟨Nat.le_of_ble_eq_true rfl, Nat.le_of_ble_eq_true rfl⟩) rfl h18b rfl hl.1 rfl rfl (Nat.le_of_ble_eq_true rfl) d_LawReader_readLaw_200 ⟨Nat.le_of_ble_eq_true rfl, Nat.le_of_ble_eq_true rfl⟩ (fun H locs hw => ?_)
      refine lv_pop S.1 S.2.1 d_LawReader_readLaw_203 rfl ?_
      cases hf
      exact x_vret S hr hlocks hw d_LawReader_readLaw_204
    replace hf := xf c9 hf
    by_cases c21 : t2 = 2
    · replace hf := xt c21 hf
      refine lv_tableIn (tgt := 87) S.1 S.2.1 d_LawReader_readLaw_35 (by rw [c21]; decide) (by rw [c21]; decide) (by rw [c21]; rfl) (by decide) ?_
      refine lv_aload_n S.1 S.2.1 d_LawReader_readLaw_87 rfl (lv_at hl 2 rfl) ?_
      refine lv_aload_n S.1 S.2.1 d_LawReader_readLaw_88 rfl (lv_at hl 1 rfl) ?_
      refine lv_iconst (v := 0) S.1 S.2.1 d_LawReader_readLaw_89 (by decide) ?_
      refine lv_ldc (v := 99999) S.1 S.2.1 S.2.2.2.1 (S.2.2.2.2 _ wd_3_62) d_LawReader_readLaw_90 ?_
      obtain ⟨t23, w24, h22, hf⟩ := xcb hf
      obtain ⟨h22b, h22⟩ := xkb h22
      refine x_callV (As := [.int 0, .int 99999]) (rest := [.ref a1]) (st1 := [.int t23, .ref a1]) S hw (c_LawReader_number h22) (cwV 2 S.2.2.2.2 gv_LawReader_63 rfl rfl rfl hd_LawReader_number ⟨Nat.le_of_ble_eq_true rfl, Nat.le_of_ble_eq_true rfl⟩) rfl h22b rfl hl.1 rfl rfl (Nat.le_of_ble_eq_true rfl) d_LawReader_readLaw_92 ⟨Nat.le_of_ble_eq_true rfl, Nat.le_of_ble_eq_true rfl⟩ (fun H locs hw => ?_)
      obtain ⟨w25, hw25, hf⟩ := xb hf
      refine x_puti S hw lp_LawReader_67 hw25 d_LawReader_readLaw_95 (fun H locs hw => ?_)
      refine lv_aload_n S.1 S.2.1 d_LawReader_readLaw_98 rfl (lv_at hl 2 rfl) ?_
      refine lv_aload_n S.1 S.2.1 d_LawReader_readLaw_99 rfl (lv_at hl 1 rfl) ?_
      refine lv_aload_n S.1 S.2.1 d_LawReader_readLaw_100 rfl (lv_at hl 2 rfl) ?_
      obtain ⟨t26, ht26, hf⟩ := xb hf
      refine x_geti S hw lk_LawReader_67 ht26 d_LawReader_readLaw_101 ?_
      refine lv_ldc (v := 99999) S.1 S.2.1 S.2.2.2.1 (S.2.2.2.2 _ wd_3_62) d_LawReader_readLaw_104 ?_
      obtain ⟨t28, w29, h27, hf⟩ := xcb hf
      obtain ⟨h27b, h27⟩ := xkb h27
      refine x_callV (As := [.int t26, .int 99999]) (rest := [.ref a1]) (st1 := [.int t28, .ref a1]) S hw (c_LawReader_number h27) (cwV 2 S.2.2.2.2 gv_LawReader_63 rfl rfl rfl hd_LawReader_number ⟨Nat.le_of_ble_eq_true rfl, Nat.le_of_ble_eq_true rfl⟩) rfl h27b rfl hl.1 rfl rfl (Nat.le_of_ble_eq_true rfl) d_LawReader_readLaw_106 ⟨Nat.le_of_ble_eq_true rfl, Nat.le_of_ble_eq_true rfl⟩ (fun H locs hw => ?_)
      obtain ⟨w30, hw30, hf⟩ := xb hf
      refine x_puti S hw lp_LawReader_71 hw30 d_LawReader_readLaw_109 (fun H locs hw => ?_)
      refine lv_aload_n S.1 S.2.1 d_LawReader_readLaw_112 rfl (lv_at hl 2 rfl) ?_
      refine lv_aload_n S.1 S.2.1 d_LawReader_readLaw_113 rfl (lv_at hl 1 rfl) ?_
      refine lv_iconst (v := 1) S.1 S.2.1 d_LawReader_readLaw_114 (by decide) ?_
      refine lv_aload_n S.1 S.2.1 d_LawReader_readLaw_115 rfl (lv_at hl 1 rfl) ?_
      obtain ⟨t31, ht31, hf⟩ := xb hf
      refine x_geti S hw lk_LawReader_31 ht31 d_LawReader_readLaw_116 ?_
      obtain ⟨t33, w34, h32, hf⟩ := xcb hf
      obtain ⟨h32b, h32⟩ := xkb h32
      refine x_callV (As := [.int 1, .int t31]) (rest := [.ref a1]) (st1 := [.int t33, .ref a1]) S hw (c_LawReader_number h32) (cwV 2 S.2.2.2.2 gv_LawReader_63 rfl rfl rfl hd_LawReader_number ⟨Nat.le_of_ble_eq_true rfl, Nat.le_of_ble_eq_true rfl⟩) rfl h32b rfl hl.1 rfl rfl (Nat.le_of_ble_eq_true rfl) d_LawReader_readLaw_119 ⟨Nat.le_of_ble_eq_true rfl, Nat.le_of_ble_eq_true rfl⟩ (fun H locs hw => ?_)
      obtain ⟨w35, hw35, hf⟩ := xb hf
      refine x_puti S hw lp_LawReader_74 hw35 d_LawReader_readLaw_122 (fun H locs hw => ?_)
      refine lv_goto (tgt := 186) S.1 S.2.1 d_LawReader_readLaw_125 (by decide) ?_
      refine lv_aload_n S.1 S.2.1 d_LawReader_readLaw_186 rfl (lv_at hl 2 rfl) ?_
      refine lv_aload_n S.1 S.2.1 d_LawReader_readLaw_187 rfl (lv_at hl 1 rfl) ?_
      refine lv_iconst (v := 0) S.1 S.2.1 d_LawReader_readLaw_188 (by decide) ?_
      refine lv_sipush (v := 1000) S.1 S.2.1 d_LawReader_readLaw_189 (by decide) ?_
      obtain ⟨t37, w38, h36, hf⟩ := xcb hf
      obtain ⟨h36b, h36⟩ := xkb h36
      refine x_callV (As := [.int 0, .int 1000]) (rest := [.ref a1]) (st1 := [.int t37, .ref a1]) S hw (c_LawReader_number h36) (cwV 2 S.2.2.2.2 gv_LawReader_63 rfl rfl rfl hd_LawReader_number ⟨Nat.le_of_ble_eq_true rfl, Nat.le_of_ble_eq_true rfl⟩) rfl h36b rfl hl.1 rfl rfl (Nat.le_of_ble_eq_true rfl) d_LawReader_readLaw_192 ⟨Nat.le_of_ble_eq_true rfl, Nat.le_of_ble_eq_true rfl⟩ (fun H locs hw => ?_)
      obtain ⟨w39, hw39, hf⟩ := xb hf
      refine x_puti S hw lp_LawReader_91 hw39 d_LawReader_readLaw_195 (fun H locs hw => ?_)
      refine lv_aload_n S.1 S.2.1 d_LawReader_readLaw_198 rfl (lv_at hl 1 rfl) ?_
      refine lv_iconst (v := 5) S.1 S.2.1 d_LawReader_readLaw_199 (by decide) ?_
      obtain ⟨t41, w42, h40, hf⟩ := xcb hf
      obtain ⟨h40b, h40⟩ := xkb h40
      refine x_callV (As := [.int 5]) (rest := []) (st1 := [.int t41]) S hw (c_LawReader_expect h40) (cwV 1 S.2.2.2.2 gv_LawReader_94 rfl rfl rfl hd_LawReader_expect ⟨Nat.le_of_ble_eq_true rfl, Nat.le_of_ble_eq_true rfl⟩) rfl h40b rfl hl.1 rfl rfl (Nat.le_of_ble_eq_true rfl) d_LawReader_readLaw_200 ⟨Nat.le_of_ble_eq_true rfl, Nat.le_of_ble_eq_true rfl⟩ (fun H locs hw => ?_)
      refine lv_pop S.1 S.2.1 d_LawReader_readLaw_203 rfl ?_
      cases hf
      exact x_vret S hr hlocks hw d_LawReader_readLaw_204
    replace hf := xf c21 hf
    by_cases c43 : t2 = 3
    · replace hf := xt c43 hf
      refine lv_tableIn (tgt := 128) S.1 S.2.1 d_LawReader_readLaw_35 (by rw [c43]; decide) (by rw [c43]; decide) (by rw [c43]; rfl) (by decide) ?_
      exact w_LawReader_readLaw_128 S hr hlocks  _ _ _ _ _ _ hw (lv_sub hl [1, 2] rfl) hf
    replace hf := xf c43 hf
    by_cases c44 : t2 = 4
    · replace hf := xt c44 hf
      refine lv_tableIn (tgt := 128) S.1 S.2.1 d_LawReader_readLaw_35 (by rw [c44]; decide) (by rw [c44]; decide) (by rw [c44]; rfl) (by decide) ?_
      exact w_LawReader_readLaw_128 S hr hlocks  _ _ _ _ _ _ hw (lv_sub hl [1, 2] rfl) hf
    replace hf := xf c44 hf
    by_cases c45 : t2 = 5
    · replace hf := xt c45 hf
      refine lv_tableIn (tgt := 139) S.1 S.2.1 d_LawReader_readLaw_35 (by rw [c45]; decide) (by rw [c45]; decide) (by rw [c45]; rfl) (by decide) ?_
      refine lv_aload_n S.1 S.2.1 d_LawReader_readLaw_139 rfl (lv_at hl 2 rfl) ?_
      refine lv_aload_n S.1 S.2.1 d_LawReader_readLaw_140 rfl (lv_at hl 1 rfl) ?_
      obtain ⟨t47, w48, h46, hf⟩ := xcb hf
      obtain ⟨h46b, h46⟩ := xkb h46
      refine x_callV (As := []) (rest := [.ref a1]) (st1 := [.int t47, .ref a1]) S hw (c_LawReader_shiftLetter h46) (cwV 0 S.2.2.2.2 gv_LawReader_85 rfl rfl rfl hd_LawReader_shiftLetter ⟨Nat.le_of_ble_eq_true rfl, Nat.le_of_ble_eq_true rfl⟩) rfl h46b rfl hl.1 rfl rfl (Nat.le_of_ble_eq_true rfl) d_LawReader_readLaw_141 ⟨Nat.le_of_ble_eq_true rfl, Nat.le_of_ble_eq_true rfl⟩ (fun H locs hw => ?_)
      obtain ⟨w49, hw49, hf⟩ := xb hf
      refine x_puti S hw lp_LawReader_88 hw49 d_LawReader_readLaw_144 (fun H locs hw => ?_)
      refine lv_goto (tgt := 186) S.1 S.2.1 d_LawReader_readLaw_147 (by decide) ?_
      refine lv_aload_n S.1 S.2.1 d_LawReader_readLaw_186 rfl (lv_at hl 2 rfl) ?_
      refine lv_aload_n S.1 S.2.1 d_LawReader_readLaw_187 rfl (lv_at hl 1 rfl) ?_
      refine lv_iconst (v := 0) S.1 S.2.1 d_LawReader_readLaw_188 (by decide) ?_
      refine lv_sipush (v := 1000) S.1 S.2.1 d_LawReader_readLaw_189 (by decide) ?_
      obtain ⟨t51, w52, h50, hf⟩ := xcb hf
      obtain ⟨h50b, h50⟩ := xkb h50
      refine x_callV (As := [.int 0, .int 1000]) (rest := [.ref a1]) (st1 := [.int t51, .ref a1]) S hw (c_LawReader_number h50) (cwV 2 S.2.2.2.2 gv_LawReader_63 rfl rfl rfl hd_LawReader_number ⟨Nat.le_of_ble_eq_true rfl, Nat.le_of_ble_eq_true rfl⟩) rfl h50b rfl hl.1 rfl rfl (Nat.le_of_ble_eq_true rfl) d_LawReader_readLaw_192 ⟨Nat.le_of_ble_eq_true rfl, Nat.le_of_ble_eq_true rfl⟩ (fun H locs hw => ?_)
      obtain ⟨w53, hw53, hf⟩ := xb hf
      refine x_puti S hw lp_LawReader_91 hw53 d_LawReader_readLaw_195 (fun H locs hw => ?_)
      refine lv_aload_n S.1 S.2.1 d_LawReader_readLaw_198 rfl (lv_at hl 1 rfl) ?_
      refine lv_iconst (v := 5) S.1 S.2.1 d_LawReader_readLaw_199 (by decide) ?_
      obtain ⟨t55, w56, h54, hf⟩ := xcb hf
      obtain ⟨h54b, h54⟩ := xkb h54
      refine x_callV (As := [.int 5]) (rest := []) (st1 := [.int t55]) S hw (c_LawReader_expect h54) (cwV 1 S.2.2.2.2 gv_LawReader_94 rfl rfl rfl hd_LawReader_expect ⟨Nat.le_of_ble_eq_true rfl, Nat.le_of_ble_eq_true rfl⟩) rfl h54b rfl hl.1 rfl rfl (Nat.le_of_ble_eq_true rfl) d_LawReader_readLaw_200 ⟨Nat.le_of_ble_eq_true rfl, Nat.le_of_ble_eq_true rfl⟩ (fun H locs hw => ?_)
      refine lv_pop S.1 S.2.1 d_LawReader_readLaw_203 rfl ?_
      cases hf
      exact x_vret S hr hlocks hw d_LawReader_readLaw_204
    replace hf := xf c45 hf
    by_cases c57 : t2 = 6
    · replace hf := xt c57 hf
      refine lv_tableIn (tgt := 150) S.1 S.2.1 d_LawReader_readLaw_35 (by rw [c57]; decide) (by rw [c57]; decide) (by rw [c57]; rfl) (by decide) ?_
      refine lv_aload_n S.1 S.2.1 d_LawReader_readLaw_150 rfl (lv_at hl 2 rfl) ?_
      refine lv_aload_n S.1 S.2.1 d_LawReader_readLaw_151 rfl (lv_at hl 1 rfl) ?_
      obtain ⟨t59, w60, h58, hf⟩ := xcb hf
      obtain ⟨h58b, h58⟩ := xkb h58
      refine x_callV (As := []) (rest := [.ref a1]) (st1 := [.int t59, .ref a1]) S hw (c_LawReader_shiftLetter h58) (cwV 0 S.2.2.2.2 gv_LawReader_85 rfl rfl rfl hd_LawReader_shiftLetter ⟨Nat.le_of_ble_eq_true rfl, Nat.le_of_ble_eq_true rfl⟩) rfl h58b rfl hl.1 rfl rfl (Nat.le_of_ble_eq_true rfl) d_LawReader_readLaw_152 ⟨Nat.le_of_ble_eq_true rfl, Nat.le_of_ble_eq_true rfl⟩ (fun H locs hw => ?_)
      obtain ⟨w61, hw61, hf⟩ := xb hf
      refine x_puti S hw lp_LawReader_88 hw61 d_LawReader_readLaw_155 (fun H locs hw => ?_)
      refine lv_aload_n S.1 S.2.1 d_LawReader_readLaw_158 rfl (lv_at hl 2 rfl) ?_
      refine lv_aload_n S.1 S.2.1 d_LawReader_readLaw_159 rfl (lv_at hl 1 rfl) ?_
      refine lv_iconst (v := 0) S.1 S.2.1 d_LawReader_readLaw_160 (by decide) ?_
      refine lv_bipush (v := 8) S.1 S.2.1 d_LawReader_readLaw_161 (by decide) ?_
      obtain ⟨t63, w64, h62, hf⟩ := xcb hf
      obtain ⟨h62b, h62⟩ := xkb h62
      refine x_callV (As := [.int 0, .int 8]) (rest := [.ref a1]) (st1 := [.int t63, .ref a1]) S hw (c_LawReader_number h62) (cwV 2 S.2.2.2.2 gv_LawReader_63 rfl rfl rfl hd_LawReader_number ⟨Nat.le_of_ble_eq_true rfl, Nat.le_of_ble_eq_true rfl⟩) rfl h62b rfl hl.1 rfl rfl (Nat.le_of_ble_eq_true rfl) d_LawReader_readLaw_163 ⟨Nat.le_of_ble_eq_true rfl, Nat.le_of_ble_eq_true rfl⟩ (fun H locs hw => ?_)
      obtain ⟨w65, hw65, hf⟩ := xb hf
      refine x_puti S hw lp_LawReader_67 hw65 d_LawReader_readLaw_166 (fun H locs hw => ?_)
      refine lv_aload_n S.1 S.2.1 d_LawReader_readLaw_169 rfl (lv_at hl 2 rfl) ?_
      refine lv_aload_n S.1 S.2.1 d_LawReader_readLaw_170 rfl (lv_at hl 1 rfl) ?_
      refine lv_aload_n S.1 S.2.1 d_LawReader_readLaw_171 rfl (lv_at hl 2 rfl) ?_
      obtain ⟨t66, ht66, hf⟩ := xb hf
      refine x_geti S hw lk_LawReader_67 ht66 d_LawReader_readLaw_172 ?_
      refine lv_bipush (v := 8) S.1 S.2.1 d_LawReader_readLaw_175 (by decide) ?_
      obtain ⟨t68, w69, h67, hf⟩ := xcb hf
      obtain ⟨h67b, h67⟩ := xkb h67
      refine x_callV (As := [.int t66, .int 8]) (rest := [.ref a1]) (st1 := [.int t68, .ref a1]) S hw (c_LawReader_number h67) (cwV 2 S.2.2.2.2 gv_LawReader_63 rfl rfl rfl hd_LawReader_number ⟨Nat.le_of_ble_eq_true rfl, Nat.le_of_ble_eq_true rfl⟩) rfl h67b rfl hl.1 rfl rfl (Nat.le_of_ble_eq_true rfl) d_LawReader_readLaw_177 ⟨Nat.le_of_ble_eq_true rfl, Nat.le_of_ble_eq_true rfl⟩ (fun H locs hw => ?_)
      obtain ⟨w70, hw70, hf⟩ := xb hf
      refine x_puti S hw lp_LawReader_71 hw70 d_LawReader_readLaw_180 (fun H locs hw => ?_)
      refine lv_goto (tgt := 186) S.1 S.2.1 d_LawReader_readLaw_183 (by decide) ?_
      refine lv_aload_n S.1 S.2.1 d_LawReader_readLaw_186 rfl (lv_at hl 2 rfl) ?_
      refine lv_aload_n S.1 S.2.1 d_LawReader_readLaw_187 rfl (lv_at hl 1 rfl) ?_
      refine lv_iconst (v := 0) S.1 S.2.1 d_LawReader_readLaw_188 (by decide) ?_
      refine lv_sipush (v := 1000) S.1 S.2.1 d_LawReader_readLaw_189 (by decide) ?_
      obtain ⟨t72, w73, h71, hf⟩ := xcb hf
      obtain ⟨h71b, h71⟩ := xkb h71
      refine x_callV (As := [.int 0, .int 1000]) (rest := [.ref a1]) (st1 := [.int t72, .ref a1]) S hw (c_LawReader_number h71) (cwV 2 S.2.2.2.2 gv_LawReader_63 rfl rfl rfl hd_LawReader_number ⟨Nat.le_of_ble_eq_true rfl, Nat.le_of_ble_eq_true rfl⟩) rfl h71b rfl hl.1 rfl rfl (Nat.le_of_ble_eq_true rfl) d_LawReader_readLaw_192 ⟨Nat.le_of_ble_eq_true rfl, Nat.le_of_ble_eq_true rfl⟩ (fun H locs hw => ?_)
      obtain ⟨w74, hw74, hf⟩ := xb hf
      refine x_puti S hw lp_LawReader_91 hw74 d_LawReader_readLaw_195 (fun H locs hw => ?_)
      refine lv_aload_n S.1 S.2.1 d_LawReader_readLaw_198 rfl (lv_at hl 1 rfl) ?_
      refine lv_iconst (v := 5) S.1 S.2.1 d_LawReader_readLaw_199 (by decide) ?_
      obtain ⟨t76, w77, h75, hf⟩ := xcb hf
      obtain ⟨h75b, h75⟩ := xkb h75
      refine x_callV (As := [.int 5]) (rest := []) (st1 := [.int t76]) S hw (c_LawReader_expect h75) (cwV 1 S.2.2.2.2 gv_LawReader_94 rfl rfl rfl hd_LawReader_expect ⟨Nat.le_of_ble_eq_true rfl, Nat.le_of_ble_eq_true rfl⟩) rfl h75b rfl hl.1 rfl rfl (Nat.le_of_ble_eq_true rfl) d_LawReader_readLaw_200 ⟨Nat.le_of_ble_eq_true rfl, Nat.le_of_ble_eq_true rfl⟩ (fun H locs hw => ?_)
      refine lv_pop S.1 S.2.1 d_LawReader_readLaw_203 rfl ?_
      cases hf
      exact x_vret S hr hlocks hw d_LawReader_readLaw_204
    replace hf := xf c57 hf
    refine lv_tableOut (tgt := 186) S.1 S.2.1 d_LawReader_readLaw_35 (by have h_c9 := lv_neT (a := 1) c9 (by decide); have h_c21 := lv_neT (a := 2) c21 (by decide); have h_c43 := lv_neT (a := 3) c43 (by decide); have h_c44 := lv_neT (a := 4) c44 (by decide); have h_c45 := lv_neT (a := 5) c45 (by decide); have h_c57 := lv_neT (a := 6) c57 (by decide); omega) (by decide) ?_
    refine lv_aload_n S.1 S.2.1 d_LawReader_readLaw_186 rfl (lv_at hl 2 rfl) ?_
    refine lv_aload_n S.1 S.2.1 d_LawReader_readLaw_187 rfl (lv_at hl 1 rfl) ?_
    refine lv_iconst (v := 0) S.1 S.2.1 d_LawReader_readLaw_188 (by decide) ?_
    refine lv_sipush (v := 1000) S.1 S.2.1 d_LawReader_readLaw_189 (by decide) ?_
    obtain ⟨t79, w80, h78, hf⟩ := xcb hf
    obtain ⟨h78b, h78⟩ := xkb h78
    refine x_callV (As := [.int 0, .int 1000]) (rest := [.ref a1]) (st1 := [.int t79, .ref a1]) S hw (c_LawReader_number h78) (cwV 2 S.2.2.2.2 gv_LawReader_63 rfl rfl rfl hd_LawReader_number ⟨Nat.le_of_ble_eq_true rfl, Nat.le_of_ble_eq_true rfl⟩) rfl h78b rfl hl.1 rfl rfl (Nat.le_of_ble_eq_true rfl) d_LawReader_readLaw_192 ⟨Nat.le_of_ble_eq_true rfl, Nat.le_of_ble_eq_true rfl⟩ (fun H locs hw => ?_)
    obtain ⟨w81, hw81, hf⟩ := xb hf
    refine x_puti S hw lp_LawReader_91 hw81 d_LawReader_readLaw_195 (fun H locs hw => ?_)
    refine lv_aload_n S.1 S.2.1 d_LawReader_readLaw_198 rfl (lv_at hl 1 rfl) ?_
    refine lv_iconst (v := 5) S.1 S.2.1 d_LawReader_readLaw_199 (by decide) ?_
    obtain ⟨t83, w84, h82, hf⟩ := xcb hf
    obtain ⟨h82b, h82⟩ := xkb h82
    refine x_callV (As := [.int 5]) (rest := []) (st1 := [.int t83]) S hw (c_LawReader_expect h82) (cwV 1 S.2.2.2.2 gv_LawReader_94 rfl rfl rfl hd_LawReader_expect ⟨Nat.le_of_ble_eq_true rfl, Nat.le_of_ble_eq_true rfl⟩) rfl h82b rfl hl.1 rfl rfl (Nat.le_of_ble_eq_true rfl) d_LawReader_readLaw_200 ⟨Nat.le_of_ble_eq_true rfl, Nat.le_of_ble_eq_true rfl⟩ (fun H locs hw => ?_)
    refine lv_pop S.1 S.2.1 d_LawReader_readLaw_203 rfl ?_
    cases hf
    exact x_vret S hr hlocks hw d_LawReader_readLaw_204
  · replace hf := xf c3 hf
    refine lv_aload_n S.1 S.2.1 d_LawReader_readLaw_9 rfl (lv_at hl 1 rfl) ?_
    refine lv_iconst (v := 2) S.1 S.2.1 d_LawReader_readLaw_10 (by decide) ?_
    refine lv_aload_n S.1 S.2.1 d_LawReader_readLaw_11 rfl (lv_at hl 1 rfl) ?_
    obtain ⟨t85, ht85, hf⟩ := xb hf
    refine x_getr S hw lk_LawReader_20 ht85 d_LawReader_readLaw_12 ?_
    obtain ⟨t86, ht86, hf⟩ := xb hf
    refine x_geti S hw lk_LawReader_44 ht86 d_LawReader_readLaw_15 ?_
    obtain ⟨w89, h87, hf⟩ := xb hf
    obtain ⟨h87b, h87⟩ := xkb h87
    refine x_callV (As := [.int 2, .int t86]) (rest := []) (st1 := []) S hw (c_LawReader_refuse h87) (cwV 2 S.2.2.2.2 gv_LawReader_47 rfl rfl rfl hd_LawReader_refuse ⟨Nat.le_of_ble_eq_true rfl, Nat.le_of_ble_eq_true rfl⟩) rfl h87b rfl hl.1 rfl rfl (Nat.le_of_ble_eq_true rfl) d_LawReader_readLaw_18 ⟨Nat.le_of_ble_eq_true rfl, Nat.le_of_ble_eq_true rfl⟩ (fun H locs hw => ?_)
    cases hf
    exact x_vret S hr hlocks hw d_LawReader_readLaw_21
def f_LawReader_readLaws_22 : Nat → Nat → Nat → Int32 → Int32 → xS → Option (Int32 × xS)
  | 0, _, _, _, _, _ => none
  | n + 1, a0, a1, x2, x3, ω =>
    if 16 < x3 then (
      some (x2, ω))
    else (
      (xgi ω a0 5 3).bind fun t8 =>
      if t8 = 0 then (
        (xgr ω a0 5 0).bind fun t10 =>
        xc (xk ω t10 10 (f_Tokens_advance t10  ω)) fun t12 w13 =>
        if t12 = 1 then (
          some (x2, w13))
        else (
          if t12 = 0 then (
            (xgr w13 a0 5 0).bind fun t27 =>
            (xgi w13 t27 10 2).bind fun t28 =>
            (xk w13 a0 5 (f_LawReader_refuse a0 1 t28 w13)).bind fun w31 =>
            f_LawReader_readLaws_22  n a0 a1 x2 (x3 + 1) w31)
          else (
            (xan w13 a1).bind fun t16 =>
            if x3 < t16 then (
              (xar w13 3 a1 x3).bind fun t18 =>
              (xk w13 a0 5 (f_LawReader_readLaw a0 t18 w13)).bind fun w21 =>
              f_LawReader_readLaws_22  n a0 a1 (x2 + 1) (x3 + 1) w21)
            else (
              (xgr w13 a0 5 0).bind fun t22 =>
              (xgi w13 t22 10 2).bind fun t23 =>
              (xk w13 a0 5 (f_LawReader_refuse a0 3 t23 w13)).bind fun w26 =>
              f_LawReader_readLaws_22  n a0 a1 x2 (x3 + 1) w26))))
      else (
        some (x2, ω)))
set_option maxHeartbeats 4000000 in
set_option maxRecDepth 100000 in
theorem w_LawReader_readLaws_22 {p : Program} {l : Launch} {e : Env} {s : State} {m : MethodId} {args : Array Value} {below : List Frame} {meth : Method} {c : Code} {E : xV} {z : Nat} {r : Int32} {ω1 : xS} (S : CallFix p m c b_LawReader_readLaws 5 s args xTbl "RosterRules$LawReader") (hr : meth.sig.returnType = (some .int)) (hlocks : meth.locks = false) : ∀ n : Nat, ∀ (a0 : Nat) (a1 : Nat) (x2 : Int32) (x3 : Int32) (ω : xS) (H : Heap) (locs : List Loc) (ls : Array Slot), xW E z ω s s.heap H locs → lv_has ls 5 [(0, .ref a0), (1, .ref a1), (2, .int x2), (3, .int x3)] → f_LawReader_readLaws_22 n a0 a1 x2 x3 ω = some (r, ω1) → W p l e (headSpec ws_LawReader_readLaws { frames := 7, cells := 0, slots := 0, locals := 150 }).room s m args below meth c H locs 0 0 (MQ below (xQ E (some (.int r)) z ω1) args s 0 0 (fun q => E.2.2 ≤ q)) (F0 m 22 ls []) := by
  intro n
  induction n with
  | zero =>
    intro a0 a1 x2 x3 ω H locs ls hw hl hf
    have h2 : (none : Option (Int32 × xS)) = some (r, ω1) := hf
    cases h2
  | succ n ih =>
    intro a0 a1 x2 x3 ω H locs ls hw hl hf
    rw [f_LawReader_readLaws_22] at hf
    refine lv_iload_n S.1 S.2.1 d_LawReader_readLaws_22 rfl (lv_at hl 3 rfl) ?_
    refine lv_bipush (v := 16) S.1 S.2.1 d_LawReader_readLaws_23 (by decide) ?_
    refine lv_icmp_gt (tgt := 110) S.1 S.2.1 d_LawReader_readLaws_25 (by decide) (fun c7 => ?_) (fun c7 => ?_)
    · replace hf := xt c7 hf
      refine lv_iload_n S.1 S.2.1 d_LawReader_readLaws_110 rfl (lv_at hl 2 rfl) ?_
      obtain ⟨rfl, rfl⟩ := xe2 hf
      exact x_iret S hr hlocks hw d_LawReader_readLaws_111
    · replace hf := xf c7 hf
      refine lv_aload_n S.1 S.2.1 d_LawReader_readLaws_28 rfl (lv_at hl 0 rfl) ?_
      obtain ⟨t8, ht8, hf⟩ := xb hf
      refine x_geti S hw lk_LawReader_34 ht8 d_LawReader_readLaws_29 ?_
      refine lv_if_ne (tgt := 110) S.1 S.2.1 d_LawReader_readLaws_32 (by decide) (fun c9 => ?_) (fun c9 => ?_)
      · replace hf := xf c9 hf
        refine lv_iload_n S.1 S.2.1 d_LawReader_readLaws_110 rfl (lv_at hl 2 rfl) ?_
        obtain ⟨rfl, rfl⟩ := xe2 hf
        exact x_iret S hr hlocks hw d_LawReader_readLaws_111
      · replace hf := xt c9 hf
        refine lv_aload_n S.1 S.2.1 d_LawReader_readLaws_35 rfl (lv_at hl 0 rfl) ?_
        obtain ⟨t10, ht10, hf⟩ := xb hf
        refine x_getr S hw lk_LawReader_20 ht10 d_LawReader_readLaws_36 ?_
        obtain ⟨t12, w13, h11, hf⟩ := xcb hf
        obtain ⟨h11b, h11⟩ := xkb h11
        refine x_callV (As := []) (rest := []) (st1 := [.int t12]) S hw (c_Tokens_advance h11) (cwV 0 S.2.2.2.2 gv_LawReader_40 rfl rfl rfl hd_Tokens_advance ⟨Nat.le_of_ble_eq_true rfl, Nat.le_of_ble_eq_true rfl⟩) rfl h11b rfl hl.1 rfl rfl (Nat.le_of_ble_eq_true rfl) d_LawReader_readLaws_39 ⟨Nat.le_of_ble_eq_true rfl, Nat.le_of_ble_eq_true rfl⟩ (fun H locs hw => ?_)
        refine lv_istore (lv' := [(4, .int t12), (0, .ref a0), (1, .ref a1), (2, .int x2), (3, .int x3)]) S.1 S.2.1 d_LawReader_readLaws_42 hl (by decide) rfl (fun ls hl => ?_)
        refine lv_iload S.1 S.2.1 d_LawReader_readLaws_44 (lv_at hl 0 rfl) ?_
        refine lv_iconst (v := 1) S.1 S.2.1 d_LawReader_readLaws_46 (by decide) ?_
        refine lv_icmp_ne (tgt := 53) S.1 S.2.1 d_LawReader_readLaws_47 (by decide) (fun c14 => ?_) (fun c14 => ?_)
        · replace hf := xf c14 hf
          refine lv_iload S.1 S.2.1 d_LawReader_readLaws_53 (lv_at hl 0 rfl) ?_
          refine lv_if_ne (tgt := 73) S.1 S.2.1 d_LawReader_readLaws_55 (by decide) (fun c15 => ?_) (fun c15 => ?_)
          · replace hf := xf c15 hf
            refine lv_iload_n S.1 S.2.1 d_LawReader_readLaws_73 rfl (lv_at hl 4 rfl) ?_
            refine lv_aload_n S.1 S.2.1 d_LawReader_readLaws_74 rfl (lv_at hl 2 rfl) ?_
            obtain ⟨t16, ht16, hf⟩ := xb hf
            refine x_alen S hw ht16 d_LawReader_readLaws_75 ?_
            refine lv_icmp_lt (tgt := 94) S.1 S.2.1 d_LawReader_readLaws_76 (by decide) (fun c17 => ?_) (fun c17 => ?_)
            · replace hf := xt c17 hf
              refine lv_aload_n S.1 S.2.1 d_LawReader_readLaws_94 rfl (lv_at hl 1 rfl) ?_
              refine lv_aload_n S.1 S.2.1 d_LawReader_readLaws_95 rfl (lv_at hl 2 rfl) ?_
              refine lv_iload_n S.1 S.2.1 d_LawReader_readLaws_96 rfl (lv_at hl 4 rfl) ?_
              obtain ⟨t18, ht18, hf⟩ := xb hf
              refine x_aald S hw (t := 3) rfl rfl ht18 d_LawReader_readLaws_97 ?_
              obtain ⟨w21, h19, hf⟩ := xb hf
              obtain ⟨h19b, h19⟩ := xkb h19
              refine x_callV (As := [.ref t18]) (rest := []) (st1 := []) S hw (c_LawReader_readLaw h19) (cwV 1 S.2.2.2.2 gv_LawReader_51 rfl rfl rfl hd_LawReader_readLaw ⟨Nat.le_of_ble_eq_true rfl, Nat.le_of_ble_eq_true rfl⟩) rfl h19b rfl hl.1 rfl rfl (Nat.le_of_ble_eq_true rfl) d_LawReader_readLaws_98 ⟨Nat.le_of_ble_eq_true rfl, Nat.le_of_ble_eq_true rfl⟩ (fun H locs hw => ?_)
              refine lv_iinc (v := (x2 + 1)) (lv' := [(2, .int (x2 + 1)), (4, .int t12), (0, .ref a0), (1, .ref a1), (3, .int x3)]) S.1 S.2.1 d_LawReader_readLaws_101 hl (k := 3) rfl rfl (by decide) rfl (fun ls hl => ?_)
              refine lv_iinc (v := (x3 + 1)) (lv' := [(3, .int (x3 + 1)), (2, .int (x2 + 1)), (4, .int t12), (0, .ref a0), (1, .ref a1)]) S.1 S.2.1 d_LawReader_readLaws_104 hl (k := 4) rfl rfl (by decide) rfl (fun ls hl => ?_)
              refine lv_goto (tgt := 22) S.1 S.2.1 d_LawReader_readLaws_107 (by decide) ?_
              exact ih _ _ _ _ _ _ _ _ hw (lv_sub hl [3, 4, 1, 0] rfl) hf
            · replace hf := xf c17 hf
              refine lv_aload_n S.1 S.2.1 d_LawReader_readLaws_79 rfl (lv_at hl 1 rfl) ?_
              refine lv_iconst (v := 3) S.1 S.2.1 d_LawReader_readLaws_80 (by decide) ?_
              refine lv_aload_n S.1 S.2.1 d_LawReader_readLaws_81 rfl (lv_at hl 1 rfl) ?_
              obtain ⟨t22, ht22, hf⟩ := xb hf
              refine x_getr S hw lk_LawReader_20 ht22 d_LawReader_readLaws_82 ?_
              obtain ⟨t23, ht23, hf⟩ := xb hf
              refine x_geti S hw lk_LawReader_44 ht23 d_LawReader_readLaws_85 ?_
              obtain ⟨w26, h24, hf⟩ := xb hf
              obtain ⟨h24b, h24⟩ := xkb h24
              refine x_callV (As := [.int 3, .int t23]) (rest := []) (st1 := []) S hw (c_LawReader_refuse h24) (cwV 2 S.2.2.2.2 gv_LawReader_47 rfl rfl rfl hd_LawReader_refuse ⟨Nat.le_of_ble_eq_true rfl, Nat.le_of_ble_eq_true rfl⟩) rfl h24b rfl hl.1 rfl rfl (Nat.le_of_ble_eq_true rfl) d_LawReader_readLaws_88 ⟨Nat.le_of_ble_eq_true rfl, Nat.le_of_ble_eq_true rfl⟩ (fun H locs hw => ?_)
              refine lv_goto (tgt := 104) S.1 S.2.1 d_LawReader_readLaws_91 (by decide) ?_
              refine lv_iinc (v := (x3 + 1)) (lv' := [(3, .int (x3 + 1)), (4, .int t12), (0, .ref a0), (1, .ref a1), (2, .int x2)]) S.1 S.2.1 d_LawReader_readLaws_104 hl (k := 4) rfl rfl (by decide) rfl (fun ls hl => ?_)
              refine lv_goto (tgt := 22) S.1 S.2.1 d_LawReader_readLaws_107 (by decide) ?_
              exact ih _ _ _ _ _ _ _ _ hw (lv_sub hl [2, 3, 4, 0] rfl) hf
          · replace hf := xt c15 hf
            refine lv_aload_n S.1 S.2.1 d_LawReader_readLaws_58 rfl (lv_at hl 1 rfl) ?_
            refine lv_iconst (v := 1) S.1 S.2.1 d_LawReader_readLaws_59 (by decide) ?_
            refine lv_aload_n S.1 S.2.1 d_LawReader_readLaws_60 rfl (lv_at hl 1 rfl) ?_
            obtain ⟨t27, ht27, hf⟩ := xb hf
            refine x_getr S hw lk_LawReader_20 ht27 d_LawReader_readLaws_61 ?_
            obtain ⟨t28, ht28, hf⟩ := xb hf
            refine x_geti S hw lk_LawReader_44 ht28 d_LawReader_readLaws_64 ?_
            obtain ⟨w31, h29, hf⟩ := xb hf
            obtain ⟨h29b, h29⟩ := xkb h29
            refine x_callV (As := [.int 1, .int t28]) (rest := []) (st1 := []) S hw (c_LawReader_refuse h29) (cwV 2 S.2.2.2.2 gv_LawReader_47 rfl rfl rfl hd_LawReader_refuse ⟨Nat.le_of_ble_eq_true rfl, Nat.le_of_ble_eq_true rfl⟩) rfl h29b rfl hl.1 rfl rfl (Nat.le_of_ble_eq_true rfl) d_LawReader_readLaws_67 ⟨Nat.le_of_ble_eq_true rfl, Nat.le_of_ble_eq_true rfl⟩ (fun H locs hw => ?_)
            refine lv_goto (tgt := 104) S.1 S.2.1 d_LawReader_readLaws_70 (by decide) ?_
            refine lv_iinc (v := (x3 + 1)) (lv' := [(3, .int (x3 + 1)), (4, .int t12), (0, .ref a0), (1, .ref a1), (2, .int x2)]) S.1 S.2.1 d_LawReader_readLaws_104 hl (k := 4) rfl rfl (by decide) rfl (fun ls hl => ?_)
            refine lv_goto (tgt := 22) S.1 S.2.1 d_LawReader_readLaws_107 (by decide) ?_
            exact ih _ _ _ _ _ _ _ _ hw (lv_sub hl [2, 3, 4, 0] rfl) hf
        · replace hf := xt c14 hf
          refine lv_goto (tgt := 110) S.1 S.2.1 d_LawReader_readLaws_50 (by decide) ?_
          refine lv_iload_n S.1 S.2.1 d_LawReader_readLaws_110 rfl (lv_at hl 3 rfl) ?_
          obtain ⟨rfl, rfl⟩ := xe2 hf
          exact x_iret S hr hlocks hw d_LawReader_readLaws_111
def f_LawReader_readLaws (a0 : Nat) (a1 : Nat) (ω : xS) : Option (Int32 × xS) :=
  (xp ω a0 5 3 (.int 0)).bind fun w1 =>
  (xp w1 a0 5 4 (.int (-2))).bind fun w2 =>
  (xgr w2 a0 5 0).bind fun t3 =>
  (xk w2 t3 10 (f_Tokens_rewind t3  w2)).bind fun w6 =>
  f_LawReader_readLaws_22  xFU a0 a1 0 0 w6
set_option maxHeartbeats 4000000 in
set_option maxRecDepth 100000 in
theorem c_LawReader_readLaws {l : Launch} {E : xV} {z : Nat} {a0 : Nat} {a1 : Nat} {r : Int32} {ω1 : xS} {ω : xS} (hf : f_LawReader_readLaws a0 a1 ω = some (r, ω1)) : xM l E y_LawReader_readLaws ws_LawReader_readLaws { frames := 7, cells := 0, slots := 0, locals := 150 } [.ref a0, .ref a1] z ω (some (.int r)) z ω1 := by
  refine x_start (cc := b_LawReader_readLaws) (maxL := 5) (ret := (some .int)) (by decide) rfl (Nat.le_of_ble_eq_true rfl) ?_
  intro p e s m below meth c S hr hlocks hin ls hl hw
  have hl : lv_has ls 5 [(0, .ref a0), (1, .ref a1)] := hl
  unfold f_LawReader_readLaws at hf
  refine lv_aload_n S.1 S.2.1 d_LawReader_readLaws_0 rfl (lv_at hl 0 rfl) ?_
  refine lv_iconst (v := 0) S.1 S.2.1 d_LawReader_readLaws_1 (by decide) ?_
  obtain ⟨w1, hw1, hf⟩ := xb hf
  refine x_puti S hw lp_LawReader_34 hw1 d_LawReader_readLaws_2 (fun H locs hw => ?_)
  refine lv_aload_n S.1 S.2.1 d_LawReader_readLaws_5 rfl (lv_at hl 0 rfl) ?_
  refine lv_bipush (v := (-2)) S.1 S.2.1 d_LawReader_readLaws_6 (by decide) ?_
  obtain ⟨w2, hw2, hf⟩ := xb hf
  refine x_puti S hw lp_LawReader_9 hw2 d_LawReader_readLaws_8 (fun H locs hw => ?_)
  refine lv_aload_n S.1 S.2.1 d_LawReader_readLaws_11 rfl (lv_at hl 0 rfl) ?_
  obtain ⟨t3, ht3, hf⟩ := xb hf
  refine x_getr S hw lk_LawReader_20 ht3 d_LawReader_readLaws_12 ?_
  obtain ⟨w6, h4, hf⟩ := xb hf
  obtain ⟨h4b, h4⟩ := xkb h4
  refine x_callV (As := []) (rest := []) (st1 := []) S hw (c_Tokens_rewind h4) (cwV 0 S.2.2.2.2 gv_LawReader_37 rfl rfl rfl hd_Tokens_rewind ⟨Nat.le_of_ble_eq_true rfl, Nat.le_of_ble_eq_true rfl⟩) rfl h4b rfl hl.1 rfl rfl (Nat.le_of_ble_eq_true rfl) d_LawReader_readLaws_15 ⟨Nat.le_of_ble_eq_true rfl, Nat.le_of_ble_eq_true rfl⟩ (fun H locs hw => ?_)
  refine lv_iconst (v := 0) S.1 S.2.1 d_LawReader_readLaws_18 (by decide) ?_
  refine lv_istore_n (lv' := [(2, .int 0), (0, .ref a0), (1, .ref a1)]) S.1 S.2.1 d_LawReader_readLaws_19 rfl hl (by decide) rfl (fun ls hl => ?_)
  refine lv_iconst (v := 0) S.1 S.2.1 d_LawReader_readLaws_20 (by decide) ?_
  refine lv_istore_n (lv' := [(3, .int 0), (2, .int 0), (0, .ref a0), (1, .ref a1)]) S.1 S.2.1 d_LawReader_readLaws_21 rfl hl (by decide) rfl (fun ls hl => ?_)
  exact w_LawReader_readLaws_22 S hr hlocks  _ _ _ _ _ _ _ _ _ hw (lv_sub hl [2, 3, 1, 0] rfl) hf
def f_RR_read (a0 : Nat) (ω : xS) : Option (Int32 × xS) :=
  (xgr ω a0 11 4).bind fun t1 =>
  (xgr ω a0 11 7).bind fun t2 =>
  xc (xk ω t1 5 (f_LawReader_readLaws t1 t2 ω)) fun t4 w5 =>
  (xgr w5 a0 11 0).bind fun t6 =>
  (xp w5 t6 9 1 (.int 0)).bind fun w7 =>
  (xgr w7 a0 11 4).bind fun t8 =>
  (xgi w7 t8 5 3).bind fun t9 =>
  if t9 = 0 then (
    (xgr w7 a0 11 6).bind fun t11 =>
    (xgr w7 a0 11 7).bind fun t12 =>
    (xp w7 a0 11 6 (.ref t12)).bind fun w13 =>
    (xp w13 a0 11 7 (.ref t11)).bind fun w14 =>
    (xp w14 a0 11 8 (.int t4)).bind fun w15 =>
    some (t4, w15))
  else (
    (xgr w7 a0 11 4).bind fun t16 =>
    (xgi w7 t16 5 3).bind fun t17 =>
    some (((-10) - t17), w7))
set_option maxHeartbeats 4000000 in
set_option maxRecDepth 100000 in
theorem c_RR_read {l : Launch} {E : xV} {z : Nat} {a0 : Nat} {r : Int32} {ω1 : xS} {ω : xS} (hf : f_RR_read a0 ω = some (r, ω1)) : xM l E y_RR_read ws_RR_read { frames := 8, cells := 0, slots := 0, locals := 174 } [.ref a0] z ω (some (.int r)) z ω1 := by
  refine x_start (cc := b_RR_read) (maxL := 3) (ret := (some .int)) (by decide) rfl (Nat.le_of_ble_eq_true rfl) ?_
  intro p e s m below meth c S hr hlocks hin ls hl hw
  have hl : lv_has ls 3 [(0, .ref a0)] := hl
  unfold f_RR_read at hf
  refine lv_aload_n S.1 S.2.1 d_RR_read_0 rfl (lv_at hl 0 rfl) ?_
  obtain ⟨t1, ht1, hf⟩ := xb hf
  refine x_getr S hw lk_RR_75 ht1 d_RR_read_1 ?_
  refine lv_aload_n S.1 S.2.1 d_RR_read_4 rfl (lv_at hl 0 rfl) ?_
  obtain ⟨t2, ht2, hf⟩ := xb hf
  refine x_getr S hw lk_RR_36 ht2 d_RR_read_5 ?_
  obtain ⟨t4, w5, h3, hf⟩ := xcb hf
  obtain ⟨h3b, h3⟩ := xkb h3
  refine x_callV (As := [.ref t2]) (rest := []) (st1 := [.int t4]) S hw (c_LawReader_readLaws h3) (cwV 1 S.2.2.2.2 gv_RR_87 rfl rfl rfl hd_LawReader_readLaws ⟨Nat.le_of_ble_eq_true rfl, Nat.le_of_ble_eq_true rfl⟩) rfl h3b rfl hl.1 rfl rfl (Nat.le_of_ble_eq_true rfl) d_RR_read_8 ⟨Nat.le_of_ble_eq_true rfl, Nat.le_of_ble_eq_true rfl⟩ (fun H locs hw => ?_)
  refine lv_istore_n (lv' := [(1, .int t4), (0, .ref a0)]) S.1 S.2.1 d_RR_read_11 rfl hl (by decide) rfl (fun ls hl => ?_)
  refine lv_aload_n S.1 S.2.1 d_RR_read_12 rfl (lv_at hl 1 rfl) ?_
  obtain ⟨t6, ht6, hf⟩ := xb hf
  refine x_getr S hw lk_RR_10 ht6 d_RR_read_13 ?_
  refine lv_iconst (v := 0) S.1 S.2.1 d_RR_read_16 (by decide) ?_
  obtain ⟨w7, hw7, hf⟩ := xb hf
  refine x_puti S hw lp_RR_80 hw7 d_RR_read_17 (fun H locs hw => ?_)
  refine lv_aload_n S.1 S.2.1 d_RR_read_20 rfl (lv_at hl 1 rfl) ?_
  obtain ⟨t8, ht8, hf⟩ := xb hf
  refine x_getr S hw lk_RR_75 ht8 d_RR_read_21 ?_
  obtain ⟨t9, ht9, hf⟩ := xb hf
  refine x_geti S hw lk_RR_91 ht9 d_RR_read_24 ?_
  refine lv_if_eq (tgt := 41) S.1 S.2.1 d_RR_read_27 (by decide) (fun c10 => ?_) (fun c10 => ?_)
  · replace hf := xt c10 hf
    refine lv_aload_n S.1 S.2.1 d_RR_read_41 rfl (lv_at hl 1 rfl) ?_
    obtain ⟨t11, ht11, hf⟩ := xb hf
    refine x_getr S hw lk_RR_32 ht11 d_RR_read_42 ?_
    refine lv_astore_n (lv' := [(2, .ref t11), (1, .int t4), (0, .ref a0)]) S.1 S.2.1 d_RR_read_45 rfl hl (by decide) rfl (fun ls hl => ?_)
    refine lv_aload_n S.1 S.2.1 d_RR_read_46 rfl (lv_at hl 2 rfl) ?_
    refine lv_aload_n S.1 S.2.1 d_RR_read_47 rfl (lv_at hl 2 rfl) ?_
    obtain ⟨t12, ht12, hf⟩ := xb hf
    refine x_getr S hw lk_RR_36 ht12 d_RR_read_48 ?_
    obtain ⟨w13, hw13, hf⟩ := xb hf
    refine x_put S hw lp_RR_32 (rfl) rfl hw13 d_RR_read_51 (fun H locs hw => ?_)
    refine lv_aload_n S.1 S.2.1 d_RR_read_54 rfl (lv_at hl 2 rfl) ?_
    refine lv_aload_n S.1 S.2.1 d_RR_read_55 rfl (lv_at hl 0 rfl) ?_
    obtain ⟨w14, hw14, hf⟩ := xb hf
    refine x_put S hw lp_RR_36 (rfl) rfl hw14 d_RR_read_56 (fun H locs hw => ?_)
    refine lv_aload_n S.1 S.2.1 d_RR_read_59 rfl (lv_at hl 2 rfl) ?_
    refine lv_iload_n S.1 S.2.1 d_RR_read_60 rfl (lv_at hl 1 rfl) ?_
    obtain ⟨w15, hw15, hf⟩ := xb hf
    refine x_puti S hw lp_RR_94 hw15 d_RR_read_61 (fun H locs hw => ?_)
    refine lv_iload_n S.1 S.2.1 d_RR_read_64 rfl (lv_at hl 1 rfl) ?_
    obtain ⟨rfl, rfl⟩ := xe2 hf
    exact x_iret S hr hlocks hw d_RR_read_65
  · replace hf := xf c10 hf
    refine lv_bipush (v := (-10)) S.1 S.2.1 d_RR_read_30 (by decide) ?_
    refine lv_aload_n S.1 S.2.1 d_RR_read_32 rfl (lv_at hl 1 rfl) ?_
    obtain ⟨t16, ht16, hf⟩ := xb hf
    refine x_getr S hw lk_RR_75 ht16 d_RR_read_33 ?_
    obtain ⟨t17, ht17, hf⟩ := xb hf
    refine x_geti S hw lk_RR_91 ht17 d_RR_read_36 ?_
    refine lv_isub S.1 S.2.1 d_RR_read_39 ?_
    obtain ⟨rfl, rfl⟩ := xe2 hf
    exact x_iret S hr hlocks hw d_RR_read_40
