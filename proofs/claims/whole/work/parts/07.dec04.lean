theorem d_PatternParser_takeByte_185 : decode b_PatternParser_takeByte 185 = .ok (.putfield 40, 3) := by decide +kernel
theorem d_PatternParser_takeByte_188 : decode b_PatternParser_takeByte 188 = .ok (.return_, 1) := by decide +kernel
theorem d_Positions_followersOf_0 : decode b_Positions_followersOf 0 = .ok (.iconst 0, 1) := by decide +kernel
theorem d_Positions_followersOf_1 : decode b_Positions_followersOf 1 = .ok (.istore_n 3, 1) := by decide +kernel
theorem d_Positions_followersOf_2 : decode b_Positions_followersOf 2 = .ok (.iconst 0, 1) := by decide +kernel
theorem d_Positions_followersOf_3 : decode b_Positions_followersOf 3 = .ok (.istore 4, 2) := by decide +kernel
theorem d_Positions_followersOf_5 : decode b_Positions_followersOf 5 = .ok (.iload 4, 2) := by decide +kernel
theorem d_Positions_followersOf_7 : decode b_Positions_followersOf 7 = .ok (.iconst 5, 1) := by decide +kernel
theorem d_Positions_followersOf_8 : decode b_Positions_followersOf 8 = .ok (.if_icmp .ge 30, 3) := by decide +kernel
theorem d_Positions_followersOf_11 : decode b_Positions_followersOf 11 = .ok (.iload_n 1, 1) := by decide +kernel
theorem d_Positions_followersOf_12 : decode b_Positions_followersOf 12 = .ok (.iload 4, 2) := by decide +kernel
theorem d_Positions_followersOf_14 : decode b_Positions_followersOf 14 = .ok (.ishr, 1) := by decide +kernel
theorem d_Positions_followersOf_15 : decode b_Positions_followersOf 15 = .ok (.iconst 1, 1) := by decide +kernel
theorem d_Positions_followersOf_16 : decode b_Positions_followersOf 16 = .ok (.iand, 1) := by decide +kernel
theorem d_Positions_followersOf_17 : decode b_Positions_followersOf 17 = .ok (.ifCond .eq 15, 3) := by decide +kernel
theorem d_Positions_followersOf_20 : decode b_Positions_followersOf 20 = .ok (.iload_n 3, 1) := by decide +kernel
theorem d_Positions_followersOf_21 : decode b_Positions_followersOf 21 = .ok (.aload_n 0, 1) := by decide +kernel
theorem d_Positions_followersOf_22 : decode b_Positions_followersOf 22 = .ok (.getfield 15, 3) := by decide +kernel
theorem d_Positions_followersOf_25 : decode b_Positions_followersOf 25 = .ok (.iload_n 2, 1) := by decide +kernel
theorem d_Positions_followersOf_26 : decode b_Positions_followersOf 26 = .ok (.iload 4, 2) := by decide +kernel
theorem d_Positions_followersOf_28 : decode b_Positions_followersOf 28 = .ok (.iadd, 1) := by decide +kernel
theorem d_Positions_followersOf_29 : decode b_Positions_followersOf 29 = .ok (.iaload, 1) := by decide +kernel
theorem d_Positions_followersOf_30 : decode b_Positions_followersOf 30 = .ok (.ior, 1) := by decide +kernel
theorem d_Positions_followersOf_31 : decode b_Positions_followersOf 31 = .ok (.istore_n 3, 1) := by decide +kernel
theorem d_Positions_followersOf_32 : decode b_Positions_followersOf 32 = .ok (.iinc 4 1, 3) := by decide +kernel
theorem d_Positions_followersOf_35 : decode b_Positions_followersOf 35 = .ok (.goto (-30), 3) := by decide +kernel
theorem d_Positions_followersOf_38 : decode b_Positions_followersOf 38 = .ok (.iload_n 3, 1) := by decide +kernel
theorem d_Positions_followersOf_39 : decode b_Positions_followersOf 39 = .ok (.ireturn, 1) := by decide +kernel
theorem d_Positions_finish_0 : decode b_Positions_finish 0 = .ok (.aload_n 0, 1) := by decide +kernel
theorem d_Positions_finish_1 : decode b_Positions_finish 1 = .ok (.iload_n 1, 1) := by decide +kernel
theorem d_Positions_finish_2 : decode b_Positions_finish 2 = .ok (.sipush 1023, 3) := by decide +kernel
theorem d_Positions_finish_5 : decode b_Positions_finish 5 = .ok (.iand, 1) := by decide +kernel
theorem d_Positions_finish_6 : decode b_Positions_finish 6 = .ok (.putfield 34, 3) := by decide +kernel
theorem d_Positions_finish_9 : decode b_Positions_finish 9 = .ok (.aload_n 0, 1) := by decide +kernel
theorem d_Positions_finish_10 : decode b_Positions_finish 10 = .ok (.iload_n 1, 1) := by decide +kernel
theorem d_Positions_finish_11 : decode b_Positions_finish 11 = .ok (.bipush 10, 2) := by decide +kernel
theorem d_Positions_finish_13 : decode b_Positions_finish 13 = .ok (.ishr, 1) := by decide +kernel
theorem d_Positions_finish_14 : decode b_Positions_finish 14 = .ok (.sipush 1023, 3) := by decide +kernel
theorem d_Positions_finish_17 : decode b_Positions_finish 17 = .ok (.iand, 1) := by decide +kernel
theorem d_Positions_finish_18 : decode b_Positions_finish 18 = .ok (.putfield 37, 3) := by decide +kernel
theorem d_Positions_finish_21 : decode b_Positions_finish 21 = .ok (.aload_n 0, 1) := by decide +kernel
theorem d_Positions_finish_22 : decode b_Positions_finish 22 = .ok (.iload_n 1, 1) := by decide +kernel
theorem d_Positions_finish_23 : decode b_Positions_finish 23 = .ok (.ldc 32, 2) := by decide +kernel
theorem d_Positions_finish_25 : decode b_Positions_finish 25 = .ok (.iand, 1) := by decide +kernel
theorem d_Positions_finish_26 : decode b_Positions_finish 26 = .ok (.ifCond .eq 7, 3) := by decide +kernel
theorem d_Positions_finish_29 : decode b_Positions_finish 29 = .ok (.iconst 1, 1) := by decide +kernel
theorem d_Positions_finish_30 : decode b_Positions_finish 30 = .ok (.goto 4, 3) := by decide +kernel
theorem d_Positions_finish_33 : decode b_Positions_finish 33 = .ok (.iconst 0, 1) := by decide +kernel
theorem d_Positions_finish_34 : decode b_Positions_finish 34 = .ok (.putfield 40, 3) := by decide +kernel
theorem d_Positions_finish_37 : decode b_Positions_finish 37 = .ok (.iconst 0, 1) := by decide +kernel
theorem d_Positions_finish_38 : decode b_Positions_finish 38 = .ok (.istore_n 2, 1) := by decide +kernel
theorem d_Positions_finish_39 : decode b_Positions_finish 39 = .ok (.iload_n 2, 1) := by decide +kernel
theorem d_Positions_finish_40 : decode b_Positions_finish 40 = .ok (.bipush 32, 2) := by decide +kernel
theorem d_Positions_finish_42 : decode b_Positions_finish 42 = .ok (.if_icmp .ge 33, 3) := by decide +kernel
theorem d_Positions_finish_45 : decode b_Positions_finish 45 = .ok (.aload_n 0, 1) := by decide +kernel
theorem d_Positions_finish_46 : decode b_Positions_finish 46 = .ok (.getfield 18, 3) := by decide +kernel
theorem d_Positions_finish_49 : decode b_Positions_finish 49 = .ok (.iload_n 2, 1) := by decide +kernel
theorem d_Positions_finish_50 : decode b_Positions_finish 50 = .ok (.aload_n 0, 1) := by decide +kernel
theorem d_Positions_finish_51 : decode b_Positions_finish 51 = .ok (.iload_n 2, 1) := by decide +kernel
theorem d_Positions_finish_52 : decode b_Positions_finish 52 = .ok (.iconst 0, 1) := by decide +kernel
theorem d_Positions_finish_53 : decode b_Positions_finish 53 = .ok (.invokevirtual 43, 3) := by decide +kernel
theorem d_Positions_finish_56 : decode b_Positions_finish 56 = .ok (.iastore, 1) := by decide +kernel
theorem d_Positions_finish_57 : decode b_Positions_finish 57 = .ok (.aload_n 0, 1) := by decide +kernel
theorem d_Positions_finish_58 : decode b_Positions_finish 58 = .ok (.getfield 21, 3) := by decide +kernel
theorem d_Positions_finish_61 : decode b_Positions_finish 61 = .ok (.iload_n 2, 1) := by decide +kernel
theorem d_Positions_finish_62 : decode b_Positions_finish 62 = .ok (.aload_n 0, 1) := by decide +kernel
theorem d_Positions_finish_63 : decode b_Positions_finish 63 = .ok (.iload_n 2, 1) := by decide +kernel
theorem d_Positions_finish_64 : decode b_Positions_finish 64 = .ok (.iconst 5, 1) := by decide +kernel
theorem d_Positions_finish_65 : decode b_Positions_finish 65 = .ok (.invokevirtual 43, 3) := by decide +kernel
theorem d_Positions_finish_68 : decode b_Positions_finish 68 = .ok (.iastore, 1) := by decide +kernel
theorem d_Positions_finish_69 : decode b_Positions_finish 69 = .ok (.iinc 2 1, 3) := by decide +kernel
theorem d_Positions_finish_72 : decode b_Positions_finish 72 = .ok (.goto (-33), 3) := by decide +kernel
theorem d_Positions_finish_75 : decode b_Positions_finish 75 = .ok (.return_, 1) := by decide +kernel
theorem d_PatternParser_parse_0 : decode b_PatternParser_parse 0 = .ok (.aload_n 2, 1) := by decide +kernel
theorem d_PatternParser_parse_1 : decode b_PatternParser_parse 1 = .ok (.invokevirtual 27, 3) := by decide +kernel
theorem d_PatternParser_parse_4 : decode b_PatternParser_parse 4 = .ok (.aload_n 0, 1) := by decide +kernel
theorem d_PatternParser_parse_5 : decode b_PatternParser_parse 5 = .ok (.iconst 0, 1) := by decide +kernel
theorem d_PatternParser_parse_6 : decode b_PatternParser_parse 6 = .ok (.putfield 32, 3) := by decide +kernel
theorem d_PatternParser_parse_9 : decode b_PatternParser_parse 9 = .ok (.aload_n 0, 1) := by decide +kernel
theorem d_PatternParser_parse_10 : decode b_PatternParser_parse 10 = .ok (.iconst 0, 1) := by decide +kernel
theorem d_PatternParser_parse_11 : decode b_PatternParser_parse 11 = .ok (.putfield 36, 3) := by decide +kernel
theorem d_PatternParser_parse_14 : decode b_PatternParser_parse 14 = .ok (.aload_n 0, 1) := by decide +kernel
theorem d_PatternParser_parse_15 : decode b_PatternParser_parse 15 = .ok (.iload_n 1, 1) := by decide +kernel
theorem d_PatternParser_parse_16 : decode b_PatternParser_parse 16 = .ok (.iconst 1, 1) := by decide +kernel
theorem d_PatternParser_parse_17 : decode b_PatternParser_parse 17 = .ok (.iadd, 1) := by decide +kernel
theorem d_PatternParser_parse_18 : decode b_PatternParser_parse 18 = .ok (.putfield 40, 3) := by decide +kernel
theorem d_PatternParser_parse_21 : decode b_PatternParser_parse 21 = .ok (.aload_n 0, 1) := by decide +kernel
theorem d_PatternParser_parse_22 : decode b_PatternParser_parse 22 = .ok (.iconst (-1), 1) := by decide +kernel
theorem d_PatternParser_parse_23 : decode b_PatternParser_parse 23 = .ok (.putfield 43, 3) := by decide +kernel
theorem d_PatternParser_parse_26 : decode b_PatternParser_parse 26 = .ok (.aload_n 0, 1) := by decide +kernel
theorem d_PatternParser_parse_27 : decode b_PatternParser_parse 27 = .ok (.iconst 0, 1) := by decide +kernel
theorem d_PatternParser_parse_28 : decode b_PatternParser_parse 28 = .ok (.putfield 46, 3) := by decide +kernel
theorem d_PatternParser_parse_31 : decode b_PatternParser_parse 31 = .ok (.aload_n 0, 1) := by decide +kernel
theorem d_PatternParser_parse_32 : decode b_PatternParser_parse 32 = .ok (.getfield 13, 3) := by decide +kernel
theorem d_PatternParser_parse_35 : decode b_PatternParser_parse 35 = .ok (.iconst 0, 1) := by decide +kernel
theorem d_PatternParser_parse_36 : decode b_PatternParser_parse 36 = .ok (.iconst 0, 1) := by decide +kernel
theorem d_PatternParser_parse_37 : decode b_PatternParser_parse 37 = .ok (.iastore, 1) := by decide +kernel
theorem d_PatternParser_parse_38 : decode b_PatternParser_parse 38 = .ok (.aload_n 0, 1) := by decide +kernel
theorem d_PatternParser_parse_39 : decode b_PatternParser_parse 39 = .ok (.getfield 17, 3) := by decide +kernel
theorem d_PatternParser_parse_42 : decode b_PatternParser_parse 42 = .ok (.iconst 0, 1) := by decide +kernel
theorem d_PatternParser_parse_43 : decode b_PatternParser_parse 43 = .ok (.ldc 49, 2) := by decide +kernel
theorem d_PatternParser_parse_45 : decode b_PatternParser_parse 45 = .ok (.iastore, 1) := by decide +kernel
theorem d_PatternParser_parse_46 : decode b_PatternParser_parse 46 = .ok (.iconst 0, 1) := by decide +kernel
theorem d_PatternParser_parse_47 : decode b_PatternParser_parse 47 = .ok (.istore_n 3, 1) := by decide +kernel
theorem d_PatternParser_parse_48 : decode b_PatternParser_parse 48 = .ok (.iload_n 3, 1) := by decide +kernel
theorem d_PatternParser_parse_49 : decode b_PatternParser_parse 49 = .ok (.bipush 40, 2) := by decide +kernel
theorem d_PatternParser_parse_51 : decode b_PatternParser_parse 51 = .ok (.if_icmp .gt 39, 3) := by decide +kernel
theorem d_PatternParser_parse_54 : decode b_PatternParser_parse 54 = .ok (.aload_n 0, 1) := by decide +kernel
theorem d_PatternParser_parse_55 : decode b_PatternParser_parse 55 = .ok (.getfield 32, 3) := by decide +kernel
theorem d_PatternParser_parse_58 : decode b_PatternParser_parse 58 = .ok (.ifCond .ne 32, 3) := by decide +kernel
theorem d_PatternParser_parse_61 : decode b_PatternParser_parse 61 = .ok (.aload_n 0, 1) := by decide +kernel
theorem d_PatternParser_parse_62 : decode b_PatternParser_parse 62 = .ok (.getfield 36, 3) := by decide +kernel
theorem d_PatternParser_parse_65 : decode b_PatternParser_parse 65 = .ok (.ifCond .ne 25, 3) := by decide +kernel
theorem d_PatternParser_parse_68 : decode b_PatternParser_parse 68 = .ok (.aload_n 0, 1) := by decide +kernel
theorem d_PatternParser_parse_69 : decode b_PatternParser_parse 69 = .ok (.aload_n 0, 1) := by decide +kernel
theorem d_PatternParser_parse_70 : decode b_PatternParser_parse 70 = .ok (.getfield 23, 3) := by decide +kernel
theorem d_PatternParser_parse_73 : decode b_PatternParser_parse 73 = .ok (.aload_n 0, 1) := by decide +kernel
theorem d_PatternParser_parse_74 : decode b_PatternParser_parse 74 = .ok (.getfield 40, 3) := by decide +kernel
theorem d_PatternParser_parse_77 : decode b_PatternParser_parse 77 = .ok (.invokevirtual 50, 3) := by decide +kernel
theorem d_PatternParser_parse_80 : decode b_PatternParser_parse 80 = .ok (.aload_n 2, 1) := by decide +kernel
theorem d_PatternParser_parse_81 : decode b_PatternParser_parse 81 = .ok (.invokevirtual 56, 3) := by decide +kernel
theorem d_PatternParser_parse_84 : decode b_PatternParser_parse 84 = .ok (.iinc 3 1, 3) := by decide +kernel
theorem d_PatternParser_parse_87 : decode b_PatternParser_parse 87 = .ok (.goto (-39), 3) := by decide +kernel
theorem d_PatternParser_parse_90 : decode b_PatternParser_parse 90 = .ok (.aload_n 0, 1) := by decide +kernel
theorem d_PatternParser_parse_91 : decode b_PatternParser_parse 91 = .ok (.getfield 36, 3) := by decide +kernel
theorem d_PatternParser_parse_94 : decode b_PatternParser_parse 94 = .ok (.ifCond .eq 19, 3) := by decide +kernel
theorem d_PatternParser_parse_97 : decode b_PatternParser_parse 97 = .ok (.aload_n 2, 1) := by decide +kernel
theorem d_PatternParser_parse_98 : decode b_PatternParser_parse 98 = .ok (.getfield 60, 3) := by decide +kernel
theorem d_PatternParser_parse_101 : decode b_PatternParser_parse 101 = .ok (.ifCond .eq 12, 3) := by decide +kernel
theorem d_PatternParser_parse_104 : decode b_PatternParser_parse 104 = .ok (.aload_n 0, 1) := by decide +kernel
theorem d_PatternParser_parse_105 : decode b_PatternParser_parse 105 = .ok (.iconst 3, 1) := by decide +kernel
theorem d_PatternParser_parse_106 : decode b_PatternParser_parse 106 = .ok (.iload_n 1, 1) := by decide +kernel
theorem d_PatternParser_parse_107 : decode b_PatternParser_parse 107 = .ok (.invokevirtual 65, 3) := by decide +kernel
theorem d_PatternParser_parse_110 : decode b_PatternParser_parse 110 = .ok (.goto 18, 3) := by decide +kernel
theorem d_PatternParser_parse_113 : decode b_PatternParser_parse 113 = .ok (.aload_n 0, 1) := by decide +kernel
theorem d_PatternParser_parse_114 : decode b_PatternParser_parse 114 = .ok (.getfield 36, 3) := by decide +kernel
theorem d_PatternParser_parse_117 : decode b_PatternParser_parse 117 = .ok (.ifCond .eq 11, 3) := by decide +kernel
theorem d_PatternParser_parse_120 : decode b_PatternParser_parse 120 = .ok (.aload_n 2, 1) := by decide +kernel
theorem d_PatternParser_parse_121 : decode b_PatternParser_parse 121 = .ok (.aload_n 0, 1) := by decide +kernel
theorem d_PatternParser_parse_122 : decode b_PatternParser_parse 122 = .ok (.getfield 43, 3) := by decide +kernel
theorem d_PatternParser_parse_125 : decode b_PatternParser_parse 125 = .ok (.invokevirtual 69, 3) := by decide +kernel
theorem d_PatternParser_parse_128 : decode b_PatternParser_parse 128 = .ok (.return_, 1) := by decide +kernel
theorem d_LawReader_pattern_0 : decode b_LawReader_pattern 0 = .ok (.aload_n 0, 1) := by decide +kernel
theorem d_LawReader_pattern_1 : decode b_LawReader_pattern 1 = .ok (.iconst 4, 1) := by decide +kernel
theorem d_LawReader_pattern_2 : decode b_LawReader_pattern 2 = .ok (.invokevirtual 94, 3) := by decide +kernel
theorem d_LawReader_pattern_5 : decode b_LawReader_pattern 5 = .ok (.ifCond .ne 4, 3) := by decide +kernel
theorem d_LawReader_pattern_8 : decode b_LawReader_pattern 8 = .ok (.return_, 1) := by decide +kernel
theorem d_LawReader_pattern_9 : decode b_LawReader_pattern 9 = .ok (.aload_n 0, 1) := by decide +kernel
theorem d_LawReader_pattern_10 : decode b_LawReader_pattern 10 = .ok (.getfield 27, 3) := by decide +kernel
theorem d_LawReader_pattern_13 : decode b_LawReader_pattern 13 = .ok (.aload_n 0, 1) := by decide +kernel
theorem d_LawReader_pattern_14 : decode b_LawReader_pattern 14 = .ok (.getfield 20, 3) := by decide +kernel
theorem d_LawReader_pattern_17 : decode b_LawReader_pattern 17 = .ok (.getfield 44, 3) := by decide +kernel
theorem d_LawReader_pattern_20 : decode b_LawReader_pattern 20 = .ok (.aload_n 1, 1) := by decide +kernel
theorem d_LawReader_pattern_21 : decode b_LawReader_pattern 21 = .ok (.invokevirtual 112, 3) := by decide +kernel
theorem d_LawReader_pattern_24 : decode b_LawReader_pattern 24 = .ok (.aload_n 0, 1) := by decide +kernel
theorem d_LawReader_pattern_25 : decode b_LawReader_pattern 25 = .ok (.getfield 27, 3) := by decide +kernel
theorem d_LawReader_pattern_28 : decode b_LawReader_pattern 28 = .ok (.getfield 116, 3) := by decide +kernel
theorem d_LawReader_pattern_31 : decode b_LawReader_pattern 31 = .ok (.ifCond .eq 21, 3) := by decide +kernel
theorem d_LawReader_pattern_34 : decode b_LawReader_pattern 34 = .ok (.aload_n 0, 1) := by decide +kernel
theorem d_LawReader_pattern_35 : decode b_LawReader_pattern 35 = .ok (.aload_n 0, 1) := by decide +kernel
theorem d_LawReader_pattern_36 : decode b_LawReader_pattern 36 = .ok (.getfield 27, 3) := by decide +kernel
theorem d_LawReader_pattern_39 : decode b_LawReader_pattern 39 = .ok (.getfield 116, 3) := by decide +kernel
theorem d_LawReader_pattern_42 : decode b_LawReader_pattern 42 = .ok (.aload_n 0, 1) := by decide +kernel
theorem d_LawReader_pattern_43 : decode b_LawReader_pattern 43 = .ok (.getfield 27, 3) := by decide +kernel
theorem d_LawReader_pattern_46 : decode b_LawReader_pattern 46 = .ok (.getfield 117, 3) := by decide +kernel
theorem d_LawReader_pattern_49 : decode b_LawReader_pattern 49 = .ok (.invokevirtual 47, 3) := by decide +kernel
theorem d_LawReader_pattern_52 : decode b_LawReader_pattern 52 = .ok (.return_, 1) := by decide +kernel
theorem d_Tokens_namedLetter_0 : decode b_Tokens_namedLetter 0 = .ok (.aload_n 0, 1) := by decide +kernel
theorem d_Tokens_namedLetter_1 : decode b_Tokens_namedLetter 1 = .ok (.getfield 9, 3) := by decide +kernel
theorem d_Tokens_namedLetter_4 : decode b_Tokens_namedLetter 4 = .ok (.aload_n 0, 1) := by decide +kernel
theorem d_Tokens_namedLetter_5 : decode b_Tokens_namedLetter 5 = .ok (.getfield 19, 3) := by decide +kernel
theorem d_Tokens_namedLetter_8 : decode b_Tokens_namedLetter 8 = .ok (.invokevirtual 31, 3) := by decide +kernel
theorem d_Tokens_namedLetter_11 : decode b_Tokens_namedLetter 11 = .ok (.istore_n 1, 1) := by decide +kernel
theorem d_Tokens_namedLetter_12 : decode b_Tokens_namedLetter 12 = .ok (.aload_n 0, 1) := by decide +kernel
theorem d_Tokens_namedLetter_13 : decode b_Tokens_namedLetter 13 = .ok (.getfield 38, 3) := by decide +kernel
theorem d_Tokens_namedLetter_16 : decode b_Tokens_namedLetter 16 = .ok (.iconst 2, 1) := by decide +kernel
theorem d_Tokens_namedLetter_17 : decode b_Tokens_namedLetter 17 = .ok (.if_icmp .ne 31, 3) := by decide +kernel
theorem d_Tokens_namedLetter_20 : decode b_Tokens_namedLetter 20 = .ok (.aload_n 0, 1) := by decide +kernel
theorem d_Tokens_namedLetter_21 : decode b_Tokens_namedLetter 21 = .ok (.getfield 15, 3) := by decide +kernel
theorem d_Tokens_namedLetter_24 : decode b_Tokens_namedLetter 24 = .ok (.aload_n 0, 1) := by decide +kernel
theorem d_Tokens_namedLetter_25 : decode b_Tokens_namedLetter 25 = .ok (.getfield 19, 3) := by decide +kernel
theorem d_Tokens_namedLetter_28 : decode b_Tokens_namedLetter 28 = .ok (.isub, 1) := by decide +kernel
theorem d_Tokens_namedLetter_29 : decode b_Tokens_namedLetter 29 = .ok (.iconst 1, 1) := by decide +kernel
theorem d_Tokens_namedLetter_30 : decode b_Tokens_namedLetter 30 = .ok (.if_icmp .ne 18, 3) := by decide +kernel
theorem d_Tokens_namedLetter_33 : decode b_Tokens_namedLetter 33 = .ok (.iload_n 1, 1) := by decide +kernel
theorem d_Tokens_namedLetter_34 : decode b_Tokens_namedLetter 34 = .ok (.bipush 104, 2) := by decide +kernel
theorem d_Tokens_namedLetter_36 : decode b_Tokens_namedLetter 36 = .ok (.if_icmp .gt 12, 3) := by decide +kernel
theorem d_Tokens_namedLetter_39 : decode b_Tokens_namedLetter 39 = .ok (.iload_n 1, 1) := by decide +kernel
theorem d_Tokens_namedLetter_40 : decode b_Tokens_namedLetter 40 = .ok (.bipush 97, 2) := by decide +kernel
theorem d_Tokens_namedLetter_42 : decode b_Tokens_namedLetter 42 = .ok (.isub, 1) := by decide +kernel
theorem d_Tokens_namedLetter_43 : decode b_Tokens_namedLetter 43 = .ok (.iconst 1, 1) := by decide +kernel
theorem d_Tokens_namedLetter_44 : decode b_Tokens_namedLetter 44 = .ok (.iadd, 1) := by decide +kernel
theorem d_Tokens_namedLetter_45 : decode b_Tokens_namedLetter 45 = .ok (.goto 4, 3) := by decide +kernel
theorem d_Tokens_namedLetter_48 : decode b_Tokens_namedLetter 48 = .ok (.iconst 0, 1) := by decide +kernel
theorem d_Tokens_namedLetter_49 : decode b_Tokens_namedLetter 49 = .ok (.ireturn, 1) := by decide +kernel
theorem d_LawReader_shiftLetter_0 : decode b_LawReader_shiftLetter 0 = .ok (.aload_n 0, 1) := by decide +kernel
theorem d_LawReader_shiftLetter_1 : decode b_LawReader_shiftLetter 1 = .ok (.iconst 2, 1) := by decide +kernel
theorem d_LawReader_shiftLetter_2 : decode b_LawReader_shiftLetter 2 = .ok (.invokevirtual 94, 3) := by decide +kernel
theorem d_LawReader_shiftLetter_5 : decode b_LawReader_shiftLetter 5 = .ok (.ifCond .ne 5, 3) := by decide +kernel
theorem d_LawReader_shiftLetter_8 : decode b_LawReader_shiftLetter 8 = .ok (.iconst 0, 1) := by decide +kernel
theorem d_LawReader_shiftLetter_9 : decode b_LawReader_shiftLetter 9 = .ok (.ireturn, 1) := by decide +kernel
theorem d_LawReader_shiftLetter_10 : decode b_LawReader_shiftLetter 10 = .ok (.aload_n 0, 1) := by decide +kernel
theorem d_LawReader_shiftLetter_11 : decode b_LawReader_shiftLetter 11 = .ok (.getfield 20, 3) := by decide +kernel
theorem d_LawReader_shiftLetter_14 : decode b_LawReader_shiftLetter 14 = .ok (.invokevirtual 109, 3) := by decide +kernel
theorem d_LawReader_shiftLetter_17 : decode b_LawReader_shiftLetter 17 = .ok (.istore_n 1, 1) := by decide +kernel
theorem d_LawReader_shiftLetter_18 : decode b_LawReader_shiftLetter 18 = .ok (.iload_n 1, 1) := by decide +kernel
theorem d_LawReader_shiftLetter_19 : decode b_LawReader_shiftLetter 19 = .ok (.ifCond .ne 15, 3) := by decide +kernel
theorem d_LawReader_shiftLetter_22 : decode b_LawReader_shiftLetter 22 = .ok (.aload_n 0, 1) := by decide +kernel
theorem d_LawReader_shiftLetter_23 : decode b_LawReader_shiftLetter 23 = .ok (.iconst 2, 1) := by decide +kernel
theorem d_LawReader_shiftLetter_24 : decode b_LawReader_shiftLetter 24 = .ok (.aload_n 0, 1) := by decide +kernel
theorem d_LawReader_shiftLetter_25 : decode b_LawReader_shiftLetter 25 = .ok (.getfield 20, 3) := by decide +kernel
theorem d_LawReader_shiftLetter_28 : decode b_LawReader_shiftLetter 28 = .ok (.getfield 44, 3) := by decide +kernel
theorem d_LawReader_shiftLetter_31 : decode b_LawReader_shiftLetter 31 = .ok (.invokevirtual 47, 3) := by decide +kernel
theorem d_LawReader_shiftLetter_34 : decode b_LawReader_shiftLetter 34 = .ok (.iload_n 1, 1) := by decide +kernel
theorem d_LawReader_shiftLetter_35 : decode b_LawReader_shiftLetter 35 = .ok (.ireturn, 1) := by decide +kernel
theorem d_Roster_setCell_0 : decode b_Roster_setCell 0 = .ok (.aload_n 0, 1) := by decide +kernel
theorem d_Roster_setCell_1 : decode b_Roster_setCell 1 = .ok (.iload_n 1, 1) := by decide +kernel
theorem d_Roster_setCell_2 : decode b_Roster_setCell 2 = .ok (.iload_n 2, 1) := by decide +kernel
theorem d_Roster_setCell_3 : decode b_Roster_setCell 3 = .ok (.invokevirtual 48, 3) := by decide +kernel
theorem d_Roster_setCell_6 : decode b_Roster_setCell 6 = .ok (.istore 4, 2) := by decide +kernel
theorem d_Roster_setCell_8 : decode b_Roster_setCell 8 = .ok (.aload_n 0, 1) := by decide +kernel
theorem d_Roster_setCell_9 : decode b_Roster_setCell 9 = .ok (.getfield 33, 3) := by decide +kernel
theorem d_Roster_setCell_12 : decode b_Roster_setCell 12 = .ok (.iload_n 1, 1) := by decide +kernel
theorem d_Roster_setCell_13 : decode b_Roster_setCell 13 = .ok (.aaload, 1) := by decide +kernel
theorem d_Roster_setCell_14 : decode b_Roster_setCell 14 = .ok (.bipush 7, 2) := by decide +kernel
theorem d_Roster_setCell_16 : decode b_Roster_setCell 16 = .ok (.iload_n 2, 1) := by decide +kernel
theorem d_Roster_setCell_17 : decode b_Roster_setCell 17 = .ok (.iadd, 1) := by decide +kernel
theorem d_Roster_setCell_18 : decode b_Roster_setCell 18 = .ok (.iload_n 3, 1) := by decide +kernel
theorem d_Roster_setCell_19 : decode b_Roster_setCell 19 = .ok (.iastore, 1) := by decide +kernel
theorem d_Roster_setCell_20 : decode b_Roster_setCell 20 = .ok (.aload_n 0, 1) := by decide +kernel
theorem d_Roster_setCell_21 : decode b_Roster_setCell 21 = .ok (.getfield 42, 3) := by decide +kernel
theorem d_Roster_setCell_24 : decode b_Roster_setCell 24 = .ok (.iload_n 1, 1) := by decide +kernel
theorem d_Roster_setCell_25 : decode b_Roster_setCell 25 = .ok (.aaload, 1) := by decide +kernel
theorem d_Roster_setCell_26 : decode b_Roster_setCell 26 = .ok (.iload 4, 2) := by decide +kernel
theorem d_Roster_setCell_28 : decode b_Roster_setCell 28 = .ok (.dup2, 1) := by decide +kernel
theorem d_Roster_setCell_29 : decode b_Roster_setCell 29 = .ok (.iaload, 1) := by decide +kernel
theorem d_Roster_setCell_30 : decode b_Roster_setCell 30 = .ok (.iconst 1, 1) := by decide +kernel
theorem d_Roster_setCell_31 : decode b_Roster_setCell 31 = .ok (.isub, 1) := by decide +kernel
theorem d_Roster_setCell_32 : decode b_Roster_setCell 32 = .ok (.iastore, 1) := by decide +kernel
theorem d_Roster_setCell_33 : decode b_Roster_setCell 33 = .ok (.aload_n 0, 1) := by decide +kernel
theorem d_Roster_setCell_34 : decode b_Roster_setCell 34 = .ok (.getfield 45, 3) := by decide +kernel
theorem d_Roster_setCell_37 : decode b_Roster_setCell 37 = .ok (.iload_n 2, 1) := by decide +kernel
theorem d_Roster_setCell_38 : decode b_Roster_setCell 38 = .ok (.aaload, 1) := by decide +kernel
theorem d_Roster_setCell_39 : decode b_Roster_setCell 39 = .ok (.iload 4, 2) := by decide +kernel
theorem d_Roster_setCell_41 : decode b_Roster_setCell 41 = .ok (.dup2, 1) := by decide +kernel
theorem d_Roster_setCell_42 : decode b_Roster_setCell 42 = .ok (.iaload, 1) := by decide +kernel
theorem d_Roster_setCell_43 : decode b_Roster_setCell 43 = .ok (.iconst 1, 1) := by decide +kernel
theorem d_Roster_setCell_44 : decode b_Roster_setCell 44 = .ok (.isub, 1) := by decide +kernel
theorem d_Roster_setCell_45 : decode b_Roster_setCell 45 = .ok (.iastore, 1) := by decide +kernel
theorem d_Roster_setCell_46 : decode b_Roster_setCell 46 = .ok (.aload_n 0, 1) := by decide +kernel
theorem d_Roster_setCell_47 : decode b_Roster_setCell 47 = .ok (.getfield 42, 3) := by decide +kernel
theorem d_Roster_setCell_50 : decode b_Roster_setCell 50 = .ok (.iload_n 1, 1) := by decide +kernel
theorem d_Roster_setCell_51 : decode b_Roster_setCell 51 = .ok (.aaload, 1) := by decide +kernel
theorem d_Roster_setCell_52 : decode b_Roster_setCell 52 = .ok (.iload_n 3, 1) := by decide +kernel
theorem d_Roster_setCell_53 : decode b_Roster_setCell 53 = .ok (.dup2, 1) := by decide +kernel
theorem d_Roster_setCell_54 : decode b_Roster_setCell 54 = .ok (.iaload, 1) := by decide +kernel
theorem d_Roster_setCell_55 : decode b_Roster_setCell 55 = .ok (.iconst 1, 1) := by decide +kernel
theorem d_Roster_setCell_56 : decode b_Roster_setCell 56 = .ok (.iadd, 1) := by decide +kernel
theorem d_Roster_setCell_57 : decode b_Roster_setCell 57 = .ok (.iastore, 1) := by decide +kernel
theorem d_Roster_setCell_58 : decode b_Roster_setCell 58 = .ok (.aload_n 0, 1) := by decide +kernel
theorem d_Roster_setCell_59 : decode b_Roster_setCell 59 = .ok (.getfield 45, 3) := by decide +kernel
theorem d_Roster_setCell_62 : decode b_Roster_setCell 62 = .ok (.iload_n 2, 1) := by decide +kernel
theorem d_Roster_setCell_63 : decode b_Roster_setCell 63 = .ok (.aaload, 1) := by decide +kernel
theorem d_Roster_setCell_64 : decode b_Roster_setCell 64 = .ok (.iload_n 3, 1) := by decide +kernel
theorem d_Roster_setCell_65 : decode b_Roster_setCell 65 = .ok (.dup2, 1) := by decide +kernel
theorem d_Roster_setCell_66 : decode b_Roster_setCell 66 = .ok (.iaload, 1) := by decide +kernel
theorem d_Roster_setCell_67 : decode b_Roster_setCell 67 = .ok (.iconst 1, 1) := by decide +kernel
theorem d_Roster_setCell_68 : decode b_Roster_setCell 68 = .ok (.iadd, 1) := by decide +kernel
theorem d_Roster_setCell_69 : decode b_Roster_setCell 69 = .ok (.iastore, 1) := by decide +kernel
theorem d_Roster_setCell_70 : decode b_Roster_setCell 70 = .ok (.aload_n 0, 1) := by decide +kernel
theorem d_Roster_setCell_71 : decode b_Roster_setCell 71 = .ok (.dup, 1) := by decide +kernel
theorem d_Roster_setCell_72 : decode b_Roster_setCell 72 = .ok (.getfield 52, 3) := by decide +kernel
theorem d_Roster_setCell_75 : decode b_Roster_setCell 75 = .ok (.iload_n 3, 1) := by decide +kernel
theorem d_Roster_setCell_76 : decode b_Roster_setCell 76 = .ok (.ifCond .ne 7, 3) := by decide +kernel
theorem d_Roster_setCell_79 : decode b_Roster_setCell 79 = .ok (.iconst 0, 1) := by decide +kernel
theorem d_Roster_setCell_80 : decode b_Roster_setCell 80 = .ok (.goto 4, 3) := by decide +kernel
theorem d_Roster_setCell_83 : decode b_Roster_setCell 83 = .ok (.iconst 1, 1) := by decide +kernel
theorem d_Roster_setCell_84 : decode b_Roster_setCell 84 = .ok (.iload 4, 2) := by decide +kernel
theorem d_Roster_setCell_86 : decode b_Roster_setCell 86 = .ok (.ifCond .ne 7, 3) := by decide +kernel
theorem d_Roster_setCell_89 : decode b_Roster_setCell 89 = .ok (.iconst 0, 1) := by decide +kernel
theorem d_Roster_setCell_90 : decode b_Roster_setCell 90 = .ok (.goto 4, 3) := by decide +kernel
theorem d_Roster_setCell_93 : decode b_Roster_setCell 93 = .ok (.iconst 1, 1) := by decide +kernel
theorem d_Roster_setCell_94 : decode b_Roster_setCell 94 = .ok (.isub, 1) := by decide +kernel
theorem d_Roster_setCell_95 : decode b_Roster_setCell 95 = .ok (.iadd, 1) := by decide +kernel
theorem d_Roster_setCell_96 : decode b_Roster_setCell 96 = .ok (.putfield 52, 3) := by decide +kernel
theorem d_Roster_setCell_99 : decode b_Roster_setCell 99 = .ok (.return_, 1) := by decide +kernel
theorem d_Roster_setWish_0 : decode b_Roster_setWish 0 = .ok (.aload_n 0, 1) := by decide +kernel
theorem d_Roster_setWish_1 : decode b_Roster_setWish 1 = .ok (.dup, 1) := by decide +kernel
theorem d_Roster_setWish_2 : decode b_Roster_setWish 2 = .ok (.getfield 55, 3) := by decide +kernel
theorem d_Roster_setWish_5 : decode b_Roster_setWish 5 = .ok (.iload 4, 2) := by decide +kernel
theorem d_Roster_setWish_7 : decode b_Roster_setWish 7 = .ok (.ifCond .ne 7, 3) := by decide +kernel
theorem d_Roster_setWish_10 : decode b_Roster_setWish 10 = .ok (.iconst 0, 1) := by decide +kernel
theorem d_Roster_setWish_11 : decode b_Roster_setWish 11 = .ok (.goto 4, 3) := by decide +kernel
theorem d_Roster_setWish_14 : decode b_Roster_setWish 14 = .ok (.iconst 1, 1) := by decide +kernel
theorem d_Roster_setWish_15 : decode b_Roster_setWish 15 = .ok (.aload_n 0, 1) := by decide +kernel
theorem d_Roster_setWish_16 : decode b_Roster_setWish 16 = .ok (.getfield 39, 3) := by decide +kernel
theorem d_Roster_setWish_19 : decode b_Roster_setWish 19 = .ok (.iload_n 1, 1) := by decide +kernel
theorem d_Roster_setWish_20 : decode b_Roster_setWish 20 = .ok (.aaload, 1) := by decide +kernel
theorem d_Roster_setWish_21 : decode b_Roster_setWish 21 = .ok (.iload_n 2, 1) := by decide +kernel
theorem d_Roster_setWish_22 : decode b_Roster_setWish 22 = .ok (.iaload, 1) := by decide +kernel
theorem d_Roster_setWish_23 : decode b_Roster_setWish 23 = .ok (.ifCond .ne 7, 3) := by decide +kernel
theorem d_Roster_setWish_26 : decode b_Roster_setWish 26 = .ok (.iconst 0, 1) := by decide +kernel
theorem d_Roster_setWish_27 : decode b_Roster_setWish 27 = .ok (.goto 4, 3) := by decide +kernel
theorem d_Roster_setWish_30 : decode b_Roster_setWish 30 = .ok (.iconst 1, 1) := by decide +kernel
theorem d_Roster_setWish_31 : decode b_Roster_setWish 31 = .ok (.isub, 1) := by decide +kernel
theorem d_Roster_setWish_32 : decode b_Roster_setWish 32 = .ok (.iadd, 1) := by decide +kernel
theorem d_Roster_setWish_33 : decode b_Roster_setWish 33 = .ok (.putfield 55, 3) := by decide +kernel
theorem d_Roster_setWish_36 : decode b_Roster_setWish 36 = .ok (.aload_n 0, 1) := by decide +kernel
theorem d_Roster_setWish_37 : decode b_Roster_setWish 37 = .ok (.getfield 36, 3) := by decide +kernel
theorem d_Roster_setWish_40 : decode b_Roster_setWish 40 = .ok (.iload_n 1, 1) := by decide +kernel
theorem d_Roster_setWish_41 : decode b_Roster_setWish 41 = .ok (.aaload, 1) := by decide +kernel
theorem d_Roster_setWish_42 : decode b_Roster_setWish 42 = .ok (.iload_n 2, 1) := by decide +kernel
theorem d_Roster_setWish_43 : decode b_Roster_setWish 43 = .ok (.iload_n 3, 1) := by decide +kernel
theorem d_Roster_setWish_44 : decode b_Roster_setWish 44 = .ok (.iastore, 1) := by decide +kernel
theorem d_Roster_setWish_45 : decode b_Roster_setWish 45 = .ok (.aload_n 0, 1) := by decide +kernel
theorem d_Roster_setWish_46 : decode b_Roster_setWish 46 = .ok (.getfield 39, 3) := by decide +kernel
theorem d_Roster_setWish_49 : decode b_Roster_setWish 49 = .ok (.iload_n 1, 1) := by decide +kernel
theorem d_Roster_setWish_50 : decode b_Roster_setWish 50 = .ok (.aaload, 1) := by decide +kernel
theorem d_Roster_setWish_51 : decode b_Roster_setWish 51 = .ok (.iload_n 2, 1) := by decide +kernel
theorem d_Roster_setWish_52 : decode b_Roster_setWish 52 = .ok (.iload 4, 2) := by decide +kernel
theorem d_Roster_setWish_54 : decode b_Roster_setWish 54 = .ok (.iastore, 1) := by decide +kernel
theorem d_Roster_setWish_55 : decode b_Roster_setWish 55 = .ok (.return_, 1) := by decide +kernel
theorem d_Roster_wishCost_0 : decode b_Roster_wishCost 0 = .ok (.aload_n 0, 1) := by decide +kernel
theorem d_Roster_wishCost_1 : decode b_Roster_wishCost 1 = .ok (.iload_n 1, 1) := by decide +kernel
theorem d_Roster_wishCost_2 : decode b_Roster_wishCost 2 = .ok (.iload_n 2, 1) := by decide +kernel
theorem d_Roster_wishCost_3 : decode b_Roster_wishCost 3 = .ok (.invokevirtual 48, 3) := by decide +kernel
theorem d_Roster_wishCost_6 : decode b_Roster_wishCost 6 = .ok (.aload_n 0, 1) := by decide +kernel
theorem d_Roster_wishCost_7 : decode b_Roster_wishCost 7 = .ok (.getfield 36, 3) := by decide +kernel
theorem d_Roster_wishCost_10 : decode b_Roster_wishCost 10 = .ok (.iload_n 1, 1) := by decide +kernel
theorem d_Roster_wishCost_11 : decode b_Roster_wishCost 11 = .ok (.aaload, 1) := by decide +kernel
theorem d_Roster_wishCost_12 : decode b_Roster_wishCost 12 = .ok (.iload_n 2, 1) := by decide +kernel
theorem d_Roster_wishCost_13 : decode b_Roster_wishCost 13 = .ok (.iaload, 1) := by decide +kernel
theorem d_Roster_wishCost_14 : decode b_Roster_wishCost 14 = .ok (.if_icmp .ne 7, 3) := by decide +kernel
theorem d_Roster_wishCost_17 : decode b_Roster_wishCost 17 = .ok (.lconst 0, 1) := by decide +kernel
theorem d_Roster_wishCost_18 : decode b_Roster_wishCost 18 = .ok (.goto 12, 3) := by decide +kernel
theorem d_Roster_wishCost_21 : decode b_Roster_wishCost 21 = .ok (.aload_n 0, 1) := by decide +kernel
theorem d_Roster_wishCost_22 : decode b_Roster_wishCost 22 = .ok (.getfield 39, 3) := by decide +kernel
theorem d_Roster_wishCost_25 : decode b_Roster_wishCost 25 = .ok (.iload_n 1, 1) := by decide +kernel
theorem d_Roster_wishCost_26 : decode b_Roster_wishCost 26 = .ok (.aaload, 1) := by decide +kernel
theorem d_Roster_wishCost_27 : decode b_Roster_wishCost 27 = .ok (.iload_n 2, 1) := by decide +kernel
theorem d_Roster_wishCost_28 : decode b_Roster_wishCost 28 = .ok (.iaload, 1) := by decide +kernel
theorem d_Roster_wishCost_29 : decode b_Roster_wishCost 29 = .ok (.i2l, 1) := by decide +kernel
theorem d_Roster_wishCost_30 : decode b_Roster_wishCost 30 = .ok (.lreturn, 1) := by decide +kernel
theorem d_Roster_allWishesCost_0 : decode b_Roster_allWishesCost 0 = .ok (.lconst 0, 1) := by decide +kernel
theorem d_Roster_allWishesCost_1 : decode b_Roster_allWishesCost 1 = .ok (.lstore_n 1, 1) := by decide +kernel
theorem d_Roster_allWishesCost_2 : decode b_Roster_allWishesCost 2 = .ok (.iconst 0, 1) := by decide +kernel
theorem d_Roster_allWishesCost_3 : decode b_Roster_allWishesCost 3 = .ok (.istore_n 3, 1) := by decide +kernel
theorem d_Roster_allWishesCost_4 : decode b_Roster_allWishesCost 4 = .ok (.iload_n 3, 1) := by decide +kernel
theorem d_Roster_allWishesCost_5 : decode b_Roster_allWishesCost 5 = .ok (.aload_n 0, 1) := by decide +kernel
theorem d_Roster_allWishesCost_6 : decode b_Roster_allWishesCost 6 = .ok (.getfield 21, 3) := by decide +kernel
theorem d_Roster_allWishesCost_9 : decode b_Roster_allWishesCost 9 = .ok (.if_icmp .ge 37, 3) := by decide +kernel
theorem d_Roster_allWishesCost_12 : decode b_Roster_allWishesCost 12 = .ok (.iconst 0, 1) := by decide +kernel
theorem d_Roster_allWishesCost_13 : decode b_Roster_allWishesCost 13 = .ok (.istore 4, 2) := by decide +kernel
theorem d_Roster_allWishesCost_15 : decode b_Roster_allWishesCost 15 = .ok (.iload 4, 2) := by decide +kernel
theorem d_Roster_allWishesCost_17 : decode b_Roster_allWishesCost 17 = .ok (.aload_n 0, 1) := by decide +kernel
theorem d_Roster_allWishesCost_18 : decode b_Roster_allWishesCost 18 = .ok (.getfield 25, 3) := by decide +kernel
theorem d_Roster_allWishesCost_21 : decode b_Roster_allWishesCost 21 = .ok (.if_icmp .ge 19, 3) := by decide +kernel
theorem d_Roster_allWishesCost_24 : decode b_Roster_allWishesCost 24 = .ok (.lload_n 1, 1) := by decide +kernel
theorem d_Roster_allWishesCost_25 : decode b_Roster_allWishesCost 25 = .ok (.aload_n 0, 1) := by decide +kernel
theorem d_Roster_allWishesCost_26 : decode b_Roster_allWishesCost 26 = .ok (.iload_n 3, 1) := by decide +kernel
theorem d_Roster_allWishesCost_27 : decode b_Roster_allWishesCost 27 = .ok (.iload 4, 2) := by decide +kernel
theorem d_Roster_allWishesCost_29 : decode b_Roster_allWishesCost 29 = .ok (.invokevirtual 58, 3) := by decide +kernel
theorem d_Roster_allWishesCost_32 : decode b_Roster_allWishesCost 32 = .ok (.ladd, 1) := by decide +kernel
theorem d_Roster_allWishesCost_33 : decode b_Roster_allWishesCost 33 = .ok (.lstore_n 1, 1) := by decide +kernel
theorem d_Roster_allWishesCost_34 : decode b_Roster_allWishesCost 34 = .ok (.iinc 4 1, 3) := by decide +kernel
theorem d_Roster_allWishesCost_37 : decode b_Roster_allWishesCost 37 = .ok (.goto (-22), 3) := by decide +kernel
theorem d_Roster_allWishesCost_40 : decode b_Roster_allWishesCost 40 = .ok (.iinc 3 1, 3) := by decide +kernel
theorem d_Roster_allWishesCost_43 : decode b_Roster_allWishesCost 43 = .ok (.goto (-39), 3) := by decide +kernel
theorem d_Roster_allWishesCost_46 : decode b_Roster_allWishesCost 46 = .ok (.lload_n 1, 1) := by decide +kernel
theorem d_Roster_allWishesCost_47 : decode b_Roster_allWishesCost 47 = .ok (.lreturn, 1) := by decide +kernel
theorem d_Tape_init_0 : decode b_Tape_init 0 = .ok (.aload_n 0, 1) := by decide +kernel
theorem d_Tape_init_1 : decode b_Tape_init 1 = .ok (.invokespecial 3, 3) := by decide +kernel
theorem d_Tape_init_4 : decode b_Tape_init 4 = .ok (.aload_n 0, 1) := by decide +kernel
theorem d_Tape_init_5 : decode b_Tape_init 5 = .ok (.sipush 1500, 3) := by decide +kernel
theorem d_Tape_init_8 : decode b_Tape_init 8 = .ok (.newarray .int, 2) := by decide +kernel
theorem d_Tape_init_10 : decode b_Tape_init 10 = .ok (.putfield 9, 3) := by decide +kernel
theorem d_Tape_init_13 : decode b_Tape_init 13 = .ok (.return_, 1) := by decide +kernel
theorem d_Tape_append_0 : decode b_Tape_append 0 = .ok (.iconst 0, 1) := by decide +kernel
theorem d_Tape_append_1 : decode b_Tape_append 1 = .ok (.istore 4, 2) := by decide +kernel
theorem d_Tape_append_3 : decode b_Tape_append 3 = .ok (.iload 4, 2) := by decide +kernel
theorem d_Tape_append_5 : decode b_Tape_append 5 = .ok (.iload_n 1, 1) := by decide +kernel
theorem d_Tape_append_6 : decode b_Tape_append 6 = .ok (.if_icmp .ge 50, 3) := by decide +kernel
theorem d_Tape_append_9 : decode b_Tape_append 9 = .ok (.aload_n 0, 1) := by decide +kernel
theorem d_Tape_append_10 : decode b_Tape_append 10 = .ok (.getfield 15, 3) := by decide +kernel
theorem d_Tape_append_13 : decode b_Tape_append 13 = .ok (.sipush 1500, 3) := by decide +kernel
theorem d_Tape_append_16 : decode b_Tape_append 16 = .ok (.if_icmp .ge 40, 3) := by decide +kernel
theorem d_Tape_append_19 : decode b_Tape_append 19 = .ok (.aload_n 0, 1) := by decide +kernel
theorem d_Tape_append_20 : decode b_Tape_append 20 = .ok (.getfield 9, 3) := by decide +kernel
theorem d_Tape_append_23 : decode b_Tape_append 23 = .ok (.aload_n 0, 1) := by decide +kernel
theorem d_Tape_append_24 : decode b_Tape_append 24 = .ok (.getfield 15, 3) := by decide +kernel
theorem d_Tape_append_27 : decode b_Tape_append 27 = .ok (.lload_n 2, 1) := by decide +kernel
theorem d_Tape_append_28 : decode b_Tape_append 28 = .ok (.bipush 8, 2) := by decide +kernel
theorem d_Tape_append_30 : decode b_Tape_append 30 = .ok (.iload 4, 2) := by decide +kernel
theorem d_Tape_append_32 : decode b_Tape_append 32 = .ok (.imul, 1) := by decide +kernel
theorem d_Tape_append_33 : decode b_Tape_append 33 = .ok (.lushr, 1) := by decide +kernel
theorem d_Tape_append_34 : decode b_Tape_append 34 = .ok (.l2i, 1) := by decide +kernel
theorem d_Tape_append_35 : decode b_Tape_append 35 = .ok (.sipush 255, 3) := by decide +kernel
theorem d_Tape_append_38 : decode b_Tape_append 38 = .ok (.iand, 1) := by decide +kernel
theorem d_Tape_append_39 : decode b_Tape_append 39 = .ok (.iastore, 1) := by decide +kernel
theorem d_Tape_append_40 : decode b_Tape_append 40 = .ok (.aload_n 0, 1) := by decide +kernel
theorem d_Tape_append_41 : decode b_Tape_append 41 = .ok (.dup, 1) := by decide +kernel
theorem d_Tape_append_42 : decode b_Tape_append 42 = .ok (.getfield 15, 3) := by decide +kernel
theorem d_Tape_append_45 : decode b_Tape_append 45 = .ok (.iconst 1, 1) := by decide +kernel
theorem d_Tape_append_46 : decode b_Tape_append 46 = .ok (.iadd, 1) := by decide +kernel
theorem d_Tape_append_47 : decode b_Tape_append 47 = .ok (.putfield 15, 3) := by decide +kernel
theorem d_Tape_append_50 : decode b_Tape_append 50 = .ok (.iinc 4 1, 3) := by decide +kernel
theorem d_Tape_append_53 : decode b_Tape_append 53 = .ok (.goto (-50), 3) := by decide +kernel
theorem d_Tape_append_56 : decode b_Tape_append 56 = .ok (.return_, 1) := by decide +kernel
theorem d_RR_feed_0 : decode b_RR_feed 0 = .ok (.iload_n 1, 1) := by decide +kernel
theorem d_RR_feed_1 : decode b_RR_feed 1 = .ok (.iconst 1, 1) := by decide +kernel
theorem d_RR_feed_2 : decode b_RR_feed 2 = .ok (.if_icmp .lt 9, 3) := by decide +kernel
theorem d_RR_feed_5 : decode b_RR_feed 5 = .ok (.iload_n 1, 1) := by decide +kernel
theorem d_RR_feed_6 : decode b_RR_feed 6 = .ok (.bipush 8, 2) := by decide +kernel
theorem d_RR_feed_8 : decode b_RR_feed 8 = .ok (.if_icmp .le 5, 3) := by decide +kernel
theorem d_RR_feed_11 : decode b_RR_feed 11 = .ok (.iconst (-1), 1) := by decide +kernel
theorem d_RR_feed_12 : decode b_RR_feed 12 = .ok (.ireturn, 1) := by decide +kernel
theorem d_RR_feed_13 : decode b_RR_feed 13 = .ok (.aload_n 0, 1) := by decide +kernel
theorem d_RR_feed_14 : decode b_RR_feed 14 = .ok (.getfield 10, 3) := by decide +kernel
theorem d_RR_feed_17 : decode b_RR_feed 17 = .ok (.getfield 80, 3) := by decide +kernel
theorem d_RR_feed_20 : decode b_RR_feed 20 = .ok (.iload_n 1, 1) := by decide +kernel
theorem d_RR_feed_21 : decode b_RR_feed 21 = .ok (.iadd, 1) := by decide +kernel
theorem d_RR_feed_22 : decode b_RR_feed 22 = .ok (.sipush 1500, 3) := by decide +kernel
theorem d_RR_feed_25 : decode b_RR_feed 25 = .ok (.if_icmp .le 6, 3) := by decide +kernel
theorem d_RR_feed_28 : decode b_RR_feed 28 = .ok (.bipush (-3), 2) := by decide +kernel
theorem d_RR_feed_30 : decode b_RR_feed 30 = .ok (.ireturn, 1) := by decide +kernel
theorem d_RR_feed_31 : decode b_RR_feed 31 = .ok (.aload_n 0, 1) := by decide +kernel
theorem d_RR_feed_32 : decode b_RR_feed 32 = .ok (.getfield 10, 3) := by decide +kernel
theorem d_RR_feed_35 : decode b_RR_feed 35 = .ok (.iload_n 1, 1) := by decide +kernel
theorem d_RR_feed_36 : decode b_RR_feed 36 = .ok (.lload_n 2, 1) := by decide +kernel
theorem d_RR_feed_37 : decode b_RR_feed 37 = .ok (.invokevirtual 83, 3) := by decide +kernel
theorem d_RR_feed_40 : decode b_RR_feed 40 = .ok (.aload_n 0, 1) := by decide +kernel
theorem d_RR_feed_41 : decode b_RR_feed 41 = .ok (.getfield 10, 3) := by decide +kernel
theorem d_RR_feed_44 : decode b_RR_feed 44 = .ok (.getfield 80, 3) := by decide +kernel
theorem d_RR_feed_47 : decode b_RR_feed 47 = .ok (.ireturn, 1) := by decide +kernel
theorem d_RR_place_0 : decode b_RR_place 0 = .ok (.aload_n 0, 1) := by decide +kernel
theorem d_RR_place_1 : decode b_RR_place 1 = .ok (.getfield 75, 3) := by decide +kernel
theorem d_RR_place_4 : decode b_RR_place 4 = .ok (.getfield 97, 3) := by decide +kernel
theorem d_RR_place_7 : decode b_RR_place 7 = .ok (.ireturn, 1) := by decide +kernel
theorem d_RR_isShift_0 : decode b_RR_isShift 0 = .ok (.iload_n 1, 1) := by decide +kernel
theorem d_RR_isShift_1 : decode b_RR_isShift 1 = .ok (.ifCond .lt 13, 3) := by decide +kernel
theorem d_RR_isShift_4 : decode b_RR_isShift 4 = .ok (.iload_n 1, 1) := by decide +kernel
theorem d_RR_isShift_5 : decode b_RR_isShift 5 = .ok (.bipush 8, 2) := by decide +kernel
theorem d_RR_isShift_7 : decode b_RR_isShift 7 = .ok (.if_icmp .ge 7, 3) := by decide +kernel
theorem d_RR_isShift_10 : decode b_RR_isShift 10 = .ok (.iconst 1, 1) := by decide +kernel
theorem d_RR_isShift_11 : decode b_RR_isShift 11 = .ok (.goto 4, 3) := by decide +kernel
theorem d_RR_isShift_14 : decode b_RR_isShift 14 = .ok (.iconst 0, 1) := by decide +kernel
theorem d_RR_isShift_15 : decode b_RR_isShift 15 = .ok (.ireturn, 1) := by decide +kernel
theorem d_RR_shift_0 : decode b_RR_shift 0 = .ok (.aload_n 0, 1) := by decide +kernel
theorem d_RR_shift_1 : decode b_RR_shift 1 = .ok (.iload_n 1, 1) := by decide +kernel
theorem d_RR_shift_2 : decode b_RR_shift 2 = .ok (.invokevirtual 100, 3) := by decide +kernel
theorem d_RR_shift_5 : decode b_RR_shift 5 = .ok (.ifCond .eq 38, 3) := by decide +kernel
theorem d_RR_shift_8 : decode b_RR_shift 8 = .ok (.iload_n 2, 1) := by decide +kernel
theorem d_RR_shift_9 : decode b_RR_shift 9 = .ok (.ifCond .lt 34, 3) := by decide +kernel
theorem d_RR_shift_12 : decode b_RR_shift 12 = .ok (.iload_n 2, 1) := by decide +kernel
theorem d_RR_shift_13 : decode b_RR_shift 13 = .ok (.sipush 1440, 3) := by decide +kernel
theorem d_RR_shift_16 : decode b_RR_shift 16 = .ok (.if_icmp .ge 27, 3) := by decide +kernel
theorem d_RR_shift_19 : decode b_RR_shift 19 = .ok (.iload_n 3, 1) := by decide +kernel
theorem d_RR_shift_20 : decode b_RR_shift 20 = .ok (.iconst 1, 1) := by decide +kernel
theorem d_RR_shift_21 : decode b_RR_shift 21 = .ok (.if_icmp .lt 22, 3) := by decide +kernel
theorem d_RR_shift_24 : decode b_RR_shift 24 = .ok (.iload_n 3, 1) := by decide +kernel
theorem d_RR_shift_25 : decode b_RR_shift 25 = .ok (.sipush 1440, 3) := by decide +kernel
theorem d_RR_shift_28 : decode b_RR_shift 28 = .ok (.if_icmp .gt 15, 3) := by decide +kernel
theorem d_RR_shift_31 : decode b_RR_shift 31 = .ok (.iload 4, 2) := by decide +kernel
theorem d_RR_shift_33 : decode b_RR_shift 33 = .ok (.ifCond .lt 10, 3) := by decide +kernel
theorem d_RR_shift_36 : decode b_RR_shift 36 = .ok (.iload 4, 2) := by decide +kernel
theorem d_RR_shift_38 : decode b_RR_shift 38 = .ok (.bipush 10, 2) := by decide +kernel
theorem d_RR_shift_40 : decode b_RR_shift 40 = .ok (.if_icmp .lt 5, 3) := by decide +kernel
theorem d_RR_shift_43 : decode b_RR_shift 43 = .ok (.iconst (-1), 1) := by decide +kernel
theorem d_RR_shift_44 : decode b_RR_shift 44 = .ok (.ireturn, 1) := by decide +kernel
theorem d_RR_shift_45 : decode b_RR_shift 45 = .ok (.aload_n 0, 1) := by decide +kernel
theorem d_RR_shift_46 : decode b_RR_shift 46 = .ok (.getfield 53, 3) := by decide +kernel
theorem d_RR_shift_49 : decode b_RR_shift 49 = .ok (.getfield 104, 3) := by decide +kernel
theorem d_RR_shift_52 : decode b_RR_shift 52 = .ok (.iload_n 1, 1) := by decide +kernel
theorem d_RR_shift_53 : decode b_RR_shift 53 = .ok (.iconst 1, 1) := by decide +kernel
theorem d_RR_shift_54 : decode b_RR_shift 54 = .ok (.iadd, 1) := by decide +kernel
theorem d_RR_shift_55 : decode b_RR_shift 55 = .ok (.iload_n 2, 1) := by decide +kernel
theorem d_RR_shift_56 : decode b_RR_shift 56 = .ok (.iastore, 1) := by decide +kernel
theorem d_RR_shift_57 : decode b_RR_shift 57 = .ok (.aload_n 0, 1) := by decide +kernel
theorem d_RR_shift_58 : decode b_RR_shift 58 = .ok (.getfield 53, 3) := by decide +kernel
theorem d_RR_shift_61 : decode b_RR_shift 61 = .ok (.getfield 108, 3) := by decide +kernel
theorem d_RR_shift_64 : decode b_RR_shift 64 = .ok (.iload_n 1, 1) := by decide +kernel
theorem d_RR_shift_65 : decode b_RR_shift 65 = .ok (.iconst 1, 1) := by decide +kernel
theorem d_RR_shift_66 : decode b_RR_shift 66 = .ok (.iadd, 1) := by decide +kernel
theorem d_RR_shift_67 : decode b_RR_shift 67 = .ok (.iload_n 3, 1) := by decide +kernel
theorem d_RR_shift_68 : decode b_RR_shift 68 = .ok (.iastore, 1) := by decide +kernel
theorem d_RR_shift_69 : decode b_RR_shift 69 = .ok (.aload_n 0, 1) := by decide +kernel
theorem d_RR_shift_70 : decode b_RR_shift 70 = .ok (.getfield 53, 3) := by decide +kernel
theorem d_RR_shift_73 : decode b_RR_shift 73 = .ok (.getfield 111, 3) := by decide +kernel
theorem d_RR_shift_76 : decode b_RR_shift 76 = .ok (.iload_n 1, 1) := by decide +kernel
theorem d_RR_shift_77 : decode b_RR_shift 77 = .ok (.iconst 1, 1) := by decide +kernel
theorem d_RR_shift_78 : decode b_RR_shift 78 = .ok (.iadd, 1) := by decide +kernel
theorem d_RR_shift_79 : decode b_RR_shift 79 = .ok (.iload 4, 2) := by decide +kernel
theorem d_RR_shift_81 : decode b_RR_shift 81 = .ok (.iastore, 1) := by decide +kernel
theorem d_RR_shift_82 : decode b_RR_shift 82 = .ok (.iconst 1, 1) := by decide +kernel
theorem d_RR_shift_83 : decode b_RR_shift 83 = .ok (.ireturn, 1) := by decide +kernel
theorem d_RR_isPerson_0 : decode b_RR_isPerson 0 = .ok (.iload_n 1, 1) := by decide +kernel
theorem d_RR_isPerson_1 : decode b_RR_isPerson 1 = .ok (.ifCond .lt 18, 3) := by decide +kernel
theorem d_RR_isPerson_4 : decode b_RR_isPerson 4 = .ok (.iload_n 1, 1) := by decide +kernel
theorem d_RR_isPerson_5 : decode b_RR_isPerson 5 = .ok (.aload_n 0, 1) := by decide +kernel
theorem d_RR_isPerson_6 : decode b_RR_isPerson 6 = .ok (.getfield 53, 3) := by decide +kernel
theorem d_RR_isPerson_9 : decode b_RR_isPerson 9 = .ok (.getfield 252, 3) := by decide +kernel
theorem d_RR_isPerson_12 : decode b_RR_isPerson 12 = .ok (.if_icmp .ge 7, 3) := by decide +kernel
theorem d_RR_isPerson_15 : decode b_RR_isPerson 15 = .ok (.iconst 1, 1) := by decide +kernel
theorem d_RR_isPerson_16 : decode b_RR_isPerson 16 = .ok (.goto 4, 3) := by decide +kernel
theorem d_RR_isPerson_19 : decode b_RR_isPerson 19 = .ok (.iconst 0, 1) := by decide +kernel
theorem d_RR_isPerson_20 : decode b_RR_isPerson 20 = .ok (.ireturn, 1) := by decide +kernel
theorem d_RR_person_0 : decode b_RR_person 0 = .ok (.aload_n 0, 1) := by decide +kernel
theorem d_RR_person_1 : decode b_RR_person 1 = .ok (.iload_n 1, 1) := by decide +kernel
theorem d_RR_person_2 : decode b_RR_person 2 = .ok (.invokevirtual 114, 3) := by decide +kernel
theorem d_RR_person_5 : decode b_RR_person 5 = .ok (.ifCond .eq 14, 3) := by decide +kernel
theorem d_RR_person_8 : decode b_RR_person 8 = .ok (.iload_n 2, 1) := by decide +kernel
theorem d_RR_person_9 : decode b_RR_person 9 = .ok (.ifCond .lt 10, 3) := by decide +kernel
theorem d_RR_person_12 : decode b_RR_person 12 = .ok (.iload_n 2, 1) := by decide +kernel
theorem d_RR_person_13 : decode b_RR_person 13 = .ok (.sipush 1024, 3) := by decide +kernel
theorem d_RR_person_16 : decode b_RR_person 16 = .ok (.if_icmp .lt 5, 3) := by decide +kernel
theorem d_RR_person_19 : decode b_RR_person 19 = .ok (.iconst (-1), 1) := by decide +kernel
theorem d_RR_person_20 : decode b_RR_person 20 = .ok (.ireturn, 1) := by decide +kernel
theorem d_RR_person_21 : decode b_RR_person 21 = .ok (.aload_n 0, 1) := by decide +kernel
theorem d_RR_person_22 : decode b_RR_person 22 = .ok (.getfield 53, 3) := by decide +kernel
theorem d_RR_person_25 : decode b_RR_person 25 = .ok (.getfield 117, 3) := by decide +kernel
theorem d_RR_person_28 : decode b_RR_person 28 = .ok (.iload_n 1, 1) := by decide +kernel
theorem d_RR_person_29 : decode b_RR_person 29 = .ok (.iload_n 2, 1) := by decide +kernel
theorem d_RR_person_30 : decode b_RR_person 30 = .ok (.iastore, 1) := by decide +kernel
theorem d_RR_person_31 : decode b_RR_person 31 = .ok (.iconst 1, 1) := by decide +kernel
theorem d_RR_person_32 : decode b_RR_person 32 = .ok (.ireturn, 1) := by decide +kernel
theorem d_RR_isShiftOrOff_0 : decode b_RR_isShiftOrOff 0 = .ok (.iload_n 1, 1) := by decide +kernel
theorem d_RR_isShiftOrOff_1 : decode b_RR_isShiftOrOff 1 = .ok (.iconst (-1), 1) := by decide +kernel
theorem d_RR_isShiftOrOff_2 : decode b_RR_isShiftOrOff 2 = .ok (.if_icmp .eq 11, 3) := by decide +kernel
theorem d_RR_isShiftOrOff_5 : decode b_RR_isShiftOrOff 5 = .ok (.aload_n 0, 1) := by decide +kernel
theorem d_RR_isShiftOrOff_6 : decode b_RR_isShiftOrOff 6 = .ok (.iload_n 1, 1) := by decide +kernel
theorem d_RR_isShiftOrOff_7 : decode b_RR_isShiftOrOff 7 = .ok (.invokevirtual 100, 3) := by decide +kernel
theorem d_RR_isShiftOrOff_10 : decode b_RR_isShiftOrOff 10 = .ok (.ifCond .eq 7, 3) := by decide +kernel
theorem d_RR_isShiftOrOff_13 : decode b_RR_isShiftOrOff 13 = .ok (.iconst 1, 1) := by decide +kernel
theorem d_RR_isShiftOrOff_14 : decode b_RR_isShiftOrOff 14 = .ok (.goto 4, 3) := by decide +kernel
theorem d_RR_isShiftOrOff_17 : decode b_RR_isShiftOrOff 17 = .ok (.iconst 0, 1) := by decide +kernel
theorem d_RR_isShiftOrOff_18 : decode b_RR_isShiftOrOff 18 = .ok (.ireturn, 1) := by decide +kernel
theorem d_RR_past_0 : decode b_RR_past 0 = .ok (.aload_n 0, 1) := by decide +kernel
theorem d_RR_past_1 : decode b_RR_past 1 = .ok (.iload_n 1, 1) := by decide +kernel
theorem d_RR_past_2 : decode b_RR_past 2 = .ok (.invokevirtual 114, 3) := by decide +kernel
theorem d_RR_past_5 : decode b_RR_past 5 = .ok (.ifCond .eq 22, 3) := by decide +kernel
theorem d_RR_past_8 : decode b_RR_past 8 = .ok (.iload_n 2, 1) := by decide +kernel
theorem d_RR_past_9 : decode b_RR_past 9 = .ok (.iconst 1, 1) := by decide +kernel
theorem d_RR_past_10 : decode b_RR_past 10 = .ok (.if_icmp .lt 17, 3) := by decide +kernel
theorem d_RR_past_13 : decode b_RR_past 13 = .ok (.iload_n 2, 1) := by decide +kernel
theorem d_RR_past_14 : decode b_RR_past 14 = .ok (.bipush 7, 2) := by decide +kernel
theorem d_RR_past_16 : decode b_RR_past 16 = .ok (.if_icmp .gt 11, 3) := by decide +kernel
theorem d_RR_past_19 : decode b_RR_past 19 = .ok (.aload_n 0, 1) := by decide +kernel
theorem d_RR_past_20 : decode b_RR_past 20 = .ok (.iload_n 3, 1) := by decide +kernel
theorem d_RR_past_21 : decode b_RR_past 21 = .ok (.invokevirtual 120, 3) := by decide +kernel
theorem d_RR_past_24 : decode b_RR_past 24 = .ok (.ifCond .ne 6, 3) := by decide +kernel
theorem d_RR_past_27 : decode b_RR_past 27 = .ok (.bipush (-9), 2) := by decide +kernel
theorem d_RR_past_29 : decode b_RR_past 29 = .ok (.ireturn, 1) := by decide +kernel
theorem d_RR_past_30 : decode b_RR_past 30 = .ok (.aload_n 0, 1) := by decide +kernel
theorem d_RR_past_31 : decode b_RR_past 31 = .ok (.getfield 53, 3) := by decide +kernel
theorem d_RR_past_34 : decode b_RR_past 34 = .ok (.getfield 123, 3) := by decide +kernel
theorem d_RR_past_37 : decode b_RR_past 37 = .ok (.iload_n 1, 1) := by decide +kernel
theorem d_RR_past_38 : decode b_RR_past 38 = .ok (.aaload, 1) := by decide +kernel
theorem d_RR_past_39 : decode b_RR_past 39 = .ok (.bipush 7, 2) := by decide +kernel
theorem d_RR_past_41 : decode b_RR_past 41 = .ok (.iload_n 2, 1) := by decide +kernel
theorem d_RR_past_42 : decode b_RR_past 42 = .ok (.isub, 1) := by decide +kernel
theorem d_RR_past_43 : decode b_RR_past 43 = .ok (.iaload, 1) := by decide +kernel
theorem d_RR_past_44 : decode b_RR_past 44 = .ok (.istore 4, 2) := by decide +kernel
theorem d_RR_past_46 : decode b_RR_past 46 = .ok (.aload_n 0, 1) := by decide +kernel
theorem d_RR_past_47 : decode b_RR_past 47 = .ok (.getfield 53, 3) := by decide +kernel
theorem d_RR_past_50 : decode b_RR_past 50 = .ok (.getfield 123, 3) := by decide +kernel
theorem d_RR_past_53 : decode b_RR_past 53 = .ok (.iload_n 1, 1) := by decide +kernel
theorem d_RR_past_54 : decode b_RR_past 54 = .ok (.aaload, 1) := by decide +kernel
theorem d_RR_past_55 : decode b_RR_past 55 = .ok (.bipush 7, 2) := by decide +kernel
theorem d_RR_past_57 : decode b_RR_past 57 = .ok (.iload_n 2, 1) := by decide +kernel
theorem d_RR_past_58 : decode b_RR_past 58 = .ok (.isub, 1) := by decide +kernel
theorem d_RR_past_59 : decode b_RR_past 59 = .ok (.iload_n 3, 1) := by decide +kernel
theorem d_RR_past_60 : decode b_RR_past 60 = .ok (.iconst 1, 1) := by decide +kernel
theorem d_RR_past_61 : decode b_RR_past 61 = .ok (.iadd, 1) := by decide +kernel
theorem d_RR_past_62 : decode b_RR_past 62 = .ok (.iastore, 1) := by decide +kernel
theorem d_RR_past_63 : decode b_RR_past 63 = .ok (.iload 4, 2) := by decide +kernel
theorem d_RR_past_65 : decode b_RR_past 65 = .ok (.iconst 1, 1) := by decide +kernel
theorem d_RR_past_66 : decode b_RR_past 66 = .ok (.isub, 1) := by decide +kernel
theorem d_RR_past_67 : decode b_RR_past 67 = .ok (.ireturn, 1) := by decide +kernel
theorem d_RR_isDay_0 : decode b_RR_isDay 0 = .ok (.iload_n 1, 1) := by decide +kernel
theorem d_RR_isDay_1 : decode b_RR_isDay 1 = .ok (.ifCond .lt 18, 3) := by decide +kernel
theorem d_RR_isDay_4 : decode b_RR_isDay 4 = .ok (.iload_n 1, 1) := by decide +kernel
theorem d_RR_isDay_5 : decode b_RR_isDay 5 = .ok (.aload_n 0, 1) := by decide +kernel
theorem d_RR_isDay_6 : decode b_RR_isDay 6 = .ok (.getfield 53, 3) := by decide +kernel
theorem d_RR_isDay_9 : decode b_RR_isDay 9 = .ok (.getfield 68, 3) := by decide +kernel
theorem d_RR_isDay_12 : decode b_RR_isDay 12 = .ok (.if_icmp .ge 7, 3) := by decide +kernel
theorem d_RR_isDay_15 : decode b_RR_isDay 15 = .ok (.iconst 1, 1) := by decide +kernel
theorem d_RR_isDay_16 : decode b_RR_isDay 16 = .ok (.goto 4, 3) := by decide +kernel
theorem d_RR_isDay_19 : decode b_RR_isDay 19 = .ok (.iconst 0, 1) := by decide +kernel
theorem d_RR_isDay_20 : decode b_RR_isDay 20 = .ok (.ireturn, 1) := by decide +kernel
theorem d_RR_isCell_0 : decode b_RR_isCell 0 = .ok (.aload_n 0, 1) := by decide +kernel
theorem d_RR_isCell_1 : decode b_RR_isCell 1 = .ok (.iload_n 1, 1) := by decide +kernel
theorem d_RR_isCell_2 : decode b_RR_isCell 2 = .ok (.invokevirtual 114, 3) := by decide +kernel
theorem d_RR_isCell_5 : decode b_RR_isCell 5 = .ok (.ifCond .eq 15, 3) := by decide +kernel
theorem d_RR_isCell_8 : decode b_RR_isCell 8 = .ok (.aload_n 0, 1) := by decide +kernel
theorem d_RR_isCell_9 : decode b_RR_isCell 9 = .ok (.iload_n 2, 1) := by decide +kernel
theorem d_RR_isCell_10 : decode b_RR_isCell 10 = .ok (.invokevirtual 187, 3) := by decide +kernel
theorem d_RR_isCell_13 : decode b_RR_isCell 13 = .ok (.ifCond .eq 7, 3) := by decide +kernel
theorem d_RR_isCell_16 : decode b_RR_isCell 16 = .ok (.iconst 1, 1) := by decide +kernel
theorem d_RR_isCell_17 : decode b_RR_isCell 17 = .ok (.goto 4, 3) := by decide +kernel
theorem d_RR_isCell_20 : decode b_RR_isCell 20 = .ok (.iconst 0, 1) := by decide +kernel
