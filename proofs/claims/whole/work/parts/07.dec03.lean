theorem d_PatternParser_refuse_2 : decode b_PatternParser_refuse 2 = .ok (.putfield 32, 3) := by decide +kernel
theorem d_PatternParser_refuse_5 : decode b_PatternParser_refuse 5 = .ok (.aload_n 0, 1) := by decide +kernel
theorem d_PatternParser_refuse_6 : decode b_PatternParser_refuse 6 = .ok (.iload_n 2, 1) := by decide +kernel
theorem d_PatternParser_refuse_7 : decode b_PatternParser_refuse 7 = .ok (.putfield 73, 3) := by decide +kernel
theorem d_PatternParser_refuse_10 : decode b_PatternParser_refuse 10 = .ok (.return_, 1) := by decide +kernel
theorem d_PatternParser_choice_0 : decode b_PatternParser_choice 0 = .ok (.aload_n 0, 1) := by decide +kernel
theorem d_PatternParser_choice_1 : decode b_PatternParser_choice 1 = .ok (.dup, 1) := by decide +kernel
theorem d_PatternParser_choice_2 : decode b_PatternParser_choice 2 = .ok (.getfield 40, 3) := by decide +kernel
theorem d_PatternParser_choice_5 : decode b_PatternParser_choice 5 = .ok (.iconst 1, 1) := by decide +kernel
theorem d_PatternParser_choice_6 : decode b_PatternParser_choice 6 = .ok (.iadd, 1) := by decide +kernel
theorem d_PatternParser_choice_7 : decode b_PatternParser_choice 7 = .ok (.putfield 40, 3) := by decide +kernel
theorem d_PatternParser_choice_10 : decode b_PatternParser_choice 10 = .ok (.aload_n 0, 1) := by decide +kernel
theorem d_PatternParser_choice_11 : decode b_PatternParser_choice 11 = .ok (.getfield 23, 3) := by decide +kernel
theorem d_PatternParser_choice_14 : decode b_PatternParser_choice 14 = .ok (.aload_n 0, 1) := by decide +kernel
theorem d_PatternParser_choice_15 : decode b_PatternParser_choice 15 = .ok (.getfield 40, 3) := by decide +kernel
theorem d_PatternParser_choice_18 : decode b_PatternParser_choice 18 = .ok (.invokevirtual 50, 3) := by decide +kernel
theorem d_PatternParser_choice_21 : decode b_PatternParser_choice 21 = .ok (.bipush 94, 2) := by decide +kernel
theorem d_PatternParser_choice_23 : decode b_PatternParser_choice 23 = .ok (.if_icmp .ne 7, 3) := by decide +kernel
theorem d_PatternParser_choice_26 : decode b_PatternParser_choice 26 = .ok (.iconst 1, 1) := by decide +kernel
theorem d_PatternParser_choice_27 : decode b_PatternParser_choice 27 = .ok (.goto 4, 3) := by decide +kernel
theorem d_PatternParser_choice_30 : decode b_PatternParser_choice 30 = .ok (.iconst 0, 1) := by decide +kernel
theorem d_PatternParser_choice_31 : decode b_PatternParser_choice 31 = .ok (.istore_n 1, 1) := by decide +kernel
theorem d_PatternParser_choice_32 : decode b_PatternParser_choice 32 = .ok (.iload_n 1, 1) := by decide +kernel
theorem d_PatternParser_choice_33 : decode b_PatternParser_choice 33 = .ok (.ifCond .eq 13, 3) := by decide +kernel
theorem d_PatternParser_choice_36 : decode b_PatternParser_choice 36 = .ok (.aload_n 0, 1) := by decide +kernel
theorem d_PatternParser_choice_37 : decode b_PatternParser_choice 37 = .ok (.dup, 1) := by decide +kernel
theorem d_PatternParser_choice_38 : decode b_PatternParser_choice 38 = .ok (.getfield 40, 3) := by decide +kernel
theorem d_PatternParser_choice_41 : decode b_PatternParser_choice 41 = .ok (.iconst 1, 1) := by decide +kernel
theorem d_PatternParser_choice_42 : decode b_PatternParser_choice 42 = .ok (.iadd, 1) := by decide +kernel
theorem d_PatternParser_choice_43 : decode b_PatternParser_choice 43 = .ok (.putfield 40, 3) := by decide +kernel
theorem d_PatternParser_choice_46 : decode b_PatternParser_choice 46 = .ok (.iconst 0, 1) := by decide +kernel
theorem d_PatternParser_choice_47 : decode b_PatternParser_choice 47 = .ok (.istore_n 2, 1) := by decide +kernel
theorem d_PatternParser_choice_48 : decode b_PatternParser_choice 48 = .ok (.iconst 0, 1) := by decide +kernel
theorem d_PatternParser_choice_49 : decode b_PatternParser_choice 49 = .ok (.istore_n 3, 1) := by decide +kernel
theorem d_PatternParser_choice_50 : decode b_PatternParser_choice 50 = .ok (.iload_n 3, 1) := by decide +kernel
theorem d_PatternParser_choice_51 : decode b_PatternParser_choice 51 = .ok (.bipush 40, 2) := by decide +kernel
theorem d_PatternParser_choice_53 : decode b_PatternParser_choice 53 = .ok (.if_icmp .ge 55, 3) := by decide +kernel
theorem d_PatternParser_choice_56 : decode b_PatternParser_choice 56 = .ok (.aload_n 0, 1) := by decide +kernel
theorem d_PatternParser_choice_57 : decode b_PatternParser_choice 57 = .ok (.aload_n 0, 1) := by decide +kernel
theorem d_PatternParser_choice_58 : decode b_PatternParser_choice 58 = .ok (.getfield 23, 3) := by decide +kernel
theorem d_PatternParser_choice_61 : decode b_PatternParser_choice 61 = .ok (.aload_n 0, 1) := by decide +kernel
theorem d_PatternParser_choice_62 : decode b_PatternParser_choice 62 = .ok (.getfield 40, 3) := by decide +kernel
theorem d_PatternParser_choice_65 : decode b_PatternParser_choice 65 = .ok (.invokevirtual 50, 3) := by decide +kernel
theorem d_PatternParser_choice_68 : decode b_PatternParser_choice 68 = .ok (.invokevirtual 80, 3) := by decide +kernel
theorem d_PatternParser_choice_71 : decode b_PatternParser_choice 71 = .ok (.ifCond .eq 37, 3) := by decide +kernel
theorem d_PatternParser_choice_74 : decode b_PatternParser_choice 74 = .ok (.iload_n 2, 1) := by decide +kernel
theorem d_PatternParser_choice_75 : decode b_PatternParser_choice 75 = .ok (.aload_n 0, 1) := by decide +kernel
theorem d_PatternParser_choice_76 : decode b_PatternParser_choice 76 = .ok (.aload_n 0, 1) := by decide +kernel
theorem d_PatternParser_choice_77 : decode b_PatternParser_choice 77 = .ok (.getfield 23, 3) := by decide +kernel
theorem d_PatternParser_choice_80 : decode b_PatternParser_choice 80 = .ok (.aload_n 0, 1) := by decide +kernel
theorem d_PatternParser_choice_81 : decode b_PatternParser_choice 81 = .ok (.getfield 40, 3) := by decide +kernel
theorem d_PatternParser_choice_84 : decode b_PatternParser_choice 84 = .ok (.invokevirtual 50, 3) := by decide +kernel
theorem d_PatternParser_choice_87 : decode b_PatternParser_choice 87 = .ok (.invokevirtual 80, 3) := by decide +kernel
theorem d_PatternParser_choice_90 : decode b_PatternParser_choice 90 = .ok (.ior, 1) := by decide +kernel
theorem d_PatternParser_choice_91 : decode b_PatternParser_choice 91 = .ok (.istore_n 2, 1) := by decide +kernel
theorem d_PatternParser_choice_92 : decode b_PatternParser_choice 92 = .ok (.aload_n 0, 1) := by decide +kernel
theorem d_PatternParser_choice_93 : decode b_PatternParser_choice 93 = .ok (.dup, 1) := by decide +kernel
theorem d_PatternParser_choice_94 : decode b_PatternParser_choice 94 = .ok (.getfield 40, 3) := by decide +kernel
theorem d_PatternParser_choice_97 : decode b_PatternParser_choice 97 = .ok (.iconst 1, 1) := by decide +kernel
theorem d_PatternParser_choice_98 : decode b_PatternParser_choice 98 = .ok (.iadd, 1) := by decide +kernel
theorem d_PatternParser_choice_99 : decode b_PatternParser_choice 99 = .ok (.putfield 40, 3) := by decide +kernel
theorem d_PatternParser_choice_102 : decode b_PatternParser_choice 102 = .ok (.iinc 3 1, 3) := by decide +kernel
theorem d_PatternParser_choice_105 : decode b_PatternParser_choice 105 = .ok (.goto (-55), 3) := by decide +kernel
theorem d_PatternParser_choice_108 : decode b_PatternParser_choice 108 = .ok (.iload_n 2, 1) := by decide +kernel
theorem d_PatternParser_choice_109 : decode b_PatternParser_choice 109 = .ok (.ifCond .eq 30, 3) := by decide +kernel
theorem d_PatternParser_choice_112 : decode b_PatternParser_choice 112 = .ok (.aload_n 0, 1) := by decide +kernel
theorem d_PatternParser_choice_113 : decode b_PatternParser_choice 113 = .ok (.getfield 23, 3) := by decide +kernel
theorem d_PatternParser_choice_116 : decode b_PatternParser_choice 116 = .ok (.aload_n 0, 1) := by decide +kernel
theorem d_PatternParser_choice_117 : decode b_PatternParser_choice 117 = .ok (.getfield 40, 3) := by decide +kernel
theorem d_PatternParser_choice_120 : decode b_PatternParser_choice 120 = .ok (.invokevirtual 50, 3) := by decide +kernel
theorem d_PatternParser_choice_123 : decode b_PatternParser_choice 123 = .ok (.bipush 93, 2) := by decide +kernel
theorem d_PatternParser_choice_125 : decode b_PatternParser_choice 125 = .ok (.if_icmp .ne 14, 3) := by decide +kernel
theorem d_PatternParser_choice_128 : decode b_PatternParser_choice 128 = .ok (.iload_n 1, 1) := by decide +kernel
theorem d_PatternParser_choice_129 : decode b_PatternParser_choice 129 = .ok (.ifCond .eq 19, 3) := by decide +kernel
theorem d_PatternParser_choice_132 : decode b_PatternParser_choice 132 = .ok (.iload_n 2, 1) := by decide +kernel
theorem d_PatternParser_choice_133 : decode b_PatternParser_choice 133 = .ok (.sipush 511, 3) := by decide +kernel
theorem d_PatternParser_choice_136 : decode b_PatternParser_choice 136 = .ok (.if_icmp .ne 12, 3) := by decide +kernel
theorem d_PatternParser_choice_139 : decode b_PatternParser_choice 139 = .ok (.aload_n 0, 1) := by decide +kernel
theorem d_PatternParser_choice_140 : decode b_PatternParser_choice 140 = .ok (.iconst 2, 1) := by decide +kernel
theorem d_PatternParser_choice_141 : decode b_PatternParser_choice 141 = .ok (.aload_n 0, 1) := by decide +kernel
theorem d_PatternParser_choice_142 : decode b_PatternParser_choice 142 = .ok (.getfield 40, 3) := by decide +kernel
theorem d_PatternParser_choice_145 : decode b_PatternParser_choice 145 = .ok (.invokevirtual 65, 3) := by decide +kernel
theorem d_PatternParser_choice_148 : decode b_PatternParser_choice 148 = .ok (.iload_n 1, 1) := by decide +kernel
theorem d_PatternParser_choice_149 : decode b_PatternParser_choice 149 = .ok (.ifCond .eq 13, 3) := by decide +kernel
theorem d_PatternParser_choice_152 : decode b_PatternParser_choice 152 = .ok (.sipush 511, 3) := by decide +kernel
theorem d_PatternParser_choice_155 : decode b_PatternParser_choice 155 = .ok (.iload_n 2, 1) := by decide +kernel
theorem d_PatternParser_choice_156 : decode b_PatternParser_choice 156 = .ok (.iconst (-1), 1) := by decide +kernel
theorem d_PatternParser_choice_157 : decode b_PatternParser_choice 157 = .ok (.ixor, 1) := by decide +kernel
theorem d_PatternParser_choice_158 : decode b_PatternParser_choice 158 = .ok (.iand, 1) := by decide +kernel
theorem d_PatternParser_choice_159 : decode b_PatternParser_choice 159 = .ok (.goto 4, 3) := by decide +kernel
theorem d_PatternParser_choice_162 : decode b_PatternParser_choice 162 = .ok (.iload_n 2, 1) := by decide +kernel
theorem d_PatternParser_choice_163 : decode b_PatternParser_choice 163 = .ok (.ireturn, 1) := by decide +kernel
theorem d_Positions_chain_0 : decode b_Positions_chain 0 = .ok (.iconst 0, 1) := by decide +kernel
theorem d_Positions_chain_1 : decode b_Positions_chain 1 = .ok (.istore_n 3, 1) := by decide +kernel
theorem d_Positions_chain_2 : decode b_Positions_chain 2 = .ok (.iload_n 3, 1) := by decide +kernel
theorem d_Positions_chain_3 : decode b_Positions_chain 3 = .ok (.aload_n 0, 1) := by decide +kernel
theorem d_Positions_chain_4 : decode b_Positions_chain 4 = .ok (.getfield 24, 3) := by decide +kernel
theorem d_Positions_chain_7 : decode b_Positions_chain 7 = .ok (.if_icmp .ge 34, 3) := by decide +kernel
theorem d_Positions_chain_10 : decode b_Positions_chain 10 = .ok (.iload_n 1, 1) := by decide +kernel
theorem d_Positions_chain_11 : decode b_Positions_chain 11 = .ok (.bipush 10, 2) := by decide +kernel
theorem d_Positions_chain_13 : decode b_Positions_chain 13 = .ok (.iload_n 3, 1) := by decide +kernel
theorem d_Positions_chain_14 : decode b_Positions_chain 14 = .ok (.iadd, 1) := by decide +kernel
theorem d_Positions_chain_15 : decode b_Positions_chain 15 = .ok (.ishr, 1) := by decide +kernel
theorem d_Positions_chain_16 : decode b_Positions_chain 16 = .ok (.iconst 1, 1) := by decide +kernel
theorem d_Positions_chain_17 : decode b_Positions_chain 17 = .ok (.iand, 1) := by decide +kernel
theorem d_Positions_chain_18 : decode b_Positions_chain 18 = .ok (.ifCond .eq 17, 3) := by decide +kernel
theorem d_Positions_chain_21 : decode b_Positions_chain 21 = .ok (.aload_n 0, 1) := by decide +kernel
theorem d_Positions_chain_22 : decode b_Positions_chain 22 = .ok (.getfield 15, 3) := by decide +kernel
theorem d_Positions_chain_25 : decode b_Positions_chain 25 = .ok (.iload_n 3, 1) := by decide +kernel
theorem d_Positions_chain_26 : decode b_Positions_chain 26 = .ok (.dup2, 1) := by decide +kernel
theorem d_Positions_chain_27 : decode b_Positions_chain 27 = .ok (.iaload, 1) := by decide +kernel
theorem d_Positions_chain_28 : decode b_Positions_chain 28 = .ok (.iload_n 2, 1) := by decide +kernel
theorem d_Positions_chain_29 : decode b_Positions_chain 29 = .ok (.sipush 1023, 3) := by decide +kernel
theorem d_Positions_chain_32 : decode b_Positions_chain 32 = .ok (.iand, 1) := by decide +kernel
theorem d_Positions_chain_33 : decode b_Positions_chain 33 = .ok (.ior, 1) := by decide +kernel
theorem d_Positions_chain_34 : decode b_Positions_chain 34 = .ok (.iastore, 1) := by decide +kernel
theorem d_Positions_chain_35 : decode b_Positions_chain 35 = .ok (.iinc 3 1, 3) := by decide +kernel
theorem d_Positions_chain_38 : decode b_Positions_chain 38 = .ok (.goto (-36), 3) := by decide +kernel
theorem d_Positions_chain_41 : decode b_Positions_chain 41 = .ok (.iload_n 1, 1) := by decide +kernel
theorem d_Positions_chain_42 : decode b_Positions_chain 42 = .ok (.sipush 1023, 3) := by decide +kernel
theorem d_Positions_chain_45 : decode b_Positions_chain 45 = .ok (.iand, 1) := by decide +kernel
theorem d_Positions_chain_46 : decode b_Positions_chain 46 = .ok (.iload_n 1, 1) := by decide +kernel
theorem d_Positions_chain_47 : decode b_Positions_chain 47 = .ok (.ldc 32, 2) := by decide +kernel
theorem d_Positions_chain_49 : decode b_Positions_chain 49 = .ok (.iand, 1) := by decide +kernel
theorem d_Positions_chain_50 : decode b_Positions_chain 50 = .ok (.ifCond .eq 11, 3) := by decide +kernel
theorem d_Positions_chain_53 : decode b_Positions_chain 53 = .ok (.iload_n 2, 1) := by decide +kernel
theorem d_Positions_chain_54 : decode b_Positions_chain 54 = .ok (.sipush 1023, 3) := by decide +kernel
theorem d_Positions_chain_57 : decode b_Positions_chain 57 = .ok (.iand, 1) := by decide +kernel
theorem d_Positions_chain_58 : decode b_Positions_chain 58 = .ok (.goto 4, 3) := by decide +kernel
theorem d_Positions_chain_61 : decode b_Positions_chain 61 = .ok (.iconst 0, 1) := by decide +kernel
theorem d_Positions_chain_62 : decode b_Positions_chain 62 = .ok (.ior, 1) := by decide +kernel
theorem d_Positions_chain_63 : decode b_Positions_chain 63 = .ok (.istore_n 3, 1) := by decide +kernel
theorem d_Positions_chain_64 : decode b_Positions_chain 64 = .ok (.iload_n 2, 1) := by decide +kernel
theorem d_Positions_chain_65 : decode b_Positions_chain 65 = .ok (.ldc 33, 2) := by decide +kernel
theorem d_Positions_chain_67 : decode b_Positions_chain 67 = .ok (.iand, 1) := by decide +kernel
theorem d_Positions_chain_68 : decode b_Positions_chain 68 = .ok (.iload_n 2, 1) := by decide +kernel
theorem d_Positions_chain_69 : decode b_Positions_chain 69 = .ok (.ldc 32, 2) := by decide +kernel
theorem d_Positions_chain_71 : decode b_Positions_chain 71 = .ok (.iand, 1) := by decide +kernel
theorem d_Positions_chain_72 : decode b_Positions_chain 72 = .ok (.ifCond .eq 10, 3) := by decide +kernel
theorem d_Positions_chain_75 : decode b_Positions_chain 75 = .ok (.iload_n 1, 1) := by decide +kernel
theorem d_Positions_chain_76 : decode b_Positions_chain 76 = .ok (.ldc 33, 2) := by decide +kernel
theorem d_Positions_chain_78 : decode b_Positions_chain 78 = .ok (.iand, 1) := by decide +kernel
theorem d_Positions_chain_79 : decode b_Positions_chain 79 = .ok (.goto 4, 3) := by decide +kernel
theorem d_Positions_chain_82 : decode b_Positions_chain 82 = .ok (.iconst 0, 1) := by decide +kernel
theorem d_Positions_chain_83 : decode b_Positions_chain 83 = .ok (.ior, 1) := by decide +kernel
theorem d_Positions_chain_84 : decode b_Positions_chain 84 = .ok (.istore 4, 2) := by decide +kernel
theorem d_Positions_chain_86 : decode b_Positions_chain 86 = .ok (.iload_n 3, 1) := by decide +kernel
theorem d_Positions_chain_87 : decode b_Positions_chain 87 = .ok (.iload 4, 2) := by decide +kernel
theorem d_Positions_chain_89 : decode b_Positions_chain 89 = .ok (.ior, 1) := by decide +kernel
theorem d_Positions_chain_90 : decode b_Positions_chain 90 = .ok (.iload_n 1, 1) := by decide +kernel
theorem d_Positions_chain_91 : decode b_Positions_chain 91 = .ok (.iload_n 2, 1) := by decide +kernel
theorem d_Positions_chain_92 : decode b_Positions_chain 92 = .ok (.iand, 1) := by decide +kernel
theorem d_Positions_chain_93 : decode b_Positions_chain 93 = .ok (.ldc 32, 2) := by decide +kernel
theorem d_Positions_chain_95 : decode b_Positions_chain 95 = .ok (.iand, 1) := by decide +kernel
theorem d_Positions_chain_96 : decode b_Positions_chain 96 = .ok (.ior, 1) := by decide +kernel
theorem d_Positions_chain_97 : decode b_Positions_chain 97 = .ok (.ireturn, 1) := by decide +kernel
theorem d_Positions_add_0 : decode b_Positions_add 0 = .ok (.aload_n 0, 1) := by decide +kernel
theorem d_Positions_add_1 : decode b_Positions_add 1 = .ok (.getfield 24, 3) := by decide +kernel
theorem d_Positions_add_4 : decode b_Positions_add 4 = .ok (.bipush 10, 2) := by decide +kernel
theorem d_Positions_add_6 : decode b_Positions_add 6 = .ok (.if_icmp .lt 11, 3) := by decide +kernel
theorem d_Positions_add_9 : decode b_Positions_add 9 = .ok (.aload_n 0, 1) := by decide +kernel
theorem d_Positions_add_10 : decode b_Positions_add 10 = .ok (.iconst 1, 1) := by decide +kernel
theorem d_Positions_add_11 : decode b_Positions_add 11 = .ok (.putfield 28, 3) := by decide +kernel
theorem d_Positions_add_14 : decode b_Positions_add 14 = .ok (.ldc 32, 2) := by decide +kernel
theorem d_Positions_add_16 : decode b_Positions_add 16 = .ok (.ireturn, 1) := by decide +kernel
theorem d_Positions_add_17 : decode b_Positions_add 17 = .ok (.iconst 1, 1) := by decide +kernel
theorem d_Positions_add_18 : decode b_Positions_add 18 = .ok (.aload_n 0, 1) := by decide +kernel
theorem d_Positions_add_19 : decode b_Positions_add 19 = .ok (.getfield 24, 3) := by decide +kernel
theorem d_Positions_add_22 : decode b_Positions_add 22 = .ok (.ishl, 1) := by decide +kernel
theorem d_Positions_add_23 : decode b_Positions_add 23 = .ok (.istore_n 2, 1) := by decide +kernel
theorem d_Positions_add_24 : decode b_Positions_add 24 = .ok (.aload_n 0, 1) := by decide +kernel
theorem d_Positions_add_25 : decode b_Positions_add 25 = .ok (.dup, 1) := by decide +kernel
theorem d_Positions_add_26 : decode b_Positions_add 26 = .ok (.getfield 24, 3) := by decide +kernel
theorem d_Positions_add_29 : decode b_Positions_add 29 = .ok (.iconst 1, 1) := by decide +kernel
theorem d_Positions_add_30 : decode b_Positions_add 30 = .ok (.iadd, 1) := by decide +kernel
theorem d_Positions_add_31 : decode b_Positions_add 31 = .ok (.putfield 24, 3) := by decide +kernel
theorem d_Positions_add_34 : decode b_Positions_add 34 = .ok (.iconst 0, 1) := by decide +kernel
theorem d_Positions_add_35 : decode b_Positions_add 35 = .ok (.istore_n 3, 1) := by decide +kernel
theorem d_Positions_add_36 : decode b_Positions_add 36 = .ok (.iload_n 3, 1) := by decide +kernel
theorem d_Positions_add_37 : decode b_Positions_add 37 = .ok (.bipush 9, 2) := by decide +kernel
theorem d_Positions_add_39 : decode b_Positions_add 39 = .ok (.if_icmp .ge 27, 3) := by decide +kernel
theorem d_Positions_add_42 : decode b_Positions_add 42 = .ok (.iload_n 1, 1) := by decide +kernel
theorem d_Positions_add_43 : decode b_Positions_add 43 = .ok (.iload_n 3, 1) := by decide +kernel
theorem d_Positions_add_44 : decode b_Positions_add 44 = .ok (.ishr, 1) := by decide +kernel
theorem d_Positions_add_45 : decode b_Positions_add 45 = .ok (.iconst 1, 1) := by decide +kernel
theorem d_Positions_add_46 : decode b_Positions_add 46 = .ok (.iand, 1) := by decide +kernel
theorem d_Positions_add_47 : decode b_Positions_add 47 = .ok (.ifCond .eq 13, 3) := by decide +kernel
theorem d_Positions_add_50 : decode b_Positions_add 50 = .ok (.aload_n 0, 1) := by decide +kernel
theorem d_Positions_add_51 : decode b_Positions_add 51 = .ok (.getfield 11, 3) := by decide +kernel
theorem d_Positions_add_54 : decode b_Positions_add 54 = .ok (.iload_n 3, 1) := by decide +kernel
theorem d_Positions_add_55 : decode b_Positions_add 55 = .ok (.dup2, 1) := by decide +kernel
theorem d_Positions_add_56 : decode b_Positions_add 56 = .ok (.iaload, 1) := by decide +kernel
theorem d_Positions_add_57 : decode b_Positions_add 57 = .ok (.iload_n 2, 1) := by decide +kernel
theorem d_Positions_add_58 : decode b_Positions_add 58 = .ok (.ior, 1) := by decide +kernel
theorem d_Positions_add_59 : decode b_Positions_add 59 = .ok (.iastore, 1) := by decide +kernel
theorem d_Positions_add_60 : decode b_Positions_add 60 = .ok (.iinc 3 1, 3) := by decide +kernel
theorem d_Positions_add_63 : decode b_Positions_add 63 = .ok (.goto (-27), 3) := by decide +kernel
theorem d_Positions_add_66 : decode b_Positions_add 66 = .ok (.iload_n 2, 1) := by decide +kernel
theorem d_Positions_add_67 : decode b_Positions_add 67 = .ok (.iload_n 2, 1) := by decide +kernel
theorem d_Positions_add_68 : decode b_Positions_add 68 = .ok (.bipush 10, 2) := by decide +kernel
theorem d_Positions_add_70 : decode b_Positions_add 70 = .ok (.ishl, 1) := by decide +kernel
theorem d_Positions_add_71 : decode b_Positions_add 71 = .ok (.ior, 1) := by decide +kernel
theorem d_Positions_add_72 : decode b_Positions_add 72 = .ok (.ireturn, 1) := by decide +kernel
theorem d_PatternParser_addAtom_0 : decode b_PatternParser_addAtom 0 = .ok (.aload_n 0, 1) := by decide +kernel
theorem d_PatternParser_addAtom_1 : decode b_PatternParser_addAtom 1 = .ok (.getfield 43, 3) := by decide +kernel
theorem d_PatternParser_addAtom_4 : decode b_PatternParser_addAtom 4 = .ok (.iconst (-1), 1) := by decide +kernel
theorem d_PatternParser_addAtom_5 : decode b_PatternParser_addAtom 5 = .ok (.if_icmp .eq 29, 3) := by decide +kernel
theorem d_PatternParser_addAtom_8 : decode b_PatternParser_addAtom 8 = .ok (.aload_n 0, 1) := by decide +kernel
theorem d_PatternParser_addAtom_9 : decode b_PatternParser_addAtom 9 = .ok (.getfield 17, 3) := by decide +kernel
theorem d_PatternParser_addAtom_12 : decode b_PatternParser_addAtom 12 = .ok (.aload_n 0, 1) := by decide +kernel
theorem d_PatternParser_addAtom_13 : decode b_PatternParser_addAtom 13 = .ok (.getfield 46, 3) := by decide +kernel
theorem d_PatternParser_addAtom_16 : decode b_PatternParser_addAtom 16 = .ok (.aload_n 2, 1) := by decide +kernel
theorem d_PatternParser_addAtom_17 : decode b_PatternParser_addAtom 17 = .ok (.aload_n 0, 1) := by decide +kernel
theorem d_PatternParser_addAtom_18 : decode b_PatternParser_addAtom 18 = .ok (.getfield 17, 3) := by decide +kernel
theorem d_PatternParser_addAtom_21 : decode b_PatternParser_addAtom 21 = .ok (.aload_n 0, 1) := by decide +kernel
theorem d_PatternParser_addAtom_22 : decode b_PatternParser_addAtom 22 = .ok (.getfield 46, 3) := by decide +kernel
theorem d_PatternParser_addAtom_25 : decode b_PatternParser_addAtom 25 = .ok (.iaload, 1) := by decide +kernel
theorem d_PatternParser_addAtom_26 : decode b_PatternParser_addAtom 26 = .ok (.aload_n 0, 1) := by decide +kernel
theorem d_PatternParser_addAtom_27 : decode b_PatternParser_addAtom 27 = .ok (.getfield 43, 3) := by decide +kernel
theorem d_PatternParser_addAtom_30 : decode b_PatternParser_addAtom 30 = .ok (.invokevirtual 105, 3) := by decide +kernel
theorem d_PatternParser_addAtom_33 : decode b_PatternParser_addAtom 33 = .ok (.iastore, 1) := by decide +kernel
theorem d_PatternParser_addAtom_34 : decode b_PatternParser_addAtom 34 = .ok (.aload_n 0, 1) := by decide +kernel
theorem d_PatternParser_addAtom_35 : decode b_PatternParser_addAtom 35 = .ok (.aload_n 2, 1) := by decide +kernel
theorem d_PatternParser_addAtom_36 : decode b_PatternParser_addAtom 36 = .ok (.getfield 109, 3) := by decide +kernel
theorem d_PatternParser_addAtom_39 : decode b_PatternParser_addAtom 39 = .ok (.putfield 112, 3) := by decide +kernel
theorem d_PatternParser_addAtom_42 : decode b_PatternParser_addAtom 42 = .ok (.aload_n 0, 1) := by decide +kernel
theorem d_PatternParser_addAtom_43 : decode b_PatternParser_addAtom 43 = .ok (.aload_n 2, 1) := by decide +kernel
theorem d_PatternParser_addAtom_44 : decode b_PatternParser_addAtom 44 = .ok (.iload_n 1, 1) := by decide +kernel
theorem d_PatternParser_addAtom_45 : decode b_PatternParser_addAtom 45 = .ok (.invokevirtual 115, 3) := by decide +kernel
theorem d_PatternParser_addAtom_48 : decode b_PatternParser_addAtom 48 = .ok (.putfield 43, 3) := by decide +kernel
theorem d_PatternParser_addAtom_51 : decode b_PatternParser_addAtom 51 = .ok (.aload_n 0, 1) := by decide +kernel
theorem d_PatternParser_addAtom_52 : decode b_PatternParser_addAtom 52 = .ok (.iconst 1, 1) := by decide +kernel
theorem d_PatternParser_addAtom_53 : decode b_PatternParser_addAtom 53 = .ok (.putfield 93, 3) := by decide +kernel
theorem d_PatternParser_addAtom_56 : decode b_PatternParser_addAtom 56 = .ok (.return_, 1) := by decide +kernel
theorem d_PatternParser_openGroup_0 : decode b_PatternParser_openGroup 0 = .ok (.aload_n 0, 1) := by decide +kernel
theorem d_PatternParser_openGroup_1 : decode b_PatternParser_openGroup 1 = .ok (.getfield 43, 3) := by decide +kernel
theorem d_PatternParser_openGroup_4 : decode b_PatternParser_openGroup 4 = .ok (.iconst (-1), 1) := by decide +kernel
theorem d_PatternParser_openGroup_5 : decode b_PatternParser_openGroup 5 = .ok (.if_icmp .eq 29, 3) := by decide +kernel
theorem d_PatternParser_openGroup_8 : decode b_PatternParser_openGroup 8 = .ok (.aload_n 0, 1) := by decide +kernel
theorem d_PatternParser_openGroup_9 : decode b_PatternParser_openGroup 9 = .ok (.getfield 17, 3) := by decide +kernel
theorem d_PatternParser_openGroup_12 : decode b_PatternParser_openGroup 12 = .ok (.aload_n 0, 1) := by decide +kernel
theorem d_PatternParser_openGroup_13 : decode b_PatternParser_openGroup 13 = .ok (.getfield 46, 3) := by decide +kernel
theorem d_PatternParser_openGroup_16 : decode b_PatternParser_openGroup 16 = .ok (.aload_n 1, 1) := by decide +kernel
theorem d_PatternParser_openGroup_17 : decode b_PatternParser_openGroup 17 = .ok (.aload_n 0, 1) := by decide +kernel
theorem d_PatternParser_openGroup_18 : decode b_PatternParser_openGroup 18 = .ok (.getfield 17, 3) := by decide +kernel
theorem d_PatternParser_openGroup_21 : decode b_PatternParser_openGroup 21 = .ok (.aload_n 0, 1) := by decide +kernel
theorem d_PatternParser_openGroup_22 : decode b_PatternParser_openGroup 22 = .ok (.getfield 46, 3) := by decide +kernel
theorem d_PatternParser_openGroup_25 : decode b_PatternParser_openGroup 25 = .ok (.iaload, 1) := by decide +kernel
theorem d_PatternParser_openGroup_26 : decode b_PatternParser_openGroup 26 = .ok (.aload_n 0, 1) := by decide +kernel
theorem d_PatternParser_openGroup_27 : decode b_PatternParser_openGroup 27 = .ok (.getfield 43, 3) := by decide +kernel
theorem d_PatternParser_openGroup_30 : decode b_PatternParser_openGroup 30 = .ok (.invokevirtual 105, 3) := by decide +kernel
theorem d_PatternParser_openGroup_33 : decode b_PatternParser_openGroup 33 = .ok (.iastore, 1) := by decide +kernel
theorem d_PatternParser_openGroup_34 : decode b_PatternParser_openGroup 34 = .ok (.aload_n 0, 1) := by decide +kernel
theorem d_PatternParser_openGroup_35 : decode b_PatternParser_openGroup 35 = .ok (.dup, 1) := by decide +kernel
theorem d_PatternParser_openGroup_36 : decode b_PatternParser_openGroup 36 = .ok (.getfield 46, 3) := by decide +kernel
theorem d_PatternParser_openGroup_39 : decode b_PatternParser_openGroup 39 = .ok (.iconst 1, 1) := by decide +kernel
theorem d_PatternParser_openGroup_40 : decode b_PatternParser_openGroup 40 = .ok (.iadd, 1) := by decide +kernel
theorem d_PatternParser_openGroup_41 : decode b_PatternParser_openGroup 41 = .ok (.putfield 46, 3) := by decide +kernel
theorem d_PatternParser_openGroup_44 : decode b_PatternParser_openGroup 44 = .ok (.aload_n 0, 1) := by decide +kernel
theorem d_PatternParser_openGroup_45 : decode b_PatternParser_openGroup 45 = .ok (.getfield 13, 3) := by decide +kernel
theorem d_PatternParser_openGroup_48 : decode b_PatternParser_openGroup 48 = .ok (.aload_n 0, 1) := by decide +kernel
theorem d_PatternParser_openGroup_49 : decode b_PatternParser_openGroup 49 = .ok (.getfield 46, 3) := by decide +kernel
theorem d_PatternParser_openGroup_52 : decode b_PatternParser_openGroup 52 = .ok (.iconst 0, 1) := by decide +kernel
theorem d_PatternParser_openGroup_53 : decode b_PatternParser_openGroup 53 = .ok (.iastore, 1) := by decide +kernel
theorem d_PatternParser_openGroup_54 : decode b_PatternParser_openGroup 54 = .ok (.aload_n 0, 1) := by decide +kernel
theorem d_PatternParser_openGroup_55 : decode b_PatternParser_openGroup 55 = .ok (.getfield 17, 3) := by decide +kernel
theorem d_PatternParser_openGroup_58 : decode b_PatternParser_openGroup 58 = .ok (.aload_n 0, 1) := by decide +kernel
theorem d_PatternParser_openGroup_59 : decode b_PatternParser_openGroup 59 = .ok (.getfield 46, 3) := by decide +kernel
theorem d_PatternParser_openGroup_62 : decode b_PatternParser_openGroup 62 = .ok (.ldc 49, 2) := by decide +kernel
theorem d_PatternParser_openGroup_64 : decode b_PatternParser_openGroup 64 = .ok (.iastore, 1) := by decide +kernel
theorem d_PatternParser_openGroup_65 : decode b_PatternParser_openGroup 65 = .ok (.aload_n 0, 1) := by decide +kernel
theorem d_PatternParser_openGroup_66 : decode b_PatternParser_openGroup 66 = .ok (.getfield 20, 3) := by decide +kernel
theorem d_PatternParser_openGroup_69 : decode b_PatternParser_openGroup 69 = .ok (.aload_n 0, 1) := by decide +kernel
theorem d_PatternParser_openGroup_70 : decode b_PatternParser_openGroup 70 = .ok (.getfield 46, 3) := by decide +kernel
theorem d_PatternParser_openGroup_73 : decode b_PatternParser_openGroup 73 = .ok (.aload_n 1, 1) := by decide +kernel
theorem d_PatternParser_openGroup_74 : decode b_PatternParser_openGroup 74 = .ok (.getfield 109, 3) := by decide +kernel
theorem d_PatternParser_openGroup_77 : decode b_PatternParser_openGroup 77 = .ok (.iastore, 1) := by decide +kernel
theorem d_PatternParser_openGroup_78 : decode b_PatternParser_openGroup 78 = .ok (.aload_n 0, 1) := by decide +kernel
theorem d_PatternParser_openGroup_79 : decode b_PatternParser_openGroup 79 = .ok (.iconst (-1), 1) := by decide +kernel
theorem d_PatternParser_openGroup_80 : decode b_PatternParser_openGroup 80 = .ok (.putfield 43, 3) := by decide +kernel
theorem d_PatternParser_openGroup_83 : decode b_PatternParser_openGroup 83 = .ok (.return_, 1) := by decide +kernel
theorem d_PatternParser_endRow_0 : decode b_PatternParser_endRow 0 = .ok (.aload_n 0, 1) := by decide +kernel
theorem d_PatternParser_endRow_1 : decode b_PatternParser_endRow 1 = .ok (.getfield 13, 3) := by decide +kernel
theorem d_PatternParser_endRow_4 : decode b_PatternParser_endRow 4 = .ok (.aload_n 0, 1) := by decide +kernel
theorem d_PatternParser_endRow_5 : decode b_PatternParser_endRow 5 = .ok (.getfield 46, 3) := by decide +kernel
theorem d_PatternParser_endRow_8 : decode b_PatternParser_endRow 8 = .ok (.iaload, 1) := by decide +kernel
theorem d_PatternParser_endRow_9 : decode b_PatternParser_endRow 9 = .ok (.aload_n 2, 1) := by decide +kernel
theorem d_PatternParser_endRow_10 : decode b_PatternParser_endRow 10 = .ok (.aload_n 0, 1) := by decide +kernel
theorem d_PatternParser_endRow_11 : decode b_PatternParser_endRow 11 = .ok (.getfield 17, 3) := by decide +kernel
theorem d_PatternParser_endRow_14 : decode b_PatternParser_endRow 14 = .ok (.aload_n 0, 1) := by decide +kernel
theorem d_PatternParser_endRow_15 : decode b_PatternParser_endRow 15 = .ok (.getfield 46, 3) := by decide +kernel
theorem d_PatternParser_endRow_18 : decode b_PatternParser_endRow 18 = .ok (.iaload, 1) := by decide +kernel
theorem d_PatternParser_endRow_19 : decode b_PatternParser_endRow 19 = .ok (.aload_n 0, 1) := by decide +kernel
theorem d_PatternParser_endRow_20 : decode b_PatternParser_endRow 20 = .ok (.getfield 43, 3) := by decide +kernel
theorem d_PatternParser_endRow_23 : decode b_PatternParser_endRow 23 = .ok (.invokevirtual 105, 3) := by decide +kernel
theorem d_PatternParser_endRow_26 : decode b_PatternParser_endRow 26 = .ok (.ior, 1) := by decide +kernel
theorem d_PatternParser_endRow_27 : decode b_PatternParser_endRow 27 = .ok (.istore_n 3, 1) := by decide +kernel
theorem d_PatternParser_endRow_28 : decode b_PatternParser_endRow 28 = .ok (.iload_n 1, 1) := by decide +kernel
theorem d_PatternParser_endRow_29 : decode b_PatternParser_endRow 29 = .ok (.bipush 124, 2) := by decide +kernel
theorem d_PatternParser_endRow_31 : decode b_PatternParser_endRow 31 = .ok (.if_icmp .ne 30, 3) := by decide +kernel
theorem d_PatternParser_endRow_34 : decode b_PatternParser_endRow 34 = .ok (.aload_n 0, 1) := by decide +kernel
theorem d_PatternParser_endRow_35 : decode b_PatternParser_endRow 35 = .ok (.getfield 13, 3) := by decide +kernel
theorem d_PatternParser_endRow_38 : decode b_PatternParser_endRow 38 = .ok (.aload_n 0, 1) := by decide +kernel
theorem d_PatternParser_endRow_39 : decode b_PatternParser_endRow 39 = .ok (.getfield 46, 3) := by decide +kernel
theorem d_PatternParser_endRow_42 : decode b_PatternParser_endRow 42 = .ok (.iload_n 3, 1) := by decide +kernel
theorem d_PatternParser_endRow_43 : decode b_PatternParser_endRow 43 = .ok (.iastore, 1) := by decide +kernel
theorem d_PatternParser_endRow_44 : decode b_PatternParser_endRow 44 = .ok (.aload_n 0, 1) := by decide +kernel
theorem d_PatternParser_endRow_45 : decode b_PatternParser_endRow 45 = .ok (.getfield 17, 3) := by decide +kernel
theorem d_PatternParser_endRow_48 : decode b_PatternParser_endRow 48 = .ok (.aload_n 0, 1) := by decide +kernel
theorem d_PatternParser_endRow_49 : decode b_PatternParser_endRow 49 = .ok (.getfield 46, 3) := by decide +kernel
theorem d_PatternParser_endRow_52 : decode b_PatternParser_endRow 52 = .ok (.ldc 49, 2) := by decide +kernel
theorem d_PatternParser_endRow_54 : decode b_PatternParser_endRow 54 = .ok (.iastore, 1) := by decide +kernel
theorem d_PatternParser_endRow_55 : decode b_PatternParser_endRow 55 = .ok (.aload_n 0, 1) := by decide +kernel
theorem d_PatternParser_endRow_56 : decode b_PatternParser_endRow 56 = .ok (.iconst (-1), 1) := by decide +kernel
theorem d_PatternParser_endRow_57 : decode b_PatternParser_endRow 57 = .ok (.putfield 43, 3) := by decide +kernel
theorem d_PatternParser_endRow_60 : decode b_PatternParser_endRow 60 = .ok (.return_, 1) := by decide +kernel
theorem d_PatternParser_endRow_61 : decode b_PatternParser_endRow 61 = .ok (.aload_n 0, 1) := by decide +kernel
theorem d_PatternParser_endRow_62 : decode b_PatternParser_endRow 62 = .ok (.iload_n 3, 1) := by decide +kernel
theorem d_PatternParser_endRow_63 : decode b_PatternParser_endRow 63 = .ok (.putfield 43, 3) := by decide +kernel
theorem d_PatternParser_endRow_66 : decode b_PatternParser_endRow 66 = .ok (.aload_n 0, 1) := by decide +kernel
theorem d_PatternParser_endRow_67 : decode b_PatternParser_endRow 67 = .ok (.aload_n 0, 1) := by decide +kernel
theorem d_PatternParser_endRow_68 : decode b_PatternParser_endRow 68 = .ok (.getfield 20, 3) := by decide +kernel
theorem d_PatternParser_endRow_71 : decode b_PatternParser_endRow 71 = .ok (.aload_n 0, 1) := by decide +kernel
theorem d_PatternParser_endRow_72 : decode b_PatternParser_endRow 72 = .ok (.getfield 46, 3) := by decide +kernel
theorem d_PatternParser_endRow_75 : decode b_PatternParser_endRow 75 = .ok (.iaload, 1) := by decide +kernel
theorem d_PatternParser_endRow_76 : decode b_PatternParser_endRow 76 = .ok (.putfield 112, 3) := by decide +kernel
theorem d_PatternParser_endRow_79 : decode b_PatternParser_endRow 79 = .ok (.aload_n 0, 1) := by decide +kernel
theorem d_PatternParser_endRow_80 : decode b_PatternParser_endRow 80 = .ok (.iconst 1, 1) := by decide +kernel
theorem d_PatternParser_endRow_81 : decode b_PatternParser_endRow 81 = .ok (.putfield 93, 3) := by decide +kernel
theorem d_PatternParser_endRow_84 : decode b_PatternParser_endRow 84 = .ok (.aload_n 0, 1) := by decide +kernel
theorem d_PatternParser_endRow_85 : decode b_PatternParser_endRow 85 = .ok (.iload_n 1, 1) := by decide +kernel
theorem d_PatternParser_endRow_86 : decode b_PatternParser_endRow 86 = .ok (.bipush 34, 2) := by decide +kernel
theorem d_PatternParser_endRow_88 : decode b_PatternParser_endRow 88 = .ok (.if_icmp .ne 7, 3) := by decide +kernel
theorem d_PatternParser_endRow_91 : decode b_PatternParser_endRow 91 = .ok (.iconst 1, 1) := by decide +kernel
theorem d_PatternParser_endRow_92 : decode b_PatternParser_endRow 92 = .ok (.goto 4, 3) := by decide +kernel
theorem d_PatternParser_endRow_95 : decode b_PatternParser_endRow 95 = .ok (.iconst 0, 1) := by decide +kernel
theorem d_PatternParser_endRow_96 : decode b_PatternParser_endRow 96 = .ok (.putfield 36, 3) := by decide +kernel
theorem d_PatternParser_endRow_99 : decode b_PatternParser_endRow 99 = .ok (.aload_n 0, 1) := by decide +kernel
theorem d_PatternParser_endRow_100 : decode b_PatternParser_endRow 100 = .ok (.iconst 0, 1) := by decide +kernel
theorem d_PatternParser_endRow_101 : decode b_PatternParser_endRow 101 = .ok (.aload_n 0, 1) := by decide +kernel
theorem d_PatternParser_endRow_102 : decode b_PatternParser_endRow 102 = .ok (.getfield 46, 3) := by decide +kernel
theorem d_PatternParser_endRow_105 : decode b_PatternParser_endRow 105 = .ok (.iconst 1, 1) := by decide +kernel
theorem d_PatternParser_endRow_106 : decode b_PatternParser_endRow 106 = .ok (.isub, 1) := by decide +kernel
theorem d_PatternParser_endRow_107 : decode b_PatternParser_endRow 107 = .ok (.invokestatic 118, 3) := by decide +kernel
theorem d_PatternParser_endRow_110 : decode b_PatternParser_endRow 110 = .ok (.putfield 46, 3) := by decide +kernel
theorem d_PatternParser_endRow_113 : decode b_PatternParser_endRow 113 = .ok (.return_, 1) := by decide +kernel
theorem d_PatternParser_timesInBraces_0 : decode b_PatternParser_timesInBraces 0 = .ok (.aload_n 0, 1) := by decide +kernel
theorem d_PatternParser_timesInBraces_1 : decode b_PatternParser_timesInBraces 1 = .ok (.getfield 23, 3) := by decide +kernel
theorem d_PatternParser_timesInBraces_4 : decode b_PatternParser_timesInBraces 4 = .ok (.aload_n 0, 1) := by decide +kernel
theorem d_PatternParser_timesInBraces_5 : decode b_PatternParser_timesInBraces 5 = .ok (.getfield 40, 3) := by decide +kernel
theorem d_PatternParser_timesInBraces_8 : decode b_PatternParser_timesInBraces 8 = .ok (.iconst 1, 1) := by decide +kernel
theorem d_PatternParser_timesInBraces_9 : decode b_PatternParser_timesInBraces 9 = .ok (.iadd, 1) := by decide +kernel
theorem d_PatternParser_timesInBraces_10 : decode b_PatternParser_timesInBraces 10 = .ok (.invokevirtual 50, 3) := by decide +kernel
theorem d_PatternParser_timesInBraces_13 : decode b_PatternParser_timesInBraces 13 = .ok (.bipush 48, 2) := by decide +kernel
theorem d_PatternParser_timesInBraces_15 : decode b_PatternParser_timesInBraces 15 = .ok (.isub, 1) := by decide +kernel
theorem d_PatternParser_timesInBraces_16 : decode b_PatternParser_timesInBraces 16 = .ok (.istore_n 1, 1) := by decide +kernel
theorem d_PatternParser_timesInBraces_17 : decode b_PatternParser_timesInBraces 17 = .ok (.aload_n 0, 1) := by decide +kernel
theorem d_PatternParser_timesInBraces_18 : decode b_PatternParser_timesInBraces 18 = .ok (.getfield 23, 3) := by decide +kernel
theorem d_PatternParser_timesInBraces_21 : decode b_PatternParser_timesInBraces 21 = .ok (.aload_n 0, 1) := by decide +kernel
theorem d_PatternParser_timesInBraces_22 : decode b_PatternParser_timesInBraces 22 = .ok (.getfield 40, 3) := by decide +kernel
theorem d_PatternParser_timesInBraces_25 : decode b_PatternParser_timesInBraces 25 = .ok (.iconst 3, 1) := by decide +kernel
theorem d_PatternParser_timesInBraces_26 : decode b_PatternParser_timesInBraces 26 = .ok (.iadd, 1) := by decide +kernel
theorem d_PatternParser_timesInBraces_27 : decode b_PatternParser_timesInBraces 27 = .ok (.invokevirtual 50, 3) := by decide +kernel
theorem d_PatternParser_timesInBraces_30 : decode b_PatternParser_timesInBraces 30 = .ok (.bipush 48, 2) := by decide +kernel
theorem d_PatternParser_timesInBraces_32 : decode b_PatternParser_timesInBraces 32 = .ok (.isub, 1) := by decide +kernel
theorem d_PatternParser_timesInBraces_33 : decode b_PatternParser_timesInBraces 33 = .ok (.istore_n 2, 1) := by decide +kernel
theorem d_PatternParser_timesInBraces_34 : decode b_PatternParser_timesInBraces 34 = .ok (.iload_n 1, 1) := by decide +kernel
theorem d_PatternParser_timesInBraces_35 : decode b_PatternParser_timesInBraces 35 = .ok (.ifCond .lt 9, 3) := by decide +kernel
theorem d_PatternParser_timesInBraces_38 : decode b_PatternParser_timesInBraces 38 = .ok (.iload_n 1, 1) := by decide +kernel
theorem d_PatternParser_timesInBraces_39 : decode b_PatternParser_timesInBraces 39 = .ok (.bipush 9, 2) := by decide +kernel
theorem d_PatternParser_timesInBraces_41 : decode b_PatternParser_timesInBraces 41 = .ok (.if_icmp .le 17, 3) := by decide +kernel
theorem d_PatternParser_timesInBraces_44 : decode b_PatternParser_timesInBraces 44 = .ok (.aload_n 0, 1) := by decide +kernel
theorem d_PatternParser_timesInBraces_45 : decode b_PatternParser_timesInBraces 45 = .ok (.iconst 2, 1) := by decide +kernel
theorem d_PatternParser_timesInBraces_46 : decode b_PatternParser_timesInBraces 46 = .ok (.aload_n 0, 1) := by decide +kernel
theorem d_PatternParser_timesInBraces_47 : decode b_PatternParser_timesInBraces 47 = .ok (.getfield 40, 3) := by decide +kernel
theorem d_PatternParser_timesInBraces_50 : decode b_PatternParser_timesInBraces 50 = .ok (.iconst 1, 1) := by decide +kernel
theorem d_PatternParser_timesInBraces_51 : decode b_PatternParser_timesInBraces 51 = .ok (.iadd, 1) := by decide +kernel
theorem d_PatternParser_timesInBraces_52 : decode b_PatternParser_timesInBraces 52 = .ok (.invokevirtual 65, 3) := by decide +kernel
theorem d_PatternParser_timesInBraces_55 : decode b_PatternParser_timesInBraces 55 = .ok (.goto 111, 3) := by decide +kernel
theorem d_PatternParser_timesInBraces_58 : decode b_PatternParser_timesInBraces 58 = .ok (.aload_n 0, 1) := by decide +kernel
theorem d_PatternParser_timesInBraces_59 : decode b_PatternParser_timesInBraces 59 = .ok (.getfield 23, 3) := by decide +kernel
theorem d_PatternParser_timesInBraces_62 : decode b_PatternParser_timesInBraces 62 = .ok (.aload_n 0, 1) := by decide +kernel
theorem d_PatternParser_timesInBraces_63 : decode b_PatternParser_timesInBraces 63 = .ok (.getfield 40, 3) := by decide +kernel
theorem d_PatternParser_timesInBraces_66 : decode b_PatternParser_timesInBraces 66 = .ok (.iconst 2, 1) := by decide +kernel
theorem d_PatternParser_timesInBraces_67 : decode b_PatternParser_timesInBraces 67 = .ok (.iadd, 1) := by decide +kernel
theorem d_PatternParser_timesInBraces_68 : decode b_PatternParser_timesInBraces 68 = .ok (.invokevirtual 50, 3) := by decide +kernel
theorem d_PatternParser_timesInBraces_71 : decode b_PatternParser_timesInBraces 71 = .ok (.bipush 44, 2) := by decide +kernel
theorem d_PatternParser_timesInBraces_73 : decode b_PatternParser_timesInBraces 73 = .ok (.if_icmp .eq 17, 3) := by decide +kernel
theorem d_PatternParser_timesInBraces_76 : decode b_PatternParser_timesInBraces 76 = .ok (.aload_n 0, 1) := by decide +kernel
theorem d_PatternParser_timesInBraces_77 : decode b_PatternParser_timesInBraces 77 = .ok (.iconst 2, 1) := by decide +kernel
theorem d_PatternParser_timesInBraces_78 : decode b_PatternParser_timesInBraces 78 = .ok (.aload_n 0, 1) := by decide +kernel
theorem d_PatternParser_timesInBraces_79 : decode b_PatternParser_timesInBraces 79 = .ok (.getfield 40, 3) := by decide +kernel
theorem d_PatternParser_timesInBraces_82 : decode b_PatternParser_timesInBraces 82 = .ok (.iconst 2, 1) := by decide +kernel
theorem d_PatternParser_timesInBraces_83 : decode b_PatternParser_timesInBraces 83 = .ok (.iadd, 1) := by decide +kernel
theorem d_PatternParser_timesInBraces_84 : decode b_PatternParser_timesInBraces 84 = .ok (.invokevirtual 65, 3) := by decide +kernel
theorem d_PatternParser_timesInBraces_87 : decode b_PatternParser_timesInBraces 87 = .ok (.goto 79, 3) := by decide +kernel
theorem d_PatternParser_timesInBraces_90 : decode b_PatternParser_timesInBraces 90 = .ok (.iload_n 2, 1) := by decide +kernel
theorem d_PatternParser_timesInBraces_91 : decode b_PatternParser_timesInBraces 91 = .ok (.ifCond .lt 9, 3) := by decide +kernel
theorem d_PatternParser_timesInBraces_94 : decode b_PatternParser_timesInBraces 94 = .ok (.iload_n 2, 1) := by decide +kernel
theorem d_PatternParser_timesInBraces_95 : decode b_PatternParser_timesInBraces 95 = .ok (.bipush 9, 2) := by decide +kernel
theorem d_PatternParser_timesInBraces_97 : decode b_PatternParser_timesInBraces 97 = .ok (.if_icmp .le 17, 3) := by decide +kernel
theorem d_PatternParser_timesInBraces_100 : decode b_PatternParser_timesInBraces 100 = .ok (.aload_n 0, 1) := by decide +kernel
theorem d_PatternParser_timesInBraces_101 : decode b_PatternParser_timesInBraces 101 = .ok (.iconst 2, 1) := by decide +kernel
theorem d_PatternParser_timesInBraces_102 : decode b_PatternParser_timesInBraces 102 = .ok (.aload_n 0, 1) := by decide +kernel
theorem d_PatternParser_timesInBraces_103 : decode b_PatternParser_timesInBraces 103 = .ok (.getfield 40, 3) := by decide +kernel
theorem d_PatternParser_timesInBraces_106 : decode b_PatternParser_timesInBraces 106 = .ok (.iconst 3, 1) := by decide +kernel
theorem d_PatternParser_timesInBraces_107 : decode b_PatternParser_timesInBraces 107 = .ok (.iadd, 1) := by decide +kernel
theorem d_PatternParser_timesInBraces_108 : decode b_PatternParser_timesInBraces 108 = .ok (.invokevirtual 65, 3) := by decide +kernel
theorem d_PatternParser_timesInBraces_111 : decode b_PatternParser_timesInBraces 111 = .ok (.goto 55, 3) := by decide +kernel
theorem d_PatternParser_timesInBraces_114 : decode b_PatternParser_timesInBraces 114 = .ok (.iload_n 2, 1) := by decide +kernel
theorem d_PatternParser_timesInBraces_115 : decode b_PatternParser_timesInBraces 115 = .ok (.ifCond .eq 8, 3) := by decide +kernel
theorem d_PatternParser_timesInBraces_118 : decode b_PatternParser_timesInBraces 118 = .ok (.iload_n 2, 1) := by decide +kernel
theorem d_PatternParser_timesInBraces_119 : decode b_PatternParser_timesInBraces 119 = .ok (.iload_n 1, 1) := by decide +kernel
theorem d_PatternParser_timesInBraces_120 : decode b_PatternParser_timesInBraces 120 = .ok (.if_icmp .ge 17, 3) := by decide +kernel
theorem d_PatternParser_timesInBraces_123 : decode b_PatternParser_timesInBraces 123 = .ok (.aload_n 0, 1) := by decide +kernel
theorem d_PatternParser_timesInBraces_124 : decode b_PatternParser_timesInBraces 124 = .ok (.iconst 4, 1) := by decide +kernel
theorem d_PatternParser_timesInBraces_125 : decode b_PatternParser_timesInBraces 125 = .ok (.aload_n 0, 1) := by decide +kernel
theorem d_PatternParser_timesInBraces_126 : decode b_PatternParser_timesInBraces 126 = .ok (.getfield 40, 3) := by decide +kernel
theorem d_PatternParser_timesInBraces_129 : decode b_PatternParser_timesInBraces 129 = .ok (.iconst 3, 1) := by decide +kernel
theorem d_PatternParser_timesInBraces_130 : decode b_PatternParser_timesInBraces 130 = .ok (.iadd, 1) := by decide +kernel
theorem d_PatternParser_timesInBraces_131 : decode b_PatternParser_timesInBraces 131 = .ok (.invokevirtual 65, 3) := by decide +kernel
theorem d_PatternParser_timesInBraces_134 : decode b_PatternParser_timesInBraces 134 = .ok (.goto 32, 3) := by decide +kernel
theorem d_PatternParser_timesInBraces_137 : decode b_PatternParser_timesInBraces 137 = .ok (.aload_n 0, 1) := by decide +kernel
theorem d_PatternParser_timesInBraces_138 : decode b_PatternParser_timesInBraces 138 = .ok (.getfield 23, 3) := by decide +kernel
theorem d_PatternParser_timesInBraces_141 : decode b_PatternParser_timesInBraces 141 = .ok (.aload_n 0, 1) := by decide +kernel
theorem d_PatternParser_timesInBraces_142 : decode b_PatternParser_timesInBraces 142 = .ok (.getfield 40, 3) := by decide +kernel
theorem d_PatternParser_timesInBraces_145 : decode b_PatternParser_timesInBraces 145 = .ok (.iconst 4, 1) := by decide +kernel
theorem d_PatternParser_timesInBraces_146 : decode b_PatternParser_timesInBraces 146 = .ok (.iadd, 1) := by decide +kernel
theorem d_PatternParser_timesInBraces_147 : decode b_PatternParser_timesInBraces 147 = .ok (.invokevirtual 50, 3) := by decide +kernel
theorem d_PatternParser_timesInBraces_150 : decode b_PatternParser_timesInBraces 150 = .ok (.bipush 125, 2) := by decide +kernel
theorem d_PatternParser_timesInBraces_152 : decode b_PatternParser_timesInBraces 152 = .ok (.if_icmp .eq 14, 3) := by decide +kernel
theorem d_PatternParser_timesInBraces_155 : decode b_PatternParser_timesInBraces 155 = .ok (.aload_n 0, 1) := by decide +kernel
theorem d_PatternParser_timesInBraces_156 : decode b_PatternParser_timesInBraces 156 = .ok (.iconst 2, 1) := by decide +kernel
theorem d_PatternParser_timesInBraces_157 : decode b_PatternParser_timesInBraces 157 = .ok (.aload_n 0, 1) := by decide +kernel
theorem d_PatternParser_timesInBraces_158 : decode b_PatternParser_timesInBraces 158 = .ok (.getfield 40, 3) := by decide +kernel
theorem d_PatternParser_timesInBraces_161 : decode b_PatternParser_timesInBraces 161 = .ok (.iconst 4, 1) := by decide +kernel
theorem d_PatternParser_timesInBraces_162 : decode b_PatternParser_timesInBraces 162 = .ok (.iadd, 1) := by decide +kernel
theorem d_PatternParser_timesInBraces_163 : decode b_PatternParser_timesInBraces 163 = .ok (.invokevirtual 65, 3) := by decide +kernel
theorem d_PatternParser_timesInBraces_166 : decode b_PatternParser_timesInBraces 166 = .ok (.aload_n 0, 1) := by decide +kernel
theorem d_PatternParser_timesInBraces_167 : decode b_PatternParser_timesInBraces 167 = .ok (.dup, 1) := by decide +kernel
theorem d_PatternParser_timesInBraces_168 : decode b_PatternParser_timesInBraces 168 = .ok (.getfield 40, 3) := by decide +kernel
theorem d_PatternParser_timesInBraces_171 : decode b_PatternParser_timesInBraces 171 = .ok (.iconst 4, 1) := by decide +kernel
theorem d_PatternParser_timesInBraces_172 : decode b_PatternParser_timesInBraces 172 = .ok (.iadd, 1) := by decide +kernel
theorem d_PatternParser_timesInBraces_173 : decode b_PatternParser_timesInBraces 173 = .ok (.putfield 40, 3) := by decide +kernel
theorem d_PatternParser_timesInBraces_176 : decode b_PatternParser_timesInBraces 176 = .ok (.aload_n 0, 1) := by decide +kernel
theorem d_PatternParser_timesInBraces_177 : decode b_PatternParser_timesInBraces 177 = .ok (.getfield 32, 3) := by decide +kernel
theorem d_PatternParser_timesInBraces_180 : decode b_PatternParser_timesInBraces 180 = .ok (.ifCond .ne 12, 3) := by decide +kernel
theorem d_PatternParser_timesInBraces_183 : decode b_PatternParser_timesInBraces 183 = .ok (.bipush 10, 2) := by decide +kernel
theorem d_PatternParser_timesInBraces_185 : decode b_PatternParser_timesInBraces 185 = .ok (.iload_n 1, 1) := by decide +kernel
theorem d_PatternParser_timesInBraces_186 : decode b_PatternParser_timesInBraces 186 = .ok (.imul, 1) := by decide +kernel
theorem d_PatternParser_timesInBraces_187 : decode b_PatternParser_timesInBraces 187 = .ok (.iload_n 2, 1) := by decide +kernel
theorem d_PatternParser_timesInBraces_188 : decode b_PatternParser_timesInBraces 188 = .ok (.iadd, 1) := by decide +kernel
theorem d_PatternParser_timesInBraces_189 : decode b_PatternParser_timesInBraces 189 = .ok (.goto 5, 3) := by decide +kernel
theorem d_PatternParser_timesInBraces_192 : decode b_PatternParser_timesInBraces 192 = .ok (.bipush 11, 2) := by decide +kernel
theorem d_PatternParser_timesInBraces_194 : decode b_PatternParser_timesInBraces 194 = .ok (.ireturn, 1) := by decide +kernel
theorem d_PatternParser_timesBySign_0 : decode b_PatternParser_timesBySign 0 = .ok (.iload_n 1, 1) := by decide +kernel
theorem d_PatternParser_timesBySign_1 : decode b_PatternParser_timesBySign 1 = .ok (.lookupswitch 42 #[(42, 35), (43, 37), (63, 40)], 35) := by decide +kernel
theorem d_PatternParser_timesBySign_36 : decode b_PatternParser_timesBySign 36 = .ok (.iconst 0, 1) := by decide +kernel
theorem d_PatternParser_timesBySign_37 : decode b_PatternParser_timesBySign 37 = .ok (.ireturn, 1) := by decide +kernel
theorem d_PatternParser_timesBySign_38 : decode b_PatternParser_timesBySign 38 = .ok (.bipush 10, 2) := by decide +kernel
theorem d_PatternParser_timesBySign_40 : decode b_PatternParser_timesBySign 40 = .ok (.ireturn, 1) := by decide +kernel
theorem d_PatternParser_timesBySign_41 : decode b_PatternParser_timesBySign 41 = .ok (.iconst 1, 1) := by decide +kernel
theorem d_PatternParser_timesBySign_42 : decode b_PatternParser_timesBySign 42 = .ok (.ireturn, 1) := by decide +kernel
theorem d_PatternParser_timesBySign_43 : decode b_PatternParser_timesBySign 43 = .ok (.aload_n 0, 1) := by decide +kernel
theorem d_PatternParser_timesBySign_44 : decode b_PatternParser_timesBySign 44 = .ok (.iconst 2, 1) := by decide +kernel
theorem d_PatternParser_timesBySign_45 : decode b_PatternParser_timesBySign 45 = .ok (.aload_n 0, 1) := by decide +kernel
theorem d_PatternParser_timesBySign_46 : decode b_PatternParser_timesBySign 46 = .ok (.getfield 40, 3) := by decide +kernel
theorem d_PatternParser_timesBySign_49 : decode b_PatternParser_timesBySign 49 = .ok (.invokevirtual 65, 3) := by decide +kernel
theorem d_PatternParser_timesBySign_52 : decode b_PatternParser_timesBySign 52 = .ok (.bipush 11, 2) := by decide +kernel
theorem d_PatternParser_timesBySign_54 : decode b_PatternParser_timesBySign 54 = .ok (.ireturn, 1) := by decide +kernel
theorem d_Positions_copyPlaces_0 : decode b_Positions_copyPlaces 0 = .ok (.aload_n 0, 1) := by decide +kernel
theorem d_Positions_copyPlaces_1 : decode b_Positions_copyPlaces 1 = .ok (.getfield 24, 3) := by decide +kernel
theorem d_Positions_copyPlaces_4 : decode b_Positions_copyPlaces 4 = .ok (.iload_n 2, 1) := by decide +kernel
theorem d_Positions_copyPlaces_5 : decode b_Positions_copyPlaces 5 = .ok (.iload_n 3, 1) := by decide +kernel
theorem d_Positions_copyPlaces_6 : decode b_Positions_copyPlaces 6 = .ok (.imul, 1) := by decide +kernel
theorem d_Positions_copyPlaces_7 : decode b_Positions_copyPlaces 7 = .ok (.iadd, 1) := by decide +kernel
theorem d_Positions_copyPlaces_8 : decode b_Positions_copyPlaces 8 = .ok (.bipush 10, 2) := by decide +kernel
theorem d_Positions_copyPlaces_10 : decode b_Positions_copyPlaces 10 = .ok (.if_icmp .le 9, 3) := by decide +kernel
theorem d_Positions_copyPlaces_13 : decode b_Positions_copyPlaces 13 = .ok (.aload_n 0, 1) := by decide +kernel
theorem d_Positions_copyPlaces_14 : decode b_Positions_copyPlaces 14 = .ok (.iconst 1, 1) := by decide +kernel
theorem d_Positions_copyPlaces_15 : decode b_Positions_copyPlaces 15 = .ok (.putfield 28, 3) := by decide +kernel
theorem d_Positions_copyPlaces_18 : decode b_Positions_copyPlaces 18 = .ok (.return_, 1) := by decide +kernel
theorem d_Positions_copyPlaces_19 : decode b_Positions_copyPlaces 19 = .ok (.iconst 1, 1) := by decide +kernel
theorem d_Positions_copyPlaces_20 : decode b_Positions_copyPlaces 20 = .ok (.iload_n 2, 1) := by decide +kernel
theorem d_Positions_copyPlaces_21 : decode b_Positions_copyPlaces 21 = .ok (.ishl, 1) := by decide +kernel
theorem d_Positions_copyPlaces_22 : decode b_Positions_copyPlaces 22 = .ok (.iconst 1, 1) := by decide +kernel
theorem d_Positions_copyPlaces_23 : decode b_Positions_copyPlaces 23 = .ok (.isub, 1) := by decide +kernel
theorem d_Positions_copyPlaces_24 : decode b_Positions_copyPlaces 24 = .ok (.iload_n 1, 1) := by decide +kernel
theorem d_Positions_copyPlaces_25 : decode b_Positions_copyPlaces 25 = .ok (.ishl, 1) := by decide +kernel
theorem d_Positions_copyPlaces_26 : decode b_Positions_copyPlaces 26 = .ok (.istore 4, 2) := by decide +kernel
theorem d_Positions_copyPlaces_28 : decode b_Positions_copyPlaces 28 = .ok (.iload_n 2, 1) := by decide +kernel
theorem d_Positions_copyPlaces_29 : decode b_Positions_copyPlaces 29 = .ok (.istore 5, 2) := by decide +kernel
theorem d_Positions_copyPlaces_31 : decode b_Positions_copyPlaces 31 = .ok (.iload 5, 2) := by decide +kernel
theorem d_Positions_copyPlaces_33 : decode b_Positions_copyPlaces 33 = .ok (.iload_n 2, 1) := by decide +kernel
theorem d_Positions_copyPlaces_34 : decode b_Positions_copyPlaces 34 = .ok (.iload_n 3, 1) := by decide +kernel
theorem d_Positions_copyPlaces_35 : decode b_Positions_copyPlaces 35 = .ok (.imul, 1) := by decide +kernel
theorem d_Positions_copyPlaces_36 : decode b_Positions_copyPlaces 36 = .ok (.if_icmp .gt 92, 3) := by decide +kernel
theorem d_Positions_copyPlaces_39 : decode b_Positions_copyPlaces 39 = .ok (.iload_n 2, 1) := by decide +kernel
theorem d_Positions_copyPlaces_40 : decode b_Positions_copyPlaces 40 = .ok (.ifCond .le 88, 3) := by decide +kernel
theorem d_Positions_copyPlaces_43 : decode b_Positions_copyPlaces 43 = .ok (.iconst 0, 1) := by decide +kernel
theorem d_Positions_copyPlaces_44 : decode b_Positions_copyPlaces 44 = .ok (.istore 6, 2) := by decide +kernel
theorem d_Positions_copyPlaces_46 : decode b_Positions_copyPlaces 46 = .ok (.iload 6, 2) := by decide +kernel
theorem d_Positions_copyPlaces_48 : decode b_Positions_copyPlaces 48 = .ok (.bipush 9, 2) := by decide +kernel
theorem d_Positions_copyPlaces_50 : decode b_Positions_copyPlaces 50 = .ok (.if_icmp .ge 32, 3) := by decide +kernel
theorem d_Positions_copyPlaces_53 : decode b_Positions_copyPlaces 53 = .ok (.aload_n 0, 1) := by decide +kernel
theorem d_Positions_copyPlaces_54 : decode b_Positions_copyPlaces 54 = .ok (.getfield 11, 3) := by decide +kernel
theorem d_Positions_copyPlaces_57 : decode b_Positions_copyPlaces 57 = .ok (.iload 6, 2) := by decide +kernel
theorem d_Positions_copyPlaces_59 : decode b_Positions_copyPlaces 59 = .ok (.dup2, 1) := by decide +kernel
theorem d_Positions_copyPlaces_60 : decode b_Positions_copyPlaces 60 = .ok (.iaload, 1) := by decide +kernel
theorem d_Positions_copyPlaces_61 : decode b_Positions_copyPlaces 61 = .ok (.aload_n 0, 1) := by decide +kernel
theorem d_Positions_copyPlaces_62 : decode b_Positions_copyPlaces 62 = .ok (.getfield 11, 3) := by decide +kernel
theorem d_Positions_copyPlaces_65 : decode b_Positions_copyPlaces 65 = .ok (.iload 6, 2) := by decide +kernel
theorem d_Positions_copyPlaces_67 : decode b_Positions_copyPlaces 67 = .ok (.iaload, 1) := by decide +kernel
theorem d_Positions_copyPlaces_68 : decode b_Positions_copyPlaces 68 = .ok (.iload 4, 2) := by decide +kernel
theorem d_Positions_copyPlaces_70 : decode b_Positions_copyPlaces 70 = .ok (.iand, 1) := by decide +kernel
theorem d_Positions_copyPlaces_71 : decode b_Positions_copyPlaces 71 = .ok (.iload 5, 2) := by decide +kernel
theorem d_Positions_copyPlaces_73 : decode b_Positions_copyPlaces 73 = .ok (.ishl, 1) := by decide +kernel
theorem d_Positions_copyPlaces_74 : decode b_Positions_copyPlaces 74 = .ok (.ior, 1) := by decide +kernel
theorem d_Positions_copyPlaces_75 : decode b_Positions_copyPlaces 75 = .ok (.iastore, 1) := by decide +kernel
theorem d_Positions_copyPlaces_76 : decode b_Positions_copyPlaces 76 = .ok (.iinc 6 1, 3) := by decide +kernel
theorem d_Positions_copyPlaces_79 : decode b_Positions_copyPlaces 79 = .ok (.goto (-33), 3) := by decide +kernel
theorem d_Positions_copyPlaces_82 : decode b_Positions_copyPlaces 82 = .ok (.iload_n 1, 1) := by decide +kernel
theorem d_Positions_copyPlaces_83 : decode b_Positions_copyPlaces 83 = .ok (.istore 6, 2) := by decide +kernel
theorem d_Positions_copyPlaces_85 : decode b_Positions_copyPlaces 85 = .ok (.iload 6, 2) := by decide +kernel
theorem d_Positions_copyPlaces_87 : decode b_Positions_copyPlaces 87 = .ok (.iload_n 1, 1) := by decide +kernel
theorem d_Positions_copyPlaces_88 : decode b_Positions_copyPlaces 88 = .ok (.iload_n 2, 1) := by decide +kernel
theorem d_Positions_copyPlaces_89 : decode b_Positions_copyPlaces 89 = .ok (.iadd, 1) := by decide +kernel
theorem d_Positions_copyPlaces_90 : decode b_Positions_copyPlaces 90 = .ok (.if_icmp .ge 29, 3) := by decide +kernel
theorem d_Positions_copyPlaces_93 : decode b_Positions_copyPlaces 93 = .ok (.aload_n 0, 1) := by decide +kernel
theorem d_Positions_copyPlaces_94 : decode b_Positions_copyPlaces 94 = .ok (.getfield 15, 3) := by decide +kernel
theorem d_Positions_copyPlaces_97 : decode b_Positions_copyPlaces 97 = .ok (.iload 6, 2) := by decide +kernel
theorem d_Positions_copyPlaces_99 : decode b_Positions_copyPlaces 99 = .ok (.iload 5, 2) := by decide +kernel
theorem d_Positions_copyPlaces_101 : decode b_Positions_copyPlaces 101 = .ok (.iadd, 1) := by decide +kernel
theorem d_Positions_copyPlaces_102 : decode b_Positions_copyPlaces 102 = .ok (.aload_n 0, 1) := by decide +kernel
theorem d_Positions_copyPlaces_103 : decode b_Positions_copyPlaces 103 = .ok (.getfield 15, 3) := by decide +kernel
theorem d_Positions_copyPlaces_106 : decode b_Positions_copyPlaces 106 = .ok (.iload 6, 2) := by decide +kernel
theorem d_Positions_copyPlaces_108 : decode b_Positions_copyPlaces 108 = .ok (.iaload, 1) := by decide +kernel
theorem d_Positions_copyPlaces_109 : decode b_Positions_copyPlaces 109 = .ok (.iload 5, 2) := by decide +kernel
theorem d_Positions_copyPlaces_111 : decode b_Positions_copyPlaces 111 = .ok (.ishl, 1) := by decide +kernel
theorem d_Positions_copyPlaces_112 : decode b_Positions_copyPlaces 112 = .ok (.iastore, 1) := by decide +kernel
theorem d_Positions_copyPlaces_113 : decode b_Positions_copyPlaces 113 = .ok (.iinc 6 1, 3) := by decide +kernel
theorem d_Positions_copyPlaces_116 : decode b_Positions_copyPlaces 116 = .ok (.goto (-31), 3) := by decide +kernel
theorem d_Positions_copyPlaces_119 : decode b_Positions_copyPlaces 119 = .ok (.iload 5, 2) := by decide +kernel
theorem d_Positions_copyPlaces_121 : decode b_Positions_copyPlaces 121 = .ok (.iload_n 2, 1) := by decide +kernel
theorem d_Positions_copyPlaces_122 : decode b_Positions_copyPlaces 122 = .ok (.iadd, 1) := by decide +kernel
theorem d_Positions_copyPlaces_123 : decode b_Positions_copyPlaces 123 = .ok (.istore 5, 2) := by decide +kernel
theorem d_Positions_copyPlaces_125 : decode b_Positions_copyPlaces 125 = .ok (.goto (-94), 3) := by decide +kernel
theorem d_Positions_copyPlaces_128 : decode b_Positions_copyPlaces 128 = .ok (.aload_n 0, 1) := by decide +kernel
theorem d_Positions_copyPlaces_129 : decode b_Positions_copyPlaces 129 = .ok (.dup, 1) := by decide +kernel
theorem d_Positions_copyPlaces_130 : decode b_Positions_copyPlaces 130 = .ok (.getfield 24, 3) := by decide +kernel
theorem d_Positions_copyPlaces_133 : decode b_Positions_copyPlaces 133 = .ok (.iload_n 2, 1) := by decide +kernel
theorem d_Positions_copyPlaces_134 : decode b_Positions_copyPlaces 134 = .ok (.iload_n 3, 1) := by decide +kernel
theorem d_Positions_copyPlaces_135 : decode b_Positions_copyPlaces 135 = .ok (.imul, 1) := by decide +kernel
theorem d_Positions_copyPlaces_136 : decode b_Positions_copyPlaces 136 = .ok (.iadd, 1) := by decide +kernel
theorem d_Positions_copyPlaces_137 : decode b_Positions_copyPlaces 137 = .ok (.putfield 24, 3) := by decide +kernel
theorem d_Positions_copyPlaces_140 : decode b_Positions_copyPlaces 140 = .ok (.return_, 1) := by decide +kernel
theorem d_PatternParser_repeatItem_0 : decode b_PatternParser_repeatItem 0 = .ok (.iload_n 1, 1) := by decide +kernel
theorem d_PatternParser_repeatItem_1 : decode b_PatternParser_repeatItem 1 = .ok (.bipush 10, 2) := by decide +kernel
theorem d_PatternParser_repeatItem_3 : decode b_PatternParser_repeatItem 3 = .ok (.idiv, 1) := by decide +kernel
theorem d_PatternParser_repeatItem_4 : decode b_PatternParser_repeatItem 4 = .ok (.istore_n 3, 1) := by decide +kernel
theorem d_PatternParser_repeatItem_5 : decode b_PatternParser_repeatItem 5 = .ok (.iload_n 1, 1) := by decide +kernel
theorem d_PatternParser_repeatItem_6 : decode b_PatternParser_repeatItem 6 = .ok (.bipush 10, 2) := by decide +kernel
theorem d_PatternParser_repeatItem_8 : decode b_PatternParser_repeatItem 8 = .ok (.irem, 1) := by decide +kernel
theorem d_PatternParser_repeatItem_9 : decode b_PatternParser_repeatItem 9 = .ok (.istore 4, 2) := by decide +kernel
theorem d_PatternParser_repeatItem_11 : decode b_PatternParser_repeatItem 11 = .ok (.aload_n 0, 1) := by decide +kernel
theorem d_PatternParser_repeatItem_12 : decode b_PatternParser_repeatItem 12 = .ok (.iconst 0, 1) := by decide +kernel
theorem d_PatternParser_repeatItem_13 : decode b_PatternParser_repeatItem 13 = .ok (.putfield 93, 3) := by decide +kernel
theorem d_PatternParser_repeatItem_16 : decode b_PatternParser_repeatItem 16 = .ok (.iload 4, 2) := by decide +kernel
theorem d_PatternParser_repeatItem_18 : decode b_PatternParser_repeatItem 18 = .ok (.ifCond .ne 36, 3) := by decide +kernel
theorem d_PatternParser_repeatItem_21 : decode b_PatternParser_repeatItem 21 = .ok (.aload_n 2, 1) := by decide +kernel
theorem d_PatternParser_repeatItem_22 : decode b_PatternParser_repeatItem 22 = .ok (.aload_n 0, 1) := by decide +kernel
theorem d_PatternParser_repeatItem_23 : decode b_PatternParser_repeatItem 23 = .ok (.getfield 43, 3) := by decide +kernel
theorem d_PatternParser_repeatItem_26 : decode b_PatternParser_repeatItem 26 = .ok (.aload_n 0, 1) := by decide +kernel
theorem d_PatternParser_repeatItem_27 : decode b_PatternParser_repeatItem 27 = .ok (.getfield 43, 3) := by decide +kernel
theorem d_PatternParser_repeatItem_30 : decode b_PatternParser_repeatItem 30 = .ok (.invokevirtual 105, 3) := by decide +kernel
theorem d_PatternParser_repeatItem_33 : decode b_PatternParser_repeatItem 33 = .ok (.pop, 1) := by decide +kernel
theorem d_PatternParser_repeatItem_34 : decode b_PatternParser_repeatItem 34 = .ok (.aload_n 0, 1) := by decide +kernel
theorem d_PatternParser_repeatItem_35 : decode b_PatternParser_repeatItem 35 = .ok (.dup, 1) := by decide +kernel
theorem d_PatternParser_repeatItem_36 : decode b_PatternParser_repeatItem 36 = .ok (.getfield 43, 3) := by decide +kernel
theorem d_PatternParser_repeatItem_39 : decode b_PatternParser_repeatItem 39 = .ok (.iload_n 3, 1) := by decide +kernel
theorem d_PatternParser_repeatItem_40 : decode b_PatternParser_repeatItem 40 = .ok (.ifCond .ne 8, 3) := by decide +kernel
theorem d_PatternParser_repeatItem_43 : decode b_PatternParser_repeatItem 43 = .ok (.ldc 49, 2) := by decide +kernel
theorem d_PatternParser_repeatItem_45 : decode b_PatternParser_repeatItem 45 = .ok (.goto 4, 3) := by decide +kernel
theorem d_PatternParser_repeatItem_48 : decode b_PatternParser_repeatItem 48 = .ok (.iconst 0, 1) := by decide +kernel
theorem d_PatternParser_repeatItem_49 : decode b_PatternParser_repeatItem 49 = .ok (.ior, 1) := by decide +kernel
theorem d_PatternParser_repeatItem_50 : decode b_PatternParser_repeatItem 50 = .ok (.putfield 43, 3) := by decide +kernel
theorem d_PatternParser_repeatItem_53 : decode b_PatternParser_repeatItem 53 = .ok (.return_, 1) := by decide +kernel
theorem d_PatternParser_repeatItem_54 : decode b_PatternParser_repeatItem 54 = .ok (.aload_n 2, 1) := by decide +kernel
theorem d_PatternParser_repeatItem_55 : decode b_PatternParser_repeatItem 55 = .ok (.getfield 109, 3) := by decide +kernel
theorem d_PatternParser_repeatItem_58 : decode b_PatternParser_repeatItem 58 = .ok (.aload_n 0, 1) := by decide +kernel
theorem d_PatternParser_repeatItem_59 : decode b_PatternParser_repeatItem 59 = .ok (.getfield 112, 3) := by decide +kernel
theorem d_PatternParser_repeatItem_62 : decode b_PatternParser_repeatItem 62 = .ok (.isub, 1) := by decide +kernel
theorem d_PatternParser_repeatItem_63 : decode b_PatternParser_repeatItem 63 = .ok (.istore 5, 2) := by decide +kernel
theorem d_PatternParser_repeatItem_65 : decode b_PatternParser_repeatItem 65 = .ok (.aload_n 2, 1) := by decide +kernel
theorem d_PatternParser_repeatItem_66 : decode b_PatternParser_repeatItem 66 = .ok (.aload_n 0, 1) := by decide +kernel
theorem d_PatternParser_repeatItem_67 : decode b_PatternParser_repeatItem 67 = .ok (.getfield 112, 3) := by decide +kernel
theorem d_PatternParser_repeatItem_70 : decode b_PatternParser_repeatItem 70 = .ok (.iload 5, 2) := by decide +kernel
theorem d_PatternParser_repeatItem_72 : decode b_PatternParser_repeatItem 72 = .ok (.iload 4, 2) := by decide +kernel
theorem d_PatternParser_repeatItem_74 : decode b_PatternParser_repeatItem 74 = .ok (.iconst 1, 1) := by decide +kernel
theorem d_PatternParser_repeatItem_75 : decode b_PatternParser_repeatItem 75 = .ok (.isub, 1) := by decide +kernel
