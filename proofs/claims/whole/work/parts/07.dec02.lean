theorem d_Judge_ofPerson_65 : decode b_Judge_ofPerson 65 = .ok (.lreturn, 1) := by decide +kernel
theorem d_Judge_ofPerson_66 : decode b_Judge_ofPerson 66 = .ok (.aload_n 0, 1) := by decide +kernel
theorem d_Judge_ofPerson_67 : decode b_Judge_ofPerson 67 = .ok (.aload_n 1, 1) := by decide +kernel
theorem d_Judge_ofPerson_68 : decode b_Judge_ofPerson 68 = .ok (.iload_n 2, 1) := by decide +kernel
theorem d_Judge_ofPerson_69 : decode b_Judge_ofPerson 69 = .ok (.iconst 0, 1) := by decide +kernel
theorem d_Judge_ofPerson_70 : decode b_Judge_ofPerson 70 = .ok (.aload_n 0, 1) := by decide +kernel
theorem d_Judge_ofPerson_71 : decode b_Judge_ofPerson 71 = .ok (.getfield 9, 3) := by decide +kernel
theorem d_Judge_ofPerson_74 : decode b_Judge_ofPerson 74 = .ok (.getfield 28, 3) := by decide +kernel
theorem d_Judge_ofPerson_77 : decode b_Judge_ofPerson 77 = .ok (.aload_n 1, 1) := by decide +kernel
theorem d_Judge_ofPerson_78 : decode b_Judge_ofPerson 78 = .ok (.getfield 54, 3) := by decide +kernel
theorem d_Judge_ofPerson_81 : decode b_Judge_ofPerson 81 = .ok (.isub, 1) := by decide +kernel
theorem d_Judge_ofPerson_82 : decode b_Judge_ofPerson 82 = .ok (.invokevirtual 57, 3) := by decide +kernel
theorem d_Judge_ofPerson_85 : decode b_Judge_ofPerson 85 = .ok (.lreturn, 1) := by decide +kernel
theorem d_Judge_ofPerson_86 : decode b_Judge_ofPerson 86 = .ok (.aload_n 0, 1) := by decide +kernel
theorem d_Judge_ofPerson_87 : decode b_Judge_ofPerson 87 = .ok (.aload_n 1, 1) := by decide +kernel
theorem d_Judge_ofPerson_88 : decode b_Judge_ofPerson 88 = .ok (.getfield 61, 3) := by decide +kernel
theorem d_Judge_ofPerson_91 : decode b_Judge_ofPerson 91 = .ok (.iload_n 2, 1) := by decide +kernel
theorem d_Judge_ofPerson_92 : decode b_Judge_ofPerson 92 = .ok (.invokevirtual 65, 3) := by decide +kernel
theorem d_Judge_ofPerson_95 : decode b_Judge_ofPerson 95 = .ok (.lreturn, 1) := by decide +kernel
theorem d_Judge_ofPerson_96 : decode b_Judge_ofPerson 96 = .ok (.aload_n 0, 1) := by decide +kernel
theorem d_Judge_ofPerson_97 : decode b_Judge_ofPerson 97 = .ok (.aload_n 1, 1) := by decide +kernel
theorem d_Judge_ofPerson_98 : decode b_Judge_ofPerson 98 = .ok (.getfield 61, 3) := by decide +kernel
theorem d_Judge_ofPerson_101 : decode b_Judge_ofPerson 101 = .ok (.iload_n 2, 1) := by decide +kernel
theorem d_Judge_ofPerson_102 : decode b_Judge_ofPerson 102 = .ok (.invokevirtual 69, 3) := by decide +kernel
theorem d_Judge_ofPerson_105 : decode b_Judge_ofPerson 105 = .ok (.lreturn, 1) := by decide +kernel
theorem d_Judge_ofPerson_106 : decode b_Judge_ofPerson 106 = .ok (.lconst 0, 1) := by decide +kernel
theorem d_Judge_ofPerson_107 : decode b_Judge_ofPerson 107 = .ok (.lreturn, 1) := by decide +kernel
theorem d_Judge_everywhere_0 : decode b_Judge_everywhere 0 = .ok (.aload_n 1, 1) := by decide +kernel
theorem d_Judge_everywhere_1 : decode b_Judge_everywhere 1 = .ok (.getfield 15, 3) := by decide +kernel
theorem d_Judge_everywhere_4 : decode b_Judge_everywhere 4 = .ok (.iconst 5, 1) := by decide +kernel
theorem d_Judge_everywhere_5 : decode b_Judge_everywhere 5 = .ok (.if_icmp .ne 12, 3) := by decide +kernel
theorem d_Judge_everywhere_8 : decode b_Judge_everywhere 8 = .ok (.aload_n 0, 1) := by decide +kernel
theorem d_Judge_everywhere_9 : decode b_Judge_everywhere 9 = .ok (.aload_n 1, 1) := by decide +kernel
theorem d_Judge_everywhere_10 : decode b_Judge_everywhere 10 = .ok (.getfield 21, 3) := by decide +kernel
theorem d_Judge_everywhere_13 : decode b_Judge_everywhere 13 = .ok (.invokevirtual 24, 3) := by decide +kernel
theorem d_Judge_everywhere_16 : decode b_Judge_everywhere 16 = .ok (.lreturn, 1) := by decide +kernel
theorem d_Judge_everywhere_17 : decode b_Judge_everywhere 17 = .ok (.lconst 0, 1) := by decide +kernel
theorem d_Judge_everywhere_18 : decode b_Judge_everywhere 18 = .ok (.lstore_n 2, 1) := by decide +kernel
theorem d_Judge_everywhere_19 : decode b_Judge_everywhere 19 = .ok (.aload_n 1, 1) := by decide +kernel
theorem d_Judge_everywhere_20 : decode b_Judge_everywhere 20 = .ok (.getfield 15, 3) := by decide +kernel
theorem d_Judge_everywhere_23 : decode b_Judge_everywhere 23 = .ok (.bipush 6, 2) := by decide +kernel
theorem d_Judge_everywhere_25 : decode b_Judge_everywhere 25 = .ok (.if_icmp .ne 36, 3) := by decide +kernel
theorem d_Judge_everywhere_28 : decode b_Judge_everywhere 28 = .ok (.iconst 0, 1) := by decide +kernel
theorem d_Judge_everywhere_29 : decode b_Judge_everywhere 29 = .ok (.istore 4, 2) := by decide +kernel
theorem d_Judge_everywhere_31 : decode b_Judge_everywhere 31 = .ok (.iload 4, 2) := by decide +kernel
theorem d_Judge_everywhere_33 : decode b_Judge_everywhere 33 = .ok (.aload_n 0, 1) := by decide +kernel
theorem d_Judge_everywhere_34 : decode b_Judge_everywhere 34 = .ok (.getfield 9, 3) := by decide +kernel
theorem d_Judge_everywhere_37 : decode b_Judge_everywhere 37 = .ok (.getfield 28, 3) := by decide +kernel
theorem d_Judge_everywhere_40 : decode b_Judge_everywhere 40 = .ok (.if_icmp .ge 19, 3) := by decide +kernel
theorem d_Judge_everywhere_43 : decode b_Judge_everywhere 43 = .ok (.lload_n 2, 1) := by decide +kernel
theorem d_Judge_everywhere_44 : decode b_Judge_everywhere 44 = .ok (.aload_n 0, 1) := by decide +kernel
theorem d_Judge_everywhere_45 : decode b_Judge_everywhere 45 = .ok (.aload_n 1, 1) := by decide +kernel
theorem d_Judge_everywhere_46 : decode b_Judge_everywhere 46 = .ok (.iload 4, 2) := by decide +kernel
theorem d_Judge_everywhere_48 : decode b_Judge_everywhere 48 = .ok (.invokevirtual 33, 3) := by decide +kernel
theorem d_Judge_everywhere_51 : decode b_Judge_everywhere 51 = .ok (.ladd, 1) := by decide +kernel
theorem d_Judge_everywhere_52 : decode b_Judge_everywhere 52 = .ok (.lstore_n 2, 1) := by decide +kernel
theorem d_Judge_everywhere_53 : decode b_Judge_everywhere 53 = .ok (.iinc 4 1, 3) := by decide +kernel
theorem d_Judge_everywhere_56 : decode b_Judge_everywhere 56 = .ok (.goto (-25), 3) := by decide +kernel
theorem d_Judge_everywhere_59 : decode b_Judge_everywhere 59 = .ok (.lload_n 2, 1) := by decide +kernel
theorem d_Judge_everywhere_60 : decode b_Judge_everywhere 60 = .ok (.lreturn, 1) := by decide +kernel
theorem d_Judge_everywhere_61 : decode b_Judge_everywhere 61 = .ok (.iconst 0, 1) := by decide +kernel
theorem d_Judge_everywhere_62 : decode b_Judge_everywhere 62 = .ok (.istore 4, 2) := by decide +kernel
theorem d_Judge_everywhere_64 : decode b_Judge_everywhere 64 = .ok (.iload 4, 2) := by decide +kernel
theorem d_Judge_everywhere_66 : decode b_Judge_everywhere 66 = .ok (.aload_n 0, 1) := by decide +kernel
theorem d_Judge_everywhere_67 : decode b_Judge_everywhere 67 = .ok (.getfield 9, 3) := by decide +kernel
theorem d_Judge_everywhere_70 : decode b_Judge_everywhere 70 = .ok (.getfield 37, 3) := by decide +kernel
theorem d_Judge_everywhere_73 : decode b_Judge_everywhere 73 = .ok (.if_icmp .ge 19, 3) := by decide +kernel
theorem d_Judge_everywhere_76 : decode b_Judge_everywhere 76 = .ok (.lload_n 2, 1) := by decide +kernel
theorem d_Judge_everywhere_77 : decode b_Judge_everywhere 77 = .ok (.aload_n 0, 1) := by decide +kernel
theorem d_Judge_everywhere_78 : decode b_Judge_everywhere 78 = .ok (.aload_n 1, 1) := by decide +kernel
theorem d_Judge_everywhere_79 : decode b_Judge_everywhere 79 = .ok (.iload 4, 2) := by decide +kernel
theorem d_Judge_everywhere_81 : decode b_Judge_everywhere 81 = .ok (.invokevirtual 40, 3) := by decide +kernel
theorem d_Judge_everywhere_84 : decode b_Judge_everywhere 84 = .ok (.ladd, 1) := by decide +kernel
theorem d_Judge_everywhere_85 : decode b_Judge_everywhere 85 = .ok (.lstore_n 2, 1) := by decide +kernel
theorem d_Judge_everywhere_86 : decode b_Judge_everywhere 86 = .ok (.iinc 4 1, 3) := by decide +kernel
theorem d_Judge_everywhere_89 : decode b_Judge_everywhere 89 = .ok (.goto (-25), 3) := by decide +kernel
theorem d_Judge_everywhere_92 : decode b_Judge_everywhere 92 = .ok (.lload_n 2, 1) := by decide +kernel
theorem d_Judge_everywhere_93 : decode b_Judge_everywhere 93 = .ok (.lreturn, 1) := by decide +kernel
theorem d_Judge_aroundCell_0 : decode b_Judge_aroundCell 0 = .ok (.aload_n 1, 1) := by decide +kernel
theorem d_Judge_aroundCell_1 : decode b_Judge_aroundCell 1 = .ok (.getfield 15, 3) := by decide +kernel
theorem d_Judge_aroundCell_4 : decode b_Judge_aroundCell 4 = .ok (.tableswitch 122 0 5 #[40, 48, 58, 93, 103, 113], 40) := by decide +kernel
theorem d_Judge_aroundCell_44 : decode b_Judge_aroundCell 44 = .ok (.aload_n 0, 1) := by decide +kernel
theorem d_Judge_aroundCell_45 : decode b_Judge_aroundCell 45 = .ok (.iload_n 2, 1) := by decide +kernel
theorem d_Judge_aroundCell_46 : decode b_Judge_aroundCell 46 = .ok (.iload_n 3, 1) := by decide +kernel
theorem d_Judge_aroundCell_47 : decode b_Judge_aroundCell 47 = .ok (.iload_n 3, 1) := by decide +kernel
theorem d_Judge_aroundCell_48 : decode b_Judge_aroundCell 48 = .ok (.invokevirtual 43, 3) := by decide +kernel
theorem d_Judge_aroundCell_51 : decode b_Judge_aroundCell 51 = .ok (.lreturn, 1) := by decide +kernel
theorem d_Judge_aroundCell_52 : decode b_Judge_aroundCell 52 = .ok (.aload_n 0, 1) := by decide +kernel
theorem d_Judge_aroundCell_53 : decode b_Judge_aroundCell 53 = .ok (.aload_n 1, 1) := by decide +kernel
theorem d_Judge_aroundCell_54 : decode b_Judge_aroundCell 54 = .ok (.getfield 47, 3) := by decide +kernel
theorem d_Judge_aroundCell_57 : decode b_Judge_aroundCell 57 = .ok (.iload_n 2, 1) := by decide +kernel
theorem d_Judge_aroundCell_58 : decode b_Judge_aroundCell 58 = .ok (.invokevirtual 50, 3) := by decide +kernel
theorem d_Judge_aroundCell_61 : decode b_Judge_aroundCell 61 = .ok (.lreturn, 1) := by decide +kernel
theorem d_Judge_aroundCell_62 : decode b_Judge_aroundCell 62 = .ok (.aload_n 0, 1) := by decide +kernel
theorem d_Judge_aroundCell_63 : decode b_Judge_aroundCell 63 = .ok (.aload_n 1, 1) := by decide +kernel
theorem d_Judge_aroundCell_64 : decode b_Judge_aroundCell 64 = .ok (.iload_n 2, 1) := by decide +kernel
theorem d_Judge_aroundCell_65 : decode b_Judge_aroundCell 65 = .ok (.iconst 0, 1) := by decide +kernel
theorem d_Judge_aroundCell_66 : decode b_Judge_aroundCell 66 = .ok (.iload_n 3, 1) := by decide +kernel
theorem d_Judge_aroundCell_67 : decode b_Judge_aroundCell 67 = .ok (.aload_n 1, 1) := by decide +kernel
theorem d_Judge_aroundCell_68 : decode b_Judge_aroundCell 68 = .ok (.getfield 54, 3) := by decide +kernel
theorem d_Judge_aroundCell_71 : decode b_Judge_aroundCell 71 = .ok (.isub, 1) := by decide +kernel
theorem d_Judge_aroundCell_72 : decode b_Judge_aroundCell 72 = .ok (.iconst 1, 1) := by decide +kernel
theorem d_Judge_aroundCell_73 : decode b_Judge_aroundCell 73 = .ok (.iadd, 1) := by decide +kernel
theorem d_Judge_aroundCell_74 : decode b_Judge_aroundCell 74 = .ok (.invokestatic 72, 3) := by decide +kernel
theorem d_Judge_aroundCell_77 : decode b_Judge_aroundCell 77 = .ok (.iload_n 3, 1) := by decide +kernel
theorem d_Judge_aroundCell_78 : decode b_Judge_aroundCell 78 = .ok (.aload_n 0, 1) := by decide +kernel
theorem d_Judge_aroundCell_79 : decode b_Judge_aroundCell 79 = .ok (.getfield 9, 3) := by decide +kernel
theorem d_Judge_aroundCell_82 : decode b_Judge_aroundCell 82 = .ok (.getfield 28, 3) := by decide +kernel
theorem d_Judge_aroundCell_85 : decode b_Judge_aroundCell 85 = .ok (.aload_n 1, 1) := by decide +kernel
theorem d_Judge_aroundCell_86 : decode b_Judge_aroundCell 86 = .ok (.getfield 54, 3) := by decide +kernel
theorem d_Judge_aroundCell_89 : decode b_Judge_aroundCell 89 = .ok (.isub, 1) := by decide +kernel
theorem d_Judge_aroundCell_90 : decode b_Judge_aroundCell 90 = .ok (.invokestatic 78, 3) := by decide +kernel
theorem d_Judge_aroundCell_93 : decode b_Judge_aroundCell 93 = .ok (.invokevirtual 57, 3) := by decide +kernel
theorem d_Judge_aroundCell_96 : decode b_Judge_aroundCell 96 = .ok (.lreturn, 1) := by decide +kernel
theorem d_Judge_aroundCell_97 : decode b_Judge_aroundCell 97 = .ok (.aload_n 0, 1) := by decide +kernel
theorem d_Judge_aroundCell_98 : decode b_Judge_aroundCell 98 = .ok (.aload_n 1, 1) := by decide +kernel
theorem d_Judge_aroundCell_99 : decode b_Judge_aroundCell 99 = .ok (.getfield 61, 3) := by decide +kernel
theorem d_Judge_aroundCell_102 : decode b_Judge_aroundCell 102 = .ok (.iload_n 2, 1) := by decide +kernel
theorem d_Judge_aroundCell_103 : decode b_Judge_aroundCell 103 = .ok (.invokevirtual 65, 3) := by decide +kernel
theorem d_Judge_aroundCell_106 : decode b_Judge_aroundCell 106 = .ok (.lreturn, 1) := by decide +kernel
theorem d_Judge_aroundCell_107 : decode b_Judge_aroundCell 107 = .ok (.aload_n 0, 1) := by decide +kernel
theorem d_Judge_aroundCell_108 : decode b_Judge_aroundCell 108 = .ok (.aload_n 1, 1) := by decide +kernel
theorem d_Judge_aroundCell_109 : decode b_Judge_aroundCell 109 = .ok (.getfield 61, 3) := by decide +kernel
theorem d_Judge_aroundCell_112 : decode b_Judge_aroundCell 112 = .ok (.iload_n 2, 1) := by decide +kernel
theorem d_Judge_aroundCell_113 : decode b_Judge_aroundCell 113 = .ok (.invokevirtual 69, 3) := by decide +kernel
theorem d_Judge_aroundCell_116 : decode b_Judge_aroundCell 116 = .ok (.lreturn, 1) := by decide +kernel
theorem d_Judge_aroundCell_117 : decode b_Judge_aroundCell 117 = .ok (.aload_n 0, 1) := by decide +kernel
theorem d_Judge_aroundCell_118 : decode b_Judge_aroundCell 118 = .ok (.aload_n 1, 1) := by decide +kernel
theorem d_Judge_aroundCell_119 : decode b_Judge_aroundCell 119 = .ok (.getfield 21, 3) := by decide +kernel
theorem d_Judge_aroundCell_122 : decode b_Judge_aroundCell 122 = .ok (.invokevirtual 24, 3) := by decide +kernel
theorem d_Judge_aroundCell_125 : decode b_Judge_aroundCell 125 = .ok (.lreturn, 1) := by decide +kernel
theorem d_Judge_aroundCell_126 : decode b_Judge_aroundCell 126 = .ok (.aload_n 0, 1) := by decide +kernel
theorem d_Judge_aroundCell_127 : decode b_Judge_aroundCell 127 = .ok (.aload_n 1, 1) := by decide +kernel
theorem d_Judge_aroundCell_128 : decode b_Judge_aroundCell 128 = .ok (.iload_n 3, 1) := by decide +kernel
theorem d_Judge_aroundCell_129 : decode b_Judge_aroundCell 129 = .ok (.invokevirtual 33, 3) := by decide +kernel
theorem d_Judge_aroundCell_132 : decode b_Judge_aroundCell 132 = .ok (.lreturn, 1) := by decide +kernel
theorem d_Positions_init_0 : decode b_Positions_init 0 = .ok (.aload_n 0, 1) := by decide +kernel
theorem d_Positions_init_1 : decode b_Positions_init 1 = .ok (.invokespecial 5, 3) := by decide +kernel
theorem d_Positions_init_4 : decode b_Positions_init 4 = .ok (.aload_n 0, 1) := by decide +kernel
theorem d_Positions_init_5 : decode b_Positions_init 5 = .ok (.bipush 9, 2) := by decide +kernel
theorem d_Positions_init_7 : decode b_Positions_init 7 = .ok (.newarray .int, 2) := by decide +kernel
theorem d_Positions_init_9 : decode b_Positions_init 9 = .ok (.putfield 11, 3) := by decide +kernel
theorem d_Positions_init_12 : decode b_Positions_init 12 = .ok (.aload_n 0, 1) := by decide +kernel
theorem d_Positions_init_13 : decode b_Positions_init 13 = .ok (.bipush 10, 2) := by decide +kernel
theorem d_Positions_init_15 : decode b_Positions_init 15 = .ok (.newarray .int, 2) := by decide +kernel
theorem d_Positions_init_17 : decode b_Positions_init 17 = .ok (.putfield 15, 3) := by decide +kernel
theorem d_Positions_init_20 : decode b_Positions_init 20 = .ok (.aload_n 0, 1) := by decide +kernel
theorem d_Positions_init_21 : decode b_Positions_init 21 = .ok (.bipush 32, 2) := by decide +kernel
theorem d_Positions_init_23 : decode b_Positions_init 23 = .ok (.newarray .int, 2) := by decide +kernel
theorem d_Positions_init_25 : decode b_Positions_init 25 = .ok (.putfield 18, 3) := by decide +kernel
theorem d_Positions_init_28 : decode b_Positions_init 28 = .ok (.aload_n 0, 1) := by decide +kernel
theorem d_Positions_init_29 : decode b_Positions_init 29 = .ok (.bipush 32, 2) := by decide +kernel
theorem d_Positions_init_31 : decode b_Positions_init 31 = .ok (.newarray .int, 2) := by decide +kernel
theorem d_Positions_init_33 : decode b_Positions_init 33 = .ok (.putfield 21, 3) := by decide +kernel
theorem d_Positions_init_36 : decode b_Positions_init 36 = .ok (.return_, 1) := by decide +kernel
theorem d_Law_init_0 : decode b_Law_init 0 = .ok (.aload_n 0, 1) := by decide +kernel
theorem d_Law_init_1 : decode b_Law_init 1 = .ok (.invokespecial 1, 3) := by decide +kernel
theorem d_Law_init_4 : decode b_Law_init 4 = .ok (.aload_n 0, 1) := by decide +kernel
theorem d_Law_init_5 : decode b_Law_init 5 = .ok (.new 7, 3) := by decide +kernel
theorem d_Law_init_8 : decode b_Law_init 8 = .ok (.dup, 1) := by decide +kernel
theorem d_Law_init_9 : decode b_Law_init 9 = .ok (.invokespecial 9, 3) := by decide +kernel
theorem d_Law_init_12 : decode b_Law_init 12 = .ok (.putfield 10, 3) := by decide +kernel
theorem d_Law_init_15 : decode b_Law_init 15 = .ok (.aload_n 0, 1) := by decide +kernel
theorem d_Law_init_16 : decode b_Law_init 16 = .ok (.new 16, 3) := by decide +kernel
theorem d_Law_init_19 : decode b_Law_init 19 = .ok (.dup, 1) := by decide +kernel
theorem d_Law_init_20 : decode b_Law_init 20 = .ok (.invokespecial 18, 3) := by decide +kernel
theorem d_Law_init_23 : decode b_Law_init 23 = .ok (.putfield 19, 3) := by decide +kernel
theorem d_Law_init_26 : decode b_Law_init 26 = .ok (.return_, 1) := by decide +kernel
theorem d_Law_start_0 : decode b_Law_start 0 = .ok (.aload_n 0, 1) := by decide +kernel
theorem d_Law_start_1 : decode b_Law_start 1 = .ok (.iload_n 1, 1) := by decide +kernel
theorem d_Law_start_2 : decode b_Law_start 2 = .ok (.putfield 37, 3) := by decide +kernel
theorem d_Law_start_5 : decode b_Law_start 5 = .ok (.aload_n 0, 1) := by decide +kernel
theorem d_Law_start_6 : decode b_Law_start 6 = .ok (.iload_n 2, 1) := by decide +kernel
theorem d_Law_start_7 : decode b_Law_start 7 = .ok (.putfield 41, 3) := by decide +kernel
theorem d_Law_start_10 : decode b_Law_start 10 = .ok (.aload_n 0, 1) := by decide +kernel
theorem d_Law_start_11 : decode b_Law_start 11 = .ok (.getfield 19, 3) := by decide +kernel
theorem d_Law_start_14 : decode b_Law_start 14 = .ok (.iconst 0, 1) := by decide +kernel
theorem d_Law_start_15 : decode b_Law_start 15 = .ok (.putfield 44, 3) := by decide +kernel
theorem d_Law_start_18 : decode b_Law_start 18 = .ok (.return_, 1) := by decide +kernel
theorem d_Law_hasPattern_0 : decode b_Law_hasPattern 0 = .ok (.aload_n 0, 1) := by decide +kernel
theorem d_Law_hasPattern_1 : decode b_Law_hasPattern 1 = .ok (.getfield 37, 3) := by decide +kernel
theorem d_Law_hasPattern_4 : decode b_Law_hasPattern 4 = .ok (.iconst 3, 1) := by decide +kernel
theorem d_Law_hasPattern_5 : decode b_Law_hasPattern 5 = .ok (.if_icmp .eq 11, 3) := by decide +kernel
theorem d_Law_hasPattern_8 : decode b_Law_hasPattern 8 = .ok (.aload_n 0, 1) := by decide +kernel
theorem d_Law_hasPattern_9 : decode b_Law_hasPattern 9 = .ok (.getfield 37, 3) := by decide +kernel
theorem d_Law_hasPattern_12 : decode b_Law_hasPattern 12 = .ok (.iconst 4, 1) := by decide +kernel
theorem d_Law_hasPattern_13 : decode b_Law_hasPattern 13 = .ok (.if_icmp .ne 7, 3) := by decide +kernel
theorem d_Law_hasPattern_16 : decode b_Law_hasPattern 16 = .ok (.iconst 1, 1) := by decide +kernel
theorem d_Law_hasPattern_17 : decode b_Law_hasPattern 17 = .ok (.goto 4, 3) := by decide +kernel
theorem d_Law_hasPattern_20 : decode b_Law_hasPattern 20 = .ok (.iconst 0, 1) := by decide +kernel
theorem d_Law_hasPattern_21 : decode b_Law_hasPattern 21 = .ok (.ireturn, 1) := by decide +kernel
theorem d_Tokens_init_0 : decode b_Tokens_init 0 = .ok (.aload_n 0, 1) := by decide +kernel
theorem d_Tokens_init_1 : decode b_Tokens_init 1 = .ok (.invokespecial 3, 3) := by decide +kernel
theorem d_Tokens_init_4 : decode b_Tokens_init 4 = .ok (.aload_n 0, 1) := by decide +kernel
theorem d_Tokens_init_5 : decode b_Tokens_init 5 = .ok (.aload_n 1, 1) := by decide +kernel
theorem d_Tokens_init_6 : decode b_Tokens_init 6 = .ok (.putfield 9, 3) := by decide +kernel
theorem d_Tokens_init_9 : decode b_Tokens_init 9 = .ok (.return_, 1) := by decide +kernel
theorem d_PatternParser_init_0 : decode b_PatternParser_init 0 = .ok (.aload_n 0, 1) := by decide +kernel
theorem d_PatternParser_init_1 : decode b_PatternParser_init 1 = .ok (.invokespecial 5, 3) := by decide +kernel
theorem d_PatternParser_init_4 : decode b_PatternParser_init 4 = .ok (.aload_n 0, 1) := by decide +kernel
theorem d_PatternParser_init_5 : decode b_PatternParser_init 5 = .ok (.bipush 41, 2) := by decide +kernel
theorem d_PatternParser_init_7 : decode b_PatternParser_init 7 = .ok (.newarray .int, 2) := by decide +kernel
theorem d_PatternParser_init_9 : decode b_PatternParser_init 9 = .ok (.putfield 13, 3) := by decide +kernel
theorem d_PatternParser_init_12 : decode b_PatternParser_init 12 = .ok (.aload_n 0, 1) := by decide +kernel
theorem d_PatternParser_init_13 : decode b_PatternParser_init 13 = .ok (.bipush 41, 2) := by decide +kernel
theorem d_PatternParser_init_15 : decode b_PatternParser_init 15 = .ok (.newarray .int, 2) := by decide +kernel
theorem d_PatternParser_init_17 : decode b_PatternParser_init 17 = .ok (.putfield 17, 3) := by decide +kernel
theorem d_PatternParser_init_20 : decode b_PatternParser_init 20 = .ok (.aload_n 0, 1) := by decide +kernel
theorem d_PatternParser_init_21 : decode b_PatternParser_init 21 = .ok (.bipush 41, 2) := by decide +kernel
theorem d_PatternParser_init_23 : decode b_PatternParser_init 23 = .ok (.newarray .int, 2) := by decide +kernel
theorem d_PatternParser_init_25 : decode b_PatternParser_init 25 = .ok (.putfield 20, 3) := by decide +kernel
theorem d_PatternParser_init_28 : decode b_PatternParser_init 28 = .ok (.aload_n 0, 1) := by decide +kernel
theorem d_PatternParser_init_29 : decode b_PatternParser_init 29 = .ok (.aload_n 1, 1) := by decide +kernel
theorem d_PatternParser_init_30 : decode b_PatternParser_init 30 = .ok (.putfield 23, 3) := by decide +kernel
theorem d_PatternParser_init_33 : decode b_PatternParser_init 33 = .ok (.return_, 1) := by decide +kernel
theorem d_LawReader_init_0 : decode b_LawReader_init 0 = .ok (.aload_n 0, 1) := by decide +kernel
theorem d_LawReader_init_1 : decode b_LawReader_init 1 = .ok (.invokespecial 3, 3) := by decide +kernel
theorem d_LawReader_init_4 : decode b_LawReader_init 4 = .ok (.aload_n 0, 1) := by decide +kernel
theorem d_LawReader_init_5 : decode b_LawReader_init 5 = .ok (.bipush (-2), 2) := by decide +kernel
theorem d_LawReader_init_7 : decode b_LawReader_init 7 = .ok (.putfield 9, 3) := by decide +kernel
theorem d_LawReader_init_10 : decode b_LawReader_init 10 = .ok (.aload_n 0, 1) := by decide +kernel
theorem d_LawReader_init_11 : decode b_LawReader_init 11 = .ok (.new 15, 3) := by decide +kernel
theorem d_LawReader_init_14 : decode b_LawReader_init 14 = .ok (.dup, 1) := by decide +kernel
theorem d_LawReader_init_15 : decode b_LawReader_init 15 = .ok (.aload_n 1, 1) := by decide +kernel
theorem d_LawReader_init_16 : decode b_LawReader_init 16 = .ok (.invokespecial 17, 3) := by decide +kernel
theorem d_LawReader_init_19 : decode b_LawReader_init 19 = .ok (.putfield 20, 3) := by decide +kernel
theorem d_LawReader_init_22 : decode b_LawReader_init 22 = .ok (.aload_n 0, 1) := by decide +kernel
theorem d_LawReader_init_23 : decode b_LawReader_init 23 = .ok (.new 24, 3) := by decide +kernel
theorem d_LawReader_init_26 : decode b_LawReader_init 26 = .ok (.dup, 1) := by decide +kernel
theorem d_LawReader_init_27 : decode b_LawReader_init 27 = .ok (.aload_n 1, 1) := by decide +kernel
theorem d_LawReader_init_28 : decode b_LawReader_init 28 = .ok (.invokespecial 26, 3) := by decide +kernel
theorem d_LawReader_init_31 : decode b_LawReader_init 31 = .ok (.putfield 27, 3) := by decide +kernel
theorem d_LawReader_init_34 : decode b_LawReader_init 34 = .ok (.aload_n 0, 1) := by decide +kernel
theorem d_LawReader_init_35 : decode b_LawReader_init 35 = .ok (.iload_n 2, 1) := by decide +kernel
theorem d_LawReader_init_36 : decode b_LawReader_init 36 = .ok (.putfield 31, 3) := by decide +kernel
theorem d_LawReader_init_39 : decode b_LawReader_init 39 = .ok (.return_, 1) := by decide +kernel
theorem d_Tokens_rewind_0 : decode b_Tokens_rewind 0 = .ok (.aload_n 0, 1) := by decide +kernel
theorem d_Tokens_rewind_1 : decode b_Tokens_rewind 1 = .ok (.iconst 0, 1) := by decide +kernel
theorem d_Tokens_rewind_2 : decode b_Tokens_rewind 2 = .ok (.putfield 15, 3) := by decide +kernel
theorem d_Tokens_rewind_5 : decode b_Tokens_rewind 5 = .ok (.return_, 1) := by decide +kernel
theorem d_Tape_byteAt_0 : decode b_Tape_byteAt 0 = .ok (.iload_n 1, 1) := by decide +kernel
theorem d_Tape_byteAt_1 : decode b_Tape_byteAt 1 = .ok (.ifCond .lt 20, 3) := by decide +kernel
theorem d_Tape_byteAt_4 : decode b_Tape_byteAt 4 = .ok (.iload_n 1, 1) := by decide +kernel
theorem d_Tape_byteAt_5 : decode b_Tape_byteAt 5 = .ok (.aload_n 0, 1) := by decide +kernel
theorem d_Tape_byteAt_6 : decode b_Tape_byteAt 6 = .ok (.getfield 15, 3) := by decide +kernel
theorem d_Tape_byteAt_9 : decode b_Tape_byteAt 9 = .ok (.if_icmp .ge 12, 3) := by decide +kernel
theorem d_Tape_byteAt_12 : decode b_Tape_byteAt 12 = .ok (.aload_n 0, 1) := by decide +kernel
theorem d_Tape_byteAt_13 : decode b_Tape_byteAt 13 = .ok (.getfield 9, 3) := by decide +kernel
theorem d_Tape_byteAt_16 : decode b_Tape_byteAt 16 = .ok (.iload_n 1, 1) := by decide +kernel
theorem d_Tape_byteAt_17 : decode b_Tape_byteAt 17 = .ok (.iaload, 1) := by decide +kernel
theorem d_Tape_byteAt_18 : decode b_Tape_byteAt 18 = .ok (.goto 4, 3) := by decide +kernel
theorem d_Tape_byteAt_21 : decode b_Tape_byteAt 21 = .ok (.iconst (-1), 1) := by decide +kernel
theorem d_Tape_byteAt_22 : decode b_Tape_byteAt 22 = .ok (.ireturn, 1) := by decide +kernel
theorem d_Tokens_runEnd_0 : decode b_Tokens_runEnd 0 = .ok (.aload_n 0, 1) := by decide +kernel
theorem d_Tokens_runEnd_1 : decode b_Tokens_runEnd 1 = .ok (.getfield 19, 3) := by decide +kernel
theorem d_Tokens_runEnd_4 : decode b_Tokens_runEnd 4 = .ok (.istore_n 3, 1) := by decide +kernel
theorem d_Tokens_runEnd_5 : decode b_Tokens_runEnd 5 = .ok (.iload_n 3, 1) := by decide +kernel
theorem d_Tokens_runEnd_6 : decode b_Tokens_runEnd 6 = .ok (.aload_n 0, 1) := by decide +kernel
theorem d_Tokens_runEnd_7 : decode b_Tokens_runEnd 7 = .ok (.getfield 9, 3) := by decide +kernel
theorem d_Tokens_runEnd_10 : decode b_Tokens_runEnd 10 = .ok (.getfield 22, 3) := by decide +kernel
theorem d_Tokens_runEnd_13 : decode b_Tokens_runEnd 13 = .ok (.if_icmp .ge 35, 3) := by decide +kernel
theorem d_Tokens_runEnd_16 : decode b_Tokens_runEnd 16 = .ok (.aload_n 0, 1) := by decide +kernel
theorem d_Tokens_runEnd_17 : decode b_Tokens_runEnd 17 = .ok (.getfield 9, 3) := by decide +kernel
theorem d_Tokens_runEnd_20 : decode b_Tokens_runEnd 20 = .ok (.getfield 27, 3) := by decide +kernel
theorem d_Tokens_runEnd_23 : decode b_Tokens_runEnd 23 = .ok (.iload_n 3, 1) := by decide +kernel
theorem d_Tokens_runEnd_24 : decode b_Tokens_runEnd 24 = .ok (.iaload, 1) := by decide +kernel
theorem d_Tokens_runEnd_25 : decode b_Tokens_runEnd 25 = .ok (.iload_n 1, 1) := by decide +kernel
theorem d_Tokens_runEnd_26 : decode b_Tokens_runEnd 26 = .ok (.if_icmp .lt 22, 3) := by decide +kernel
theorem d_Tokens_runEnd_29 : decode b_Tokens_runEnd 29 = .ok (.aload_n 0, 1) := by decide +kernel
theorem d_Tokens_runEnd_30 : decode b_Tokens_runEnd 30 = .ok (.getfield 9, 3) := by decide +kernel
theorem d_Tokens_runEnd_33 : decode b_Tokens_runEnd 33 = .ok (.getfield 27, 3) := by decide +kernel
theorem d_Tokens_runEnd_36 : decode b_Tokens_runEnd 36 = .ok (.iload_n 3, 1) := by decide +kernel
theorem d_Tokens_runEnd_37 : decode b_Tokens_runEnd 37 = .ok (.iaload, 1) := by decide +kernel
theorem d_Tokens_runEnd_38 : decode b_Tokens_runEnd 38 = .ok (.iload_n 2, 1) := by decide +kernel
theorem d_Tokens_runEnd_39 : decode b_Tokens_runEnd 39 = .ok (.if_icmp .gt 9, 3) := by decide +kernel
theorem d_Tokens_runEnd_42 : decode b_Tokens_runEnd 42 = .ok (.iinc 3 1, 3) := by decide +kernel
theorem d_Tokens_runEnd_45 : decode b_Tokens_runEnd 45 = .ok (.goto (-40), 3) := by decide +kernel
theorem d_Tokens_runEnd_48 : decode b_Tokens_runEnd 48 = .ok (.iload_n 3, 1) := by decide +kernel
theorem d_Tokens_runEnd_49 : decode b_Tokens_runEnd 49 = .ok (.ireturn, 1) := by decide +kernel
theorem d_Tokens_closePattern_0 : decode b_Tokens_closePattern 0 = .ok (.aload_n 0, 1) := by decide +kernel
theorem d_Tokens_closePattern_1 : decode b_Tokens_closePattern 1 = .ok (.getfield 19, 3) := by decide +kernel
theorem d_Tokens_closePattern_4 : decode b_Tokens_closePattern 4 = .ok (.iconst 1, 1) := by decide +kernel
theorem d_Tokens_closePattern_5 : decode b_Tokens_closePattern 5 = .ok (.iadd, 1) := by decide +kernel
theorem d_Tokens_closePattern_6 : decode b_Tokens_closePattern 6 = .ok (.istore_n 1, 1) := by decide +kernel
theorem d_Tokens_closePattern_7 : decode b_Tokens_closePattern 7 = .ok (.iload_n 1, 1) := by decide +kernel
theorem d_Tokens_closePattern_8 : decode b_Tokens_closePattern 8 = .ok (.aload_n 0, 1) := by decide +kernel
theorem d_Tokens_closePattern_9 : decode b_Tokens_closePattern 9 = .ok (.getfield 9, 3) := by decide +kernel
theorem d_Tokens_closePattern_12 : decode b_Tokens_closePattern 12 = .ok (.getfield 22, 3) := by decide +kernel
theorem d_Tokens_closePattern_15 : decode b_Tokens_closePattern 15 = .ok (.if_icmp .ge 51, 3) := by decide +kernel
theorem d_Tokens_closePattern_18 : decode b_Tokens_closePattern 18 = .ok (.aload_n 0, 1) := by decide +kernel
theorem d_Tokens_closePattern_19 : decode b_Tokens_closePattern 19 = .ok (.getfield 9, 3) := by decide +kernel
theorem d_Tokens_closePattern_22 : decode b_Tokens_closePattern 22 = .ok (.getfield 27, 3) := by decide +kernel
theorem d_Tokens_closePattern_25 : decode b_Tokens_closePattern 25 = .ok (.iload_n 1, 1) := by decide +kernel
theorem d_Tokens_closePattern_26 : decode b_Tokens_closePattern 26 = .ok (.iaload, 1) := by decide +kernel
theorem d_Tokens_closePattern_27 : decode b_Tokens_closePattern 27 = .ok (.bipush 34, 2) := by decide +kernel
theorem d_Tokens_closePattern_29 : decode b_Tokens_closePattern 29 = .ok (.if_icmp .eq 37, 3) := by decide +kernel
theorem d_Tokens_closePattern_32 : decode b_Tokens_closePattern 32 = .ok (.aload_n 0, 1) := by decide +kernel
theorem d_Tokens_closePattern_33 : decode b_Tokens_closePattern 33 = .ok (.getfield 9, 3) := by decide +kernel
theorem d_Tokens_closePattern_36 : decode b_Tokens_closePattern 36 = .ok (.getfield 27, 3) := by decide +kernel
theorem d_Tokens_closePattern_39 : decode b_Tokens_closePattern 39 = .ok (.iload_n 1, 1) := by decide +kernel
theorem d_Tokens_closePattern_40 : decode b_Tokens_closePattern 40 = .ok (.iaload, 1) := by decide +kernel
theorem d_Tokens_closePattern_41 : decode b_Tokens_closePattern 41 = .ok (.bipush 33, 2) := by decide +kernel
theorem d_Tokens_closePattern_43 : decode b_Tokens_closePattern 43 = .ok (.if_icmp .lt 23, 3) := by decide +kernel
theorem d_Tokens_closePattern_46 : decode b_Tokens_closePattern 46 = .ok (.aload_n 0, 1) := by decide +kernel
theorem d_Tokens_closePattern_47 : decode b_Tokens_closePattern 47 = .ok (.getfield 9, 3) := by decide +kernel
theorem d_Tokens_closePattern_50 : decode b_Tokens_closePattern 50 = .ok (.getfield 27, 3) := by decide +kernel
theorem d_Tokens_closePattern_53 : decode b_Tokens_closePattern 53 = .ok (.iload_n 1, 1) := by decide +kernel
theorem d_Tokens_closePattern_54 : decode b_Tokens_closePattern 54 = .ok (.iaload, 1) := by decide +kernel
theorem d_Tokens_closePattern_55 : decode b_Tokens_closePattern 55 = .ok (.bipush 126, 2) := by decide +kernel
theorem d_Tokens_closePattern_57 : decode b_Tokens_closePattern 57 = .ok (.if_icmp .gt 9, 3) := by decide +kernel
theorem d_Tokens_closePattern_60 : decode b_Tokens_closePattern 60 = .ok (.iinc 1 1, 3) := by decide +kernel
theorem d_Tokens_closePattern_63 : decode b_Tokens_closePattern 63 = .ok (.goto (-56), 3) := by decide +kernel
theorem d_Tokens_closePattern_66 : decode b_Tokens_closePattern 66 = .ok (.aload_n 0, 1) := by decide +kernel
theorem d_Tokens_closePattern_67 : decode b_Tokens_closePattern 67 = .ok (.iload_n 1, 1) := by decide +kernel
theorem d_Tokens_closePattern_68 : decode b_Tokens_closePattern 68 = .ok (.iconst 1, 1) := by decide +kernel
theorem d_Tokens_closePattern_69 : decode b_Tokens_closePattern 69 = .ok (.iadd, 1) := by decide +kernel
theorem d_Tokens_closePattern_70 : decode b_Tokens_closePattern 70 = .ok (.putfield 15, 3) := by decide +kernel
theorem d_Tokens_closePattern_73 : decode b_Tokens_closePattern 73 = .ok (.iload_n 1, 1) := by decide +kernel
theorem d_Tokens_closePattern_74 : decode b_Tokens_closePattern 74 = .ok (.aload_n 0, 1) := by decide +kernel
theorem d_Tokens_closePattern_75 : decode b_Tokens_closePattern 75 = .ok (.getfield 9, 3) := by decide +kernel
theorem d_Tokens_closePattern_78 : decode b_Tokens_closePattern 78 = .ok (.getfield 22, 3) := by decide +kernel
theorem d_Tokens_closePattern_81 : decode b_Tokens_closePattern 81 = .ok (.if_icmp .ge 34, 3) := by decide +kernel
theorem d_Tokens_closePattern_84 : decode b_Tokens_closePattern 84 = .ok (.aload_n 0, 1) := by decide +kernel
theorem d_Tokens_closePattern_85 : decode b_Tokens_closePattern 85 = .ok (.getfield 9, 3) := by decide +kernel
theorem d_Tokens_closePattern_88 : decode b_Tokens_closePattern 88 = .ok (.getfield 27, 3) := by decide +kernel
theorem d_Tokens_closePattern_91 : decode b_Tokens_closePattern 91 = .ok (.iload_n 1, 1) := by decide +kernel
theorem d_Tokens_closePattern_92 : decode b_Tokens_closePattern 92 = .ok (.iaload, 1) := by decide +kernel
theorem d_Tokens_closePattern_93 : decode b_Tokens_closePattern 93 = .ok (.bipush 34, 2) := by decide +kernel
theorem d_Tokens_closePattern_95 : decode b_Tokens_closePattern 95 = .ok (.if_icmp .ne 20, 3) := by decide +kernel
theorem d_Tokens_closePattern_98 : decode b_Tokens_closePattern 98 = .ok (.iload_n 1, 1) := by decide +kernel
theorem d_Tokens_closePattern_99 : decode b_Tokens_closePattern 99 = .ok (.aload_n 0, 1) := by decide +kernel
theorem d_Tokens_closePattern_100 : decode b_Tokens_closePattern 100 = .ok (.getfield 19, 3) := by decide +kernel
theorem d_Tokens_closePattern_103 : decode b_Tokens_closePattern 103 = .ok (.isub, 1) := by decide +kernel
theorem d_Tokens_closePattern_104 : decode b_Tokens_closePattern 104 = .ok (.iconst 1, 1) := by decide +kernel
theorem d_Tokens_closePattern_105 : decode b_Tokens_closePattern 105 = .ok (.isub, 1) := by decide +kernel
theorem d_Tokens_closePattern_106 : decode b_Tokens_closePattern 106 = .ok (.bipush 40, 2) := by decide +kernel
theorem d_Tokens_closePattern_108 : decode b_Tokens_closePattern 108 = .ok (.if_icmp .gt 7, 3) := by decide +kernel
theorem d_Tokens_closePattern_111 : decode b_Tokens_closePattern 111 = .ok (.iconst 1, 1) := by decide +kernel
theorem d_Tokens_closePattern_112 : decode b_Tokens_closePattern 112 = .ok (.goto 4, 3) := by decide +kernel
theorem d_Tokens_closePattern_115 : decode b_Tokens_closePattern 115 = .ok (.iconst 0, 1) := by decide +kernel
theorem d_Tokens_closePattern_116 : decode b_Tokens_closePattern 116 = .ok (.ireturn, 1) := by decide +kernel
theorem d_Tokens_kindFrom_0 : decode b_Tokens_kindFrom 0 = .ok (.iload_n 1, 1) := by decide +kernel
theorem d_Tokens_kindFrom_1 : decode b_Tokens_kindFrom 1 = .ok (.iconst (-1), 1) := by decide +kernel
theorem d_Tokens_kindFrom_2 : decode b_Tokens_kindFrom 2 = .ok (.if_icmp .ne 5, 3) := by decide +kernel
theorem d_Tokens_kindFrom_5 : decode b_Tokens_kindFrom 5 = .ok (.iconst 1, 1) := by decide +kernel
theorem d_Tokens_kindFrom_6 : decode b_Tokens_kindFrom 6 = .ok (.ireturn, 1) := by decide +kernel
theorem d_Tokens_kindFrom_7 : decode b_Tokens_kindFrom 7 = .ok (.iload_n 1, 1) := by decide +kernel
theorem d_Tokens_kindFrom_8 : decode b_Tokens_kindFrom 8 = .ok (.bipush 59, 2) := by decide +kernel
theorem d_Tokens_kindFrom_10 : decode b_Tokens_kindFrom 10 = .ok (.if_icmp .ne 15, 3) := by decide +kernel
theorem d_Tokens_kindFrom_13 : decode b_Tokens_kindFrom 13 = .ok (.aload_n 0, 1) := by decide +kernel
theorem d_Tokens_kindFrom_14 : decode b_Tokens_kindFrom 14 = .ok (.aload_n 0, 1) := by decide +kernel
theorem d_Tokens_kindFrom_15 : decode b_Tokens_kindFrom 15 = .ok (.getfield 19, 3) := by decide +kernel
theorem d_Tokens_kindFrom_18 : decode b_Tokens_kindFrom 18 = .ok (.iconst 1, 1) := by decide +kernel
theorem d_Tokens_kindFrom_19 : decode b_Tokens_kindFrom 19 = .ok (.iadd, 1) := by decide +kernel
theorem d_Tokens_kindFrom_20 : decode b_Tokens_kindFrom 20 = .ok (.putfield 15, 3) := by decide +kernel
theorem d_Tokens_kindFrom_23 : decode b_Tokens_kindFrom 23 = .ok (.iconst 5, 1) := by decide +kernel
theorem d_Tokens_kindFrom_24 : decode b_Tokens_kindFrom 24 = .ok (.ireturn, 1) := by decide +kernel
theorem d_Tokens_kindFrom_25 : decode b_Tokens_kindFrom 25 = .ok (.iload_n 1, 1) := by decide +kernel
theorem d_Tokens_kindFrom_26 : decode b_Tokens_kindFrom 26 = .ok (.bipush 97, 2) := by decide +kernel
theorem d_Tokens_kindFrom_28 : decode b_Tokens_kindFrom 28 = .ok (.if_icmp .lt 41, 3) := by decide +kernel
theorem d_Tokens_kindFrom_31 : decode b_Tokens_kindFrom 31 = .ok (.iload_n 1, 1) := by decide +kernel
theorem d_Tokens_kindFrom_32 : decode b_Tokens_kindFrom 32 = .ok (.bipush 122, 2) := by decide +kernel
theorem d_Tokens_kindFrom_34 : decode b_Tokens_kindFrom 34 = .ok (.if_icmp .gt 35, 3) := by decide +kernel
theorem d_Tokens_kindFrom_37 : decode b_Tokens_kindFrom 37 = .ok (.aload_n 0, 1) := by decide +kernel
theorem d_Tokens_kindFrom_38 : decode b_Tokens_kindFrom 38 = .ok (.aload_n 0, 1) := by decide +kernel
theorem d_Tokens_kindFrom_39 : decode b_Tokens_kindFrom 39 = .ok (.bipush 97, 2) := by decide +kernel
theorem d_Tokens_kindFrom_41 : decode b_Tokens_kindFrom 41 = .ok (.bipush 122, 2) := by decide +kernel
theorem d_Tokens_kindFrom_43 : decode b_Tokens_kindFrom 43 = .ok (.invokevirtual 41, 3) := by decide +kernel
theorem d_Tokens_kindFrom_46 : decode b_Tokens_kindFrom 46 = .ok (.putfield 15, 3) := by decide +kernel
theorem d_Tokens_kindFrom_49 : decode b_Tokens_kindFrom 49 = .ok (.aload_n 0, 1) := by decide +kernel
theorem d_Tokens_kindFrom_50 : decode b_Tokens_kindFrom 50 = .ok (.getfield 15, 3) := by decide +kernel
theorem d_Tokens_kindFrom_53 : decode b_Tokens_kindFrom 53 = .ok (.aload_n 0, 1) := by decide +kernel
theorem d_Tokens_kindFrom_54 : decode b_Tokens_kindFrom 54 = .ok (.getfield 19, 3) := by decide +kernel
theorem d_Tokens_kindFrom_57 : decode b_Tokens_kindFrom 57 = .ok (.isub, 1) := by decide +kernel
theorem d_Tokens_kindFrom_58 : decode b_Tokens_kindFrom 58 = .ok (.bipush 8, 2) := by decide +kernel
theorem d_Tokens_kindFrom_60 : decode b_Tokens_kindFrom 60 = .ok (.if_icmp .gt 7, 3) := by decide +kernel
theorem d_Tokens_kindFrom_63 : decode b_Tokens_kindFrom 63 = .ok (.iconst 2, 1) := by decide +kernel
theorem d_Tokens_kindFrom_64 : decode b_Tokens_kindFrom 64 = .ok (.goto 4, 3) := by decide +kernel
theorem d_Tokens_kindFrom_67 : decode b_Tokens_kindFrom 67 = .ok (.iconst 0, 1) := by decide +kernel
theorem d_Tokens_kindFrom_68 : decode b_Tokens_kindFrom 68 = .ok (.ireturn, 1) := by decide +kernel
theorem d_Tokens_kindFrom_69 : decode b_Tokens_kindFrom 69 = .ok (.iload_n 1, 1) := by decide +kernel
theorem d_Tokens_kindFrom_70 : decode b_Tokens_kindFrom 70 = .ok (.bipush 48, 2) := by decide +kernel
theorem d_Tokens_kindFrom_72 : decode b_Tokens_kindFrom 72 = .ok (.if_icmp .lt 41, 3) := by decide +kernel
theorem d_Tokens_kindFrom_75 : decode b_Tokens_kindFrom 75 = .ok (.iload_n 1, 1) := by decide +kernel
theorem d_Tokens_kindFrom_76 : decode b_Tokens_kindFrom 76 = .ok (.bipush 57, 2) := by decide +kernel
theorem d_Tokens_kindFrom_78 : decode b_Tokens_kindFrom 78 = .ok (.if_icmp .gt 35, 3) := by decide +kernel
theorem d_Tokens_kindFrom_81 : decode b_Tokens_kindFrom 81 = .ok (.aload_n 0, 1) := by decide +kernel
theorem d_Tokens_kindFrom_82 : decode b_Tokens_kindFrom 82 = .ok (.aload_n 0, 1) := by decide +kernel
theorem d_Tokens_kindFrom_83 : decode b_Tokens_kindFrom 83 = .ok (.bipush 48, 2) := by decide +kernel
theorem d_Tokens_kindFrom_85 : decode b_Tokens_kindFrom 85 = .ok (.bipush 57, 2) := by decide +kernel
theorem d_Tokens_kindFrom_87 : decode b_Tokens_kindFrom 87 = .ok (.invokevirtual 41, 3) := by decide +kernel
theorem d_Tokens_kindFrom_90 : decode b_Tokens_kindFrom 90 = .ok (.putfield 15, 3) := by decide +kernel
theorem d_Tokens_kindFrom_93 : decode b_Tokens_kindFrom 93 = .ok (.aload_n 0, 1) := by decide +kernel
theorem d_Tokens_kindFrom_94 : decode b_Tokens_kindFrom 94 = .ok (.getfield 15, 3) := by decide +kernel
theorem d_Tokens_kindFrom_97 : decode b_Tokens_kindFrom 97 = .ok (.aload_n 0, 1) := by decide +kernel
theorem d_Tokens_kindFrom_98 : decode b_Tokens_kindFrom 98 = .ok (.getfield 19, 3) := by decide +kernel
theorem d_Tokens_kindFrom_101 : decode b_Tokens_kindFrom 101 = .ok (.isub, 1) := by decide +kernel
theorem d_Tokens_kindFrom_102 : decode b_Tokens_kindFrom 102 = .ok (.bipush 6, 2) := by decide +kernel
theorem d_Tokens_kindFrom_104 : decode b_Tokens_kindFrom 104 = .ok (.if_icmp .gt 7, 3) := by decide +kernel
theorem d_Tokens_kindFrom_107 : decode b_Tokens_kindFrom 107 = .ok (.iconst 3, 1) := by decide +kernel
theorem d_Tokens_kindFrom_108 : decode b_Tokens_kindFrom 108 = .ok (.goto 4, 3) := by decide +kernel
theorem d_Tokens_kindFrom_111 : decode b_Tokens_kindFrom 111 = .ok (.iconst 0, 1) := by decide +kernel
theorem d_Tokens_kindFrom_112 : decode b_Tokens_kindFrom 112 = .ok (.ireturn, 1) := by decide +kernel
theorem d_Tokens_kindFrom_113 : decode b_Tokens_kindFrom 113 = .ok (.iload_n 1, 1) := by decide +kernel
theorem d_Tokens_kindFrom_114 : decode b_Tokens_kindFrom 114 = .ok (.bipush 34, 2) := by decide +kernel
theorem d_Tokens_kindFrom_116 : decode b_Tokens_kindFrom 116 = .ok (.if_icmp .ne 14, 3) := by decide +kernel
theorem d_Tokens_kindFrom_119 : decode b_Tokens_kindFrom 119 = .ok (.aload_n 0, 1) := by decide +kernel
theorem d_Tokens_kindFrom_120 : decode b_Tokens_kindFrom 120 = .ok (.invokevirtual 45, 3) := by decide +kernel
theorem d_Tokens_kindFrom_123 : decode b_Tokens_kindFrom 123 = .ok (.ifCond .eq 7, 3) := by decide +kernel
theorem d_Tokens_kindFrom_126 : decode b_Tokens_kindFrom 126 = .ok (.iconst 4, 1) := by decide +kernel
theorem d_Tokens_kindFrom_127 : decode b_Tokens_kindFrom 127 = .ok (.goto 4, 3) := by decide +kernel
theorem d_Tokens_kindFrom_130 : decode b_Tokens_kindFrom 130 = .ok (.iconst 0, 1) := by decide +kernel
theorem d_Tokens_kindFrom_131 : decode b_Tokens_kindFrom 131 = .ok (.ireturn, 1) := by decide +kernel
theorem d_Tokens_advance_0 : decode b_Tokens_advance 0 = .ok (.aload_n 0, 1) := by decide +kernel
theorem d_Tokens_advance_1 : decode b_Tokens_advance 1 = .ok (.aload_n 0, 1) := by decide +kernel
theorem d_Tokens_advance_2 : decode b_Tokens_advance 2 = .ok (.getfield 15, 3) := by decide +kernel
theorem d_Tokens_advance_5 : decode b_Tokens_advance 5 = .ok (.putfield 19, 3) := by decide +kernel
theorem d_Tokens_advance_8 : decode b_Tokens_advance 8 = .ok (.aload_n 0, 1) := by decide +kernel
theorem d_Tokens_advance_9 : decode b_Tokens_advance 9 = .ok (.getfield 19, 3) := by decide +kernel
theorem d_Tokens_advance_12 : decode b_Tokens_advance 12 = .ok (.aload_n 0, 1) := by decide +kernel
theorem d_Tokens_advance_13 : decode b_Tokens_advance 13 = .ok (.getfield 9, 3) := by decide +kernel
theorem d_Tokens_advance_16 : decode b_Tokens_advance 16 = .ok (.getfield 22, 3) := by decide +kernel
theorem d_Tokens_advance_19 : decode b_Tokens_advance 19 = .ok (.if_icmp .ge 50, 3) := by decide +kernel
theorem d_Tokens_advance_22 : decode b_Tokens_advance 22 = .ok (.aload_n 0, 1) := by decide +kernel
theorem d_Tokens_advance_23 : decode b_Tokens_advance 23 = .ok (.getfield 9, 3) := by decide +kernel
theorem d_Tokens_advance_26 : decode b_Tokens_advance 26 = .ok (.getfield 27, 3) := by decide +kernel
theorem d_Tokens_advance_29 : decode b_Tokens_advance 29 = .ok (.aload_n 0, 1) := by decide +kernel
theorem d_Tokens_advance_30 : decode b_Tokens_advance 30 = .ok (.getfield 19, 3) := by decide +kernel
theorem d_Tokens_advance_33 : decode b_Tokens_advance 33 = .ok (.iaload, 1) := by decide +kernel
theorem d_Tokens_advance_34 : decode b_Tokens_advance 34 = .ok (.bipush 10, 2) := by decide +kernel
theorem d_Tokens_advance_36 : decode b_Tokens_advance 36 = .ok (.if_icmp .eq 20, 3) := by decide +kernel
theorem d_Tokens_advance_39 : decode b_Tokens_advance 39 = .ok (.aload_n 0, 1) := by decide +kernel
theorem d_Tokens_advance_40 : decode b_Tokens_advance 40 = .ok (.getfield 9, 3) := by decide +kernel
theorem d_Tokens_advance_43 : decode b_Tokens_advance 43 = .ok (.getfield 27, 3) := by decide +kernel
theorem d_Tokens_advance_46 : decode b_Tokens_advance 46 = .ok (.aload_n 0, 1) := by decide +kernel
theorem d_Tokens_advance_47 : decode b_Tokens_advance 47 = .ok (.getfield 19, 3) := by decide +kernel
theorem d_Tokens_advance_50 : decode b_Tokens_advance 50 = .ok (.iaload, 1) := by decide +kernel
theorem d_Tokens_advance_51 : decode b_Tokens_advance 51 = .ok (.bipush 32, 2) := by decide +kernel
theorem d_Tokens_advance_53 : decode b_Tokens_advance 53 = .ok (.if_icmp .ne 16, 3) := by decide +kernel
theorem d_Tokens_advance_56 : decode b_Tokens_advance 56 = .ok (.aload_n 0, 1) := by decide +kernel
theorem d_Tokens_advance_57 : decode b_Tokens_advance 57 = .ok (.dup, 1) := by decide +kernel
theorem d_Tokens_advance_58 : decode b_Tokens_advance 58 = .ok (.getfield 19, 3) := by decide +kernel
theorem d_Tokens_advance_61 : decode b_Tokens_advance 61 = .ok (.iconst 1, 1) := by decide +kernel
theorem d_Tokens_advance_62 : decode b_Tokens_advance 62 = .ok (.iadd, 1) := by decide +kernel
theorem d_Tokens_advance_63 : decode b_Tokens_advance 63 = .ok (.putfield 19, 3) := by decide +kernel
theorem d_Tokens_advance_66 : decode b_Tokens_advance 66 = .ok (.goto (-58), 3) := by decide +kernel
theorem d_Tokens_advance_69 : decode b_Tokens_advance 69 = .ok (.aload_n 0, 1) := by decide +kernel
theorem d_Tokens_advance_70 : decode b_Tokens_advance 70 = .ok (.aload_n 0, 1) := by decide +kernel
theorem d_Tokens_advance_71 : decode b_Tokens_advance 71 = .ok (.getfield 19, 3) := by decide +kernel
theorem d_Tokens_advance_74 : decode b_Tokens_advance 74 = .ok (.putfield 15, 3) := by decide +kernel
theorem d_Tokens_advance_77 : decode b_Tokens_advance 77 = .ok (.aload_n 0, 1) := by decide +kernel
theorem d_Tokens_advance_78 : decode b_Tokens_advance 78 = .ok (.aload_n 0, 1) := by decide +kernel
theorem d_Tokens_advance_79 : decode b_Tokens_advance 79 = .ok (.aload_n 0, 1) := by decide +kernel
theorem d_Tokens_advance_80 : decode b_Tokens_advance 80 = .ok (.getfield 9, 3) := by decide +kernel
theorem d_Tokens_advance_83 : decode b_Tokens_advance 83 = .ok (.aload_n 0, 1) := by decide +kernel
theorem d_Tokens_advance_84 : decode b_Tokens_advance 84 = .ok (.getfield 19, 3) := by decide +kernel
theorem d_Tokens_advance_87 : decode b_Tokens_advance 87 = .ok (.invokevirtual 31, 3) := by decide +kernel
theorem d_Tokens_advance_90 : decode b_Tokens_advance 90 = .ok (.invokevirtual 35, 3) := by decide +kernel
theorem d_Tokens_advance_93 : decode b_Tokens_advance 93 = .ok (.putfield 38, 3) := by decide +kernel
theorem d_Tokens_advance_96 : decode b_Tokens_advance 96 = .ok (.aload_n 0, 1) := by decide +kernel
theorem d_Tokens_advance_97 : decode b_Tokens_advance 97 = .ok (.getfield 38, 3) := by decide +kernel
theorem d_Tokens_advance_100 : decode b_Tokens_advance 100 = .ok (.ireturn, 1) := by decide +kernel
theorem d_LawReader_refuse_0 : decode b_LawReader_refuse 0 = .ok (.aload_n 0, 1) := by decide +kernel
theorem d_LawReader_refuse_1 : decode b_LawReader_refuse 1 = .ok (.iload_n 1, 1) := by decide +kernel
theorem d_LawReader_refuse_2 : decode b_LawReader_refuse 2 = .ok (.putfield 34, 3) := by decide +kernel
theorem d_LawReader_refuse_5 : decode b_LawReader_refuse 5 = .ok (.aload_n 0, 1) := by decide +kernel
theorem d_LawReader_refuse_6 : decode b_LawReader_refuse 6 = .ok (.iload_n 2, 1) := by decide +kernel
theorem d_LawReader_refuse_7 : decode b_LawReader_refuse 7 = .ok (.putfield 9, 3) := by decide +kernel
theorem d_LawReader_refuse_10 : decode b_LawReader_refuse 10 = .ok (.return_, 1) := by decide +kernel
theorem d_LawReader_expect_0 : decode b_LawReader_expect 0 = .ok (.aload_n 0, 1) := by decide +kernel
theorem d_LawReader_expect_1 : decode b_LawReader_expect 1 = .ok (.getfield 34, 3) := by decide +kernel
theorem d_LawReader_expect_4 : decode b_LawReader_expect 4 = .ok (.ifCond .eq 5, 3) := by decide +kernel
theorem d_LawReader_expect_7 : decode b_LawReader_expect 7 = .ok (.iconst 0, 1) := by decide +kernel
theorem d_LawReader_expect_8 : decode b_LawReader_expect 8 = .ok (.ireturn, 1) := by decide +kernel
theorem d_LawReader_expect_9 : decode b_LawReader_expect 9 = .ok (.aload_n 0, 1) := by decide +kernel
theorem d_LawReader_expect_10 : decode b_LawReader_expect 10 = .ok (.getfield 20, 3) := by decide +kernel
theorem d_LawReader_expect_13 : decode b_LawReader_expect 13 = .ok (.invokevirtual 40, 3) := by decide +kernel
theorem d_LawReader_expect_16 : decode b_LawReader_expect 16 = .ok (.istore_n 2, 1) := by decide +kernel
theorem d_LawReader_expect_17 : decode b_LawReader_expect 17 = .ok (.iload_n 2, 1) := by decide +kernel
theorem d_LawReader_expect_18 : decode b_LawReader_expect 18 = .ok (.iload_n 1, 1) := by decide +kernel
theorem d_LawReader_expect_19 : decode b_LawReader_expect 19 = .ok (.if_icmp .eq 23, 3) := by decide +kernel
theorem d_LawReader_expect_22 : decode b_LawReader_expect 22 = .ok (.aload_n 0, 1) := by decide +kernel
theorem d_LawReader_expect_23 : decode b_LawReader_expect 23 = .ok (.iload_n 2, 1) := by decide +kernel
theorem d_LawReader_expect_24 : decode b_LawReader_expect 24 = .ok (.ifCond .ne 7, 3) := by decide +kernel
theorem d_LawReader_expect_27 : decode b_LawReader_expect 27 = .ok (.iconst 1, 1) := by decide +kernel
theorem d_LawReader_expect_28 : decode b_LawReader_expect 28 = .ok (.goto 4, 3) := by decide +kernel
theorem d_LawReader_expect_31 : decode b_LawReader_expect 31 = .ok (.iconst 2, 1) := by decide +kernel
theorem d_LawReader_expect_32 : decode b_LawReader_expect 32 = .ok (.aload_n 0, 1) := by decide +kernel
theorem d_LawReader_expect_33 : decode b_LawReader_expect 33 = .ok (.getfield 20, 3) := by decide +kernel
theorem d_LawReader_expect_36 : decode b_LawReader_expect 36 = .ok (.getfield 44, 3) := by decide +kernel
theorem d_LawReader_expect_39 : decode b_LawReader_expect 39 = .ok (.invokevirtual 47, 3) := by decide +kernel
theorem d_LawReader_expect_42 : decode b_LawReader_expect 42 = .ok (.iload_n 2, 1) := by decide +kernel
theorem d_LawReader_expect_43 : decode b_LawReader_expect 43 = .ok (.iload_n 1, 1) := by decide +kernel
theorem d_LawReader_expect_44 : decode b_LawReader_expect 44 = .ok (.if_icmp .ne 7, 3) := by decide +kernel
theorem d_LawReader_expect_47 : decode b_LawReader_expect 47 = .ok (.iconst 1, 1) := by decide +kernel
theorem d_LawReader_expect_48 : decode b_LawReader_expect 48 = .ok (.goto 4, 3) := by decide +kernel
theorem d_LawReader_expect_51 : decode b_LawReader_expect 51 = .ok (.iconst 0, 1) := by decide +kernel
theorem d_LawReader_expect_52 : decode b_LawReader_expect 52 = .ok (.ireturn, 1) := by decide +kernel
theorem d_Tokens_value_0 : decode b_Tokens_value 0 = .ok (.iconst 0, 1) := by decide +kernel
theorem d_Tokens_value_1 : decode b_Tokens_value 1 = .ok (.istore_n 1, 1) := by decide +kernel
theorem d_Tokens_value_2 : decode b_Tokens_value 2 = .ok (.aload_n 0, 1) := by decide +kernel
theorem d_Tokens_value_3 : decode b_Tokens_value 3 = .ok (.getfield 19, 3) := by decide +kernel
theorem d_Tokens_value_6 : decode b_Tokens_value 6 = .ok (.istore_n 2, 1) := by decide +kernel
theorem d_Tokens_value_7 : decode b_Tokens_value 7 = .ok (.iload_n 2, 1) := by decide +kernel
theorem d_Tokens_value_8 : decode b_Tokens_value 8 = .ok (.aload_n 0, 1) := by decide +kernel
theorem d_Tokens_value_9 : decode b_Tokens_value 9 = .ok (.getfield 15, 3) := by decide +kernel
theorem d_Tokens_value_12 : decode b_Tokens_value 12 = .ok (.if_icmp .ge 26, 3) := by decide +kernel
theorem d_Tokens_value_15 : decode b_Tokens_value 15 = .ok (.iload_n 1, 1) := by decide +kernel
theorem d_Tokens_value_16 : decode b_Tokens_value 16 = .ok (.bipush 10, 2) := by decide +kernel
theorem d_Tokens_value_18 : decode b_Tokens_value 18 = .ok (.imul, 1) := by decide +kernel
theorem d_Tokens_value_19 : decode b_Tokens_value 19 = .ok (.aload_n 0, 1) := by decide +kernel
theorem d_Tokens_value_20 : decode b_Tokens_value 20 = .ok (.getfield 9, 3) := by decide +kernel
theorem d_Tokens_value_23 : decode b_Tokens_value 23 = .ok (.iload_n 2, 1) := by decide +kernel
theorem d_Tokens_value_24 : decode b_Tokens_value 24 = .ok (.invokevirtual 31, 3) := by decide +kernel
theorem d_Tokens_value_27 : decode b_Tokens_value 27 = .ok (.iadd, 1) := by decide +kernel
theorem d_Tokens_value_28 : decode b_Tokens_value 28 = .ok (.bipush 48, 2) := by decide +kernel
theorem d_Tokens_value_30 : decode b_Tokens_value 30 = .ok (.isub, 1) := by decide +kernel
theorem d_Tokens_value_31 : decode b_Tokens_value 31 = .ok (.istore_n 1, 1) := by decide +kernel
theorem d_Tokens_value_32 : decode b_Tokens_value 32 = .ok (.iinc 2 1, 3) := by decide +kernel
theorem d_Tokens_value_35 : decode b_Tokens_value 35 = .ok (.goto (-28), 3) := by decide +kernel
theorem d_Tokens_value_38 : decode b_Tokens_value 38 = .ok (.iload_n 1, 1) := by decide +kernel
theorem d_Tokens_value_39 : decode b_Tokens_value 39 = .ok (.ireturn, 1) := by decide +kernel
theorem d_LawReader_number_0 : decode b_LawReader_number 0 = .ok (.aload_n 0, 1) := by decide +kernel
theorem d_LawReader_number_1 : decode b_LawReader_number 1 = .ok (.iconst 3, 1) := by decide +kernel
theorem d_LawReader_number_2 : decode b_LawReader_number 2 = .ok (.invokevirtual 94, 3) := by decide +kernel
theorem d_LawReader_number_5 : decode b_LawReader_number 5 = .ok (.ifCond .ne 5, 3) := by decide +kernel
theorem d_LawReader_number_8 : decode b_LawReader_number 8 = .ok (.iload_n 1, 1) := by decide +kernel
theorem d_LawReader_number_9 : decode b_LawReader_number 9 = .ok (.ireturn, 1) := by decide +kernel
theorem d_LawReader_number_10 : decode b_LawReader_number 10 = .ok (.aload_n 0, 1) := by decide +kernel
theorem d_LawReader_number_11 : decode b_LawReader_number 11 = .ok (.getfield 20, 3) := by decide +kernel
theorem d_LawReader_number_14 : decode b_LawReader_number 14 = .ok (.invokevirtual 106, 3) := by decide +kernel
theorem d_LawReader_number_17 : decode b_LawReader_number 17 = .ok (.istore_n 3, 1) := by decide +kernel
theorem d_LawReader_number_18 : decode b_LawReader_number 18 = .ok (.iload_n 3, 1) := by decide +kernel
theorem d_LawReader_number_19 : decode b_LawReader_number 19 = .ok (.iload_n 1, 1) := by decide +kernel
theorem d_LawReader_number_20 : decode b_LawReader_number 20 = .ok (.if_icmp .lt 8, 3) := by decide +kernel
theorem d_LawReader_number_23 : decode b_LawReader_number 23 = .ok (.iload_n 3, 1) := by decide +kernel
theorem d_LawReader_number_24 : decode b_LawReader_number 24 = .ok (.iload_n 2, 1) := by decide +kernel
theorem d_LawReader_number_25 : decode b_LawReader_number 25 = .ok (.if_icmp .le 15, 3) := by decide +kernel
theorem d_LawReader_number_28 : decode b_LawReader_number 28 = .ok (.aload_n 0, 1) := by decide +kernel
theorem d_LawReader_number_29 : decode b_LawReader_number 29 = .ok (.iconst 4, 1) := by decide +kernel
theorem d_LawReader_number_30 : decode b_LawReader_number 30 = .ok (.aload_n 0, 1) := by decide +kernel
theorem d_LawReader_number_31 : decode b_LawReader_number 31 = .ok (.getfield 20, 3) := by decide +kernel
theorem d_LawReader_number_34 : decode b_LawReader_number 34 = .ok (.getfield 44, 3) := by decide +kernel
theorem d_LawReader_number_37 : decode b_LawReader_number 37 = .ok (.invokevirtual 47, 3) := by decide +kernel
theorem d_LawReader_number_40 : decode b_LawReader_number 40 = .ok (.iload_n 3, 1) := by decide +kernel
theorem d_LawReader_number_41 : decode b_LawReader_number 41 = .ok (.ireturn, 1) := by decide +kernel
theorem d_Positions_clear_0 : decode b_Positions_clear 0 = .ok (.aload_n 0, 1) := by decide +kernel
theorem d_Positions_clear_1 : decode b_Positions_clear 1 = .ok (.iconst 0, 1) := by decide +kernel
theorem d_Positions_clear_2 : decode b_Positions_clear 2 = .ok (.putfield 24, 3) := by decide +kernel
theorem d_Positions_clear_5 : decode b_Positions_clear 5 = .ok (.aload_n 0, 1) := by decide +kernel
theorem d_Positions_clear_6 : decode b_Positions_clear 6 = .ok (.iconst 0, 1) := by decide +kernel
theorem d_Positions_clear_7 : decode b_Positions_clear 7 = .ok (.putfield 28, 3) := by decide +kernel
theorem d_Positions_clear_10 : decode b_Positions_clear 10 = .ok (.iconst 0, 1) := by decide +kernel
theorem d_Positions_clear_11 : decode b_Positions_clear 11 = .ok (.istore_n 1, 1) := by decide +kernel
theorem d_Positions_clear_12 : decode b_Positions_clear 12 = .ok (.iload_n 1, 1) := by decide +kernel
theorem d_Positions_clear_13 : decode b_Positions_clear 13 = .ok (.bipush 9, 2) := by decide +kernel
theorem d_Positions_clear_15 : decode b_Positions_clear 15 = .ok (.if_icmp .ge 16, 3) := by decide +kernel
theorem d_Positions_clear_18 : decode b_Positions_clear 18 = .ok (.aload_n 0, 1) := by decide +kernel
theorem d_Positions_clear_19 : decode b_Positions_clear 19 = .ok (.getfield 11, 3) := by decide +kernel
theorem d_Positions_clear_22 : decode b_Positions_clear 22 = .ok (.iload_n 1, 1) := by decide +kernel
theorem d_Positions_clear_23 : decode b_Positions_clear 23 = .ok (.iconst 0, 1) := by decide +kernel
theorem d_Positions_clear_24 : decode b_Positions_clear 24 = .ok (.iastore, 1) := by decide +kernel
theorem d_Positions_clear_25 : decode b_Positions_clear 25 = .ok (.iinc 1 1, 3) := by decide +kernel
theorem d_Positions_clear_28 : decode b_Positions_clear 28 = .ok (.goto (-16), 3) := by decide +kernel
theorem d_Positions_clear_31 : decode b_Positions_clear 31 = .ok (.iconst 0, 1) := by decide +kernel
theorem d_Positions_clear_32 : decode b_Positions_clear 32 = .ok (.istore_n 1, 1) := by decide +kernel
theorem d_Positions_clear_33 : decode b_Positions_clear 33 = .ok (.iload_n 1, 1) := by decide +kernel
theorem d_Positions_clear_34 : decode b_Positions_clear 34 = .ok (.bipush 10, 2) := by decide +kernel
theorem d_Positions_clear_36 : decode b_Positions_clear 36 = .ok (.if_icmp .ge 16, 3) := by decide +kernel
theorem d_Positions_clear_39 : decode b_Positions_clear 39 = .ok (.aload_n 0, 1) := by decide +kernel
theorem d_Positions_clear_40 : decode b_Positions_clear 40 = .ok (.getfield 15, 3) := by decide +kernel
theorem d_Positions_clear_43 : decode b_Positions_clear 43 = .ok (.iload_n 1, 1) := by decide +kernel
theorem d_Positions_clear_44 : decode b_Positions_clear 44 = .ok (.iconst 0, 1) := by decide +kernel
theorem d_Positions_clear_45 : decode b_Positions_clear 45 = .ok (.iastore, 1) := by decide +kernel
theorem d_Positions_clear_46 : decode b_Positions_clear 46 = .ok (.iinc 1 1, 3) := by decide +kernel
theorem d_Positions_clear_49 : decode b_Positions_clear 49 = .ok (.goto (-16), 3) := by decide +kernel
theorem d_Positions_clear_52 : decode b_Positions_clear 52 = .ok (.return_, 1) := by decide +kernel
theorem d_PatternParser_letterBit_0 : decode b_PatternParser_letterBit 0 = .ok (.iload_n 1, 1) := by decide +kernel
theorem d_PatternParser_letterBit_1 : decode b_PatternParser_letterBit 1 = .ok (.bipush 45, 2) := by decide +kernel
theorem d_PatternParser_letterBit_3 : decode b_PatternParser_letterBit 3 = .ok (.if_icmp .ne 5, 3) := by decide +kernel
theorem d_PatternParser_letterBit_6 : decode b_PatternParser_letterBit 6 = .ok (.iconst 1, 1) := by decide +kernel
theorem d_PatternParser_letterBit_7 : decode b_PatternParser_letterBit 7 = .ok (.ireturn, 1) := by decide +kernel
theorem d_PatternParser_letterBit_8 : decode b_PatternParser_letterBit 8 = .ok (.iload_n 1, 1) := by decide +kernel
theorem d_PatternParser_letterBit_9 : decode b_PatternParser_letterBit 9 = .ok (.bipush 97, 2) := by decide +kernel
theorem d_PatternParser_letterBit_11 : decode b_PatternParser_letterBit 11 = .ok (.if_icmp .lt 20, 3) := by decide +kernel
theorem d_PatternParser_letterBit_14 : decode b_PatternParser_letterBit 14 = .ok (.iload_n 1, 1) := by decide +kernel
theorem d_PatternParser_letterBit_15 : decode b_PatternParser_letterBit 15 = .ok (.bipush 104, 2) := by decide +kernel
theorem d_PatternParser_letterBit_17 : decode b_PatternParser_letterBit 17 = .ok (.if_icmp .gt 14, 3) := by decide +kernel
theorem d_PatternParser_letterBit_20 : decode b_PatternParser_letterBit 20 = .ok (.iconst 1, 1) := by decide +kernel
theorem d_PatternParser_letterBit_21 : decode b_PatternParser_letterBit 21 = .ok (.iload_n 1, 1) := by decide +kernel
theorem d_PatternParser_letterBit_22 : decode b_PatternParser_letterBit 22 = .ok (.bipush 97, 2) := by decide +kernel
theorem d_PatternParser_letterBit_24 : decode b_PatternParser_letterBit 24 = .ok (.isub, 1) := by decide +kernel
theorem d_PatternParser_letterBit_25 : decode b_PatternParser_letterBit 25 = .ok (.iconst 1, 1) := by decide +kernel
theorem d_PatternParser_letterBit_26 : decode b_PatternParser_letterBit 26 = .ok (.iadd, 1) := by decide +kernel
theorem d_PatternParser_letterBit_27 : decode b_PatternParser_letterBit 27 = .ok (.ishl, 1) := by decide +kernel
theorem d_PatternParser_letterBit_28 : decode b_PatternParser_letterBit 28 = .ok (.goto 4, 3) := by decide +kernel
theorem d_PatternParser_letterBit_31 : decode b_PatternParser_letterBit 31 = .ok (.iconst 0, 1) := by decide +kernel
theorem d_PatternParser_letterBit_32 : decode b_PatternParser_letterBit 32 = .ok (.ireturn, 1) := by decide +kernel
theorem d_PatternParser_refuse_0 : decode b_PatternParser_refuse 0 = .ok (.aload_n 0, 1) := by decide +kernel
theorem d_PatternParser_refuse_1 : decode b_PatternParser_refuse 1 = .ok (.iload_n 1, 1) := by decide +kernel
