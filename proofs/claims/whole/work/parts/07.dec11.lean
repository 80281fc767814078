theorem d_Mo_past_44 : decode b_Mo_past 44 = .ok (.aload_n 0, 1) := by decide +kernel
theorem d_Mo_past_45 : decode b_Mo_past 45 = .ok (.getfield 13, 3) := by decide +kernel
theorem d_Mo_past_48 : decode b_Mo_past 48 = .ok (.bipush 7, 2) := by decide +kernel
theorem d_Mo_past_50 : decode b_Mo_past 50 = .ok (.iload_n 1, 1) := by decide +kernel
theorem d_Mo_past_51 : decode b_Mo_past 51 = .ok (.imul, 1) := by decide +kernel
theorem d_Mo_past_52 : decode b_Mo_past 52 = .ok (.iload_n 2, 1) := by decide +kernel
theorem d_Mo_past_53 : decode b_Mo_past 53 = .ok (.iadd, 1) := by decide +kernel
theorem d_Mo_past_54 : decode b_Mo_past 54 = .ok (.iconst 1, 1) := by decide +kernel
theorem d_Mo_past_55 : decode b_Mo_past 55 = .ok (.isub, 1) := by decide +kernel
theorem d_Mo_past_56 : decode b_Mo_past 56 = .ok (.iload_n 3, 1) := by decide +kernel
theorem d_Mo_past_57 : decode b_Mo_past 57 = .ok (.iastore, 1) := by decide +kernel
theorem d_Mo_past_58 : decode b_Mo_past 58 = .ok (.iload 4, 2) := by decide +kernel
theorem d_Mo_past_60 : decode b_Mo_past 60 = .ok (.ireturn, 1) := by decide +kernel
theorem d_Mo_wish_0 : decode b_Mo_wish 0 = .ok (.aload_n 0, 1) := by decide +kernel
theorem d_Mo_wish_1 : decode b_Mo_wish 1 = .ok (.iload_n 1, 1) := by decide +kernel
theorem d_Mo_wish_2 : decode b_Mo_wish 2 = .ok (.iload_n 2, 1) := by decide +kernel
theorem d_Mo_wish_3 : decode b_Mo_wish 3 = .ok (.invokevirtual 350, 3) := by decide +kernel
theorem d_Mo_wish_6 : decode b_Mo_wish 6 = .ok (.ifCond .eq 23, 3) := by decide +kernel
theorem d_Mo_wish_9 : decode b_Mo_wish 9 = .ok (.iload_n 3, 1) := by decide +kernel
theorem d_Mo_wish_10 : decode b_Mo_wish 10 = .ok (.invokestatic 347, 3) := by decide +kernel
theorem d_Mo_wish_13 : decode b_Mo_wish 13 = .ok (.ifCond .eq 16, 3) := by decide +kernel
theorem d_Mo_wish_16 : decode b_Mo_wish 16 = .ok (.iload 4, 2) := by decide +kernel
theorem d_Mo_wish_18 : decode b_Mo_wish 18 = .ok (.ifCond .lt 11, 3) := by decide +kernel
theorem d_Mo_wish_21 : decode b_Mo_wish 21 = .ok (.iload 4, 2) := by decide +kernel
theorem d_Mo_wish_23 : decode b_Mo_wish 23 = .ok (.sipush 1000, 3) := by decide +kernel
theorem d_Mo_wish_26 : decode b_Mo_wish 26 = .ok (.if_icmp .le 5, 3) := by decide +kernel
theorem d_Mo_wish_29 : decode b_Mo_wish 29 = .ok (.iconst (-1), 1) := by decide +kernel
theorem d_Mo_wish_30 : decode b_Mo_wish 30 = .ok (.ireturn, 1) := by decide +kernel
theorem d_Mo_wish_31 : decode b_Mo_wish 31 = .ok (.aload_n 0, 1) := by decide +kernel
theorem d_Mo_wish_32 : decode b_Mo_wish 32 = .ok (.getfield 28, 3) := by decide +kernel
theorem d_Mo_wish_35 : decode b_Mo_wish 35 = .ok (.bipush 21, 2) := by decide +kernel
theorem d_Mo_wish_37 : decode b_Mo_wish 37 = .ok (.iload_n 1, 1) := by decide +kernel
theorem d_Mo_wish_38 : decode b_Mo_wish 38 = .ok (.imul, 1) := by decide +kernel
theorem d_Mo_wish_39 : decode b_Mo_wish 39 = .ok (.iload_n 2, 1) := by decide +kernel
theorem d_Mo_wish_40 : decode b_Mo_wish 40 = .ok (.iadd, 1) := by decide +kernel
theorem d_Mo_wish_41 : decode b_Mo_wish 41 = .ok (.iload_n 3, 1) := by decide +kernel
theorem d_Mo_wish_42 : decode b_Mo_wish 42 = .ok (.iastore, 1) := by decide +kernel
theorem d_Mo_wish_43 : decode b_Mo_wish 43 = .ok (.aload_n 0, 1) := by decide +kernel
theorem d_Mo_wish_44 : decode b_Mo_wish 44 = .ok (.getfield 31, 3) := by decide +kernel
theorem d_Mo_wish_47 : decode b_Mo_wish 47 = .ok (.bipush 21, 2) := by decide +kernel
theorem d_Mo_wish_49 : decode b_Mo_wish 49 = .ok (.iload_n 1, 1) := by decide +kernel
theorem d_Mo_wish_50 : decode b_Mo_wish 50 = .ok (.imul, 1) := by decide +kernel
theorem d_Mo_wish_51 : decode b_Mo_wish 51 = .ok (.iload_n 2, 1) := by decide +kernel
theorem d_Mo_wish_52 : decode b_Mo_wish 52 = .ok (.iadd, 1) := by decide +kernel
theorem d_Mo_wish_53 : decode b_Mo_wish 53 = .ok (.iload 4, 2) := by decide +kernel
theorem d_Mo_wish_55 : decode b_Mo_wish 55 = .ok (.iastore, 1) := by decide +kernel
theorem d_Mo_wish_56 : decode b_Mo_wish 56 = .ok (.iconst 1, 1) := by decide +kernel
theorem d_Mo_wish_57 : decode b_Mo_wish 57 = .ok (.ireturn, 1) := by decide +kernel
theorem d_Mo_at_0 : decode b_Mo_at 0 = .ok (.aload_n 0, 1) := by decide +kernel
theorem d_Mo_at_1 : decode b_Mo_at 1 = .ok (.iload_n 1, 1) := by decide +kernel
theorem d_Mo_at_2 : decode b_Mo_at 2 = .ok (.iload_n 2, 1) := by decide +kernel
theorem d_Mo_at_3 : decode b_Mo_at 3 = .ok (.invokevirtual 350, 3) := by decide +kernel
theorem d_Mo_at_6 : decode b_Mo_at 6 = .ok (.ifCond .eq 17, 3) := by decide +kernel
theorem d_Mo_at_9 : decode b_Mo_at 9 = .ok (.aload_n 0, 1) := by decide +kernel
theorem d_Mo_at_10 : decode b_Mo_at 10 = .ok (.getfield 7, 3) := by decide +kernel
theorem d_Mo_at_13 : decode b_Mo_at 13 = .ok (.bipush 21, 2) := by decide +kernel
theorem d_Mo_at_15 : decode b_Mo_at 15 = .ok (.iload_n 1, 1) := by decide +kernel
theorem d_Mo_at_16 : decode b_Mo_at 16 = .ok (.imul, 1) := by decide +kernel
theorem d_Mo_at_17 : decode b_Mo_at 17 = .ok (.iload_n 2, 1) := by decide +kernel
theorem d_Mo_at_18 : decode b_Mo_at 18 = .ok (.iadd, 1) := by decide +kernel
theorem d_Mo_at_19 : decode b_Mo_at 19 = .ok (.iaload, 1) := by decide +kernel
theorem d_Mo_at_20 : decode b_Mo_at 20 = .ok (.goto 5, 3) := by decide +kernel
theorem d_Mo_at_23 : decode b_Mo_at 23 = .ok (.bipush (-9), 2) := by decide +kernel
theorem d_Mo_at_25 : decode b_Mo_at 25 = .ok (.ireturn, 1) := by decide +kernel
theorem d_Mo_rowAt_0 : decode b_Mo_rowAt 0 = .ok (.iload_n 2, 1) := by decide +kernel
theorem d_Mo_rowAt_1 : decode b_Mo_rowAt 1 = .ok (.ifCond .ge 19, 3) := by decide +kernel
theorem d_Mo_rowAt_4 : decode b_Mo_rowAt 4 = .ok (.aload_n 0, 1) := by decide +kernel
theorem d_Mo_rowAt_5 : decode b_Mo_rowAt 5 = .ok (.getfield 13, 3) := by decide +kernel
theorem d_Mo_rowAt_8 : decode b_Mo_rowAt 8 = .ok (.bipush 7, 2) := by decide +kernel
theorem d_Mo_rowAt_10 : decode b_Mo_rowAt 10 = .ok (.iload_n 1, 1) := by decide +kernel
theorem d_Mo_rowAt_11 : decode b_Mo_rowAt 11 = .ok (.imul, 1) := by decide +kernel
theorem d_Mo_rowAt_12 : decode b_Mo_rowAt 12 = .ok (.iload_n 2, 1) := by decide +kernel
theorem d_Mo_rowAt_13 : decode b_Mo_rowAt 13 = .ok (.isub, 1) := by decide +kernel
theorem d_Mo_rowAt_14 : decode b_Mo_rowAt 14 = .ok (.iconst 1, 1) := by decide +kernel
theorem d_Mo_rowAt_15 : decode b_Mo_rowAt 15 = .ok (.isub, 1) := by decide +kernel
theorem d_Mo_rowAt_16 : decode b_Mo_rowAt 16 = .ok (.iaload, 1) := by decide +kernel
theorem d_Mo_rowAt_17 : decode b_Mo_rowAt 17 = .ok (.goto 14, 3) := by decide +kernel
theorem d_Mo_rowAt_20 : decode b_Mo_rowAt 20 = .ok (.aload_n 0, 1) := by decide +kernel
theorem d_Mo_rowAt_21 : decode b_Mo_rowAt 21 = .ok (.getfield 7, 3) := by decide +kernel
theorem d_Mo_rowAt_24 : decode b_Mo_rowAt 24 = .ok (.bipush 21, 2) := by decide +kernel
theorem d_Mo_rowAt_26 : decode b_Mo_rowAt 26 = .ok (.iload_n 1, 1) := by decide +kernel
theorem d_Mo_rowAt_27 : decode b_Mo_rowAt 27 = .ok (.imul, 1) := by decide +kernel
theorem d_Mo_rowAt_28 : decode b_Mo_rowAt 28 = .ok (.iload_n 2, 1) := by decide +kernel
theorem d_Mo_rowAt_29 : decode b_Mo_rowAt 29 = .ok (.iadd, 1) := by decide +kernel
theorem d_Mo_rowAt_30 : decode b_Mo_rowAt 30 = .ok (.iaload, 1) := by decide +kernel
theorem d_Mo_rowAt_31 : decode b_Mo_rowAt 31 = .ok (.ireturn, 1) := by decide +kernel
theorem d_Mo_restOf_0 : decode b_Mo_restOf 0 = .ok (.lconst 0, 1) := by decide +kernel
theorem d_Mo_restOf_1 : decode b_Mo_restOf 1 = .ok (.lstore_n 3, 1) := by decide +kernel
theorem d_Mo_restOf_2 : decode b_Mo_restOf 2 = .ok (.bipush (-99), 2) := by decide +kernel
theorem d_Mo_restOf_4 : decode b_Mo_restOf 4 = .ok (.istore 5, 2) := by decide +kernel
theorem d_Mo_restOf_6 : decode b_Mo_restOf 6 = .ok (.bipush (-7), 2) := by decide +kernel
theorem d_Mo_restOf_8 : decode b_Mo_restOf 8 = .ok (.istore 6, 2) := by decide +kernel
theorem d_Mo_restOf_10 : decode b_Mo_restOf 10 = .ok (.iload 6, 2) := by decide +kernel
theorem d_Mo_restOf_12 : decode b_Mo_restOf 12 = .ok (.aload_n 0, 1) := by decide +kernel
theorem d_Mo_restOf_13 : decode b_Mo_restOf 13 = .ok (.getfield 159, 3) := by decide +kernel
theorem d_Mo_restOf_16 : decode b_Mo_restOf 16 = .ok (.if_icmp .ge 110, 3) := by decide +kernel
theorem d_Mo_restOf_19 : decode b_Mo_restOf 19 = .ok (.aload_n 0, 1) := by decide +kernel
theorem d_Mo_restOf_20 : decode b_Mo_restOf 20 = .ok (.iload_n 2, 1) := by decide +kernel
theorem d_Mo_restOf_21 : decode b_Mo_restOf 21 = .ok (.iload 6, 2) := by decide +kernel
theorem d_Mo_restOf_23 : decode b_Mo_restOf 23 = .ok (.invokevirtual 363, 3) := by decide +kernel
theorem d_Mo_restOf_26 : decode b_Mo_restOf 26 = .ok (.istore 7, 2) := by decide +kernel
theorem d_Mo_restOf_28 : decode b_Mo_restOf 28 = .ok (.iload 7, 2) := by decide +kernel
theorem d_Mo_restOf_30 : decode b_Mo_restOf 30 = .ok (.ifCond .ge 6, 3) := by decide +kernel
theorem d_Mo_restOf_33 : decode b_Mo_restOf 33 = .ok (.goto 87, 3) := by decide +kernel
theorem d_Mo_restOf_36 : decode b_Mo_restOf 36 = .ok (.iload 5, 2) := by decide +kernel
theorem d_Mo_restOf_38 : decode b_Mo_restOf 38 = .ok (.bipush (-99), 2) := by decide +kernel
theorem d_Mo_restOf_40 : decode b_Mo_restOf 40 = .ok (.if_icmp .le 76, 3) := by decide +kernel
theorem d_Mo_restOf_43 : decode b_Mo_restOf 43 = .ok (.iload 6, 2) := by decide +kernel
theorem d_Mo_restOf_45 : decode b_Mo_restOf 45 = .ok (.ifCond .lt 71, 3) := by decide +kernel
theorem d_Mo_restOf_48 : decode b_Mo_restOf 48 = .ok (.sipush 1440, 3) := by decide +kernel
theorem d_Mo_restOf_51 : decode b_Mo_restOf 51 = .ok (.iload 5, 2) := by decide +kernel
theorem d_Mo_restOf_53 : decode b_Mo_restOf 53 = .ok (.imul, 1) := by decide +kernel
theorem d_Mo_restOf_54 : decode b_Mo_restOf 54 = .ok (.aload_n 0, 1) := by decide +kernel
theorem d_Mo_restOf_55 : decode b_Mo_restOf 55 = .ok (.getfield 16, 3) := by decide +kernel
theorem d_Mo_restOf_58 : decode b_Mo_restOf 58 = .ok (.aload_n 0, 1) := by decide +kernel
theorem d_Mo_restOf_59 : decode b_Mo_restOf 59 = .ok (.iload_n 2, 1) := by decide +kernel
theorem d_Mo_restOf_60 : decode b_Mo_restOf 60 = .ok (.iload 5, 2) := by decide +kernel
theorem d_Mo_restOf_62 : decode b_Mo_restOf 62 = .ok (.invokevirtual 363, 3) := by decide +kernel
theorem d_Mo_restOf_65 : decode b_Mo_restOf 65 = .ok (.iaload, 1) := by decide +kernel
theorem d_Mo_restOf_66 : decode b_Mo_restOf 66 = .ok (.iadd, 1) := by decide +kernel
theorem d_Mo_restOf_67 : decode b_Mo_restOf 67 = .ok (.aload_n 0, 1) := by decide +kernel
theorem d_Mo_restOf_68 : decode b_Mo_restOf 68 = .ok (.getfield 19, 3) := by decide +kernel
theorem d_Mo_restOf_71 : decode b_Mo_restOf 71 = .ok (.aload_n 0, 1) := by decide +kernel
theorem d_Mo_restOf_72 : decode b_Mo_restOf 72 = .ok (.iload_n 2, 1) := by decide +kernel
theorem d_Mo_restOf_73 : decode b_Mo_restOf 73 = .ok (.iload 5, 2) := by decide +kernel
theorem d_Mo_restOf_75 : decode b_Mo_restOf 75 = .ok (.invokevirtual 363, 3) := by decide +kernel
theorem d_Mo_restOf_78 : decode b_Mo_restOf 78 = .ok (.iaload, 1) := by decide +kernel
theorem d_Mo_restOf_79 : decode b_Mo_restOf 79 = .ok (.iadd, 1) := by decide +kernel
theorem d_Mo_restOf_80 : decode b_Mo_restOf 80 = .ok (.istore 8, 2) := by decide +kernel
theorem d_Mo_restOf_82 : decode b_Mo_restOf 82 = .ok (.lload_n 3, 1) := by decide +kernel
theorem d_Mo_restOf_83 : decode b_Mo_restOf 83 = .ok (.sipush 1440, 3) := by decide +kernel
theorem d_Mo_restOf_86 : decode b_Mo_restOf 86 = .ok (.iload 6, 2) := by decide +kernel
theorem d_Mo_restOf_88 : decode b_Mo_restOf 88 = .ok (.imul, 1) := by decide +kernel
theorem d_Mo_restOf_89 : decode b_Mo_restOf 89 = .ok (.aload_n 0, 1) := by decide +kernel
theorem d_Mo_restOf_90 : decode b_Mo_restOf 90 = .ok (.getfield 16, 3) := by decide +kernel
theorem d_Mo_restOf_93 : decode b_Mo_restOf 93 = .ok (.iload 7, 2) := by decide +kernel
theorem d_Mo_restOf_95 : decode b_Mo_restOf 95 = .ok (.iaload, 1) := by decide +kernel
theorem d_Mo_restOf_96 : decode b_Mo_restOf 96 = .ok (.iadd, 1) := by decide +kernel
theorem d_Mo_restOf_97 : decode b_Mo_restOf 97 = .ok (.iload 8, 2) := by decide +kernel
theorem d_Mo_restOf_99 : decode b_Mo_restOf 99 = .ok (.isub, 1) := by decide +kernel
theorem d_Mo_restOf_100 : decode b_Mo_restOf 100 = .ok (.aload_n 0, 1) := by decide +kernel
theorem d_Mo_restOf_101 : decode b_Mo_restOf 101 = .ok (.getfield 51, 3) := by decide +kernel
theorem d_Mo_restOf_104 : decode b_Mo_restOf 104 = .ok (.iload_n 1, 1) := by decide +kernel
theorem d_Mo_restOf_105 : decode b_Mo_restOf 105 = .ok (.iaload, 1) := by decide +kernel
theorem d_Mo_restOf_106 : decode b_Mo_restOf 106 = .ok (.if_icmp .ge 7, 3) := by decide +kernel
theorem d_Mo_restOf_109 : decode b_Mo_restOf 109 = .ok (.lconst 1, 1) := by decide +kernel
theorem d_Mo_restOf_110 : decode b_Mo_restOf 110 = .ok (.goto 4, 3) := by decide +kernel
theorem d_Mo_restOf_113 : decode b_Mo_restOf 113 = .ok (.lconst 0, 1) := by decide +kernel
theorem d_Mo_restOf_114 : decode b_Mo_restOf 114 = .ok (.ladd, 1) := by decide +kernel
theorem d_Mo_restOf_115 : decode b_Mo_restOf 115 = .ok (.lstore_n 3, 1) := by decide +kernel
theorem d_Mo_restOf_116 : decode b_Mo_restOf 116 = .ok (.iload 6, 2) := by decide +kernel
theorem d_Mo_restOf_118 : decode b_Mo_restOf 118 = .ok (.istore 5, 2) := by decide +kernel
theorem d_Mo_restOf_120 : decode b_Mo_restOf 120 = .ok (.iinc 6 1, 3) := by decide +kernel
theorem d_Mo_restOf_123 : decode b_Mo_restOf 123 = .ok (.goto (-113), 3) := by decide +kernel
theorem d_Mo_restOf_126 : decode b_Mo_restOf 126 = .ok (.lload_n 3, 1) := by decide +kernel
theorem d_Mo_restOf_127 : decode b_Mo_restOf 127 = .ok (.lreturn, 1) := by decide +kernel
theorem d_Mo_minutes_0 : decode b_Mo_minutes 0 = .ok (.aload_n 0, 1) := by decide +kernel
theorem d_Mo_minutes_1 : decode b_Mo_minutes 1 = .ok (.iload_n 1, 1) := by decide +kernel
theorem d_Mo_minutes_2 : decode b_Mo_minutes 2 = .ok (.iload_n 2, 1) := by decide +kernel
theorem d_Mo_minutes_3 : decode b_Mo_minutes 3 = .ok (.invokevirtual 350, 3) := by decide +kernel
theorem d_Mo_minutes_6 : decode b_Mo_minutes 6 = .ok (.ifCond .eq 17, 3) := by decide +kernel
theorem d_Mo_minutes_9 : decode b_Mo_minutes 9 = .ok (.aload_n 0, 1) := by decide +kernel
theorem d_Mo_minutes_10 : decode b_Mo_minutes 10 = .ok (.iload_n 1, 1) := by decide +kernel
theorem d_Mo_minutes_11 : decode b_Mo_minutes 11 = .ok (.iload_n 3, 1) := by decide +kernel
theorem d_Mo_minutes_12 : decode b_Mo_minutes 12 = .ok (.invokevirtual 350, 3) := by decide +kernel
theorem d_Mo_minutes_15 : decode b_Mo_minutes 15 = .ok (.ifCond .eq 8, 3) := by decide +kernel
theorem d_Mo_minutes_18 : decode b_Mo_minutes 18 = .ok (.iload_n 3, 1) := by decide +kernel
theorem d_Mo_minutes_19 : decode b_Mo_minutes 19 = .ok (.iload_n 2, 1) := by decide +kernel
theorem d_Mo_minutes_20 : decode b_Mo_minutes 20 = .ok (.if_icmp .ge 7, 3) := by decide +kernel
theorem d_Mo_minutes_23 : decode b_Mo_minutes 23 = .ok (.ldc2_w 366, 3) := by decide +kernel
theorem d_Mo_minutes_26 : decode b_Mo_minutes 26 = .ok (.lreturn, 1) := by decide +kernel
theorem d_Mo_minutes_27 : decode b_Mo_minutes 27 = .ok (.lconst 0, 1) := by decide +kernel
theorem d_Mo_minutes_28 : decode b_Mo_minutes 28 = .ok (.lstore 4, 2) := by decide +kernel
theorem d_Mo_minutes_30 : decode b_Mo_minutes 30 = .ok (.iload_n 2, 1) := by decide +kernel
theorem d_Mo_minutes_31 : decode b_Mo_minutes 31 = .ok (.istore 6, 2) := by decide +kernel
theorem d_Mo_minutes_33 : decode b_Mo_minutes 33 = .ok (.iload 6, 2) := by decide +kernel
theorem d_Mo_minutes_35 : decode b_Mo_minutes 35 = .ok (.iload_n 3, 1) := by decide +kernel
theorem d_Mo_minutes_36 : decode b_Mo_minutes 36 = .ok (.if_icmp .gt 51, 3) := by decide +kernel
theorem d_Mo_minutes_39 : decode b_Mo_minutes 39 = .ok (.lload 4, 2) := by decide +kernel
theorem d_Mo_minutes_41 : decode b_Mo_minutes 41 = .ok (.aload_n 0, 1) := by decide +kernel
theorem d_Mo_minutes_42 : decode b_Mo_minutes 42 = .ok (.getfield 7, 3) := by decide +kernel
theorem d_Mo_minutes_45 : decode b_Mo_minutes 45 = .ok (.bipush 21, 2) := by decide +kernel
theorem d_Mo_minutes_47 : decode b_Mo_minutes 47 = .ok (.iload_n 1, 1) := by decide +kernel
theorem d_Mo_minutes_48 : decode b_Mo_minutes 48 = .ok (.imul, 1) := by decide +kernel
theorem d_Mo_minutes_49 : decode b_Mo_minutes 49 = .ok (.iload 6, 2) := by decide +kernel
theorem d_Mo_minutes_51 : decode b_Mo_minutes 51 = .ok (.iadd, 1) := by decide +kernel
theorem d_Mo_minutes_52 : decode b_Mo_minutes 52 = .ok (.iaload, 1) := by decide +kernel
theorem d_Mo_minutes_53 : decode b_Mo_minutes 53 = .ok (.ifCond .lt 24, 3) := by decide +kernel
theorem d_Mo_minutes_56 : decode b_Mo_minutes 56 = .ok (.aload_n 0, 1) := by decide +kernel
theorem d_Mo_minutes_57 : decode b_Mo_minutes 57 = .ok (.getfield 19, 3) := by decide +kernel
theorem d_Mo_minutes_60 : decode b_Mo_minutes 60 = .ok (.aload_n 0, 1) := by decide +kernel
theorem d_Mo_minutes_61 : decode b_Mo_minutes 61 = .ok (.getfield 7, 3) := by decide +kernel
theorem d_Mo_minutes_64 : decode b_Mo_minutes 64 = .ok (.bipush 21, 2) := by decide +kernel
theorem d_Mo_minutes_66 : decode b_Mo_minutes 66 = .ok (.iload_n 1, 1) := by decide +kernel
theorem d_Mo_minutes_67 : decode b_Mo_minutes 67 = .ok (.imul, 1) := by decide +kernel
theorem d_Mo_minutes_68 : decode b_Mo_minutes 68 = .ok (.iload 6, 2) := by decide +kernel
theorem d_Mo_minutes_70 : decode b_Mo_minutes 70 = .ok (.iadd, 1) := by decide +kernel
theorem d_Mo_minutes_71 : decode b_Mo_minutes 71 = .ok (.iaload, 1) := by decide +kernel
theorem d_Mo_minutes_72 : decode b_Mo_minutes 72 = .ok (.iaload, 1) := by decide +kernel
theorem d_Mo_minutes_73 : decode b_Mo_minutes 73 = .ok (.i2l, 1) := by decide +kernel
theorem d_Mo_minutes_74 : decode b_Mo_minutes 74 = .ok (.goto 4, 3) := by decide +kernel
theorem d_Mo_minutes_77 : decode b_Mo_minutes 77 = .ok (.lconst 0, 1) := by decide +kernel
theorem d_Mo_minutes_78 : decode b_Mo_minutes 78 = .ok (.ladd, 1) := by decide +kernel
theorem d_Mo_minutes_79 : decode b_Mo_minutes 79 = .ok (.lstore 4, 2) := by decide +kernel
theorem d_Mo_minutes_81 : decode b_Mo_minutes 81 = .ok (.iinc 6 1, 3) := by decide +kernel
theorem d_Mo_minutes_84 : decode b_Mo_minutes 84 = .ok (.goto (-51), 3) := by decide +kernel
theorem d_Mo_minutes_87 : decode b_Mo_minutes 87 = .ok (.lload 4, 2) := by decide +kernel
theorem d_Mo_minutes_89 : decode b_Mo_minutes 89 = .ok (.lreturn, 1) := by decide +kernel
theorem d_Mo_neverOf_0 : decode b_Mo_neverOf 0 = .ok (.lconst 0, 1) := by decide +kernel
theorem d_Mo_neverOf_1 : decode b_Mo_neverOf 1 = .ok (.lstore_n 3, 1) := by decide +kernel
theorem d_Mo_neverOf_2 : decode b_Mo_neverOf 2 = .ok (.iconst 0, 1) := by decide +kernel
theorem d_Mo_neverOf_3 : decode b_Mo_neverOf 3 = .ok (.istore 5, 2) := by decide +kernel
theorem d_Mo_neverOf_5 : decode b_Mo_neverOf 5 = .ok (.bipush (-7), 2) := by decide +kernel
theorem d_Mo_neverOf_7 : decode b_Mo_neverOf 7 = .ok (.istore 6, 2) := by decide +kernel
theorem d_Mo_neverOf_9 : decode b_Mo_neverOf 9 = .ok (.iload 6, 2) := by decide +kernel
theorem d_Mo_neverOf_11 : decode b_Mo_neverOf 11 = .ok (.aload_n 0, 1) := by decide +kernel
theorem d_Mo_neverOf_12 : decode b_Mo_neverOf 12 = .ok (.getfield 159, 3) := by decide +kernel
theorem d_Mo_neverOf_15 : decode b_Mo_neverOf 15 = .ok (.if_icmp .ge 56, 3) := by decide +kernel
theorem d_Mo_neverOf_18 : decode b_Mo_neverOf 18 = .ok (.aload_n 0, 1) := by decide +kernel
theorem d_Mo_neverOf_19 : decode b_Mo_neverOf 19 = .ok (.iload_n 1, 1) := by decide +kernel
theorem d_Mo_neverOf_20 : decode b_Mo_neverOf 20 = .ok (.iload 5, 2) := by decide +kernel
theorem d_Mo_neverOf_22 : decode b_Mo_neverOf 22 = .ok (.sipush 1024, 3) := by decide +kernel
theorem d_Mo_neverOf_25 : decode b_Mo_neverOf 25 = .ok (.ior, 1) := by decide +kernel
theorem d_Mo_neverOf_26 : decode b_Mo_neverOf 26 = .ok (.aload_n 0, 1) := by decide +kernel
theorem d_Mo_neverOf_27 : decode b_Mo_neverOf 27 = .ok (.iload_n 2, 1) := by decide +kernel
theorem d_Mo_neverOf_28 : decode b_Mo_neverOf 28 = .ok (.iload 6, 2) := by decide +kernel
theorem d_Mo_neverOf_30 : decode b_Mo_neverOf 30 = .ok (.invokevirtual 363, 3) := by decide +kernel
theorem d_Mo_neverOf_33 : decode b_Mo_neverOf 33 = .ok (.iconst 1, 1) := by decide +kernel
theorem d_Mo_neverOf_34 : decode b_Mo_neverOf 34 = .ok (.iadd, 1) := by decide +kernel
theorem d_Mo_neverOf_35 : decode b_Mo_neverOf 35 = .ok (.invokevirtual 330, 3) := by decide +kernel
theorem d_Mo_neverOf_38 : decode b_Mo_neverOf 38 = .ok (.istore 5, 2) := by decide +kernel
theorem d_Mo_neverOf_40 : decode b_Mo_neverOf 40 = .ok (.lload_n 3, 1) := by decide +kernel
theorem d_Mo_neverOf_41 : decode b_Mo_neverOf 41 = .ok (.iload 6, 2) := by decide +kernel
theorem d_Mo_neverOf_43 : decode b_Mo_neverOf 43 = .ok (.ifCond .lt 19, 3) := by decide +kernel
theorem d_Mo_neverOf_46 : decode b_Mo_neverOf 46 = .ok (.iload 5, 2) := by decide +kernel
theorem d_Mo_neverOf_48 : decode b_Mo_neverOf 48 = .ok (.aload_n 0, 1) := by decide +kernel
theorem d_Mo_neverOf_49 : decode b_Mo_neverOf 49 = .ok (.getfield 69, 3) := by decide +kernel
theorem d_Mo_neverOf_52 : decode b_Mo_neverOf 52 = .ok (.iload_n 1, 1) := by decide +kernel
theorem d_Mo_neverOf_53 : decode b_Mo_neverOf 53 = .ok (.iaload, 1) := by decide +kernel
theorem d_Mo_neverOf_54 : decode b_Mo_neverOf 54 = .ok (.iand, 1) := by decide +kernel
theorem d_Mo_neverOf_55 : decode b_Mo_neverOf 55 = .ok (.ifCond .eq 7, 3) := by decide +kernel
theorem d_Mo_neverOf_58 : decode b_Mo_neverOf 58 = .ok (.lconst 1, 1) := by decide +kernel
theorem d_Mo_neverOf_59 : decode b_Mo_neverOf 59 = .ok (.goto 4, 3) := by decide +kernel
theorem d_Mo_neverOf_62 : decode b_Mo_neverOf 62 = .ok (.lconst 0, 1) := by decide +kernel
theorem d_Mo_neverOf_63 : decode b_Mo_neverOf 63 = .ok (.ladd, 1) := by decide +kernel
theorem d_Mo_neverOf_64 : decode b_Mo_neverOf 64 = .ok (.lstore_n 3, 1) := by decide +kernel
theorem d_Mo_neverOf_65 : decode b_Mo_neverOf 65 = .ok (.iinc 6 1, 3) := by decide +kernel
theorem d_Mo_neverOf_68 : decode b_Mo_neverOf 68 = .ok (.goto (-59), 3) := by decide +kernel
theorem d_Mo_neverOf_71 : decode b_Mo_neverOf 71 = .ok (.lload_n 3, 1) := by decide +kernel
theorem d_Mo_neverOf_72 : decode b_Mo_neverOf 72 = .ok (.lreturn, 1) := by decide +kernel
theorem d_Mo_byPerson_0 : decode b_Mo_byPerson 0 = .ok (.lconst 0, 1) := by decide +kernel
theorem d_Mo_byPerson_1 : decode b_Mo_byPerson 1 = .ok (.lstore_n 3, 1) := by decide +kernel
theorem d_Mo_byPerson_2 : decode b_Mo_byPerson 2 = .ok (.aload_n 0, 1) := by decide +kernel
theorem d_Mo_byPerson_3 : decode b_Mo_byPerson 3 = .ok (.getfield 42, 3) := by decide +kernel
theorem d_Mo_byPerson_6 : decode b_Mo_byPerson 6 = .ok (.iload_n 1, 1) := by decide +kernel
theorem d_Mo_byPerson_7 : decode b_Mo_byPerson 7 = .ok (.iaload, 1) := by decide +kernel
theorem d_Mo_byPerson_8 : decode b_Mo_byPerson 8 = .ok (.tableswitch 215 0 3 #[32, 98, 105, 208], 32) := by decide +kernel
theorem d_Mo_byPerson_40 : decode b_Mo_byPerson 40 = .ok (.iconst 0, 1) := by decide +kernel
theorem d_Mo_byPerson_41 : decode b_Mo_byPerson 41 = .ok (.istore 5, 2) := by decide +kernel
theorem d_Mo_byPerson_43 : decode b_Mo_byPerson 43 = .ok (.iload 5, 2) := by decide +kernel
theorem d_Mo_byPerson_45 : decode b_Mo_byPerson 45 = .ok (.aload_n 0, 1) := by decide +kernel
theorem d_Mo_byPerson_46 : decode b_Mo_byPerson 46 = .ok (.getfield 159, 3) := by decide +kernel
theorem d_Mo_byPerson_49 : decode b_Mo_byPerson 49 = .ok (.if_icmp .ge 55, 3) := by decide +kernel
theorem d_Mo_byPerson_52 : decode b_Mo_byPerson 52 = .ok (.aload_n 0, 1) := by decide +kernel
theorem d_Mo_byPerson_53 : decode b_Mo_byPerson 53 = .ok (.getfield 7, 3) := by decide +kernel
theorem d_Mo_byPerson_56 : decode b_Mo_byPerson 56 = .ok (.bipush 21, 2) := by decide +kernel
theorem d_Mo_byPerson_58 : decode b_Mo_byPerson 58 = .ok (.iload_n 2, 1) := by decide +kernel
theorem d_Mo_byPerson_59 : decode b_Mo_byPerson 59 = .ok (.imul, 1) := by decide +kernel
theorem d_Mo_byPerson_60 : decode b_Mo_byPerson 60 = .ok (.iload 5, 2) := by decide +kernel
theorem d_Mo_byPerson_62 : decode b_Mo_byPerson 62 = .ok (.iadd, 1) := by decide +kernel
theorem d_Mo_byPerson_63 : decode b_Mo_byPerson 63 = .ok (.iaload, 1) := by decide +kernel
theorem d_Mo_byPerson_64 : decode b_Mo_byPerson 64 = .ok (.istore 6, 2) := by decide +kernel
theorem d_Mo_byPerson_66 : decode b_Mo_byPerson 66 = .ok (.lload_n 3, 1) := by decide +kernel
theorem d_Mo_byPerson_67 : decode b_Mo_byPerson 67 = .ok (.iload 6, 2) := by decide +kernel
theorem d_Mo_byPerson_69 : decode b_Mo_byPerson 69 = .ok (.ifCond .lt 26, 3) := by decide +kernel
theorem d_Mo_byPerson_72 : decode b_Mo_byPerson 72 = .ok (.aload_n 0, 1) := by decide +kernel
theorem d_Mo_byPerson_73 : decode b_Mo_byPerson 73 = .ok (.getfield 25, 3) := by decide +kernel
theorem d_Mo_byPerson_76 : decode b_Mo_byPerson 76 = .ok (.iload_n 2, 1) := by decide +kernel
theorem d_Mo_byPerson_77 : decode b_Mo_byPerson 77 = .ok (.iaload, 1) := by decide +kernel
theorem d_Mo_byPerson_78 : decode b_Mo_byPerson 78 = .ok (.aload_n 0, 1) := by decide +kernel
theorem d_Mo_byPerson_79 : decode b_Mo_byPerson 79 = .ok (.getfield 22, 3) := by decide +kernel
theorem d_Mo_byPerson_82 : decode b_Mo_byPerson 82 = .ok (.iload 6, 2) := by decide +kernel
theorem d_Mo_byPerson_84 : decode b_Mo_byPerson 84 = .ok (.iaload, 1) := by decide +kernel
theorem d_Mo_byPerson_85 : decode b_Mo_byPerson 85 = .ok (.ishr, 1) := by decide +kernel
theorem d_Mo_byPerson_86 : decode b_Mo_byPerson 86 = .ok (.iconst 1, 1) := by decide +kernel
theorem d_Mo_byPerson_87 : decode b_Mo_byPerson 87 = .ok (.iand, 1) := by decide +kernel
theorem d_Mo_byPerson_88 : decode b_Mo_byPerson 88 = .ok (.ifCond .ne 7, 3) := by decide +kernel
theorem d_Mo_byPerson_91 : decode b_Mo_byPerson 91 = .ok (.lconst 1, 1) := by decide +kernel
theorem d_Mo_byPerson_92 : decode b_Mo_byPerson 92 = .ok (.goto 4, 3) := by decide +kernel
theorem d_Mo_byPerson_95 : decode b_Mo_byPerson 95 = .ok (.lconst 0, 1) := by decide +kernel
theorem d_Mo_byPerson_96 : decode b_Mo_byPerson 96 = .ok (.ladd, 1) := by decide +kernel
theorem d_Mo_byPerson_97 : decode b_Mo_byPerson 97 = .ok (.lstore_n 3, 1) := by decide +kernel
theorem d_Mo_byPerson_98 : decode b_Mo_byPerson 98 = .ok (.iinc 5 1, 3) := by decide +kernel
theorem d_Mo_byPerson_101 : decode b_Mo_byPerson 101 = .ok (.goto (-58), 3) := by decide +kernel
theorem d_Mo_byPerson_104 : decode b_Mo_byPerson 104 = .ok (.lload_n 3, 1) := by decide +kernel
theorem d_Mo_byPerson_105 : decode b_Mo_byPerson 105 = .ok (.lreturn, 1) := by decide +kernel
theorem d_Mo_byPerson_106 : decode b_Mo_byPerson 106 = .ok (.aload_n 0, 1) := by decide +kernel
theorem d_Mo_byPerson_107 : decode b_Mo_byPerson 107 = .ok (.iload_n 1, 1) := by decide +kernel
theorem d_Mo_byPerson_108 : decode b_Mo_byPerson 108 = .ok (.iload_n 2, 1) := by decide +kernel
theorem d_Mo_byPerson_109 : decode b_Mo_byPerson 109 = .ok (.invokevirtual 353, 3) := by decide +kernel
theorem d_Mo_byPerson_112 : decode b_Mo_byPerson 112 = .ok (.lreturn, 1) := by decide +kernel
theorem d_Mo_byPerson_113 : decode b_Mo_byPerson 113 = .ok (.iconst 0, 1) := by decide +kernel
theorem d_Mo_byPerson_114 : decode b_Mo_byPerson 114 = .ok (.istore 5, 2) := by decide +kernel
theorem d_Mo_byPerson_116 : decode b_Mo_byPerson 116 = .ok (.iload 5, 2) := by decide +kernel
theorem d_Mo_byPerson_118 : decode b_Mo_byPerson 118 = .ok (.aload_n 0, 1) := by decide +kernel
theorem d_Mo_byPerson_119 : decode b_Mo_byPerson 119 = .ok (.getfield 57, 3) := by decide +kernel
theorem d_Mo_byPerson_122 : decode b_Mo_byPerson 122 = .ok (.iload_n 1, 1) := by decide +kernel
theorem d_Mo_byPerson_123 : decode b_Mo_byPerson 123 = .ok (.iaload, 1) := by decide +kernel
theorem d_Mo_byPerson_124 : decode b_Mo_byPerson 124 = .ok (.iadd, 1) := by decide +kernel
theorem d_Mo_byPerson_125 : decode b_Mo_byPerson 125 = .ok (.aload_n 0, 1) := by decide +kernel
theorem d_Mo_byPerson_126 : decode b_Mo_byPerson 126 = .ok (.getfield 159, 3) := by decide +kernel
theorem d_Mo_byPerson_129 : decode b_Mo_byPerson 129 = .ok (.if_icmp .gt 85, 3) := by decide +kernel
theorem d_Mo_byPerson_132 : decode b_Mo_byPerson 132 = .ok (.aload_n 0, 1) := by decide +kernel
theorem d_Mo_byPerson_133 : decode b_Mo_byPerson 133 = .ok (.iload_n 2, 1) := by decide +kernel
theorem d_Mo_byPerson_134 : decode b_Mo_byPerson 134 = .ok (.iload 5, 2) := by decide +kernel
theorem d_Mo_byPerson_136 : decode b_Mo_byPerson 136 = .ok (.iload 5, 2) := by decide +kernel
theorem d_Mo_byPerson_138 : decode b_Mo_byPerson 138 = .ok (.aload_n 0, 1) := by decide +kernel
theorem d_Mo_byPerson_139 : decode b_Mo_byPerson 139 = .ok (.getfield 57, 3) := by decide +kernel
theorem d_Mo_byPerson_142 : decode b_Mo_byPerson 142 = .ok (.iload_n 1, 1) := by decide +kernel
theorem d_Mo_byPerson_143 : decode b_Mo_byPerson 143 = .ok (.iaload, 1) := by decide +kernel
theorem d_Mo_byPerson_144 : decode b_Mo_byPerson 144 = .ok (.iadd, 1) := by decide +kernel
theorem d_Mo_byPerson_145 : decode b_Mo_byPerson 145 = .ok (.iconst 1, 1) := by decide +kernel
theorem d_Mo_byPerson_146 : decode b_Mo_byPerson 146 = .ok (.isub, 1) := by decide +kernel
theorem d_Mo_byPerson_147 : decode b_Mo_byPerson 147 = .ok (.invokevirtual 357, 3) := by decide +kernel
theorem d_Mo_byPerson_150 : decode b_Mo_byPerson 150 = .ok (.lstore 6, 2) := by decide +kernel
theorem d_Mo_byPerson_152 : decode b_Mo_byPerson 152 = .ok (.lload_n 3, 1) := by decide +kernel
theorem d_Mo_byPerson_153 : decode b_Mo_byPerson 153 = .ok (.lload 6, 2) := by decide +kernel
theorem d_Mo_byPerson_155 : decode b_Mo_byPerson 155 = .ok (.aload_n 0, 1) := by decide +kernel
theorem d_Mo_byPerson_156 : decode b_Mo_byPerson 156 = .ok (.getfield 51, 3) := by decide +kernel
theorem d_Mo_byPerson_159 : decode b_Mo_byPerson 159 = .ok (.iload_n 1, 1) := by decide +kernel
theorem d_Mo_byPerson_160 : decode b_Mo_byPerson 160 = .ok (.iaload, 1) := by decide +kernel
theorem d_Mo_byPerson_161 : decode b_Mo_byPerson 161 = .ok (.i2l, 1) := by decide +kernel
theorem d_Mo_byPerson_162 : decode b_Mo_byPerson 162 = .ok (.lcmp, 1) := by decide +kernel
theorem d_Mo_byPerson_163 : decode b_Mo_byPerson 163 = .ok (.ifCond .ge 16, 3) := by decide +kernel
theorem d_Mo_byPerson_166 : decode b_Mo_byPerson 166 = .ok (.aload_n 0, 1) := by decide +kernel
theorem d_Mo_byPerson_167 : decode b_Mo_byPerson 167 = .ok (.getfield 51, 3) := by decide +kernel
theorem d_Mo_byPerson_170 : decode b_Mo_byPerson 170 = .ok (.iload_n 1, 1) := by decide +kernel
theorem d_Mo_byPerson_171 : decode b_Mo_byPerson 171 = .ok (.iaload, 1) := by decide +kernel
theorem d_Mo_byPerson_172 : decode b_Mo_byPerson 172 = .ok (.i2l, 1) := by decide +kernel
theorem d_Mo_byPerson_173 : decode b_Mo_byPerson 173 = .ok (.lload 6, 2) := by decide +kernel
theorem d_Mo_byPerson_175 : decode b_Mo_byPerson 175 = .ok (.lsub, 1) := by decide +kernel
theorem d_Mo_byPerson_176 : decode b_Mo_byPerson 176 = .ok (.goto 30, 3) := by decide +kernel
theorem d_Mo_byPerson_179 : decode b_Mo_byPerson 179 = .ok (.lload 6, 2) := by decide +kernel
theorem d_Mo_byPerson_181 : decode b_Mo_byPerson 181 = .ok (.aload_n 0, 1) := by decide +kernel
theorem d_Mo_byPerson_182 : decode b_Mo_byPerson 182 = .ok (.getfield 54, 3) := by decide +kernel
theorem d_Mo_byPerson_185 : decode b_Mo_byPerson 185 = .ok (.iload_n 1, 1) := by decide +kernel
theorem d_Mo_byPerson_186 : decode b_Mo_byPerson 186 = .ok (.iaload, 1) := by decide +kernel
theorem d_Mo_byPerson_187 : decode b_Mo_byPerson 187 = .ok (.i2l, 1) := by decide +kernel
theorem d_Mo_byPerson_188 : decode b_Mo_byPerson 188 = .ok (.lcmp, 1) := by decide +kernel
theorem d_Mo_byPerson_189 : decode b_Mo_byPerson 189 = .ok (.ifCond .le 16, 3) := by decide +kernel
theorem d_Mo_byPerson_192 : decode b_Mo_byPerson 192 = .ok (.lload 6, 2) := by decide +kernel
theorem d_Mo_byPerson_194 : decode b_Mo_byPerson 194 = .ok (.aload_n 0, 1) := by decide +kernel
theorem d_Mo_byPerson_195 : decode b_Mo_byPerson 195 = .ok (.getfield 54, 3) := by decide +kernel
theorem d_Mo_byPerson_198 : decode b_Mo_byPerson 198 = .ok (.iload_n 1, 1) := by decide +kernel
theorem d_Mo_byPerson_199 : decode b_Mo_byPerson 199 = .ok (.iaload, 1) := by decide +kernel
theorem d_Mo_byPerson_200 : decode b_Mo_byPerson 200 = .ok (.i2l, 1) := by decide +kernel
theorem d_Mo_byPerson_201 : decode b_Mo_byPerson 201 = .ok (.lsub, 1) := by decide +kernel
theorem d_Mo_byPerson_202 : decode b_Mo_byPerson 202 = .ok (.goto 4, 3) := by decide +kernel
theorem d_Mo_byPerson_205 : decode b_Mo_byPerson 205 = .ok (.lconst 0, 1) := by decide +kernel
theorem d_Mo_byPerson_206 : decode b_Mo_byPerson 206 = .ok (.ladd, 1) := by decide +kernel
theorem d_Mo_byPerson_207 : decode b_Mo_byPerson 207 = .ok (.lstore_n 3, 1) := by decide +kernel
theorem d_Mo_byPerson_208 : decode b_Mo_byPerson 208 = .ok (.iinc 5 1, 3) := by decide +kernel
theorem d_Mo_byPerson_211 : decode b_Mo_byPerson 211 = .ok (.goto (-95), 3) := by decide +kernel
theorem d_Mo_byPerson_214 : decode b_Mo_byPerson 214 = .ok (.lload_n 3, 1) := by decide +kernel
theorem d_Mo_byPerson_215 : decode b_Mo_byPerson 215 = .ok (.lreturn, 1) := by decide +kernel
theorem d_Mo_byPerson_216 : decode b_Mo_byPerson 216 = .ok (.aload_n 0, 1) := by decide +kernel
theorem d_Mo_byPerson_217 : decode b_Mo_byPerson 217 = .ok (.iload_n 1, 1) := by decide +kernel
theorem d_Mo_byPerson_218 : decode b_Mo_byPerson 218 = .ok (.iload_n 2, 1) := by decide +kernel
theorem d_Mo_byPerson_219 : decode b_Mo_byPerson 219 = .ok (.invokevirtual 360, 3) := by decide +kernel
theorem d_Mo_byPerson_222 : decode b_Mo_byPerson 222 = .ok (.lreturn, 1) := by decide +kernel
theorem d_Mo_byPerson_223 : decode b_Mo_byPerson 223 = .ok (.iconst 0, 1) := by decide +kernel
theorem d_Mo_byPerson_224 : decode b_Mo_byPerson 224 = .ok (.istore 5, 2) := by decide +kernel
theorem d_Mo_byPerson_226 : decode b_Mo_byPerson 226 = .ok (.iconst 0, 1) := by decide +kernel
theorem d_Mo_byPerson_227 : decode b_Mo_byPerson 227 = .ok (.istore 6, 2) := by decide +kernel
theorem d_Mo_byPerson_229 : decode b_Mo_byPerson 229 = .ok (.iload 6, 2) := by decide +kernel
theorem d_Mo_byPerson_231 : decode b_Mo_byPerson 231 = .ok (.aload_n 0, 1) := by decide +kernel
theorem d_Mo_byPerson_232 : decode b_Mo_byPerson 232 = .ok (.getfield 159, 3) := by decide +kernel
theorem d_Mo_byPerson_235 : decode b_Mo_byPerson 235 = .ok (.if_icmp .ge 42, 3) := by decide +kernel
theorem d_Mo_byPerson_238 : decode b_Mo_byPerson 238 = .ok (.aload_n 0, 1) := by decide +kernel
theorem d_Mo_byPerson_239 : decode b_Mo_byPerson 239 = .ok (.getfield 83, 3) := by decide +kernel
theorem d_Mo_byPerson_242 : decode b_Mo_byPerson 242 = .ok (.bipush 9, 2) := by decide +kernel
theorem d_Mo_byPerson_244 : decode b_Mo_byPerson 244 = .ok (.sipush 1025, 3) := by decide +kernel
theorem d_Mo_byPerson_247 : decode b_Mo_byPerson 247 = .ok (.iload_n 1, 1) := by decide +kernel
theorem d_Mo_byPerson_248 : decode b_Mo_byPerson 248 = .ok (.imul, 1) := by decide +kernel
theorem d_Mo_byPerson_249 : decode b_Mo_byPerson 249 = .ok (.iload 5, 2) := by decide +kernel
theorem d_Mo_byPerson_251 : decode b_Mo_byPerson 251 = .ok (.iadd, 1) := by decide +kernel
theorem d_Mo_byPerson_252 : decode b_Mo_byPerson 252 = .ok (.imul, 1) := by decide +kernel
theorem d_Mo_byPerson_253 : decode b_Mo_byPerson 253 = .ok (.aload_n 0, 1) := by decide +kernel
theorem d_Mo_byPerson_254 : decode b_Mo_byPerson 254 = .ok (.getfield 7, 3) := by decide +kernel
theorem d_Mo_byPerson_257 : decode b_Mo_byPerson 257 = .ok (.bipush 21, 2) := by decide +kernel
theorem d_Mo_byPerson_259 : decode b_Mo_byPerson 259 = .ok (.iload_n 2, 1) := by decide +kernel
theorem d_Mo_byPerson_260 : decode b_Mo_byPerson 260 = .ok (.imul, 1) := by decide +kernel
theorem d_Mo_byPerson_261 : decode b_Mo_byPerson 261 = .ok (.iload 6, 2) := by decide +kernel
theorem d_Mo_byPerson_263 : decode b_Mo_byPerson 263 = .ok (.iadd, 1) := by decide +kernel
theorem d_Mo_byPerson_264 : decode b_Mo_byPerson 264 = .ok (.iaload, 1) := by decide +kernel
theorem d_Mo_byPerson_265 : decode b_Mo_byPerson 265 = .ok (.iadd, 1) := by decide +kernel
theorem d_Mo_byPerson_266 : decode b_Mo_byPerson 266 = .ok (.iconst 1, 1) := by decide +kernel
theorem d_Mo_byPerson_267 : decode b_Mo_byPerson 267 = .ok (.iadd, 1) := by decide +kernel
theorem d_Mo_byPerson_268 : decode b_Mo_byPerson 268 = .ok (.iaload, 1) := by decide +kernel
theorem d_Mo_byPerson_269 : decode b_Mo_byPerson 269 = .ok (.istore 5, 2) := by decide +kernel
theorem d_Mo_byPerson_271 : decode b_Mo_byPerson 271 = .ok (.iinc 6 1, 3) := by decide +kernel
theorem d_Mo_byPerson_274 : decode b_Mo_byPerson 274 = .ok (.goto (-45), 3) := by decide +kernel
theorem d_Mo_byPerson_277 : decode b_Mo_byPerson 277 = .ok (.aload_n 0, 1) := by decide +kernel
theorem d_Mo_byPerson_278 : decode b_Mo_byPerson 278 = .ok (.getfield 86, 3) := by decide +kernel
theorem d_Mo_byPerson_281 : decode b_Mo_byPerson 281 = .ok (.sipush 1025, 3) := by decide +kernel
theorem d_Mo_byPerson_284 : decode b_Mo_byPerson 284 = .ok (.iload_n 1, 1) := by decide +kernel
theorem d_Mo_byPerson_285 : decode b_Mo_byPerson 285 = .ok (.imul, 1) := by decide +kernel
theorem d_Mo_byPerson_286 : decode b_Mo_byPerson 286 = .ok (.iload 5, 2) := by decide +kernel
theorem d_Mo_byPerson_288 : decode b_Mo_byPerson 288 = .ok (.iadd, 1) := by decide +kernel
theorem d_Mo_byPerson_289 : decode b_Mo_byPerson 289 = .ok (.baload, 1) := by decide +kernel
theorem d_Mo_byPerson_290 : decode b_Mo_byPerson 290 = .ok (.ifCond .eq 7, 3) := by decide +kernel
theorem d_Mo_byPerson_293 : decode b_Mo_byPerson 293 = .ok (.lconst 0, 1) := by decide +kernel
theorem d_Mo_byPerson_294 : decode b_Mo_byPerson 294 = .ok (.goto 4, 3) := by decide +kernel
theorem d_Mo_byPerson_297 : decode b_Mo_byPerson 297 = .ok (.lconst 1, 1) := by decide +kernel
theorem d_Mo_byPerson_298 : decode b_Mo_byPerson 298 = .ok (.lreturn, 1) := by decide +kernel
theorem d_Mo_byDay_0 : decode b_Mo_byDay 0 = .ok (.iconst 0, 1) := by decide +kernel
theorem d_Mo_byDay_1 : decode b_Mo_byDay 1 = .ok (.istore_n 3, 1) := by decide +kernel
theorem d_Mo_byDay_2 : decode b_Mo_byDay 2 = .ok (.iconst 0, 1) := by decide +kernel
theorem d_Mo_byDay_3 : decode b_Mo_byDay 3 = .ok (.istore 4, 2) := by decide +kernel
theorem d_Mo_byDay_5 : decode b_Mo_byDay 5 = .ok (.iload 4, 2) := by decide +kernel
theorem d_Mo_byDay_7 : decode b_Mo_byDay 7 = .ok (.aload_n 0, 1) := by decide +kernel
theorem d_Mo_byDay_8 : decode b_Mo_byDay 8 = .ok (.getfield 156, 3) := by decide +kernel
theorem d_Mo_byDay_11 : decode b_Mo_byDay 11 = .ok (.if_icmp .ge 38, 3) := by decide +kernel
theorem d_Mo_byDay_14 : decode b_Mo_byDay 14 = .ok (.iload_n 3, 1) := by decide +kernel
theorem d_Mo_byDay_15 : decode b_Mo_byDay 15 = .ok (.aload_n 0, 1) := by decide +kernel
theorem d_Mo_byDay_16 : decode b_Mo_byDay 16 = .ok (.getfield 7, 3) := by decide +kernel
theorem d_Mo_byDay_19 : decode b_Mo_byDay 19 = .ok (.bipush 21, 2) := by decide +kernel
theorem d_Mo_byDay_21 : decode b_Mo_byDay 21 = .ok (.iload 4, 2) := by decide +kernel
theorem d_Mo_byDay_23 : decode b_Mo_byDay 23 = .ok (.imul, 1) := by decide +kernel
theorem d_Mo_byDay_24 : decode b_Mo_byDay 24 = .ok (.iload_n 2, 1) := by decide +kernel
theorem d_Mo_byDay_25 : decode b_Mo_byDay 25 = .ok (.iadd, 1) := by decide +kernel
theorem d_Mo_byDay_26 : decode b_Mo_byDay 26 = .ok (.iaload, 1) := by decide +kernel
theorem d_Mo_byDay_27 : decode b_Mo_byDay 27 = .ok (.aload_n 0, 1) := by decide +kernel
theorem d_Mo_byDay_28 : decode b_Mo_byDay 28 = .ok (.getfield 60, 3) := by decide +kernel
theorem d_Mo_byDay_31 : decode b_Mo_byDay 31 = .ok (.iload_n 1, 1) := by decide +kernel
theorem d_Mo_byDay_32 : decode b_Mo_byDay 32 = .ok (.iaload, 1) := by decide +kernel
theorem d_Mo_byDay_33 : decode b_Mo_byDay 33 = .ok (.if_icmp .ne 7, 3) := by decide +kernel
theorem d_Mo_byDay_36 : decode b_Mo_byDay 36 = .ok (.iconst 1, 1) := by decide +kernel
theorem d_Mo_byDay_37 : decode b_Mo_byDay 37 = .ok (.goto 4, 3) := by decide +kernel
theorem d_Mo_byDay_40 : decode b_Mo_byDay 40 = .ok (.iconst 0, 1) := by decide +kernel
theorem d_Mo_byDay_41 : decode b_Mo_byDay 41 = .ok (.iadd, 1) := by decide +kernel
theorem d_Mo_byDay_42 : decode b_Mo_byDay 42 = .ok (.istore_n 3, 1) := by decide +kernel
theorem d_Mo_byDay_43 : decode b_Mo_byDay 43 = .ok (.iinc 4 1, 3) := by decide +kernel
theorem d_Mo_byDay_46 : decode b_Mo_byDay 46 = .ok (.goto (-41), 3) := by decide +kernel
theorem d_Mo_byDay_49 : decode b_Mo_byDay 49 = .ok (.iload_n 3, 1) := by decide +kernel
theorem d_Mo_byDay_50 : decode b_Mo_byDay 50 = .ok (.aload_n 0, 1) := by decide +kernel
theorem d_Mo_byDay_51 : decode b_Mo_byDay 51 = .ok (.getfield 51, 3) := by decide +kernel
theorem d_Mo_byDay_54 : decode b_Mo_byDay 54 = .ok (.iload_n 1, 1) := by decide +kernel
theorem d_Mo_byDay_55 : decode b_Mo_byDay 55 = .ok (.iaload, 1) := by decide +kernel
theorem d_Mo_byDay_56 : decode b_Mo_byDay 56 = .ok (.if_icmp .ge 15, 3) := by decide +kernel
theorem d_Mo_byDay_59 : decode b_Mo_byDay 59 = .ok (.aload_n 0, 1) := by decide +kernel
theorem d_Mo_byDay_60 : decode b_Mo_byDay 60 = .ok (.getfield 51, 3) := by decide +kernel
theorem d_Mo_byDay_63 : decode b_Mo_byDay 63 = .ok (.iload_n 1, 1) := by decide +kernel
theorem d_Mo_byDay_64 : decode b_Mo_byDay 64 = .ok (.iaload, 1) := by decide +kernel
theorem d_Mo_byDay_65 : decode b_Mo_byDay 65 = .ok (.iload_n 3, 1) := by decide +kernel
theorem d_Mo_byDay_66 : decode b_Mo_byDay 66 = .ok (.isub, 1) := by decide +kernel
theorem d_Mo_byDay_67 : decode b_Mo_byDay 67 = .ok (.i2l, 1) := by decide +kernel
theorem d_Mo_byDay_68 : decode b_Mo_byDay 68 = .ok (.goto 26, 3) := by decide +kernel
theorem d_Mo_byDay_71 : decode b_Mo_byDay 71 = .ok (.iload_n 3, 1) := by decide +kernel
theorem d_Mo_byDay_72 : decode b_Mo_byDay 72 = .ok (.aload_n 0, 1) := by decide +kernel
theorem d_Mo_byDay_73 : decode b_Mo_byDay 73 = .ok (.getfield 54, 3) := by decide +kernel
theorem d_Mo_byDay_76 : decode b_Mo_byDay 76 = .ok (.iload_n 1, 1) := by decide +kernel
theorem d_Mo_byDay_77 : decode b_Mo_byDay 77 = .ok (.iaload, 1) := by decide +kernel
theorem d_Mo_byDay_78 : decode b_Mo_byDay 78 = .ok (.if_icmp .le 15, 3) := by decide +kernel
theorem d_Mo_byDay_81 : decode b_Mo_byDay 81 = .ok (.iload_n 3, 1) := by decide +kernel
theorem d_Mo_byDay_82 : decode b_Mo_byDay 82 = .ok (.aload_n 0, 1) := by decide +kernel
theorem d_Mo_byDay_83 : decode b_Mo_byDay 83 = .ok (.getfield 54, 3) := by decide +kernel
theorem d_Mo_byDay_86 : decode b_Mo_byDay 86 = .ok (.iload_n 1, 1) := by decide +kernel
theorem d_Mo_byDay_87 : decode b_Mo_byDay 87 = .ok (.iaload, 1) := by decide +kernel
theorem d_Mo_byDay_88 : decode b_Mo_byDay 88 = .ok (.isub, 1) := by decide +kernel
theorem d_Mo_byDay_89 : decode b_Mo_byDay 89 = .ok (.i2l, 1) := by decide +kernel
theorem d_Mo_byDay_90 : decode b_Mo_byDay 90 = .ok (.goto 4, 3) := by decide +kernel
theorem d_Mo_byDay_93 : decode b_Mo_byDay 93 = .ok (.lconst 0, 1) := by decide +kernel
theorem d_Mo_byDay_94 : decode b_Mo_byDay 94 = .ok (.lreturn, 1) := by decide +kernel
theorem d_Mo_spread_0 : decode b_Mo_spread 0 = .ok (.bipush 99, 2) := by decide +kernel
theorem d_Mo_spread_2 : decode b_Mo_spread 2 = .ok (.istore_n 2, 1) := by decide +kernel
theorem d_Mo_spread_3 : decode b_Mo_spread 3 = .ok (.iconst 0, 1) := by decide +kernel
theorem d_Mo_spread_4 : decode b_Mo_spread 4 = .ok (.istore_n 3, 1) := by decide +kernel
theorem d_Mo_spread_5 : decode b_Mo_spread 5 = .ok (.iconst 0, 1) := by decide +kernel
theorem d_Mo_spread_6 : decode b_Mo_spread 6 = .ok (.istore 4, 2) := by decide +kernel
theorem d_Mo_spread_8 : decode b_Mo_spread 8 = .ok (.iload 4, 2) := by decide +kernel
theorem d_Mo_spread_10 : decode b_Mo_spread 10 = .ok (.aload_n 0, 1) := by decide +kernel
theorem d_Mo_spread_11 : decode b_Mo_spread 11 = .ok (.getfield 156, 3) := by decide +kernel
theorem d_Mo_spread_14 : decode b_Mo_spread 14 = .ok (.if_icmp .ge 88, 3) := by decide +kernel
theorem d_Mo_spread_17 : decode b_Mo_spread 17 = .ok (.iconst 0, 1) := by decide +kernel
theorem d_Mo_spread_18 : decode b_Mo_spread 18 = .ok (.istore 5, 2) := by decide +kernel
theorem d_Mo_spread_20 : decode b_Mo_spread 20 = .ok (.iconst 0, 1) := by decide +kernel
theorem d_Mo_spread_21 : decode b_Mo_spread 21 = .ok (.istore 6, 2) := by decide +kernel
theorem d_Mo_spread_23 : decode b_Mo_spread 23 = .ok (.iload 6, 2) := by decide +kernel
theorem d_Mo_spread_25 : decode b_Mo_spread 25 = .ok (.aload_n 0, 1) := by decide +kernel
theorem d_Mo_spread_26 : decode b_Mo_spread 26 = .ok (.getfield 159, 3) := by decide +kernel
theorem d_Mo_spread_29 : decode b_Mo_spread 29 = .ok (.if_icmp .ge 41, 3) := by decide +kernel
theorem d_Mo_spread_32 : decode b_Mo_spread 32 = .ok (.iload 5, 2) := by decide +kernel
theorem d_Mo_spread_34 : decode b_Mo_spread 34 = .ok (.aload_n 0, 1) := by decide +kernel
theorem d_Mo_spread_35 : decode b_Mo_spread 35 = .ok (.getfield 7, 3) := by decide +kernel
theorem d_Mo_spread_38 : decode b_Mo_spread 38 = .ok (.bipush 21, 2) := by decide +kernel
theorem d_Mo_spread_40 : decode b_Mo_spread 40 = .ok (.iload 4, 2) := by decide +kernel
theorem d_Mo_spread_42 : decode b_Mo_spread 42 = .ok (.imul, 1) := by decide +kernel
theorem d_Mo_spread_43 : decode b_Mo_spread 43 = .ok (.iload 6, 2) := by decide +kernel
theorem d_Mo_spread_45 : decode b_Mo_spread 45 = .ok (.iadd, 1) := by decide +kernel
theorem d_Mo_spread_46 : decode b_Mo_spread 46 = .ok (.iaload, 1) := by decide +kernel
theorem d_Mo_spread_47 : decode b_Mo_spread 47 = .ok (.aload_n 0, 1) := by decide +kernel
theorem d_Mo_spread_48 : decode b_Mo_spread 48 = .ok (.getfield 60, 3) := by decide +kernel
theorem d_Mo_spread_51 : decode b_Mo_spread 51 = .ok (.iload_n 1, 1) := by decide +kernel
theorem d_Mo_spread_52 : decode b_Mo_spread 52 = .ok (.iaload, 1) := by decide +kernel
theorem d_Mo_spread_53 : decode b_Mo_spread 53 = .ok (.if_icmp .ne 7, 3) := by decide +kernel
theorem d_Mo_spread_56 : decode b_Mo_spread 56 = .ok (.iconst 1, 1) := by decide +kernel
theorem d_Mo_spread_57 : decode b_Mo_spread 57 = .ok (.goto 4, 3) := by decide +kernel
theorem d_Mo_spread_60 : decode b_Mo_spread 60 = .ok (.iconst 0, 1) := by decide +kernel
theorem d_Mo_spread_61 : decode b_Mo_spread 61 = .ok (.iadd, 1) := by decide +kernel
theorem d_Mo_spread_62 : decode b_Mo_spread 62 = .ok (.istore 5, 2) := by decide +kernel
theorem d_Mo_spread_64 : decode b_Mo_spread 64 = .ok (.iinc 6 1, 3) := by decide +kernel
theorem d_Mo_spread_67 : decode b_Mo_spread 67 = .ok (.goto (-44), 3) := by decide +kernel
theorem d_Mo_spread_70 : decode b_Mo_spread 70 = .ok (.iload 5, 2) := by decide +kernel
theorem d_Mo_spread_72 : decode b_Mo_spread 72 = .ok (.iload_n 2, 1) := by decide +kernel
theorem d_Mo_spread_73 : decode b_Mo_spread 73 = .ok (.if_icmp .ge 8, 3) := by decide +kernel
theorem d_Mo_spread_76 : decode b_Mo_spread 76 = .ok (.iload 5, 2) := by decide +kernel
theorem d_Mo_spread_78 : decode b_Mo_spread 78 = .ok (.goto 4, 3) := by decide +kernel
theorem d_Mo_spread_81 : decode b_Mo_spread 81 = .ok (.iload_n 2, 1) := by decide +kernel
theorem d_Mo_spread_82 : decode b_Mo_spread 82 = .ok (.istore_n 2, 1) := by decide +kernel
theorem d_Mo_spread_83 : decode b_Mo_spread 83 = .ok (.iload 5, 2) := by decide +kernel
theorem d_Mo_spread_85 : decode b_Mo_spread 85 = .ok (.iload_n 3, 1) := by decide +kernel
theorem d_Mo_spread_86 : decode b_Mo_spread 86 = .ok (.if_icmp .le 8, 3) := by decide +kernel
theorem d_Mo_spread_89 : decode b_Mo_spread 89 = .ok (.iload 5, 2) := by decide +kernel
theorem d_Mo_spread_91 : decode b_Mo_spread 91 = .ok (.goto 4, 3) := by decide +kernel
theorem d_Mo_spread_94 : decode b_Mo_spread 94 = .ok (.iload_n 3, 1) := by decide +kernel
theorem d_Mo_spread_95 : decode b_Mo_spread 95 = .ok (.istore_n 3, 1) := by decide +kernel
theorem d_Mo_spread_96 : decode b_Mo_spread 96 = .ok (.iinc 4 1, 3) := by decide +kernel
theorem d_Mo_spread_99 : decode b_Mo_spread 99 = .ok (.goto (-91), 3) := by decide +kernel
theorem d_Mo_spread_102 : decode b_Mo_spread 102 = .ok (.iload_n 3, 1) := by decide +kernel
theorem d_Mo_spread_103 : decode b_Mo_spread 103 = .ok (.iload_n 2, 1) := by decide +kernel
theorem d_Mo_spread_104 : decode b_Mo_spread 104 = .ok (.isub, 1) := by decide +kernel
theorem d_Mo_spread_105 : decode b_Mo_spread 105 = .ok (.i2l, 1) := by decide +kernel
theorem d_Mo_spread_106 : decode b_Mo_spread 106 = .ok (.lreturn, 1) := by decide +kernel
theorem d_Mo_wishOf_0 : decode b_Mo_wishOf 0 = .ok (.aload_n 0, 1) := by decide +kernel
theorem d_Mo_wishOf_1 : decode b_Mo_wishOf 1 = .ok (.getfield 31, 3) := by decide +kernel
theorem d_Mo_wishOf_4 : decode b_Mo_wishOf 4 = .ok (.bipush 21, 2) := by decide +kernel
theorem d_Mo_wishOf_6 : decode b_Mo_wishOf 6 = .ok (.iload_n 1, 1) := by decide +kernel
theorem d_Mo_wishOf_7 : decode b_Mo_wishOf 7 = .ok (.imul, 1) := by decide +kernel
theorem d_Mo_wishOf_8 : decode b_Mo_wishOf 8 = .ok (.iload_n 2, 1) := by decide +kernel
theorem d_Mo_wishOf_9 : decode b_Mo_wishOf 9 = .ok (.iadd, 1) := by decide +kernel
theorem d_Mo_wishOf_10 : decode b_Mo_wishOf 10 = .ok (.iaload, 1) := by decide +kernel
theorem d_Mo_wishOf_11 : decode b_Mo_wishOf 11 = .ok (.ifCond .le 43, 3) := by decide +kernel
theorem d_Mo_wishOf_14 : decode b_Mo_wishOf 14 = .ok (.aload_n 0, 1) := by decide +kernel
theorem d_Mo_wishOf_15 : decode b_Mo_wishOf 15 = .ok (.getfield 28, 3) := by decide +kernel
theorem d_Mo_wishOf_18 : decode b_Mo_wishOf 18 = .ok (.bipush 21, 2) := by decide +kernel
theorem d_Mo_wishOf_20 : decode b_Mo_wishOf 20 = .ok (.iload_n 1, 1) := by decide +kernel
theorem d_Mo_wishOf_21 : decode b_Mo_wishOf 21 = .ok (.imul, 1) := by decide +kernel
theorem d_Mo_wishOf_22 : decode b_Mo_wishOf 22 = .ok (.iload_n 2, 1) := by decide +kernel
theorem d_Mo_wishOf_23 : decode b_Mo_wishOf 23 = .ok (.iadd, 1) := by decide +kernel
theorem d_Mo_wishOf_24 : decode b_Mo_wishOf 24 = .ok (.iaload, 1) := by decide +kernel
theorem d_Mo_wishOf_25 : decode b_Mo_wishOf 25 = .ok (.aload_n 0, 1) := by decide +kernel
theorem d_Mo_wishOf_26 : decode b_Mo_wishOf 26 = .ok (.getfield 7, 3) := by decide +kernel
theorem d_Mo_wishOf_29 : decode b_Mo_wishOf 29 = .ok (.bipush 21, 2) := by decide +kernel
theorem d_Mo_wishOf_31 : decode b_Mo_wishOf 31 = .ok (.iload_n 1, 1) := by decide +kernel
theorem d_Mo_wishOf_32 : decode b_Mo_wishOf 32 = .ok (.imul, 1) := by decide +kernel
theorem d_Mo_wishOf_33 : decode b_Mo_wishOf 33 = .ok (.iload_n 2, 1) := by decide +kernel
theorem d_Mo_wishOf_34 : decode b_Mo_wishOf 34 = .ok (.iadd, 1) := by decide +kernel
theorem d_Mo_wishOf_35 : decode b_Mo_wishOf 35 = .ok (.iaload, 1) := by decide +kernel
theorem d_Mo_wishOf_36 : decode b_Mo_wishOf 36 = .ok (.if_icmp .eq 18, 3) := by decide +kernel
theorem d_Mo_wishOf_39 : decode b_Mo_wishOf 39 = .ok (.aload_n 0, 1) := by decide +kernel
theorem d_Mo_wishOf_40 : decode b_Mo_wishOf 40 = .ok (.getfield 31, 3) := by decide +kernel
theorem d_Mo_wishOf_43 : decode b_Mo_wishOf 43 = .ok (.bipush 21, 2) := by decide +kernel
theorem d_Mo_wishOf_45 : decode b_Mo_wishOf 45 = .ok (.iload_n 1, 1) := by decide +kernel
theorem d_Mo_wishOf_46 : decode b_Mo_wishOf 46 = .ok (.imul, 1) := by decide +kernel
theorem d_Mo_wishOf_47 : decode b_Mo_wishOf 47 = .ok (.iload_n 2, 1) := by decide +kernel
theorem d_Mo_wishOf_48 : decode b_Mo_wishOf 48 = .ok (.iadd, 1) := by decide +kernel
theorem d_Mo_wishOf_49 : decode b_Mo_wishOf 49 = .ok (.iaload, 1) := by decide +kernel
theorem d_Mo_wishOf_50 : decode b_Mo_wishOf 50 = .ok (.i2l, 1) := by decide +kernel
theorem d_Mo_wishOf_51 : decode b_Mo_wishOf 51 = .ok (.goto 4, 3) := by decide +kernel
theorem d_Mo_wishOf_54 : decode b_Mo_wishOf 54 = .ok (.lconst 0, 1) := by decide +kernel
theorem d_Mo_wishOf_55 : decode b_Mo_wishOf 55 = .ok (.lreturn, 1) := by decide +kernel
theorem d_Mo_broken_0 : decode b_Mo_broken 0 = .ok (.iload_n 1, 1) := by decide +kernel
theorem d_Mo_broken_1 : decode b_Mo_broken 1 = .ok (.ifCond .lt 16, 3) := by decide +kernel
theorem d_Mo_broken_4 : decode b_Mo_broken 4 = .ok (.iload_n 1, 1) := by decide +kernel
theorem d_Mo_broken_5 : decode b_Mo_broken 5 = .ok (.aload_n 0, 1) := by decide +kernel
theorem d_Mo_broken_6 : decode b_Mo_broken 6 = .ok (.getfield 219, 3) := by decide +kernel
theorem d_Mo_broken_9 : decode b_Mo_broken 9 = .ok (.if_icmp .ge 8, 3) := by decide +kernel
theorem d_Mo_broken_12 : decode b_Mo_broken 12 = .ok (.iload_n 2, 1) := by decide +kernel
theorem d_Mo_broken_13 : decode b_Mo_broken 13 = .ok (.iconst (-1), 1) := by decide +kernel
theorem d_Mo_broken_14 : decode b_Mo_broken 14 = .ok (.if_icmp .ge 7, 3) := by decide +kernel
theorem d_Mo_broken_17 : decode b_Mo_broken 17 = .ok (.ldc2_w 366, 3) := by decide +kernel
theorem d_Mo_broken_20 : decode b_Mo_broken 20 = .ok (.lreturn, 1) := by decide +kernel
theorem d_Mo_broken_21 : decode b_Mo_broken 21 = .ok (.aload_n 0, 1) := by decide +kernel
theorem d_Mo_broken_22 : decode b_Mo_broken 22 = .ok (.getfield 42, 3) := by decide +kernel
theorem d_Mo_broken_25 : decode b_Mo_broken 25 = .ok (.iload_n 1, 1) := by decide +kernel
theorem d_Mo_broken_26 : decode b_Mo_broken 26 = .ok (.iaload, 1) := by decide +kernel
theorem d_Mo_broken_27 : decode b_Mo_broken 27 = .ok (.istore_n 3, 1) := by decide +kernel
theorem d_Mo_broken_28 : decode b_Mo_broken 28 = .ok (.iload_n 2, 1) := by decide +kernel
theorem d_Mo_broken_29 : decode b_Mo_broken 29 = .ok (.iload_n 3, 1) := by decide +kernel
theorem d_Mo_broken_30 : decode b_Mo_broken 30 = .ok (.iconst 5, 1) := by decide +kernel
theorem d_Mo_broken_31 : decode b_Mo_broken 31 = .ok (.if_icmp .ne 7, 3) := by decide +kernel
theorem d_Mo_broken_34 : decode b_Mo_broken 34 = .ok (.iconst 0, 1) := by decide +kernel
theorem d_Mo_broken_35 : decode b_Mo_broken 35 = .ok (.goto 20, 3) := by decide +kernel
theorem d_Mo_broken_38 : decode b_Mo_broken 38 = .ok (.iload_n 3, 1) := by decide +kernel
theorem d_Mo_broken_39 : decode b_Mo_broken 39 = .ok (.bipush 6, 2) := by decide +kernel
theorem d_Mo_broken_41 : decode b_Mo_broken 41 = .ok (.if_icmp .ne 10, 3) := by decide +kernel
theorem d_Mo_broken_44 : decode b_Mo_broken 44 = .ok (.aload_n 0, 1) := by decide +kernel
theorem d_Mo_broken_45 : decode b_Mo_broken 45 = .ok (.getfield 159, 3) := by decide +kernel
theorem d_Mo_broken_48 : decode b_Mo_broken 48 = .ok (.goto 7, 3) := by decide +kernel
