theorem d_RR_isLaw_13 : decode b_RR_isLaw 13 = .ok (.goto 4, 3) := by decide +kernel
theorem d_RR_isLaw_16 : decode b_RR_isLaw 16 = .ok (.iconst 0, 1) := by decide +kernel
theorem d_RR_isLaw_17 : decode b_RR_isLaw 17 = .ok (.ireturn, 1) := by decide +kernel
theorem d_RR_broken_0 : decode b_RR_broken 0 = .ok (.aload_n 0, 1) := by decide +kernel
theorem d_RR_broken_1 : decode b_RR_broken 1 = .ok (.iload_n 1, 1) := by decide +kernel
theorem d_RR_broken_2 : decode b_RR_broken 2 = .ok (.invokevirtual 175, 3) := by decide +kernel
theorem d_RR_broken_5 : decode b_RR_broken 5 = .ok (.ifCond .ne 7, 3) := by decide +kernel
theorem d_RR_broken_8 : decode b_RR_broken 8 = .ok (.ldc2_w 178, 3) := by decide +kernel
theorem d_RR_broken_11 : decode b_RR_broken 11 = .ok (.lreturn, 1) := by decide +kernel
theorem d_RR_broken_12 : decode b_RR_broken 12 = .ok (.aload_n 0, 1) := by decide +kernel
theorem d_RR_broken_13 : decode b_RR_broken 13 = .ok (.getfield 32, 3) := by decide +kernel
theorem d_RR_broken_16 : decode b_RR_broken 16 = .ok (.iload_n 1, 1) := by decide +kernel
theorem d_RR_broken_17 : decode b_RR_broken 17 = .ok (.aaload, 1) := by decide +kernel
theorem d_RR_broken_18 : decode b_RR_broken 18 = .ok (.astore_n 3, 1) := by decide +kernel
theorem d_RR_broken_19 : decode b_RR_broken 19 = .ok (.iload_n 2, 1) := by decide +kernel
theorem d_RR_broken_20 : decode b_RR_broken 20 = .ok (.iconst (-1), 1) := by decide +kernel
theorem d_RR_broken_21 : decode b_RR_broken 21 = .ok (.if_icmp .ne 12, 3) := by decide +kernel
theorem d_RR_broken_24 : decode b_RR_broken 24 = .ok (.aload_n 0, 1) := by decide +kernel
theorem d_RR_broken_25 : decode b_RR_broken 25 = .ok (.getfield 62, 3) := by decide +kernel
theorem d_RR_broken_28 : decode b_RR_broken 28 = .ok (.aload_n 3, 1) := by decide +kernel
theorem d_RR_broken_29 : decode b_RR_broken 29 = .ok (.invokevirtual 180, 3) := by decide +kernel
theorem d_RR_broken_32 : decode b_RR_broken 32 = .ok (.lreturn, 1) := by decide +kernel
theorem d_RR_broken_33 : decode b_RR_broken 33 = .ok (.aload_n 3, 1) := by decide +kernel
theorem d_RR_broken_34 : decode b_RR_broken 34 = .ok (.getfield 184, 3) := by decide +kernel
theorem d_RR_broken_37 : decode b_RR_broken 37 = .ok (.bipush 6, 2) := by decide +kernel
theorem d_RR_broken_39 : decode b_RR_broken 39 = .ok (.if_icmp .ne 27, 3) := by decide +kernel
theorem d_RR_broken_42 : decode b_RR_broken 42 = .ok (.aload_n 0, 1) := by decide +kernel
theorem d_RR_broken_43 : decode b_RR_broken 43 = .ok (.iload_n 2, 1) := by decide +kernel
theorem d_RR_broken_44 : decode b_RR_broken 44 = .ok (.invokevirtual 187, 3) := by decide +kernel
theorem d_RR_broken_47 : decode b_RR_broken 47 = .ok (.ifCond .eq 15, 3) := by decide +kernel
theorem d_RR_broken_50 : decode b_RR_broken 50 = .ok (.aload_n 0, 1) := by decide +kernel
theorem d_RR_broken_51 : decode b_RR_broken 51 = .ok (.getfield 62, 3) := by decide +kernel
theorem d_RR_broken_54 : decode b_RR_broken 54 = .ok (.aload_n 3, 1) := by decide +kernel
theorem d_RR_broken_55 : decode b_RR_broken 55 = .ok (.iload_n 2, 1) := by decide +kernel
theorem d_RR_broken_56 : decode b_RR_broken 56 = .ok (.invokevirtual 190, 3) := by decide +kernel
theorem d_RR_broken_59 : decode b_RR_broken 59 = .ok (.goto 6, 3) := by decide +kernel
theorem d_RR_broken_62 : decode b_RR_broken 62 = .ok (.ldc2_w 178, 3) := by decide +kernel
theorem d_RR_broken_65 : decode b_RR_broken 65 = .ok (.lreturn, 1) := by decide +kernel
theorem d_RR_broken_66 : decode b_RR_broken 66 = .ok (.aload_n 3, 1) := by decide +kernel
theorem d_RR_broken_67 : decode b_RR_broken 67 = .ok (.getfield 184, 3) := by decide +kernel
theorem d_RR_broken_70 : decode b_RR_broken 70 = .ok (.iconst 5, 1) := by decide +kernel
theorem d_RR_broken_71 : decode b_RR_broken 71 = .ok (.if_icmp .eq 23, 3) := by decide +kernel
theorem d_RR_broken_74 : decode b_RR_broken 74 = .ok (.aload_n 0, 1) := by decide +kernel
theorem d_RR_broken_75 : decode b_RR_broken 75 = .ok (.iload_n 2, 1) := by decide +kernel
theorem d_RR_broken_76 : decode b_RR_broken 76 = .ok (.invokevirtual 114, 3) := by decide +kernel
theorem d_RR_broken_79 : decode b_RR_broken 79 = .ok (.ifCond .eq 15, 3) := by decide +kernel
theorem d_RR_broken_82 : decode b_RR_broken 82 = .ok (.aload_n 0, 1) := by decide +kernel
theorem d_RR_broken_83 : decode b_RR_broken 83 = .ok (.getfield 62, 3) := by decide +kernel
theorem d_RR_broken_86 : decode b_RR_broken 86 = .ok (.aload_n 3, 1) := by decide +kernel
theorem d_RR_broken_87 : decode b_RR_broken 87 = .ok (.iload_n 2, 1) := by decide +kernel
theorem d_RR_broken_88 : decode b_RR_broken 88 = .ok (.invokevirtual 194, 3) := by decide +kernel
theorem d_RR_broken_91 : decode b_RR_broken 91 = .ok (.goto 6, 3) := by decide +kernel
theorem d_RR_broken_94 : decode b_RR_broken 94 = .ok (.ldc2_w 178, 3) := by decide +kernel
theorem d_RR_broken_97 : decode b_RR_broken 97 = .ok (.lreturn, 1) := by decide +kernel
theorem d_RR_score_0 : decode b_RR_score 0 = .ok (.aload_n 0, 1) := by decide +kernel
theorem d_RR_score_1 : decode b_RR_score 1 = .ok (.getfield 53, 3) := by decide +kernel
theorem d_RR_score_4 : decode b_RR_score 4 = .ok (.invokevirtual 197, 3) := by decide +kernel
theorem d_RR_score_7 : decode b_RR_score 7 = .ok (.lstore_n 1, 1) := by decide +kernel
theorem d_RR_score_8 : decode b_RR_score 8 = .ok (.iconst 0, 1) := by decide +kernel
theorem d_RR_score_9 : decode b_RR_score 9 = .ok (.istore_n 3, 1) := by decide +kernel
theorem d_RR_score_10 : decode b_RR_score 10 = .ok (.iload_n 3, 1) := by decide +kernel
theorem d_RR_score_11 : decode b_RR_score 11 = .ok (.aload_n 0, 1) := by decide +kernel
theorem d_RR_score_12 : decode b_RR_score 12 = .ok (.getfield 94, 3) := by decide +kernel
theorem d_RR_score_15 : decode b_RR_score 15 = .ok (.if_icmp .ge 36, 3) := by decide +kernel
theorem d_RR_score_18 : decode b_RR_score 18 = .ok (.lload_n 1, 1) := by decide +kernel
theorem d_RR_score_19 : decode b_RR_score 19 = .ok (.aload_n 0, 1) := by decide +kernel
theorem d_RR_score_20 : decode b_RR_score 20 = .ok (.getfield 32, 3) := by decide +kernel
theorem d_RR_score_23 : decode b_RR_score 23 = .ok (.iload_n 3, 1) := by decide +kernel
theorem d_RR_score_24 : decode b_RR_score 24 = .ok (.aaload, 1) := by decide +kernel
theorem d_RR_score_25 : decode b_RR_score 25 = .ok (.getfield 201, 3) := by decide +kernel
theorem d_RR_score_28 : decode b_RR_score 28 = .ok (.i2l, 1) := by decide +kernel
theorem d_RR_score_29 : decode b_RR_score 29 = .ok (.aload_n 0, 1) := by decide +kernel
theorem d_RR_score_30 : decode b_RR_score 30 = .ok (.getfield 62, 3) := by decide +kernel
theorem d_RR_score_33 : decode b_RR_score 33 = .ok (.aload_n 0, 1) := by decide +kernel
theorem d_RR_score_34 : decode b_RR_score 34 = .ok (.getfield 32, 3) := by decide +kernel
theorem d_RR_score_37 : decode b_RR_score 37 = .ok (.iload_n 3, 1) := by decide +kernel
theorem d_RR_score_38 : decode b_RR_score 38 = .ok (.aaload, 1) := by decide +kernel
theorem d_RR_score_39 : decode b_RR_score 39 = .ok (.invokevirtual 180, 3) := by decide +kernel
theorem d_RR_score_42 : decode b_RR_score 42 = .ok (.lmul, 1) := by decide +kernel
theorem d_RR_score_43 : decode b_RR_score 43 = .ok (.ladd, 1) := by decide +kernel
theorem d_RR_score_44 : decode b_RR_score 44 = .ok (.lstore_n 1, 1) := by decide +kernel
theorem d_RR_score_45 : decode b_RR_score 45 = .ok (.iinc 3 1, 3) := by decide +kernel
theorem d_RR_score_48 : decode b_RR_score 48 = .ok (.goto (-38), 3) := by decide +kernel
theorem d_RR_score_51 : decode b_RR_score 51 = .ok (.lload_n 1, 1) := by decide +kernel
theorem d_RR_score_52 : decode b_RR_score 52 = .ok (.lreturn, 1) := by decide +kernel
theorem d_RR_minutes_0 : decode b_RR_minutes 0 = .ok (.aload_n 0, 1) := by decide +kernel
theorem d_RR_minutes_1 : decode b_RR_minutes 1 = .ok (.iload_n 1, 1) := by decide +kernel
theorem d_RR_minutes_2 : decode b_RR_minutes 2 = .ok (.iload_n 2, 1) := by decide +kernel
theorem d_RR_minutes_3 : decode b_RR_minutes 3 = .ok (.invokevirtual 127, 3) := by decide +kernel
theorem d_RR_minutes_6 : decode b_RR_minutes 6 = .ok (.ifCond .eq 16, 3) := by decide +kernel
theorem d_RR_minutes_9 : decode b_RR_minutes 9 = .ok (.aload_n 0, 1) := by decide +kernel
theorem d_RR_minutes_10 : decode b_RR_minutes 10 = .ok (.iload_n 3, 1) := by decide +kernel
theorem d_RR_minutes_11 : decode b_RR_minutes 11 = .ok (.invokevirtual 187, 3) := by decide +kernel
theorem d_RR_minutes_14 : decode b_RR_minutes 14 = .ok (.ifCond .eq 8, 3) := by decide +kernel
theorem d_RR_minutes_17 : decode b_RR_minutes 17 = .ok (.iload_n 3, 1) := by decide +kernel
theorem d_RR_minutes_18 : decode b_RR_minutes 18 = .ok (.iload_n 2, 1) := by decide +kernel
theorem d_RR_minutes_19 : decode b_RR_minutes 19 = .ok (.if_icmp .ge 7, 3) := by decide +kernel
theorem d_RR_minutes_22 : decode b_RR_minutes 22 = .ok (.ldc2_w 178, 3) := by decide +kernel
theorem d_RR_minutes_25 : decode b_RR_minutes 25 = .ok (.lreturn, 1) := by decide +kernel
theorem d_RR_minutes_26 : decode b_RR_minutes 26 = .ok (.aload_n 0, 1) := by decide +kernel
theorem d_RR_minutes_27 : decode b_RR_minutes 27 = .ok (.getfield 53, 3) := by decide +kernel
theorem d_RR_minutes_30 : decode b_RR_minutes 30 = .ok (.iload_n 1, 1) := by decide +kernel
theorem d_RR_minutes_31 : decode b_RR_minutes 31 = .ok (.iload_n 2, 1) := by decide +kernel
theorem d_RR_minutes_32 : decode b_RR_minutes 32 = .ok (.iload_n 3, 1) := by decide +kernel
theorem d_RR_minutes_33 : decode b_RR_minutes 33 = .ok (.invokevirtual 204, 3) := by decide +kernel
theorem d_RR_minutes_36 : decode b_RR_minutes 36 = .ok (.lreturn, 1) := by decide +kernel
theorem d_RR_automatonOf_0 : decode b_RR_automatonOf 0 = .ok (.aload_n 1, 1) := by decide +kernel
theorem d_RR_automatonOf_1 : decode b_RR_automatonOf 1 = .ok (.getfield 254, 3) := by decide +kernel
theorem d_RR_automatonOf_4 : decode b_RR_automatonOf 4 = .ok (.getfield 217, 3) := by decide +kernel
theorem d_RR_automatonOf_7 : decode b_RR_automatonOf 7 = .ok (.ifCond .ne 18, 3) := by decide +kernel
theorem d_RR_automatonOf_10 : decode b_RR_automatonOf 10 = .ok (.aload_n 0, 1) := by decide +kernel
theorem d_RR_automatonOf_11 : decode b_RR_automatonOf 11 = .ok (.getfield 26, 3) := by decide +kernel
theorem d_RR_automatonOf_14 : decode b_RR_automatonOf 14 = .ok (.aload_n 1, 1) := by decide +kernel
theorem d_RR_automatonOf_15 : decode b_RR_automatonOf 15 = .ok (.getfield 222, 3) := by decide +kernel
theorem d_RR_automatonOf_18 : decode b_RR_automatonOf 18 = .ok (.aload_n 1, 1) := by decide +kernel
theorem d_RR_automatonOf_19 : decode b_RR_automatonOf 19 = .ok (.getfield 254, 3) := by decide +kernel
theorem d_RR_automatonOf_22 : decode b_RR_automatonOf 22 = .ok (.invokevirtual 258, 3) := by decide +kernel
theorem d_RR_automatonOf_25 : decode b_RR_automatonOf 25 = .ok (.aload_n 1, 1) := by decide +kernel
theorem d_RR_automatonOf_26 : decode b_RR_automatonOf 26 = .ok (.getfield 254, 3) := by decide +kernel
theorem d_RR_automatonOf_29 : decode b_RR_automatonOf 29 = .ok (.areturn, 1) := by decide +kernel
theorem d_RR_law_0 : decode b_RR_law 0 = .ok (.aload_n 0, 1) := by decide +kernel
theorem d_RR_law_1 : decode b_RR_law 1 = .ok (.iload_n 1, 1) := by decide +kernel
theorem d_RR_law_2 : decode b_RR_law 2 = .ok (.invokevirtual 175, 3) := by decide +kernel
theorem d_RR_law_5 : decode b_RR_law 5 = .ok (.ifCond .eq 12, 3) := by decide +kernel
theorem d_RR_law_8 : decode b_RR_law 8 = .ok (.iload_n 2, 1) := by decide +kernel
theorem d_RR_law_9 : decode b_RR_law 9 = .ok (.ifCond .lt 8, 3) := by decide +kernel
theorem d_RR_law_12 : decode b_RR_law 12 = .ok (.iload_n 2, 1) := by decide +kernel
theorem d_RR_law_13 : decode b_RR_law 13 = .ok (.iconst 4, 1) := by decide +kernel
theorem d_RR_law_14 : decode b_RR_law 14 = .ok (.if_icmp .le 5, 3) := by decide +kernel
theorem d_RR_law_17 : decode b_RR_law 17 = .ok (.iconst (-1), 1) := by decide +kernel
theorem d_RR_law_18 : decode b_RR_law 18 = .ok (.ireturn, 1) := by decide +kernel
theorem d_RR_law_19 : decode b_RR_law 19 = .ok (.aload_n 0, 1) := by decide +kernel
theorem d_RR_law_20 : decode b_RR_law 20 = .ok (.getfield 32, 3) := by decide +kernel
theorem d_RR_law_23 : decode b_RR_law 23 = .ok (.iload_n 1, 1) := by decide +kernel
theorem d_RR_law_24 : decode b_RR_law 24 = .ok (.aaload, 1) := by decide +kernel
theorem d_RR_law_25 : decode b_RR_law 25 = .ok (.astore_n 3, 1) := by decide +kernel
theorem d_RR_law_26 : decode b_RR_law 26 = .ok (.iload_n 2, 1) := by decide +kernel
theorem d_RR_law_27 : decode b_RR_law 27 = .ok (.tableswitch 65 0 3 #[29, 34, 39, 44], 29) := by decide +kernel
theorem d_RR_law_56 : decode b_RR_law 56 = .ok (.aload_n 3, 1) := by decide +kernel
theorem d_RR_law_57 : decode b_RR_law 57 = .ok (.getfield 184, 3) := by decide +kernel
theorem d_RR_law_60 : decode b_RR_law 60 = .ok (.ireturn, 1) := by decide +kernel
theorem d_RR_law_61 : decode b_RR_law 61 = .ok (.aload_n 3, 1) := by decide +kernel
theorem d_RR_law_62 : decode b_RR_law 62 = .ok (.getfield 201, 3) := by decide +kernel
theorem d_RR_law_65 : decode b_RR_law 65 = .ok (.ireturn, 1) := by decide +kernel
theorem d_RR_law_66 : decode b_RR_law 66 = .ok (.aload_n 3, 1) := by decide +kernel
theorem d_RR_law_67 : decode b_RR_law 67 = .ok (.getfield 207, 3) := by decide +kernel
theorem d_RR_law_70 : decode b_RR_law 70 = .ok (.ireturn, 1) := by decide +kernel
theorem d_RR_law_71 : decode b_RR_law 71 = .ok (.aload_n 3, 1) := by decide +kernel
theorem d_RR_law_72 : decode b_RR_law 72 = .ok (.invokevirtual 210, 3) := by decide +kernel
theorem d_RR_law_75 : decode b_RR_law 75 = .ok (.ifCond .eq 14, 3) := by decide +kernel
theorem d_RR_law_78 : decode b_RR_law 78 = .ok (.aload_n 0, 1) := by decide +kernel
theorem d_RR_law_79 : decode b_RR_law 79 = .ok (.aload_n 3, 1) := by decide +kernel
theorem d_RR_law_80 : decode b_RR_law 80 = .ok (.invokevirtual 213, 3) := by decide +kernel
theorem d_RR_law_83 : decode b_RR_law 83 = .ok (.getfield 217, 3) := by decide +kernel
theorem d_RR_law_86 : decode b_RR_law 86 = .ok (.goto 5, 3) := by decide +kernel
theorem d_RR_law_89 : decode b_RR_law 89 = .ok (.bipush (-2), 2) := by decide +kernel
theorem d_RR_law_91 : decode b_RR_law 91 = .ok (.ireturn, 1) := by decide +kernel
theorem d_RR_law_92 : decode b_RR_law 92 = .ok (.aload_n 3, 1) := by decide +kernel
theorem d_RR_law_93 : decode b_RR_law 93 = .ok (.invokevirtual 210, 3) := by decide +kernel
theorem d_RR_law_96 : decode b_RR_law 96 = .ok (.ifCond .eq 13, 3) := by decide +kernel
theorem d_RR_law_99 : decode b_RR_law 99 = .ok (.aload_n 3, 1) := by decide +kernel
theorem d_RR_law_100 : decode b_RR_law 100 = .ok (.getfield 222, 3) := by decide +kernel
theorem d_RR_law_103 : decode b_RR_law 103 = .ok (.getfield 226, 3) := by decide +kernel
theorem d_RR_law_106 : decode b_RR_law 106 = .ok (.goto 5, 3) := by decide +kernel
theorem d_RR_law_109 : decode b_RR_law 109 = .ok (.bipush (-2), 2) := by decide +kernel
theorem d_RR_law_111 : decode b_RR_law 111 = .ok (.ireturn, 1) := by decide +kernel
theorem d_RR_state_0 : decode b_RR_state 0 = .ok (.aload_n 0, 1) := by decide +kernel
theorem d_RR_state_1 : decode b_RR_state 1 = .ok (.iload_n 1, 1) := by decide +kernel
theorem d_RR_state_2 : decode b_RR_state 2 = .ok (.invokevirtual 175, 3) := by decide +kernel
theorem d_RR_state_5 : decode b_RR_state 5 = .ok (.ifCond .eq 17, 3) := by decide +kernel
theorem d_RR_state_8 : decode b_RR_state 8 = .ok (.iload_n 2, 1) := by decide +kernel
theorem d_RR_state_9 : decode b_RR_state 9 = .ok (.ifCond .lt 13, 3) := by decide +kernel
theorem d_RR_state_12 : decode b_RR_state 12 = .ok (.iload_n 3, 1) := by decide +kernel
theorem d_RR_state_13 : decode b_RR_state 13 = .ok (.ifCond .lt 9, 3) := by decide +kernel
theorem d_RR_state_16 : decode b_RR_state 16 = .ok (.iload_n 3, 1) := by decide +kernel
theorem d_RR_state_17 : decode b_RR_state 17 = .ok (.bipush 9, 2) := by decide +kernel
theorem d_RR_state_19 : decode b_RR_state 19 = .ok (.if_icmp .le 5, 3) := by decide +kernel
theorem d_RR_state_22 : decode b_RR_state 22 = .ok (.iconst (-1), 1) := by decide +kernel
theorem d_RR_state_23 : decode b_RR_state 23 = .ok (.ireturn, 1) := by decide +kernel
theorem d_RR_state_24 : decode b_RR_state 24 = .ok (.aload_n 0, 1) := by decide +kernel
theorem d_RR_state_25 : decode b_RR_state 25 = .ok (.getfield 32, 3) := by decide +kernel
theorem d_RR_state_28 : decode b_RR_state 28 = .ok (.iload_n 1, 1) := by decide +kernel
theorem d_RR_state_29 : decode b_RR_state 29 = .ok (.aaload, 1) := by decide +kernel
theorem d_RR_state_30 : decode b_RR_state 30 = .ok (.invokevirtual 210, 3) := by decide +kernel
theorem d_RR_state_33 : decode b_RR_state 33 = .ok (.ifCond .ne 6, 3) := by decide +kernel
theorem d_RR_state_36 : decode b_RR_state 36 = .ok (.bipush (-2), 2) := by decide +kernel
theorem d_RR_state_38 : decode b_RR_state 38 = .ok (.ireturn, 1) := by decide +kernel
theorem d_RR_state_39 : decode b_RR_state 39 = .ok (.aload_n 0, 1) := by decide +kernel
theorem d_RR_state_40 : decode b_RR_state 40 = .ok (.aload_n 0, 1) := by decide +kernel
theorem d_RR_state_41 : decode b_RR_state 41 = .ok (.getfield 32, 3) := by decide +kernel
theorem d_RR_state_44 : decode b_RR_state 44 = .ok (.iload_n 1, 1) := by decide +kernel
theorem d_RR_state_45 : decode b_RR_state 45 = .ok (.aaload, 1) := by decide +kernel
theorem d_RR_state_46 : decode b_RR_state 46 = .ok (.invokevirtual 213, 3) := by decide +kernel
theorem d_RR_state_49 : decode b_RR_state 49 = .ok (.astore 4, 2) := by decide +kernel
theorem d_RR_state_51 : decode b_RR_state 51 = .ok (.iload_n 2, 1) := by decide +kernel
theorem d_RR_state_52 : decode b_RR_state 52 = .ok (.aload 4, 2) := by decide +kernel
theorem d_RR_state_54 : decode b_RR_state 54 = .ok (.getfield 217, 3) := by decide +kernel
theorem d_RR_state_57 : decode b_RR_state 57 = .ok (.if_icmp .ge 13, 3) := by decide +kernel
theorem d_RR_state_60 : decode b_RR_state 60 = .ok (.aload 4, 2) := by decide +kernel
theorem d_RR_state_62 : decode b_RR_state 62 = .ok (.iload_n 2, 1) := by decide +kernel
theorem d_RR_state_63 : decode b_RR_state 63 = .ok (.iload_n 3, 1) := by decide +kernel
theorem d_RR_state_64 : decode b_RR_state 64 = .ok (.invokevirtual 231, 3) := by decide +kernel
theorem d_RR_state_67 : decode b_RR_state 67 = .ok (.goto 4, 3) := by decide +kernel
theorem d_RR_state_70 : decode b_RR_state 70 = .ok (.iconst (-1), 1) := by decide +kernel
theorem d_RR_state_71 : decode b_RR_state 71 = .ok (.ireturn, 1) := by decide +kernel
theorem d_RR_alike_0 : decode b_RR_alike 0 = .ok (.aload_n 0, 1) := by decide +kernel
theorem d_RR_alike_1 : decode b_RR_alike 1 = .ok (.iload_n 1, 1) := by decide +kernel
theorem d_RR_alike_2 : decode b_RR_alike 2 = .ok (.invokevirtual 175, 3) := by decide +kernel
theorem d_RR_alike_5 : decode b_RR_alike 5 = .ok (.ifCond .eq 11, 3) := by decide +kernel
theorem d_RR_alike_8 : decode b_RR_alike 8 = .ok (.aload_n 0, 1) := by decide +kernel
theorem d_RR_alike_9 : decode b_RR_alike 9 = .ok (.iload_n 2, 1) := by decide +kernel
theorem d_RR_alike_10 : decode b_RR_alike 10 = .ok (.invokevirtual 175, 3) := by decide +kernel
theorem d_RR_alike_13 : decode b_RR_alike 13 = .ok (.ifCond .ne 5, 3) := by decide +kernel
theorem d_RR_alike_16 : decode b_RR_alike 16 = .ok (.iconst (-1), 1) := by decide +kernel
theorem d_RR_alike_17 : decode b_RR_alike 17 = .ok (.ireturn, 1) := by decide +kernel
theorem d_RR_alike_18 : decode b_RR_alike 18 = .ok (.aload_n 0, 1) := by decide +kernel
theorem d_RR_alike_19 : decode b_RR_alike 19 = .ok (.getfield 32, 3) := by decide +kernel
theorem d_RR_alike_22 : decode b_RR_alike 22 = .ok (.iload_n 1, 1) := by decide +kernel
theorem d_RR_alike_23 : decode b_RR_alike 23 = .ok (.aaload, 1) := by decide +kernel
theorem d_RR_alike_24 : decode b_RR_alike 24 = .ok (.invokevirtual 210, 3) := by decide +kernel
theorem d_RR_alike_27 : decode b_RR_alike 27 = .ok (.ifCond .eq 15, 3) := by decide +kernel
theorem d_RR_alike_30 : decode b_RR_alike 30 = .ok (.aload_n 0, 1) := by decide +kernel
theorem d_RR_alike_31 : decode b_RR_alike 31 = .ok (.getfield 32, 3) := by decide +kernel
theorem d_RR_alike_34 : decode b_RR_alike 34 = .ok (.iload_n 2, 1) := by decide +kernel
theorem d_RR_alike_35 : decode b_RR_alike 35 = .ok (.aaload, 1) := by decide +kernel
theorem d_RR_alike_36 : decode b_RR_alike 36 = .ok (.invokevirtual 210, 3) := by decide +kernel
theorem d_RR_alike_39 : decode b_RR_alike 39 = .ok (.ifCond .ne 6, 3) := by decide +kernel
theorem d_RR_alike_42 : decode b_RR_alike 42 = .ok (.bipush (-2), 2) := by decide +kernel
theorem d_RR_alike_44 : decode b_RR_alike 44 = .ok (.ireturn, 1) := by decide +kernel
theorem d_RR_alike_45 : decode b_RR_alike 45 = .ok (.aload_n 0, 1) := by decide +kernel
theorem d_RR_alike_46 : decode b_RR_alike 46 = .ok (.aload_n 0, 1) := by decide +kernel
theorem d_RR_alike_47 : decode b_RR_alike 47 = .ok (.getfield 32, 3) := by decide +kernel
theorem d_RR_alike_50 : decode b_RR_alike 50 = .ok (.iload_n 1, 1) := by decide +kernel
theorem d_RR_alike_51 : decode b_RR_alike 51 = .ok (.aaload, 1) := by decide +kernel
theorem d_RR_alike_52 : decode b_RR_alike 52 = .ok (.invokevirtual 213, 3) := by decide +kernel
theorem d_RR_alike_55 : decode b_RR_alike 55 = .ok (.aload_n 0, 1) := by decide +kernel
theorem d_RR_alike_56 : decode b_RR_alike 56 = .ok (.aload_n 0, 1) := by decide +kernel
theorem d_RR_alike_57 : decode b_RR_alike 57 = .ok (.getfield 32, 3) := by decide +kernel
theorem d_RR_alike_60 : decode b_RR_alike 60 = .ok (.iload_n 2, 1) := by decide +kernel
theorem d_RR_alike_61 : decode b_RR_alike 61 = .ok (.aaload, 1) := by decide +kernel
theorem d_RR_alike_62 : decode b_RR_alike 62 = .ok (.invokevirtual 213, 3) := by decide +kernel
theorem d_RR_alike_65 : decode b_RR_alike 65 = .ok (.invokevirtual 234, 3) := by decide +kernel
theorem d_RR_alike_68 : decode b_RR_alike 68 = .ok (.ifCond .eq 7, 3) := by decide +kernel
theorem d_RR_alike_71 : decode b_RR_alike 71 = .ok (.iconst 1, 1) := by decide +kernel
theorem d_RR_alike_72 : decode b_RR_alike 72 = .ok (.goto 4, 3) := by decide +kernel
theorem d_RR_alike_75 : decode b_RR_alike 75 = .ok (.iconst 0, 1) := by decide +kernel
theorem d_RR_alike_76 : decode b_RR_alike 76 = .ok (.ireturn, 1) := by decide +kernel
theorem d_RR_words_0 : decode b_RR_words 0 = .ok (.aload_n 0, 1) := by decide +kernel
theorem d_RR_words_1 : decode b_RR_words 1 = .ok (.iload_n 1, 1) := by decide +kernel
theorem d_RR_words_2 : decode b_RR_words 2 = .ok (.invokevirtual 175, 3) := by decide +kernel
theorem d_RR_words_5 : decode b_RR_words 5 = .ok (.ifCond .eq 25, 3) := by decide +kernel
theorem d_RR_words_8 : decode b_RR_words 8 = .ok (.aload_n 0, 1) := by decide +kernel
theorem d_RR_words_9 : decode b_RR_words 9 = .ok (.getfield 32, 3) := by decide +kernel
theorem d_RR_words_12 : decode b_RR_words 12 = .ok (.iload_n 1, 1) := by decide +kernel
theorem d_RR_words_13 : decode b_RR_words 13 = .ok (.aaload, 1) := by decide +kernel
theorem d_RR_words_14 : decode b_RR_words 14 = .ok (.invokevirtual 210, 3) := by decide +kernel
theorem d_RR_words_17 : decode b_RR_words 17 = .ok (.ifCond .eq 13, 3) := by decide +kernel
theorem d_RR_words_20 : decode b_RR_words 20 = .ok (.iload_n 2, 1) := by decide +kernel
theorem d_RR_words_21 : decode b_RR_words 21 = .ok (.ifCond .lt 9, 3) := by decide +kernel
theorem d_RR_words_24 : decode b_RR_words 24 = .ok (.iload_n 2, 1) := by decide +kernel
theorem d_RR_words_25 : decode b_RR_words 25 = .ok (.bipush 40, 2) := by decide +kernel
theorem d_RR_words_27 : decode b_RR_words 27 = .ok (.if_icmp .le 7, 3) := by decide +kernel
theorem d_RR_words_30 : decode b_RR_words 30 = .ok (.ldc2_w 178, 3) := by decide +kernel
theorem d_RR_words_33 : decode b_RR_words 33 = .ok (.lreturn, 1) := by decide +kernel
theorem d_RR_words_34 : decode b_RR_words 34 = .ok (.aload_n 0, 1) := by decide +kernel
theorem d_RR_words_35 : decode b_RR_words 35 = .ok (.getfield 26, 3) := by decide +kernel
theorem d_RR_words_38 : decode b_RR_words 38 = .ok (.aload_n 0, 1) := by decide +kernel
theorem d_RR_words_39 : decode b_RR_words 39 = .ok (.aload_n 0, 1) := by decide +kernel
theorem d_RR_words_40 : decode b_RR_words 40 = .ok (.getfield 32, 3) := by decide +kernel
theorem d_RR_words_43 : decode b_RR_words 43 = .ok (.iload_n 1, 1) := by decide +kernel
theorem d_RR_words_44 : decode b_RR_words 44 = .ok (.aaload, 1) := by decide +kernel
theorem d_RR_words_45 : decode b_RR_words 45 = .ok (.invokevirtual 213, 3) := by decide +kernel
theorem d_RR_words_48 : decode b_RR_words 48 = .ok (.iload_n 2, 1) := by decide +kernel
theorem d_RR_words_49 : decode b_RR_words 49 = .ok (.invokevirtual 238, 3) := by decide +kernel
theorem d_RR_words_52 : decode b_RR_words 52 = .ok (.lreturn, 1) := by decide +kernel
theorem d_RR_word_0 : decode b_RR_word 0 = .ok (.aload_n 0, 1) := by decide +kernel
theorem d_RR_word_1 : decode b_RR_word 1 = .ok (.iload_n 1, 1) := by decide +kernel
theorem d_RR_word_2 : decode b_RR_word 2 = .ok (.invokevirtual 175, 3) := by decide +kernel
theorem d_RR_word_5 : decode b_RR_word 5 = .ok (.ifCond .eq 7, 3) := by decide +kernel
theorem d_RR_word_8 : decode b_RR_word 8 = .ok (.iload_n 2, 1) := by decide +kernel
theorem d_RR_word_9 : decode b_RR_word 9 = .ok (.ifCond .ge 5, 3) := by decide +kernel
theorem d_RR_word_12 : decode b_RR_word 12 = .ok (.iconst (-1), 1) := by decide +kernel
theorem d_RR_word_13 : decode b_RR_word 13 = .ok (.ireturn, 1) := by decide +kernel
theorem d_RR_word_14 : decode b_RR_word 14 = .ok (.aload_n 0, 1) := by decide +kernel
theorem d_RR_word_15 : decode b_RR_word 15 = .ok (.getfield 32, 3) := by decide +kernel
theorem d_RR_word_18 : decode b_RR_word 18 = .ok (.iload_n 1, 1) := by decide +kernel
theorem d_RR_word_19 : decode b_RR_word 19 = .ok (.aaload, 1) := by decide +kernel
theorem d_RR_word_20 : decode b_RR_word 20 = .ok (.invokevirtual 210, 3) := by decide +kernel
theorem d_RR_word_23 : decode b_RR_word 23 = .ok (.ifCond .eq 20, 3) := by decide +kernel
theorem d_RR_word_26 : decode b_RR_word 26 = .ok (.aload_n 0, 1) := by decide +kernel
theorem d_RR_word_27 : decode b_RR_word 27 = .ok (.aload_n 0, 1) := by decide +kernel
theorem d_RR_word_28 : decode b_RR_word 28 = .ok (.getfield 32, 3) := by decide +kernel
theorem d_RR_word_31 : decode b_RR_word 31 = .ok (.iload_n 1, 1) := by decide +kernel
theorem d_RR_word_32 : decode b_RR_word 32 = .ok (.aaload, 1) := by decide +kernel
theorem d_RR_word_33 : decode b_RR_word 33 = .ok (.invokevirtual 213, 3) := by decide +kernel
theorem d_RR_word_36 : decode b_RR_word 36 = .ok (.iload_n 2, 1) := by decide +kernel
theorem d_RR_word_37 : decode b_RR_word 37 = .ok (.invokevirtual 242, 3) := by decide +kernel
theorem d_RR_word_40 : decode b_RR_word 40 = .ok (.goto 5, 3) := by decide +kernel
theorem d_RR_word_43 : decode b_RR_word 43 = .ok (.bipush (-2), 2) := by decide +kernel
theorem d_RR_word_45 : decode b_RR_word 45 = .ok (.ireturn, 1) := by decide +kernel
theorem d_RR_count_0 : decode b_RR_count 0 = .ok (.iload_n 1, 1) := by decide +kernel
theorem d_RR_count_1 : decode b_RR_count 1 = .ok (.tableswitch 72 0 4 #[35, 40, 48, 56, 64], 35) := by decide +kernel
theorem d_RR_count_36 : decode b_RR_count 36 = .ok (.aload_n 0, 1) := by decide +kernel
theorem d_RR_count_37 : decode b_RR_count 37 = .ok (.getfield 94, 3) := by decide +kernel
theorem d_RR_count_40 : decode b_RR_count 40 = .ok (.ireturn, 1) := by decide +kernel
theorem d_RR_count_41 : decode b_RR_count 41 = .ok (.aload_n 0, 1) := by decide +kernel
theorem d_RR_count_42 : decode b_RR_count 42 = .ok (.getfield 10, 3) := by decide +kernel
theorem d_RR_count_45 : decode b_RR_count 45 = .ok (.getfield 80, 3) := by decide +kernel
theorem d_RR_count_48 : decode b_RR_count 48 = .ok (.ireturn, 1) := by decide +kernel
theorem d_RR_count_49 : decode b_RR_count 49 = .ok (.aload_n 0, 1) := by decide +kernel
theorem d_RR_count_50 : decode b_RR_count 50 = .ok (.getfield 53, 3) := by decide +kernel
theorem d_RR_count_53 : decode b_RR_count 53 = .ok (.getfield 246, 3) := by decide +kernel
theorem d_RR_count_56 : decode b_RR_count 56 = .ok (.ireturn, 1) := by decide +kernel
theorem d_RR_count_57 : decode b_RR_count 57 = .ok (.aload_n 0, 1) := by decide +kernel
theorem d_RR_count_58 : decode b_RR_count 58 = .ok (.getfield 53, 3) := by decide +kernel
theorem d_RR_count_61 : decode b_RR_count 61 = .ok (.getfield 249, 3) := by decide +kernel
theorem d_RR_count_64 : decode b_RR_count 64 = .ok (.ireturn, 1) := by decide +kernel
theorem d_RR_count_65 : decode b_RR_count 65 = .ok (.aload_n 0, 1) := by decide +kernel
theorem d_RR_count_66 : decode b_RR_count 66 = .ok (.getfield 19, 3) := by decide +kernel
theorem d_RR_count_69 : decode b_RR_count 69 = .ok (.getfield 148, 3) := by decide +kernel
theorem d_RR_count_72 : decode b_RR_count 72 = .ok (.ireturn, 1) := by decide +kernel
theorem d_RR_count_73 : decode b_RR_count 73 = .ok (.iconst (-1), 1) := by decide +kernel
theorem d_RR_count_74 : decode b_RR_count 74 = .ok (.ireturn, 1) := by decide +kernel
theorem d_Mo_init_0 : decode b_Mo_init 0 = .ok (.aload_n 0, 1) := by decide +kernel
theorem d_Mo_init_1 : decode b_Mo_init 1 = .ok (.invokespecial 1, 3) := by decide +kernel
theorem d_Mo_init_4 : decode b_Mo_init 4 = .ok (.aload_n 0, 1) := by decide +kernel
theorem d_Mo_init_5 : decode b_Mo_init 5 = .ok (.sipush 168, 3) := by decide +kernel
theorem d_Mo_init_8 : decode b_Mo_init 8 = .ok (.newarray .int, 2) := by decide +kernel
theorem d_Mo_init_10 : decode b_Mo_init 10 = .ok (.putfield 7, 3) := by decide +kernel
theorem d_Mo_init_13 : decode b_Mo_init 13 = .ok (.aload_n 0, 1) := by decide +kernel
theorem d_Mo_init_14 : decode b_Mo_init 14 = .ok (.bipush 56, 2) := by decide +kernel
theorem d_Mo_init_16 : decode b_Mo_init 16 = .ok (.newarray .int, 2) := by decide +kernel
theorem d_Mo_init_18 : decode b_Mo_init 18 = .ok (.putfield 13, 3) := by decide +kernel
theorem d_Mo_init_21 : decode b_Mo_init 21 = .ok (.aload_n 0, 1) := by decide +kernel
theorem d_Mo_init_22 : decode b_Mo_init 22 = .ok (.bipush 8, 2) := by decide +kernel
theorem d_Mo_init_24 : decode b_Mo_init 24 = .ok (.newarray .int, 2) := by decide +kernel
theorem d_Mo_init_26 : decode b_Mo_init 26 = .ok (.putfield 16, 3) := by decide +kernel
theorem d_Mo_init_29 : decode b_Mo_init 29 = .ok (.aload_n 0, 1) := by decide +kernel
theorem d_Mo_init_30 : decode b_Mo_init 30 = .ok (.bipush 8, 2) := by decide +kernel
theorem d_Mo_init_32 : decode b_Mo_init 32 = .ok (.newarray .int, 2) := by decide +kernel
theorem d_Mo_init_34 : decode b_Mo_init 34 = .ok (.putfield 19, 3) := by decide +kernel
theorem d_Mo_init_37 : decode b_Mo_init 37 = .ok (.aload_n 0, 1) := by decide +kernel
theorem d_Mo_init_38 : decode b_Mo_init 38 = .ok (.bipush 8, 2) := by decide +kernel
theorem d_Mo_init_40 : decode b_Mo_init 40 = .ok (.newarray .int, 2) := by decide +kernel
theorem d_Mo_init_42 : decode b_Mo_init 42 = .ok (.putfield 22, 3) := by decide +kernel
theorem d_Mo_init_45 : decode b_Mo_init 45 = .ok (.aload_n 0, 1) := by decide +kernel
theorem d_Mo_init_46 : decode b_Mo_init 46 = .ok (.bipush 8, 2) := by decide +kernel
theorem d_Mo_init_48 : decode b_Mo_init 48 = .ok (.newarray .int, 2) := by decide +kernel
theorem d_Mo_init_50 : decode b_Mo_init 50 = .ok (.putfield 25, 3) := by decide +kernel
theorem d_Mo_init_53 : decode b_Mo_init 53 = .ok (.aload_n 0, 1) := by decide +kernel
theorem d_Mo_init_54 : decode b_Mo_init 54 = .ok (.sipush 168, 3) := by decide +kernel
theorem d_Mo_init_57 : decode b_Mo_init 57 = .ok (.newarray .int, 2) := by decide +kernel
theorem d_Mo_init_59 : decode b_Mo_init 59 = .ok (.putfield 28, 3) := by decide +kernel
theorem d_Mo_init_62 : decode b_Mo_init 62 = .ok (.aload_n 0, 1) := by decide +kernel
theorem d_Mo_init_63 : decode b_Mo_init 63 = .ok (.sipush 168, 3) := by decide +kernel
theorem d_Mo_init_66 : decode b_Mo_init 66 = .ok (.newarray .int, 2) := by decide +kernel
theorem d_Mo_init_68 : decode b_Mo_init 68 = .ok (.putfield 31, 3) := by decide +kernel
theorem d_Mo_init_71 : decode b_Mo_init 71 = .ok (.aload_n 0, 1) := by decide +kernel
theorem d_Mo_init_72 : decode b_Mo_init 72 = .ok (.sipush 1500, 3) := by decide +kernel
theorem d_Mo_init_75 : decode b_Mo_init 75 = .ok (.newarray .byte, 2) := by decide +kernel
theorem d_Mo_init_77 : decode b_Mo_init 77 = .ok (.putfield 34, 3) := by decide +kernel
theorem d_Mo_init_80 : decode b_Mo_init 80 = .ok (.aload_n 0, 1) := by decide +kernel
theorem d_Mo_init_81 : decode b_Mo_init 81 = .ok (.bipush (-2), 2) := by decide +kernel
theorem d_Mo_init_83 : decode b_Mo_init 83 = .ok (.putfield 38, 3) := by decide +kernel
theorem d_Mo_init_86 : decode b_Mo_init 86 = .ok (.aload_n 0, 1) := by decide +kernel
theorem d_Mo_init_87 : decode b_Mo_init 87 = .ok (.bipush 16, 2) := by decide +kernel
theorem d_Mo_init_89 : decode b_Mo_init 89 = .ok (.newarray .int, 2) := by decide +kernel
theorem d_Mo_init_91 : decode b_Mo_init 91 = .ok (.putfield 42, 3) := by decide +kernel
theorem d_Mo_init_94 : decode b_Mo_init 94 = .ok (.aload_n 0, 1) := by decide +kernel
theorem d_Mo_init_95 : decode b_Mo_init 95 = .ok (.bipush 16, 2) := by decide +kernel
theorem d_Mo_init_97 : decode b_Mo_init 97 = .ok (.newarray .int, 2) := by decide +kernel
theorem d_Mo_init_99 : decode b_Mo_init 99 = .ok (.putfield 45, 3) := by decide +kernel
theorem d_Mo_init_102 : decode b_Mo_init 102 = .ok (.aload_n 0, 1) := by decide +kernel
theorem d_Mo_init_103 : decode b_Mo_init 103 = .ok (.bipush 16, 2) := by decide +kernel
theorem d_Mo_init_105 : decode b_Mo_init 105 = .ok (.newarray .int, 2) := by decide +kernel
theorem d_Mo_init_107 : decode b_Mo_init 107 = .ok (.putfield 48, 3) := by decide +kernel
theorem d_Mo_init_110 : decode b_Mo_init 110 = .ok (.aload_n 0, 1) := by decide +kernel
theorem d_Mo_init_111 : decode b_Mo_init 111 = .ok (.bipush 16, 2) := by decide +kernel
theorem d_Mo_init_113 : decode b_Mo_init 113 = .ok (.newarray .int, 2) := by decide +kernel
theorem d_Mo_init_115 : decode b_Mo_init 115 = .ok (.putfield 51, 3) := by decide +kernel
theorem d_Mo_init_118 : decode b_Mo_init 118 = .ok (.aload_n 0, 1) := by decide +kernel
theorem d_Mo_init_119 : decode b_Mo_init 119 = .ok (.bipush 16, 2) := by decide +kernel
theorem d_Mo_init_121 : decode b_Mo_init 121 = .ok (.newarray .int, 2) := by decide +kernel
theorem d_Mo_init_123 : decode b_Mo_init 123 = .ok (.putfield 54, 3) := by decide +kernel
theorem d_Mo_init_126 : decode b_Mo_init 126 = .ok (.aload_n 0, 1) := by decide +kernel
theorem d_Mo_init_127 : decode b_Mo_init 127 = .ok (.bipush 16, 2) := by decide +kernel
theorem d_Mo_init_129 : decode b_Mo_init 129 = .ok (.newarray .int, 2) := by decide +kernel
theorem d_Mo_init_131 : decode b_Mo_init 131 = .ok (.putfield 57, 3) := by decide +kernel
theorem d_Mo_init_134 : decode b_Mo_init 134 = .ok (.aload_n 0, 1) := by decide +kernel
theorem d_Mo_init_135 : decode b_Mo_init 135 = .ok (.bipush 16, 2) := by decide +kernel
theorem d_Mo_init_137 : decode b_Mo_init 137 = .ok (.newarray .int, 2) := by decide +kernel
theorem d_Mo_init_139 : decode b_Mo_init 139 = .ok (.putfield 60, 3) := by decide +kernel
theorem d_Mo_init_142 : decode b_Mo_init 142 = .ok (.aload_n 0, 1) := by decide +kernel
theorem d_Mo_init_143 : decode b_Mo_init 143 = .ok (.sipush 160, 3) := by decide +kernel
theorem d_Mo_init_146 : decode b_Mo_init 146 = .ok (.newarray .int, 2) := by decide +kernel
theorem d_Mo_init_148 : decode b_Mo_init 148 = .ok (.putfield 63, 3) := by decide +kernel
theorem d_Mo_init_151 : decode b_Mo_init 151 = .ok (.aload_n 0, 1) := by decide +kernel
theorem d_Mo_init_152 : decode b_Mo_init 152 = .ok (.sipush 176, 3) := by decide +kernel
theorem d_Mo_init_155 : decode b_Mo_init 155 = .ok (.newarray .int, 2) := by decide +kernel
theorem d_Mo_init_157 : decode b_Mo_init 157 = .ok (.putfield 66, 3) := by decide +kernel
theorem d_Mo_init_160 : decode b_Mo_init 160 = .ok (.aload_n 0, 1) := by decide +kernel
theorem d_Mo_init_161 : decode b_Mo_init 161 = .ok (.bipush 16, 2) := by decide +kernel
theorem d_Mo_init_163 : decode b_Mo_init 163 = .ok (.newarray .int, 2) := by decide +kernel
theorem d_Mo_init_165 : decode b_Mo_init 165 = .ok (.putfield 69, 3) := by decide +kernel
theorem d_Mo_init_168 : decode b_Mo_init 168 = .ok (.aload_n 0, 1) := by decide +kernel
theorem d_Mo_init_169 : decode b_Mo_init 169 = .ok (.bipush 16, 2) := by decide +kernel
theorem d_Mo_init_171 : decode b_Mo_init 171 = .ok (.newarray .boolean, 2) := by decide +kernel
theorem d_Mo_init_173 : decode b_Mo_init 173 = .ok (.putfield 72, 3) := by decide +kernel
theorem d_Mo_init_176 : decode b_Mo_init 176 = .ok (.aload_n 0, 1) := by decide +kernel
theorem d_Mo_init_177 : decode b_Mo_init 177 = .ok (.bipush 16, 2) := by decide +kernel
theorem d_Mo_init_179 : decode b_Mo_init 179 = .ok (.newarray .int, 2) := by decide +kernel
theorem d_Mo_init_181 : decode b_Mo_init 181 = .ok (.putfield 76, 3) := by decide +kernel
theorem d_Mo_init_184 : decode b_Mo_init 184 = .ok (.aload_n 0, 1) := by decide +kernel
theorem d_Mo_init_185 : decode b_Mo_init 185 = .ok (.bipush 16, 2) := by decide +kernel
theorem d_Mo_init_187 : decode b_Mo_init 187 = .ok (.newarray .int, 2) := by decide +kernel
theorem d_Mo_init_189 : decode b_Mo_init 189 = .ok (.putfield 79, 3) := by decide +kernel
theorem d_Mo_init_192 : decode b_Mo_init 192 = .ok (.aload_n 0, 1) := by decide +kernel
theorem d_Mo_init_193 : decode b_Mo_init 193 = .ok (.ldc 82, 2) := by decide +kernel
theorem d_Mo_init_195 : decode b_Mo_init 195 = .ok (.newarray .int, 2) := by decide +kernel
theorem d_Mo_init_197 : decode b_Mo_init 197 = .ok (.putfield 83, 3) := by decide +kernel
theorem d_Mo_init_200 : decode b_Mo_init 200 = .ok (.aload_n 0, 1) := by decide +kernel
theorem d_Mo_init_201 : decode b_Mo_init 201 = .ok (.sipush 16400, 3) := by decide +kernel
theorem d_Mo_init_204 : decode b_Mo_init 204 = .ok (.newarray .boolean, 2) := by decide +kernel
theorem d_Mo_init_206 : decode b_Mo_init 206 = .ok (.putfield 86, 3) := by decide +kernel
theorem d_Mo_init_209 : decode b_Mo_init 209 = .ok (.aload_n 0, 1) := by decide +kernel
theorem d_Mo_init_210 : decode b_Mo_init 210 = .ok (.sipush 200, 3) := by decide +kernel
theorem d_Mo_init_213 : decode b_Mo_init 213 = .ok (.newarray .int, 2) := by decide +kernel
theorem d_Mo_init_215 : decode b_Mo_init 215 = .ok (.putfield 89, 3) := by decide +kernel
theorem d_Mo_init_218 : decode b_Mo_init 218 = .ok (.aload_n 0, 1) := by decide +kernel
theorem d_Mo_init_219 : decode b_Mo_init 219 = .ok (.sipush 200, 3) := by decide +kernel
theorem d_Mo_init_222 : decode b_Mo_init 222 = .ok (.newarray .int, 2) := by decide +kernel
theorem d_Mo_init_224 : decode b_Mo_init 224 = .ok (.putfield 92, 3) := by decide +kernel
theorem d_Mo_init_227 : decode b_Mo_init 227 = .ok (.aload_n 0, 1) := by decide +kernel
theorem d_Mo_init_228 : decode b_Mo_init 228 = .ok (.bipush 45, 2) := by decide +kernel
theorem d_Mo_init_230 : decode b_Mo_init 230 = .ok (.newarray .int, 2) := by decide +kernel
theorem d_Mo_init_232 : decode b_Mo_init 232 = .ok (.putfield 95, 3) := by decide +kernel
theorem d_Mo_init_235 : decode b_Mo_init 235 = .ok (.aload_n 0, 1) := by decide +kernel
theorem d_Mo_init_236 : decode b_Mo_init 236 = .ok (.bipush 45, 2) := by decide +kernel
theorem d_Mo_init_238 : decode b_Mo_init 238 = .ok (.newarray .int, 2) := by decide +kernel
theorem d_Mo_init_240 : decode b_Mo_init 240 = .ok (.putfield 98, 3) := by decide +kernel
theorem d_Mo_init_243 : decode b_Mo_init 243 = .ok (.aload_n 0, 1) := by decide +kernel
theorem d_Mo_init_244 : decode b_Mo_init 244 = .ok (.bipush 45, 2) := by decide +kernel
theorem d_Mo_init_246 : decode b_Mo_init 246 = .ok (.newarray .int, 2) := by decide +kernel
theorem d_Mo_init_248 : decode b_Mo_init 248 = .ok (.putfield 101, 3) := by decide +kernel
theorem d_Mo_init_251 : decode b_Mo_init 251 = .ok (.aload_n 0, 1) := by decide +kernel
theorem d_Mo_init_252 : decode b_Mo_init 252 = .ok (.bipush 45, 2) := by decide +kernel
theorem d_Mo_init_254 : decode b_Mo_init 254 = .ok (.newarray .boolean, 2) := by decide +kernel
theorem d_Mo_init_256 : decode b_Mo_init 256 = .ok (.putfield 104, 3) := by decide +kernel
theorem d_Mo_init_259 : decode b_Mo_init 259 = .ok (.aload_n 0, 1) := by decide +kernel
theorem d_Mo_init_260 : decode b_Mo_init 260 = .ok (.bipush 45, 2) := by decide +kernel
theorem d_Mo_init_262 : decode b_Mo_init 262 = .ok (.newarray .long, 2) := by decide +kernel
theorem d_Mo_init_264 : decode b_Mo_init 264 = .ok (.putfield 107, 3) := by decide +kernel
theorem d_Mo_init_267 : decode b_Mo_init 267 = .ok (.aload_n 0, 1) := by decide +kernel
theorem d_Mo_init_268 : decode b_Mo_init 268 = .ok (.bipush 45, 2) := by decide +kernel
theorem d_Mo_init_270 : decode b_Mo_init 270 = .ok (.newarray .long, 2) := by decide +kernel
theorem d_Mo_init_272 : decode b_Mo_init 272 = .ok (.putfield 111, 3) := by decide +kernel
theorem d_Mo_init_275 : decode b_Mo_init 275 = .ok (.aload_n 0, 1) := by decide +kernel
theorem d_Mo_init_276 : decode b_Mo_init 276 = .ok (.bipush 45, 2) := by decide +kernel
theorem d_Mo_init_278 : decode b_Mo_init 278 = .ok (.newarray .long, 2) := by decide +kernel
theorem d_Mo_init_280 : decode b_Mo_init 280 = .ok (.putfield 114, 3) := by decide +kernel
theorem d_Mo_init_283 : decode b_Mo_init 283 = .ok (.aload_n 0, 1) := by decide +kernel
theorem d_Mo_init_284 : decode b_Mo_init 284 = .ok (.bipush 45, 2) := by decide +kernel
theorem d_Mo_init_286 : decode b_Mo_init 286 = .ok (.newarray .boolean, 2) := by decide +kernel
theorem d_Mo_init_288 : decode b_Mo_init 288 = .ok (.putfield 117, 3) := by decide +kernel
theorem d_Mo_init_291 : decode b_Mo_init 291 = .ok (.aload_n 0, 1) := by decide +kernel
theorem d_Mo_init_292 : decode b_Mo_init 292 = .ok (.bipush 45, 2) := by decide +kernel
theorem d_Mo_init_294 : decode b_Mo_init 294 = .ok (.newarray .boolean, 2) := by decide +kernel
theorem d_Mo_init_296 : decode b_Mo_init 296 = .ok (.putfield 120, 3) := by decide +kernel
theorem d_Mo_init_299 : decode b_Mo_init 299 = .ok (.aload_n 0, 1) := by decide +kernel
theorem d_Mo_init_300 : decode b_Mo_init 300 = .ok (.bipush 45, 2) := by decide +kernel
theorem d_Mo_init_302 : decode b_Mo_init 302 = .ok (.newarray .int, 2) := by decide +kernel
theorem d_Mo_init_304 : decode b_Mo_init 304 = .ok (.putfield 123, 3) := by decide +kernel
theorem d_Mo_init_307 : decode b_Mo_init 307 = .ok (.aload_n 0, 1) := by decide +kernel
theorem d_Mo_init_308 : decode b_Mo_init 308 = .ok (.bipush 45, 2) := by decide +kernel
theorem d_Mo_init_310 : decode b_Mo_init 310 = .ok (.newarray .int, 2) := by decide +kernel
theorem d_Mo_init_312 : decode b_Mo_init 312 = .ok (.putfield 126, 3) := by decide +kernel
theorem d_Mo_init_315 : decode b_Mo_init 315 = .ok (.aload_n 0, 1) := by decide +kernel
theorem d_Mo_init_316 : decode b_Mo_init 316 = .ok (.sipush 1025, 3) := by decide +kernel
theorem d_Mo_init_319 : decode b_Mo_init 319 = .ok (.newarray .int, 2) := by decide +kernel
theorem d_Mo_init_321 : decode b_Mo_init 321 = .ok (.putfield 129, 3) := by decide +kernel
theorem d_Mo_init_324 : decode b_Mo_init 324 = .ok (.aload_n 0, 1) := by decide +kernel
theorem d_Mo_init_325 : decode b_Mo_init 325 = .ok (.sipush 1025, 3) := by decide +kernel
theorem d_Mo_init_328 : decode b_Mo_init 328 = .ok (.newarray .int, 2) := by decide +kernel
theorem d_Mo_init_330 : decode b_Mo_init 330 = .ok (.putfield 132, 3) := by decide +kernel
theorem d_Mo_init_333 : decode b_Mo_init 333 = .ok (.aload_n 0, 1) := by decide +kernel
theorem d_Mo_init_334 : decode b_Mo_init 334 = .ok (.sipush 9225, 3) := by decide +kernel
theorem d_Mo_init_337 : decode b_Mo_init 337 = .ok (.newarray .int, 2) := by decide +kernel
theorem d_Mo_init_339 : decode b_Mo_init 339 = .ok (.putfield 135, 3) := by decide +kernel
theorem d_Mo_init_342 : decode b_Mo_init 342 = .ok (.aload_n 0, 1) := by decide +kernel
theorem d_Mo_init_343 : decode b_Mo_init 343 = .ok (.sipush 1025, 3) := by decide +kernel
theorem d_Mo_init_346 : decode b_Mo_init 346 = .ok (.newarray .int, 2) := by decide +kernel
theorem d_Mo_init_348 : decode b_Mo_init 348 = .ok (.putfield 138, 3) := by decide +kernel
theorem d_Mo_init_351 : decode b_Mo_init 351 = .ok (.aload_n 0, 1) := by decide +kernel
theorem d_Mo_init_352 : decode b_Mo_init 352 = .ok (.sipush 1025, 3) := by decide +kernel
theorem d_Mo_init_355 : decode b_Mo_init 355 = .ok (.newarray .int, 2) := by decide +kernel
theorem d_Mo_init_357 : decode b_Mo_init 357 = .ok (.putfield 141, 3) := by decide +kernel
theorem d_Mo_init_360 : decode b_Mo_init 360 = .ok (.aload_n 0, 1) := by decide +kernel
theorem d_Mo_init_361 : decode b_Mo_init 361 = .ok (.sipush 1025, 3) := by decide +kernel
theorem d_Mo_init_364 : decode b_Mo_init 364 = .ok (.newarray .int, 2) := by decide +kernel
theorem d_Mo_init_366 : decode b_Mo_init 366 = .ok (.putfield 144, 3) := by decide +kernel
theorem d_Mo_init_369 : decode b_Mo_init 369 = .ok (.aload_n 0, 1) := by decide +kernel
theorem d_Mo_init_370 : decode b_Mo_init 370 = .ok (.sipush 1025, 3) := by decide +kernel
theorem d_Mo_init_373 : decode b_Mo_init 373 = .ok (.newarray .int, 2) := by decide +kernel
theorem d_Mo_init_375 : decode b_Mo_init 375 = .ok (.putfield 147, 3) := by decide +kernel
theorem d_Mo_init_378 : decode b_Mo_init 378 = .ok (.aload_n 0, 1) := by decide +kernel
theorem d_Mo_init_379 : decode b_Mo_init 379 = .ok (.sipush 1025, 3) := by decide +kernel
theorem d_Mo_init_382 : decode b_Mo_init 382 = .ok (.newarray .long, 2) := by decide +kernel
theorem d_Mo_init_384 : decode b_Mo_init 384 = .ok (.putfield 150, 3) := by decide +kernel
theorem d_Mo_init_387 : decode b_Mo_init 387 = .ok (.aload_n 0, 1) := by decide +kernel
theorem d_Mo_init_388 : decode b_Mo_init 388 = .ok (.sipush 1025, 3) := by decide +kernel
theorem d_Mo_init_391 : decode b_Mo_init 391 = .ok (.newarray .long, 2) := by decide +kernel
theorem d_Mo_init_393 : decode b_Mo_init 393 = .ok (.putfield 153, 3) := by decide +kernel
theorem d_Mo_init_396 : decode b_Mo_init 396 = .ok (.aload_n 0, 1) := by decide +kernel
theorem d_Mo_init_397 : decode b_Mo_init 397 = .ok (.iload_n 1, 1) := by decide +kernel
theorem d_Mo_init_398 : decode b_Mo_init 398 = .ok (.iconst 1, 1) := by decide +kernel
theorem d_Mo_init_399 : decode b_Mo_init 399 = .ok (.if_icmp .ge 7, 3) := by decide +kernel
theorem d_Mo_init_402 : decode b_Mo_init 402 = .ok (.iconst 1, 1) := by decide +kernel
theorem d_Mo_init_403 : decode b_Mo_init 403 = .ok (.goto 15, 3) := by decide +kernel
theorem d_Mo_init_406 : decode b_Mo_init 406 = .ok (.iload_n 1, 1) := by decide +kernel
theorem d_Mo_init_407 : decode b_Mo_init 407 = .ok (.bipush 8, 2) := by decide +kernel
theorem d_Mo_init_409 : decode b_Mo_init 409 = .ok (.if_icmp .le 8, 3) := by decide +kernel
theorem d_Mo_init_412 : decode b_Mo_init 412 = .ok (.bipush 8, 2) := by decide +kernel
theorem d_Mo_init_414 : decode b_Mo_init 414 = .ok (.goto 4, 3) := by decide +kernel
theorem d_Mo_init_417 : decode b_Mo_init 417 = .ok (.iload_n 1, 1) := by decide +kernel
theorem d_Mo_init_418 : decode b_Mo_init 418 = .ok (.putfield 156, 3) := by decide +kernel
theorem d_Mo_init_421 : decode b_Mo_init 421 = .ok (.aload_n 0, 1) := by decide +kernel
theorem d_Mo_init_422 : decode b_Mo_init 422 = .ok (.iload_n 2, 1) := by decide +kernel
theorem d_Mo_init_423 : decode b_Mo_init 423 = .ok (.iconst 1, 1) := by decide +kernel
theorem d_Mo_init_424 : decode b_Mo_init 424 = .ok (.if_icmp .ge 7, 3) := by decide +kernel
theorem d_Mo_init_427 : decode b_Mo_init 427 = .ok (.iconst 1, 1) := by decide +kernel
theorem d_Mo_init_428 : decode b_Mo_init 428 = .ok (.goto 15, 3) := by decide +kernel
theorem d_Mo_init_431 : decode b_Mo_init 431 = .ok (.iload_n 2, 1) := by decide +kernel
theorem d_Mo_init_432 : decode b_Mo_init 432 = .ok (.bipush 21, 2) := by decide +kernel
theorem d_Mo_init_434 : decode b_Mo_init 434 = .ok (.if_icmp .le 8, 3) := by decide +kernel
theorem d_Mo_init_437 : decode b_Mo_init 437 = .ok (.bipush 21, 2) := by decide +kernel
theorem d_Mo_init_439 : decode b_Mo_init 439 = .ok (.goto 4, 3) := by decide +kernel
theorem d_Mo_init_442 : decode b_Mo_init 442 = .ok (.iload_n 2, 1) := by decide +kernel
theorem d_Mo_init_443 : decode b_Mo_init 443 = .ok (.putfield 159, 3) := by decide +kernel
theorem d_Mo_init_446 : decode b_Mo_init 446 = .ok (.iconst 0, 1) := by decide +kernel
theorem d_Mo_init_447 : decode b_Mo_init 447 = .ok (.istore_n 3, 1) := by decide +kernel
theorem d_Mo_init_448 : decode b_Mo_init 448 = .ok (.iload_n 3, 1) := by decide +kernel
theorem d_Mo_init_449 : decode b_Mo_init 449 = .ok (.sipush 168, 3) := by decide +kernel
theorem d_Mo_init_452 : decode b_Mo_init 452 = .ok (.if_icmp .ge 16, 3) := by decide +kernel
theorem d_Mo_init_455 : decode b_Mo_init 455 = .ok (.aload_n 0, 1) := by decide +kernel
theorem d_Mo_init_456 : decode b_Mo_init 456 = .ok (.getfield 7, 3) := by decide +kernel
theorem d_Mo_init_459 : decode b_Mo_init 459 = .ok (.iload_n 3, 1) := by decide +kernel
theorem d_Mo_init_460 : decode b_Mo_init 460 = .ok (.iconst (-1), 1) := by decide +kernel
theorem d_Mo_init_461 : decode b_Mo_init 461 = .ok (.iastore, 1) := by decide +kernel
theorem d_Mo_init_462 : decode b_Mo_init 462 = .ok (.iinc 3 1, 3) := by decide +kernel
theorem d_Mo_init_465 : decode b_Mo_init 465 = .ok (.goto (-17), 3) := by decide +kernel
theorem d_Mo_init_468 : decode b_Mo_init 468 = .ok (.iconst 0, 1) := by decide +kernel
theorem d_Mo_init_469 : decode b_Mo_init 469 = .ok (.istore_n 3, 1) := by decide +kernel
theorem d_Mo_init_470 : decode b_Mo_init 470 = .ok (.iload_n 3, 1) := by decide +kernel
theorem d_Mo_init_471 : decode b_Mo_init 471 = .ok (.bipush 56, 2) := by decide +kernel
theorem d_Mo_init_473 : decode b_Mo_init 473 = .ok (.if_icmp .ge 16, 3) := by decide +kernel
theorem d_Mo_init_476 : decode b_Mo_init 476 = .ok (.aload_n 0, 1) := by decide +kernel
theorem d_Mo_init_477 : decode b_Mo_init 477 = .ok (.getfield 13, 3) := by decide +kernel
theorem d_Mo_init_480 : decode b_Mo_init 480 = .ok (.iload_n 3, 1) := by decide +kernel
theorem d_Mo_init_481 : decode b_Mo_init 481 = .ok (.iconst (-1), 1) := by decide +kernel
theorem d_Mo_init_482 : decode b_Mo_init 482 = .ok (.iastore, 1) := by decide +kernel
theorem d_Mo_init_483 : decode b_Mo_init 483 = .ok (.iinc 3 1, 3) := by decide +kernel
theorem d_Mo_init_486 : decode b_Mo_init 486 = .ok (.goto (-16), 3) := by decide +kernel
theorem d_Mo_init_489 : decode b_Mo_init 489 = .ok (.iconst 0, 1) := by decide +kernel
theorem d_Mo_init_490 : decode b_Mo_init 490 = .ok (.istore_n 3, 1) := by decide +kernel
theorem d_Mo_init_491 : decode b_Mo_init 491 = .ok (.iload_n 3, 1) := by decide +kernel
theorem d_Mo_init_492 : decode b_Mo_init 492 = .ok (.bipush 8, 2) := by decide +kernel
theorem d_Mo_init_494 : decode b_Mo_init 494 = .ok (.if_icmp .ge 36, 3) := by decide +kernel
theorem d_Mo_init_497 : decode b_Mo_init 497 = .ok (.aload_n 0, 1) := by decide +kernel
theorem d_Mo_init_498 : decode b_Mo_init 498 = .ok (.getfield 16, 3) := by decide +kernel
theorem d_Mo_init_501 : decode b_Mo_init 501 = .ok (.iload_n 3, 1) := by decide +kernel
theorem d_Mo_init_502 : decode b_Mo_init 502 = .ok (.sipush 480, 3) := by decide +kernel
theorem d_Mo_init_505 : decode b_Mo_init 505 = .ok (.iastore, 1) := by decide +kernel
theorem d_Mo_init_506 : decode b_Mo_init 506 = .ok (.aload_n 0, 1) := by decide +kernel
theorem d_Mo_init_507 : decode b_Mo_init 507 = .ok (.getfield 19, 3) := by decide +kernel
theorem d_Mo_init_510 : decode b_Mo_init 510 = .ok (.iload_n 3, 1) := by decide +kernel
theorem d_Mo_init_511 : decode b_Mo_init 511 = .ok (.sipush 480, 3) := by decide +kernel
theorem d_Mo_init_514 : decode b_Mo_init 514 = .ok (.iastore, 1) := by decide +kernel
theorem d_Mo_init_515 : decode b_Mo_init 515 = .ok (.aload_n 0, 1) := by decide +kernel
theorem d_Mo_init_516 : decode b_Mo_init 516 = .ok (.getfield 25, 3) := by decide +kernel
theorem d_Mo_init_519 : decode b_Mo_init 519 = .ok (.iload_n 3, 1) := by decide +kernel
theorem d_Mo_init_520 : decode b_Mo_init 520 = .ok (.sipush 1023, 3) := by decide +kernel
theorem d_Mo_init_523 : decode b_Mo_init 523 = .ok (.iastore, 1) := by decide +kernel
theorem d_Mo_init_524 : decode b_Mo_init 524 = .ok (.iinc 3 1, 3) := by decide +kernel
theorem d_Mo_init_527 : decode b_Mo_init 527 = .ok (.goto (-36), 3) := by decide +kernel
theorem d_Mo_init_530 : decode b_Mo_init 530 = .ok (.return_, 1) := by decide +kernel
theorem d_Mo_isPerson_0 : decode b_Mo_isPerson 0 = .ok (.iload_n 1, 1) := by decide +kernel
theorem d_Mo_isPerson_1 : decode b_Mo_isPerson 1 = .ok (.ifCond .lt 15, 3) := by decide +kernel
theorem d_Mo_isPerson_4 : decode b_Mo_isPerson 4 = .ok (.iload_n 1, 1) := by decide +kernel
theorem d_Mo_isPerson_5 : decode b_Mo_isPerson 5 = .ok (.aload_n 0, 1) := by decide +kernel
theorem d_Mo_isPerson_6 : decode b_Mo_isPerson 6 = .ok (.getfield 156, 3) := by decide +kernel
theorem d_Mo_isPerson_9 : decode b_Mo_isPerson 9 = .ok (.if_icmp .ge 7, 3) := by decide +kernel
theorem d_Mo_isPerson_12 : decode b_Mo_isPerson 12 = .ok (.iconst 1, 1) := by decide +kernel
theorem d_Mo_isPerson_13 : decode b_Mo_isPerson 13 = .ok (.goto 4, 3) := by decide +kernel
theorem d_Mo_isPerson_16 : decode b_Mo_isPerson 16 = .ok (.iconst 0, 1) := by decide +kernel
theorem d_Mo_isPerson_17 : decode b_Mo_isPerson 17 = .ok (.ireturn, 1) := by decide +kernel
theorem d_Mo_isCell_0 : decode b_Mo_isCell 0 = .ok (.aload_n 0, 1) := by decide +kernel
theorem d_Mo_isCell_1 : decode b_Mo_isCell 1 = .ok (.iload_n 1, 1) := by decide +kernel
theorem d_Mo_isCell_2 : decode b_Mo_isCell 2 = .ok (.invokevirtual 165, 3) := by decide +kernel
theorem d_Mo_isCell_5 : decode b_Mo_isCell 5 = .ok (.ifCond .eq 19, 3) := by decide +kernel
theorem d_Mo_isCell_8 : decode b_Mo_isCell 8 = .ok (.iload_n 2, 1) := by decide +kernel
