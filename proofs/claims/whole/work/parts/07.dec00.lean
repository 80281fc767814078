theorem d_Automaton_init_0 : decode b_Automaton_init 0 = .ok (.aload_n 0, 1) := by decide +kernel
theorem d_Automaton_init_1 : decode b_Automaton_init 1 = .ok (.invokespecial 3, 3) := by decide +kernel
theorem d_Automaton_init_4 : decode b_Automaton_init 4 = .ok (.aload_n 0, 1) := by decide +kernel
theorem d_Automaton_init_5 : decode b_Automaton_init 5 = .ok (.iconst 0, 1) := by decide +kernel
theorem d_Automaton_init_6 : decode b_Automaton_init 6 = .ok (.newarray .int, 2) := by decide +kernel
theorem d_Automaton_init_8 : decode b_Automaton_init 8 = .ok (.putfield 9, 3) := by decide +kernel
theorem d_Automaton_init_11 : decode b_Automaton_init 11 = .ok (.return_, 1) := by decide +kernel
theorem d_Automaton_reserve_0 : decode b_Automaton_reserve 0 = .ok (.iload_n 1, 1) := by decide +kernel
theorem d_Automaton_reserve_1 : decode b_Automaton_reserve 1 = .ok (.bipush 10, 2) := by decide +kernel
theorem d_Automaton_reserve_3 : decode b_Automaton_reserve 3 = .ok (.imul, 1) := by decide +kernel
theorem d_Automaton_reserve_4 : decode b_Automaton_reserve 4 = .ok (.aload_n 0, 1) := by decide +kernel
theorem d_Automaton_reserve_5 : decode b_Automaton_reserve 5 = .ok (.getfield 9, 3) := by decide +kernel
theorem d_Automaton_reserve_8 : decode b_Automaton_reserve 8 = .ok (.arraylength, 1) := by decide +kernel
theorem d_Automaton_reserve_9 : decode b_Automaton_reserve 9 = .ok (.if_icmp .le 39, 3) := by decide +kernel
theorem d_Automaton_reserve_12 : decode b_Automaton_reserve 12 = .ok (.bipush 12, 2) := by decide +kernel
theorem d_Automaton_reserve_14 : decode b_Automaton_reserve 14 = .ok (.iload_n 1, 1) := by decide +kernel
theorem d_Automaton_reserve_15 : decode b_Automaton_reserve 15 = .ok (.invokestatic 15, 3) := by decide +kernel
theorem d_Automaton_reserve_18 : decode b_Automaton_reserve 18 = .ok (.iconst 2, 1) := by decide +kernel
theorem d_Automaton_reserve_19 : decode b_Automaton_reserve 19 = .ok (.aload_n 0, 1) := by decide +kernel
theorem d_Automaton_reserve_20 : decode b_Automaton_reserve 20 = .ok (.getfield 9, 3) := by decide +kernel
theorem d_Automaton_reserve_23 : decode b_Automaton_reserve 23 = .ok (.arraylength, 1) := by decide +kernel
theorem d_Automaton_reserve_24 : decode b_Automaton_reserve 24 = .ok (.imul, 1) := by decide +kernel
theorem d_Automaton_reserve_25 : decode b_Automaton_reserve 25 = .ok (.bipush 10, 2) := by decide +kernel
theorem d_Automaton_reserve_27 : decode b_Automaton_reserve 27 = .ok (.idiv, 1) := by decide +kernel
theorem d_Automaton_reserve_28 : decode b_Automaton_reserve 28 = .ok (.invokestatic 15, 3) := by decide +kernel
theorem d_Automaton_reserve_31 : decode b_Automaton_reserve 31 = .ok (.istore_n 2, 1) := by decide +kernel
theorem d_Automaton_reserve_32 : decode b_Automaton_reserve 32 = .ok (.aload_n 0, 1) := by decide +kernel
theorem d_Automaton_reserve_33 : decode b_Automaton_reserve 33 = .ok (.sipush 1025, 3) := by decide +kernel
theorem d_Automaton_reserve_36 : decode b_Automaton_reserve 36 = .ok (.iload_n 2, 1) := by decide +kernel
theorem d_Automaton_reserve_37 : decode b_Automaton_reserve 37 = .ok (.invokestatic 23, 3) := by decide +kernel
theorem d_Automaton_reserve_40 : decode b_Automaton_reserve 40 = .ok (.bipush 10, 2) := by decide +kernel
theorem d_Automaton_reserve_42 : decode b_Automaton_reserve 42 = .ok (.imul, 1) := by decide +kernel
theorem d_Automaton_reserve_43 : decode b_Automaton_reserve 43 = .ok (.newarray .int, 2) := by decide +kernel
theorem d_Automaton_reserve_45 : decode b_Automaton_reserve 45 = .ok (.putfield 9, 3) := by decide +kernel
theorem d_Automaton_reserve_48 : decode b_Automaton_reserve 48 = .ok (.return_, 1) := by decide +kernel
theorem d_Automaton_entry_0 : decode b_Automaton_entry 0 = .ok (.iload_n 1, 1) := by decide +kernel
theorem d_Automaton_entry_1 : decode b_Automaton_entry 1 = .ok (.bipush 10, 2) := by decide +kernel
theorem d_Automaton_entry_3 : decode b_Automaton_entry 3 = .ok (.imul, 1) := by decide +kernel
theorem d_Automaton_entry_4 : decode b_Automaton_entry 4 = .ok (.iload_n 2, 1) := by decide +kernel
theorem d_Automaton_entry_5 : decode b_Automaton_entry 5 = .ok (.iadd, 1) := by decide +kernel
theorem d_Automaton_entry_6 : decode b_Automaton_entry 6 = .ok (.istore_n 3, 1) := by decide +kernel
theorem d_Automaton_entry_7 : decode b_Automaton_entry 7 = .ok (.iload_n 3, 1) := by decide +kernel
theorem d_Automaton_entry_8 : decode b_Automaton_entry 8 = .ok (.ifCond .lt 21, 3) := by decide +kernel
theorem d_Automaton_entry_11 : decode b_Automaton_entry 11 = .ok (.iload_n 3, 1) := by decide +kernel
theorem d_Automaton_entry_12 : decode b_Automaton_entry 12 = .ok (.aload_n 0, 1) := by decide +kernel
theorem d_Automaton_entry_13 : decode b_Automaton_entry 13 = .ok (.getfield 9, 3) := by decide +kernel
theorem d_Automaton_entry_16 : decode b_Automaton_entry 16 = .ok (.arraylength, 1) := by decide +kernel
theorem d_Automaton_entry_17 : decode b_Automaton_entry 17 = .ok (.if_icmp .ge 12, 3) := by decide +kernel
theorem d_Automaton_entry_20 : decode b_Automaton_entry 20 = .ok (.aload_n 0, 1) := by decide +kernel
theorem d_Automaton_entry_21 : decode b_Automaton_entry 21 = .ok (.getfield 9, 3) := by decide +kernel
theorem d_Automaton_entry_24 : decode b_Automaton_entry 24 = .ok (.iload_n 3, 1) := by decide +kernel
theorem d_Automaton_entry_25 : decode b_Automaton_entry 25 = .ok (.iaload, 1) := by decide +kernel
theorem d_Automaton_entry_26 : decode b_Automaton_entry 26 = .ok (.goto 4, 3) := by decide +kernel
theorem d_Automaton_entry_29 : decode b_Automaton_entry 29 = .ok (.iconst 0, 1) := by decide +kernel
theorem d_Automaton_entry_30 : decode b_Automaton_entry 30 = .ok (.ireturn, 1) := by decide +kernel
theorem d_Automaton_equalTo_0 : decode b_Automaton_equalTo 0 = .ok (.aload_n 0, 1) := by decide +kernel
theorem d_Automaton_equalTo_1 : decode b_Automaton_equalTo 1 = .ok (.getfield 26, 3) := by decide +kernel
theorem d_Automaton_equalTo_4 : decode b_Automaton_equalTo 4 = .ok (.aload_n 1, 1) := by decide +kernel
theorem d_Automaton_equalTo_5 : decode b_Automaton_equalTo 5 = .ok (.getfield 26, 3) := by decide +kernel
theorem d_Automaton_equalTo_8 : decode b_Automaton_equalTo 8 = .ok (.if_icmp .eq 5, 3) := by decide +kernel
theorem d_Automaton_equalTo_11 : decode b_Automaton_equalTo 11 = .ok (.iconst 0, 1) := by decide +kernel
theorem d_Automaton_equalTo_12 : decode b_Automaton_equalTo 12 = .ok (.ireturn, 1) := by decide +kernel
theorem d_Automaton_equalTo_13 : decode b_Automaton_equalTo 13 = .ok (.iconst 0, 1) := by decide +kernel
theorem d_Automaton_equalTo_14 : decode b_Automaton_equalTo 14 = .ok (.istore_n 2, 1) := by decide +kernel
theorem d_Automaton_equalTo_15 : decode b_Automaton_equalTo 15 = .ok (.iload_n 2, 1) := by decide +kernel
theorem d_Automaton_equalTo_16 : decode b_Automaton_equalTo 16 = .ok (.aload_n 0, 1) := by decide +kernel
theorem d_Automaton_equalTo_17 : decode b_Automaton_equalTo 17 = .ok (.getfield 26, 3) := by decide +kernel
theorem d_Automaton_equalTo_20 : decode b_Automaton_equalTo 20 = .ok (.bipush 10, 2) := by decide +kernel
theorem d_Automaton_equalTo_22 : decode b_Automaton_equalTo 22 = .ok (.imul, 1) := by decide +kernel
theorem d_Automaton_equalTo_23 : decode b_Automaton_equalTo 23 = .ok (.if_icmp .ge 26, 3) := by decide +kernel
theorem d_Automaton_equalTo_26 : decode b_Automaton_equalTo 26 = .ok (.aload_n 0, 1) := by decide +kernel
theorem d_Automaton_equalTo_27 : decode b_Automaton_equalTo 27 = .ok (.getfield 9, 3) := by decide +kernel
theorem d_Automaton_equalTo_30 : decode b_Automaton_equalTo 30 = .ok (.iload_n 2, 1) := by decide +kernel
theorem d_Automaton_equalTo_31 : decode b_Automaton_equalTo 31 = .ok (.iaload, 1) := by decide +kernel
theorem d_Automaton_equalTo_32 : decode b_Automaton_equalTo 32 = .ok (.aload_n 1, 1) := by decide +kernel
theorem d_Automaton_equalTo_33 : decode b_Automaton_equalTo 33 = .ok (.getfield 9, 3) := by decide +kernel
theorem d_Automaton_equalTo_36 : decode b_Automaton_equalTo 36 = .ok (.iload_n 2, 1) := by decide +kernel
theorem d_Automaton_equalTo_37 : decode b_Automaton_equalTo 37 = .ok (.iaload, 1) := by decide +kernel
theorem d_Automaton_equalTo_38 : decode b_Automaton_equalTo 38 = .ok (.if_icmp .eq 5, 3) := by decide +kernel
theorem d_Automaton_equalTo_41 : decode b_Automaton_equalTo 41 = .ok (.iconst 0, 1) := by decide +kernel
theorem d_Automaton_equalTo_42 : decode b_Automaton_equalTo 42 = .ok (.ireturn, 1) := by decide +kernel
theorem d_Automaton_equalTo_43 : decode b_Automaton_equalTo 43 = .ok (.iinc 2 1, 3) := by decide +kernel
theorem d_Automaton_equalTo_46 : decode b_Automaton_equalTo 46 = .ok (.goto (-31), 3) := by decide +kernel
theorem d_Automaton_equalTo_49 : decode b_Automaton_equalTo 49 = .ok (.iconst 1, 1) := by decide +kernel
theorem d_Automaton_equalTo_50 : decode b_Automaton_equalTo 50 = .ok (.ireturn, 1) := by decide +kernel
theorem d_Automaton_firstWayTo_0 : decode b_Automaton_firstWayTo 0 = .ok (.iconst 0, 1) := by decide +kernel
theorem d_Automaton_firstWayTo_1 : decode b_Automaton_firstWayTo 1 = .ok (.istore_n 2, 1) := by decide +kernel
theorem d_Automaton_firstWayTo_2 : decode b_Automaton_firstWayTo 2 = .ok (.iload_n 2, 1) := by decide +kernel
theorem d_Automaton_firstWayTo_3 : decode b_Automaton_firstWayTo 3 = .ok (.aload_n 0, 1) := by decide +kernel
theorem d_Automaton_firstWayTo_4 : decode b_Automaton_firstWayTo 4 = .ok (.getfield 26, 3) := by decide +kernel
theorem d_Automaton_firstWayTo_7 : decode b_Automaton_firstWayTo 7 = .ok (.bipush 10, 2) := by decide +kernel
theorem d_Automaton_firstWayTo_9 : decode b_Automaton_firstWayTo 9 = .ok (.imul, 1) := by decide +kernel
theorem d_Automaton_firstWayTo_10 : decode b_Automaton_firstWayTo 10 = .ok (.if_icmp .ge 30, 3) := by decide +kernel
theorem d_Automaton_firstWayTo_13 : decode b_Automaton_firstWayTo 13 = .ok (.aload_n 0, 1) := by decide +kernel
theorem d_Automaton_firstWayTo_14 : decode b_Automaton_firstWayTo 14 = .ok (.getfield 9, 3) := by decide +kernel
theorem d_Automaton_firstWayTo_17 : decode b_Automaton_firstWayTo 17 = .ok (.iload_n 2, 1) := by decide +kernel
theorem d_Automaton_firstWayTo_18 : decode b_Automaton_firstWayTo 18 = .ok (.iaload, 1) := by decide +kernel
theorem d_Automaton_firstWayTo_19 : decode b_Automaton_firstWayTo 19 = .ok (.iload_n 1, 1) := by decide +kernel
theorem d_Automaton_firstWayTo_20 : decode b_Automaton_firstWayTo 20 = .ok (.if_icmp .ne 14, 3) := by decide +kernel
theorem d_Automaton_firstWayTo_23 : decode b_Automaton_firstWayTo 23 = .ok (.iload_n 2, 1) := by decide +kernel
theorem d_Automaton_firstWayTo_24 : decode b_Automaton_firstWayTo 24 = .ok (.bipush 10, 2) := by decide +kernel
theorem d_Automaton_firstWayTo_26 : decode b_Automaton_firstWayTo 26 = .ok (.irem, 1) := by decide +kernel
theorem d_Automaton_firstWayTo_27 : decode b_Automaton_firstWayTo 27 = .ok (.bipush 9, 2) := by decide +kernel
theorem d_Automaton_firstWayTo_29 : decode b_Automaton_firstWayTo 29 = .ok (.if_icmp .ge 5, 3) := by decide +kernel
theorem d_Automaton_firstWayTo_32 : decode b_Automaton_firstWayTo 32 = .ok (.iload_n 2, 1) := by decide +kernel
theorem d_Automaton_firstWayTo_33 : decode b_Automaton_firstWayTo 33 = .ok (.ireturn, 1) := by decide +kernel
theorem d_Automaton_firstWayTo_34 : decode b_Automaton_firstWayTo 34 = .ok (.iinc 2 1, 3) := by decide +kernel
theorem d_Automaton_firstWayTo_37 : decode b_Automaton_firstWayTo 37 = .ok (.goto (-35), 3) := by decide +kernel
theorem d_Automaton_firstWayTo_40 : decode b_Automaton_firstWayTo 40 = .ok (.iconst 0, 1) := by decide +kernel
theorem d_Automaton_firstWayTo_41 : decode b_Automaton_firstWayTo 41 = .ok (.ireturn, 1) := by decide +kernel
theorem d_Automaton_letterOfShortest_0 : decode b_Automaton_letterOfShortest 0 = .ok (.iconst 0, 1) := by decide +kernel
theorem d_Automaton_letterOfShortest_1 : decode b_Automaton_letterOfShortest 1 = .ok (.istore_n 2, 1) := by decide +kernel
theorem d_Automaton_letterOfShortest_2 : decode b_Automaton_letterOfShortest 2 = .ok (.iload_n 2, 1) := by decide +kernel
theorem d_Automaton_letterOfShortest_3 : decode b_Automaton_letterOfShortest 3 = .ok (.aload_n 0, 1) := by decide +kernel
theorem d_Automaton_letterOfShortest_4 : decode b_Automaton_letterOfShortest 4 = .ok (.getfield 26, 3) := by decide +kernel
theorem d_Automaton_letterOfShortest_7 : decode b_Automaton_letterOfShortest 7 = .ok (.iconst 1, 1) := by decide +kernel
theorem d_Automaton_letterOfShortest_8 : decode b_Automaton_letterOfShortest 8 = .ok (.isub, 1) := by decide +kernel
theorem d_Automaton_letterOfShortest_9 : decode b_Automaton_letterOfShortest 9 = .ok (.if_icmp .ge 19, 3) := by decide +kernel
theorem d_Automaton_letterOfShortest_12 : decode b_Automaton_letterOfShortest 12 = .ok (.aload_n 0, 1) := by decide +kernel
theorem d_Automaton_letterOfShortest_13 : decode b_Automaton_letterOfShortest 13 = .ok (.iload_n 2, 1) := by decide +kernel
theorem d_Automaton_letterOfShortest_14 : decode b_Automaton_letterOfShortest 14 = .ok (.bipush 9, 2) := by decide +kernel
theorem d_Automaton_letterOfShortest_16 : decode b_Automaton_letterOfShortest 16 = .ok (.invokevirtual 30, 3) := by decide +kernel
theorem d_Automaton_letterOfShortest_19 : decode b_Automaton_letterOfShortest 19 = .ok (.ifCond .ne 9, 3) := by decide +kernel
theorem d_Automaton_letterOfShortest_22 : decode b_Automaton_letterOfShortest 22 = .ok (.iinc 2 1, 3) := by decide +kernel
theorem d_Automaton_letterOfShortest_25 : decode b_Automaton_letterOfShortest 25 = .ok (.goto (-23), 3) := by decide +kernel
theorem d_Automaton_letterOfShortest_28 : decode b_Automaton_letterOfShortest 28 = .ok (.iconst 0, 1) := by decide +kernel
theorem d_Automaton_letterOfShortest_29 : decode b_Automaton_letterOfShortest 29 = .ok (.istore_n 3, 1) := by decide +kernel
theorem d_Automaton_letterOfShortest_30 : decode b_Automaton_letterOfShortest 30 = .ok (.iload_n 2, 1) := by decide +kernel
theorem d_Automaton_letterOfShortest_31 : decode b_Automaton_letterOfShortest 31 = .ok (.istore 4, 2) := by decide +kernel
theorem d_Automaton_letterOfShortest_33 : decode b_Automaton_letterOfShortest 33 = .ok (.iload 4, 2) := by decide +kernel
theorem d_Automaton_letterOfShortest_35 : decode b_Automaton_letterOfShortest 35 = .ok (.ifCond .le 28, 3) := by decide +kernel
theorem d_Automaton_letterOfShortest_38 : decode b_Automaton_letterOfShortest 38 = .ok (.iload_n 3, 1) := by decide +kernel
theorem d_Automaton_letterOfShortest_39 : decode b_Automaton_letterOfShortest 39 = .ok (.aload_n 0, 1) := by decide +kernel
theorem d_Automaton_letterOfShortest_40 : decode b_Automaton_letterOfShortest 40 = .ok (.getfield 26, 3) := by decide +kernel
theorem d_Automaton_letterOfShortest_43 : decode b_Automaton_letterOfShortest 43 = .ok (.if_icmp .ge 20, 3) := by decide +kernel
theorem d_Automaton_letterOfShortest_46 : decode b_Automaton_letterOfShortest 46 = .ok (.iinc 3 1, 3) := by decide +kernel
theorem d_Automaton_letterOfShortest_49 : decode b_Automaton_letterOfShortest 49 = .ok (.aload_n 0, 1) := by decide +kernel
theorem d_Automaton_letterOfShortest_50 : decode b_Automaton_letterOfShortest 50 = .ok (.iload 4, 2) := by decide +kernel
theorem d_Automaton_letterOfShortest_52 : decode b_Automaton_letterOfShortest 52 = .ok (.invokevirtual 33, 3) := by decide +kernel
theorem d_Automaton_letterOfShortest_55 : decode b_Automaton_letterOfShortest 55 = .ok (.bipush 10, 2) := by decide +kernel
theorem d_Automaton_letterOfShortest_57 : decode b_Automaton_letterOfShortest 57 = .ok (.idiv, 1) := by decide +kernel
theorem d_Automaton_letterOfShortest_58 : decode b_Automaton_letterOfShortest 58 = .ok (.istore 4, 2) := by decide +kernel
theorem d_Automaton_letterOfShortest_60 : decode b_Automaton_letterOfShortest 60 = .ok (.goto (-27), 3) := by decide +kernel
theorem d_Automaton_letterOfShortest_63 : decode b_Automaton_letterOfShortest 63 = .ok (.iload_n 1, 1) := by decide +kernel
theorem d_Automaton_letterOfShortest_64 : decode b_Automaton_letterOfShortest 64 = .ok (.iload_n 3, 1) := by decide +kernel
theorem d_Automaton_letterOfShortest_65 : decode b_Automaton_letterOfShortest 65 = .ok (.if_icmp .lt 6, 3) := by decide +kernel
theorem d_Automaton_letterOfShortest_68 : decode b_Automaton_letterOfShortest 68 = .ok (.bipush (-2), 2) := by decide +kernel
theorem d_Automaton_letterOfShortest_70 : decode b_Automaton_letterOfShortest 70 = .ok (.ireturn, 1) := by decide +kernel
theorem d_Automaton_letterOfShortest_71 : decode b_Automaton_letterOfShortest 71 = .ok (.aload_n 0, 1) := by decide +kernel
theorem d_Automaton_letterOfShortest_72 : decode b_Automaton_letterOfShortest 72 = .ok (.iload_n 2, 1) := by decide +kernel
theorem d_Automaton_letterOfShortest_73 : decode b_Automaton_letterOfShortest 73 = .ok (.invokevirtual 33, 3) := by decide +kernel
theorem d_Automaton_letterOfShortest_76 : decode b_Automaton_letterOfShortest 76 = .ok (.istore 4, 2) := by decide +kernel
theorem d_Automaton_letterOfShortest_78 : decode b_Automaton_letterOfShortest 78 = .ok (.iload_n 3, 1) := by decide +kernel
theorem d_Automaton_letterOfShortest_79 : decode b_Automaton_letterOfShortest 79 = .ok (.iconst 1, 1) := by decide +kernel
theorem d_Automaton_letterOfShortest_80 : decode b_Automaton_letterOfShortest 80 = .ok (.isub, 1) := by decide +kernel
theorem d_Automaton_letterOfShortest_81 : decode b_Automaton_letterOfShortest 81 = .ok (.istore 5, 2) := by decide +kernel
theorem d_Automaton_letterOfShortest_83 : decode b_Automaton_letterOfShortest 83 = .ok (.iload 5, 2) := by decide +kernel
theorem d_Automaton_letterOfShortest_85 : decode b_Automaton_letterOfShortest 85 = .ok (.iload_n 1, 1) := by decide +kernel
theorem d_Automaton_letterOfShortest_86 : decode b_Automaton_letterOfShortest 86 = .ok (.if_icmp .le 20, 3) := by decide +kernel
theorem d_Automaton_letterOfShortest_89 : decode b_Automaton_letterOfShortest 89 = .ok (.aload_n 0, 1) := by decide +kernel
theorem d_Automaton_letterOfShortest_90 : decode b_Automaton_letterOfShortest 90 = .ok (.iload 4, 2) := by decide +kernel
theorem d_Automaton_letterOfShortest_92 : decode b_Automaton_letterOfShortest 92 = .ok (.bipush 10, 2) := by decide +kernel
theorem d_Automaton_letterOfShortest_94 : decode b_Automaton_letterOfShortest 94 = .ok (.idiv, 1) := by decide +kernel
theorem d_Automaton_letterOfShortest_95 : decode b_Automaton_letterOfShortest 95 = .ok (.invokevirtual 33, 3) := by decide +kernel
theorem d_Automaton_letterOfShortest_98 : decode b_Automaton_letterOfShortest 98 = .ok (.istore 4, 2) := by decide +kernel
theorem d_Automaton_letterOfShortest_100 : decode b_Automaton_letterOfShortest 100 = .ok (.iinc 5 (-1), 3) := by decide +kernel
theorem d_Automaton_letterOfShortest_103 : decode b_Automaton_letterOfShortest 103 = .ok (.goto (-20), 3) := by decide +kernel
theorem d_Automaton_letterOfShortest_106 : decode b_Automaton_letterOfShortest 106 = .ok (.iload 4, 2) := by decide +kernel
theorem d_Automaton_letterOfShortest_108 : decode b_Automaton_letterOfShortest 108 = .ok (.bipush 10, 2) := by decide +kernel
theorem d_Automaton_letterOfShortest_110 : decode b_Automaton_letterOfShortest 110 = .ok (.irem, 1) := by decide +kernel
theorem d_Automaton_letterOfShortest_111 : decode b_Automaton_letterOfShortest 111 = .ok (.ireturn, 1) := by decide +kernel
theorem d_AutomatonMaker_init_0 : decode b_AutomatonMaker_init 0 = .ok (.aload_n 0, 1) := by decide +kernel
theorem d_AutomatonMaker_init_1 : decode b_AutomatonMaker_init 1 = .ok (.invokespecial 5, 3) := by decide +kernel
theorem d_AutomatonMaker_init_4 : decode b_AutomatonMaker_init 4 = .ok (.aload_n 0, 1) := by decide +kernel
theorem d_AutomatonMaker_init_5 : decode b_AutomatonMaker_init 5 = .ok (.sipush 1025, 3) := by decide +kernel
theorem d_AutomatonMaker_init_8 : decode b_AutomatonMaker_init 8 = .ok (.newarray .int, 2) := by decide +kernel
theorem d_AutomatonMaker_init_10 : decode b_AutomatonMaker_init 10 = .ok (.putfield 13, 3) := by decide +kernel
theorem d_AutomatonMaker_init_13 : decode b_AutomatonMaker_init 13 = .ok (.aload_n 0, 1) := by decide +kernel
theorem d_AutomatonMaker_init_14 : decode b_AutomatonMaker_init 14 = .ok (.sipush 1025, 3) := by decide +kernel
theorem d_AutomatonMaker_init_17 : decode b_AutomatonMaker_init 17 = .ok (.newarray .int, 2) := by decide +kernel
theorem d_AutomatonMaker_init_19 : decode b_AutomatonMaker_init 19 = .ok (.putfield 17, 3) := by decide +kernel
theorem d_AutomatonMaker_init_22 : decode b_AutomatonMaker_init 22 = .ok (.aload_n 0, 1) := by decide +kernel
theorem d_AutomatonMaker_init_23 : decode b_AutomatonMaker_init 23 = .ok (.sipush 9225, 3) := by decide +kernel
theorem d_AutomatonMaker_init_26 : decode b_AutomatonMaker_init 26 = .ok (.newarray .int, 2) := by decide +kernel
theorem d_AutomatonMaker_init_28 : decode b_AutomatonMaker_init 28 = .ok (.putfield 20, 3) := by decide +kernel
theorem d_AutomatonMaker_init_31 : decode b_AutomatonMaker_init 31 = .ok (.aload_n 0, 1) := by decide +kernel
theorem d_AutomatonMaker_init_32 : decode b_AutomatonMaker_init 32 = .ok (.sipush 2048, 3) := by decide +kernel
theorem d_AutomatonMaker_init_35 : decode b_AutomatonMaker_init 35 = .ok (.newarray .int, 2) := by decide +kernel
theorem d_AutomatonMaker_init_37 : decode b_AutomatonMaker_init 37 = .ok (.putfield 23, 3) := by decide +kernel
theorem d_AutomatonMaker_init_40 : decode b_AutomatonMaker_init 40 = .ok (.aload_n 0, 1) := by decide +kernel
theorem d_AutomatonMaker_init_41 : decode b_AutomatonMaker_init 41 = .ok (.sipush 1025, 3) := by decide +kernel
theorem d_AutomatonMaker_init_44 : decode b_AutomatonMaker_init 44 = .ok (.newarray .int, 2) := by decide +kernel
theorem d_AutomatonMaker_init_46 : decode b_AutomatonMaker_init 46 = .ok (.putfield 26, 3) := by decide +kernel
theorem d_AutomatonMaker_init_49 : decode b_AutomatonMaker_init 49 = .ok (.aload_n 0, 1) := by decide +kernel
theorem d_AutomatonMaker_init_50 : decode b_AutomatonMaker_init 50 = .ok (.sipush 1025, 3) := by decide +kernel
theorem d_AutomatonMaker_init_53 : decode b_AutomatonMaker_init 53 = .ok (.newarray .int, 2) := by decide +kernel
theorem d_AutomatonMaker_init_55 : decode b_AutomatonMaker_init 55 = .ok (.putfield 29, 3) := by decide +kernel
theorem d_AutomatonMaker_init_58 : decode b_AutomatonMaker_init 58 = .ok (.aload_n 0, 1) := by decide +kernel
theorem d_AutomatonMaker_init_59 : decode b_AutomatonMaker_init 59 = .ok (.sipush 1025, 3) := by decide +kernel
theorem d_AutomatonMaker_init_62 : decode b_AutomatonMaker_init 62 = .ok (.newarray .long, 2) := by decide +kernel
theorem d_AutomatonMaker_init_64 : decode b_AutomatonMaker_init 64 = .ok (.putfield 32, 3) := by decide +kernel
theorem d_AutomatonMaker_init_67 : decode b_AutomatonMaker_init 67 = .ok (.aload_n 0, 1) := by decide +kernel
theorem d_AutomatonMaker_init_68 : decode b_AutomatonMaker_init 68 = .ok (.sipush 1025, 3) := by decide +kernel
theorem d_AutomatonMaker_init_71 : decode b_AutomatonMaker_init 71 = .ok (.newarray .long, 2) := by decide +kernel
theorem d_AutomatonMaker_init_73 : decode b_AutomatonMaker_init 73 = .ok (.putfield 36, 3) := by decide +kernel
theorem d_AutomatonMaker_init_76 : decode b_AutomatonMaker_init 76 = .ok (.return_, 1) := by decide +kernel
theorem d_AutomatonMaker_numberOf_0 : decode b_AutomatonMaker_numberOf 0 = .ok (.aload_n 0, 1) := by decide +kernel
theorem d_AutomatonMaker_numberOf_1 : decode b_AutomatonMaker_numberOf 1 = .ok (.getfield 17, 3) := by decide +kernel
theorem d_AutomatonMaker_numberOf_4 : decode b_AutomatonMaker_numberOf 4 = .ok (.iload_n 1, 1) := by decide +kernel
theorem d_AutomatonMaker_numberOf_5 : decode b_AutomatonMaker_numberOf 5 = .ok (.iaload, 1) := by decide +kernel
theorem d_AutomatonMaker_numberOf_6 : decode b_AutomatonMaker_numberOf 6 = .ok (.ifCond .ne 43, 3) := by decide +kernel
theorem d_AutomatonMaker_numberOf_9 : decode b_AutomatonMaker_numberOf 9 = .ok (.aload_n 0, 1) := by decide +kernel
theorem d_AutomatonMaker_numberOf_10 : decode b_AutomatonMaker_numberOf 10 = .ok (.getfield 47, 3) := by decide +kernel
theorem d_AutomatonMaker_numberOf_13 : decode b_AutomatonMaker_numberOf 13 = .ok (.sipush 1025, 3) := by decide +kernel
theorem d_AutomatonMaker_numberOf_16 : decode b_AutomatonMaker_numberOf 16 = .ok (.if_icmp .ge 33, 3) := by decide +kernel
theorem d_AutomatonMaker_numberOf_19 : decode b_AutomatonMaker_numberOf 19 = .ok (.aload_n 0, 1) := by decide +kernel
theorem d_AutomatonMaker_numberOf_20 : decode b_AutomatonMaker_numberOf 20 = .ok (.getfield 13, 3) := by decide +kernel
theorem d_AutomatonMaker_numberOf_23 : decode b_AutomatonMaker_numberOf 23 = .ok (.aload_n 0, 1) := by decide +kernel
theorem d_AutomatonMaker_numberOf_24 : decode b_AutomatonMaker_numberOf 24 = .ok (.getfield 47, 3) := by decide +kernel
theorem d_AutomatonMaker_numberOf_27 : decode b_AutomatonMaker_numberOf 27 = .ok (.iload_n 1, 1) := by decide +kernel
theorem d_AutomatonMaker_numberOf_28 : decode b_AutomatonMaker_numberOf 28 = .ok (.iastore, 1) := by decide +kernel
theorem d_AutomatonMaker_numberOf_29 : decode b_AutomatonMaker_numberOf 29 = .ok (.aload_n 0, 1) := by decide +kernel
theorem d_AutomatonMaker_numberOf_30 : decode b_AutomatonMaker_numberOf 30 = .ok (.dup, 1) := by decide +kernel
theorem d_AutomatonMaker_numberOf_31 : decode b_AutomatonMaker_numberOf 31 = .ok (.getfield 47, 3) := by decide +kernel
theorem d_AutomatonMaker_numberOf_34 : decode b_AutomatonMaker_numberOf 34 = .ok (.iconst 1, 1) := by decide +kernel
theorem d_AutomatonMaker_numberOf_35 : decode b_AutomatonMaker_numberOf 35 = .ok (.iadd, 1) := by decide +kernel
theorem d_AutomatonMaker_numberOf_36 : decode b_AutomatonMaker_numberOf 36 = .ok (.putfield 47, 3) := by decide +kernel
theorem d_AutomatonMaker_numberOf_39 : decode b_AutomatonMaker_numberOf 39 = .ok (.aload_n 0, 1) := by decide +kernel
theorem d_AutomatonMaker_numberOf_40 : decode b_AutomatonMaker_numberOf 40 = .ok (.getfield 17, 3) := by decide +kernel
theorem d_AutomatonMaker_numberOf_43 : decode b_AutomatonMaker_numberOf 43 = .ok (.iload_n 1, 1) := by decide +kernel
theorem d_AutomatonMaker_numberOf_44 : decode b_AutomatonMaker_numberOf 44 = .ok (.aload_n 0, 1) := by decide +kernel
theorem d_AutomatonMaker_numberOf_45 : decode b_AutomatonMaker_numberOf 45 = .ok (.getfield 47, 3) := by decide +kernel
theorem d_AutomatonMaker_numberOf_48 : decode b_AutomatonMaker_numberOf 48 = .ok (.iastore, 1) := by decide +kernel
theorem d_AutomatonMaker_numberOf_49 : decode b_AutomatonMaker_numberOf 49 = .ok (.iconst 0, 1) := by decide +kernel
theorem d_AutomatonMaker_numberOf_50 : decode b_AutomatonMaker_numberOf 50 = .ok (.aload_n 0, 1) := by decide +kernel
theorem d_AutomatonMaker_numberOf_51 : decode b_AutomatonMaker_numberOf 51 = .ok (.getfield 17, 3) := by decide +kernel
theorem d_AutomatonMaker_numberOf_54 : decode b_AutomatonMaker_numberOf 54 = .ok (.iload_n 1, 1) := by decide +kernel
theorem d_AutomatonMaker_numberOf_55 : decode b_AutomatonMaker_numberOf 55 = .ok (.iaload, 1) := by decide +kernel
theorem d_AutomatonMaker_numberOf_56 : decode b_AutomatonMaker_numberOf 56 = .ok (.iconst 1, 1) := by decide +kernel
theorem d_AutomatonMaker_numberOf_57 : decode b_AutomatonMaker_numberOf 57 = .ok (.isub, 1) := by decide +kernel
theorem d_AutomatonMaker_numberOf_58 : decode b_AutomatonMaker_numberOf 58 = .ok (.invokestatic 72, 3) := by decide +kernel
theorem d_AutomatonMaker_numberOf_61 : decode b_AutomatonMaker_numberOf 61 = .ok (.ireturn, 1) := by decide +kernel
theorem d_Positions_after_0 : decode b_Positions_after 0 = .ok (.aload_n 0, 1) := by decide +kernel
theorem d_Positions_after_1 : decode b_Positions_after 1 = .ok (.getfield 18, 3) := by decide +kernel
theorem d_Positions_after_4 : decode b_Positions_after 4 = .ok (.iload_n 1, 1) := by decide +kernel
theorem d_Positions_after_5 : decode b_Positions_after 5 = .ok (.bipush 31, 2) := by decide +kernel
theorem d_Positions_after_7 : decode b_Positions_after 7 = .ok (.iand, 1) := by decide +kernel
theorem d_Positions_after_8 : decode b_Positions_after 8 = .ok (.iaload, 1) := by decide +kernel
theorem d_Positions_after_9 : decode b_Positions_after 9 = .ok (.aload_n 0, 1) := by decide +kernel
theorem d_Positions_after_10 : decode b_Positions_after 10 = .ok (.getfield 21, 3) := by decide +kernel
theorem d_Positions_after_13 : decode b_Positions_after 13 = .ok (.iload_n 1, 1) := by decide +kernel
theorem d_Positions_after_14 : decode b_Positions_after 14 = .ok (.iconst 5, 1) := by decide +kernel
theorem d_Positions_after_15 : decode b_Positions_after 15 = .ok (.ishr, 1) := by decide +kernel
theorem d_Positions_after_16 : decode b_Positions_after 16 = .ok (.bipush 31, 2) := by decide +kernel
theorem d_Positions_after_18 : decode b_Positions_after 18 = .ok (.iand, 1) := by decide +kernel
theorem d_Positions_after_19 : decode b_Positions_after 19 = .ok (.iaload, 1) := by decide +kernel
theorem d_Positions_after_20 : decode b_Positions_after 20 = .ok (.ior, 1) := by decide +kernel
theorem d_Positions_after_21 : decode b_Positions_after 21 = .ok (.ireturn, 1) := by decide +kernel
theorem d_AutomatonMaker_explore_0 : decode b_AutomatonMaker_explore 0 = .ok (.iconst 0, 1) := by decide +kernel
theorem d_AutomatonMaker_explore_1 : decode b_AutomatonMaker_explore 1 = .ok (.istore_n 2, 1) := by decide +kernel
theorem d_AutomatonMaker_explore_2 : decode b_AutomatonMaker_explore 2 = .ok (.iload_n 2, 1) := by decide +kernel
theorem d_AutomatonMaker_explore_3 : decode b_AutomatonMaker_explore 3 = .ok (.sipush 1025, 3) := by decide +kernel
theorem d_AutomatonMaker_explore_6 : decode b_AutomatonMaker_explore 6 = .ok (.if_icmp .ge 16, 3) := by decide +kernel
theorem d_AutomatonMaker_explore_9 : decode b_AutomatonMaker_explore 9 = .ok (.aload_n 0, 1) := by decide +kernel
theorem d_AutomatonMaker_explore_10 : decode b_AutomatonMaker_explore 10 = .ok (.getfield 17, 3) := by decide +kernel
theorem d_AutomatonMaker_explore_13 : decode b_AutomatonMaker_explore 13 = .ok (.iload_n 2, 1) := by decide +kernel
theorem d_AutomatonMaker_explore_14 : decode b_AutomatonMaker_explore 14 = .ok (.iconst 0, 1) := by decide +kernel
theorem d_AutomatonMaker_explore_15 : decode b_AutomatonMaker_explore 15 = .ok (.iastore, 1) := by decide +kernel
theorem d_AutomatonMaker_explore_16 : decode b_AutomatonMaker_explore 16 = .ok (.iinc 2 1, 3) := by decide +kernel
theorem d_AutomatonMaker_explore_19 : decode b_AutomatonMaker_explore 19 = .ok (.goto (-17), 3) := by decide +kernel
theorem d_AutomatonMaker_explore_22 : decode b_AutomatonMaker_explore 22 = .ok (.aload_n 0, 1) := by decide +kernel
theorem d_AutomatonMaker_explore_23 : decode b_AutomatonMaker_explore 23 = .ok (.iconst 0, 1) := by decide +kernel
theorem d_AutomatonMaker_explore_24 : decode b_AutomatonMaker_explore 24 = .ok (.putfield 47, 3) := by decide +kernel
theorem d_AutomatonMaker_explore_27 : decode b_AutomatonMaker_explore 27 = .ok (.aload_n 0, 1) := by decide +kernel
theorem d_AutomatonMaker_explore_28 : decode b_AutomatonMaker_explore 28 = .ok (.sipush 1024, 3) := by decide +kernel
theorem d_AutomatonMaker_explore_31 : decode b_AutomatonMaker_explore 31 = .ok (.invokevirtual 59, 3) := by decide +kernel
theorem d_AutomatonMaker_explore_34 : decode b_AutomatonMaker_explore 34 = .ok (.pop, 1) := by decide +kernel
theorem d_AutomatonMaker_explore_35 : decode b_AutomatonMaker_explore 35 = .ok (.iconst 0, 1) := by decide +kernel
theorem d_AutomatonMaker_explore_36 : decode b_AutomatonMaker_explore 36 = .ok (.istore_n 2, 1) := by decide +kernel
theorem d_AutomatonMaker_explore_37 : decode b_AutomatonMaker_explore 37 = .ok (.iload_n 2, 1) := by decide +kernel
theorem d_AutomatonMaker_explore_38 : decode b_AutomatonMaker_explore 38 = .ok (.aload_n 0, 1) := by decide +kernel
theorem d_AutomatonMaker_explore_39 : decode b_AutomatonMaker_explore 39 = .ok (.getfield 47, 3) := by decide +kernel
theorem d_AutomatonMaker_explore_42 : decode b_AutomatonMaker_explore 42 = .ok (.if_icmp .ge 87, 3) := by decide +kernel
theorem d_AutomatonMaker_explore_45 : decode b_AutomatonMaker_explore 45 = .ok (.iload_n 2, 1) := by decide +kernel
theorem d_AutomatonMaker_explore_46 : decode b_AutomatonMaker_explore 46 = .ok (.sipush 1025, 3) := by decide +kernel
theorem d_AutomatonMaker_explore_49 : decode b_AutomatonMaker_explore 49 = .ok (.if_icmp .ge 80, 3) := by decide +kernel
theorem d_AutomatonMaker_explore_52 : decode b_AutomatonMaker_explore 52 = .ok (.aload_n 0, 1) := by decide +kernel
theorem d_AutomatonMaker_explore_53 : decode b_AutomatonMaker_explore 53 = .ok (.getfield 13, 3) := by decide +kernel
theorem d_AutomatonMaker_explore_56 : decode b_AutomatonMaker_explore 56 = .ok (.iload_n 2, 1) := by decide +kernel
theorem d_AutomatonMaker_explore_57 : decode b_AutomatonMaker_explore 57 = .ok (.iaload, 1) := by decide +kernel
theorem d_AutomatonMaker_explore_58 : decode b_AutomatonMaker_explore 58 = .ok (.sipush 1024, 3) := by decide +kernel
theorem d_AutomatonMaker_explore_61 : decode b_AutomatonMaker_explore 61 = .ok (.if_icmp .ne 10, 3) := by decide +kernel
theorem d_AutomatonMaker_explore_64 : decode b_AutomatonMaker_explore 64 = .ok (.aload_n 1, 1) := by decide +kernel
theorem d_AutomatonMaker_explore_65 : decode b_AutomatonMaker_explore 65 = .ok (.getfield 63, 3) := by decide +kernel
theorem d_AutomatonMaker_explore_68 : decode b_AutomatonMaker_explore 68 = .ok (.goto 13, 3) := by decide +kernel
theorem d_AutomatonMaker_explore_71 : decode b_AutomatonMaker_explore 71 = .ok (.aload_n 1, 1) := by decide +kernel
theorem d_AutomatonMaker_explore_72 : decode b_AutomatonMaker_explore 72 = .ok (.aload_n 0, 1) := by decide +kernel
theorem d_AutomatonMaker_explore_73 : decode b_AutomatonMaker_explore 73 = .ok (.getfield 13, 3) := by decide +kernel
theorem d_AutomatonMaker_explore_76 : decode b_AutomatonMaker_explore 76 = .ok (.iload_n 2, 1) := by decide +kernel
theorem d_AutomatonMaker_explore_77 : decode b_AutomatonMaker_explore 77 = .ok (.iaload, 1) := by decide +kernel
theorem d_AutomatonMaker_explore_78 : decode b_AutomatonMaker_explore 78 = .ok (.invokevirtual 66, 3) := by decide +kernel
theorem d_AutomatonMaker_explore_81 : decode b_AutomatonMaker_explore 81 = .ok (.istore_n 3, 1) := by decide +kernel
theorem d_AutomatonMaker_explore_82 : decode b_AutomatonMaker_explore 82 = .ok (.iconst 0, 1) := by decide +kernel
theorem d_AutomatonMaker_explore_83 : decode b_AutomatonMaker_explore 83 = .ok (.istore 4, 2) := by decide +kernel
theorem d_AutomatonMaker_explore_85 : decode b_AutomatonMaker_explore 85 = .ok (.iload 4, 2) := by decide +kernel
theorem d_AutomatonMaker_explore_87 : decode b_AutomatonMaker_explore 87 = .ok (.bipush 9, 2) := by decide +kernel
theorem d_AutomatonMaker_explore_89 : decode b_AutomatonMaker_explore 89 = .ok (.if_icmp .ge 34, 3) := by decide +kernel
theorem d_AutomatonMaker_explore_92 : decode b_AutomatonMaker_explore 92 = .ok (.aload_n 0, 1) := by decide +kernel
theorem d_AutomatonMaker_explore_93 : decode b_AutomatonMaker_explore 93 = .ok (.getfield 20, 3) := by decide +kernel
theorem d_AutomatonMaker_explore_96 : decode b_AutomatonMaker_explore 96 = .ok (.iload_n 2, 1) := by decide +kernel
theorem d_AutomatonMaker_explore_97 : decode b_AutomatonMaker_explore 97 = .ok (.bipush 9, 2) := by decide +kernel
theorem d_AutomatonMaker_explore_99 : decode b_AutomatonMaker_explore 99 = .ok (.imul, 1) := by decide +kernel
theorem d_AutomatonMaker_explore_100 : decode b_AutomatonMaker_explore 100 = .ok (.iload 4, 2) := by decide +kernel
theorem d_AutomatonMaker_explore_102 : decode b_AutomatonMaker_explore 102 = .ok (.iadd, 1) := by decide +kernel
theorem d_AutomatonMaker_explore_103 : decode b_AutomatonMaker_explore 103 = .ok (.aload_n 0, 1) := by decide +kernel
theorem d_AutomatonMaker_explore_104 : decode b_AutomatonMaker_explore 104 = .ok (.iload_n 3, 1) := by decide +kernel
theorem d_AutomatonMaker_explore_105 : decode b_AutomatonMaker_explore 105 = .ok (.aload_n 1, 1) := by decide +kernel
theorem d_AutomatonMaker_explore_106 : decode b_AutomatonMaker_explore 106 = .ok (.getfield 69, 3) := by decide +kernel
theorem d_AutomatonMaker_explore_109 : decode b_AutomatonMaker_explore 109 = .ok (.iload 4, 2) := by decide +kernel
theorem d_AutomatonMaker_explore_111 : decode b_AutomatonMaker_explore 111 = .ok (.iaload, 1) := by decide +kernel
theorem d_AutomatonMaker_explore_112 : decode b_AutomatonMaker_explore 112 = .ok (.iand, 1) := by decide +kernel
theorem d_AutomatonMaker_explore_113 : decode b_AutomatonMaker_explore 113 = .ok (.invokevirtual 59, 3) := by decide +kernel
theorem d_AutomatonMaker_explore_116 : decode b_AutomatonMaker_explore 116 = .ok (.iastore, 1) := by decide +kernel
theorem d_AutomatonMaker_explore_117 : decode b_AutomatonMaker_explore 117 = .ok (.iinc 4 1, 3) := by decide +kernel
theorem d_AutomatonMaker_explore_120 : decode b_AutomatonMaker_explore 120 = .ok (.goto (-35), 3) := by decide +kernel
theorem d_AutomatonMaker_explore_123 : decode b_AutomatonMaker_explore 123 = .ok (.iinc 2 1, 3) := by decide +kernel
theorem d_AutomatonMaker_explore_126 : decode b_AutomatonMaker_explore 126 = .ok (.goto (-89), 3) := by decide +kernel
theorem d_AutomatonMaker_explore_129 : decode b_AutomatonMaker_explore 129 = .ok (.return_, 1) := by decide +kernel
theorem d_AutomatonMaker_mayEnd_0 : decode b_AutomatonMaker_mayEnd 0 = .ok (.aload_n 0, 1) := by decide +kernel
theorem d_AutomatonMaker_mayEnd_1 : decode b_AutomatonMaker_mayEnd 1 = .ok (.getfield 13, 3) := by decide +kernel
theorem d_AutomatonMaker_mayEnd_4 : decode b_AutomatonMaker_mayEnd 4 = .ok (.iload_n 2, 1) := by decide +kernel
theorem d_AutomatonMaker_mayEnd_5 : decode b_AutomatonMaker_mayEnd 5 = .ok (.iaload, 1) := by decide +kernel
theorem d_AutomatonMaker_mayEnd_6 : decode b_AutomatonMaker_mayEnd 6 = .ok (.sipush 1024, 3) := by decide +kernel
theorem d_AutomatonMaker_mayEnd_9 : decode b_AutomatonMaker_mayEnd 9 = .ok (.if_icmp .ne 10, 3) := by decide +kernel
theorem d_AutomatonMaker_mayEnd_12 : decode b_AutomatonMaker_mayEnd 12 = .ok (.aload_n 1, 1) := by decide +kernel
theorem d_AutomatonMaker_mayEnd_13 : decode b_AutomatonMaker_mayEnd 13 = .ok (.getfield 78, 3) := by decide +kernel
theorem d_AutomatonMaker_mayEnd_16 : decode b_AutomatonMaker_mayEnd 16 = .ok (.goto 22, 3) := by decide +kernel
theorem d_AutomatonMaker_mayEnd_19 : decode b_AutomatonMaker_mayEnd 19 = .ok (.aload_n 0, 1) := by decide +kernel
theorem d_AutomatonMaker_mayEnd_20 : decode b_AutomatonMaker_mayEnd 20 = .ok (.getfield 13, 3) := by decide +kernel
theorem d_AutomatonMaker_mayEnd_23 : decode b_AutomatonMaker_mayEnd 23 = .ok (.iload_n 2, 1) := by decide +kernel
theorem d_AutomatonMaker_mayEnd_24 : decode b_AutomatonMaker_mayEnd 24 = .ok (.iaload, 1) := by decide +kernel
theorem d_AutomatonMaker_mayEnd_25 : decode b_AutomatonMaker_mayEnd 25 = .ok (.aload_n 1, 1) := by decide +kernel
theorem d_AutomatonMaker_mayEnd_26 : decode b_AutomatonMaker_mayEnd 26 = .ok (.getfield 82, 3) := by decide +kernel
theorem d_AutomatonMaker_mayEnd_29 : decode b_AutomatonMaker_mayEnd 29 = .ok (.iand, 1) := by decide +kernel
theorem d_AutomatonMaker_mayEnd_30 : decode b_AutomatonMaker_mayEnd 30 = .ok (.ifCond .eq 7, 3) := by decide +kernel
theorem d_AutomatonMaker_mayEnd_33 : decode b_AutomatonMaker_mayEnd 33 = .ok (.iconst 1, 1) := by decide +kernel
theorem d_AutomatonMaker_mayEnd_34 : decode b_AutomatonMaker_mayEnd 34 = .ok (.goto 4, 3) := by decide +kernel
theorem d_AutomatonMaker_mayEnd_37 : decode b_AutomatonMaker_mayEnd 37 = .ok (.iconst 0, 1) := by decide +kernel
theorem d_AutomatonMaker_mayEnd_38 : decode b_AutomatonMaker_mayEnd 38 = .ok (.ireturn, 1) := by decide +kernel
theorem d_AutomatonMaker_partByEnds_0 : decode b_AutomatonMaker_partByEnds 0 = .ok (.iconst 1, 1) := by decide +kernel
theorem d_AutomatonMaker_partByEnds_1 : decode b_AutomatonMaker_partByEnds 1 = .ok (.istore_n 2, 1) := by decide +kernel
theorem d_AutomatonMaker_partByEnds_2 : decode b_AutomatonMaker_partByEnds 2 = .ok (.iconst 0, 1) := by decide +kernel
theorem d_AutomatonMaker_partByEnds_3 : decode b_AutomatonMaker_partByEnds 3 = .ok (.istore_n 3, 1) := by decide +kernel
theorem d_AutomatonMaker_partByEnds_4 : decode b_AutomatonMaker_partByEnds 4 = .ok (.iload_n 3, 1) := by decide +kernel
theorem d_AutomatonMaker_partByEnds_5 : decode b_AutomatonMaker_partByEnds 5 = .ok (.aload_n 0, 1) := by decide +kernel
theorem d_AutomatonMaker_partByEnds_6 : decode b_AutomatonMaker_partByEnds 6 = .ok (.getfield 47, 3) := by decide +kernel
theorem d_AutomatonMaker_partByEnds_9 : decode b_AutomatonMaker_partByEnds 9 = .ok (.if_icmp .ge 48, 3) := by decide +kernel
theorem d_AutomatonMaker_partByEnds_12 : decode b_AutomatonMaker_partByEnds 12 = .ok (.aload_n 0, 1) := by decide +kernel
theorem d_AutomatonMaker_partByEnds_13 : decode b_AutomatonMaker_partByEnds 13 = .ok (.getfield 26, 3) := by decide +kernel
theorem d_AutomatonMaker_partByEnds_16 : decode b_AutomatonMaker_partByEnds 16 = .ok (.iload_n 3, 1) := by decide +kernel
theorem d_AutomatonMaker_partByEnds_17 : decode b_AutomatonMaker_partByEnds 17 = .ok (.aload_n 0, 1) := by decide +kernel
theorem d_AutomatonMaker_partByEnds_18 : decode b_AutomatonMaker_partByEnds 18 = .ok (.aload_n 1, 1) := by decide +kernel
theorem d_AutomatonMaker_partByEnds_19 : decode b_AutomatonMaker_partByEnds 19 = .ok (.iload_n 3, 1) := by decide +kernel
theorem d_AutomatonMaker_partByEnds_20 : decode b_AutomatonMaker_partByEnds 20 = .ok (.invokevirtual 85, 3) := by decide +kernel
theorem d_AutomatonMaker_partByEnds_23 : decode b_AutomatonMaker_partByEnds 23 = .ok (.aload_n 0, 1) := by decide +kernel
theorem d_AutomatonMaker_partByEnds_24 : decode b_AutomatonMaker_partByEnds 24 = .ok (.aload_n 1, 1) := by decide +kernel
theorem d_AutomatonMaker_partByEnds_25 : decode b_AutomatonMaker_partByEnds 25 = .ok (.iconst 0, 1) := by decide +kernel
theorem d_AutomatonMaker_partByEnds_26 : decode b_AutomatonMaker_partByEnds 26 = .ok (.invokevirtual 85, 3) := by decide +kernel
theorem d_AutomatonMaker_partByEnds_29 : decode b_AutomatonMaker_partByEnds 29 = .ok (.if_icmp .ne 7, 3) := by decide +kernel
theorem d_AutomatonMaker_partByEnds_32 : decode b_AutomatonMaker_partByEnds 32 = .ok (.iconst 0, 1) := by decide +kernel
theorem d_AutomatonMaker_partByEnds_33 : decode b_AutomatonMaker_partByEnds 33 = .ok (.goto 4, 3) := by decide +kernel
theorem d_AutomatonMaker_partByEnds_36 : decode b_AutomatonMaker_partByEnds 36 = .ok (.iconst 1, 1) := by decide +kernel
theorem d_AutomatonMaker_partByEnds_37 : decode b_AutomatonMaker_partByEnds 37 = .ok (.iastore, 1) := by decide +kernel
theorem d_AutomatonMaker_partByEnds_38 : decode b_AutomatonMaker_partByEnds 38 = .ok (.iload_n 2, 1) := by decide +kernel
theorem d_AutomatonMaker_partByEnds_39 : decode b_AutomatonMaker_partByEnds 39 = .ok (.aload_n 0, 1) := by decide +kernel
theorem d_AutomatonMaker_partByEnds_40 : decode b_AutomatonMaker_partByEnds 40 = .ok (.getfield 26, 3) := by decide +kernel
theorem d_AutomatonMaker_partByEnds_43 : decode b_AutomatonMaker_partByEnds 43 = .ok (.iload_n 3, 1) := by decide +kernel
theorem d_AutomatonMaker_partByEnds_44 : decode b_AutomatonMaker_partByEnds 44 = .ok (.iaload, 1) := by decide +kernel
theorem d_AutomatonMaker_partByEnds_45 : decode b_AutomatonMaker_partByEnds 45 = .ok (.iconst 1, 1) := by decide +kernel
theorem d_AutomatonMaker_partByEnds_46 : decode b_AutomatonMaker_partByEnds 46 = .ok (.iadd, 1) := by decide +kernel
theorem d_AutomatonMaker_partByEnds_47 : decode b_AutomatonMaker_partByEnds 47 = .ok (.invokestatic 72, 3) := by decide +kernel
theorem d_AutomatonMaker_partByEnds_50 : decode b_AutomatonMaker_partByEnds 50 = .ok (.istore_n 2, 1) := by decide +kernel
theorem d_AutomatonMaker_partByEnds_51 : decode b_AutomatonMaker_partByEnds 51 = .ok (.iinc 3 1, 3) := by decide +kernel
theorem d_AutomatonMaker_partByEnds_54 : decode b_AutomatonMaker_partByEnds 54 = .ok (.goto (-50), 3) := by decide +kernel
theorem d_AutomatonMaker_partByEnds_57 : decode b_AutomatonMaker_partByEnds 57 = .ok (.iload_n 2, 1) := by decide +kernel
theorem d_AutomatonMaker_partByEnds_58 : decode b_AutomatonMaker_partByEnds 58 = .ok (.ireturn, 1) := by decide +kernel
theorem d_AutomatonMaker_together_0 : decode b_AutomatonMaker_together 0 = .ok (.aload_n 0, 1) := by decide +kernel
theorem d_AutomatonMaker_together_1 : decode b_AutomatonMaker_together 1 = .ok (.getfield 26, 3) := by decide +kernel
theorem d_AutomatonMaker_together_4 : decode b_AutomatonMaker_together 4 = .ok (.iload_n 1, 1) := by decide +kernel
theorem d_AutomatonMaker_together_5 : decode b_AutomatonMaker_together 5 = .ok (.iaload, 1) := by decide +kernel
theorem d_AutomatonMaker_together_6 : decode b_AutomatonMaker_together 6 = .ok (.aload_n 0, 1) := by decide +kernel
theorem d_AutomatonMaker_together_7 : decode b_AutomatonMaker_together 7 = .ok (.getfield 26, 3) := by decide +kernel
theorem d_AutomatonMaker_together_10 : decode b_AutomatonMaker_together 10 = .ok (.iload_n 2, 1) := by decide +kernel
theorem d_AutomatonMaker_together_11 : decode b_AutomatonMaker_together 11 = .ok (.iaload, 1) := by decide +kernel
theorem d_AutomatonMaker_together_12 : decode b_AutomatonMaker_together 12 = .ok (.if_icmp .ne 7, 3) := by decide +kernel
theorem d_AutomatonMaker_together_15 : decode b_AutomatonMaker_together 15 = .ok (.iconst 1, 1) := by decide +kernel
theorem d_AutomatonMaker_together_16 : decode b_AutomatonMaker_together 16 = .ok (.goto 4, 3) := by decide +kernel
theorem d_AutomatonMaker_together_19 : decode b_AutomatonMaker_together 19 = .ok (.iconst 0, 1) := by decide +kernel
theorem d_AutomatonMaker_together_20 : decode b_AutomatonMaker_together 20 = .ok (.istore_n 3, 1) := by decide +kernel
theorem d_AutomatonMaker_together_21 : decode b_AutomatonMaker_together 21 = .ok (.iconst 0, 1) := by decide +kernel
theorem d_AutomatonMaker_together_22 : decode b_AutomatonMaker_together 22 = .ok (.istore 4, 2) := by decide +kernel
theorem d_AutomatonMaker_together_24 : decode b_AutomatonMaker_together 24 = .ok (.iload 4, 2) := by decide +kernel
theorem d_AutomatonMaker_together_26 : decode b_AutomatonMaker_together 26 = .ok (.bipush 9, 2) := by decide +kernel
theorem d_AutomatonMaker_together_28 : decode b_AutomatonMaker_together 28 = .ok (.if_icmp .ge 56, 3) := by decide +kernel
theorem d_AutomatonMaker_together_31 : decode b_AutomatonMaker_together 31 = .ok (.iload_n 3, 1) := by decide +kernel
theorem d_AutomatonMaker_together_32 : decode b_AutomatonMaker_together 32 = .ok (.ifCond .eq 52, 3) := by decide +kernel
theorem d_AutomatonMaker_together_35 : decode b_AutomatonMaker_together 35 = .ok (.aload_n 0, 1) := by decide +kernel
theorem d_AutomatonMaker_together_36 : decode b_AutomatonMaker_together 36 = .ok (.getfield 26, 3) := by decide +kernel
theorem d_AutomatonMaker_together_39 : decode b_AutomatonMaker_together 39 = .ok (.aload_n 0, 1) := by decide +kernel
theorem d_AutomatonMaker_together_40 : decode b_AutomatonMaker_together 40 = .ok (.getfield 20, 3) := by decide +kernel
theorem d_AutomatonMaker_together_43 : decode b_AutomatonMaker_together 43 = .ok (.iload_n 1, 1) := by decide +kernel
theorem d_AutomatonMaker_together_44 : decode b_AutomatonMaker_together 44 = .ok (.bipush 9, 2) := by decide +kernel
theorem d_AutomatonMaker_together_46 : decode b_AutomatonMaker_together 46 = .ok (.imul, 1) := by decide +kernel
theorem d_AutomatonMaker_together_47 : decode b_AutomatonMaker_together 47 = .ok (.iload 4, 2) := by decide +kernel
theorem d_AutomatonMaker_together_49 : decode b_AutomatonMaker_together 49 = .ok (.iadd, 1) := by decide +kernel
theorem d_AutomatonMaker_together_50 : decode b_AutomatonMaker_together 50 = .ok (.iaload, 1) := by decide +kernel
theorem d_AutomatonMaker_together_51 : decode b_AutomatonMaker_together 51 = .ok (.iaload, 1) := by decide +kernel
theorem d_AutomatonMaker_together_52 : decode b_AutomatonMaker_together 52 = .ok (.aload_n 0, 1) := by decide +kernel
theorem d_AutomatonMaker_together_53 : decode b_AutomatonMaker_together 53 = .ok (.getfield 26, 3) := by decide +kernel
theorem d_AutomatonMaker_together_56 : decode b_AutomatonMaker_together 56 = .ok (.aload_n 0, 1) := by decide +kernel
theorem d_AutomatonMaker_together_57 : decode b_AutomatonMaker_together 57 = .ok (.getfield 20, 3) := by decide +kernel
theorem d_AutomatonMaker_together_60 : decode b_AutomatonMaker_together 60 = .ok (.iload_n 2, 1) := by decide +kernel
theorem d_AutomatonMaker_together_61 : decode b_AutomatonMaker_together 61 = .ok (.bipush 9, 2) := by decide +kernel
theorem d_AutomatonMaker_together_63 : decode b_AutomatonMaker_together 63 = .ok (.imul, 1) := by decide +kernel
theorem d_AutomatonMaker_together_64 : decode b_AutomatonMaker_together 64 = .ok (.iload 4, 2) := by decide +kernel
theorem d_AutomatonMaker_together_66 : decode b_AutomatonMaker_together 66 = .ok (.iadd, 1) := by decide +kernel
theorem d_AutomatonMaker_together_67 : decode b_AutomatonMaker_together 67 = .ok (.iaload, 1) := by decide +kernel
theorem d_AutomatonMaker_together_68 : decode b_AutomatonMaker_together 68 = .ok (.iaload, 1) := by decide +kernel
theorem d_AutomatonMaker_together_69 : decode b_AutomatonMaker_together 69 = .ok (.if_icmp .ne 7, 3) := by decide +kernel
theorem d_AutomatonMaker_together_72 : decode b_AutomatonMaker_together 72 = .ok (.iconst 1, 1) := by decide +kernel
theorem d_AutomatonMaker_together_73 : decode b_AutomatonMaker_together 73 = .ok (.goto 4, 3) := by decide +kernel
theorem d_AutomatonMaker_together_76 : decode b_AutomatonMaker_together 76 = .ok (.iconst 0, 1) := by decide +kernel
theorem d_AutomatonMaker_together_77 : decode b_AutomatonMaker_together 77 = .ok (.istore_n 3, 1) := by decide +kernel
theorem d_AutomatonMaker_together_78 : decode b_AutomatonMaker_together 78 = .ok (.iinc 4 1, 3) := by decide +kernel
theorem d_AutomatonMaker_together_81 : decode b_AutomatonMaker_together 81 = .ok (.goto (-57), 3) := by decide +kernel
theorem d_AutomatonMaker_together_84 : decode b_AutomatonMaker_together 84 = .ok (.iload_n 3, 1) := by decide +kernel
theorem d_AutomatonMaker_together_85 : decode b_AutomatonMaker_together 85 = .ok (.ireturn, 1) := by decide +kernel
theorem d_AutomatonMaker_slotOf_0 : decode b_AutomatonMaker_slotOf 0 = .ok (.aload_n 0, 1) := by decide +kernel
theorem d_AutomatonMaker_slotOf_1 : decode b_AutomatonMaker_slotOf 1 = .ok (.getfield 26, 3) := by decide +kernel
theorem d_AutomatonMaker_slotOf_4 : decode b_AutomatonMaker_slotOf 4 = .ok (.iload_n 1, 1) := by decide +kernel
theorem d_AutomatonMaker_slotOf_5 : decode b_AutomatonMaker_slotOf 5 = .ok (.iaload, 1) := by decide +kernel
theorem d_AutomatonMaker_slotOf_6 : decode b_AutomatonMaker_slotOf 6 = .ok (.istore_n 2, 1) := by decide +kernel
theorem d_AutomatonMaker_slotOf_7 : decode b_AutomatonMaker_slotOf 7 = .ok (.iconst 0, 1) := by decide +kernel
theorem d_AutomatonMaker_slotOf_8 : decode b_AutomatonMaker_slotOf 8 = .ok (.istore_n 3, 1) := by decide +kernel
theorem d_AutomatonMaker_slotOf_9 : decode b_AutomatonMaker_slotOf 9 = .ok (.iload_n 3, 1) := by decide +kernel
theorem d_AutomatonMaker_slotOf_10 : decode b_AutomatonMaker_slotOf 10 = .ok (.bipush 9, 2) := by decide +kernel
theorem d_AutomatonMaker_slotOf_12 : decode b_AutomatonMaker_slotOf 12 = .ok (.if_icmp .ge 31, 3) := by decide +kernel
theorem d_AutomatonMaker_slotOf_15 : decode b_AutomatonMaker_slotOf 15 = .ok (.iload_n 2, 1) := by decide +kernel
theorem d_AutomatonMaker_slotOf_16 : decode b_AutomatonMaker_slotOf 16 = .ok (.bipush 31, 2) := by decide +kernel
theorem d_AutomatonMaker_slotOf_18 : decode b_AutomatonMaker_slotOf 18 = .ok (.imul, 1) := by decide +kernel
theorem d_AutomatonMaker_slotOf_19 : decode b_AutomatonMaker_slotOf 19 = .ok (.aload_n 0, 1) := by decide +kernel
theorem d_AutomatonMaker_slotOf_20 : decode b_AutomatonMaker_slotOf 20 = .ok (.getfield 26, 3) := by decide +kernel
theorem d_AutomatonMaker_slotOf_23 : decode b_AutomatonMaker_slotOf 23 = .ok (.aload_n 0, 1) := by decide +kernel
theorem d_AutomatonMaker_slotOf_24 : decode b_AutomatonMaker_slotOf 24 = .ok (.getfield 20, 3) := by decide +kernel
theorem d_AutomatonMaker_slotOf_27 : decode b_AutomatonMaker_slotOf 27 = .ok (.iload_n 1, 1) := by decide +kernel
theorem d_AutomatonMaker_slotOf_28 : decode b_AutomatonMaker_slotOf 28 = .ok (.bipush 9, 2) := by decide +kernel
theorem d_AutomatonMaker_slotOf_30 : decode b_AutomatonMaker_slotOf 30 = .ok (.imul, 1) := by decide +kernel
theorem d_AutomatonMaker_slotOf_31 : decode b_AutomatonMaker_slotOf 31 = .ok (.iload_n 3, 1) := by decide +kernel
theorem d_AutomatonMaker_slotOf_32 : decode b_AutomatonMaker_slotOf 32 = .ok (.iadd, 1) := by decide +kernel
theorem d_AutomatonMaker_slotOf_33 : decode b_AutomatonMaker_slotOf 33 = .ok (.iaload, 1) := by decide +kernel
theorem d_AutomatonMaker_slotOf_34 : decode b_AutomatonMaker_slotOf 34 = .ok (.iaload, 1) := by decide +kernel
theorem d_AutomatonMaker_slotOf_35 : decode b_AutomatonMaker_slotOf 35 = .ok (.iadd, 1) := by decide +kernel
theorem d_AutomatonMaker_slotOf_36 : decode b_AutomatonMaker_slotOf 36 = .ok (.istore_n 2, 1) := by decide +kernel
theorem d_AutomatonMaker_slotOf_37 : decode b_AutomatonMaker_slotOf 37 = .ok (.iinc 3 1, 3) := by decide +kernel
theorem d_AutomatonMaker_slotOf_40 : decode b_AutomatonMaker_slotOf 40 = .ok (.goto (-31), 3) := by decide +kernel
theorem d_AutomatonMaker_slotOf_43 : decode b_AutomatonMaker_slotOf 43 = .ok (.iload_n 2, 1) := by decide +kernel
theorem d_AutomatonMaker_slotOf_44 : decode b_AutomatonMaker_slotOf 44 = .ok (.iload_n 2, 1) := by decide +kernel
theorem d_AutomatonMaker_slotOf_45 : decode b_AutomatonMaker_slotOf 45 = .ok (.bipush 11, 2) := by decide +kernel
theorem d_AutomatonMaker_slotOf_47 : decode b_AutomatonMaker_slotOf 47 = .ok (.iushr, 1) := by decide +kernel
theorem d_AutomatonMaker_slotOf_48 : decode b_AutomatonMaker_slotOf 48 = .ok (.ixor, 1) := by decide +kernel
theorem d_AutomatonMaker_slotOf_49 : decode b_AutomatonMaker_slotOf 49 = .ok (.sipush 2047, 3) := by decide +kernel
theorem d_AutomatonMaker_slotOf_52 : decode b_AutomatonMaker_slotOf 52 = .ok (.iand, 1) := by decide +kernel
theorem d_AutomatonMaker_slotOf_53 : decode b_AutomatonMaker_slotOf 53 = .ok (.istore_n 3, 1) := by decide +kernel
theorem d_AutomatonMaker_slotOf_54 : decode b_AutomatonMaker_slotOf 54 = .ok (.iconst 0, 1) := by decide +kernel
theorem d_AutomatonMaker_slotOf_55 : decode b_AutomatonMaker_slotOf 55 = .ok (.istore 4, 2) := by decide +kernel
theorem d_AutomatonMaker_slotOf_57 : decode b_AutomatonMaker_slotOf 57 = .ok (.iload 4, 2) := by decide +kernel
theorem d_AutomatonMaker_slotOf_59 : decode b_AutomatonMaker_slotOf 59 = .ok (.sipush 2048, 3) := by decide +kernel
theorem d_AutomatonMaker_slotOf_62 : decode b_AutomatonMaker_slotOf 62 = .ok (.if_icmp .ge 42, 3) := by decide +kernel
theorem d_AutomatonMaker_slotOf_65 : decode b_AutomatonMaker_slotOf 65 = .ok (.aload_n 0, 1) := by decide +kernel
theorem d_AutomatonMaker_slotOf_66 : decode b_AutomatonMaker_slotOf 66 = .ok (.getfield 23, 3) := by decide +kernel
theorem d_AutomatonMaker_slotOf_69 : decode b_AutomatonMaker_slotOf 69 = .ok (.iload_n 3, 1) := by decide +kernel
theorem d_AutomatonMaker_slotOf_70 : decode b_AutomatonMaker_slotOf 70 = .ok (.iaload, 1) := by decide +kernel
theorem d_AutomatonMaker_slotOf_71 : decode b_AutomatonMaker_slotOf 71 = .ok (.ifCond .eq 33, 3) := by decide +kernel
theorem d_AutomatonMaker_slotOf_74 : decode b_AutomatonMaker_slotOf 74 = .ok (.aload_n 0, 1) := by decide +kernel
theorem d_AutomatonMaker_slotOf_75 : decode b_AutomatonMaker_slotOf 75 = .ok (.aload_n 0, 1) := by decide +kernel
theorem d_AutomatonMaker_slotOf_76 : decode b_AutomatonMaker_slotOf 76 = .ok (.getfield 23, 3) := by decide +kernel
theorem d_AutomatonMaker_slotOf_79 : decode b_AutomatonMaker_slotOf 79 = .ok (.iload_n 3, 1) := by decide +kernel
theorem d_AutomatonMaker_slotOf_80 : decode b_AutomatonMaker_slotOf 80 = .ok (.iaload, 1) := by decide +kernel
theorem d_AutomatonMaker_slotOf_81 : decode b_AutomatonMaker_slotOf 81 = .ok (.iconst 1, 1) := by decide +kernel
theorem d_AutomatonMaker_slotOf_82 : decode b_AutomatonMaker_slotOf 82 = .ok (.isub, 1) := by decide +kernel
theorem d_AutomatonMaker_slotOf_83 : decode b_AutomatonMaker_slotOf 83 = .ok (.iload_n 1, 1) := by decide +kernel
theorem d_AutomatonMaker_slotOf_84 : decode b_AutomatonMaker_slotOf 84 = .ok (.invokevirtual 92, 3) := by decide +kernel
theorem d_AutomatonMaker_slotOf_87 : decode b_AutomatonMaker_slotOf 87 = .ok (.ifCond .ne 17, 3) := by decide +kernel
theorem d_AutomatonMaker_slotOf_90 : decode b_AutomatonMaker_slotOf 90 = .ok (.iload_n 3, 1) := by decide +kernel
theorem d_AutomatonMaker_slotOf_91 : decode b_AutomatonMaker_slotOf 91 = .ok (.iconst 1, 1) := by decide +kernel
theorem d_AutomatonMaker_slotOf_92 : decode b_AutomatonMaker_slotOf 92 = .ok (.iadd, 1) := by decide +kernel
theorem d_AutomatonMaker_slotOf_93 : decode b_AutomatonMaker_slotOf 93 = .ok (.sipush 2047, 3) := by decide +kernel
theorem d_AutomatonMaker_slotOf_96 : decode b_AutomatonMaker_slotOf 96 = .ok (.iand, 1) := by decide +kernel
theorem d_AutomatonMaker_slotOf_97 : decode b_AutomatonMaker_slotOf 97 = .ok (.istore_n 3, 1) := by decide +kernel
theorem d_AutomatonMaker_slotOf_98 : decode b_AutomatonMaker_slotOf 98 = .ok (.iinc 4 1, 3) := by decide +kernel
theorem d_AutomatonMaker_slotOf_101 : decode b_AutomatonMaker_slotOf 101 = .ok (.goto (-44), 3) := by decide +kernel
theorem d_AutomatonMaker_slotOf_104 : decode b_AutomatonMaker_slotOf 104 = .ok (.iload_n 3, 1) := by decide +kernel
theorem d_AutomatonMaker_slotOf_105 : decode b_AutomatonMaker_slotOf 105 = .ok (.ireturn, 1) := by decide +kernel
theorem d_AutomatonMaker_refine_0 : decode b_AutomatonMaker_refine 0 = .ok (.iconst 0, 1) := by decide +kernel
theorem d_AutomatonMaker_refine_1 : decode b_AutomatonMaker_refine 1 = .ok (.istore_n 1, 1) := by decide +kernel
theorem d_AutomatonMaker_refine_2 : decode b_AutomatonMaker_refine 2 = .ok (.iload_n 1, 1) := by decide +kernel
theorem d_AutomatonMaker_refine_3 : decode b_AutomatonMaker_refine 3 = .ok (.sipush 2048, 3) := by decide +kernel
theorem d_AutomatonMaker_refine_6 : decode b_AutomatonMaker_refine 6 = .ok (.if_icmp .ge 16, 3) := by decide +kernel
theorem d_AutomatonMaker_refine_9 : decode b_AutomatonMaker_refine 9 = .ok (.aload_n 0, 1) := by decide +kernel
theorem d_AutomatonMaker_refine_10 : decode b_AutomatonMaker_refine 10 = .ok (.getfield 23, 3) := by decide +kernel
theorem d_AutomatonMaker_refine_13 : decode b_AutomatonMaker_refine 13 = .ok (.iload_n 1, 1) := by decide +kernel
theorem d_AutomatonMaker_refine_14 : decode b_AutomatonMaker_refine 14 = .ok (.iconst 0, 1) := by decide +kernel
theorem d_AutomatonMaker_refine_15 : decode b_AutomatonMaker_refine 15 = .ok (.iastore, 1) := by decide +kernel
theorem d_AutomatonMaker_refine_16 : decode b_AutomatonMaker_refine 16 = .ok (.iinc 1 1, 3) := by decide +kernel
theorem d_AutomatonMaker_refine_19 : decode b_AutomatonMaker_refine 19 = .ok (.goto (-17), 3) := by decide +kernel
theorem d_AutomatonMaker_refine_22 : decode b_AutomatonMaker_refine 22 = .ok (.iconst 0, 1) := by decide +kernel
theorem d_AutomatonMaker_refine_23 : decode b_AutomatonMaker_refine 23 = .ok (.istore_n 1, 1) := by decide +kernel
theorem d_AutomatonMaker_refine_24 : decode b_AutomatonMaker_refine 24 = .ok (.iconst 0, 1) := by decide +kernel
theorem d_AutomatonMaker_refine_25 : decode b_AutomatonMaker_refine 25 = .ok (.istore_n 2, 1) := by decide +kernel
theorem d_AutomatonMaker_refine_26 : decode b_AutomatonMaker_refine 26 = .ok (.iload_n 2, 1) := by decide +kernel
theorem d_AutomatonMaker_refine_27 : decode b_AutomatonMaker_refine 27 = .ok (.aload_n 0, 1) := by decide +kernel
theorem d_AutomatonMaker_refine_28 : decode b_AutomatonMaker_refine 28 = .ok (.getfield 47, 3) := by decide +kernel
theorem d_AutomatonMaker_refine_31 : decode b_AutomatonMaker_refine 31 = .ok (.if_icmp .ge 65, 3) := by decide +kernel
theorem d_AutomatonMaker_refine_34 : decode b_AutomatonMaker_refine 34 = .ok (.aload_n 0, 1) := by decide +kernel
theorem d_AutomatonMaker_refine_35 : decode b_AutomatonMaker_refine 35 = .ok (.iload_n 2, 1) := by decide +kernel
theorem d_AutomatonMaker_refine_36 : decode b_AutomatonMaker_refine 36 = .ok (.invokevirtual 89, 3) := by decide +kernel
theorem d_AutomatonMaker_refine_39 : decode b_AutomatonMaker_refine 39 = .ok (.istore_n 3, 1) := by decide +kernel
theorem d_AutomatonMaker_refine_40 : decode b_AutomatonMaker_refine 40 = .ok (.aload_n 0, 1) := by decide +kernel
theorem d_AutomatonMaker_refine_41 : decode b_AutomatonMaker_refine 41 = .ok (.getfield 23, 3) := by decide +kernel
theorem d_AutomatonMaker_refine_44 : decode b_AutomatonMaker_refine 44 = .ok (.iload_n 3, 1) := by decide +kernel
theorem d_AutomatonMaker_refine_45 : decode b_AutomatonMaker_refine 45 = .ok (.iaload, 1) := by decide +kernel
theorem d_AutomatonMaker_refine_46 : decode b_AutomatonMaker_refine 46 = .ok (.ifCond .ne 25, 3) := by decide +kernel
theorem d_AutomatonMaker_refine_49 : decode b_AutomatonMaker_refine 49 = .ok (.aload_n 0, 1) := by decide +kernel
theorem d_AutomatonMaker_refine_50 : decode b_AutomatonMaker_refine 50 = .ok (.getfield 23, 3) := by decide +kernel
theorem d_AutomatonMaker_refine_53 : decode b_AutomatonMaker_refine 53 = .ok (.iload_n 3, 1) := by decide +kernel
theorem d_AutomatonMaker_refine_54 : decode b_AutomatonMaker_refine 54 = .ok (.iload_n 2, 1) := by decide +kernel
theorem d_AutomatonMaker_refine_55 : decode b_AutomatonMaker_refine 55 = .ok (.iconst 1, 1) := by decide +kernel
theorem d_AutomatonMaker_refine_56 : decode b_AutomatonMaker_refine 56 = .ok (.iadd, 1) := by decide +kernel
theorem d_AutomatonMaker_refine_57 : decode b_AutomatonMaker_refine 57 = .ok (.iastore, 1) := by decide +kernel
theorem d_AutomatonMaker_refine_58 : decode b_AutomatonMaker_refine 58 = .ok (.aload_n 0, 1) := by decide +kernel
theorem d_AutomatonMaker_refine_59 : decode b_AutomatonMaker_refine 59 = .ok (.getfield 29, 3) := by decide +kernel
theorem d_AutomatonMaker_refine_62 : decode b_AutomatonMaker_refine 62 = .ok (.iload_n 2, 1) := by decide +kernel
theorem d_AutomatonMaker_refine_63 : decode b_AutomatonMaker_refine 63 = .ok (.iload_n 1, 1) := by decide +kernel
theorem d_AutomatonMaker_refine_64 : decode b_AutomatonMaker_refine 64 = .ok (.iastore, 1) := by decide +kernel
theorem d_AutomatonMaker_refine_65 : decode b_AutomatonMaker_refine 65 = .ok (.iinc 1 1, 3) := by decide +kernel
theorem d_AutomatonMaker_refine_68 : decode b_AutomatonMaker_refine 68 = .ok (.goto 22, 3) := by decide +kernel
theorem d_AutomatonMaker_refine_71 : decode b_AutomatonMaker_refine 71 = .ok (.aload_n 0, 1) := by decide +kernel
theorem d_AutomatonMaker_refine_72 : decode b_AutomatonMaker_refine 72 = .ok (.getfield 29, 3) := by decide +kernel
theorem d_AutomatonMaker_refine_75 : decode b_AutomatonMaker_refine 75 = .ok (.iload_n 2, 1) := by decide +kernel
theorem d_AutomatonMaker_refine_76 : decode b_AutomatonMaker_refine 76 = .ok (.aload_n 0, 1) := by decide +kernel
theorem d_AutomatonMaker_refine_77 : decode b_AutomatonMaker_refine 77 = .ok (.getfield 29, 3) := by decide +kernel
theorem d_AutomatonMaker_refine_80 : decode b_AutomatonMaker_refine 80 = .ok (.aload_n 0, 1) := by decide +kernel
theorem d_AutomatonMaker_refine_81 : decode b_AutomatonMaker_refine 81 = .ok (.getfield 23, 3) := by decide +kernel
theorem d_AutomatonMaker_refine_84 : decode b_AutomatonMaker_refine 84 = .ok (.iload_n 3, 1) := by decide +kernel
theorem d_AutomatonMaker_refine_85 : decode b_AutomatonMaker_refine 85 = .ok (.iaload, 1) := by decide +kernel
theorem d_AutomatonMaker_refine_86 : decode b_AutomatonMaker_refine 86 = .ok (.iconst 1, 1) := by decide +kernel
theorem d_AutomatonMaker_refine_87 : decode b_AutomatonMaker_refine 87 = .ok (.isub, 1) := by decide +kernel
theorem d_AutomatonMaker_refine_88 : decode b_AutomatonMaker_refine 88 = .ok (.iaload, 1) := by decide +kernel
theorem d_AutomatonMaker_refine_89 : decode b_AutomatonMaker_refine 89 = .ok (.iastore, 1) := by decide +kernel
theorem d_AutomatonMaker_refine_90 : decode b_AutomatonMaker_refine 90 = .ok (.iinc 2 1, 3) := by decide +kernel
theorem d_AutomatonMaker_refine_93 : decode b_AutomatonMaker_refine 93 = .ok (.goto (-67), 3) := by decide +kernel
theorem d_AutomatonMaker_refine_96 : decode b_AutomatonMaker_refine 96 = .ok (.aload_n 0, 1) := by decide +kernel
theorem d_AutomatonMaker_refine_97 : decode b_AutomatonMaker_refine 97 = .ok (.getfield 26, 3) := by decide +kernel
theorem d_AutomatonMaker_refine_100 : decode b_AutomatonMaker_refine 100 = .ok (.astore_n 2, 1) := by decide +kernel
theorem d_AutomatonMaker_refine_101 : decode b_AutomatonMaker_refine 101 = .ok (.aload_n 0, 1) := by decide +kernel
theorem d_AutomatonMaker_refine_102 : decode b_AutomatonMaker_refine 102 = .ok (.aload_n 0, 1) := by decide +kernel
theorem d_AutomatonMaker_refine_103 : decode b_AutomatonMaker_refine 103 = .ok (.getfield 29, 3) := by decide +kernel
theorem d_AutomatonMaker_refine_106 : decode b_AutomatonMaker_refine 106 = .ok (.putfield 26, 3) := by decide +kernel
theorem d_AutomatonMaker_refine_109 : decode b_AutomatonMaker_refine 109 = .ok (.aload_n 0, 1) := by decide +kernel
theorem d_AutomatonMaker_refine_110 : decode b_AutomatonMaker_refine 110 = .ok (.aload_n 2, 1) := by decide +kernel
theorem d_AutomatonMaker_refine_111 : decode b_AutomatonMaker_refine 111 = .ok (.putfield 29, 3) := by decide +kernel
theorem d_AutomatonMaker_refine_114 : decode b_AutomatonMaker_refine 114 = .ok (.iload_n 1, 1) := by decide +kernel
theorem d_AutomatonMaker_refine_115 : decode b_AutomatonMaker_refine 115 = .ok (.ireturn, 1) := by decide +kernel
theorem d_AutomatonMaker_copyParts_0 : decode b_AutomatonMaker_copyParts 0 = .ok (.aload_n 2, 1) := by decide +kernel
theorem d_AutomatonMaker_copyParts_1 : decode b_AutomatonMaker_copyParts 1 = .ok (.iload_n 3, 1) := by decide +kernel
theorem d_AutomatonMaker_copyParts_2 : decode b_AutomatonMaker_copyParts 2 = .ok (.invokevirtual 96, 3) := by decide +kernel
theorem d_AutomatonMaker_copyParts_5 : decode b_AutomatonMaker_copyParts 5 = .ok (.iconst 0, 1) := by decide +kernel
theorem d_AutomatonMaker_copyParts_6 : decode b_AutomatonMaker_copyParts 6 = .ok (.istore 4, 2) := by decide +kernel
theorem d_AutomatonMaker_copyParts_8 : decode b_AutomatonMaker_copyParts 8 = .ok (.iconst 0, 1) := by decide +kernel
theorem d_AutomatonMaker_copyParts_9 : decode b_AutomatonMaker_copyParts 9 = .ok (.istore 5, 2) := by decide +kernel
theorem d_AutomatonMaker_copyParts_11 : decode b_AutomatonMaker_copyParts 11 = .ok (.iload 5, 2) := by decide +kernel
theorem d_AutomatonMaker_copyParts_13 : decode b_AutomatonMaker_copyParts 13 = .ok (.aload_n 0, 1) := by decide +kernel
theorem d_AutomatonMaker_copyParts_14 : decode b_AutomatonMaker_copyParts 14 = .ok (.getfield 47, 3) := by decide +kernel
theorem d_AutomatonMaker_copyParts_17 : decode b_AutomatonMaker_copyParts 17 = .ok (.if_icmp .ge 108, 3) := by decide +kernel
theorem d_AutomatonMaker_copyParts_20 : decode b_AutomatonMaker_copyParts 20 = .ok (.iload 4, 2) := by decide +kernel
theorem d_AutomatonMaker_copyParts_22 : decode b_AutomatonMaker_copyParts 22 = .ok (.iload_n 3, 1) := by decide +kernel
theorem d_AutomatonMaker_copyParts_23 : decode b_AutomatonMaker_copyParts 23 = .ok (.if_icmp .ge 102, 3) := by decide +kernel
theorem d_AutomatonMaker_copyParts_26 : decode b_AutomatonMaker_copyParts 26 = .ok (.aload_n 0, 1) := by decide +kernel
theorem d_AutomatonMaker_copyParts_27 : decode b_AutomatonMaker_copyParts 27 = .ok (.getfield 26, 3) := by decide +kernel
theorem d_AutomatonMaker_copyParts_30 : decode b_AutomatonMaker_copyParts 30 = .ok (.iload 5, 2) := by decide +kernel
theorem d_AutomatonMaker_copyParts_32 : decode b_AutomatonMaker_copyParts 32 = .ok (.iaload, 1) := by decide +kernel
theorem d_AutomatonMaker_copyParts_33 : decode b_AutomatonMaker_copyParts 33 = .ok (.iload 4, 2) := by decide +kernel
theorem d_AutomatonMaker_copyParts_35 : decode b_AutomatonMaker_copyParts 35 = .ok (.if_icmp .eq 6, 3) := by decide +kernel
theorem d_AutomatonMaker_copyParts_38 : decode b_AutomatonMaker_copyParts 38 = .ok (.goto 81, 3) := by decide +kernel
theorem d_AutomatonMaker_copyParts_41 : decode b_AutomatonMaker_copyParts 41 = .ok (.iconst 0, 1) := by decide +kernel
theorem d_AutomatonMaker_copyParts_42 : decode b_AutomatonMaker_copyParts 42 = .ok (.istore 6, 2) := by decide +kernel
theorem d_AutomatonMaker_copyParts_44 : decode b_AutomatonMaker_copyParts 44 = .ok (.iload 6, 2) := by decide +kernel
theorem d_AutomatonMaker_copyParts_46 : decode b_AutomatonMaker_copyParts 46 = .ok (.bipush 9, 2) := by decide +kernel
theorem d_AutomatonMaker_copyParts_48 : decode b_AutomatonMaker_copyParts 48 = .ok (.if_icmp .ge 40, 3) := by decide +kernel
theorem d_AutomatonMaker_copyParts_51 : decode b_AutomatonMaker_copyParts 51 = .ok (.aload_n 2, 1) := by decide +kernel
