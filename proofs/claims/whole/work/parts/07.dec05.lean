theorem d_Roster_allWishesCost_29 : decode b_Roster_allWishesCost 29 = .ok (.invokevirtual 58, 3) := by decide +kernel
theorem d_Roster_allWishesCost_32 : decode b_Roster_allWishesCost 32 = .ok (.ladd, 1) := by decide +kernel
theorem d_Roster_allWishesCost_33 : decode b_Roster_allWishesCost 33 = .ok (.lstore_n 1, 1) := by decide +kernel
theorem d_Roster_allWishesCost_34 : decode b_Roster_allWishesCost 34 = .ok (.iinc 4 1, 3) := by decide +kernel
theorem d_Roster_allWishesCost_37 : decode b_Roster_allWishesCost 37 = .ok (.goto (-22), 3) := by decide +kernel
theorem d_Roster_allWishesCost_40 : decode b_Roster_allWishesCost 40 = .ok (.iinc 3 1, 3) := by decide +kernel
theorem d_Roster_allWishesCost_43 : decode b_Roster_allWishesCost 43 = .ok (.goto (-39), 3) := by decide +kernel
theorem d_Roster_allWishesCost_46 : decode b_Roster_allWishesCost 46 = .ok (.lload_n 1, 1) := by decide +kernel
theorem d_Roster_allWishesCost_47 : decode b_Roster_allWishesCost 47 = .ok (.lreturn, 1) := by decide +kernel
theorem d_Tape_init_0 : decode b_Tape_init 0 = .ok (.aload_n 0, 1) := by decide +kernel
theorem d_Tape_init_1 : decode b_Tape_init 1 = .ok (.invokespecial 3, 3) := by decide +kernel
theorem d_Tape_init_4 : decode b_Tape_init 4 = .ok (.aload_n 0, 1) := by decide +kernel
theorem d_Tape_init_5 : decode b_Tape_init 5 = .ok (.sipush 1500, 3) := by decide +kernel
theorem d_Tape_init_8 : decode b_Tape_init 8 = .ok (.newarray .int, 2) := by decide +kernel
theorem d_Tape_init_10 : decode b_Tape_init 10 = .ok (.putfield 9, 3) := by decide +kernel
theorem d_Tape_init_13 : decode b_Tape_init 13 = .ok (.return_, 1) := by decide +kernel
theorem d_Tape_append_0 : decode b_Tape_append 0 = .ok (.iconst 0, 1) := by decide +kernel
theorem d_Tape_append_1 : decode b_Tape_append 1 = .ok (.istore 4, 2) := by decide +kernel
theorem d_Tape_append_3 : decode b_Tape_append 3 = .ok (.iload 4, 2) := by decide +kernel
theorem d_Tape_append_5 : decode b_Tape_append 5 = .ok (.iload_n 1, 1) := by decide +kernel
theorem d_Tape_append_6 : decode b_Tape_append 6 = .ok (.if_icmp .ge 50, 3) := by decide +kernel
theorem d_Tape_append_9 : decode b_Tape_append 9 = .ok (.aload_n 0, 1) := by decide +kernel
theorem d_Tape_append_10 : decode b_Tape_append 10 = .ok (.getfield 15, 3) := by decide +kernel
theorem d_Tape_append_13 : decode b_Tape_append 13 = .ok (.sipush 1500, 3) := by decide +kernel
theorem d_Tape_append_16 : decode b_Tape_append 16 = .ok (.if_icmp .ge 40, 3) := by decide +kernel
theorem d_Tape_append_19 : decode b_Tape_append 19 = .ok (.aload_n 0, 1) := by decide +kernel
theorem d_Tape_append_20 : decode b_Tape_append 20 = .ok (.getfield 9, 3) := by decide +kernel
theorem d_Tape_append_23 : decode b_Tape_append 23 = .ok (.aload_n 0, 1) := by decide +kernel
theorem d_Tape_append_24 : decode b_Tape_append 24 = .ok (.getfield 15, 3) := by decide +kernel
theorem d_Tape_append_27 : decode b_Tape_append 27 = .ok (.lload_n 2, 1) := by decide +kernel
theorem d_Tape_append_28 : decode b_Tape_append 28 = .ok (.bipush 8, 2) := by decide +kernel
theorem d_Tape_append_30 : decode b_Tape_append 30 = .ok (.iload 4, 2) := by decide +kernel
theorem d_Tape_append_32 : decode b_Tape_append 32 = .ok (.imul, 1) := by decide +kernel
theorem d_Tape_append_33 : decode b_Tape_append 33 = .ok (.lushr, 1) := by decide +kernel
theorem d_Tape_append_34 : decode b_Tape_append 34 = .ok (.l2i, 1) := by decide +kernel
theorem d_Tape_append_35 : decode b_Tape_append 35 = .ok (.sipush 255, 3) := by decide +kernel
theorem d_Tape_append_38 : decode b_Tape_append 38 = .ok (.iand, 1) := by decide +kernel
theorem d_Tape_append_39 : decode b_Tape_append 39 = .ok (.iastore, 1) := by decide +kernel
theorem d_Tape_append_40 : decode b_Tape_append 40 = .ok (.aload_n 0, 1) := by decide +kernel
theorem d_Tape_append_41 : decode b_Tape_append 41 = .ok (.dup, 1) := by decide +kernel
theorem d_Tape_append_42 : decode b_Tape_append 42 = .ok (.getfield 15, 3) := by decide +kernel
theorem d_Tape_append_45 : decode b_Tape_append 45 = .ok (.iconst 1, 1) := by decide +kernel
theorem d_Tape_append_46 : decode b_Tape_append 46 = .ok (.iadd, 1) := by decide +kernel
theorem d_Tape_append_47 : decode b_Tape_append 47 = .ok (.putfield 15, 3) := by decide +kernel
theorem d_Tape_append_50 : decode b_Tape_append 50 = .ok (.iinc 4 1, 3) := by decide +kernel
theorem d_Tape_append_53 : decode b_Tape_append 53 = .ok (.goto (-50), 3) := by decide +kernel
theorem d_Tape_append_56 : decode b_Tape_append 56 = .ok (.return_, 1) := by decide +kernel
theorem d_RR_feed_0 : decode b_RR_feed 0 = .ok (.iload_n 1, 1) := by decide +kernel
theorem d_RR_feed_1 : decode b_RR_feed 1 = .ok (.iconst 1, 1) := by decide +kernel
theorem d_RR_feed_2 : decode b_RR_feed 2 = .ok (.if_icmp .lt 9, 3) := by decide +kernel
theorem d_RR_feed_5 : decode b_RR_feed 5 = .ok (.iload_n 1, 1) := by decide +kernel
theorem d_RR_feed_6 : decode b_RR_feed 6 = .ok (.bipush 8, 2) := by decide +kernel
theorem d_RR_feed_8 : decode b_RR_feed 8 = .ok (.if_icmp .le 5, 3) := by decide +kernel
theorem d_RR_feed_11 : decode b_RR_feed 11 = .ok (.iconst (-1), 1) := by decide +kernel
theorem d_RR_feed_12 : decode b_RR_feed 12 = .ok (.ireturn, 1) := by decide +kernel
theorem d_RR_feed_13 : decode b_RR_feed 13 = .ok (.aload_n 0, 1) := by decide +kernel
theorem d_RR_feed_14 : decode b_RR_feed 14 = .ok (.getfield 10, 3) := by decide +kernel
theorem d_RR_feed_17 : decode b_RR_feed 17 = .ok (.getfield 80, 3) := by decide +kernel
theorem d_RR_feed_20 : decode b_RR_feed 20 = .ok (.iload_n 1, 1) := by decide +kernel
theorem d_RR_feed_21 : decode b_RR_feed 21 = .ok (.iadd, 1) := by decide +kernel
theorem d_RR_feed_22 : decode b_RR_feed 22 = .ok (.sipush 1500, 3) := by decide +kernel
theorem d_RR_feed_25 : decode b_RR_feed 25 = .ok (.if_icmp .le 6, 3) := by decide +kernel
theorem d_RR_feed_28 : decode b_RR_feed 28 = .ok (.bipush (-3), 2) := by decide +kernel
theorem d_RR_feed_30 : decode b_RR_feed 30 = .ok (.ireturn, 1) := by decide +kernel
theorem d_RR_feed_31 : decode b_RR_feed 31 = .ok (.aload_n 0, 1) := by decide +kernel
theorem d_RR_feed_32 : decode b_RR_feed 32 = .ok (.getfield 10, 3) := by decide +kernel
theorem d_RR_feed_35 : decode b_RR_feed 35 = .ok (.iload_n 1, 1) := by decide +kernel
theorem d_RR_feed_36 : decode b_RR_feed 36 = .ok (.lload_n 2, 1) := by decide +kernel
theorem d_RR_feed_37 : decode b_RR_feed 37 = .ok (.invokevirtual 83, 3) := by decide +kernel
theorem d_RR_feed_40 : decode b_RR_feed 40 = .ok (.aload_n 0, 1) := by decide +kernel
theorem d_RR_feed_41 : decode b_RR_feed 41 = .ok (.getfield 10, 3) := by decide +kernel
theorem d_RR_feed_44 : decode b_RR_feed 44 = .ok (.getfield 80, 3) := by decide +kernel
theorem d_RR_feed_47 : decode b_RR_feed 47 = .ok (.ireturn, 1) := by decide +kernel
theorem d_RR_place_0 : decode b_RR_place 0 = .ok (.aload_n 0, 1) := by decide +kernel
theorem d_RR_place_1 : decode b_RR_place 1 = .ok (.getfield 75, 3) := by decide +kernel
theorem d_RR_place_4 : decode b_RR_place 4 = .ok (.getfield 97, 3) := by decide +kernel
theorem d_RR_place_7 : decode b_RR_place 7 = .ok (.ireturn, 1) := by decide +kernel
theorem d_RR_isShift_0 : decode b_RR_isShift 0 = .ok (.iload_n 1, 1) := by decide +kernel
theorem d_RR_isShift_1 : decode b_RR_isShift 1 = .ok (.ifCond .lt 13, 3) := by decide +kernel
theorem d_RR_isShift_4 : decode b_RR_isShift 4 = .ok (.iload_n 1, 1) := by decide +kernel
theorem d_RR_isShift_5 : decode b_RR_isShift 5 = .ok (.bipush 8, 2) := by decide +kernel
theorem d_RR_isShift_7 : decode b_RR_isShift 7 = .ok (.if_icmp .ge 7, 3) := by decide +kernel
theorem d_RR_isShift_10 : decode b_RR_isShift 10 = .ok (.iconst 1, 1) := by decide +kernel
theorem d_RR_isShift_11 : decode b_RR_isShift 11 = .ok (.goto 4, 3) := by decide +kernel
theorem d_RR_isShift_14 : decode b_RR_isShift 14 = .ok (.iconst 0, 1) := by decide +kernel
theorem d_RR_isShift_15 : decode b_RR_isShift 15 = .ok (.ireturn, 1) := by decide +kernel
theorem d_RR_shift_0 : decode b_RR_shift 0 = .ok (.aload_n 0, 1) := by decide +kernel
theorem d_RR_shift_1 : decode b_RR_shift 1 = .ok (.iload_n 1, 1) := by decide +kernel
theorem d_RR_shift_2 : decode b_RR_shift 2 = .ok (.invokevirtual 100, 3) := by decide +kernel
theorem d_RR_shift_5 : decode b_RR_shift 5 = .ok (.ifCond .eq 38, 3) := by decide +kernel
theorem d_RR_shift_8 : decode b_RR_shift 8 = .ok (.iload_n 2, 1) := by decide +kernel
theorem d_RR_shift_9 : decode b_RR_shift 9 = .ok (.ifCond .lt 34, 3) := by decide +kernel
theorem d_RR_shift_12 : decode b_RR_shift 12 = .ok (.iload_n 2, 1) := by decide +kernel
theorem d_RR_shift_13 : decode b_RR_shift 13 = .ok (.sipush 1440, 3) := by decide +kernel
theorem d_RR_shift_16 : decode b_RR_shift 16 = .ok (.if_icmp .ge 27, 3) := by decide +kernel
theorem d_RR_shift_19 : decode b_RR_shift 19 = .ok (.iload_n 3, 1) := by decide +kernel
theorem d_RR_shift_20 : decode b_RR_shift 20 = .ok (.iconst 1, 1) := by decide +kernel
theorem d_RR_shift_21 : decode b_RR_shift 21 = .ok (.if_icmp .lt 22, 3) := by decide +kernel
theorem d_RR_shift_24 : decode b_RR_shift 24 = .ok (.iload_n 3, 1) := by decide +kernel
theorem d_RR_shift_25 : decode b_RR_shift 25 = .ok (.sipush 1440, 3) := by decide +kernel
theorem d_RR_shift_28 : decode b_RR_shift 28 = .ok (.if_icmp .gt 15, 3) := by decide +kernel
theorem d_RR_shift_31 : decode b_RR_shift 31 = .ok (.iload 4, 2) := by decide +kernel
theorem d_RR_shift_33 : decode b_RR_shift 33 = .ok (.ifCond .lt 10, 3) := by decide +kernel
theorem d_RR_shift_36 : decode b_RR_shift 36 = .ok (.iload 4, 2) := by decide +kernel
theorem d_RR_shift_38 : decode b_RR_shift 38 = .ok (.bipush 10, 2) := by decide +kernel
theorem d_RR_shift_40 : decode b_RR_shift 40 = .ok (.if_icmp .lt 5, 3) := by decide +kernel
theorem d_RR_shift_43 : decode b_RR_shift 43 = .ok (.iconst (-1), 1) := by decide +kernel
theorem d_RR_shift_44 : decode b_RR_shift 44 = .ok (.ireturn, 1) := by decide +kernel
theorem d_RR_shift_45 : decode b_RR_shift 45 = .ok (.aload_n 0, 1) := by decide +kernel
theorem d_RR_shift_46 : decode b_RR_shift 46 = .ok (.getfield 53, 3) := by decide +kernel
theorem d_RR_shift_49 : decode b_RR_shift 49 = .ok (.getfield 104, 3) := by decide +kernel
theorem d_RR_shift_52 : decode b_RR_shift 52 = .ok (.iload_n 1, 1) := by decide +kernel
theorem d_RR_shift_53 : decode b_RR_shift 53 = .ok (.iconst 1, 1) := by decide +kernel
theorem d_RR_shift_54 : decode b_RR_shift 54 = .ok (.iadd, 1) := by decide +kernel
theorem d_RR_shift_55 : decode b_RR_shift 55 = .ok (.iload_n 2, 1) := by decide +kernel
theorem d_RR_shift_56 : decode b_RR_shift 56 = .ok (.iastore, 1) := by decide +kernel
theorem d_RR_shift_57 : decode b_RR_shift 57 = .ok (.aload_n 0, 1) := by decide +kernel
theorem d_RR_shift_58 : decode b_RR_shift 58 = .ok (.getfield 53, 3) := by decide +kernel
theorem d_RR_shift_61 : decode b_RR_shift 61 = .ok (.getfield 108, 3) := by decide +kernel
theorem d_RR_shift_64 : decode b_RR_shift 64 = .ok (.iload_n 1, 1) := by decide +kernel
theorem d_RR_shift_65 : decode b_RR_shift 65 = .ok (.iconst 1, 1) := by decide +kernel
theorem d_RR_shift_66 : decode b_RR_shift 66 = .ok (.iadd, 1) := by decide +kernel
theorem d_RR_shift_67 : decode b_RR_shift 67 = .ok (.iload_n 3, 1) := by decide +kernel
theorem d_RR_shift_68 : decode b_RR_shift 68 = .ok (.iastore, 1) := by decide +kernel
theorem d_RR_shift_69 : decode b_RR_shift 69 = .ok (.aload_n 0, 1) := by decide +kernel
theorem d_RR_shift_70 : decode b_RR_shift 70 = .ok (.getfield 53, 3) := by decide +kernel
theorem d_RR_shift_73 : decode b_RR_shift 73 = .ok (.getfield 111, 3) := by decide +kernel
theorem d_RR_shift_76 : decode b_RR_shift 76 = .ok (.iload_n 1, 1) := by decide +kernel
theorem d_RR_shift_77 : decode b_RR_shift 77 = .ok (.iconst 1, 1) := by decide +kernel
theorem d_RR_shift_78 : decode b_RR_shift 78 = .ok (.iadd, 1) := by decide +kernel
theorem d_RR_shift_79 : decode b_RR_shift 79 = .ok (.iload 4, 2) := by decide +kernel
theorem d_RR_shift_81 : decode b_RR_shift 81 = .ok (.iastore, 1) := by decide +kernel
theorem d_RR_shift_82 : decode b_RR_shift 82 = .ok (.iconst 1, 1) := by decide +kernel
theorem d_RR_shift_83 : decode b_RR_shift 83 = .ok (.ireturn, 1) := by decide +kernel
theorem d_RR_isPerson_0 : decode b_RR_isPerson 0 = .ok (.iload_n 1, 1) := by decide +kernel
theorem d_RR_isPerson_1 : decode b_RR_isPerson 1 = .ok (.ifCond .lt 18, 3) := by decide +kernel
theorem d_RR_isPerson_4 : decode b_RR_isPerson 4 = .ok (.iload_n 1, 1) := by decide +kernel
theorem d_RR_isPerson_5 : decode b_RR_isPerson 5 = .ok (.aload_n 0, 1) := by decide +kernel
theorem d_RR_isPerson_6 : decode b_RR_isPerson 6 = .ok (.getfield 53, 3) := by decide +kernel
theorem d_RR_isPerson_9 : decode b_RR_isPerson 9 = .ok (.getfield 252, 3) := by decide +kernel
theorem d_RR_isPerson_12 : decode b_RR_isPerson 12 = .ok (.if_icmp .ge 7, 3) := by decide +kernel
theorem d_RR_isPerson_15 : decode b_RR_isPerson 15 = .ok (.iconst 1, 1) := by decide +kernel
theorem d_RR_isPerson_16 : decode b_RR_isPerson 16 = .ok (.goto 4, 3) := by decide +kernel
theorem d_RR_isPerson_19 : decode b_RR_isPerson 19 = .ok (.iconst 0, 1) := by decide +kernel
theorem d_RR_isPerson_20 : decode b_RR_isPerson 20 = .ok (.ireturn, 1) := by decide +kernel
theorem d_RR_person_0 : decode b_RR_person 0 = .ok (.aload_n 0, 1) := by decide +kernel
theorem d_RR_person_1 : decode b_RR_person 1 = .ok (.iload_n 1, 1) := by decide +kernel
theorem d_RR_person_2 : decode b_RR_person 2 = .ok (.invokevirtual 114, 3) := by decide +kernel
theorem d_RR_person_5 : decode b_RR_person 5 = .ok (.ifCond .eq 14, 3) := by decide +kernel
theorem d_RR_person_8 : decode b_RR_person 8 = .ok (.iload_n 2, 1) := by decide +kernel
theorem d_RR_person_9 : decode b_RR_person 9 = .ok (.ifCond .lt 10, 3) := by decide +kernel
theorem d_RR_person_12 : decode b_RR_person 12 = .ok (.iload_n 2, 1) := by decide +kernel
theorem d_RR_person_13 : decode b_RR_person 13 = .ok (.sipush 1024, 3) := by decide +kernel
theorem d_RR_person_16 : decode b_RR_person 16 = .ok (.if_icmp .lt 5, 3) := by decide +kernel
theorem d_RR_person_19 : decode b_RR_person 19 = .ok (.iconst (-1), 1) := by decide +kernel
theorem d_RR_person_20 : decode b_RR_person 20 = .ok (.ireturn, 1) := by decide +kernel
theorem d_RR_person_21 : decode b_RR_person 21 = .ok (.aload_n 0, 1) := by decide +kernel
theorem d_RR_person_22 : decode b_RR_person 22 = .ok (.getfield 53, 3) := by decide +kernel
theorem d_RR_person_25 : decode b_RR_person 25 = .ok (.getfield 117, 3) := by decide +kernel
theorem d_RR_person_28 : decode b_RR_person 28 = .ok (.iload_n 1, 1) := by decide +kernel
theorem d_RR_person_29 : decode b_RR_person 29 = .ok (.iload_n 2, 1) := by decide +kernel
theorem d_RR_person_30 : decode b_RR_person 30 = .ok (.iastore, 1) := by decide +kernel
theorem d_RR_person_31 : decode b_RR_person 31 = .ok (.iconst 1, 1) := by decide +kernel
theorem d_RR_person_32 : decode b_RR_person 32 = .ok (.ireturn, 1) := by decide +kernel
theorem d_RR_isShiftOrOff_0 : decode b_RR_isShiftOrOff 0 = .ok (.iload_n 1, 1) := by decide +kernel
theorem d_RR_isShiftOrOff_1 : decode b_RR_isShiftOrOff 1 = .ok (.iconst (-1), 1) := by decide +kernel
theorem d_RR_isShiftOrOff_2 : decode b_RR_isShiftOrOff 2 = .ok (.if_icmp .eq 11, 3) := by decide +kernel
theorem d_RR_isShiftOrOff_5 : decode b_RR_isShiftOrOff 5 = .ok (.aload_n 0, 1) := by decide +kernel
theorem d_RR_isShiftOrOff_6 : decode b_RR_isShiftOrOff 6 = .ok (.iload_n 1, 1) := by decide +kernel
theorem d_RR_isShiftOrOff_7 : decode b_RR_isShiftOrOff 7 = .ok (.invokevirtual 100, 3) := by decide +kernel
theorem d_RR_isShiftOrOff_10 : decode b_RR_isShiftOrOff 10 = .ok (.ifCond .eq 7, 3) := by decide +kernel
theorem d_RR_isShiftOrOff_13 : decode b_RR_isShiftOrOff 13 = .ok (.iconst 1, 1) := by decide +kernel
theorem d_RR_isShiftOrOff_14 : decode b_RR_isShiftOrOff 14 = .ok (.goto 4, 3) := by decide +kernel
theorem d_RR_isShiftOrOff_17 : decode b_RR_isShiftOrOff 17 = .ok (.iconst 0, 1) := by decide +kernel
theorem d_RR_isShiftOrOff_18 : decode b_RR_isShiftOrOff 18 = .ok (.ireturn, 1) := by decide +kernel
theorem d_RR_past_0 : decode b_RR_past 0 = .ok (.aload_n 0, 1) := by decide +kernel
theorem d_RR_past_1 : decode b_RR_past 1 = .ok (.iload_n 1, 1) := by decide +kernel
theorem d_RR_past_2 : decode b_RR_past 2 = .ok (.invokevirtual 114, 3) := by decide +kernel
theorem d_RR_past_5 : decode b_RR_past 5 = .ok (.ifCond .eq 22, 3) := by decide +kernel
theorem d_RR_past_8 : decode b_RR_past 8 = .ok (.iload_n 2, 1) := by decide +kernel
theorem d_RR_past_9 : decode b_RR_past 9 = .ok (.iconst 1, 1) := by decide +kernel
theorem d_RR_past_10 : decode b_RR_past 10 = .ok (.if_icmp .lt 17, 3) := by decide +kernel
theorem d_RR_past_13 : decode b_RR_past 13 = .ok (.iload_n 2, 1) := by decide +kernel
theorem d_RR_past_14 : decode b_RR_past 14 = .ok (.bipush 7, 2) := by decide +kernel
theorem d_RR_past_16 : decode b_RR_past 16 = .ok (.if_icmp .gt 11, 3) := by decide +kernel
theorem d_RR_past_19 : decode b_RR_past 19 = .ok (.aload_n 0, 1) := by decide +kernel
theorem d_RR_past_20 : decode b_RR_past 20 = .ok (.iload_n 3, 1) := by decide +kernel
theorem d_RR_past_21 : decode b_RR_past 21 = .ok (.invokevirtual 120, 3) := by decide +kernel
theorem d_RR_past_24 : decode b_RR_past 24 = .ok (.ifCond .ne 6, 3) := by decide +kernel
theorem d_RR_past_27 : decode b_RR_past 27 = .ok (.bipush (-9), 2) := by decide +kernel
theorem d_RR_past_29 : decode b_RR_past 29 = .ok (.ireturn, 1) := by decide +kernel
theorem d_RR_past_30 : decode b_RR_past 30 = .ok (.aload_n 0, 1) := by decide +kernel
theorem d_RR_past_31 : decode b_RR_past 31 = .ok (.getfield 53, 3) := by decide +kernel
theorem d_RR_past_34 : decode b_RR_past 34 = .ok (.getfield 123, 3) := by decide +kernel
theorem d_RR_past_37 : decode b_RR_past 37 = .ok (.iload_n 1, 1) := by decide +kernel
theorem d_RR_past_38 : decode b_RR_past 38 = .ok (.aaload, 1) := by decide +kernel
theorem d_RR_past_39 : decode b_RR_past 39 = .ok (.bipush 7, 2) := by decide +kernel
theorem d_RR_past_41 : decode b_RR_past 41 = .ok (.iload_n 2, 1) := by decide +kernel
theorem d_RR_past_42 : decode b_RR_past 42 = .ok (.isub, 1) := by decide +kernel
theorem d_RR_past_43 : decode b_RR_past 43 = .ok (.iaload, 1) := by decide +kernel
theorem d_RR_past_44 : decode b_RR_past 44 = .ok (.istore 4, 2) := by decide +kernel
theorem d_RR_past_46 : decode b_RR_past 46 = .ok (.aload_n 0, 1) := by decide +kernel
theorem d_RR_past_47 : decode b_RR_past 47 = .ok (.getfield 53, 3) := by decide +kernel
theorem d_RR_past_50 : decode b_RR_past 50 = .ok (.getfield 123, 3) := by decide +kernel
theorem d_RR_past_53 : decode b_RR_past 53 = .ok (.iload_n 1, 1) := by decide +kernel
theorem d_RR_past_54 : decode b_RR_past 54 = .ok (.aaload, 1) := by decide +kernel
theorem d_RR_past_55 : decode b_RR_past 55 = .ok (.bipush 7, 2) := by decide +kernel
theorem d_RR_past_57 : decode b_RR_past 57 = .ok (.iload_n 2, 1) := by decide +kernel
theorem d_RR_past_58 : decode b_RR_past 58 = .ok (.isub, 1) := by decide +kernel
theorem d_RR_past_59 : decode b_RR_past 59 = .ok (.iload_n 3, 1) := by decide +kernel
theorem d_RR_past_60 : decode b_RR_past 60 = .ok (.iconst 1, 1) := by decide +kernel
theorem d_RR_past_61 : decode b_RR_past 61 = .ok (.iadd, 1) := by decide +kernel
theorem d_RR_past_62 : decode b_RR_past 62 = .ok (.iastore, 1) := by decide +kernel
theorem d_RR_past_63 : decode b_RR_past 63 = .ok (.iload 4, 2) := by decide +kernel
theorem d_RR_past_65 : decode b_RR_past 65 = .ok (.iconst 1, 1) := by decide +kernel
theorem d_RR_past_66 : decode b_RR_past 66 = .ok (.isub, 1) := by decide +kernel
theorem d_RR_past_67 : decode b_RR_past 67 = .ok (.ireturn, 1) := by decide +kernel
theorem d_RR_isDay_0 : decode b_RR_isDay 0 = .ok (.iload_n 1, 1) := by decide +kernel
theorem d_RR_isDay_1 : decode b_RR_isDay 1 = .ok (.ifCond .lt 18, 3) := by decide +kernel
theorem d_RR_isDay_4 : decode b_RR_isDay 4 = .ok (.iload_n 1, 1) := by decide +kernel
theorem d_RR_isDay_5 : decode b_RR_isDay 5 = .ok (.aload_n 0, 1) := by decide +kernel
theorem d_RR_isDay_6 : decode b_RR_isDay 6 = .ok (.getfield 53, 3) := by decide +kernel
theorem d_RR_isDay_9 : decode b_RR_isDay 9 = .ok (.getfield 68, 3) := by decide +kernel
theorem d_RR_isDay_12 : decode b_RR_isDay 12 = .ok (.if_icmp .ge 7, 3) := by decide +kernel
theorem d_RR_isDay_15 : decode b_RR_isDay 15 = .ok (.iconst 1, 1) := by decide +kernel
theorem d_RR_isDay_16 : decode b_RR_isDay 16 = .ok (.goto 4, 3) := by decide +kernel
theorem d_RR_isDay_19 : decode b_RR_isDay 19 = .ok (.iconst 0, 1) := by decide +kernel
theorem d_RR_isDay_20 : decode b_RR_isDay 20 = .ok (.ireturn, 1) := by decide +kernel
theorem d_RR_isCell_0 : decode b_RR_isCell 0 = .ok (.aload_n 0, 1) := by decide +kernel
theorem d_RR_isCell_1 : decode b_RR_isCell 1 = .ok (.iload_n 1, 1) := by decide +kernel
theorem d_RR_isCell_2 : decode b_RR_isCell 2 = .ok (.invokevirtual 114, 3) := by decide +kernel
theorem d_RR_isCell_5 : decode b_RR_isCell 5 = .ok (.ifCond .eq 15, 3) := by decide +kernel
theorem d_RR_isCell_8 : decode b_RR_isCell 8 = .ok (.aload_n 0, 1) := by decide +kernel
theorem d_RR_isCell_9 : decode b_RR_isCell 9 = .ok (.iload_n 2, 1) := by decide +kernel
theorem d_RR_isCell_10 : decode b_RR_isCell 10 = .ok (.invokevirtual 187, 3) := by decide +kernel
theorem d_RR_isCell_13 : decode b_RR_isCell 13 = .ok (.ifCond .eq 7, 3) := by decide +kernel
theorem d_RR_isCell_16 : decode b_RR_isCell 16 = .ok (.iconst 1, 1) := by decide +kernel
theorem d_RR_isCell_17 : decode b_RR_isCell 17 = .ok (.goto 4, 3) := by decide +kernel
theorem d_RR_isCell_20 : decode b_RR_isCell 20 = .ok (.iconst 0, 1) := by decide +kernel
theorem d_RR_isCell_21 : decode b_RR_isCell 21 = .ok (.ireturn, 1) := by decide +kernel
theorem d_RR_wish_0 : decode b_RR_wish 0 = .ok (.aload_n 0, 1) := by decide +kernel
theorem d_RR_wish_1 : decode b_RR_wish 1 = .ok (.iload_n 1, 1) := by decide +kernel
theorem d_RR_wish_2 : decode b_RR_wish 2 = .ok (.iload_n 2, 1) := by decide +kernel
theorem d_RR_wish_3 : decode b_RR_wish 3 = .ok (.invokevirtual 127, 3) := by decide +kernel
theorem d_RR_wish_6 : decode b_RR_wish 6 = .ok (.ifCond .eq 24, 3) := by decide +kernel
theorem d_RR_wish_9 : decode b_RR_wish 9 = .ok (.aload_n 0, 1) := by decide +kernel
theorem d_RR_wish_10 : decode b_RR_wish 10 = .ok (.iload_n 3, 1) := by decide +kernel
theorem d_RR_wish_11 : decode b_RR_wish 11 = .ok (.invokevirtual 120, 3) := by decide +kernel
theorem d_RR_wish_14 : decode b_RR_wish 14 = .ok (.ifCond .eq 16, 3) := by decide +kernel
theorem d_RR_wish_17 : decode b_RR_wish 17 = .ok (.iload 4, 2) := by decide +kernel
theorem d_RR_wish_19 : decode b_RR_wish 19 = .ok (.ifCond .lt 11, 3) := by decide +kernel
theorem d_RR_wish_22 : decode b_RR_wish 22 = .ok (.iload 4, 2) := by decide +kernel
theorem d_RR_wish_24 : decode b_RR_wish 24 = .ok (.sipush 1000, 3) := by decide +kernel
theorem d_RR_wish_27 : decode b_RR_wish 27 = .ok (.if_icmp .le 5, 3) := by decide +kernel
theorem d_RR_wish_30 : decode b_RR_wish 30 = .ok (.iconst (-1), 1) := by decide +kernel
theorem d_RR_wish_31 : decode b_RR_wish 31 = .ok (.ireturn, 1) := by decide +kernel
theorem d_RR_wish_32 : decode b_RR_wish 32 = .ok (.aload_n 0, 1) := by decide +kernel
theorem d_RR_wish_33 : decode b_RR_wish 33 = .ok (.getfield 53, 3) := by decide +kernel
theorem d_RR_wish_36 : decode b_RR_wish 36 = .ok (.iload_n 1, 1) := by decide +kernel
theorem d_RR_wish_37 : decode b_RR_wish 37 = .ok (.iload_n 2, 1) := by decide +kernel
theorem d_RR_wish_38 : decode b_RR_wish 38 = .ok (.iload_n 3, 1) := by decide +kernel
theorem d_RR_wish_39 : decode b_RR_wish 39 = .ok (.iconst 1, 1) := by decide +kernel
theorem d_RR_wish_40 : decode b_RR_wish 40 = .ok (.iadd, 1) := by decide +kernel
theorem d_RR_wish_41 : decode b_RR_wish 41 = .ok (.iload 4, 2) := by decide +kernel
theorem d_RR_wish_43 : decode b_RR_wish 43 = .ok (.invokevirtual 131, 3) := by decide +kernel
theorem d_RR_wish_46 : decode b_RR_wish 46 = .ok (.iconst 1, 1) := by decide +kernel
theorem d_RR_wish_47 : decode b_RR_wish 47 = .ok (.ireturn, 1) := by decide +kernel
theorem d_RR_at_0 : decode b_RR_at 0 = .ok (.aload_n 0, 1) := by decide +kernel
theorem d_RR_at_1 : decode b_RR_at 1 = .ok (.iload_n 1, 1) := by decide +kernel
theorem d_RR_at_2 : decode b_RR_at 2 = .ok (.iload_n 2, 1) := by decide +kernel
theorem d_RR_at_3 : decode b_RR_at 3 = .ok (.invokevirtual 127, 3) := by decide +kernel
theorem d_RR_at_6 : decode b_RR_at 6 = .ok (.ifCond .eq 17, 3) := by decide +kernel
theorem d_RR_at_9 : decode b_RR_at 9 = .ok (.aload_n 0, 1) := by decide +kernel
theorem d_RR_at_10 : decode b_RR_at 10 = .ok (.getfield 53, 3) := by decide +kernel
theorem d_RR_at_13 : decode b_RR_at 13 = .ok (.iload_n 1, 1) := by decide +kernel
theorem d_RR_at_14 : decode b_RR_at 14 = .ok (.iload_n 2, 1) := by decide +kernel
theorem d_RR_at_15 : decode b_RR_at 15 = .ok (.invokevirtual 135, 3) := by decide +kernel
theorem d_RR_at_18 : decode b_RR_at 18 = .ok (.iconst 1, 1) := by decide +kernel
theorem d_RR_at_19 : decode b_RR_at 19 = .ok (.isub, 1) := by decide +kernel
theorem d_RR_at_20 : decode b_RR_at 20 = .ok (.goto 5, 3) := by decide +kernel
theorem d_RR_at_23 : decode b_RR_at 23 = .ok (.bipush (-9), 2) := by decide +kernel
theorem d_RR_at_25 : decode b_RR_at 25 = .ok (.ireturn, 1) := by decide +kernel
theorem d_RR_costAround_0 : decode b_RR_costAround 0 = .ok (.aload_n 0, 1) := by decide +kernel
theorem d_RR_costAround_1 : decode b_RR_costAround 1 = .ok (.getfield 53, 3) := by decide +kernel
theorem d_RR_costAround_4 : decode b_RR_costAround 4 = .ok (.iload_n 1, 1) := by decide +kernel
theorem d_RR_costAround_5 : decode b_RR_costAround 5 = .ok (.iload_n 2, 1) := by decide +kernel
theorem d_RR_costAround_6 : decode b_RR_costAround 6 = .ok (.invokevirtual 262, 3) := by decide +kernel
theorem d_RR_costAround_9 : decode b_RR_costAround 9 = .ok (.lstore_n 3, 1) := by decide +kernel
theorem d_RR_costAround_10 : decode b_RR_costAround 10 = .ok (.iconst 0, 1) := by decide +kernel
theorem d_RR_costAround_11 : decode b_RR_costAround 11 = .ok (.istore 5, 2) := by decide +kernel
theorem d_RR_costAround_13 : decode b_RR_costAround 13 = .ok (.iload 5, 2) := by decide +kernel
theorem d_RR_costAround_15 : decode b_RR_costAround 15 = .ok (.aload_n 0, 1) := by decide +kernel
theorem d_RR_costAround_16 : decode b_RR_costAround 16 = .ok (.getfield 94, 3) := by decide +kernel
theorem d_RR_costAround_19 : decode b_RR_costAround 19 = .ok (.if_icmp .ge 40, 3) := by decide +kernel
theorem d_RR_costAround_22 : decode b_RR_costAround 22 = .ok (.lload_n 3, 1) := by decide +kernel
theorem d_RR_costAround_23 : decode b_RR_costAround 23 = .ok (.aload_n 0, 1) := by decide +kernel
theorem d_RR_costAround_24 : decode b_RR_costAround 24 = .ok (.getfield 32, 3) := by decide +kernel
theorem d_RR_costAround_27 : decode b_RR_costAround 27 = .ok (.iload 5, 2) := by decide +kernel
theorem d_RR_costAround_29 : decode b_RR_costAround 29 = .ok (.aaload, 1) := by decide +kernel
theorem d_RR_costAround_30 : decode b_RR_costAround 30 = .ok (.getfield 201, 3) := by decide +kernel
theorem d_RR_costAround_33 : decode b_RR_costAround 33 = .ok (.i2l, 1) := by decide +kernel
theorem d_RR_costAround_34 : decode b_RR_costAround 34 = .ok (.aload_n 0, 1) := by decide +kernel
theorem d_RR_costAround_35 : decode b_RR_costAround 35 = .ok (.getfield 62, 3) := by decide +kernel
theorem d_RR_costAround_38 : decode b_RR_costAround 38 = .ok (.aload_n 0, 1) := by decide +kernel
theorem d_RR_costAround_39 : decode b_RR_costAround 39 = .ok (.getfield 32, 3) := by decide +kernel
theorem d_RR_costAround_42 : decode b_RR_costAround 42 = .ok (.iload 5, 2) := by decide +kernel
theorem d_RR_costAround_44 : decode b_RR_costAround 44 = .ok (.aaload, 1) := by decide +kernel
theorem d_RR_costAround_45 : decode b_RR_costAround 45 = .ok (.iload_n 1, 1) := by decide +kernel
theorem d_RR_costAround_46 : decode b_RR_costAround 46 = .ok (.iload_n 2, 1) := by decide +kernel
theorem d_RR_costAround_47 : decode b_RR_costAround 47 = .ok (.invokevirtual 266, 3) := by decide +kernel
theorem d_RR_costAround_50 : decode b_RR_costAround 50 = .ok (.lmul, 1) := by decide +kernel
theorem d_RR_costAround_51 : decode b_RR_costAround 51 = .ok (.ladd, 1) := by decide +kernel
theorem d_RR_costAround_52 : decode b_RR_costAround 52 = .ok (.lstore_n 3, 1) := by decide +kernel
theorem d_RR_costAround_53 : decode b_RR_costAround 53 = .ok (.iinc 5 1, 3) := by decide +kernel
theorem d_RR_costAround_56 : decode b_RR_costAround 56 = .ok (.goto (-43), 3) := by decide +kernel
theorem d_RR_costAround_59 : decode b_RR_costAround 59 = .ok (.lload_n 3, 1) := by decide +kernel
theorem d_RR_costAround_60 : decode b_RR_costAround 60 = .ok (.lreturn, 1) := by decide +kernel
theorem d_RR_differenceBy_0 : decode b_RR_differenceBy 0 = .ok (.aload_n 0, 1) := by decide +kernel
theorem d_RR_differenceBy_1 : decode b_RR_differenceBy 1 = .ok (.getfield 53, 3) := by decide +kernel
theorem d_RR_differenceBy_4 : decode b_RR_differenceBy 4 = .ok (.iload_n 1, 1) := by decide +kernel
theorem d_RR_differenceBy_5 : decode b_RR_differenceBy 5 = .ok (.iload_n 2, 1) := by decide +kernel
theorem d_RR_differenceBy_6 : decode b_RR_differenceBy 6 = .ok (.invokevirtual 135, 3) := by decide +kernel
theorem d_RR_differenceBy_9 : decode b_RR_differenceBy 9 = .ok (.istore 4, 2) := by decide +kernel
theorem d_RR_differenceBy_11 : decode b_RR_differenceBy 11 = .ok (.aload_n 0, 1) := by decide +kernel
theorem d_RR_differenceBy_12 : decode b_RR_differenceBy 12 = .ok (.iload_n 1, 1) := by decide +kernel
theorem d_RR_differenceBy_13 : decode b_RR_differenceBy 13 = .ok (.iload_n 2, 1) := by decide +kernel
theorem d_RR_differenceBy_14 : decode b_RR_differenceBy 14 = .ok (.invokevirtual 270, 3) := by decide +kernel
theorem d_RR_differenceBy_17 : decode b_RR_differenceBy 17 = .ok (.lstore 5, 2) := by decide +kernel
theorem d_RR_differenceBy_19 : decode b_RR_differenceBy 19 = .ok (.aload_n 0, 1) := by decide +kernel
theorem d_RR_differenceBy_20 : decode b_RR_differenceBy 20 = .ok (.getfield 53, 3) := by decide +kernel
theorem d_RR_differenceBy_23 : decode b_RR_differenceBy 23 = .ok (.iload_n 1, 1) := by decide +kernel
theorem d_RR_differenceBy_24 : decode b_RR_differenceBy 24 = .ok (.iload_n 2, 1) := by decide +kernel
theorem d_RR_differenceBy_25 : decode b_RR_differenceBy 25 = .ok (.iload_n 3, 1) := by decide +kernel
theorem d_RR_differenceBy_26 : decode b_RR_differenceBy 26 = .ok (.invokevirtual 162, 3) := by decide +kernel
theorem d_RR_differenceBy_29 : decode b_RR_differenceBy 29 = .ok (.aload_n 0, 1) := by decide +kernel
theorem d_RR_differenceBy_30 : decode b_RR_differenceBy 30 = .ok (.iload_n 1, 1) := by decide +kernel
theorem d_RR_differenceBy_31 : decode b_RR_differenceBy 31 = .ok (.iload_n 2, 1) := by decide +kernel
theorem d_RR_differenceBy_32 : decode b_RR_differenceBy 32 = .ok (.invokevirtual 270, 3) := by decide +kernel
theorem d_RR_differenceBy_35 : decode b_RR_differenceBy 35 = .ok (.lstore 7, 2) := by decide +kernel
theorem d_RR_differenceBy_37 : decode b_RR_differenceBy 37 = .ok (.aload_n 0, 1) := by decide +kernel
theorem d_RR_differenceBy_38 : decode b_RR_differenceBy 38 = .ok (.getfield 53, 3) := by decide +kernel
theorem d_RR_differenceBy_41 : decode b_RR_differenceBy 41 = .ok (.iload_n 1, 1) := by decide +kernel
theorem d_RR_differenceBy_42 : decode b_RR_differenceBy 42 = .ok (.iload_n 2, 1) := by decide +kernel
theorem d_RR_differenceBy_43 : decode b_RR_differenceBy 43 = .ok (.iload 4, 2) := by decide +kernel
theorem d_RR_differenceBy_45 : decode b_RR_differenceBy 45 = .ok (.invokevirtual 162, 3) := by decide +kernel
theorem d_RR_differenceBy_48 : decode b_RR_differenceBy 48 = .ok (.lload 7, 2) := by decide +kernel
theorem d_RR_differenceBy_50 : decode b_RR_differenceBy 50 = .ok (.lload 5, 2) := by decide +kernel
theorem d_RR_differenceBy_52 : decode b_RR_differenceBy 52 = .ok (.lsub, 1) := by decide +kernel
theorem d_RR_differenceBy_53 : decode b_RR_differenceBy 53 = .ok (.lreturn, 1) := by decide +kernel
theorem d_RR_keepCell_0 : decode b_RR_keepCell 0 = .ok (.aload_n 0, 1) := by decide +kernel
theorem d_RR_keepCell_1 : decode b_RR_keepCell 1 = .ok (.getfield 19, 3) := by decide +kernel
theorem d_RR_keepCell_4 : decode b_RR_keepCell 4 = .ok (.iload_n 1, 1) := by decide +kernel
theorem d_RR_keepCell_5 : decode b_RR_keepCell 5 = .ok (.iload_n 2, 1) := by decide +kernel
theorem d_RR_keepCell_6 : decode b_RR_keepCell 6 = .ok (.aload_n 0, 1) := by decide +kernel
theorem d_RR_keepCell_7 : decode b_RR_keepCell 7 = .ok (.getfield 53, 3) := by decide +kernel
theorem d_RR_keepCell_10 : decode b_RR_keepCell 10 = .ok (.iload_n 1, 1) := by decide +kernel
theorem d_RR_keepCell_11 : decode b_RR_keepCell 11 = .ok (.iload_n 2, 1) := by decide +kernel
theorem d_RR_keepCell_12 : decode b_RR_keepCell 12 = .ok (.invokevirtual 135, 3) := by decide +kernel
theorem d_RR_keepCell_15 : decode b_RR_keepCell 15 = .ok (.invokevirtual 273, 3) := by decide +kernel
theorem d_RR_keepCell_18 : decode b_RR_keepCell 18 = .ok (.aload_n 0, 1) := by decide +kernel
theorem d_RR_keepCell_19 : decode b_RR_keepCell 19 = .ok (.getfield 53, 3) := by decide +kernel
theorem d_RR_keepCell_22 : decode b_RR_keepCell 22 = .ok (.iload_n 1, 1) := by decide +kernel
theorem d_RR_keepCell_23 : decode b_RR_keepCell 23 = .ok (.iload_n 2, 1) := by decide +kernel
theorem d_RR_keepCell_24 : decode b_RR_keepCell 24 = .ok (.iload_n 3, 1) := by decide +kernel
theorem d_RR_keepCell_25 : decode b_RR_keepCell 25 = .ok (.invokevirtual 162, 3) := by decide +kernel
theorem d_RR_keepCell_28 : decode b_RR_keepCell 28 = .ok (.return_, 1) := by decide +kernel
theorem d_RR_put_0 : decode b_RR_put 0 = .ok (.aload_n 0, 1) := by decide +kernel
theorem d_RR_put_1 : decode b_RR_put 1 = .ok (.iload_n 1, 1) := by decide +kernel
theorem d_RR_put_2 : decode b_RR_put 2 = .ok (.iload_n 2, 1) := by decide +kernel
theorem d_RR_put_3 : decode b_RR_put 3 = .ok (.invokevirtual 127, 3) := by decide +kernel
theorem d_RR_put_6 : decode b_RR_put 6 = .ok (.ifCond .eq 11, 3) := by decide +kernel
theorem d_RR_put_9 : decode b_RR_put 9 = .ok (.aload_n 0, 1) := by decide +kernel
theorem d_RR_put_10 : decode b_RR_put 10 = .ok (.iload_n 3, 1) := by decide +kernel
theorem d_RR_put_11 : decode b_RR_put 11 = .ok (.invokevirtual 120, 3) := by decide +kernel
theorem d_RR_put_14 : decode b_RR_put 14 = .ok (.ifCond .ne 7, 3) := by decide +kernel
theorem d_RR_put_17 : decode b_RR_put 17 = .ok (.ldc2_w 138, 3) := by decide +kernel
theorem d_RR_put_20 : decode b_RR_put 20 = .ok (.lreturn, 1) := by decide +kernel
theorem d_RR_put_21 : decode b_RR_put 21 = .ok (.aload_n 0, 1) := by decide +kernel
theorem d_RR_put_22 : decode b_RR_put 22 = .ok (.iload_n 1, 1) := by decide +kernel
theorem d_RR_put_23 : decode b_RR_put 23 = .ok (.iload_n 2, 1) := by decide +kernel
theorem d_RR_put_24 : decode b_RR_put 24 = .ok (.iload_n 3, 1) := by decide +kernel
theorem d_RR_put_25 : decode b_RR_put 25 = .ok (.iconst 1, 1) := by decide +kernel
theorem d_RR_put_26 : decode b_RR_put 26 = .ok (.iadd, 1) := by decide +kernel
theorem d_RR_put_27 : decode b_RR_put 27 = .ok (.invokevirtual 140, 3) := by decide +kernel
theorem d_RR_put_30 : decode b_RR_put 30 = .ok (.lstore 4, 2) := by decide +kernel
theorem d_RR_put_32 : decode b_RR_put 32 = .ok (.aload_n 0, 1) := by decide +kernel
theorem d_RR_put_33 : decode b_RR_put 33 = .ok (.iload_n 1, 1) := by decide +kernel
theorem d_RR_put_34 : decode b_RR_put 34 = .ok (.iload_n 2, 1) := by decide +kernel
theorem d_RR_put_35 : decode b_RR_put 35 = .ok (.iload_n 3, 1) := by decide +kernel
theorem d_RR_put_36 : decode b_RR_put 36 = .ok (.iconst 1, 1) := by decide +kernel
theorem d_RR_put_37 : decode b_RR_put 37 = .ok (.iadd, 1) := by decide +kernel
theorem d_RR_put_38 : decode b_RR_put 38 = .ok (.invokevirtual 144, 3) := by decide +kernel
theorem d_RR_put_41 : decode b_RR_put 41 = .ok (.lload 4, 2) := by decide +kernel
theorem d_RR_put_43 : decode b_RR_put 43 = .ok (.lreturn, 1) := by decide +kernel
theorem d_RR_change_0 : decode b_RR_change 0 = .ok (.aload_n 0, 1) := by decide +kernel
theorem d_RR_change_1 : decode b_RR_change 1 = .ok (.iload_n 1, 1) := by decide +kernel
theorem d_RR_change_2 : decode b_RR_change 2 = .ok (.iload_n 2, 1) := by decide +kernel
theorem d_RR_change_3 : decode b_RR_change 3 = .ok (.invokevirtual 127, 3) := by decide +kernel
theorem d_RR_change_6 : decode b_RR_change 6 = .ok (.ifCond .eq 11, 3) := by decide +kernel
theorem d_RR_change_9 : decode b_RR_change 9 = .ok (.aload_n 0, 1) := by decide +kernel
theorem d_RR_change_10 : decode b_RR_change 10 = .ok (.iload_n 3, 1) := by decide +kernel
theorem d_RR_change_11 : decode b_RR_change 11 = .ok (.invokevirtual 120, 3) := by decide +kernel
theorem d_RR_change_14 : decode b_RR_change 14 = .ok (.ifCond .ne 7, 3) := by decide +kernel
theorem d_RR_change_17 : decode b_RR_change 17 = .ok (.ldc2_w 138, 3) := by decide +kernel
theorem d_RR_change_20 : decode b_RR_change 20 = .ok (.lreturn, 1) := by decide +kernel
theorem d_RR_change_21 : decode b_RR_change 21 = .ok (.aload_n 0, 1) := by decide +kernel
theorem d_RR_change_22 : decode b_RR_change 22 = .ok (.iload_n 1, 1) := by decide +kernel
theorem d_RR_change_23 : decode b_RR_change 23 = .ok (.iload_n 2, 1) := by decide +kernel
theorem d_RR_change_24 : decode b_RR_change 24 = .ok (.iload_n 3, 1) := by decide +kernel
theorem d_RR_change_25 : decode b_RR_change 25 = .ok (.iconst 1, 1) := by decide +kernel
theorem d_RR_change_26 : decode b_RR_change 26 = .ok (.iadd, 1) := by decide +kernel
theorem d_RR_change_27 : decode b_RR_change 27 = .ok (.invokevirtual 140, 3) := by decide +kernel
theorem d_RR_change_30 : decode b_RR_change 30 = .ok (.lreturn, 1) := by decide +kernel
theorem d_RR_undo_0 : decode b_RR_undo 0 = .ok (.aload_n 0, 1) := by decide +kernel
theorem d_RR_undo_1 : decode b_RR_undo 1 = .ok (.getfield 19, 3) := by decide +kernel
theorem d_RR_undo_4 : decode b_RR_undo 4 = .ok (.getfield 148, 3) := by decide +kernel
theorem d_RR_undo_7 : decode b_RR_undo 7 = .ok (.ifCond .ne 6, 3) := by decide +kernel
theorem d_RR_undo_10 : decode b_RR_undo 10 = .ok (.bipush (-2), 2) := by decide +kernel
theorem d_RR_undo_12 : decode b_RR_undo 12 = .ok (.ireturn, 1) := by decide +kernel
theorem d_RR_undo_13 : decode b_RR_undo 13 = .ok (.aload_n 0, 1) := by decide +kernel
theorem d_RR_undo_14 : decode b_RR_undo 14 = .ok (.getfield 19, 3) := by decide +kernel
theorem d_RR_undo_17 : decode b_RR_undo 17 = .ok (.getfield 151, 3) := by decide +kernel
theorem d_RR_undo_20 : decode b_RR_undo 20 = .ok (.istore_n 1, 1) := by decide +kernel
theorem d_RR_undo_21 : decode b_RR_undo 21 = .ok (.aload_n 0, 1) := by decide +kernel
theorem d_RR_undo_22 : decode b_RR_undo 22 = .ok (.getfield 53, 3) := by decide +kernel
theorem d_RR_undo_25 : decode b_RR_undo 25 = .ok (.aload_n 0, 1) := by decide +kernel
theorem d_RR_undo_26 : decode b_RR_undo 26 = .ok (.getfield 19, 3) := by decide +kernel
theorem d_RR_undo_29 : decode b_RR_undo 29 = .ok (.getfield 154, 3) := by decide +kernel
theorem d_RR_undo_32 : decode b_RR_undo 32 = .ok (.iload_n 1, 1) := by decide +kernel
theorem d_RR_undo_33 : decode b_RR_undo 33 = .ok (.iaload, 1) := by decide +kernel
theorem d_RR_undo_34 : decode b_RR_undo 34 = .ok (.aload_n 0, 1) := by decide +kernel
theorem d_RR_undo_35 : decode b_RR_undo 35 = .ok (.getfield 19, 3) := by decide +kernel
theorem d_RR_undo_38 : decode b_RR_undo 38 = .ok (.getfield 157, 3) := by decide +kernel
theorem d_RR_undo_41 : decode b_RR_undo 41 = .ok (.iload_n 1, 1) := by decide +kernel
theorem d_RR_undo_42 : decode b_RR_undo 42 = .ok (.iaload, 1) := by decide +kernel
theorem d_RR_undo_43 : decode b_RR_undo 43 = .ok (.aload_n 0, 1) := by decide +kernel
theorem d_RR_undo_44 : decode b_RR_undo 44 = .ok (.getfield 19, 3) := by decide +kernel
theorem d_RR_undo_47 : decode b_RR_undo 47 = .ok (.getfield 159, 3) := by decide +kernel
theorem d_RR_undo_50 : decode b_RR_undo 50 = .ok (.iload_n 1, 1) := by decide +kernel
theorem d_RR_undo_51 : decode b_RR_undo 51 = .ok (.iaload, 1) := by decide +kernel
theorem d_RR_undo_52 : decode b_RR_undo 52 = .ok (.invokevirtual 162, 3) := by decide +kernel
theorem d_RR_undo_55 : decode b_RR_undo 55 = .ok (.aload_n 0, 1) := by decide +kernel
theorem d_RR_undo_56 : decode b_RR_undo 56 = .ok (.getfield 19, 3) := by decide +kernel
theorem d_RR_undo_59 : decode b_RR_undo 59 = .ok (.invokevirtual 165, 3) := by decide +kernel
theorem d_RR_undo_62 : decode b_RR_undo 62 = .ok (.aload_n 0, 1) := by decide +kernel
theorem d_RR_undo_63 : decode b_RR_undo 63 = .ok (.getfield 19, 3) := by decide +kernel
theorem d_RR_undo_66 : decode b_RR_undo 66 = .ok (.getfield 148, 3) := by decide +kernel
theorem d_RR_undo_69 : decode b_RR_undo 69 = .ok (.ireturn, 1) := by decide +kernel
theorem d_RR_bestLetter_0 : decode b_RR_bestLetter 0 = .ok (.aload_n 0, 1) := by decide +kernel
theorem d_RR_bestLetter_1 : decode b_RR_bestLetter 1 = .ok (.getfield 53, 3) := by decide +kernel
theorem d_RR_bestLetter_4 : decode b_RR_bestLetter 4 = .ok (.iload_n 1, 1) := by decide +kernel
theorem d_RR_bestLetter_5 : decode b_RR_bestLetter 5 = .ok (.iload_n 2, 1) := by decide +kernel
theorem d_RR_bestLetter_6 : decode b_RR_bestLetter 6 = .ok (.invokevirtual 135, 3) := by decide +kernel
theorem d_RR_bestLetter_9 : decode b_RR_bestLetter 9 = .ok (.istore_n 3, 1) := by decide +kernel
theorem d_RR_bestLetter_10 : decode b_RR_bestLetter 10 = .ok (.iconst 0, 1) := by decide +kernel
theorem d_RR_bestLetter_11 : decode b_RR_bestLetter 11 = .ok (.istore 4, 2) := by decide +kernel
theorem d_RR_bestLetter_13 : decode b_RR_bestLetter 13 = .ok (.lconst 0, 1) := by decide +kernel
theorem d_RR_bestLetter_14 : decode b_RR_bestLetter 14 = .ok (.lstore 5, 2) := by decide +kernel
theorem d_RR_bestLetter_16 : decode b_RR_bestLetter 16 = .ok (.iconst 0, 1) := by decide +kernel
theorem d_RR_bestLetter_17 : decode b_RR_bestLetter 17 = .ok (.istore 7, 2) := by decide +kernel
theorem d_RR_bestLetter_19 : decode b_RR_bestLetter 19 = .ok (.iload 7, 2) := by decide +kernel
theorem d_RR_bestLetter_21 : decode b_RR_bestLetter 21 = .ok (.bipush 9, 2) := by decide +kernel
theorem d_RR_bestLetter_23 : decode b_RR_bestLetter 23 = .ok (.if_icmp .ge 49, 3) := by decide +kernel
theorem d_RR_bestLetter_26 : decode b_RR_bestLetter 26 = .ok (.aload_n 0, 1) := by decide +kernel
theorem d_RR_bestLetter_27 : decode b_RR_bestLetter 27 = .ok (.getfield 53, 3) := by decide +kernel
theorem d_RR_bestLetter_30 : decode b_RR_bestLetter 30 = .ok (.iload_n 1, 1) := by decide +kernel
theorem d_RR_bestLetter_31 : decode b_RR_bestLetter 31 = .ok (.iload_n 2, 1) := by decide +kernel
theorem d_RR_bestLetter_32 : decode b_RR_bestLetter 32 = .ok (.iload 7, 2) := by decide +kernel
theorem d_RR_bestLetter_34 : decode b_RR_bestLetter 34 = .ok (.invokevirtual 162, 3) := by decide +kernel
theorem d_RR_bestLetter_37 : decode b_RR_bestLetter 37 = .ok (.aload_n 0, 1) := by decide +kernel
theorem d_RR_bestLetter_38 : decode b_RR_bestLetter 38 = .ok (.iload_n 1, 1) := by decide +kernel
theorem d_RR_bestLetter_39 : decode b_RR_bestLetter 39 = .ok (.iload_n 2, 1) := by decide +kernel
theorem d_RR_bestLetter_40 : decode b_RR_bestLetter 40 = .ok (.invokevirtual 270, 3) := by decide +kernel
theorem d_RR_bestLetter_43 : decode b_RR_bestLetter 43 = .ok (.lstore 8, 2) := by decide +kernel
theorem d_RR_bestLetter_45 : decode b_RR_bestLetter 45 = .ok (.iload 7, 2) := by decide +kernel
theorem d_RR_bestLetter_47 : decode b_RR_bestLetter 47 = .ok (.ifCond .eq 11, 3) := by decide +kernel
theorem d_RR_bestLetter_50 : decode b_RR_bestLetter 50 = .ok (.lload 8, 2) := by decide +kernel
theorem d_RR_bestLetter_52 : decode b_RR_bestLetter 52 = .ok (.lload 5, 2) := by decide +kernel
theorem d_RR_bestLetter_54 : decode b_RR_bestLetter 54 = .ok (.lcmp, 1) := by decide +kernel
theorem d_RR_bestLetter_55 : decode b_RR_bestLetter 55 = .ok (.ifCond .ge 11, 3) := by decide +kernel
theorem d_RR_bestLetter_58 : decode b_RR_bestLetter 58 = .ok (.lload 8, 2) := by decide +kernel
theorem d_RR_bestLetter_60 : decode b_RR_bestLetter 60 = .ok (.lstore 5, 2) := by decide +kernel
theorem d_RR_bestLetter_62 : decode b_RR_bestLetter 62 = .ok (.iload 7, 2) := by decide +kernel
theorem d_RR_bestLetter_64 : decode b_RR_bestLetter 64 = .ok (.istore 4, 2) := by decide +kernel
theorem d_RR_bestLetter_66 : decode b_RR_bestLetter 66 = .ok (.iinc 7 1, 3) := by decide +kernel
theorem d_RR_bestLetter_69 : decode b_RR_bestLetter 69 = .ok (.goto (-50), 3) := by decide +kernel
theorem d_RR_bestLetter_72 : decode b_RR_bestLetter 72 = .ok (.aload_n 0, 1) := by decide +kernel
theorem d_RR_bestLetter_73 : decode b_RR_bestLetter 73 = .ok (.getfield 53, 3) := by decide +kernel
theorem d_RR_bestLetter_76 : decode b_RR_bestLetter 76 = .ok (.iload_n 1, 1) := by decide +kernel
theorem d_RR_bestLetter_77 : decode b_RR_bestLetter 77 = .ok (.iload_n 2, 1) := by decide +kernel
theorem d_RR_bestLetter_78 : decode b_RR_bestLetter 78 = .ok (.iload_n 3, 1) := by decide +kernel
theorem d_RR_bestLetter_79 : decode b_RR_bestLetter 79 = .ok (.invokevirtual 162, 3) := by decide +kernel
theorem d_RR_bestLetter_82 : decode b_RR_bestLetter 82 = .ok (.iload 4, 2) := by decide +kernel
theorem d_RR_bestLetter_84 : decode b_RR_bestLetter 84 = .ok (.ireturn, 1) := by decide +kernel
theorem d_RR_best_0 : decode b_RR_best 0 = .ok (.aload_n 0, 1) := by decide +kernel
theorem d_RR_best_1 : decode b_RR_best 1 = .ok (.iload_n 1, 1) := by decide +kernel
theorem d_RR_best_2 : decode b_RR_best 2 = .ok (.iload_n 2, 1) := by decide +kernel
theorem d_RR_best_3 : decode b_RR_best 3 = .ok (.invokevirtual 127, 3) := by decide +kernel
theorem d_RR_best_6 : decode b_RR_best 6 = .ok (.ifCond .eq 14, 3) := by decide +kernel
theorem d_RR_best_9 : decode b_RR_best 9 = .ok (.aload_n 0, 1) := by decide +kernel
theorem d_RR_best_10 : decode b_RR_best 10 = .ok (.iload_n 1, 1) := by decide +kernel
theorem d_RR_best_11 : decode b_RR_best 11 = .ok (.iload_n 2, 1) := by decide +kernel
theorem d_RR_best_12 : decode b_RR_best 12 = .ok (.invokevirtual 168, 3) := by decide +kernel
theorem d_RR_best_15 : decode b_RR_best 15 = .ok (.iconst 1, 1) := by decide +kernel
theorem d_RR_best_16 : decode b_RR_best 16 = .ok (.isub, 1) := by decide +kernel
theorem d_RR_best_17 : decode b_RR_best 17 = .ok (.goto 5, 3) := by decide +kernel
theorem d_RR_best_20 : decode b_RR_best 20 = .ok (.bipush (-9), 2) := by decide +kernel
theorem d_RR_best_22 : decode b_RR_best 22 = .ok (.ireturn, 1) := by decide +kernel
theorem d_RR_stepDown_0 : decode b_RR_stepDown 0 = .ok (.lconst 0, 1) := by decide +kernel
theorem d_RR_stepDown_1 : decode b_RR_stepDown 1 = .ok (.lstore_n 1, 1) := by decide +kernel
theorem d_RR_stepDown_2 : decode b_RR_stepDown 2 = .ok (.iconst 0, 1) := by decide +kernel
theorem d_RR_stepDown_3 : decode b_RR_stepDown 3 = .ok (.istore_n 3, 1) := by decide +kernel
theorem d_RR_stepDown_4 : decode b_RR_stepDown 4 = .ok (.iconst 0, 1) := by decide +kernel
theorem d_RR_stepDown_5 : decode b_RR_stepDown 5 = .ok (.istore 4, 2) := by decide +kernel
theorem d_RR_stepDown_7 : decode b_RR_stepDown 7 = .ok (.iconst 0, 1) := by decide +kernel
theorem d_RR_stepDown_8 : decode b_RR_stepDown 8 = .ok (.istore 5, 2) := by decide +kernel
theorem d_RR_stepDown_10 : decode b_RR_stepDown 10 = .ok (.iconst 0, 1) := by decide +kernel
theorem d_RR_stepDown_11 : decode b_RR_stepDown 11 = .ok (.istore 6, 2) := by decide +kernel
theorem d_RR_stepDown_13 : decode b_RR_stepDown 13 = .ok (.iload 6, 2) := by decide +kernel
theorem d_RR_stepDown_15 : decode b_RR_stepDown 15 = .ok (.aload_n 0, 1) := by decide +kernel
theorem d_RR_stepDown_16 : decode b_RR_stepDown 16 = .ok (.getfield 53, 3) := by decide +kernel
theorem d_RR_stepDown_19 : decode b_RR_stepDown 19 = .ok (.getfield 252, 3) := by decide +kernel
theorem d_RR_stepDown_22 : decode b_RR_stepDown 22 = .ok (.if_icmp .ge 73, 3) := by decide +kernel
theorem d_RR_stepDown_25 : decode b_RR_stepDown 25 = .ok (.iconst 0, 1) := by decide +kernel
theorem d_RR_stepDown_26 : decode b_RR_stepDown 26 = .ok (.istore 7, 2) := by decide +kernel
theorem d_RR_stepDown_28 : decode b_RR_stepDown 28 = .ok (.iload 7, 2) := by decide +kernel
theorem d_RR_stepDown_30 : decode b_RR_stepDown 30 = .ok (.aload_n 0, 1) := by decide +kernel
theorem d_RR_stepDown_31 : decode b_RR_stepDown 31 = .ok (.getfield 53, 3) := by decide +kernel
theorem d_RR_stepDown_34 : decode b_RR_stepDown 34 = .ok (.getfield 68, 3) := by decide +kernel
theorem d_RR_stepDown_37 : decode b_RR_stepDown 37 = .ok (.if_icmp .ge 52, 3) := by decide +kernel
theorem d_RR_stepDown_40 : decode b_RR_stepDown 40 = .ok (.aload_n 0, 1) := by decide +kernel
theorem d_RR_stepDown_41 : decode b_RR_stepDown 41 = .ok (.iload 6, 2) := by decide +kernel
theorem d_RR_stepDown_43 : decode b_RR_stepDown 43 = .ok (.iload 7, 2) := by decide +kernel
theorem d_RR_stepDown_45 : decode b_RR_stepDown 45 = .ok (.invokevirtual 168, 3) := by decide +kernel
theorem d_RR_stepDown_48 : decode b_RR_stepDown 48 = .ok (.istore 8, 2) := by decide +kernel
theorem d_RR_stepDown_50 : decode b_RR_stepDown 50 = .ok (.aload_n 0, 1) := by decide +kernel
theorem d_RR_stepDown_51 : decode b_RR_stepDown 51 = .ok (.iload 6, 2) := by decide +kernel
theorem d_RR_stepDown_53 : decode b_RR_stepDown 53 = .ok (.iload 7, 2) := by decide +kernel
theorem d_RR_stepDown_55 : decode b_RR_stepDown 55 = .ok (.iload 8, 2) := by decide +kernel
theorem d_RR_stepDown_57 : decode b_RR_stepDown 57 = .ok (.invokevirtual 140, 3) := by decide +kernel
theorem d_RR_stepDown_60 : decode b_RR_stepDown 60 = .ok (.lstore 9, 2) := by decide +kernel
theorem d_RR_stepDown_62 : decode b_RR_stepDown 62 = .ok (.lload 9, 2) := by decide +kernel
theorem d_RR_stepDown_64 : decode b_RR_stepDown 64 = .ok (.lload_n 1, 1) := by decide +kernel
theorem d_RR_stepDown_65 : decode b_RR_stepDown 65 = .ok (.lcmp, 1) := by decide +kernel
theorem d_RR_stepDown_66 : decode b_RR_stepDown 66 = .ok (.ifCond .ge 17, 3) := by decide +kernel
theorem d_RR_stepDown_69 : decode b_RR_stepDown 69 = .ok (.lload 9, 2) := by decide +kernel
theorem d_RR_stepDown_71 : decode b_RR_stepDown 71 = .ok (.lstore_n 1, 1) := by decide +kernel
theorem d_RR_stepDown_72 : decode b_RR_stepDown 72 = .ok (.iload 6, 2) := by decide +kernel
theorem d_RR_stepDown_74 : decode b_RR_stepDown 74 = .ok (.istore_n 3, 1) := by decide +kernel
theorem d_RR_stepDown_75 : decode b_RR_stepDown 75 = .ok (.iload 7, 2) := by decide +kernel
theorem d_RR_stepDown_77 : decode b_RR_stepDown 77 = .ok (.istore 4, 2) := by decide +kernel
theorem d_RR_stepDown_79 : decode b_RR_stepDown 79 = .ok (.iload 8, 2) := by decide +kernel
theorem d_RR_stepDown_81 : decode b_RR_stepDown 81 = .ok (.istore 5, 2) := by decide +kernel
theorem d_RR_stepDown_83 : decode b_RR_stepDown 83 = .ok (.iinc 7 1, 3) := by decide +kernel
theorem d_RR_stepDown_86 : decode b_RR_stepDown 86 = .ok (.goto (-58), 3) := by decide +kernel
theorem d_RR_stepDown_89 : decode b_RR_stepDown 89 = .ok (.iinc 6 1, 3) := by decide +kernel
theorem d_RR_stepDown_92 : decode b_RR_stepDown 92 = .ok (.goto (-79), 3) := by decide +kernel
theorem d_RR_stepDown_95 : decode b_RR_stepDown 95 = .ok (.lload_n 1, 1) := by decide +kernel
theorem d_RR_stepDown_96 : decode b_RR_stepDown 96 = .ok (.lconst 0, 1) := by decide +kernel
theorem d_RR_stepDown_97 : decode b_RR_stepDown 97 = .ok (.lcmp, 1) := by decide +kernel
theorem d_RR_stepDown_98 : decode b_RR_stepDown 98 = .ok (.ifCond .ge 12, 3) := by decide +kernel
theorem d_RR_stepDown_101 : decode b_RR_stepDown 101 = .ok (.aload_n 0, 1) := by decide +kernel
theorem d_RR_stepDown_102 : decode b_RR_stepDown 102 = .ok (.iload_n 3, 1) := by decide +kernel
theorem d_RR_stepDown_103 : decode b_RR_stepDown 103 = .ok (.iload 4, 2) := by decide +kernel
theorem d_RR_stepDown_105 : decode b_RR_stepDown 105 = .ok (.iload 5, 2) := by decide +kernel
theorem d_RR_stepDown_107 : decode b_RR_stepDown 107 = .ok (.invokevirtual 144, 3) := by decide +kernel
theorem d_RR_stepDown_110 : decode b_RR_stepDown 110 = .ok (.lload_n 1, 1) := by decide +kernel
theorem d_RR_stepDown_111 : decode b_RR_stepDown 111 = .ok (.lconst 0, 1) := by decide +kernel
theorem d_RR_stepDown_112 : decode b_RR_stepDown 112 = .ok (.lcmp, 1) := by decide +kernel
theorem d_RR_stepDown_113 : decode b_RR_stepDown 113 = .ok (.ifCond .ge 7, 3) := by decide +kernel
theorem d_RR_stepDown_116 : decode b_RR_stepDown 116 = .ok (.iconst 1, 1) := by decide +kernel
theorem d_RR_stepDown_117 : decode b_RR_stepDown 117 = .ok (.goto 4, 3) := by decide +kernel
theorem d_RR_stepDown_120 : decode b_RR_stepDown 120 = .ok (.iconst 0, 1) := by decide +kernel
theorem d_RR_stepDown_121 : decode b_RR_stepDown 121 = .ok (.ireturn, 1) := by decide +kernel
theorem d_RR_descend_0 : decode b_RR_descend 0 = .ok (.iload_n 1, 1) := by decide +kernel
theorem d_RR_descend_1 : decode b_RR_descend 1 = .ok (.ifCond .lt 8, 3) := by decide +kernel
theorem d_RR_descend_4 : decode b_RR_descend 4 = .ok (.iload_n 1, 1) := by decide +kernel
theorem d_RR_descend_5 : decode b_RR_descend 5 = .ok (.iconst 3, 1) := by decide +kernel
theorem d_RR_descend_6 : decode b_RR_descend 6 = .ok (.if_icmp .le 5, 3) := by decide +kernel
theorem d_RR_descend_9 : decode b_RR_descend 9 = .ok (.iconst (-1), 1) := by decide +kernel
theorem d_RR_descend_10 : decode b_RR_descend 10 = .ok (.ireturn, 1) := by decide +kernel
theorem d_RR_descend_11 : decode b_RR_descend 11 = .ok (.iconst 0, 1) := by decide +kernel
theorem d_RR_descend_12 : decode b_RR_descend 12 = .ok (.istore_n 2, 1) := by decide +kernel
theorem d_RR_descend_13 : decode b_RR_descend 13 = .ok (.iload_n 2, 1) := by decide +kernel
theorem d_RR_descend_14 : decode b_RR_descend 14 = .ok (.iload_n 1, 1) := by decide +kernel
theorem d_RR_descend_15 : decode b_RR_descend 15 = .ok (.if_icmp .ge 16, 3) := by decide +kernel
theorem d_RR_descend_18 : decode b_RR_descend 18 = .ok (.aload_n 0, 1) := by decide +kernel
theorem d_RR_descend_19 : decode b_RR_descend 19 = .ok (.invokevirtual 171, 3) := by decide +kernel
theorem d_RR_descend_22 : decode b_RR_descend 22 = .ok (.ifCond .eq 9, 3) := by decide +kernel
theorem d_RR_descend_25 : decode b_RR_descend 25 = .ok (.iinc 2 1, 3) := by decide +kernel
theorem d_RR_descend_28 : decode b_RR_descend 28 = .ok (.goto (-15), 3) := by decide +kernel
theorem d_RR_descend_31 : decode b_RR_descend 31 = .ok (.iload_n 2, 1) := by decide +kernel
theorem d_RR_descend_32 : decode b_RR_descend 32 = .ok (.ireturn, 1) := by decide +kernel
theorem d_RR_isLaw_0 : decode b_RR_isLaw 0 = .ok (.iload_n 1, 1) := by decide +kernel
theorem d_RR_isLaw_1 : decode b_RR_isLaw 1 = .ok (.ifCond .lt 15, 3) := by decide +kernel
theorem d_RR_isLaw_4 : decode b_RR_isLaw 4 = .ok (.iload_n 1, 1) := by decide +kernel
theorem d_RR_isLaw_5 : decode b_RR_isLaw 5 = .ok (.aload_n 0, 1) := by decide +kernel
theorem d_RR_isLaw_6 : decode b_RR_isLaw 6 = .ok (.getfield 94, 3) := by decide +kernel
theorem d_RR_isLaw_9 : decode b_RR_isLaw 9 = .ok (.if_icmp .ge 7, 3) := by decide +kernel
theorem d_RR_isLaw_12 : decode b_RR_isLaw 12 = .ok (.iconst 1, 1) := by decide +kernel
