theorem d_RR_isCell_21 : decode b_RR_isCell 21 = .ok (.ireturn, 1) := by decide +kernel
theorem d_RR_wish_0 : decode b_RR_wish 0 = .ok (.aload_n 0, 1) := by decide +kernel
theorem d_RR_wish_1 : decode b_RR_wish 1 = .ok (.iload_n 1, 1) := by decide +kernel
theorem d_RR_wish_2 : decode b_RR_wish 2 = .ok (.iload_n 2, 1) := by decide +kernel
theorem d_RR_wish_3 : decode b_RR_wish 3 = .ok (.invokevirtual 127, 3) := by decide +kernel
theorem d_RR_wish_6 : decode b_RR_wish 6 = .ok (.ifCond .eq 24, 3) := by decide +kernel
theorem d_RR_wish_9 : decode b_RR_wish 9 = .ok (.aload_n 0, 1) := by decide +kernel
theorem d_RR_wish_10 : decode b_RR_wish 10 = .ok (.iload_n 3, 1) := by decide +kernel
theorem d_RR_wish_11 : decode b_RR_wish 11 = .ok (.invokevirtual 120, 3) := by decide +kernel
theorem d_RR_wish_14 : decode b_RR_wish 14 = .ok (.ifCond .eq 16, 3) := by decide +kernel
theorem d_RR_wish_17 : decode b_RR_wish 17 = .ok (.iload 4, 2) := by decide +kernel
theorem d_RR_wish_19 : decode b_RR_wish 19 = .ok (.ifCond .lt 11, 3) := by decide +kernel
theorem d_RR_wish_22 : decode b_RR_wish 22 = .ok (.iload 4, 2) := by decide +kernel
theorem d_RR_wish_24 : decode b_RR_wish 24 = .ok (.sipush 1000, 3) := by decide +kernel
theorem d_RR_wish_27 : decode b_RR_wish 27 = .ok (.if_icmp .le 5, 3) := by decide +kernel
theorem d_RR_wish_30 : decode b_RR_wish 30 = .ok (.iconst (-1), 1) := by decide +kernel
theorem d_RR_wish_31 : decode b_RR_wish 31 = .ok (.ireturn, 1) := by decide +kernel
theorem d_RR_wish_32 : decode b_RR_wish 32 = .ok (.aload_n 0, 1) := by decide +kernel
theorem d_RR_wish_33 : decode b_RR_wish 33 = .ok (.getfield 53, 3) := by decide +kernel
theorem d_RR_wish_36 : decode b_RR_wish 36 = .ok (.iload_n 1, 1) := by decide +kernel
theorem d_RR_wish_37 : decode b_RR_wish 37 = .ok (.iload_n 2, 1) := by decide +kernel
theorem d_RR_wish_38 : decode b_RR_wish 38 = .ok (.iload_n 3, 1) := by decide +kernel
theorem d_RR_wish_39 : decode b_RR_wish 39 = .ok (.iconst 1, 1) := by decide +kernel
theorem d_RR_wish_40 : decode b_RR_wish 40 = .ok (.iadd, 1) := by decide +kernel
theorem d_RR_wish_41 : decode b_RR_wish 41 = .ok (.iload 4, 2) := by decide +kernel
theorem d_RR_wish_43 : decode b_RR_wish 43 = .ok (.invokevirtual 131, 3) := by decide +kernel
theorem d_RR_wish_46 : decode b_RR_wish 46 = .ok (.iconst 1, 1) := by decide +kernel
theorem d_RR_wish_47 : decode b_RR_wish 47 = .ok (.ireturn, 1) := by decide +kernel
theorem d_RR_at_0 : decode b_RR_at 0 = .ok (.aload_n 0, 1) := by decide +kernel
theorem d_RR_at_1 : decode b_RR_at 1 = .ok (.iload_n 1, 1) := by decide +kernel
theorem d_RR_at_2 : decode b_RR_at 2 = .ok (.iload_n 2, 1) := by decide +kernel
theorem d_RR_at_3 : decode b_RR_at 3 = .ok (.invokevirtual 127, 3) := by decide +kernel
theorem d_RR_at_6 : decode b_RR_at 6 = .ok (.ifCond .eq 17, 3) := by decide +kernel
theorem d_RR_at_9 : decode b_RR_at 9 = .ok (.aload_n 0, 1) := by decide +kernel
theorem d_RR_at_10 : decode b_RR_at 10 = .ok (.getfield 53, 3) := by decide +kernel
theorem d_RR_at_13 : decode b_RR_at 13 = .ok (.iload_n 1, 1) := by decide +kernel
theorem d_RR_at_14 : decode b_RR_at 14 = .ok (.iload_n 2, 1) := by decide +kernel
theorem d_RR_at_15 : decode b_RR_at 15 = .ok (.invokevirtual 135, 3) := by decide +kernel
theorem d_RR_at_18 : decode b_RR_at 18 = .ok (.iconst 1, 1) := by decide +kernel
theorem d_RR_at_19 : decode b_RR_at 19 = .ok (.isub, 1) := by decide +kernel
theorem d_RR_at_20 : decode b_RR_at 20 = .ok (.goto 5, 3) := by decide +kernel
theorem d_RR_at_23 : decode b_RR_at 23 = .ok (.bipush (-9), 2) := by decide +kernel
theorem d_RR_at_25 : decode b_RR_at 25 = .ok (.ireturn, 1) := by decide +kernel
theorem d_RR_costAround_0 : decode b_RR_costAround 0 = .ok (.aload_n 0, 1) := by decide +kernel
theorem d_RR_costAround_1 : decode b_RR_costAround 1 = .ok (.getfield 53, 3) := by decide +kernel
theorem d_RR_costAround_4 : decode b_RR_costAround 4 = .ok (.iload_n 1, 1) := by decide +kernel
theorem d_RR_costAround_5 : decode b_RR_costAround 5 = .ok (.iload_n 2, 1) := by decide +kernel
theorem d_RR_costAround_6 : decode b_RR_costAround 6 = .ok (.invokevirtual 262, 3) := by decide +kernel
theorem d_RR_costAround_9 : decode b_RR_costAround 9 = .ok (.lstore_n 3, 1) := by decide +kernel
theorem d_RR_costAround_10 : decode b_RR_costAround 10 = .ok (.iconst 0, 1) := by decide +kernel
theorem d_RR_costAround_11 : decode b_RR_costAround 11 = .ok (.istore 5, 2) := by decide +kernel
theorem d_RR_costAround_13 : decode b_RR_costAround 13 = .ok (.iload 5, 2) := by decide +kernel
theorem d_RR_costAround_15 : decode b_RR_costAround 15 = .ok (.aload_n 0, 1) := by decide +kernel
theorem d_RR_costAround_16 : decode b_RR_costAround 16 = .ok (.getfield 94, 3) := by decide +kernel
theorem d_RR_costAround_19 : decode b_RR_costAround 19 = .ok (.if_icmp .ge 40, 3) := by decide +kernel
theorem d_RR_costAround_22 : decode b_RR_costAround 22 = .ok (.lload_n 3, 1) := by decide +kernel
theorem d_RR_costAround_23 : decode b_RR_costAround 23 = .ok (.aload_n 0, 1) := by decide +kernel
theorem d_RR_costAround_24 : decode b_RR_costAround 24 = .ok (.getfield 32, 3) := by decide +kernel
theorem d_RR_costAround_27 : decode b_RR_costAround 27 = .ok (.iload 5, 2) := by decide +kernel
theorem d_RR_costAround_29 : decode b_RR_costAround 29 = .ok (.aaload, 1) := by decide +kernel
theorem d_RR_costAround_30 : decode b_RR_costAround 30 = .ok (.getfield 201, 3) := by decide +kernel
theorem d_RR_costAround_33 : decode b_RR_costAround 33 = .ok (.i2l, 1) := by decide +kernel
theorem d_RR_costAround_34 : decode b_RR_costAround 34 = .ok (.aload_n 0, 1) := by decide +kernel
theorem d_RR_costAround_35 : decode b_RR_costAround 35 = .ok (.getfield 62, 3) := by decide +kernel
theorem d_RR_costAround_38 : decode b_RR_costAround 38 = .ok (.aload_n 0, 1) := by decide +kernel
theorem d_RR_costAround_39 : decode b_RR_costAround 39 = .ok (.getfield 32, 3) := by decide +kernel
theorem d_RR_costAround_42 : decode b_RR_costAround 42 = .ok (.iload 5, 2) := by decide +kernel
theorem d_RR_costAround_44 : decode b_RR_costAround 44 = .ok (.aaload, 1) := by decide +kernel
theorem d_RR_costAround_45 : decode b_RR_costAround 45 = .ok (.iload_n 1, 1) := by decide +kernel
theorem d_RR_costAround_46 : decode b_RR_costAround 46 = .ok (.iload_n 2, 1) := by decide +kernel
theorem d_RR_costAround_47 : decode b_RR_costAround 47 = .ok (.invokevirtual 266, 3) := by decide +kernel
theorem d_RR_costAround_50 : decode b_RR_costAround 50 = .ok (.lmul, 1) := by decide +kernel
theorem d_RR_costAround_51 : decode b_RR_costAround 51 = .ok (.ladd, 1) := by decide +kernel
theorem d_RR_costAround_52 : decode b_RR_costAround 52 = .ok (.lstore_n 3, 1) := by decide +kernel
theorem d_RR_costAround_53 : decode b_RR_costAround 53 = .ok (.iinc 5 1, 3) := by decide +kernel
theorem d_RR_costAround_56 : decode b_RR_costAround 56 = .ok (.goto (-43), 3) := by decide +kernel
theorem d_RR_costAround_59 : decode b_RR_costAround 59 = .ok (.lload_n 3, 1) := by decide +kernel
theorem d_RR_costAround_60 : decode b_RR_costAround 60 = .ok (.lreturn, 1) := by decide +kernel
theorem d_RR_differenceBy_0 : decode b_RR_differenceBy 0 = .ok (.aload_n 0, 1) := by decide +kernel
theorem d_RR_differenceBy_1 : decode b_RR_differenceBy 1 = .ok (.getfield 53, 3) := by decide +kernel
theorem d_RR_differenceBy_4 : decode b_RR_differenceBy 4 = .ok (.iload_n 1, 1) := by decide +kernel
theorem d_RR_differenceBy_5 : decode b_RR_differenceBy 5 = .ok (.iload_n 2, 1) := by decide +kernel
theorem d_RR_differenceBy_6 : decode b_RR_differenceBy 6 = .ok (.invokevirtual 135, 3) := by decide +kernel
theorem d_RR_differenceBy_9 : decode b_RR_differenceBy 9 = .ok (.istore 4, 2) := by decide +kernel
theorem d_RR_differenceBy_11 : decode b_RR_differenceBy 11 = .ok (.aload_n 0, 1) := by decide +kernel
theorem d_RR_differenceBy_12 : decode b_RR_differenceBy 12 = .ok (.iload_n 1, 1) := by decide +kernel
theorem d_RR_differenceBy_13 : decode b_RR_differenceBy 13 = .ok (.iload_n 2, 1) := by decide +kernel
theorem d_RR_differenceBy_14 : decode b_RR_differenceBy 14 = .ok (.invokevirtual 270, 3) := by decide +kernel
theorem d_RR_differenceBy_17 : decode b_RR_differenceBy 17 = .ok (.lstore 5, 2) := by decide +kernel
theorem d_RR_differenceBy_19 : decode b_RR_differenceBy 19 = .ok (.aload_n 0, 1) := by decide +kernel
theorem d_RR_differenceBy_20 : decode b_RR_differenceBy 20 = .ok (.getfield 53, 3) := by decide +kernel
theorem d_RR_differenceBy_23 : decode b_RR_differenceBy 23 = .ok (.iload_n 1, 1) := by decide +kernel
theorem d_RR_differenceBy_24 : decode b_RR_differenceBy 24 = .ok (.iload_n 2, 1) := by decide +kernel
theorem d_RR_differenceBy_25 : decode b_RR_differenceBy 25 = .ok (.iload_n 3, 1) := by decide +kernel
theorem d_RR_differenceBy_26 : decode b_RR_differenceBy 26 = .ok (.invokevirtual 162, 3) := by decide +kernel
theorem d_RR_differenceBy_29 : decode b_RR_differenceBy 29 = .ok (.aload_n 0, 1) := by decide +kernel
theorem d_RR_differenceBy_30 : decode b_RR_differenceBy 30 = .ok (.iload_n 1, 1) := by decide +kernel
theorem d_RR_differenceBy_31 : decode b_RR_differenceBy 31 = .ok (.iload_n 2, 1) := by decide +kernel
theorem d_RR_differenceBy_32 : decode b_RR_differenceBy 32 = .ok (.invokevirtual 270, 3) := by decide +kernel
theorem d_RR_differenceBy_35 : decode b_RR_differenceBy 35 = .ok (.lstore 7, 2) := by decide +kernel
theorem d_RR_differenceBy_37 : decode b_RR_differenceBy 37 = .ok (.aload_n 0, 1) := by decide +kernel
theorem d_RR_differenceBy_38 : decode b_RR_differenceBy 38 = .ok (.getfield 53, 3) := by decide +kernel
theorem d_RR_differenceBy_41 : decode b_RR_differenceBy 41 = .ok (.iload_n 1, 1) := by decide +kernel
theorem d_RR_differenceBy_42 : decode b_RR_differenceBy 42 = .ok (.iload_n 2, 1) := by decide +kernel
theorem d_RR_differenceBy_43 : decode b_RR_differenceBy 43 = .ok (.iload 4, 2) := by decide +kernel
theorem d_RR_differenceBy_45 : decode b_RR_differenceBy 45 = .ok (.invokevirtual 162, 3) := by decide +kernel
theorem d_RR_differenceBy_48 : decode b_RR_differenceBy 48 = .ok (.lload 7, 2) := by decide +kernel
theorem d_RR_differenceBy_50 : decode b_RR_differenceBy 50 = .ok (.lload 5, 2) := by decide +kernel
theorem d_RR_differenceBy_52 : decode b_RR_differenceBy 52 = .ok (.lsub, 1) := by decide +kernel
theorem d_RR_differenceBy_53 : decode b_RR_differenceBy 53 = .ok (.lreturn, 1) := by decide +kernel
theorem d_RR_keepCell_0 : decode b_RR_keepCell 0 = .ok (.aload_n 0, 1) := by decide +kernel
theorem d_RR_keepCell_1 : decode b_RR_keepCell 1 = .ok (.getfield 19, 3) := by decide +kernel
theorem d_RR_keepCell_4 : decode b_RR_keepCell 4 = .ok (.iload_n 1, 1) := by decide +kernel
theorem d_RR_keepCell_5 : decode b_RR_keepCell 5 = .ok (.iload_n 2, 1) := by decide +kernel
theorem d_RR_keepCell_6 : decode b_RR_keepCell 6 = .ok (.aload_n 0, 1) := by decide +kernel
theorem d_RR_keepCell_7 : decode b_RR_keepCell 7 = .ok (.getfield 53, 3) := by decide +kernel
theorem d_RR_keepCell_10 : decode b_RR_keepCell 10 = .ok (.iload_n 1, 1) := by decide +kernel
theorem d_RR_keepCell_11 : decode b_RR_keepCell 11 = .ok (.iload_n 2, 1) := by decide +kernel
theorem d_RR_keepCell_12 : decode b_RR_keepCell 12 = .ok (.invokevirtual 135, 3) := by decide +kernel
theorem d_RR_keepCell_15 : decode b_RR_keepCell 15 = .ok (.invokevirtual 273, 3) := by decide +kernel
theorem d_RR_keepCell_18 : decode b_RR_keepCell 18 = .ok (.aload_n 0, 1) := by decide +kernel
theorem d_RR_keepCell_19 : decode b_RR_keepCell 19 = .ok (.getfield 53, 3) := by decide +kernel
theorem d_RR_keepCell_22 : decode b_RR_keepCell 22 = .ok (.iload_n 1, 1) := by decide +kernel
theorem d_RR_keepCell_23 : decode b_RR_keepCell 23 = .ok (.iload_n 2, 1) := by decide +kernel
theorem d_RR_keepCell_24 : decode b_RR_keepCell 24 = .ok (.iload_n 3, 1) := by decide +kernel
theorem d_RR_keepCell_25 : decode b_RR_keepCell 25 = .ok (.invokevirtual 162, 3) := by decide +kernel
theorem d_RR_keepCell_28 : decode b_RR_keepCell 28 = .ok (.return_, 1) := by decide +kernel
theorem d_RR_put_0 : decode b_RR_put 0 = .ok (.aload_n 0, 1) := by decide +kernel
theorem d_RR_put_1 : decode b_RR_put 1 = .ok (.iload_n 1, 1) := by decide +kernel
theorem d_RR_put_2 : decode b_RR_put 2 = .ok (.iload_n 2, 1) := by decide +kernel
theorem d_RR_put_3 : decode b_RR_put 3 = .ok (.invokevirtual 127, 3) := by decide +kernel
theorem d_RR_put_6 : decode b_RR_put 6 = .ok (.ifCond .eq 11, 3) := by decide +kernel
theorem d_RR_put_9 : decode b_RR_put 9 = .ok (.aload_n 0, 1) := by decide +kernel
theorem d_RR_put_10 : decode b_RR_put 10 = .ok (.iload_n 3, 1) := by decide +kernel
theorem d_RR_put_11 : decode b_RR_put 11 = .ok (.invokevirtual 120, 3) := by decide +kernel
theorem d_RR_put_14 : decode b_RR_put 14 = .ok (.ifCond .ne 7, 3) := by decide +kernel
theorem d_RR_put_17 : decode b_RR_put 17 = .ok (.ldc2_w 138, 3) := by decide +kernel
theorem d_RR_put_20 : decode b_RR_put 20 = .ok (.lreturn, 1) := by decide +kernel
theorem d_RR_put_21 : decode b_RR_put 21 = .ok (.aload_n 0, 1) := by decide +kernel
theorem d_RR_put_22 : decode b_RR_put 22 = .ok (.iload_n 1, 1) := by decide +kernel
theorem d_RR_put_23 : decode b_RR_put 23 = .ok (.iload_n 2, 1) := by decide +kernel
theorem d_RR_put_24 : decode b_RR_put 24 = .ok (.iload_n 3, 1) := by decide +kernel
theorem d_RR_put_25 : decode b_RR_put 25 = .ok (.iconst 1, 1) := by decide +kernel
theorem d_RR_put_26 : decode b_RR_put 26 = .ok (.iadd, 1) := by decide +kernel
theorem d_RR_put_27 : decode b_RR_put 27 = .ok (.invokevirtual 140, 3) := by decide +kernel
theorem d_RR_put_30 : decode b_RR_put 30 = .ok (.lstore 4, 2) := by decide +kernel
theorem d_RR_put_32 : decode b_RR_put 32 = .ok (.aload_n 0, 1) := by decide +kernel
theorem d_RR_put_33 : decode b_RR_put 33 = .ok (.iload_n 1, 1) := by decide +kernel
theorem d_RR_put_34 : decode b_RR_put 34 = .ok (.iload_n 2, 1) := by decide +kernel
theorem d_RR_put_35 : decode b_RR_put 35 = .ok (.iload_n 3, 1) := by decide +kernel
theorem d_RR_put_36 : decode b_RR_put 36 = .ok (.iconst 1, 1) := by decide +kernel
theorem d_RR_put_37 : decode b_RR_put 37 = .ok (.iadd, 1) := by decide +kernel
theorem d_RR_put_38 : decode b_RR_put 38 = .ok (.invokevirtual 144, 3) := by decide +kernel
theorem d_RR_put_41 : decode b_RR_put 41 = .ok (.lload 4, 2) := by decide +kernel
theorem d_RR_put_43 : decode b_RR_put 43 = .ok (.lreturn, 1) := by decide +kernel
theorem d_RR_change_0 : decode b_RR_change 0 = .ok (.aload_n 0, 1) := by decide +kernel
theorem d_RR_change_1 : decode b_RR_change 1 = .ok (.iload_n 1, 1) := by decide +kernel
theorem d_RR_change_2 : decode b_RR_change 2 = .ok (.iload_n 2, 1) := by decide +kernel
theorem d_RR_change_3 : decode b_RR_change 3 = .ok (.invokevirtual 127, 3) := by decide +kernel
theorem d_RR_change_6 : decode b_RR_change 6 = .ok (.ifCond .eq 11, 3) := by decide +kernel
theorem d_RR_change_9 : decode b_RR_change 9 = .ok (.aload_n 0, 1) := by decide +kernel
theorem d_RR_change_10 : decode b_RR_change 10 = .ok (.iload_n 3, 1) := by decide +kernel
theorem d_RR_change_11 : decode b_RR_change 11 = .ok (.invokevirtual 120, 3) := by decide +kernel
theorem d_RR_change_14 : decode b_RR_change 14 = .ok (.ifCond .ne 7, 3) := by decide +kernel
theorem d_RR_change_17 : decode b_RR_change 17 = .ok (.ldc2_w 138, 3) := by decide +kernel
theorem d_RR_change_20 : decode b_RR_change 20 = .ok (.lreturn, 1) := by decide +kernel
theorem d_RR_change_21 : decode b_RR_change 21 = .ok (.aload_n 0, 1) := by decide +kernel
theorem d_RR_change_22 : decode b_RR_change 22 = .ok (.iload_n 1, 1) := by decide +kernel
theorem d_RR_change_23 : decode b_RR_change 23 = .ok (.iload_n 2, 1) := by decide +kernel
theorem d_RR_change_24 : decode b_RR_change 24 = .ok (.iload_n 3, 1) := by decide +kernel
theorem d_RR_change_25 : decode b_RR_change 25 = .ok (.iconst 1, 1) := by decide +kernel
theorem d_RR_change_26 : decode b_RR_change 26 = .ok (.iadd, 1) := by decide +kernel
theorem d_RR_change_27 : decode b_RR_change 27 = .ok (.invokevirtual 140, 3) := by decide +kernel
theorem d_RR_change_30 : decode b_RR_change 30 = .ok (.lreturn, 1) := by decide +kernel
theorem d_RR_undo_0 : decode b_RR_undo 0 = .ok (.aload_n 0, 1) := by decide +kernel
theorem d_RR_undo_1 : decode b_RR_undo 1 = .ok (.getfield 19, 3) := by decide +kernel
theorem d_RR_undo_4 : decode b_RR_undo 4 = .ok (.getfield 148, 3) := by decide +kernel
theorem d_RR_undo_7 : decode b_RR_undo 7 = .ok (.ifCond .ne 6, 3) := by decide +kernel
theorem d_RR_undo_10 : decode b_RR_undo 10 = .ok (.bipush (-2), 2) := by decide +kernel
theorem d_RR_undo_12 : decode b_RR_undo 12 = .ok (.ireturn, 1) := by decide +kernel
theorem d_RR_undo_13 : decode b_RR_undo 13 = .ok (.aload_n 0, 1) := by decide +kernel
theorem d_RR_undo_14 : decode b_RR_undo 14 = .ok (.getfield 19, 3) := by decide +kernel
theorem d_RR_undo_17 : decode b_RR_undo 17 = .ok (.getfield 151, 3) := by decide +kernel
theorem d_RR_undo_20 : decode b_RR_undo 20 = .ok (.istore_n 1, 1) := by decide +kernel
theorem d_RR_undo_21 : decode b_RR_undo 21 = .ok (.aload_n 0, 1) := by decide +kernel
theorem d_RR_undo_22 : decode b_RR_undo 22 = .ok (.getfield 53, 3) := by decide +kernel
theorem d_RR_undo_25 : decode b_RR_undo 25 = .ok (.aload_n 0, 1) := by decide +kernel
theorem d_RR_undo_26 : decode b_RR_undo 26 = .ok (.getfield 19, 3) := by decide +kernel
theorem d_RR_undo_29 : decode b_RR_undo 29 = .ok (.getfield 154, 3) := by decide +kernel
theorem d_RR_undo_32 : decode b_RR_undo 32 = .ok (.iload_n 1, 1) := by decide +kernel
theorem d_RR_undo_33 : decode b_RR_undo 33 = .ok (.iaload, 1) := by decide +kernel
theorem d_RR_undo_34 : decode b_RR_undo 34 = .ok (.aload_n 0, 1) := by decide +kernel
theorem d_RR_undo_35 : decode b_RR_undo 35 = .ok (.getfield 19, 3) := by decide +kernel
theorem d_RR_undo_38 : decode b_RR_undo 38 = .ok (.getfield 157, 3) := by decide +kernel
theorem d_RR_undo_41 : decode b_RR_undo 41 = .ok (.iload_n 1, 1) := by decide +kernel
theorem d_RR_undo_42 : decode b_RR_undo 42 = .ok (.iaload, 1) := by decide +kernel
theorem d_RR_undo_43 : decode b_RR_undo 43 = .ok (.aload_n 0, 1) := by decide +kernel
theorem d_RR_undo_44 : decode b_RR_undo 44 = .ok (.getfield 19, 3) := by decide +kernel
theorem d_RR_undo_47 : decode b_RR_undo 47 = .ok (.getfield 159, 3) := by decide +kernel
theorem d_RR_undo_50 : decode b_RR_undo 50 = .ok (.iload_n 1, 1) := by decide +kernel
theorem d_RR_undo_51 : decode b_RR_undo 51 = .ok (.iaload, 1) := by decide +kernel
theorem d_RR_undo_52 : decode b_RR_undo 52 = .ok (.invokevirtual 162, 3) := by decide +kernel
theorem d_RR_undo_55 : decode b_RR_undo 55 = .ok (.aload_n 0, 1) := by decide +kernel
theorem d_RR_undo_56 : decode b_RR_undo 56 = .ok (.getfield 19, 3) := by decide +kernel
theorem d_RR_undo_59 : decode b_RR_undo 59 = .ok (.invokevirtual 165, 3) := by decide +kernel
theorem d_RR_undo_62 : decode b_RR_undo 62 = .ok (.aload_n 0, 1) := by decide +kernel
theorem d_RR_undo_63 : decode b_RR_undo 63 = .ok (.getfield 19, 3) := by decide +kernel
theorem d_RR_undo_66 : decode b_RR_undo 66 = .ok (.getfield 148, 3) := by decide +kernel
theorem d_RR_undo_69 : decode b_RR_undo 69 = .ok (.ireturn, 1) := by decide +kernel
theorem d_RR_bestLetter_0 : decode b_RR_bestLetter 0 = .ok (.aload_n 0, 1) := by decide +kernel
theorem d_RR_bestLetter_1 : decode b_RR_bestLetter 1 = .ok (.getfield 53, 3) := by decide +kernel
theorem d_RR_bestLetter_4 : decode b_RR_bestLetter 4 = .ok (.iload_n 1, 1) := by decide +kernel
theorem d_RR_bestLetter_5 : decode b_RR_bestLetter 5 = .ok (.iload_n 2, 1) := by decide +kernel
theorem d_RR_bestLetter_6 : decode b_RR_bestLetter 6 = .ok (.invokevirtual 135, 3) := by decide +kernel
theorem d_RR_bestLetter_9 : decode b_RR_bestLetter 9 = .ok (.istore_n 3, 1) := by decide +kernel
theorem d_RR_bestLetter_10 : decode b_RR_bestLetter 10 = .ok (.iconst 0, 1) := by decide +kernel
theorem d_RR_bestLetter_11 : decode b_RR_bestLetter 11 = .ok (.istore 4, 2) := by decide +kernel
theorem d_RR_bestLetter_13 : decode b_RR_bestLetter 13 = .ok (.lconst 0, 1) := by decide +kernel
theorem d_RR_bestLetter_14 : decode b_RR_bestLetter 14 = .ok (.lstore 5, 2) := by decide +kernel
theorem d_RR_bestLetter_16 : decode b_RR_bestLetter 16 = .ok (.iconst 0, 1) := by decide +kernel
theorem d_RR_bestLetter_17 : decode b_RR_bestLetter 17 = .ok (.istore 7, 2) := by decide +kernel
theorem d_RR_bestLetter_19 : decode b_RR_bestLetter 19 = .ok (.iload 7, 2) := by decide +kernel
theorem d_RR_bestLetter_21 : decode b_RR_bestLetter 21 = .ok (.bipush 9, 2) := by decide +kernel
theorem d_RR_bestLetter_23 : decode b_RR_bestLetter 23 = .ok (.if_icmp .ge 49, 3) := by decide +kernel
theorem d_RR_bestLetter_26 : decode b_RR_bestLetter 26 = .ok (.aload_n 0, 1) := by decide +kernel
theorem d_RR_bestLetter_27 : decode b_RR_bestLetter 27 = .ok (.getfield 53, 3) := by decide +kernel
theorem d_RR_bestLetter_30 : decode b_RR_bestLetter 30 = .ok (.iload_n 1, 1) := by decide +kernel
theorem d_RR_bestLetter_31 : decode b_RR_bestLetter 31 = .ok (.iload_n 2, 1) := by decide +kernel
theorem d_RR_bestLetter_32 : decode b_RR_bestLetter 32 = .ok (.iload 7, 2) := by decide +kernel
theorem d_RR_bestLetter_34 : decode b_RR_bestLetter 34 = .ok (.invokevirtual 162, 3) := by decide +kernel
theorem d_RR_bestLetter_37 : decode b_RR_bestLetter 37 = .ok (.aload_n 0, 1) := by decide +kernel
theorem d_RR_bestLetter_38 : decode b_RR_bestLetter 38 = .ok (.iload_n 1, 1) := by decide +kernel
theorem d_RR_bestLetter_39 : decode b_RR_bestLetter 39 = .ok (.iload_n 2, 1) := by decide +kernel
theorem d_RR_bestLetter_40 : decode b_RR_bestLetter 40 = .ok (.invokevirtual 270, 3) := by decide +kernel
theorem d_RR_bestLetter_43 : decode b_RR_bestLetter 43 = .ok (.lstore 8, 2) := by decide +kernel
theorem d_RR_bestLetter_45 : decode b_RR_bestLetter 45 = .ok (.iload 7, 2) := by decide +kernel
theorem d_RR_bestLetter_47 : decode b_RR_bestLetter 47 = .ok (.ifCond .eq 11, 3) := by decide +kernel
theorem d_RR_bestLetter_50 : decode b_RR_bestLetter 50 = .ok (.lload 8, 2) := by decide +kernel
theorem d_RR_bestLetter_52 : decode b_RR_bestLetter 52 = .ok (.lload 5, 2) := by decide +kernel
theorem d_RR_bestLetter_54 : decode b_RR_bestLetter 54 = .ok (.lcmp, 1) := by decide +kernel
theorem d_RR_bestLetter_55 : decode b_RR_bestLetter 55 = .ok (.ifCond .ge 11, 3) := by decide +kernel
theorem d_RR_bestLetter_58 : decode b_RR_bestLetter 58 = .ok (.lload 8, 2) := by decide +kernel
theorem d_RR_bestLetter_60 : decode b_RR_bestLetter 60 = .ok (.lstore 5, 2) := by decide +kernel
theorem d_RR_bestLetter_62 : decode b_RR_bestLetter 62 = .ok (.iload 7, 2) := by decide +kernel
theorem d_RR_bestLetter_64 : decode b_RR_bestLetter 64 = .ok (.istore 4, 2) := by decide +kernel
theorem d_RR_bestLetter_66 : decode b_RR_bestLetter 66 = .ok (.iinc 7 1, 3) := by decide +kernel
theorem d_RR_bestLetter_69 : decode b_RR_bestLetter 69 = .ok (.goto (-50), 3) := by decide +kernel
theorem d_RR_bestLetter_72 : decode b_RR_bestLetter 72 = .ok (.aload_n 0, 1) := by decide +kernel
theorem d_RR_bestLetter_73 : decode b_RR_bestLetter 73 = .ok (.getfield 53, 3) := by decide +kernel
theorem d_RR_bestLetter_76 : decode b_RR_bestLetter 76 = .ok (.iload_n 1, 1) := by decide +kernel
theorem d_RR_bestLetter_77 : decode b_RR_bestLetter 77 = .ok (.iload_n 2, 1) := by decide +kernel
theorem d_RR_bestLetter_78 : decode b_RR_bestLetter 78 = .ok (.iload_n 3, 1) := by decide +kernel
theorem d_RR_bestLetter_79 : decode b_RR_bestLetter 79 = .ok (.invokevirtual 162, 3) := by decide +kernel
theorem d_RR_bestLetter_82 : decode b_RR_bestLetter 82 = .ok (.iload 4, 2) := by decide +kernel
theorem d_RR_bestLetter_84 : decode b_RR_bestLetter 84 = .ok (.ireturn, 1) := by decide +kernel
theorem d_RR_best_0 : decode b_RR_best 0 = .ok (.aload_n 0, 1) := by decide +kernel
theorem d_RR_best_1 : decode b_RR_best 1 = .ok (.iload_n 1, 1) := by decide +kernel
theorem d_RR_best_2 : decode b_RR_best 2 = .ok (.iload_n 2, 1) := by decide +kernel
theorem d_RR_best_3 : decode b_RR_best 3 = .ok (.invokevirtual 127, 3) := by decide +kernel
theorem d_RR_best_6 : decode b_RR_best 6 = .ok (.ifCond .eq 14, 3) := by decide +kernel
theorem d_RR_best_9 : decode b_RR_best 9 = .ok (.aload_n 0, 1) := by decide +kernel
theorem d_RR_best_10 : decode b_RR_best 10 = .ok (.iload_n 1, 1) := by decide +kernel
theorem d_RR_best_11 : decode b_RR_best 11 = .ok (.iload_n 2, 1) := by decide +kernel
theorem d_RR_best_12 : decode b_RR_best 12 = .ok (.invokevirtual 168, 3) := by decide +kernel
theorem d_RR_best_15 : decode b_RR_best 15 = .ok (.iconst 1, 1) := by decide +kernel
theorem d_RR_best_16 : decode b_RR_best 16 = .ok (.isub, 1) := by decide +kernel
theorem d_RR_best_17 : decode b_RR_best 17 = .ok (.goto 5, 3) := by decide +kernel
theorem d_RR_best_20 : decode b_RR_best 20 = .ok (.bipush (-9), 2) := by decide +kernel
theorem d_RR_best_22 : decode b_RR_best 22 = .ok (.ireturn, 1) := by decide +kernel
theorem d_RR_stepDown_0 : decode b_RR_stepDown 0 = .ok (.lconst 0, 1) := by decide +kernel
theorem d_RR_stepDown_1 : decode b_RR_stepDown 1 = .ok (.lstore_n 1, 1) := by decide +kernel
theorem d_RR_stepDown_2 : decode b_RR_stepDown 2 = .ok (.iconst 0, 1) := by decide +kernel
theorem d_RR_stepDown_3 : decode b_RR_stepDown 3 = .ok (.istore_n 3, 1) := by decide +kernel
theorem d_RR_stepDown_4 : decode b_RR_stepDown 4 = .ok (.iconst 0, 1) := by decide +kernel
theorem d_RR_stepDown_5 : decode b_RR_stepDown 5 = .ok (.istore 4, 2) := by decide +kernel
theorem d_RR_stepDown_7 : decode b_RR_stepDown 7 = .ok (.iconst 0, 1) := by decide +kernel
theorem d_RR_stepDown_8 : decode b_RR_stepDown 8 = .ok (.istore 5, 2) := by decide +kernel
theorem d_RR_stepDown_10 : decode b_RR_stepDown 10 = .ok (.iconst 0, 1) := by decide +kernel
theorem d_RR_stepDown_11 : decode b_RR_stepDown 11 = .ok (.istore 6, 2) := by decide +kernel
theorem d_RR_stepDown_13 : decode b_RR_stepDown 13 = .ok (.iload 6, 2) := by decide +kernel
theorem d_RR_stepDown_15 : decode b_RR_stepDown 15 = .ok (.aload_n 0, 1) := by decide +kernel
theorem d_RR_stepDown_16 : decode b_RR_stepDown 16 = .ok (.getfield 53, 3) := by decide +kernel
theorem d_RR_stepDown_19 : decode b_RR_stepDown 19 = .ok (.getfield 252, 3) := by decide +kernel
theorem d_RR_stepDown_22 : decode b_RR_stepDown 22 = .ok (.if_icmp .ge 73, 3) := by decide +kernel
theorem d_RR_stepDown_25 : decode b_RR_stepDown 25 = .ok (.iconst 0, 1) := by decide +kernel
theorem d_RR_stepDown_26 : decode b_RR_stepDown 26 = .ok (.istore 7, 2) := by decide +kernel
theorem d_RR_stepDown_28 : decode b_RR_stepDown 28 = .ok (.iload 7, 2) := by decide +kernel
theorem d_RR_stepDown_30 : decode b_RR_stepDown 30 = .ok (.aload_n 0, 1) := by decide +kernel
theorem d_RR_stepDown_31 : decode b_RR_stepDown 31 = .ok (.getfield 53, 3) := by decide +kernel
theorem d_RR_stepDown_34 : decode b_RR_stepDown 34 = .ok (.getfield 68, 3) := by decide +kernel
theorem d_RR_stepDown_37 : decode b_RR_stepDown 37 = .ok (.if_icmp .ge 52, 3) := by decide +kernel
theorem d_RR_stepDown_40 : decode b_RR_stepDown 40 = .ok (.aload_n 0, 1) := by decide +kernel
theorem d_RR_stepDown_41 : decode b_RR_stepDown 41 = .ok (.iload 6, 2) := by decide +kernel
theorem d_RR_stepDown_43 : decode b_RR_stepDown 43 = .ok (.iload 7, 2) := by decide +kernel
theorem d_RR_stepDown_45 : decode b_RR_stepDown 45 = .ok (.invokevirtual 168, 3) := by decide +kernel
theorem d_RR_stepDown_48 : decode b_RR_stepDown 48 = .ok (.istore 8, 2) := by decide +kernel
theorem d_RR_stepDown_50 : decode b_RR_stepDown 50 = .ok (.aload_n 0, 1) := by decide +kernel
theorem d_RR_stepDown_51 : decode b_RR_stepDown 51 = .ok (.iload 6, 2) := by decide +kernel
theorem d_RR_stepDown_53 : decode b_RR_stepDown 53 = .ok (.iload 7, 2) := by decide +kernel
theorem d_RR_stepDown_55 : decode b_RR_stepDown 55 = .ok (.iload 8, 2) := by decide +kernel
theorem d_RR_stepDown_57 : decode b_RR_stepDown 57 = .ok (.invokevirtual 140, 3) := by decide +kernel
theorem d_RR_stepDown_60 : decode b_RR_stepDown 60 = .ok (.lstore 9, 2) := by decide +kernel
theorem d_RR_stepDown_62 : decode b_RR_stepDown 62 = .ok (.lload 9, 2) := by decide +kernel
theorem d_RR_stepDown_64 : decode b_RR_stepDown 64 = .ok (.lload_n 1, 1) := by decide +kernel
theorem d_RR_stepDown_65 : decode b_RR_stepDown 65 = .ok (.lcmp, 1) := by decide +kernel
theorem d_RR_stepDown_66 : decode b_RR_stepDown 66 = .ok (.ifCond .ge 17, 3) := by decide +kernel
theorem d_RR_stepDown_69 : decode b_RR_stepDown 69 = .ok (.lload 9, 2) := by decide +kernel
theorem d_RR_stepDown_71 : decode b_RR_stepDown 71 = .ok (.lstore_n 1, 1) := by decide +kernel
theorem d_RR_stepDown_72 : decode b_RR_stepDown 72 = .ok (.iload 6, 2) := by decide +kernel
theorem d_RR_stepDown_74 : decode b_RR_stepDown 74 = .ok (.istore_n 3, 1) := by decide +kernel
theorem d_RR_stepDown_75 : decode b_RR_stepDown 75 = .ok (.iload 7, 2) := by decide +kernel
theorem d_RR_stepDown_77 : decode b_RR_stepDown 77 = .ok (.istore 4, 2) := by decide +kernel
theorem d_RR_stepDown_79 : decode b_RR_stepDown 79 = .ok (.iload 8, 2) := by decide +kernel
theorem d_RR_stepDown_81 : decode b_RR_stepDown 81 = .ok (.istore 5, 2) := by decide +kernel
theorem d_RR_stepDown_83 : decode b_RR_stepDown 83 = .ok (.iinc 7 1, 3) := by decide +kernel
theorem d_RR_stepDown_86 : decode b_RR_stepDown 86 = .ok (.goto (-58), 3) := by decide +kernel
theorem d_RR_stepDown_89 : decode b_RR_stepDown 89 = .ok (.iinc 6 1, 3) := by decide +kernel
theorem d_RR_stepDown_92 : decode b_RR_stepDown 92 = .ok (.goto (-79), 3) := by decide +kernel
theorem d_RR_stepDown_95 : decode b_RR_stepDown 95 = .ok (.lload_n 1, 1) := by decide +kernel
theorem d_RR_stepDown_96 : decode b_RR_stepDown 96 = .ok (.lconst 0, 1) := by decide +kernel
theorem d_RR_stepDown_97 : decode b_RR_stepDown 97 = .ok (.lcmp, 1) := by decide +kernel
theorem d_RR_stepDown_98 : decode b_RR_stepDown 98 = .ok (.ifCond .ge 12, 3) := by decide +kernel
theorem d_RR_stepDown_101 : decode b_RR_stepDown 101 = .ok (.aload_n 0, 1) := by decide +kernel
theorem d_RR_stepDown_102 : decode b_RR_stepDown 102 = .ok (.iload_n 3, 1) := by decide +kernel
theorem d_RR_stepDown_103 : decode b_RR_stepDown 103 = .ok (.iload 4, 2) := by decide +kernel
theorem d_RR_stepDown_105 : decode b_RR_stepDown 105 = .ok (.iload 5, 2) := by decide +kernel
theorem d_RR_stepDown_107 : decode b_RR_stepDown 107 = .ok (.invokevirtual 144, 3) := by decide +kernel
theorem d_RR_stepDown_110 : decode b_RR_stepDown 110 = .ok (.lload_n 1, 1) := by decide +kernel
theorem d_RR_stepDown_111 : decode b_RR_stepDown 111 = .ok (.lconst 0, 1) := by decide +kernel
theorem d_RR_stepDown_112 : decode b_RR_stepDown 112 = .ok (.lcmp, 1) := by decide +kernel
theorem d_RR_stepDown_113 : decode b_RR_stepDown 113 = .ok (.ifCond .ge 7, 3) := by decide +kernel
theorem d_RR_stepDown_116 : decode b_RR_stepDown 116 = .ok (.iconst 1, 1) := by decide +kernel
theorem d_RR_stepDown_117 : decode b_RR_stepDown 117 = .ok (.goto 4, 3) := by decide +kernel
theorem d_RR_stepDown_120 : decode b_RR_stepDown 120 = .ok (.iconst 0, 1) := by decide +kernel
theorem d_RR_stepDown_121 : decode b_RR_stepDown 121 = .ok (.ireturn, 1) := by decide +kernel
theorem d_RR_descend_0 : decode b_RR_descend 0 = .ok (.iload_n 1, 1) := by decide +kernel
theorem d_RR_descend_1 : decode b_RR_descend 1 = .ok (.ifCond .lt 8, 3) := by decide +kernel
theorem d_RR_descend_4 : decode b_RR_descend 4 = .ok (.iload_n 1, 1) := by decide +kernel
theorem d_RR_descend_5 : decode b_RR_descend 5 = .ok (.iconst 3, 1) := by decide +kernel
theorem d_RR_descend_6 : decode b_RR_descend 6 = .ok (.if_icmp .le 5, 3) := by decide +kernel
theorem d_RR_descend_9 : decode b_RR_descend 9 = .ok (.iconst (-1), 1) := by decide +kernel
theorem d_RR_descend_10 : decode b_RR_descend 10 = .ok (.ireturn, 1) := by decide +kernel
theorem d_RR_descend_11 : decode b_RR_descend 11 = .ok (.iconst 0, 1) := by decide +kernel
theorem d_RR_descend_12 : decode b_RR_descend 12 = .ok (.istore_n 2, 1) := by decide +kernel
theorem d_RR_descend_13 : decode b_RR_descend 13 = .ok (.iload_n 2, 1) := by decide +kernel
theorem d_RR_descend_14 : decode b_RR_descend 14 = .ok (.iload_n 1, 1) := by decide +kernel
theorem d_RR_descend_15 : decode b_RR_descend 15 = .ok (.if_icmp .ge 16, 3) := by decide +kernel
theorem d_RR_descend_18 : decode b_RR_descend 18 = .ok (.aload_n 0, 1) := by decide +kernel
theorem d_RR_descend_19 : decode b_RR_descend 19 = .ok (.invokevirtual 171, 3) := by decide +kernel
theorem d_RR_descend_22 : decode b_RR_descend 22 = .ok (.ifCond .eq 9, 3) := by decide +kernel
theorem d_RR_descend_25 : decode b_RR_descend 25 = .ok (.iinc 2 1, 3) := by decide +kernel
theorem d_RR_descend_28 : decode b_RR_descend 28 = .ok (.goto (-15), 3) := by decide +kernel
theorem d_RR_descend_31 : decode b_RR_descend 31 = .ok (.iload_n 2, 1) := by decide +kernel
theorem d_RR_descend_32 : decode b_RR_descend 32 = .ok (.ireturn, 1) := by decide +kernel
theorem d_RR_isLaw_0 : decode b_RR_isLaw 0 = .ok (.iload_n 1, 1) := by decide +kernel
theorem d_RR_isLaw_1 : decode b_RR_isLaw 1 = .ok (.ifCond .lt 15, 3) := by decide +kernel
theorem d_RR_isLaw_4 : decode b_RR_isLaw 4 = .ok (.iload_n 1, 1) := by decide +kernel
theorem d_RR_isLaw_5 : decode b_RR_isLaw 5 = .ok (.aload_n 0, 1) := by decide +kernel
theorem d_RR_isLaw_6 : decode b_RR_isLaw 6 = .ok (.getfield 94, 3) := by decide +kernel
theorem d_RR_isLaw_9 : decode b_RR_isLaw 9 = .ok (.if_icmp .ge 7, 3) := by decide +kernel
theorem d_RR_isLaw_12 : decode b_RR_isLaw 12 = .ok (.iconst 1, 1) := by decide +kernel
theorem d_RR_isLaw_13 : decode b_RR_isLaw 13 = .ok (.goto 4, 3) := by decide +kernel
theorem d_RR_isLaw_16 : decode b_RR_isLaw 16 = .ok (.iconst 0, 1) := by decide +kernel
theorem d_RR_isLaw_17 : decode b_RR_isLaw 17 = .ok (.ireturn, 1) := by decide +kernel
theorem d_RR_broken_0 : decode b_RR_broken 0 = .ok (.aload_n 0, 1) := by decide +kernel
theorem d_RR_broken_1 : decode b_RR_broken 1 = .ok (.iload_n 1, 1) := by decide +kernel
theorem d_RR_broken_2 : decode b_RR_broken 2 = .ok (.invokevirtual 175, 3) := by decide +kernel
theorem d_RR_broken_5 : decode b_RR_broken 5 = .ok (.ifCond .ne 7, 3) := by decide +kernel
theorem d_RR_broken_8 : decode b_RR_broken 8 = .ok (.ldc2_w 178, 3) := by decide +kernel
theorem d_RR_broken_11 : decode b_RR_broken 11 = .ok (.lreturn, 1) := by decide +kernel
theorem d_RR_broken_12 : decode b_RR_broken 12 = .ok (.aload_n 0, 1) := by decide +kernel
theorem d_RR_broken_13 : decode b_RR_broken 13 = .ok (.getfield 32, 3) := by decide +kernel
theorem d_RR_broken_16 : decode b_RR_broken 16 = .ok (.iload_n 1, 1) := by decide +kernel
theorem d_RR_broken_17 : decode b_RR_broken 17 = .ok (.aaload, 1) := by decide +kernel
theorem d_RR_broken_18 : decode b_RR_broken 18 = .ok (.astore_n 3, 1) := by decide +kernel
theorem d_RR_broken_19 : decode b_RR_broken 19 = .ok (.iload_n 2, 1) := by decide +kernel
theorem d_RR_broken_20 : decode b_RR_broken 20 = .ok (.iconst (-1), 1) := by decide +kernel
theorem d_RR_broken_21 : decode b_RR_broken 21 = .ok (.if_icmp .ne 12, 3) := by decide +kernel
theorem d_RR_broken_24 : decode b_RR_broken 24 = .ok (.aload_n 0, 1) := by decide +kernel
theorem d_RR_broken_25 : decode b_RR_broken 25 = .ok (.getfield 62, 3) := by decide +kernel
theorem d_RR_broken_28 : decode b_RR_broken 28 = .ok (.aload_n 3, 1) := by decide +kernel
theorem d_RR_broken_29 : decode b_RR_broken 29 = .ok (.invokevirtual 180, 3) := by decide +kernel
theorem d_RR_broken_32 : decode b_RR_broken 32 = .ok (.lreturn, 1) := by decide +kernel
theorem d_RR_broken_33 : decode b_RR_broken 33 = .ok (.aload_n 3, 1) := by decide +kernel
theorem d_RR_broken_34 : decode b_RR_broken 34 = .ok (.getfield 184, 3) := by decide +kernel
theorem d_RR_broken_37 : decode b_RR_broken 37 = .ok (.bipush 6, 2) := by decide +kernel
theorem d_RR_broken_39 : decode b_RR_broken 39 = .ok (.if_icmp .ne 27, 3) := by decide +kernel
theorem d_RR_broken_42 : decode b_RR_broken 42 = .ok (.aload_n 0, 1) := by decide +kernel
theorem d_RR_broken_43 : decode b_RR_broken 43 = .ok (.iload_n 2, 1) := by decide +kernel
theorem d_RR_broken_44 : decode b_RR_broken 44 = .ok (.invokevirtual 187, 3) := by decide +kernel
theorem d_RR_broken_47 : decode b_RR_broken 47 = .ok (.ifCond .eq 15, 3) := by decide +kernel
theorem d_RR_broken_50 : decode b_RR_broken 50 = .ok (.aload_n 0, 1) := by decide +kernel
theorem d_RR_broken_51 : decode b_RR_broken 51 = .ok (.getfield 62, 3) := by decide +kernel
theorem d_RR_broken_54 : decode b_RR_broken 54 = .ok (.aload_n 3, 1) := by decide +kernel
theorem d_RR_broken_55 : decode b_RR_broken 55 = .ok (.iload_n 2, 1) := by decide +kernel
theorem d_RR_broken_56 : decode b_RR_broken 56 = .ok (.invokevirtual 190, 3) := by decide +kernel
theorem d_RR_broken_59 : decode b_RR_broken 59 = .ok (.goto 6, 3) := by decide +kernel
theorem d_RR_broken_62 : decode b_RR_broken 62 = .ok (.ldc2_w 178, 3) := by decide +kernel
theorem d_RR_broken_65 : decode b_RR_broken 65 = .ok (.lreturn, 1) := by decide +kernel
theorem d_RR_broken_66 : decode b_RR_broken 66 = .ok (.aload_n 3, 1) := by decide +kernel
theorem d_RR_broken_67 : decode b_RR_broken 67 = .ok (.getfield 184, 3) := by decide +kernel
theorem d_RR_broken_70 : decode b_RR_broken 70 = .ok (.iconst 5, 1) := by decide +kernel
theorem d_RR_broken_71 : decode b_RR_broken 71 = .ok (.if_icmp .eq 23, 3) := by decide +kernel
theorem d_RR_broken_74 : decode b_RR_broken 74 = .ok (.aload_n 0, 1) := by decide +kernel
theorem d_RR_broken_75 : decode b_RR_broken 75 = .ok (.iload_n 2, 1) := by decide +kernel
theorem d_RR_broken_76 : decode b_RR_broken 76 = .ok (.invokevirtual 114, 3) := by decide +kernel
theorem d_RR_broken_79 : decode b_RR_broken 79 = .ok (.ifCond .eq 15, 3) := by decide +kernel
theorem d_RR_broken_82 : decode b_RR_broken 82 = .ok (.aload_n 0, 1) := by decide +kernel
theorem d_RR_broken_83 : decode b_RR_broken 83 = .ok (.getfield 62, 3) := by decide +kernel
theorem d_RR_broken_86 : decode b_RR_broken 86 = .ok (.aload_n 3, 1) := by decide +kernel
theorem d_RR_broken_87 : decode b_RR_broken 87 = .ok (.iload_n 2, 1) := by decide +kernel
theorem d_RR_broken_88 : decode b_RR_broken 88 = .ok (.invokevirtual 194, 3) := by decide +kernel
theorem d_RR_broken_91 : decode b_RR_broken 91 = .ok (.goto 6, 3) := by decide +kernel
theorem d_RR_broken_94 : decode b_RR_broken 94 = .ok (.ldc2_w 178, 3) := by decide +kernel
theorem d_RR_broken_97 : decode b_RR_broken 97 = .ok (.lreturn, 1) := by decide +kernel
theorem d_RR_score_0 : decode b_RR_score 0 = .ok (.aload_n 0, 1) := by decide +kernel
theorem d_RR_score_1 : decode b_RR_score 1 = .ok (.getfield 53, 3) := by decide +kernel
theorem d_RR_score_4 : decode b_RR_score 4 = .ok (.invokevirtual 197, 3) := by decide +kernel
theorem d_RR_score_7 : decode b_RR_score 7 = .ok (.lstore_n 1, 1) := by decide +kernel
theorem d_RR_score_8 : decode b_RR_score 8 = .ok (.iconst 0, 1) := by decide +kernel
theorem d_RR_score_9 : decode b_RR_score 9 = .ok (.istore_n 3, 1) := by decide +kernel
theorem d_RR_score_10 : decode b_RR_score 10 = .ok (.iload_n 3, 1) := by decide +kernel
theorem d_RR_score_11 : decode b_RR_score 11 = .ok (.aload_n 0, 1) := by decide +kernel
theorem d_RR_score_12 : decode b_RR_score 12 = .ok (.getfield 94, 3) := by decide +kernel
theorem d_RR_score_15 : decode b_RR_score 15 = .ok (.if_icmp .ge 36, 3) := by decide +kernel
theorem d_RR_score_18 : decode b_RR_score 18 = .ok (.lload_n 1, 1) := by decide +kernel
theorem d_RR_score_19 : decode b_RR_score 19 = .ok (.aload_n 0, 1) := by decide +kernel
theorem d_RR_score_20 : decode b_RR_score 20 = .ok (.getfield 32, 3) := by decide +kernel
theorem d_RR_score_23 : decode b_RR_score 23 = .ok (.iload_n 3, 1) := by decide +kernel
theorem d_RR_score_24 : decode b_RR_score 24 = .ok (.aaload, 1) := by decide +kernel
theorem d_RR_score_25 : decode b_RR_score 25 = .ok (.getfield 201, 3) := by decide +kernel
theorem d_RR_score_28 : decode b_RR_score 28 = .ok (.i2l, 1) := by decide +kernel
theorem d_RR_score_29 : decode b_RR_score 29 = .ok (.aload_n 0, 1) := by decide +kernel
theorem d_RR_score_30 : decode b_RR_score 30 = .ok (.getfield 62, 3) := by decide +kernel
theorem d_RR_score_33 : decode b_RR_score 33 = .ok (.aload_n 0, 1) := by decide +kernel
theorem d_RR_score_34 : decode b_RR_score 34 = .ok (.getfield 32, 3) := by decide +kernel
theorem d_RR_score_37 : decode b_RR_score 37 = .ok (.iload_n 3, 1) := by decide +kernel
theorem d_RR_score_38 : decode b_RR_score 38 = .ok (.aaload, 1) := by decide +kernel
theorem d_RR_score_39 : decode b_RR_score 39 = .ok (.invokevirtual 180, 3) := by decide +kernel
theorem d_RR_score_42 : decode b_RR_score 42 = .ok (.lmul, 1) := by decide +kernel
theorem d_RR_score_43 : decode b_RR_score 43 = .ok (.ladd, 1) := by decide +kernel
theorem d_RR_score_44 : decode b_RR_score 44 = .ok (.lstore_n 1, 1) := by decide +kernel
theorem d_RR_score_45 : decode b_RR_score 45 = .ok (.iinc 3 1, 3) := by decide +kernel
theorem d_RR_score_48 : decode b_RR_score 48 = .ok (.goto (-38), 3) := by decide +kernel
theorem d_RR_score_51 : decode b_RR_score 51 = .ok (.lload_n 1, 1) := by decide +kernel
theorem d_RR_score_52 : decode b_RR_score 52 = .ok (.lreturn, 1) := by decide +kernel
theorem d_RR_minutes_0 : decode b_RR_minutes 0 = .ok (.aload_n 0, 1) := by decide +kernel
theorem d_RR_minutes_1 : decode b_RR_minutes 1 = .ok (.iload_n 1, 1) := by decide +kernel
theorem d_RR_minutes_2 : decode b_RR_minutes 2 = .ok (.iload_n 2, 1) := by decide +kernel
theorem d_RR_minutes_3 : decode b_RR_minutes 3 = .ok (.invokevirtual 127, 3) := by decide +kernel
theorem d_RR_minutes_6 : decode b_RR_minutes 6 = .ok (.ifCond .eq 16, 3) := by decide +kernel
theorem d_RR_minutes_9 : decode b_RR_minutes 9 = .ok (.aload_n 0, 1) := by decide +kernel
theorem d_RR_minutes_10 : decode b_RR_minutes 10 = .ok (.iload_n 3, 1) := by decide +kernel
theorem d_RR_minutes_11 : decode b_RR_minutes 11 = .ok (.invokevirtual 187, 3) := by decide +kernel
theorem d_RR_minutes_14 : decode b_RR_minutes 14 = .ok (.ifCond .eq 8, 3) := by decide +kernel
theorem d_RR_minutes_17 : decode b_RR_minutes 17 = .ok (.iload_n 3, 1) := by decide +kernel
theorem d_RR_minutes_18 : decode b_RR_minutes 18 = .ok (.iload_n 2, 1) := by decide +kernel
theorem d_RR_minutes_19 : decode b_RR_minutes 19 = .ok (.if_icmp .ge 7, 3) := by decide +kernel
theorem d_RR_minutes_22 : decode b_RR_minutes 22 = .ok (.ldc2_w 178, 3) := by decide +kernel
theorem d_RR_minutes_25 : decode b_RR_minutes 25 = .ok (.lreturn, 1) := by decide +kernel
theorem d_RR_minutes_26 : decode b_RR_minutes 26 = .ok (.aload_n 0, 1) := by decide +kernel
theorem d_RR_minutes_27 : decode b_RR_minutes 27 = .ok (.getfield 53, 3) := by decide +kernel
theorem d_RR_minutes_30 : decode b_RR_minutes 30 = .ok (.iload_n 1, 1) := by decide +kernel
theorem d_RR_minutes_31 : decode b_RR_minutes 31 = .ok (.iload_n 2, 1) := by decide +kernel
theorem d_RR_minutes_32 : decode b_RR_minutes 32 = .ok (.iload_n 3, 1) := by decide +kernel
theorem d_RR_minutes_33 : decode b_RR_minutes 33 = .ok (.invokevirtual 204, 3) := by decide +kernel
theorem d_RR_minutes_36 : decode b_RR_minutes 36 = .ok (.lreturn, 1) := by decide +kernel
theorem d_RR_count_0 : decode b_RR_count 0 = .ok (.iload_n 1, 1) := by decide +kernel
theorem d_RR_count_1 : decode b_RR_count 1 = .ok (.tableswitch 72 0 4 #[35, 40, 48, 56, 64], 35) := by decide +kernel
theorem d_RR_count_36 : decode b_RR_count 36 = .ok (.aload_n 0, 1) := by decide +kernel
theorem d_RR_count_37 : decode b_RR_count 37 = .ok (.getfield 94, 3) := by decide +kernel
theorem d_RR_count_40 : decode b_RR_count 40 = .ok (.ireturn, 1) := by decide +kernel
theorem d_RR_count_41 : decode b_RR_count 41 = .ok (.aload_n 0, 1) := by decide +kernel
theorem d_RR_count_42 : decode b_RR_count 42 = .ok (.getfield 10, 3) := by decide +kernel
theorem d_RR_count_45 : decode b_RR_count 45 = .ok (.getfield 80, 3) := by decide +kernel
theorem d_RR_count_48 : decode b_RR_count 48 = .ok (.ireturn, 1) := by decide +kernel
theorem d_RR_count_49 : decode b_RR_count 49 = .ok (.aload_n 0, 1) := by decide +kernel
theorem d_RR_count_50 : decode b_RR_count 50 = .ok (.getfield 53, 3) := by decide +kernel
theorem d_RR_count_53 : decode b_RR_count 53 = .ok (.getfield 246, 3) := by decide +kernel
theorem d_RR_count_56 : decode b_RR_count 56 = .ok (.ireturn, 1) := by decide +kernel
theorem d_RR_count_57 : decode b_RR_count 57 = .ok (.aload_n 0, 1) := by decide +kernel
theorem d_RR_count_58 : decode b_RR_count 58 = .ok (.getfield 53, 3) := by decide +kernel
theorem d_RR_count_61 : decode b_RR_count 61 = .ok (.getfield 249, 3) := by decide +kernel
theorem d_RR_count_64 : decode b_RR_count 64 = .ok (.ireturn, 1) := by decide +kernel
theorem d_RR_count_65 : decode b_RR_count 65 = .ok (.aload_n 0, 1) := by decide +kernel
theorem d_RR_count_66 : decode b_RR_count 66 = .ok (.getfield 19, 3) := by decide +kernel
theorem d_RR_count_69 : decode b_RR_count 69 = .ok (.getfield 148, 3) := by decide +kernel
theorem d_RR_count_72 : decode b_RR_count 72 = .ok (.ireturn, 1) := by decide +kernel
theorem d_RR_count_73 : decode b_RR_count 73 = .ok (.iconst (-1), 1) := by decide +kernel
theorem d_RR_count_74 : decode b_RR_count 74 = .ok (.ireturn, 1) := by decide +kernel
theorem d_Mo_isPerson_0 : decode b_Mo_isPerson 0 = .ok (.iload_n 1, 1) := by decide +kernel
theorem d_Mo_isPerson_1 : decode b_Mo_isPerson 1 = .ok (.ifCond .lt 15, 3) := by decide +kernel
theorem d_Mo_isPerson_4 : decode b_Mo_isPerson 4 = .ok (.iload_n 1, 1) := by decide +kernel
theorem d_Mo_isPerson_5 : decode b_Mo_isPerson 5 = .ok (.aload_n 0, 1) := by decide +kernel
theorem d_Mo_isPerson_6 : decode b_Mo_isPerson 6 = .ok (.getfield 156, 3) := by decide +kernel
theorem d_Mo_isPerson_9 : decode b_Mo_isPerson 9 = .ok (.if_icmp .ge 7, 3) := by decide +kernel
theorem d_Mo_isPerson_12 : decode b_Mo_isPerson 12 = .ok (.iconst 1, 1) := by decide +kernel
theorem d_Mo_isPerson_13 : decode b_Mo_isPerson 13 = .ok (.goto 4, 3) := by decide +kernel
theorem d_Mo_isPerson_16 : decode b_Mo_isPerson 16 = .ok (.iconst 0, 1) := by decide +kernel
theorem d_Mo_isPerson_17 : decode b_Mo_isPerson 17 = .ok (.ireturn, 1) := by decide +kernel
theorem d_Mo_isCell_0 : decode b_Mo_isCell 0 = .ok (.aload_n 0, 1) := by decide +kernel
theorem d_Mo_isCell_1 : decode b_Mo_isCell 1 = .ok (.iload_n 1, 1) := by decide +kernel
theorem d_Mo_isCell_2 : decode b_Mo_isCell 2 = .ok (.invokevirtual 165, 3) := by decide +kernel
theorem d_Mo_isCell_5 : decode b_Mo_isCell 5 = .ok (.ifCond .eq 19, 3) := by decide +kernel
theorem d_Mo_isCell_8 : decode b_Mo_isCell 8 = .ok (.iload_n 2, 1) := by decide +kernel
theorem d_Mo_isCell_9 : decode b_Mo_isCell 9 = .ok (.ifCond .lt 15, 3) := by decide +kernel
theorem d_Mo_isCell_12 : decode b_Mo_isCell 12 = .ok (.iload_n 2, 1) := by decide +kernel
theorem d_Mo_isCell_13 : decode b_Mo_isCell 13 = .ok (.aload_n 0, 1) := by decide +kernel
theorem d_Mo_isCell_14 : decode b_Mo_isCell 14 = .ok (.getfield 159, 3) := by decide +kernel
theorem d_Mo_isCell_17 : decode b_Mo_isCell 17 = .ok (.if_icmp .ge 7, 3) := by decide +kernel
theorem d_Mo_isCell_20 : decode b_Mo_isCell 20 = .ok (.iconst 1, 1) := by decide +kernel
theorem d_Mo_isCell_21 : decode b_Mo_isCell 21 = .ok (.goto 4, 3) := by decide +kernel
theorem d_Mo_isCell_24 : decode b_Mo_isCell 24 = .ok (.iconst 0, 1) := by decide +kernel
theorem d_Mo_isCell_25 : decode b_Mo_isCell 25 = .ok (.ireturn, 1) := by decide +kernel
theorem d_Mo_isShift_0 : decode b_Mo_isShift 0 = .ok (.iload_n 0, 1) := by decide +kernel
theorem d_Mo_isShift_1 : decode b_Mo_isShift 1 = .ok (.iconst (-1), 1) := by decide +kernel
theorem d_Mo_isShift_2 : decode b_Mo_isShift 2 = .ok (.if_icmp .lt 13, 3) := by decide +kernel
theorem d_Mo_isShift_5 : decode b_Mo_isShift 5 = .ok (.iload_n 0, 1) := by decide +kernel
theorem d_Mo_isShift_6 : decode b_Mo_isShift 6 = .ok (.bipush 8, 2) := by decide +kernel
theorem d_Mo_isShift_8 : decode b_Mo_isShift 8 = .ok (.if_icmp .ge 7, 3) := by decide +kernel
theorem d_Mo_isShift_11 : decode b_Mo_isShift 11 = .ok (.iconst 1, 1) := by decide +kernel
theorem d_Mo_isShift_12 : decode b_Mo_isShift 12 = .ok (.goto 4, 3) := by decide +kernel
theorem d_Mo_isShift_15 : decode b_Mo_isShift 15 = .ok (.iconst 0, 1) := by decide +kernel
theorem d_Mo_isShift_16 : decode b_Mo_isShift 16 = .ok (.ireturn, 1) := by decide +kernel
theorem d_Mo_feed_0 : decode b_Mo_feed 0 = .ok (.iload_n 1, 1) := by decide +kernel
theorem d_Mo_feed_1 : decode b_Mo_feed 1 = .ok (.iconst 1, 1) := by decide +kernel
theorem d_Mo_feed_2 : decode b_Mo_feed 2 = .ok (.if_icmp .lt 9, 3) := by decide +kernel
theorem d_Mo_feed_5 : decode b_Mo_feed 5 = .ok (.iload_n 1, 1) := by decide +kernel
theorem d_Mo_feed_6 : decode b_Mo_feed 6 = .ok (.bipush 8, 2) := by decide +kernel
theorem d_Mo_feed_8 : decode b_Mo_feed 8 = .ok (.if_icmp .le 5, 3) := by decide +kernel
theorem d_Mo_feed_11 : decode b_Mo_feed 11 = .ok (.iconst (-1), 1) := by decide +kernel
theorem d_Mo_feed_12 : decode b_Mo_feed 12 = .ok (.ireturn, 1) := by decide +kernel
theorem d_Mo_feed_13 : decode b_Mo_feed 13 = .ok (.aload_n 0, 1) := by decide +kernel
theorem d_Mo_feed_14 : decode b_Mo_feed 14 = .ok (.getfield 169, 3) := by decide +kernel
theorem d_Mo_feed_17 : decode b_Mo_feed 17 = .ok (.iload_n 1, 1) := by decide +kernel
theorem d_Mo_feed_18 : decode b_Mo_feed 18 = .ok (.iadd, 1) := by decide +kernel
theorem d_Mo_feed_19 : decode b_Mo_feed 19 = .ok (.sipush 1500, 3) := by decide +kernel
theorem d_Mo_feed_22 : decode b_Mo_feed 22 = .ok (.if_icmp .le 6, 3) := by decide +kernel
theorem d_Mo_feed_25 : decode b_Mo_feed 25 = .ok (.bipush (-3), 2) := by decide +kernel
theorem d_Mo_feed_27 : decode b_Mo_feed 27 = .ok (.ireturn, 1) := by decide +kernel
theorem d_Mo_feed_28 : decode b_Mo_feed 28 = .ok (.iconst 0, 1) := by decide +kernel
theorem d_Mo_feed_29 : decode b_Mo_feed 29 = .ok (.istore 4, 2) := by decide +kernel
theorem d_Mo_feed_31 : decode b_Mo_feed 31 = .ok (.iload 4, 2) := by decide +kernel
theorem d_Mo_feed_33 : decode b_Mo_feed 33 = .ok (.iload_n 1, 1) := by decide +kernel
theorem d_Mo_feed_34 : decode b_Mo_feed 34 = .ok (.if_icmp .ge 37, 3) := by decide +kernel
theorem d_Mo_feed_37 : decode b_Mo_feed 37 = .ok (.aload_n 0, 1) := by decide +kernel
theorem d_Mo_feed_38 : decode b_Mo_feed 38 = .ok (.getfield 34, 3) := by decide +kernel
theorem d_Mo_feed_41 : decode b_Mo_feed 41 = .ok (.aload_n 0, 1) := by decide +kernel
theorem d_Mo_feed_42 : decode b_Mo_feed 42 = .ok (.getfield 169, 3) := by decide +kernel
theorem d_Mo_feed_45 : decode b_Mo_feed 45 = .ok (.lload_n 2, 1) := by decide +kernel
theorem d_Mo_feed_46 : decode b_Mo_feed 46 = .ok (.bipush 8, 2) := by decide +kernel
theorem d_Mo_feed_48 : decode b_Mo_feed 48 = .ok (.iload 4, 2) := by decide +kernel
theorem d_Mo_feed_50 : decode b_Mo_feed 50 = .ok (.imul, 1) := by decide +kernel
theorem d_Mo_feed_51 : decode b_Mo_feed 51 = .ok (.lshr, 1) := by decide +kernel
theorem d_Mo_feed_52 : decode b_Mo_feed 52 = .ok (.l2i, 1) := by decide +kernel
theorem d_Mo_feed_53 : decode b_Mo_feed 53 = .ok (.i2b, 1) := by decide +kernel
theorem d_Mo_feed_54 : decode b_Mo_feed 54 = .ok (.bastore, 1) := by decide +kernel
theorem d_Mo_feed_55 : decode b_Mo_feed 55 = .ok (.aload_n 0, 1) := by decide +kernel
theorem d_Mo_feed_56 : decode b_Mo_feed 56 = .ok (.dup, 1) := by decide +kernel
theorem d_Mo_feed_57 : decode b_Mo_feed 57 = .ok (.getfield 169, 3) := by decide +kernel
theorem d_Mo_feed_60 : decode b_Mo_feed 60 = .ok (.iconst 1, 1) := by decide +kernel
theorem d_Mo_feed_61 : decode b_Mo_feed 61 = .ok (.iadd, 1) := by decide +kernel
theorem d_Mo_feed_62 : decode b_Mo_feed 62 = .ok (.putfield 169, 3) := by decide +kernel
theorem d_Mo_feed_65 : decode b_Mo_feed 65 = .ok (.iinc 4 1, 3) := by decide +kernel
theorem d_Mo_feed_68 : decode b_Mo_feed 68 = .ok (.goto (-37), 3) := by decide +kernel
theorem d_Mo_feed_71 : decode b_Mo_feed 71 = .ok (.aload_n 0, 1) := by decide +kernel
theorem d_Mo_feed_72 : decode b_Mo_feed 72 = .ok (.getfield 169, 3) := by decide +kernel
theorem d_Mo_feed_75 : decode b_Mo_feed 75 = .ok (.ireturn, 1) := by decide +kernel
theorem d_Mo_look_0 : decode b_Mo_look 0 = .ok (.iload_n 1, 1) := by decide +kernel
theorem d_Mo_look_1 : decode b_Mo_look 1 = .ok (.aload_n 0, 1) := by decide +kernel
theorem d_Mo_look_2 : decode b_Mo_look 2 = .ok (.getfield 169, 3) := by decide +kernel
theorem d_Mo_look_5 : decode b_Mo_look 5 = .ok (.if_icmp .ge 16, 3) := by decide +kernel
theorem d_Mo_look_8 : decode b_Mo_look 8 = .ok (.aload_n 0, 1) := by decide +kernel
theorem d_Mo_look_9 : decode b_Mo_look 9 = .ok (.getfield 34, 3) := by decide +kernel
theorem d_Mo_look_12 : decode b_Mo_look 12 = .ok (.iload_n 1, 1) := by decide +kernel
theorem d_Mo_look_13 : decode b_Mo_look 13 = .ok (.baload, 1) := by decide +kernel
theorem d_Mo_look_14 : decode b_Mo_look 14 = .ok (.sipush 255, 3) := by decide +kernel
theorem d_Mo_look_17 : decode b_Mo_look 17 = .ok (.iand, 1) := by decide +kernel
theorem d_Mo_look_18 : decode b_Mo_look 18 = .ok (.goto 4, 3) := by decide +kernel
theorem d_Mo_look_21 : decode b_Mo_look 21 = .ok (.iconst (-1), 1) := by decide +kernel
theorem d_Mo_look_22 : decode b_Mo_look 22 = .ok (.ireturn, 1) := by decide +kernel
theorem d_Mo_isSmall_0 : decode b_Mo_isSmall 0 = .ok (.iload_n 0, 1) := by decide +kernel
theorem d_Mo_isSmall_1 : decode b_Mo_isSmall 1 = .ok (.bipush 97, 2) := by decide +kernel
theorem d_Mo_isSmall_3 : decode b_Mo_isSmall 3 = .ok (.if_icmp .lt 13, 3) := by decide +kernel
theorem d_Mo_isSmall_6 : decode b_Mo_isSmall 6 = .ok (.iload_n 0, 1) := by decide +kernel
theorem d_Mo_isSmall_7 : decode b_Mo_isSmall 7 = .ok (.bipush 122, 2) := by decide +kernel
theorem d_Mo_isSmall_9 : decode b_Mo_isSmall 9 = .ok (.if_icmp .gt 7, 3) := by decide +kernel
theorem d_Mo_isSmall_12 : decode b_Mo_isSmall 12 = .ok (.iconst 1, 1) := by decide +kernel
theorem d_Mo_isSmall_13 : decode b_Mo_isSmall 13 = .ok (.goto 4, 3) := by decide +kernel
theorem d_Mo_isSmall_16 : decode b_Mo_isSmall 16 = .ok (.iconst 0, 1) := by decide +kernel
theorem d_Mo_isSmall_17 : decode b_Mo_isSmall 17 = .ok (.ireturn, 1) := by decide +kernel
theorem d_Mo_isDigit_0 : decode b_Mo_isDigit 0 = .ok (.iload_n 0, 1) := by decide +kernel
theorem d_Mo_isDigit_1 : decode b_Mo_isDigit 1 = .ok (.bipush 48, 2) := by decide +kernel
theorem d_Mo_isDigit_3 : decode b_Mo_isDigit 3 = .ok (.if_icmp .lt 13, 3) := by decide +kernel
theorem d_Mo_isDigit_6 : decode b_Mo_isDigit 6 = .ok (.iload_n 0, 1) := by decide +kernel
theorem d_Mo_isDigit_7 : decode b_Mo_isDigit 7 = .ok (.bipush 57, 2) := by decide +kernel
theorem d_Mo_isDigit_9 : decode b_Mo_isDigit 9 = .ok (.if_icmp .gt 7, 3) := by decide +kernel
theorem d_Mo_isDigit_12 : decode b_Mo_isDigit 12 = .ok (.iconst 1, 1) := by decide +kernel
theorem d_Mo_isDigit_13 : decode b_Mo_isDigit 13 = .ok (.goto 4, 3) := by decide +kernel
theorem d_Mo_isDigit_16 : decode b_Mo_isDigit 16 = .ok (.iconst 0, 1) := by decide +kernel
