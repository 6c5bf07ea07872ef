theorem dX11_stuck_5 : decode cX11_stuck 5 = .ok (.ifCond .eq 11, 3) := by decide +kernel
theorem dX11_stuck_8 : decode cX11_stuck 8 = .ok (.aload_n 0, 1) := by decide +kernel
theorem dX11_stuck_9 : decode cX11_stuck 9 = .ok (.iload_n 2, 1) := by decide +kernel
theorem dX11_stuck_10 : decode cX11_stuck 10 = .ok (.invokevirtual 163, 3) := by decide +kernel
theorem dX11_stuck_13 : decode cX11_stuck 13 = .ok (.ifCond .ne 5, 3) := by decide +kernel
theorem dX11_stuck_16 : decode cX11_stuck 16 = .ok (.iconst (-1), 1) := by decide +kernel
theorem dX11_stuck_17 : decode cX11_stuck 17 = .ok (.ireturn, 1) := by decide +kernel
theorem dX11_swap_0 : decode cX11_swap 0 = .ok (.iload_n 1, 1) := by decide +kernel
theorem dX11_swap_1 : decode cX11_swap 1 = .ok (.ifCond .lt 16, 3) := by decide +kernel
theorem dX11_swap_4 : decode cX11_swap 4 = .ok (.iload_n 1, 1) := by decide +kernel
theorem dX11_swap_5 : decode cX11_swap 5 = .ok (.aload_n 0, 1) := by decide +kernel
theorem dX11_swap_6 : decode cX11_swap 6 = .ok (.getfield 35, 3) := by decide +kernel
theorem dX11_swap_9 : decode cX11_swap 9 = .ok (.getfield 142, 3) := by decide +kernel
theorem dX11_swap_12 : decode cX11_swap 12 = .ok (.iconst 1, 1) := by decide +kernel
theorem dX11_swap_13 : decode cX11_swap 13 = .ok (.isub, 1) := by decide +kernel
theorem dX11_swap_14 : decode cX11_swap 14 = .ok (.if_icmp .lt 5, 3) := by decide +kernel
theorem dX11_swap_17 : decode cX11_swap 17 = .ok (.iconst 0, 1) := by decide +kernel
theorem dX11_swap_18 : decode cX11_swap 18 = .ok (.ireturn, 1) := by decide +kernel
theorem dX11_table_0 : decode cX11_table 0 = .ok (.aload_n 0, 1) := by decide +kernel
theorem dX11_table_1 : decode cX11_table 1 = .ok (.getfield 74, 3) := by decide +kernel
theorem dX11_table_4 : decode cX11_table 4 = .ok (.getfield 339, 3) := by decide +kernel
theorem dX11_table_7 : decode cX11_table 7 = .ok (.ifCond .ne 5, 3) := by decide +kernel
theorem dX11_table_10 : decode cX11_table 10 = .ok (.iconst (-1), 1) := by decide +kernel
theorem dX11_table_11 : decode cX11_table 11 = .ok (.ireturn, 1) := by decide +kernel
theorem dX11_take_0 : decode cX11_take 0 = .ok (.aload_n 0, 1) := by decide +kernel
theorem dX11_take_1 : decode cX11_take 1 = .ok (.getfield 35, 3) := by decide +kernel
theorem dX11_take_4 : decode cX11_take 4 = .ok (.iload_n 1, 1) := by decide +kernel
theorem dX11_take_5 : decode cX11_take 5 = .ok (.invokevirtual 170, 3) := by decide +kernel
theorem dX11_take_8 : decode cX11_take 8 = .ok (.ifCond .ne 5, 3) := by decide +kernel
theorem dX11_take_11 : decode cX11_take 11 = .ok (.iconst 0, 1) := by decide +kernel
theorem dX11_take_12 : decode cX11_take 12 = .ok (.ireturn, 1) := by decide +kernel
theorem dX11_takeOver_0 : decode cX11_takeOver 0 = .ok (.aload_n 0, 1) := by decide +kernel
theorem dX11_takeOver_1 : decode cX11_takeOver 1 = .ok (.aload_n 0, 1) := by decide +kernel
theorem dX11_takeOver_2 : decode cX11_takeOver 2 = .ok (.getfield 26, 3) := by decide +kernel
theorem dX11_takeOver_5 : decode cX11_takeOver 5 = .ok (.getfield 117, 3) := by decide +kernel
theorem dX11_takeOver_8 : decode cX11_takeOver 8 = .ok (.putfield 120, 3) := by decide +kernel
theorem dX11_takeOver_11 : decode cX11_takeOver 11 = .ok (.aload_n 0, 1) := by decide +kernel
theorem dX11_takeOver_12 : decode cX11_takeOver 12 = .ok (.getfield 26, 3) := by decide +kernel
theorem dX11_takeOver_15 : decode cX11_takeOver 15 = .ok (.aload_n 0, 1) := by decide +kernel
theorem dX11_takeOver_16 : decode cX11_takeOver 16 = .ok (.getfield 10, 3) := by decide +kernel
theorem dX11_takeOver_19 : decode cX11_takeOver 19 = .ok (.aload_n 0, 1) := by decide +kernel
theorem dX11_takeOver_20 : decode cX11_takeOver 20 = .ok (.getfield 35, 3) := by decide +kernel
theorem dX11_takeOver_23 : decode cX11_takeOver 23 = .ok (.invokevirtual 121, 3) := by decide +kernel
theorem dX11_takeOver_26 : decode cX11_takeOver 26 = .ok (.getstatic 78, 3) := by decide +kernel
theorem dX11_takeOver_29 : decode cX11_takeOver 29 = .ok (.iconst 0, 1) := by decide +kernel
theorem dX11_takeOver_30 : decode cX11_takeOver 30 = .ok (.aload_n 0, 1) := by decide +kernel
theorem dX11_takeOver_31 : decode cX11_takeOver 31 = .ok (.getfield 87, 3) := by decide +kernel
theorem dX11_takeOver_34 : decode cX11_takeOver 34 = .ok (.iconst 0, 1) := by decide +kernel
theorem dX11_takeOver_35 : decode cX11_takeOver 35 = .ok (.aload_n 0, 1) := by decide +kernel
theorem dX11_takeOver_36 : decode cX11_takeOver 36 = .ok (.getfield 87, 3) := by decide +kernel
theorem dX11_takeOver_39 : decode cX11_takeOver 39 = .ok (.arraylength, 1) := by decide +kernel
theorem dX11_takeOver_40 : decode cX11_takeOver 40 = .ok (.invokestatic 125, 3) := by decide +kernel
theorem dX11_takeOver_43 : decode cX11_takeOver 43 = .ok (.aload_n 0, 1) := by decide +kernel
theorem dX11_takeOver_44 : decode cX11_takeOver 44 = .ok (.getfield 26, 3) := by decide +kernel
theorem dX11_takeOver_47 : decode cX11_takeOver 47 = .ok (.aload_n 0, 1) := by decide +kernel
theorem dX11_takeOver_48 : decode cX11_takeOver 48 = .ok (.getfield 10, 3) := by decide +kernel
theorem dX11_takeOver_51 : decode cX11_takeOver 51 = .ok (.aload_n 0, 1) := by decide +kernel
theorem dX11_takeOver_52 : decode cX11_takeOver 52 = .ok (.getfield 87, 3) := by decide +kernel
theorem dX11_takeOver_55 : decode cX11_takeOver 55 = .ok (.invokevirtual 131, 3) := by decide +kernel
theorem dX11_takeOver_58 : decode cX11_takeOver 58 = .ok (.aload_n 0, 1) := by decide +kernel
theorem dX11_takeOver_59 : decode cX11_takeOver 59 = .ok (.getfield 26, 3) := by decide +kernel
theorem dX11_takeOver_62 : decode cX11_takeOver 62 = .ok (.aload_n 0, 1) := by decide +kernel
theorem dX11_takeOver_63 : decode cX11_takeOver 63 = .ok (.getfield 10, 3) := by decide +kernel
theorem dX11_takeOver_66 : decode cX11_takeOver 66 = .ok (.aload_n 0, 1) := by decide +kernel
theorem dX11_takeOver_67 : decode cX11_takeOver 67 = .ok (.getfield 74, 3) := by decide +kernel
theorem dX11_takeOver_70 : decode cX11_takeOver 70 = .ok (.invokevirtual 135, 3) := by decide +kernel
theorem dX11_takeOver_73 : decode cX11_takeOver 73 = .ok (.aload_n 0, 1) := by decide +kernel
theorem dX11_takeOver_74 : decode cX11_takeOver 74 = .ok (.getfield 53, 3) := by decide +kernel
theorem dX11_takeOver_77 : decode cX11_takeOver 77 = .ok (.invokevirtual 139, 3) := by decide +kernel
theorem dX11_takeOver_80 : decode cX11_takeOver 80 = .ok (.iconst 0, 1) := by decide +kernel
theorem dX11_takeOver_81 : decode cX11_takeOver 81 = .ok (.istore_n 1, 1) := by decide +kernel
theorem dX11_takeOver_82 : decode cX11_takeOver 82 = .ok (.iload_n 1, 1) := by decide +kernel
theorem dX11_takeOver_83 : decode cX11_takeOver 83 = .ok (.iconst 3, 1) := by decide +kernel
theorem dX11_takeOver_84 : decode cX11_takeOver 84 = .ok (.if_icmp .ge 16, 3) := by decide +kernel
theorem dX11_takeOver_87 : decode cX11_takeOver 87 = .ok (.aload_n 0, 1) := by decide +kernel
theorem dX11_takeOver_88 : decode cX11_takeOver 88 = .ok (.getfield 46, 3) := by decide +kernel
theorem dX11_takeOver_91 : decode cX11_takeOver 91 = .ok (.iload_n 1, 1) := by decide +kernel
theorem dX11_takeOver_92 : decode cX11_takeOver 92 = .ok (.iconst 0, 1) := by decide +kernel
theorem dX11_takeOver_93 : decode cX11_takeOver 93 = .ok (.bastore, 1) := by decide +kernel
theorem dX11_takeOver_94 : decode cX11_takeOver 94 = .ok (.iinc 1 1, 3) := by decide +kernel
theorem dX11_takeOver_97 : decode cX11_takeOver 97 = .ok (.goto (-15), 3) := by decide +kernel
theorem dX11_takeOver_100 : decode cX11_takeOver 100 = .ok (.return_, 1) := by decide +kernel
theorem dX11_terms_0 : decode cX11_terms 0 = .ok (.aload_n 0, 1) := by decide +kernel
theorem dX11_terms_1 : decode cX11_terms 1 = .ok (.iload_n 1, 1) := by decide +kernel
theorem dX11_terms_2 : decode cX11_terms 2 = .ok (.invokevirtual 163, 3) := by decide +kernel
theorem dX11_terms_5 : decode cX11_terms 5 = .ok (.ifCond .eq 11, 3) := by decide +kernel
theorem dX11_terms_16 : decode cX11_terms 16 = .ok (.iconst (-1), 1) := by decide +kernel
theorem dX11_terms_17 : decode cX11_terms 17 = .ok (.ireturn, 1) := by decide +kernel
theorem dX11_test_0 : decode cX11_test 0 = .ok (.aload_n 0, 1) := by decide +kernel
theorem dX11_test_1 : decode cX11_test 1 = .ok (.getfield 67, 3) := by decide +kernel
theorem dX11_test_4 : decode cX11_test 4 = .ok (.aload_n 0, 1) := by decide +kernel
theorem dX11_test_5 : decode cX11_test 5 = .ok (.getfield 35, 3) := by decide +kernel
theorem dX11_test_8 : decode cX11_test 8 = .ok (.aload_n 0, 1) := by decide +kernel
theorem dX11_test_9 : decode cX11_test 9 = .ok (.getfield 120, 3) := by decide +kernel
theorem dX11_test_12 : decode cX11_test 12 = .ok (.invokevirtual 289, 3) := by decide +kernel
theorem dX11_test_15 : decode cX11_test 15 = .ok (.aload_n 0, 1) := by decide +kernel
theorem dX11_test_16 : decode cX11_test 16 = .ok (.getfield 67, 3) := by decide +kernel
theorem dX11_test_19 : decode cX11_test 19 = .ok (.invokevirtual 293, 3) := by decide +kernel
theorem dX11_test_22 : decode cX11_test 22 = .ok (.iload_n 1, 1) := by decide +kernel
theorem dX11_test_23 : decode cX11_test 23 = .ok (.iconst (-1), 1) := by decide +kernel
theorem dX11_test_24 : decode cX11_test 24 = .ok (.if_icmp .ne 11, 3) := by decide +kernel
theorem dX11_test_27 : decode cX11_test 27 = .ok (.aload_n 0, 1) := by decide +kernel
theorem dX11_test_28 : decode cX11_test 28 = .ok (.getfield 67, 3) := by decide +kernel
theorem dX11_test_31 : decode cX11_test 31 = .ok (.getfield 296, 3) := by decide +kernel
theorem dX11_test_34 : decode cX11_test 34 = .ok (.ireturn, 1) := by decide +kernel
theorem dX11_test_35 : decode cX11_test 35 = .ok (.iload_n 1, 1) := by decide +kernel
theorem dX11_test_36 : decode cX11_test 36 = .ok (.ifCond .lt 26, 3) := by decide +kernel
theorem dX11_test_39 : decode cX11_test 39 = .ok (.iload_n 1, 1) := by decide +kernel
theorem dX11_test_40 : decode cX11_test 40 = .ok (.aload_n 0, 1) := by decide +kernel
theorem dX11_test_41 : decode cX11_test 41 = .ok (.getfield 67, 3) := by decide +kernel
theorem dX11_test_44 : decode cX11_test 44 = .ok (.getfield 296, 3) := by decide +kernel
theorem dX11_test_47 : decode cX11_test 47 = .ok (.if_icmp .ge 15, 3) := by decide +kernel
theorem dX11_test_62 : decode cX11_test 62 = .ok (.iconst (-1), 1) := by decide +kernel
theorem dX11_test_63 : decode cX11_test 63 = .ok (.ireturn, 1) := by decide +kernel
theorem dX11_turnedCascade_0 : decode cX11_turnedCascade 0 = .ok (.aload_n 0, 1) := by decide +kernel
theorem dX11_turnedCascade_1 : decode cX11_turnedCascade 1 = .ok (.getfield 39, 3) := by decide +kernel
theorem dX11_turnedCascade_4 : decode cX11_turnedCascade 4 = .ok (.aload_n 0, 1) := by decide +kernel
theorem dX11_turnedCascade_5 : decode cX11_turnedCascade 5 = .ok (.getfield 35, 3) := by decide +kernel
theorem dX11_turnedCascade_8 : decode cX11_turnedCascade 8 = .ok (.invokevirtual 193, 3) := by decide +kernel
theorem dX11_turnedCascade_11 : decode cX11_turnedCascade 11 = .ok (.aload_n 0, 1) := by decide +kernel
theorem dX11_turnedCascade_12 : decode cX11_turnedCascade 12 = .ok (.getfield 39, 3) := by decide +kernel
theorem dX11_turnedCascade_15 : decode cX11_turnedCascade 15 = .ok (.invokevirtual 196, 3) := by decide +kernel
theorem dX11_turnedCascade_18 : decode cX11_turnedCascade 18 = .ok (.aload_n 0, 1) := by decide +kernel
theorem dX11_turnedCascade_19 : decode cX11_turnedCascade 19 = .ok (.getfield 39, 3) := by decide +kernel
theorem dX11_turnedCascade_22 : decode cX11_turnedCascade 22 = .ok (.areturn, 1) := by decide +kernel
theorem dX11_undo_0 : decode cX11_undo 0 = .ok (.aload_n 0, 1) := by decide +kernel
theorem dX11_undo_1 : decode cX11_undo 1 = .ok (.getfield 53, 3) := by decide +kernel
theorem dX11_undo_4 : decode cX11_undo 4 = .ok (.aload_n 0, 1) := by decide +kernel
theorem dX11_undo_5 : decode cX11_undo 5 = .ok (.getfield 35, 3) := by decide +kernel
theorem dX11_undo_8 : decode cX11_undo 8 = .ok (.invokevirtual 199, 3) := by decide +kernel
theorem dX11_undo_11 : decode cX11_undo 11 = .ok (.ireturn, 1) := by decide +kernel
theorem dX11_undone_0 : decode cX11_undone 0 = .ok (.aload_n 0, 1) := by decide +kernel
theorem dX11_undone_1 : decode cX11_undone 1 = .ok (.iload_n 1, 1) := by decide +kernel
theorem dX11_undone_2 : decode cX11_undone 2 = .ok (.invokevirtual 248, 3) := by decide +kernel
theorem dX11_undone_5 : decode cX11_undone 5 = .ok (.ifCond .eq 14, 3) := by decide +kernel
theorem dX11_undone_8 : decode cX11_undone 8 = .ok (.aload_n 0, 1) := by decide +kernel
theorem dX11_undone_9 : decode cX11_undone 9 = .ok (.getfield 35, 3) := by decide +kernel
theorem dX11_undone_12 : decode cX11_undone 12 = .ok (.iload_n 1, 1) := by decide +kernel
theorem dX11_undone_13 : decode cX11_undone 13 = .ok (.invokevirtual 254, 3) := by decide +kernel
theorem dX11_undone_16 : decode cX11_undone 16 = .ok (.goto 4, 3) := by decide +kernel
theorem dX11_undone_19 : decode cX11_undone 19 = .ok (.iconst (-1), 1) := by decide +kernel
theorem dX11_undone_20 : decode cX11_undone 20 = .ok (.ireturn, 1) := by decide +kernel
theorem dX11_unlikeGates_0 : decode cX11_unlikeGates 0 = .ok (.iconst 0, 1) := by decide +kernel
theorem dX11_unlikeGates_1 : decode cX11_unlikeGates 1 = .ok (.istore_n 1, 1) := by decide +kernel
theorem dX11_unlikeGates_2 : decode cX11_unlikeGates 2 = .ok (.iconst 0, 1) := by decide +kernel
theorem dX11_unlikeGates_3 : decode cX11_unlikeGates 3 = .ok (.istore_n 2, 1) := by decide +kernel
theorem dX11_unlikeGates_4 : decode cX11_unlikeGates 4 = .ok (.iload_n 2, 1) := by decide +kernel
theorem dX11_unlikeGates_5 : decode cX11_unlikeGates 5 = .ok (.aload_n 0, 1) := by decide +kernel
theorem dX11_unlikeGates_6 : decode cX11_unlikeGates 6 = .ok (.getfield 35, 3) := by decide +kernel
theorem dX11_unlikeGates_9 : decode cX11_unlikeGates 9 = .ok (.getfield 142, 3) := by decide +kernel
theorem dX11_unlikeGates_12 : decode cX11_unlikeGates 12 = .ok (.if_icmp .ge 36, 3) := by decide +kernel
theorem dX11_unlikeGates_48 : decode cX11_unlikeGates 48 = .ok (.iload_n 1, 1) := by decide +kernel
theorem dX11_unlikeGates_49 : decode cX11_unlikeGates 49 = .ok (.ireturn, 1) := by decide +kernel
theorem dX11_wiresUsed_0 : decode cX11_wiresUsed 0 = .ok (.iconst 0, 1) := by decide +kernel
theorem dX11_wiresUsed_1 : decode cX11_wiresUsed 1 = .ok (.istore_n 1, 1) := by decide +kernel
theorem dX11_wiresUsed_2 : decode cX11_wiresUsed 2 = .ok (.iconst 0, 1) := by decide +kernel
theorem dX11_wiresUsed_3 : decode cX11_wiresUsed 3 = .ok (.istore_n 2, 1) := by decide +kernel
theorem dX11_wiresUsed_4 : decode cX11_wiresUsed 4 = .ok (.iload_n 2, 1) := by decide +kernel
theorem dX11_wiresUsed_5 : decode cX11_wiresUsed 5 = .ok (.aload_n 0, 1) := by decide +kernel
theorem dX11_wiresUsed_6 : decode cX11_wiresUsed 6 = .ok (.getfield 35, 3) := by decide +kernel
theorem dX11_wiresUsed_9 : decode cX11_wiresUsed 9 = .ok (.getfield 142, 3) := by decide +kernel
theorem dX11_wiresUsed_12 : decode cX11_wiresUsed 12 = .ok (.if_icmp .ge 23, 3) := by decide +kernel
theorem dX11_wiresUsed_35 : decode cX11_wiresUsed 35 = .ok (.iload_n 1, 1) := by decide +kernel
theorem dX11_wiresUsed_36 : decode cX11_wiresUsed 36 = .ok (.ireturn, 1) := by decide +kernel
theorem dX12_agree_0 : decode cX12_agree 0 = .ok (.aload_n 0, 1) := by decide +kernel
theorem dX12_agree_1 : decode cX12_agree 1 = .ok (.iload_n 1, 1) := by decide +kernel
theorem dX12_agree_2 : decode cX12_agree 2 = .ok (.invokevirtual 272, 3) := by decide +kernel
theorem dX12_agree_5 : decode cX12_agree 5 = .ok (.ifCond .eq 32, 3) := by decide +kernel
theorem dX12_agree_37 : decode cX12_agree 37 = .ok (.iconst (-1), 1) := by decide +kernel
theorem dX12_agree_38 : decode cX12_agree 38 = .ok (.ireturn, 1) := by decide +kernel
theorem dX12_agreeing_0 : decode cX12_agreeing 0 = .ok (.iconst 0, 1) := by decide +kernel
theorem dX12_agreeing_1 : decode cX12_agreeing 1 = .ok (.istore_n 1, 1) := by decide +kernel
theorem dX12_agreeing_2 : decode cX12_agreeing 2 = .ok (.iconst 0, 1) := by decide +kernel
theorem dX12_agreeing_3 : decode cX12_agreeing 3 = .ok (.istore_n 2, 1) := by decide +kernel
theorem dX12_agreeing_4 : decode cX12_agreeing 4 = .ok (.iload_n 2, 1) := by decide +kernel
theorem dX12_agreeing_5 : decode cX12_agreeing 5 = .ok (.aload_n 0, 1) := by decide +kernel
theorem dX12_agreeing_6 : decode cX12_agreeing 6 = .ok (.invokevirtual 244, 3) := by decide +kernel
theorem dX12_agreeing_9 : decode cX12_agreeing 9 = .ok (.if_icmp .ge 55, 3) := by decide +kernel
theorem dX12_agreeing_64 : decode cX12_agreeing 64 = .ok (.iload_n 1, 1) := by decide +kernel
theorem dX12_agreeing_65 : decode cX12_agreeing 65 = .ok (.ireturn, 1) := by decide +kernel
theorem dX12_appends_0 : decode cX12_appends 0 = .ok (.iload_n 2, 1) := by decide +kernel
theorem dX12_appends_1 : decode cX12_appends 1 = .ok (.ifCond .ne 7, 3) := by decide +kernel
theorem dX12_appends_4 : decode cX12_appends 4 = .ok (.lload_n 0, 1) := by decide +kernel
theorem dX12_appends_5 : decode cX12_appends 5 = .ok (.goto 16, 3) := by decide +kernel
theorem dX12_appends_8 : decode cX12_appends 8 = .ok (.ldc2_w 137, 3) := by decide +kernel
theorem dX12_appends_11 : decode cX12_appends 11 = .ok (.lload_n 0, 1) := by decide +kernel
theorem dX12_appends_12 : decode cX12_appends 12 = .ok (.lmul, 1) := by decide +kernel
theorem dX12_appends_13 : decode cX12_appends 13 = .ok (.iload_n 2, 1) := by decide +kernel
theorem dX12_appends_14 : decode cX12_appends 14 = .ok (.bipush 97, 2) := by decide +kernel
theorem dX12_appends_16 : decode cX12_appends 16 = .ok (.isub, 1) := by decide +kernel
theorem dX12_appends_17 : decode cX12_appends 17 = .ok (.iconst 1, 1) := by decide +kernel
theorem dX12_appends_18 : decode cX12_appends 18 = .ok (.iadd, 1) := by decide +kernel
theorem dX12_appends_19 : decode cX12_appends 19 = .ok (.i2l, 1) := by decide +kernel
theorem dX12_appends_20 : decode cX12_appends 20 = .ok (.ladd, 1) := by decide +kernel
theorem dX12_appends_21 : decode cX12_appends 21 = .ok (.lreturn, 1) := by decide +kernel
theorem dX12_back_0 : decode cX12_back 0 = .ok (.iload_n 1, 1) := by decide +kernel
theorem dX12_back_1 : decode cX12_back 1 = .ok (.ifCond .lt 11, 3) := by decide +kernel
theorem dX12_back_4 : decode cX12_back 4 = .ok (.iload_n 1, 1) := by decide +kernel
theorem dX12_back_5 : decode cX12_back 5 = .ok (.aload_n 0, 1) := by decide +kernel
theorem dX12_back_6 : decode cX12_back 6 = .ok (.getfield 127, 3) := by decide +kernel
theorem dX12_back_9 : decode cX12_back 9 = .ok (.if_icmp .le 5, 3) := by decide +kernel
theorem dX12_back_12 : decode cX12_back 12 = .ok (.iconst (-1), 1) := by decide +kernel
theorem dX12_back_13 : decode cX12_back 13 = .ok (.ireturn, 1) := by decide +kernel
theorem dX12_back_14 : decode cX12_back 14 = .ok (.aload_n 0, 1) := by decide +kernel
theorem dX12_back_15 : decode cX12_back 15 = .ok (.dup, 1) := by decide +kernel
theorem dX12_back_16 : decode cX12_back 16 = .ok (.getfield 127, 3) := by decide +kernel
theorem dX12_back_19 : decode cX12_back 19 = .ok (.iload_n 1, 1) := by decide +kernel
theorem dX12_back_20 : decode cX12_back 20 = .ok (.isub, 1) := by decide +kernel
theorem dX12_back_21 : decode cX12_back 21 = .ok (.putfield 127, 3) := by decide +kernel
theorem dX12_back_24 : decode cX12_back 24 = .ok (.aload_n 0, 1) := by decide +kernel
theorem dX12_back_25 : decode cX12_back 25 = .ok (.getfield 127, 3) := by decide +kernel
theorem dX12_back_28 : decode cX12_back 28 = .ok (.ireturn, 1) := by decide +kernel
theorem dX12_become_0 : decode cX12_become 0 = .ok (.iload_n 1, 1) := by decide +kernel
theorem dX12_become_1 : decode cX12_become 1 = .ok (.iconst 0, 1) := by decide +kernel
theorem dX12_become_2 : decode cX12_become 2 = .ok (.iconst 4, 1) := by decide +kernel
theorem dX12_become_3 : decode cX12_become 3 = .ok (.invokestatic 237, 3) := by decide +kernel
theorem dX12_become_6 : decode cX12_become 6 = .ok (.ifCond .eq 16, 3) := by decide +kernel
theorem dX12_become_9 : decode cX12_become 9 = .ok (.iload_n 1, 1) := by decide +kernel
theorem dX12_become_10 : decode cX12_become 10 = .ok (.iconst 4, 1) := by decide +kernel
theorem dX12_become_11 : decode cX12_become 11 = .ok (.if_icmp .ne 13, 3) := by decide +kernel
theorem dX12_become_14 : decode cX12_become 14 = .ok (.aload_n 0, 1) := by decide +kernel
theorem dX12_become_15 : decode cX12_become 15 = .ok (.getfield 203, 3) := by decide +kernel
theorem dX12_become_18 : decode cX12_become 18 = .ok (.iconst 4, 1) := by decide +kernel
theorem dX12_become_19 : decode cX12_become 19 = .ok (.if_icmp .ne 5, 3) := by decide +kernel
theorem dX12_become_22 : decode cX12_become 22 = .ok (.iconst (-1), 1) := by decide +kernel
theorem dX12_become_23 : decode cX12_become 23 = .ok (.ireturn, 1) := by decide +kernel
theorem dX12_become_24 : decode cX12_become 24 = .ok (.aload_n 0, 1) := by decide +kernel
theorem dX12_become_25 : decode cX12_become 25 = .ok (.iload_n 1, 1) := by decide +kernel
theorem dX12_become_26 : decode cX12_become 26 = .ok (.invokevirtual 279, 3) := by decide +kernel
theorem dX12_become_29 : decode cX12_become 29 = .ok (.aload_n 0, 1) := by decide +kernel
theorem dX12_become_30 : decode cX12_become 30 = .ok (.getfield 74, 3) := by decide +kernel
theorem dX12_become_33 : decode cX12_become 33 = .ok (.iconst 0, 1) := by decide +kernel
theorem dX12_become_34 : decode cX12_become 34 = .ok (.iaload, 1) := by decide +kernel
theorem dX12_become_35 : decode cX12_become 35 = .ok (.bipush 16, 2) := by decide +kernel
theorem dX12_become_37 : decode cX12_become 37 = .ok (.if_icmp .le 5, 3) := by decide +kernel
theorem dX12_become_42 : decode cX12_become 42 = .ok (.aload_n 0, 1) := by decide +kernel
theorem dX12_become_43 : decode cX12_become 43 = .ok (.invokevirtual 265, 3) := by decide +kernel
theorem dX12_become_46 : decode cX12_become 46 = .ok (.iconst 0, 1) := by decide +kernel
theorem dX12_become_47 : decode cX12_become 47 = .ok (.istore_n 2, 1) := by decide +kernel
theorem dX12_become_48 : decode cX12_become 48 = .ok (.iload_n 2, 1) := by decide +kernel
theorem dX12_become_49 : decode cX12_become 49 = .ok (.bipush 49, 2) := by decide +kernel
theorem dX12_become_51 : decode cX12_become 51 = .ok (.if_icmp .ge 21, 3) := by decide +kernel
theorem dX12_become_54 : decode cX12_become 54 = .ok (.aload_n 0, 1) := by decide +kernel
theorem dX12_become_55 : decode cX12_become 55 = .ok (.getfield 52, 3) := by decide +kernel
theorem dX12_become_58 : decode cX12_become 58 = .ok (.iload_n 2, 1) := by decide +kernel
theorem dX12_become_59 : decode cX12_become 59 = .ok (.aload_n 0, 1) := by decide +kernel
theorem dX12_become_60 : decode cX12_become 60 = .ok (.getfield 74, 3) := by decide +kernel
theorem dX12_become_63 : decode cX12_become 63 = .ok (.iload_n 2, 1) := by decide +kernel
theorem dX12_become_64 : decode cX12_become 64 = .ok (.iaload, 1) := by decide +kernel
theorem dX12_become_65 : decode cX12_become 65 = .ok (.iastore, 1) := by decide +kernel
theorem dX12_become_66 : decode cX12_become 66 = .ok (.iinc 2 1, 3) := by decide +kernel
theorem dX12_become_69 : decode cX12_become 69 = .ok (.goto (-21), 3) := by decide +kernel
theorem dX12_become_72 : decode cX12_become 72 = .ok (.aload_n 0, 1) := by decide +kernel
theorem dX12_become_73 : decode cX12_become 73 = .ok (.invokevirtual 244, 3) := by decide +kernel
theorem dX12_become_76 : decode cX12_become 76 = .ok (.ireturn, 1) := by decide +kernel
theorem dX12_bitsOf_0 : decode cX12_bitsOf 0 = .ok (.iconst 0, 1) := by decide +kernel
theorem dX12_bitsOf_1 : decode cX12_bitsOf 1 = .ok (.istore_n 1, 1) := by decide +kernel
theorem dX12_bitsOf_2 : decode cX12_bitsOf 2 = .ok (.iload_n 0, 1) := by decide +kernel
theorem dX12_bitsOf_3 : decode cX12_bitsOf 3 = .ok (.istore_n 2, 1) := by decide +kernel
theorem dX12_bitsOf_4 : decode cX12_bitsOf 4 = .ok (.iload_n 2, 1) := by decide +kernel
theorem dX12_bitsOf_5 : decode cX12_bitsOf 5 = .ok (.ifCond .le 16, 3) := by decide +kernel
theorem dX12_bitsOf_8 : decode cX12_bitsOf 8 = .ok (.iload_n 1, 1) := by decide +kernel
theorem dX12_bitsOf_9 : decode cX12_bitsOf 9 = .ok (.iload_n 2, 1) := by decide +kernel
theorem dX12_bitsOf_10 : decode cX12_bitsOf 10 = .ok (.iconst 1, 1) := by decide +kernel
theorem dX12_bitsOf_11 : decode cX12_bitsOf 11 = .ok (.iand, 1) := by decide +kernel
theorem dX12_bitsOf_12 : decode cX12_bitsOf 12 = .ok (.iadd, 1) := by decide +kernel
theorem dX12_bitsOf_13 : decode cX12_bitsOf 13 = .ok (.istore_n 1, 1) := by decide +kernel
theorem dX12_bitsOf_14 : decode cX12_bitsOf 14 = .ok (.iload_n 2, 1) := by decide +kernel
theorem dX12_bitsOf_15 : decode cX12_bitsOf 15 = .ok (.iconst 1, 1) := by decide +kernel
theorem dX12_bitsOf_16 : decode cX12_bitsOf 16 = .ok (.ishr, 1) := by decide +kernel
theorem dX12_bitsOf_17 : decode cX12_bitsOf 17 = .ok (.istore_n 2, 1) := by decide +kernel
theorem dX12_bitsOf_18 : decode cX12_bitsOf 18 = .ok (.goto (-14), 3) := by decide +kernel
theorem dX12_bitsOf_21 : decode cX12_bitsOf 21 = .ok (.iload_n 1, 1) := by decide +kernel
theorem dX12_bitsOf_22 : decode cX12_bitsOf 22 = .ok (.ireturn, 1) := by decide +kernel
theorem dX12_byteAt_0 : decode cX12_byteAt 0 = .ok (.iload_n 1, 1) := by decide +kernel
theorem dX12_byteAt_1 : decode cX12_byteAt 1 = .ok (.aload_n 0, 1) := by decide +kernel
theorem dX12_byteAt_2 : decode cX12_byteAt 2 = .ok (.getfield 134, 3) := by decide +kernel
theorem dX12_byteAt_5 : decode cX12_byteAt 5 = .ok (.if_icmp .ge 16, 3) := by decide +kernel
theorem dX12_byteAt_21 : decode cX12_byteAt 21 = .ok (.iconst 0, 1) := by decide +kernel
theorem dX12_byteAt_22 : decode cX12_byteAt 22 = .ok (.ireturn, 1) := by decide +kernel
theorem dX12_common_0 : decode cX12_common 0 = .ok (.iload_n 0, 1) := by decide +kernel
theorem dX12_common_1 : decode cX12_common 1 = .ok (.istore_n 2, 1) := by decide +kernel
theorem dX12_common_2 : decode cX12_common 2 = .ok (.iload_n 1, 1) := by decide +kernel
theorem dX12_common_3 : decode cX12_common 3 = .ok (.istore_n 3, 1) := by decide +kernel
theorem dX12_common_4 : decode cX12_common 4 = .ok (.iload_n 3, 1) := by decide +kernel
theorem dX12_common_5 : decode cX12_common 5 = .ok (.ifCond .le 16, 3) := by decide +kernel
theorem dX12_common_8 : decode cX12_common 8 = .ok (.iload_n 2, 1) := by decide +kernel
theorem dX12_common_9 : decode cX12_common 9 = .ok (.iload_n 3, 1) := by decide +kernel
theorem dX12_common_10 : decode cX12_common 10 = .ok (.irem, 1) := by decide +kernel
theorem dX12_common_11 : decode cX12_common 11 = .ok (.istore 4, 2) := by decide +kernel
theorem dX12_common_13 : decode cX12_common 13 = .ok (.iload_n 3, 1) := by decide +kernel
theorem dX12_common_14 : decode cX12_common 14 = .ok (.istore_n 2, 1) := by decide +kernel
theorem dX12_common_15 : decode cX12_common 15 = .ok (.iload 4, 2) := by decide +kernel
theorem dX12_common_17 : decode cX12_common 17 = .ok (.istore_n 3, 1) := by decide +kernel
theorem dX12_common_18 : decode cX12_common 18 = .ok (.goto (-14), 3) := by decide +kernel
theorem dX12_common_21 : decode cX12_common 21 = .ok (.iload_n 2, 1) := by decide +kernel
theorem dX12_common_22 : decode cX12_common 22 = .ok (.ireturn, 1) := by decide +kernel
theorem dX12_cost_0 : decode cX12_cost 0 = .ok (.iconst 0, 1) := by decide +kernel
theorem dX12_cost_1 : decode cX12_cost 1 = .ok (.istore_n 1, 1) := by decide +kernel
theorem dX12_cost_2 : decode cX12_cost 2 = .ok (.iconst 0, 1) := by decide +kernel
theorem dX12_cost_3 : decode cX12_cost 3 = .ok (.istore_n 2, 1) := by decide +kernel
theorem dX12_cost_4 : decode cX12_cost 4 = .ok (.iload_n 2, 1) := by decide +kernel
theorem dX12_cost_5 : decode cX12_cost 5 = .ok (.aload_n 0, 1) := by decide +kernel
theorem dX12_cost_6 : decode cX12_cost 6 = .ok (.invokevirtual 244, 3) := by decide +kernel
theorem dX12_cost_9 : decode cX12_cost 9 = .ok (.if_icmp .ge 22, 3) := by decide +kernel
theorem dX12_cost_31 : decode cX12_cost 31 = .ok (.iload_n 1, 1) := by decide +kernel
theorem dX12_cost_32 : decode cX12_cost 32 = .ok (.ireturn, 1) := by decide +kernel
theorem dX12_count_0 : decode cX12_count 0 = .ok (.iload_n 1, 1) := by decide +kernel
theorem dX12_count_1 : decode cX12_count 1 = .ok (.bipush 9, 2) := by decide +kernel
theorem dX12_count_3 : decode cX12_count 3 = .ok (.bipush 12, 2) := by decide +kernel
theorem dX12_count_5 : decode cX12_count 5 = .ok (.invokestatic 237, 3) := by decide +kernel
theorem dX12_count_8 : decode cX12_count 8 = .ok (.ifCond .eq 13, 3) := by decide +kernel
theorem dX12_count_11 : decode cX12_count 11 = .ok (.aload_n 0, 1) := by decide +kernel
theorem dX12_count_12 : decode cX12_count 12 = .ok (.getfield 40, 3) := by decide +kernel
theorem dX12_count_15 : decode cX12_count 15 = .ok (.iload_n 1, 1) := by decide +kernel
theorem dX12_count_16 : decode cX12_count 16 = .ok (.bipush 9, 2) := by decide +kernel
theorem dX12_count_18 : decode cX12_count 18 = .ok (.isub, 1) := by decide +kernel
theorem dX12_count_19 : decode cX12_count 19 = .ok (.iaload, 1) := by decide +kernel
theorem dX12_count_20 : decode cX12_count 20 = .ok (.ireturn, 1) := by decide +kernel
theorem dX12_count_21 : decode cX12_count 21 = .ok (.iconst 0, 1) := by decide +kernel
theorem dX12_count_22 : decode cX12_count 22 = .ok (.istore_n 2, 1) := by decide +kernel
theorem dX12_count_23 : decode cX12_count 23 = .ok (.iload_n 1, 1) := by decide +kernel
theorem dX12_count_24 : decode cX12_count 24 = .ok (.tableswitch 234 0 16 #[84, 89, 94, 99, 104, 109, 138, 143, 148, 234, 234, 234, 234, 193, 219, 224, 229], 84) := by decide +kernel
theorem dX12_count_108 : decode cX12_count 108 = .ok (.aload_n 0, 1) := by decide +kernel
theorem dX12_count_109 : decode cX12_count 109 = .ok (.getfield 203, 3) := by decide +kernel
theorem dX12_count_112 : decode cX12_count 112 = .ok (.ireturn, 1) := by decide +kernel
theorem dX12_count_113 : decode cX12_count 113 = .ok (.aload_n 0, 1) := by decide +kernel
theorem dX12_count_114 : decode cX12_count 114 = .ok (.invokevirtual 244, 3) := by decide +kernel
theorem dX12_count_117 : decode cX12_count 117 = .ok (.ireturn, 1) := by decide +kernel
theorem dX12_count_118 : decode cX12_count 118 = .ok (.aload_n 0, 1) := by decide +kernel
theorem dX12_count_119 : decode cX12_count 119 = .ok (.invokevirtual 415, 3) := by decide +kernel
theorem dX12_count_122 : decode cX12_count 122 = .ok (.ireturn, 1) := by decide +kernel
theorem dX12_count_123 : decode cX12_count 123 = .ok (.aload_n 0, 1) := by decide +kernel
theorem dX12_count_124 : decode cX12_count 124 = .ok (.invokevirtual 328, 3) := by decide +kernel
theorem dX12_count_127 : decode cX12_count 127 = .ok (.ireturn, 1) := by decide +kernel
theorem dX12_count_128 : decode cX12_count 128 = .ok (.aload_n 0, 1) := by decide +kernel
theorem dX12_count_129 : decode cX12_count 129 = .ok (.invokevirtual 418, 3) := by decide +kernel
theorem dX12_count_132 : decode cX12_count 132 = .ok (.ireturn, 1) := by decide +kernel
theorem dX12_count_133 : decode cX12_count 133 = .ok (.iconst 0, 1) := by decide +kernel
theorem dX12_count_134 : decode cX12_count 134 = .ok (.istore_n 3, 1) := by decide +kernel
theorem dX12_count_135 : decode cX12_count 135 = .ok (.iload_n 3, 1) := by decide +kernel
theorem dX12_count_136 : decode cX12_count 136 = .ok (.aload_n 0, 1) := by decide +kernel
theorem dX12_count_137 : decode cX12_count 137 = .ok (.invokevirtual 244, 3) := by decide +kernel
theorem dX12_count_140 : decode cX12_count 140 = .ok (.if_icmp .ge 20, 3) := by decide +kernel
theorem dX12_count_160 : decode cX12_count 160 = .ok (.iload_n 2, 1) := by decide +kernel
theorem dX12_count_161 : decode cX12_count 161 = .ok (.ireturn, 1) := by decide +kernel
theorem dX12_count_162 : decode cX12_count 162 = .ok (.aload_n 0, 1) := by decide +kernel
theorem dX12_count_163 : decode cX12_count 163 = .ok (.getfield 127, 3) := by decide +kernel
theorem dX12_count_166 : decode cX12_count 166 = .ok (.ireturn, 1) := by decide +kernel
theorem dX12_count_167 : decode cX12_count 167 = .ok (.aload_n 0, 1) := by decide +kernel
theorem dX12_count_168 : decode cX12_count 168 = .ok (.getfield 218, 3) := by decide +kernel
theorem dX12_count_171 : decode cX12_count 171 = .ok (.ireturn, 1) := by decide +kernel
theorem dX12_count_172 : decode cX12_count 172 = .ok (.aload_n 0, 1) := by decide +kernel
theorem dX12_count_173 : decode cX12_count 173 = .ok (.getfield 64, 3) := by decide +kernel
theorem dX12_count_176 : decode cX12_count 176 = .ok (.iconst 0, 1) := by decide +kernel
theorem dX12_count_177 : decode cX12_count 177 = .ok (.baload, 1) := by decide +kernel
theorem dX12_count_178 : decode cX12_count 178 = .ok (.ifCond .eq 7, 3) := by decide +kernel
theorem dX12_count_185 : decode cX12_count 185 = .ok (.iconst 0, 1) := by decide +kernel
theorem dX12_count_186 : decode cX12_count 186 = .ok (.aload_n 0, 1) := by decide +kernel
theorem dX12_count_187 : decode cX12_count 187 = .ok (.getfield 64, 3) := by decide +kernel
theorem dX12_count_190 : decode cX12_count 190 = .ok (.iconst 1, 1) := by decide +kernel
theorem dX12_count_191 : decode cX12_count 191 = .ok (.baload, 1) := by decide +kernel
theorem dX12_count_192 : decode cX12_count 192 = .ok (.ifCond .eq 7, 3) := by decide +kernel
theorem dX12_count_199 : decode cX12_count 199 = .ok (.iconst 0, 1) := by decide +kernel
theorem dX12_count_200 : decode cX12_count 200 = .ok (.iadd, 1) := by decide +kernel
theorem dX12_count_201 : decode cX12_count 201 = .ok (.aload_n 0, 1) := by decide +kernel
theorem dX12_count_202 : decode cX12_count 202 = .ok (.getfield 64, 3) := by decide +kernel
theorem dX12_count_205 : decode cX12_count 205 = .ok (.iconst 2, 1) := by decide +kernel
theorem dX12_count_206 : decode cX12_count 206 = .ok (.baload, 1) := by decide +kernel
theorem dX12_count_207 : decode cX12_count 207 = .ok (.ifCond .eq 7, 3) := by decide +kernel
theorem dX12_count_214 : decode cX12_count 214 = .ok (.iconst 0, 1) := by decide +kernel
theorem dX12_count_215 : decode cX12_count 215 = .ok (.iadd, 1) := by decide +kernel
theorem dX12_count_216 : decode cX12_count 216 = .ok (.ireturn, 1) := by decide +kernel
theorem dX12_count_217 : decode cX12_count 217 = .ok (.iconst 0, 1) := by decide +kernel
theorem dX12_count_218 : decode cX12_count 218 = .ok (.istore_n 3, 1) := by decide +kernel
theorem dX12_count_219 : decode cX12_count 219 = .ok (.iload_n 3, 1) := by decide +kernel
theorem dX12_count_220 : decode cX12_count 220 = .ok (.aload_n 0, 1) := by decide +kernel
theorem dX12_count_221 : decode cX12_count 221 = .ok (.invokevirtual 244, 3) := by decide +kernel
theorem dX12_count_224 : decode cX12_count 224 = .ok (.if_icmp .ge 17, 3) := by decide +kernel
theorem dX12_count_241 : decode cX12_count 241 = .ok (.iload_n 2, 1) := by decide +kernel
theorem dX12_count_242 : decode cX12_count 242 = .ok (.ireturn, 1) := by decide +kernel
theorem dX12_count_243 : decode cX12_count 243 = .ok (.aload_n 0, 1) := by decide +kernel
theorem dX12_count_244 : decode cX12_count 244 = .ok (.invokevirtual 421, 3) := by decide +kernel
theorem dX12_count_247 : decode cX12_count 247 = .ok (.ireturn, 1) := by decide +kernel
theorem dX12_count_248 : decode cX12_count 248 = .ok (.aload_n 0, 1) := by decide +kernel
theorem dX12_count_249 : decode cX12_count 249 = .ok (.invokevirtual 424, 3) := by decide +kernel
theorem dX12_count_252 : decode cX12_count 252 = .ok (.ireturn, 1) := by decide +kernel
theorem dX12_count_253 : decode cX12_count 253 = .ok (.aload_n 0, 1) := by decide +kernel
theorem dX12_count_254 : decode cX12_count 254 = .ok (.invokevirtual 427, 3) := by decide +kernel
theorem dX12_count_257 : decode cX12_count 257 = .ok (.ireturn, 1) := by decide +kernel
theorem dX12_count_258 : decode cX12_count 258 = .ok (.iconst (-1), 1) := by decide +kernel
theorem dX12_count_259 : decode cX12_count 259 = .ok (.ireturn, 1) := by decide +kernel
theorem dX12_cutsText_0 : decode cX12_cutsText 0 = .ok (.aload_n 0, 1) := by decide +kernel
theorem dX12_cutsText_1 : decode cX12_cutsText 1 = .ok (.iconst 0, 1) := by decide +kernel
theorem dX12_cutsText_2 : decode cX12_cutsText 2 = .ok (.putfield 143, 3) := by decide +kernel
theorem dX12_cutsText_5 : decode cX12_cutsText 5 = .ok (.iconst 0, 1) := by decide +kernel
theorem dX12_cutsText_6 : decode cX12_cutsText 6 = .ok (.istore_n 1, 1) := by decide +kernel
theorem dX12_cutsText_7 : decode cX12_cutsText 7 = .ok (.aload_n 0, 1) := by decide +kernel
theorem dX12_cutsText_8 : decode cX12_cutsText 8 = .ok (.getfield 143, 3) := by decide +kernel
theorem dX12_cutsText_11 : decode cX12_cutsText 11 = .ok (.sipush 400, 3) := by decide +kernel
theorem dX12_cutsText_14 : decode cX12_cutsText 14 = .ok (.if_icmp .gt 272, 3) := by decide +kernel
theorem dX12_cutsText_17 : decode cX12_cutsText 17 = .ok (.aload_n 0, 1) := by decide +kernel
theorem dX12_cutsText_18 : decode cX12_cutsText 18 = .ok (.iload_n 1, 1) := by decide +kernel
theorem dX12_cutsText_19 : decode cX12_cutsText 19 = .ok (.invokevirtual 146, 3) := by decide +kernel
theorem dX12_cutsText_22 : decode cX12_cutsText 22 = .ok (.istore_n 2, 1) := by decide +kernel
theorem dX12_cutsText_23 : decode cX12_cutsText 23 = .ok (.iload_n 1, 1) := by decide +kernel
theorem dX12_cutsText_24 : decode cX12_cutsText 24 = .ok (.aload_n 0, 1) := by decide +kernel
theorem dX12_cutsText_25 : decode cX12_cutsText 25 = .ok (.getfield 134, 3) := by decide +kernel
theorem dX12_cutsText_28 : decode cX12_cutsText 28 = .ok (.if_icmp .lt 15, 3) := by decide +kernel
theorem dX12_cutsText_31 : decode cX12_cutsText 31 = .ok (.aload_n 0, 1) := by decide +kernel
theorem dX12_cutsText_32 : decode cX12_cutsText 32 = .ok (.iconst 0, 1) := by decide +kernel
theorem dX12_cutsText_33 : decode cX12_cutsText 33 = .ok (.aload_n 0, 1) := by decide +kernel
theorem dX12_cutsText_34 : decode cX12_cutsText 34 = .ok (.getfield 134, 3) := by decide +kernel
theorem dX12_cutsText_37 : decode cX12_cutsText 37 = .ok (.iconst 0, 1) := by decide +kernel
theorem dX12_cutsText_38 : decode cX12_cutsText 38 = .ok (.lconst 0, 1) := by decide +kernel
theorem dX12_cutsText_39 : decode cX12_cutsText 39 = .ok (.invokevirtual 150, 3) := by decide +kernel
theorem dX12_cutsText_42 : decode cX12_cutsText 42 = .ok (.return_, 1) := by decide +kernel
theorem dX12_degree_0 : decode cX12_degree 0 = .ok (.iconst 0, 1) := by decide +kernel
theorem dX12_degree_1 : decode cX12_degree 1 = .ok (.istore_n 1, 1) := by decide +kernel
theorem dX12_degree_2 : decode cX12_degree 2 = .ok (.iconst 0, 1) := by decide +kernel
theorem dX12_degree_3 : decode cX12_degree 3 = .ok (.istore_n 2, 1) := by decide +kernel
theorem dX12_degree_4 : decode cX12_degree 4 = .ok (.iload_n 2, 1) := by decide +kernel
theorem dX12_degree_5 : decode cX12_degree 5 = .ok (.aload_n 0, 1) := by decide +kernel
theorem dX12_degree_6 : decode cX12_degree 6 = .ok (.getfield 203, 3) := by decide +kernel
theorem dX12_degree_9 : decode cX12_degree 9 = .ok (.if_icmp .ge 57, 3) := by decide +kernel
theorem dX12_degree_66 : decode cX12_degree 66 = .ok (.iload_n 1, 1) := by decide +kernel
theorem dX12_degree_67 : decode cX12_degree 67 = .ok (.ireturn, 1) := by decide +kernel
theorem dX12_feed_0 : decode cX12_feed 0 = .ok (.aload_n 0, 1) := by decide +kernel
theorem dX12_feed_1 : decode cX12_feed 1 = .ok (.getfield 127, 3) := by decide +kernel
theorem dX12_feed_4 : decode cX12_feed 4 = .ok (.bipush 20, 2) := by decide +kernel
theorem dX12_feed_6 : decode cX12_feed 6 = .ok (.iadd, 1) := by decide +kernel
theorem dX12_feed_7 : decode cX12_feed 7 = .ok (.sipush 2000, 3) := by decide +kernel
theorem dX12_feed_10 : decode cX12_feed 10 = .ok (.if_icmp .le 5, 3) := by decide +kernel
theorem dX12_feed_15 : decode cX12_feed 15 = .ok (.aload_n 0, 1) := by decide +kernel
theorem dX12_feed_16 : decode cX12_feed 16 = .ok (.iload_n 1, 1) := by decide +kernel
theorem dX12_feed_17 : decode cX12_feed 17 = .ok (.invokevirtual 130, 3) := by decide +kernel
theorem dX12_feed_20 : decode cX12_feed 20 = .ok (.aload_n 0, 1) := by decide +kernel
theorem dX12_feed_21 : decode cX12_feed 21 = .ok (.iload_n 2, 1) := by decide +kernel
theorem dX12_feed_22 : decode cX12_feed 22 = .ok (.invokevirtual 130, 3) := by decide +kernel
theorem dX12_feed_25 : decode cX12_feed 25 = .ok (.aload_n 0, 1) := by decide +kernel
theorem dX12_feed_26 : decode cX12_feed 26 = .ok (.iload_n 3, 1) := by decide +kernel
theorem dX12_feed_27 : decode cX12_feed 27 = .ok (.invokevirtual 130, 3) := by decide +kernel
theorem dX12_feed_30 : decode cX12_feed 30 = .ok (.aload_n 0, 1) := by decide +kernel
theorem dX12_feed_31 : decode cX12_feed 31 = .ok (.iload 4, 2) := by decide +kernel
theorem dX12_feed_33 : decode cX12_feed 33 = .ok (.invokevirtual 130, 3) := by decide +kernel
theorem dX12_feed_36 : decode cX12_feed 36 = .ok (.aload_n 0, 1) := by decide +kernel
theorem dX12_feed_37 : decode cX12_feed 37 = .ok (.iload 5, 2) := by decide +kernel
theorem dX12_feed_39 : decode cX12_feed 39 = .ok (.invokevirtual 130, 3) := by decide +kernel
theorem dX12_feed_42 : decode cX12_feed 42 = .ok (.aload_n 0, 1) := by decide +kernel
theorem dX12_feed_43 : decode cX12_feed 43 = .ok (.getfield 127, 3) := by decide +kernel
theorem dX12_feed_46 : decode cX12_feed 46 = .ok (.ireturn, 1) := by decide +kernel
theorem dX12_fewestFor_0 : decode cX12_fewestFor 0 = .ok (.iconst 0, 1) := by decide +kernel
theorem dX12_fewestFor_1 : decode cX12_fewestFor 1 = .ok (.istore_n 1, 1) := by decide +kernel
theorem dX12_fewestFor_2 : decode cX12_fewestFor 2 = .ok (.iload_n 1, 1) := by decide +kernel
theorem dX12_fewestFor_3 : decode cX12_fewestFor 3 = .ok (.aload_n 0, 1) := by decide +kernel
theorem dX12_fewestFor_4 : decode cX12_fewestFor 4 = .ok (.invokevirtual 248, 3) := by decide +kernel
theorem dX12_fewestFor_7 : decode cX12_fewestFor 7 = .ok (.if_icmp .ge 21, 3) := by decide +kernel
theorem dX12_fewestFor_10 : decode cX12_fewestFor 10 = .ok (.aload_n 0, 1) := by decide +kernel
theorem dX12_fewestFor_11 : decode cX12_fewestFor 11 = .ok (.getfield 111, 3) := by decide +kernel
theorem dX12_fewestFor_14 : decode cX12_fewestFor 14 = .ok (.iload_n 1, 1) := by decide +kernel
theorem dX12_fewestFor_15 : decode cX12_fewestFor 15 = .ok (.aload_n 0, 1) := by decide +kernel
theorem dX12_fewestFor_16 : decode cX12_fewestFor 16 = .ok (.getfield 68, 3) := by decide +kernel
theorem dX12_fewestFor_19 : decode cX12_fewestFor 19 = .ok (.iload_n 1, 1) := by decide +kernel
theorem dX12_fewestFor_20 : decode cX12_fewestFor 20 = .ok (.iaload, 1) := by decide +kernel
theorem dX12_fewestFor_21 : decode cX12_fewestFor 21 = .ok (.iastore, 1) := by decide +kernel
theorem dX12_fewestFor_22 : decode cX12_fewestFor 22 = .ok (.iinc 1 1, 3) := by decide +kernel
theorem dX12_fewestFor_25 : decode cX12_fewestFor 25 = .ok (.goto (-23), 3) := by decide +kernel
theorem dX12_fewestFor_28 : decode cX12_fewestFor 28 = .ok (.aload_n 0, 1) := by decide +kernel
theorem dX12_fewestFor_29 : decode cX12_fewestFor 29 = .ok (.getfield 102, 3) := by decide +kernel
theorem dX12_fewestFor_32 : decode cX12_fewestFor 32 = .ok (.aload_n 0, 1) := by decide +kernel
theorem dX12_fewestFor_33 : decode cX12_fewestFor 33 = .ok (.aload_n 0, 1) := by decide +kernel
theorem dX12_fewestFor_34 : decode cX12_fewestFor 34 = .ok (.invokevirtual 248, 3) := by decide +kernel
theorem dX12_fewestFor_37 : decode cX12_fewestFor 37 = .ok (.invokevirtual 363, 3) := by decide +kernel
theorem dX12_fewestFor_40 : decode cX12_fewestFor 40 = .ok (.iaload, 1) := by decide +kernel
theorem dX12_fewestFor_41 : decode cX12_fewestFor 41 = .ok (.ireturn, 1) := by decide +kernel
theorem dX12_found_0 : decode cX12_found 0 = .ok (.aload_n 0, 1) := by decide +kernel
theorem dX12_found_1 : decode cX12_found 1 = .ok (.aload_n 0, 1) := by decide +kernel
theorem dX12_found_2 : decode cX12_found 2 = .ok (.getfield 52, 3) := by decide +kernel
theorem dX12_found_5 : decode cX12_found 5 = .ok (.invokevirtual 285, 3) := by decide +kernel
theorem dX12_found_8 : decode cX12_found 8 = .ok (.aload_n 0, 1) := by decide +kernel
theorem dX12_found_9 : decode cX12_found 9 = .ok (.aload_n 0, 1) := by decide +kernel
theorem dX12_found_10 : decode cX12_found 10 = .ok (.getfield 203, 3) := by decide +kernel
theorem dX12_found_13 : decode cX12_found 13 = .ok (.iload_n 1, 1) := by decide +kernel
theorem dX12_found_14 : decode cX12_found 14 = .ok (.invokevirtual 289, 3) := by decide +kernel
theorem dX12_found_17 : decode cX12_found 17 = .ok (.aload_n 0, 1) := by decide +kernel
theorem dX12_found_18 : decode cX12_found 18 = .ok (.iload_n 2, 1) := by decide +kernel
theorem dX12_found_19 : decode cX12_found 19 = .ok (.iload_n 3, 1) := by decide +kernel
theorem dX12_found_20 : decode cX12_found 20 = .ok (.invokevirtual 360, 3) := by decide +kernel
theorem dX12_found_23 : decode cX12_found 23 = .ok (.ireturn, 1) := by decide +kernel
theorem dX12_foundOf_0 : decode cX12_foundOf 0 = .ok (.iload_n 1, 1) := by decide +kernel
theorem dX12_foundOf_1 : decode cX12_foundOf 1 = .ok (.iconst (-1), 1) := by decide +kernel
theorem dX12_foundOf_2 : decode cX12_foundOf 2 = .ok (.if_icmp .ne 8, 3) := by decide +kernel
theorem dX12_foundOf_5 : decode cX12_foundOf 5 = .ok (.aload_n 0, 1) := by decide +kernel
theorem dX12_foundOf_6 : decode cX12_foundOf 6 = .ok (.getfield 296, 3) := by decide +kernel
theorem dX12_foundOf_9 : decode cX12_foundOf 9 = .ok (.ireturn, 1) := by decide +kernel
theorem dX12_foundOf_10 : decode cX12_foundOf 10 = .ok (.iload_n 1, 1) := by decide +kernel
theorem dX12_foundOf_11 : decode cX12_foundOf 11 = .ok (.iconst 0, 1) := by decide +kernel
theorem dX12_foundOf_12 : decode cX12_foundOf 12 = .ok (.aload_n 0, 1) := by decide +kernel
theorem dX12_foundOf_13 : decode cX12_foundOf 13 = .ok (.getfield 296, 3) := by decide +kernel
theorem dX12_foundOf_16 : decode cX12_foundOf 16 = .ok (.iconst 1, 1) := by decide +kernel
theorem dX12_foundOf_17 : decode cX12_foundOf 17 = .ok (.isub, 1) := by decide +kernel
theorem dX12_foundOf_18 : decode cX12_foundOf 18 = .ok (.invokestatic 237, 3) := by decide +kernel
theorem dX12_foundOf_21 : decode cX12_foundOf 21 = .ok (.ifCond .eq 12, 3) := by decide +kernel
theorem dX12_foundOf_33 : decode cX12_foundOf 33 = .ok (.iconst (-1), 1) := by decide +kernel
theorem dX12_foundOf_34 : decode cX12_foundOf 34 = .ok (.ireturn, 1) := by decide +kernel
theorem dX12_gate_0 : decode cX12_gate 0 = .ok (.aload_n 0, 1) := by decide +kernel
theorem dX12_gate_1 : decode cX12_gate 1 = .ok (.iload_n 1, 1) := by decide +kernel
theorem dX12_gate_2 : decode cX12_gate 2 = .ok (.invokevirtual 272, 3) := by decide +kernel
theorem dX12_gate_5 : decode cX12_gate 5 = .ok (.ifCond .ne 5, 3) := by decide +kernel
theorem dX12_gate_8 : decode cX12_gate 8 = .ok (.iconst (-1), 1) := by decide +kernel
theorem dX12_gate_9 : decode cX12_gate 9 = .ok (.ireturn, 1) := by decide +kernel
theorem dX12_gates_0 : decode cX12_gates 0 = .ok (.aload_n 0, 1) := by decide +kernel
theorem dX12_gates_1 : decode cX12_gates 1 = .ok (.getfield 52, 3) := by decide +kernel
theorem dX12_gates_4 : decode cX12_gates 4 = .ok (.iconst 0, 1) := by decide +kernel
theorem dX12_gates_5 : decode cX12_gates 5 = .ok (.iaload, 1) := by decide +kernel
theorem dX12_gates_6 : decode cX12_gates 6 = .ok (.ireturn, 1) := by decide +kernel
theorem dX12_has_0 : decode cX12_has 0 = .ok (.iload_n 0, 1) := by decide +kernel
theorem dX12_has_1 : decode cX12_has 1 = .ok (.iload_n 1, 1) := by decide +kernel
theorem dX12_has_2 : decode cX12_has 2 = .ok (.ishr, 1) := by decide +kernel
theorem dX12_has_3 : decode cX12_has 3 = .ok (.iconst 1, 1) := by decide +kernel
theorem dX12_has_4 : decode cX12_has 4 = .ok (.iand, 1) := by decide +kernel
theorem dX12_has_5 : decode cX12_has 5 = .ok (.iconst 1, 1) := by decide +kernel
theorem dX12_has_6 : decode cX12_has 6 = .ok (.if_icmp .ne 7, 3) := by decide +kernel
theorem dX12_has_13 : decode cX12_has 13 = .ok (.iconst 0, 1) := by decide +kernel
theorem dX12_has_14 : decode cX12_has 14 = .ok (.ireturn, 1) := by decide +kernel
theorem dX12_hold_0 : decode cX12_hold 0 = .ok (.iload_n 1, 1) := by decide +kernel
theorem dX12_hold_1 : decode cX12_hold 1 = .ok (.iconst 0, 1) := by decide +kernel
theorem dX12_hold_2 : decode cX12_hold 2 = .ok (.iconst 2, 1) := by decide +kernel
theorem dX12_hold_3 : decode cX12_hold 3 = .ok (.invokestatic 237, 3) := by decide +kernel
theorem dX12_hold_6 : decode cX12_hold 6 = .ok (.ifCond .ne 5, 3) := by decide +kernel
theorem dX12_hold_9 : decode cX12_hold 9 = .ok (.iconst 0, 1) := by decide +kernel
theorem dX12_hold_10 : decode cX12_hold 10 = .ok (.ireturn, 1) := by decide +kernel
theorem dX12_hold_11 : decode cX12_hold 11 = .ok (.iconst 0, 1) := by decide +kernel
theorem dX12_hold_12 : decode cX12_hold 12 = .ok (.istore_n 2, 1) := by decide +kernel
theorem dX12_hold_13 : decode cX12_hold 13 = .ok (.iload_n 2, 1) := by decide +kernel
theorem dX12_hold_14 : decode cX12_hold 14 = .ok (.bipush 49, 2) := by decide +kernel
theorem dX12_hold_16 : decode cX12_hold 16 = .ok (.if_icmp .ge 26, 3) := by decide +kernel
theorem dX12_hold_19 : decode cX12_hold 19 = .ok (.aload_n 0, 1) := by decide +kernel
theorem dX12_hold_20 : decode cX12_hold 20 = .ok (.getfield 61, 3) := by decide +kernel
theorem dX12_hold_23 : decode cX12_hold 23 = .ok (.bipush 49, 2) := by decide +kernel
theorem dX12_hold_25 : decode cX12_hold 25 = .ok (.iload_n 1, 1) := by decide +kernel
theorem dX12_hold_26 : decode cX12_hold 26 = .ok (.imul, 1) := by decide +kernel
theorem dX12_hold_27 : decode cX12_hold 27 = .ok (.iload_n 2, 1) := by decide +kernel
theorem dX12_hold_28 : decode cX12_hold 28 = .ok (.iadd, 1) := by decide +kernel
theorem dX12_hold_29 : decode cX12_hold 29 = .ok (.aload_n 0, 1) := by decide +kernel
theorem dX12_hold_30 : decode cX12_hold 30 = .ok (.getfield 52, 3) := by decide +kernel
theorem dX12_hold_33 : decode cX12_hold 33 = .ok (.iload_n 2, 1) := by decide +kernel
theorem dX12_hold_34 : decode cX12_hold 34 = .ok (.iaload, 1) := by decide +kernel
theorem dX12_hold_35 : decode cX12_hold 35 = .ok (.iastore, 1) := by decide +kernel
theorem dX12_hold_36 : decode cX12_hold 36 = .ok (.iinc 2 1, 3) := by decide +kernel
theorem dX12_hold_39 : decode cX12_hold 39 = .ok (.goto (-26), 3) := by decide +kernel
theorem dX12_hold_42 : decode cX12_hold 42 = .ok (.aload_n 0, 1) := by decide +kernel
theorem dX12_hold_43 : decode cX12_hold 43 = .ok (.getfield 64, 3) := by decide +kernel
theorem dX12_hold_46 : decode cX12_hold 46 = .ok (.iload_n 1, 1) := by decide +kernel
theorem dX12_hold_47 : decode cX12_hold 47 = .ok (.iconst 1, 1) := by decide +kernel
theorem dX12_hold_48 : decode cX12_hold 48 = .ok (.bastore, 1) := by decide +kernel
theorem dX12_hold_49 : decode cX12_hold 49 = .ok (.iconst 1, 1) := by decide +kernel
theorem dX12_hold_50 : decode cX12_hold 50 = .ok (.ireturn, 1) := by decide +kernel
theorem dX12_idle_0 : decode cX12_idle 0 = .ok (.iload_n 1, 1) := by decide +kernel
theorem dX12_idle_1 : decode cX12_idle 1 = .ok (.iconst 0, 1) := by decide +kernel
theorem dX12_idle_2 : decode cX12_idle 2 = .ok (.iconst 1, 1) := by decide +kernel
theorem dX12_idle_3 : decode cX12_idle 3 = .ok (.invokestatic 237, 3) := by decide +kernel
theorem dX12_idle_6 : decode cX12_idle 6 = .ok (.ifCond .ne 5, 3) := by decide +kernel
theorem dX12_idle_9 : decode cX12_idle 9 = .ok (.iconst (-1), 1) := by decide +kernel
theorem dX12_idle_10 : decode cX12_idle 10 = .ok (.ireturn, 1) := by decide +kernel
theorem dX12_idle_11 : decode cX12_idle 11 = .ok (.iconst 1, 1) := by decide +kernel
theorem dX12_idle_12 : decode cX12_idle 12 = .ok (.istore_n 2, 1) := by decide +kernel
theorem dX12_idle_13 : decode cX12_idle 13 = .ok (.iload_n 2, 1) := by decide +kernel
theorem dX12_idle_14 : decode cX12_idle 14 = .ok (.aload_n 0, 1) := by decide +kernel
theorem dX12_idle_15 : decode cX12_idle 15 = .ok (.invokevirtual 244, 3) := by decide +kernel
theorem dX12_idle_18 : decode cX12_idle 18 = .ok (.if_icmp .gt 54, 3) := by decide +kernel
theorem dX12_idle_72 : decode cX12_idle 72 = .ok (.bipush (-2), 2) := by decide +kernel
theorem dX12_idle_74 : decode cX12_idle 74 = .ok (.ireturn, 1) := by decide +kernel
theorem dX12_in_0 : decode cX12_in 0 = .ok (.iload_n 0, 1) := by decide +kernel
theorem dX12_in_1 : decode cX12_in 1 = .ok (.iload_n 1, 1) := by decide +kernel
theorem dX12_in_2 : decode cX12_in 2 = .ok (.if_icmp .lt 12, 3) := by decide +kernel
theorem dX12_in_5 : decode cX12_in 5 = .ok (.iload_n 0, 1) := by decide +kernel
theorem dX12_in_6 : decode cX12_in 6 = .ok (.iload_n 2, 1) := by decide +kernel
theorem dX12_in_7 : decode cX12_in 7 = .ok (.if_icmp .gt 7, 3) := by decide +kernel
theorem dX12_in_10 : decode cX12_in 10 = .ok (.iconst 1, 1) := by decide +kernel
theorem dX12_in_11 : decode cX12_in 11 = .ok (.goto 4, 3) := by decide +kernel
theorem dX12_in_14 : decode cX12_in 14 = .ok (.iconst 0, 1) := by decide +kernel
theorem dX12_in_15 : decode cX12_in 15 = .ok (.ireturn, 1) := by decide +kernel
theorem dX12_init_0 : decode cX12_init 0 = .ok (.aload_n 0, 1) := by decide +kernel
theorem dX12_init_1 : decode cX12_init 1 = .ok (.invokespecial 7, 3) := by decide +kernel
theorem dX12_init_4 : decode cX12_init 4 = .ok (.aload_n 0, 1) := by decide +kernel
theorem dX12_init_5 : decode cX12_init 5 = .ok (.sipush 2000, 3) := by decide +kernel
theorem dX12_init_8 : decode cX12_init 8 = .ok (.newarray .byte, 2) := by decide +kernel
theorem dX12_init_10 : decode cX12_init 10 = .ok (.putfield 13, 3) := by decide +kernel
theorem dX12_init_13 : decode cX12_init 13 = .ok (.aload_n 0, 1) := by decide +kernel
theorem dX12_init_14 : decode cX12_init 14 = .ok (.sipush 2000, 3) := by decide +kernel
theorem dX12_init_17 : decode cX12_init 17 = .ok (.newarray .byte, 2) := by decide +kernel
theorem dX12_init_19 : decode cX12_init 19 = .ok (.putfield 17, 3) := by decide +kernel
theorem dX12_init_22 : decode cX12_init 22 = .ok (.aload_n 0, 1) := by decide +kernel
theorem dX12_init_23 : decode cX12_init 23 = .ok (.sipush 403, 3) := by decide +kernel
theorem dX12_init_26 : decode cX12_init 26 = .ok (.newarray .int, 2) := by decide +kernel
theorem dX12_init_28 : decode cX12_init 28 = .ok (.putfield 20, 3) := by decide +kernel
theorem dX12_init_31 : decode cX12_init 31 = .ok (.aload_n 0, 1) := by decide +kernel
theorem dX12_init_32 : decode cX12_init 32 = .ok (.sipush 403, 3) := by decide +kernel
theorem dX12_init_35 : decode cX12_init 35 = .ok (.newarray .int, 2) := by decide +kernel
theorem dX12_init_37 : decode cX12_init 37 = .ok (.putfield 24, 3) := by decide +kernel
theorem dX12_init_40 : decode cX12_init 40 = .ok (.aload_n 0, 1) := by decide +kernel
theorem dX12_init_41 : decode cX12_init 41 = .ok (.sipush 403, 3) := by decide +kernel
theorem dX12_init_44 : decode cX12_init 44 = .ok (.newarray .int, 2) := by decide +kernel
theorem dX12_init_46 : decode cX12_init 46 = .ok (.putfield 27, 3) := by decide +kernel
theorem dX12_init_49 : decode cX12_init 49 = .ok (.aload_n 0, 1) := by decide +kernel
theorem dX12_init_50 : decode cX12_init 50 = .ok (.sipush 403, 3) := by decide +kernel
theorem dX12_init_53 : decode cX12_init 53 = .ok (.newarray .long, 2) := by decide +kernel
theorem dX12_init_55 : decode cX12_init 55 = .ok (.putfield 30, 3) := by decide +kernel
theorem dX12_init_58 : decode cX12_init 58 = .ok (.aload_n 0, 1) := by decide +kernel
theorem dX12_init_59 : decode cX12_init 59 = .ok (.iconst 4, 1) := by decide +kernel
theorem dX12_init_60 : decode cX12_init 60 = .ok (.newarray .long, 2) := by decide +kernel
theorem dX12_init_62 : decode cX12_init 62 = .ok (.putfield 34, 3) := by decide +kernel
theorem dX12_init_65 : decode cX12_init 65 = .ok (.aload_n 0, 1) := by decide +kernel
theorem dX12_init_66 : decode cX12_init 66 = .ok (.iconst (-1), 1) := by decide +kernel
theorem dX12_init_67 : decode cX12_init 67 = .ok (.putfield 37, 3) := by decide +kernel
theorem dX12_init_70 : decode cX12_init 70 = .ok (.aload_n 0, 1) := by decide +kernel
theorem dX12_init_71 : decode cX12_init 71 = .ok (.iconst 4, 1) := by decide +kernel
theorem dX12_init_72 : decode cX12_init 72 = .ok (.newarray .int, 2) := by decide +kernel
theorem dX12_init_74 : decode cX12_init 74 = .ok (.putfield 40, 3) := by decide +kernel
theorem dX12_init_77 : decode cX12_init 77 = .ok (.aload_n 0, 1) := by decide +kernel
theorem dX12_init_78 : decode cX12_init 78 = .ok (.bipush 8, 2) := by decide +kernel
theorem dX12_init_80 : decode cX12_init 80 = .ok (.newarray .int, 2) := by decide +kernel
theorem dX12_init_82 : decode cX12_init 82 = .ok (.putfield 43, 3) := by decide +kernel
theorem dX12_init_85 : decode cX12_init 85 = .ok (.aload_n 0, 1) := by decide +kernel
theorem dX12_init_86 : decode cX12_init 86 = .ok (.iconst 4, 1) := by decide +kernel
theorem dX12_init_87 : decode cX12_init 87 = .ok (.newarray .int, 2) := by decide +kernel
theorem dX12_init_89 : decode cX12_init 89 = .ok (.putfield 46, 3) := by decide +kernel
theorem dX12_init_92 : decode cX12_init 92 = .ok (.aload_n 0, 1) := by decide +kernel
theorem dX12_init_93 : decode cX12_init 93 = .ok (.bipush 8, 2) := by decide +kernel
theorem dX12_init_95 : decode cX12_init 95 = .ok (.newarray .int, 2) := by decide +kernel
theorem dX12_init_97 : decode cX12_init 97 = .ok (.putfield 49, 3) := by decide +kernel
theorem dX12_init_100 : decode cX12_init 100 = .ok (.aload_n 0, 1) := by decide +kernel
theorem dX12_init_101 : decode cX12_init 101 = .ok (.bipush 49, 2) := by decide +kernel
theorem dX12_init_103 : decode cX12_init 103 = .ok (.newarray .int, 2) := by decide +kernel
theorem dX12_init_105 : decode cX12_init 105 = .ok (.putfield 52, 3) := by decide +kernel
theorem dX12_init_108 : decode cX12_init 108 = .ok (.aload_n 0, 1) := by decide +kernel
theorem dX12_init_109 : decode cX12_init 109 = .ok (.bipush 49, 2) := by decide +kernel
theorem dX12_init_111 : decode cX12_init 111 = .ok (.newarray .int, 2) := by decide +kernel
theorem dX12_init_113 : decode cX12_init 113 = .ok (.putfield 55, 3) := by decide +kernel
theorem dX12_init_116 : decode cX12_init 116 = .ok (.aload_n 0, 1) := by decide +kernel
theorem dX12_init_117 : decode cX12_init 117 = .ok (.sipush 1960, 3) := by decide +kernel
theorem dX12_init_120 : decode cX12_init 120 = .ok (.newarray .int, 2) := by decide +kernel
theorem dX12_init_122 : decode cX12_init 122 = .ok (.putfield 58, 3) := by decide +kernel
theorem dX12_init_125 : decode cX12_init 125 = .ok (.aload_n 0, 1) := by decide +kernel
theorem dX12_init_126 : decode cX12_init 126 = .ok (.sipush 147, 3) := by decide +kernel
theorem dX12_init_129 : decode cX12_init 129 = .ok (.newarray .int, 2) := by decide +kernel
theorem dX12_init_131 : decode cX12_init 131 = .ok (.putfield 61, 3) := by decide +kernel
theorem dX12_init_134 : decode cX12_init 134 = .ok (.aload_n 0, 1) := by decide +kernel
theorem dX12_init_135 : decode cX12_init 135 = .ok (.iconst 3, 1) := by decide +kernel
theorem dX12_init_136 : decode cX12_init 136 = .ok (.newarray .boolean, 2) := by decide +kernel
theorem dX12_init_138 : decode cX12_init 138 = .ok (.putfield 64, 3) := by decide +kernel
theorem dX12_init_141 : decode cX12_init 141 = .ok (.aload_n 0, 1) := by decide +kernel
theorem dX12_init_142 : decode cX12_init 142 = .ok (.bipush 64, 2) := by decide +kernel
theorem dX12_init_144 : decode cX12_init 144 = .ok (.newarray .int, 2) := by decide +kernel
theorem dX12_init_146 : decode cX12_init 146 = .ok (.putfield 68, 3) := by decide +kernel
theorem dX12_init_149 : decode cX12_init 149 = .ok (.aload_n 0, 1) := by decide +kernel
theorem dX12_init_150 : decode cX12_init 150 = .ok (.bipush 16, 2) := by decide +kernel
theorem dX12_init_152 : decode cX12_init 152 = .ok (.newarray .int, 2) := by decide +kernel
theorem dX12_init_154 : decode cX12_init 154 = .ok (.putfield 71, 3) := by decide +kernel
theorem dX12_init_157 : decode cX12_init 157 = .ok (.aload_n 0, 1) := by decide +kernel
theorem dX12_init_158 : decode cX12_init 158 = .ok (.bipush 49, 2) := by decide +kernel
theorem dX12_init_160 : decode cX12_init 160 = .ok (.newarray .int, 2) := by decide +kernel
theorem dX12_init_162 : decode cX12_init 162 = .ok (.putfield 74, 3) := by decide +kernel
theorem dX12_init_165 : decode cX12_init 165 = .ok (.aload_n 0, 1) := by decide +kernel
theorem dX12_init_166 : decode cX12_init 166 = .ok (.sipush 800, 3) := by decide +kernel
theorem dX12_init_169 : decode cX12_init 169 = .ok (.newarray .int, 2) := by decide +kernel
theorem dX12_init_171 : decode cX12_init 171 = .ok (.putfield 77, 3) := by decide +kernel
theorem dX12_init_174 : decode cX12_init 174 = .ok (.aload_n 0, 1) := by decide +kernel
theorem dX12_init_175 : decode cX12_init 175 = .ok (.sipush 800, 3) := by decide +kernel
theorem dX12_init_178 : decode cX12_init 178 = .ok (.newarray .int, 2) := by decide +kernel
theorem dX12_init_180 : decode cX12_init 180 = .ok (.putfield 80, 3) := by decide +kernel
theorem dX12_init_183 : decode cX12_init 183 = .ok (.aload_n 0, 1) := by decide +kernel
theorem dX12_init_184 : decode cX12_init 184 = .ok (.sipush 400, 3) := by decide +kernel
theorem dX12_init_187 : decode cX12_init 187 = .ok (.newarray .int, 2) := by decide +kernel
theorem dX12_init_189 : decode cX12_init 189 = .ok (.putfield 83, 3) := by decide +kernel
theorem dX12_init_192 : decode cX12_init 192 = .ok (.aload_n 0, 1) := by decide +kernel
theorem dX12_init_193 : decode cX12_init 193 = .ok (.sipush 400, 3) := by decide +kernel
theorem dX12_init_196 : decode cX12_init 196 = .ok (.newarray .int, 2) := by decide +kernel
theorem dX12_init_198 : decode cX12_init 198 = .ok (.putfield 86, 3) := by decide +kernel
theorem dX12_init_201 : decode cX12_init 201 = .ok (.aload_n 0, 1) := by decide +kernel
theorem dX12_init_202 : decode cX12_init 202 = .ok (.sipush 400, 3) := by decide +kernel
theorem dX12_init_205 : decode cX12_init 205 = .ok (.newarray .int, 2) := by decide +kernel
theorem dX12_init_207 : decode cX12_init 207 = .ok (.putfield 89, 3) := by decide +kernel
theorem dX12_init_210 : decode cX12_init 210 = .ok (.aload_n 0, 1) := by decide +kernel
theorem dX12_init_211 : decode cX12_init 211 = .ok (.sipush 400, 3) := by decide +kernel
theorem dX12_init_214 : decode cX12_init 214 = .ok (.newarray .int, 2) := by decide +kernel
theorem dX12_init_216 : decode cX12_init 216 = .ok (.putfield 92, 3) := by decide +kernel
theorem dX12_init_219 : decode cX12_init 219 = .ok (.aload_n 0, 1) := by decide +kernel
theorem dX12_init_220 : decode cX12_init 220 = .ok (.bipush 64, 2) := by decide +kernel
theorem dX12_init_222 : decode cX12_init 222 = .ok (.newarray .int, 2) := by decide +kernel
theorem dX12_init_224 : decode cX12_init 224 = .ok (.putfield 95, 3) := by decide +kernel
theorem dX12_init_227 : decode cX12_init 227 = .ok (.aload_n 0, 1) := by decide +kernel
theorem dX12_init_228 : decode cX12_init 228 = .ok (.iconst (-1), 1) := by decide +kernel
theorem dX12_init_229 : decode cX12_init 229 = .ok (.putfield 98, 3) := by decide +kernel
theorem dX12_init_232 : decode cX12_init 232 = .ok (.aload_n 0, 1) := by decide +kernel
theorem dX12_init_233 : decode cX12_init 233 = .ok (.ldc 101, 2) := by decide +kernel
theorem dX12_init_235 : decode cX12_init 235 = .ok (.newarray .int, 2) := by decide +kernel
theorem dX12_init_237 : decode cX12_init 237 = .ok (.putfield 102, 3) := by decide +kernel
theorem dX12_init_240 : decode cX12_init 240 = .ok (.aload_n 0, 1) := by decide +kernel
