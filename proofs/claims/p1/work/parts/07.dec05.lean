theorem dX4_clear_1 : decode cX4_clear 1 = .ok (.iconst 0, 1) := by decide +kernel
theorem dX4_clear_2 : decode cX4_clear 2 = .ok (.putfield 20, 3) := by decide +kernel
theorem dX4_clear_5 : decode cX4_clear 5 = .ok (.return_, 1) := by decide +kernel
theorem dX4_init_0 : decode cX4_init 0 = .ok (.aload_n 0, 1) := by decide +kernel
theorem dX4_init_1 : decode cX4_init 1 = .ok (.invokespecial 3, 3) := by decide +kernel
theorem dX4_init_4 : decode cX4_init 4 = .ok (.aload_n 0, 1) := by decide +kernel
theorem dX4_init_5 : decode cX4_init 5 = .ok (.bipush 40, 2) := by decide +kernel
theorem dX4_init_7 : decode cX4_init 7 = .ok (.anewarray 11, 3) := by decide +kernel
theorem dX4_init_10 : decode cX4_init 10 = .ok (.putfield 13, 3) := by decide +kernel
theorem dX4_init_13 : decode cX4_init 13 = .ok (.iconst 0, 1) := by decide +kernel
theorem dX4_init_14 : decode cX4_init 14 = .ok (.istore_n 1, 1) := by decide +kernel
theorem dX4_init_15 : decode cX4_init 15 = .ok (.iload_n 1, 1) := by decide +kernel
theorem dX4_init_16 : decode cX4_init 16 = .ok (.bipush 40, 2) := by decide +kernel
theorem dX4_init_18 : decode cX4_init 18 = .ok (.if_icmp .ge 24, 3) := by decide +kernel
theorem dX4_init_21 : decode cX4_init 21 = .ok (.aload_n 0, 1) := by decide +kernel
theorem dX4_init_22 : decode cX4_init 22 = .ok (.getfield 13, 3) := by decide +kernel
theorem dX4_init_25 : decode cX4_init 25 = .ok (.iload_n 1, 1) := by decide +kernel
theorem dX4_init_26 : decode cX4_init 26 = .ok (.new 11, 3) := by decide +kernel
theorem dX4_init_29 : decode cX4_init 29 = .ok (.dup, 1) := by decide +kernel
theorem dX4_init_30 : decode cX4_init 30 = .ok (.bipush 16, 2) := by decide +kernel
theorem dX4_init_32 : decode cX4_init 32 = .ok (.invokespecial 17, 3) := by decide +kernel
theorem dX4_init_35 : decode cX4_init 35 = .ok (.aastore, 1) := by decide +kernel
theorem dX4_init_36 : decode cX4_init 36 = .ok (.iinc 1 1, 3) := by decide +kernel
theorem dX4_init_39 : decode cX4_init 39 = .ok (.goto (-24), 3) := by decide +kernel
theorem dX4_init_42 : decode cX4_init 42 = .ok (.return_, 1) := by decide +kernel
theorem dX4_keep_0 : decode cX4_keep 0 = .ok (.aload_n 0, 1) := by decide +kernel
theorem dX4_keep_1 : decode cX4_keep 1 = .ok (.getfield 20, 3) := by decide +kernel
theorem dX4_keep_4 : decode cX4_keep 4 = .ok (.bipush 40, 2) := by decide +kernel
theorem dX4_keep_6 : decode cX4_keep 6 = .ok (.if_icmp .ne 26, 3) := by decide +kernel
theorem dX4_keep_32 : decode cX4_keep 32 = .ok (.aload_n 0, 1) := by decide +kernel
theorem dX4_keep_33 : decode cX4_keep 33 = .ok (.getfield 13, 3) := by decide +kernel
theorem dX4_keep_36 : decode cX4_keep 36 = .ok (.aload_n 0, 1) := by decide +kernel
theorem dX4_keep_37 : decode cX4_keep 37 = .ok (.getfield 24, 3) := by decide +kernel
theorem dX4_keep_40 : decode cX4_keep 40 = .ok (.aload_n 0, 1) := by decide +kernel
theorem dX4_keep_41 : decode cX4_keep 41 = .ok (.getfield 20, 3) := by decide +kernel
theorem dX4_keep_44 : decode cX4_keep 44 = .ok (.iadd, 1) := by decide +kernel
theorem dX4_keep_45 : decode cX4_keep 45 = .ok (.bipush 40, 2) := by decide +kernel
theorem dX4_keep_47 : decode cX4_keep 47 = .ok (.irem, 1) := by decide +kernel
theorem dX4_keep_48 : decode cX4_keep 48 = .ok (.aaload, 1) := by decide +kernel
theorem dX4_keep_49 : decode cX4_keep 49 = .ok (.aload_n 1, 1) := by decide +kernel
theorem dX4_keep_50 : decode cX4_keep 50 = .ok (.invokevirtual 27, 3) := by decide +kernel
theorem dX4_keep_53 : decode cX4_keep 53 = .ok (.aload_n 0, 1) := by decide +kernel
theorem dX4_keep_54 : decode cX4_keep 54 = .ok (.dup, 1) := by decide +kernel
theorem dX4_keep_55 : decode cX4_keep 55 = .ok (.getfield 20, 3) := by decide +kernel
theorem dX4_keep_58 : decode cX4_keep 58 = .ok (.iconst 1, 1) := by decide +kernel
theorem dX4_keep_59 : decode cX4_keep 59 = .ok (.iadd, 1) := by decide +kernel
theorem dX4_keep_60 : decode cX4_keep 60 = .ok (.putfield 20, 3) := by decide +kernel
theorem dX4_keep_63 : decode cX4_keep 63 = .ok (.return_, 1) := by decide +kernel
theorem dX5_check_0 : decode cX5_check 0 = .ok (.aload_n 0, 1) := by decide +kernel
theorem dX5_check_1 : decode cX5_check 1 = .ok (.iconst (-1), 1) := by decide +kernel
theorem dX5_check_2 : decode cX5_check 2 = .ok (.putfield 15, 3) := by decide +kernel
theorem dX5_check_5 : decode cX5_check 5 = .ok (.aload_n 0, 1) := by decide +kernel
theorem dX5_check_6 : decode cX5_check 6 = .ok (.aload_n 1, 1) := by decide +kernel
theorem dX5_check_7 : decode cX5_check 7 = .ok (.invokevirtual 19, 3) := by decide +kernel
theorem dX5_check_10 : decode cX5_check 10 = .ok (.iconst 0, 1) := by decide +kernel
theorem dX5_check_11 : decode cX5_check 11 = .ok (.istore_n 2, 1) := by decide +kernel
theorem dX5_check_12 : decode cX5_check 12 = .ok (.iconst 0, 1) := by decide +kernel
theorem dX5_check_13 : decode cX5_check 13 = .ok (.istore_n 3, 1) := by decide +kernel
theorem dX5_check_14 : decode cX5_check 14 = .ok (.iload_n 3, 1) := by decide +kernel
theorem dX5_check_15 : decode cX5_check 15 = .ok (.aload_n 1, 1) := by decide +kernel
theorem dX5_check_16 : decode cX5_check 16 = .ok (.getfield 23, 3) := by decide +kernel
theorem dX5_check_19 : decode cX5_check 19 = .ok (.if_icmp .ge 49, 3) := by decide +kernel
theorem dX5_check_68 : decode cX5_check 68 = .ok (.iconst 0, 1) := by decide +kernel
theorem dX5_check_69 : decode cX5_check 69 = .ok (.ireturn, 1) := by decide +kernel
theorem dX5_collectNames_0 : decode cX5_collectNames 0 = .ok (.aload_n 0, 1) := by decide +kernel
theorem dX5_collectNames_1 : decode cX5_collectNames 1 = .ok (.iconst 0, 1) := by decide +kernel
theorem dX5_collectNames_2 : decode cX5_collectNames 2 = .ok (.putfield 39, 3) := by decide +kernel
theorem dX5_collectNames_5 : decode cX5_collectNames 5 = .ok (.iconst 0, 1) := by decide +kernel
theorem dX5_collectNames_6 : decode cX5_collectNames 6 = .ok (.istore_n 2, 1) := by decide +kernel
theorem dX5_collectNames_7 : decode cX5_collectNames 7 = .ok (.iload_n 2, 1) := by decide +kernel
theorem dX5_collectNames_8 : decode cX5_collectNames 8 = .ok (.aload_n 1, 1) := by decide +kernel
theorem dX5_collectNames_9 : decode cX5_collectNames 9 = .ok (.getfield 23, 3) := by decide +kernel
theorem dX5_collectNames_12 : decode cX5_collectNames 12 = .ok (.if_icmp .ge 52, 3) := by decide +kernel
theorem dX5_collectNames_64 : decode cX5_collectNames 64 = .ok (.return_, 1) := by decide +kernel
theorem dX5_init_0 : decode cX5_init 0 = .ok (.aload_n 0, 1) := by decide +kernel
theorem dX5_init_1 : decode cX5_init 1 = .ok (.invokespecial 3, 3) := by decide +kernel
theorem dX5_init_4 : decode cX5_init 4 = .ok (.aload_n 0, 1) := by decide +kernel
theorem dX5_init_5 : decode cX5_init 5 = .ok (.iconst 4, 1) := by decide +kernel
theorem dX5_init_6 : decode cX5_init 6 = .ok (.newarray .long, 2) := by decide +kernel
theorem dX5_init_8 : decode cX5_init 8 = .ok (.putfield 9, 3) := by decide +kernel
theorem dX5_init_11 : decode cX5_init 11 = .ok (.return_, 1) := by decide +kernel
theorem dX5_tellGates_0 : decode cX5_tellGates 0 = .ok (.aload_n 2, 1) := by decide +kernel
theorem dX5_tellGates_1 : decode cX5_tellGates 1 = .ok (.iconst 0, 1) := by decide +kernel
theorem dX5_tellGates_2 : decode cX5_tellGates 2 = .ok (.putfield 70, 3) := by decide +kernel
theorem dX5_tellGates_5 : decode cX5_tellGates 5 = .ok (.iconst 0, 1) := by decide +kernel
theorem dX5_tellGates_6 : decode cX5_tellGates 6 = .ok (.istore_n 3, 1) := by decide +kernel
theorem dX5_tellGates_7 : decode cX5_tellGates 7 = .ok (.iload_n 3, 1) := by decide +kernel
theorem dX5_tellGates_8 : decode cX5_tellGates 8 = .ok (.aload_n 1, 1) := by decide +kernel
theorem dX5_tellGates_9 : decode cX5_tellGates 9 = .ok (.getfield 23, 3) := by decide +kernel
theorem dX5_tellGates_12 : decode cX5_tellGates 12 = .ok (.if_icmp .ge 28, 3) := by decide +kernel
theorem dX5_tellGates_40 : decode cX5_tellGates 40 = .ok (.return_, 1) := by decide +kernel
theorem dX5_tellPrices_0 : decode cX5_tellPrices 0 = .ok (.iconst 0, 1) := by decide +kernel
theorem dX5_tellPrices_1 : decode cX5_tellPrices 1 = .ok (.istore_n 3, 1) := by decide +kernel
theorem dX5_tellPrices_2 : decode cX5_tellPrices 2 = .ok (.iload_n 3, 1) := by decide +kernel
theorem dX5_tellPrices_3 : decode cX5_tellPrices 3 = .ok (.aload_n 1, 1) := by decide +kernel
theorem dX5_tellPrices_4 : decode cX5_tellPrices 4 = .ok (.getfield 23, 3) := by decide +kernel
theorem dX5_tellPrices_7 : decode cX5_tellPrices 7 = .ok (.if_icmp .ge 49, 3) := by decide +kernel
theorem dX5_tellPrices_56 : decode cX5_tellPrices 56 = .ok (.return_, 1) := by decide +kernel
theorem dX5_tellTable_0 : decode cX5_tellTable 0 = .ok (.aload_n 2, 1) := by decide +kernel
theorem dX5_tellTable_1 : decode cX5_tellTable 1 = .ok (.iconst 0, 1) := by decide +kernel
theorem dX5_tellTable_2 : decode cX5_tellTable 2 = .ok (.putfield 87, 3) := by decide +kernel
theorem dX5_tellTable_5 : decode cX5_tellTable 5 = .ok (.iconst 0, 1) := by decide +kernel
theorem dX5_tellTable_6 : decode cX5_tellTable 6 = .ok (.istore_n 3, 1) := by decide +kernel
theorem dX5_tellTable_7 : decode cX5_tellTable 7 = .ok (.iload_n 3, 1) := by decide +kernel
theorem dX5_tellTable_8 : decode cX5_tellTable 8 = .ok (.aload_n 1, 1) := by decide +kernel
theorem dX5_tellTable_9 : decode cX5_tellTable 9 = .ok (.getfield 23, 3) := by decide +kernel
theorem dX5_tellTable_12 : decode cX5_tellTable 12 = .ok (.if_icmp .ge 94, 3) := by decide +kernel
theorem dX5_tellTable_106 : decode cX5_tellTable 106 = .ok (.return_, 1) := by decide +kernel
theorem dX6_howMany_0 : decode cX6_howMany 0 = .ok (.iconst 0, 1) := by decide +kernel
theorem dX6_howMany_1 : decode cX6_howMany 1 = .ok (.istore_n 2, 1) := by decide +kernel
theorem dX6_howMany_2 : decode cX6_howMany 2 = .ok (.iconst 0, 1) := by decide +kernel
theorem dX6_howMany_3 : decode cX6_howMany 3 = .ok (.istore_n 3, 1) := by decide +kernel
theorem dX6_howMany_4 : decode cX6_howMany 4 = .ok (.iload_n 3, 1) := by decide +kernel
theorem dX6_howMany_5 : decode cX6_howMany 5 = .ok (.iload_n 1, 1) := by decide +kernel
theorem dX6_howMany_6 : decode cX6_howMany 6 = .ok (.if_icmp .ge 26, 3) := by decide +kernel
theorem dX6_howMany_9 : decode cX6_howMany 9 = .ok (.iload_n 2, 1) := by decide +kernel
theorem dX6_howMany_10 : decode cX6_howMany 10 = .ok (.iload_n 3, 1) := by decide +kernel
theorem dX6_howMany_11 : decode cX6_howMany 11 = .ok (.aload_n 0, 1) := by decide +kernel
theorem dX6_howMany_12 : decode cX6_howMany 12 = .ok (.iload_n 1, 1) := by decide +kernel
theorem dX6_howMany_13 : decode cX6_howMany 13 = .ok (.invokestatic 7, 3) := by decide +kernel
theorem dX6_howMany_16 : decode cX6_howMany 16 = .ok (.ifCond .le 7, 3) := by decide +kernel
theorem dX6_howMany_19 : decode cX6_howMany 19 = .ok (.iconst 1, 1) := by decide +kernel
theorem dX6_howMany_20 : decode cX6_howMany 20 = .ok (.goto 4, 3) := by decide +kernel
theorem dX6_howMany_24 : decode cX6_howMany 24 = .ok (.iadd, 1) := by decide +kernel
theorem dX6_howMany_25 : decode cX6_howMany 25 = .ok (.istore_n 2, 1) := by decide +kernel
theorem dX6_howMany_26 : decode cX6_howMany 26 = .ok (.iinc 3 1, 3) := by decide +kernel
theorem dX6_howMany_29 : decode cX6_howMany 29 = .ok (.goto (-25), 3) := by decide +kernel
theorem dX6_howMany_32 : decode cX6_howMany 32 = .ok (.iload_n 2, 1) := by decide +kernel
theorem dX6_howMany_33 : decode cX6_howMany 33 = .ok (.ireturn, 1) := by decide +kernel
theorem dX6_leastCommonMultiple_0 : decode cX6_leastCommonMultiple 0 = .ok (.iconst 1, 1) := by decide +kernel
theorem dX6_leastCommonMultiple_1 : decode cX6_leastCommonMultiple 1 = .ok (.istore_n 3, 1) := by decide +kernel
theorem dX6_leastCommonMultiple_2 : decode cX6_leastCommonMultiple 2 = .ok (.iload_n 3, 1) := by decide +kernel
theorem dX6_leastCommonMultiple_3 : decode cX6_leastCommonMultiple 3 = .ok (.iload_n 2, 1) := by decide +kernel
theorem dX6_leastCommonMultiple_4 : decode cX6_leastCommonMultiple 4 = .ok (.if_icmp .gt 25, 3) := by decide +kernel
theorem dX6_leastCommonMultiple_7 : decode cX6_leastCommonMultiple 7 = .ok (.iload_n 1, 1) := by decide +kernel
theorem dX6_leastCommonMultiple_8 : decode cX6_leastCommonMultiple 8 = .ok (.ifCond .le 15, 3) := by decide +kernel
theorem dX6_leastCommonMultiple_11 : decode cX6_leastCommonMultiple 11 = .ok (.iload_n 0, 1) := by decide +kernel
theorem dX6_leastCommonMultiple_12 : decode cX6_leastCommonMultiple 12 = .ok (.iload_n 3, 1) := by decide +kernel
theorem dX6_leastCommonMultiple_13 : decode cX6_leastCommonMultiple 13 = .ok (.imul, 1) := by decide +kernel
theorem dX6_leastCommonMultiple_14 : decode cX6_leastCommonMultiple 14 = .ok (.iload_n 1, 1) := by decide +kernel
theorem dX6_leastCommonMultiple_15 : decode cX6_leastCommonMultiple 15 = .ok (.irem, 1) := by decide +kernel
theorem dX6_leastCommonMultiple_16 : decode cX6_leastCommonMultiple 16 = .ok (.ifCond .ne 7, 3) := by decide +kernel
theorem dX6_leastCommonMultiple_19 : decode cX6_leastCommonMultiple 19 = .ok (.iload_n 0, 1) := by decide +kernel
theorem dX6_leastCommonMultiple_20 : decode cX6_leastCommonMultiple 20 = .ok (.iload_n 3, 1) := by decide +kernel
theorem dX6_leastCommonMultiple_21 : decode cX6_leastCommonMultiple 21 = .ok (.imul, 1) := by decide +kernel
theorem dX6_leastCommonMultiple_22 : decode cX6_leastCommonMultiple 22 = .ok (.ireturn, 1) := by decide +kernel
theorem dX6_lengthFrom_0 : decode cX6_lengthFrom 0 = .ok (.iload_n 0, 1) := by decide +kernel
theorem dX6_lengthFrom_1 : decode cX6_lengthFrom 1 = .ok (.istore_n 3, 1) := by decide +kernel
theorem dX6_lengthFrom_2 : decode cX6_lengthFrom 2 = .ok (.iconst 1, 1) := by decide +kernel
theorem dX6_lengthFrom_3 : decode cX6_lengthFrom 3 = .ok (.istore 4, 2) := by decide +kernel
theorem dX6_lengthFrom_5 : decode cX6_lengthFrom 5 = .ok (.iload 4, 2) := by decide +kernel
theorem dX6_lengthFrom_7 : decode cX6_lengthFrom 7 = .ok (.iload_n 2, 1) := by decide +kernel
theorem dX6_lengthFrom_8 : decode cX6_lengthFrom 8 = .ok (.if_icmp .gt 42, 3) := by decide +kernel
theorem dX6_lengthFrom_11 : decode cX6_lengthFrom 11 = .ok (.iload_n 3, 1) := by decide +kernel
theorem dX6_lengthFrom_12 : decode cX6_lengthFrom 12 = .ok (.ifCond .lt 15, 3) := by decide +kernel
theorem dX6_lengthFrom_15 : decode cX6_lengthFrom 15 = .ok (.iload_n 3, 1) := by decide +kernel
theorem dX6_lengthFrom_16 : decode cX6_lengthFrom 16 = .ok (.aload_n 1, 1) := by decide +kernel
theorem dX6_lengthFrom_17 : decode cX6_lengthFrom 17 = .ok (.arraylength, 1) := by decide +kernel
theorem dX6_lengthFrom_18 : decode cX6_lengthFrom 18 = .ok (.if_icmp .ge 9, 3) := by decide +kernel
theorem dX6_lengthFrom_21 : decode cX6_lengthFrom 21 = .ok (.aload_n 1, 1) := by decide +kernel
theorem dX6_lengthFrom_22 : decode cX6_lengthFrom 22 = .ok (.iload_n 3, 1) := by decide +kernel
theorem dX6_lengthFrom_23 : decode cX6_lengthFrom 23 = .ok (.iaload, 1) := by decide +kernel
theorem dX6_lengthFrom_24 : decode cX6_lengthFrom 24 = .ok (.goto 4, 3) := by decide +kernel
theorem dX6_lengthFrom_28 : decode cX6_lengthFrom 28 = .ok (.istore_n 3, 1) := by decide +kernel
theorem dX6_lengthFrom_29 : decode cX6_lengthFrom 29 = .ok (.iload_n 3, 1) := by decide +kernel
theorem dX6_lengthFrom_30 : decode cX6_lengthFrom 30 = .ok (.iload_n 0, 1) := by decide +kernel
theorem dX6_lengthFrom_31 : decode cX6_lengthFrom 31 = .ok (.if_icmp .ne 6, 3) := by decide +kernel
theorem dX6_lengthFrom_34 : decode cX6_lengthFrom 34 = .ok (.iload 4, 2) := by decide +kernel
theorem dX6_lengthFrom_36 : decode cX6_lengthFrom 36 = .ok (.ireturn, 1) := by decide +kernel
theorem dX6_longest_0 : decode cX6_longest 0 = .ok (.iconst 0, 1) := by decide +kernel
theorem dX6_longest_1 : decode cX6_longest 1 = .ok (.istore_n 2, 1) := by decide +kernel
theorem dX6_longest_2 : decode cX6_longest 2 = .ok (.iconst 0, 1) := by decide +kernel
theorem dX6_longest_3 : decode cX6_longest 3 = .ok (.istore_n 3, 1) := by decide +kernel
theorem dX6_longest_4 : decode cX6_longest 4 = .ok (.iload_n 3, 1) := by decide +kernel
theorem dX6_longest_5 : decode cX6_longest 5 = .ok (.iload_n 1, 1) := by decide +kernel
theorem dX6_longest_6 : decode cX6_longest 6 = .ok (.if_icmp .ge 20, 3) := by decide +kernel
theorem dX6_longest_9 : decode cX6_longest 9 = .ok (.iload_n 2, 1) := by decide +kernel
theorem dX6_longest_10 : decode cX6_longest 10 = .ok (.iload_n 3, 1) := by decide +kernel
theorem dX6_longest_11 : decode cX6_longest 11 = .ok (.aload_n 0, 1) := by decide +kernel
theorem dX6_longest_12 : decode cX6_longest 12 = .ok (.iload_n 1, 1) := by decide +kernel
theorem dX6_longest_13 : decode cX6_longest 13 = .ok (.invokestatic 7, 3) := by decide +kernel
theorem dX6_longest_16 : decode cX6_longest 16 = .ok (.invokestatic 13, 3) := by decide +kernel
theorem dX6_longest_19 : decode cX6_longest 19 = .ok (.istore_n 2, 1) := by decide +kernel
theorem dX6_longest_20 : decode cX6_longest 20 = .ok (.iinc 3 1, 3) := by decide +kernel
theorem dX6_longest_23 : decode cX6_longest 23 = .ok (.goto (-19), 3) := by decide +kernel
theorem dX6_longest_26 : decode cX6_longest 26 = .ok (.iload_n 2, 1) := by decide +kernel
theorem dX6_longest_27 : decode cX6_longest 27 = .ok (.ireturn, 1) := by decide +kernel
theorem dX6_still_0 : decode cX6_still 0 = .ok (.iconst 0, 1) := by decide +kernel
theorem dX6_still_1 : decode cX6_still 1 = .ok (.istore_n 2, 1) := by decide +kernel
theorem dX6_still_2 : decode cX6_still 2 = .ok (.iconst 0, 1) := by decide +kernel
theorem dX6_still_3 : decode cX6_still 3 = .ok (.istore_n 3, 1) := by decide +kernel
theorem dX6_still_4 : decode cX6_still 4 = .ok (.iload_n 3, 1) := by decide +kernel
theorem dX6_still_5 : decode cX6_still 5 = .ok (.iload_n 1, 1) := by decide +kernel
theorem dX6_still_6 : decode cX6_still 6 = .ok (.if_icmp .ge 27, 3) := by decide +kernel
theorem dX6_still_9 : decode cX6_still 9 = .ok (.iload_n 2, 1) := by decide +kernel
theorem dX6_still_10 : decode cX6_still 10 = .ok (.iload_n 3, 1) := by decide +kernel
theorem dX6_still_11 : decode cX6_still 11 = .ok (.aload_n 0, 1) := by decide +kernel
theorem dX6_still_12 : decode cX6_still 12 = .ok (.iload_n 1, 1) := by decide +kernel
theorem dX6_still_13 : decode cX6_still 13 = .ok (.invokestatic 7, 3) := by decide +kernel
theorem dX6_still_16 : decode cX6_still 16 = .ok (.iconst 1, 1) := by decide +kernel
theorem dX6_still_17 : decode cX6_still 17 = .ok (.if_icmp .ne 7, 3) := by decide +kernel
theorem dX6_still_20 : decode cX6_still 20 = .ok (.iconst 1, 1) := by decide +kernel
theorem dX6_still_21 : decode cX6_still 21 = .ok (.goto 4, 3) := by decide +kernel
theorem dX6_still_25 : decode cX6_still 25 = .ok (.iadd, 1) := by decide +kernel
theorem dX6_still_26 : decode cX6_still 26 = .ok (.istore_n 2, 1) := by decide +kernel
theorem dX6_still_27 : decode cX6_still 27 = .ok (.iinc 3 1, 3) := by decide +kernel
theorem dX6_still_30 : decode cX6_still 30 = .ok (.goto (-26), 3) := by decide +kernel
theorem dX6_still_33 : decode cX6_still 33 = .ok (.iload_n 2, 1) := by decide +kernel
theorem dX6_still_34 : decode cX6_still 34 = .ok (.ireturn, 1) := by decide +kernel
theorem dX6_times_0 : decode cX6_times 0 = .ok (.iconst 1, 1) := by decide +kernel
theorem dX6_times_1 : decode cX6_times 1 = .ok (.istore_n 2, 1) := by decide +kernel
theorem dX6_times_2 : decode cX6_times 2 = .ok (.iconst 0, 1) := by decide +kernel
theorem dX6_times_3 : decode cX6_times 3 = .ok (.istore_n 3, 1) := by decide +kernel
theorem dX6_times_4 : decode cX6_times 4 = .ok (.iload_n 3, 1) := by decide +kernel
theorem dX6_times_5 : decode cX6_times 5 = .ok (.iload_n 1, 1) := by decide +kernel
theorem dX6_times_6 : decode cX6_times 6 = .ok (.if_icmp .ge 30, 3) := by decide +kernel
theorem dX6_times_9 : decode cX6_times 9 = .ok (.iload_n 3, 1) := by decide +kernel
theorem dX6_times_10 : decode cX6_times 10 = .ok (.aload_n 0, 1) := by decide +kernel
theorem dX6_times_11 : decode cX6_times 11 = .ok (.iload_n 1, 1) := by decide +kernel
theorem dX6_times_12 : decode cX6_times 12 = .ok (.invokestatic 7, 3) := by decide +kernel
theorem dX6_times_15 : decode cX6_times 15 = .ok (.istore 4, 2) := by decide +kernel
theorem dX6_times_17 : decode cX6_times 17 = .ok (.iload 4, 2) := by decide +kernel
theorem dX6_times_19 : decode cX6_times 19 = .ok (.ifCond .le 11, 3) := by decide +kernel
theorem dX6_times_22 : decode cX6_times 22 = .ok (.iload_n 2, 1) := by decide +kernel
theorem dX6_times_23 : decode cX6_times 23 = .ok (.iload 4, 2) := by decide +kernel
theorem dX6_times_25 : decode cX6_times 25 = .ok (.iload_n 1, 1) := by decide +kernel
theorem dX6_times_26 : decode cX6_times 26 = .ok (.invokestatic 19, 3) := by decide +kernel
theorem dX6_times_29 : decode cX6_times 29 = .ok (.istore_n 2, 1) := by decide +kernel
theorem dX6_times_30 : decode cX6_times 30 = .ok (.iinc 3 1, 3) := by decide +kernel
theorem dX6_times_33 : decode cX6_times 33 = .ok (.goto (-29), 3) := by decide +kernel
theorem dX6_times_36 : decode cX6_times 36 = .ok (.iload_n 2, 1) := by decide +kernel
theorem dX6_times_37 : decode cX6_times 37 = .ok (.ireturn, 1) := by decide +kernel
theorem dX7_depthOf_0 : decode cX7_depthOf 0 = .ok (.aload_n 0, 1) := by decide +kernel
theorem dX7_depthOf_1 : decode cX7_depthOf 1 = .ok (.getfield 20, 3) := by decide +kernel
theorem dX7_depthOf_4 : decode cX7_depthOf 4 = .ok (.aload_n 0, 1) := by decide +kernel
theorem dX7_depthOf_5 : decode cX7_depthOf 5 = .ok (.iload_n 1, 1) := by decide +kernel
theorem dX7_depthOf_6 : decode cX7_depthOf 6 = .ok (.invokevirtual 92, 3) := by decide +kernel
theorem dX7_depthOf_9 : decode cX7_depthOf 9 = .ok (.iaload, 1) := by decide +kernel
theorem dX7_depthOf_10 : decode cX7_depthOf 10 = .ok (.istore_n 2, 1) := by decide +kernel
theorem dX7_depthOf_11 : decode cX7_depthOf 11 = .ok (.iload_n 2, 1) := by decide +kernel
theorem dX7_depthOf_12 : decode cX7_depthOf 12 = .ok (.ifCond .ne 7, 3) := by decide +kernel
theorem dX7_depthOf_19 : decode cX7_depthOf 19 = .ok (.iload_n 2, 1) := by decide +kernel
theorem dX7_depthOf_20 : decode cX7_depthOf 20 = .ok (.bipush 24, 2) := by decide +kernel
theorem dX7_depthOf_22 : decode cX7_depthOf 22 = .ok (.ishr, 1) := by decide +kernel
theorem dX7_depthOf_23 : decode cX7_depthOf 23 = .ok (.iconst 1, 1) := by decide +kernel
theorem dX7_depthOf_24 : decode cX7_depthOf 24 = .ok (.isub, 1) := by decide +kernel
theorem dX7_depthOf_25 : decode cX7_depthOf 25 = .ok (.ireturn, 1) := by decide +kernel
theorem dX7_finish_0 : decode cX7_finish 0 = .ok (.iload_n 1, 1) := by decide +kernel
theorem dX7_finish_1 : decode cX7_finish 1 = .ok (.istore_n 2, 1) := by decide +kernel
theorem dX7_finish_2 : decode cX7_finish 2 = .ok (.aload_n 0, 1) := by decide +kernel
theorem dX7_finish_3 : decode cX7_finish 3 = .ok (.iload_n 1, 1) := by decide +kernel
theorem dX7_finish_4 : decode cX7_finish 4 = .ok (.invokevirtual 77, 3) := by decide +kernel
theorem dX7_finish_7 : decode cX7_finish 7 = .ok (.istore_n 3, 1) := by decide +kernel
theorem dX7_finish_8 : decode cX7_finish 8 = .ok (.iload_n 3, 1) := by decide +kernel
theorem dX7_finish_9 : decode cX7_finish 9 = .ok (.iconst 1, 1) := by decide +kernel
theorem dX7_finish_10 : decode cX7_finish 10 = .ok (.isub, 1) := by decide +kernel
theorem dX7_finish_11 : decode cX7_finish 11 = .ok (.istore 4, 2) := by decide +kernel
theorem dX7_finish_13 : decode cX7_finish 13 = .ok (.iload 4, 2) := by decide +kernel
theorem dX7_finish_15 : decode cX7_finish 15 = .ok (.ifCond .lt 67, 3) := by decide +kernel
theorem dX7_finish_82 : decode cX7_finish 82 = .ok (.iload_n 3, 1) := by decide +kernel
theorem dX7_finish_83 : decode cX7_finish 83 = .ok (.iconst (-1), 1) := by decide +kernel
theorem dX7_finish_84 : decode cX7_finish 84 = .ok (.if_icmp .eq 7, 3) := by decide +kernel
theorem dX7_finish_87 : decode cX7_finish 87 = .ok (.iconst 1, 1) := by decide +kernel
theorem dX7_finish_88 : decode cX7_finish 88 = .ok (.goto 4, 3) := by decide +kernel
theorem dX7_finish_92 : decode cX7_finish 92 = .ok (.ireturn, 1) := by decide +kernel
theorem dX7_init_0 : decode cX7_init 0 = .ok (.aload_n 0, 1) := by decide +kernel
theorem dX7_init_1 : decode cX7_init 1 = .ok (.invokespecial 5, 3) := by decide +kernel
theorem dX7_init_4 : decode cX7_init 4 = .ok (.aload_n 0, 1) := by decide +kernel
theorem dX7_init_5 : decode cX7_init 5 = .ok (.new 11, 3) := by decide +kernel
theorem dX7_init_8 : decode cX7_init 8 = .ok (.dup, 1) := by decide +kernel
theorem dX7_init_9 : decode cX7_init 9 = .ok (.bipush 8, 2) := by decide +kernel
theorem dX7_init_11 : decode cX7_init 11 = .ok (.invokespecial 13, 3) := by decide +kernel
theorem dX7_init_14 : decode cX7_init 14 = .ok (.putfield 16, 3) := by decide +kernel
theorem dX7_init_17 : decode cX7_init 17 = .ok (.aload_n 0, 1) := by decide +kernel
theorem dX7_init_18 : decode cX7_init 18 = .ok (.sipush 8192, 3) := by decide +kernel
theorem dX7_init_21 : decode cX7_init 21 = .ok (.newarray .int, 2) := by decide +kernel
theorem dX7_init_23 : decode cX7_init 23 = .ok (.putfield 20, 3) := by decide +kernel
theorem dX7_init_26 : decode cX7_init 26 = .ok (.aload_n 0, 1) := by decide +kernel
theorem dX7_init_27 : decode cX7_init 27 = .ok (.sipush 3600, 3) := by decide +kernel
theorem dX7_init_30 : decode cX7_init 30 = .ok (.newarray .int, 2) := by decide +kernel
theorem dX7_init_32 : decode cX7_init 32 = .ok (.putfield 24, 3) := by decide +kernel
theorem dX7_init_35 : decode cX7_init 35 = .ok (.aload_n 0, 1) := by decide +kernel
theorem dX7_init_36 : decode cX7_init 36 = .ok (.bipush 12, 2) := by decide +kernel
theorem dX7_init_38 : decode cX7_init 38 = .ok (.newarray .int, 2) := by decide +kernel
theorem dX7_init_40 : decode cX7_init 40 = .ok (.putfield 27, 3) := by decide +kernel
theorem dX7_init_43 : decode cX7_init 43 = .ok (.aload_n 0, 1) := by decide +kernel
theorem dX7_init_44 : decode cX7_init 44 = .ok (.bipush 12, 2) := by decide +kernel
theorem dX7_init_46 : decode cX7_init 46 = .ok (.newarray .int, 2) := by decide +kernel
theorem dX7_init_48 : decode cX7_init 48 = .ok (.putfield 30, 3) := by decide +kernel
theorem dX7_init_51 : decode cX7_init 51 = .ok (.aload_n 0, 1) := by decide +kernel
theorem dX7_init_52 : decode cX7_init 52 = .ok (.bipush 12, 2) := by decide +kernel
theorem dX7_init_54 : decode cX7_init 54 = .ok (.newarray .int, 2) := by decide +kernel
theorem dX7_init_56 : decode cX7_init 56 = .ok (.putfield 33, 3) := by decide +kernel
theorem dX7_init_59 : decode cX7_init 59 = .ok (.aload_n 0, 1) := by decide +kernel
theorem dX7_init_60 : decode cX7_init 60 = .ok (.iconst (-1), 1) := by decide +kernel
theorem dX7_init_61 : decode cX7_init 61 = .ok (.putfield 36, 3) := by decide +kernel
theorem dX7_init_64 : decode cX7_init 64 = .ok (.aload_n 0, 1) := by decide +kernel
theorem dX7_init_65 : decode cX7_init 65 = .ok (.iconst (-1), 1) := by decide +kernel
theorem dX7_init_66 : decode cX7_init 66 = .ok (.putfield 40, 3) := by decide +kernel
theorem dX7_init_69 : decode cX7_init 69 = .ok (.return_, 1) := by decide +kernel
theorem dX7_keep_0 : decode cX7_keep 0 = .ok (.aload_n 0, 1) := by decide +kernel
theorem dX7_keep_1 : decode cX7_keep 1 = .ok (.getfield 60, 3) := by decide +kernel
theorem dX7_keep_4 : decode cX7_keep 4 = .ok (.sipush 3600, 3) := by decide +kernel
theorem dX7_keep_7 : decode cX7_keep 7 = .ok (.if_icmp .lt 4, 3) := by decide +kernel
theorem dX7_keep_11 : decode cX7_keep 11 = .ok (.aload_n 0, 1) := by decide +kernel
theorem dX7_keep_12 : decode cX7_keep 12 = .ok (.getfield 24, 3) := by decide +kernel
theorem dX7_keep_15 : decode cX7_keep 15 = .ok (.aload_n 0, 1) := by decide +kernel
theorem dX7_keep_16 : decode cX7_keep 16 = .ok (.getfield 60, 3) := by decide +kernel
theorem dX7_keep_19 : decode cX7_keep 19 = .ok (.iload_n 1, 1) := by decide +kernel
theorem dX7_keep_20 : decode cX7_keep 20 = .ok (.iastore, 1) := by decide +kernel
theorem dX7_keep_21 : decode cX7_keep 21 = .ok (.aload_n 0, 1) := by decide +kernel
theorem dX7_keep_22 : decode cX7_keep 22 = .ok (.dup, 1) := by decide +kernel
theorem dX7_keep_23 : decode cX7_keep 23 = .ok (.getfield 60, 3) := by decide +kernel
theorem dX7_keep_26 : decode cX7_keep 26 = .ok (.iconst 1, 1) := by decide +kernel
theorem dX7_keep_27 : decode cX7_keep 27 = .ok (.iadd, 1) := by decide +kernel
theorem dX7_keep_28 : decode cX7_keep 28 = .ok (.putfield 60, 3) := by decide +kernel
theorem dX7_keep_31 : decode cX7_keep 31 = .ok (.aload_n 0, 1) := by decide +kernel
theorem dX7_keep_32 : decode cX7_keep 32 = .ok (.getfield 20, 3) := by decide +kernel
theorem dX7_keep_35 : decode cX7_keep 35 = .ok (.aload_n 0, 1) := by decide +kernel
theorem dX7_keep_36 : decode cX7_keep 36 = .ok (.iload_n 1, 1) := by decide +kernel
theorem dX7_keep_37 : decode cX7_keep 37 = .ok (.invokevirtual 92, 3) := by decide +kernel
theorem dX7_keep_40 : decode cX7_keep 40 = .ok (.iload_n 2, 1) := by decide +kernel
theorem dX7_keep_41 : decode cX7_keep 41 = .ok (.iconst 1, 1) := by decide +kernel
theorem dX7_keep_42 : decode cX7_keep 42 = .ok (.iadd, 1) := by decide +kernel
theorem dX7_keep_43 : decode cX7_keep 43 = .ok (.bipush 24, 2) := by decide +kernel
theorem dX7_keep_45 : decode cX7_keep 45 = .ok (.ishl, 1) := by decide +kernel
theorem dX7_keep_46 : decode cX7_keep 46 = .ok (.iload_n 1, 1) := by decide +kernel
theorem dX7_keep_47 : decode cX7_keep 47 = .ok (.ior, 1) := by decide +kernel
theorem dX7_keep_48 : decode cX7_keep 48 = .ok (.iastore, 1) := by decide +kernel
theorem dX7_keep_49 : decode cX7_keep 49 = .ok (.return_, 1) := by decide +kernel
theorem dX7_keepNext_0 : decode cX7_keepNext 0 = .ok (.iconst 0, 1) := by decide +kernel
theorem dX7_keepNext_1 : decode cX7_keepNext 1 = .ok (.istore_n 3, 1) := by decide +kernel
theorem dX7_keepNext_2 : decode cX7_keepNext 2 = .ok (.iload_n 3, 1) := by decide +kernel
theorem dX7_keepNext_3 : decode cX7_keepNext 3 = .ok (.aload_n 0, 1) := by decide +kernel
theorem dX7_keepNext_4 : decode cX7_keepNext 4 = .ok (.getfield 70, 3) := by decide +kernel
theorem dX7_keepNext_7 : decode cX7_keepNext 7 = .ok (.if_icmp .ge 34, 3) := by decide +kernel
theorem dX7_keepNext_41 : decode cX7_keepNext 41 = .ok (.return_, 1) := by decide +kernel
theorem dX7_lookAhead_0 : decode cX7_lookAhead 0 = .ok (.iload_n 2, 1) := by decide +kernel
theorem dX7_lookAhead_1 : decode cX7_lookAhead 1 = .ok (.ifCond .gt 9, 3) := by decide +kernel
theorem dX7_lookAhead_4 : decode cX7_lookAhead 4 = .ok (.aload_n 0, 1) := by decide +kernel
theorem dX7_lookAhead_5 : decode cX7_lookAhead 5 = .ok (.iload_n 1, 1) := by decide +kernel
theorem dX7_lookAhead_6 : decode cX7_lookAhead 6 = .ok (.invokevirtual 95, 3) := by decide +kernel
theorem dX7_lookAhead_9 : decode cX7_lookAhead 9 = .ok (.ireturn, 1) := by decide +kernel
theorem dX7_pack_0 : decode cX7_pack 0 = .ok (.iconst 0, 1) := by decide +kernel
theorem dX7_pack_1 : decode cX7_pack 1 = .ok (.istore_n 2, 1) := by decide +kernel
theorem dX7_pack_2 : decode cX7_pack 2 = .ok (.iconst 0, 1) := by decide +kernel
theorem dX7_pack_3 : decode cX7_pack 3 = .ok (.istore_n 3, 1) := by decide +kernel
theorem dX7_pack_4 : decode cX7_pack 4 = .ok (.iload_n 3, 1) := by decide +kernel
theorem dX7_pack_5 : decode cX7_pack 5 = .ok (.iconst 1, 1) := by decide +kernel
theorem dX7_pack_6 : decode cX7_pack 6 = .ok (.aload_n 0, 1) := by decide +kernel
theorem dX7_pack_7 : decode cX7_pack 7 = .ok (.getfield 36, 3) := by decide +kernel
theorem dX7_pack_10 : decode cX7_pack 10 = .ok (.ishl, 1) := by decide +kernel
theorem dX7_pack_11 : decode cX7_pack 11 = .ok (.if_icmp .ge 25, 3) := by decide +kernel
theorem dX7_pack_14 : decode cX7_pack 14 = .ok (.iload_n 3, 1) := by decide +kernel
theorem dX7_pack_15 : decode cX7_pack 15 = .ok (.aload_n 1, 1) := by decide +kernel
theorem dX7_pack_16 : decode cX7_pack 16 = .ok (.arraylength, 1) := by decide +kernel
theorem dX7_pack_17 : decode cX7_pack 17 = .ok (.if_icmp .ge 19, 3) := by decide +kernel
theorem dX7_pack_20 : decode cX7_pack 20 = .ok (.iload_n 2, 1) := by decide +kernel
theorem dX7_pack_21 : decode cX7_pack 21 = .ok (.aload_n 1, 1) := by decide +kernel
theorem dX7_pack_22 : decode cX7_pack 22 = .ok (.iload_n 3, 1) := by decide +kernel
theorem dX7_pack_23 : decode cX7_pack 23 = .ok (.iaload, 1) := by decide +kernel
theorem dX7_pack_24 : decode cX7_pack 24 = .ok (.iconst 3, 1) := by decide +kernel
theorem dX7_pack_25 : decode cX7_pack 25 = .ok (.iload_n 3, 1) := by decide +kernel
theorem dX7_pack_26 : decode cX7_pack 26 = .ok (.imul, 1) := by decide +kernel
theorem dX7_pack_27 : decode cX7_pack 27 = .ok (.ishl, 1) := by decide +kernel
theorem dX7_pack_28 : decode cX7_pack 28 = .ok (.ior, 1) := by decide +kernel
theorem dX7_pack_29 : decode cX7_pack 29 = .ok (.istore_n 2, 1) := by decide +kernel
theorem dX7_pack_30 : decode cX7_pack 30 = .ok (.iinc 3 1, 3) := by decide +kernel
theorem dX7_pack_33 : decode cX7_pack 33 = .ok (.goto (-29), 3) := by decide +kernel
theorem dX7_pack_36 : decode cX7_pack 36 = .ok (.iload_n 2, 1) := by decide +kernel
theorem dX7_pack_37 : decode cX7_pack 37 = .ok (.ireturn, 1) := by decide +kernel
theorem dX7_placeOf_0 : decode cX7_placeOf 0 = .ok (.iload_n 1, 1) := by decide +kernel
theorem dX7_placeOf_1 : decode cX7_placeOf 1 = .ok (.ldc 90, 2) := by decide +kernel
theorem dX7_placeOf_3 : decode cX7_placeOf 3 = .ok (.imul, 1) := by decide +kernel
theorem dX7_placeOf_4 : decode cX7_placeOf 4 = .ok (.bipush 19, 2) := by decide +kernel
theorem dX7_placeOf_6 : decode cX7_placeOf 6 = .ok (.iushr, 1) := by decide +kernel
theorem dX7_placeOf_7 : decode cX7_placeOf 7 = .ok (.istore_n 2, 1) := by decide +kernel
theorem dX7_placeOf_8 : decode cX7_placeOf 8 = .ok (.iconst 0, 1) := by decide +kernel
theorem dX7_placeOf_9 : decode cX7_placeOf 9 = .ok (.istore_n 3, 1) := by decide +kernel
theorem dX7_placeOf_10 : decode cX7_placeOf 10 = .ok (.iload_n 3, 1) := by decide +kernel
theorem dX7_placeOf_11 : decode cX7_placeOf 11 = .ok (.sipush 8192, 3) := by decide +kernel
theorem dX7_placeOf_14 : decode cX7_placeOf 14 = .ok (.if_icmp .ge 41, 3) := by decide +kernel
theorem dX7_placeOf_17 : decode cX7_placeOf 17 = .ok (.aload_n 0, 1) := by decide +kernel
theorem dX7_placeOf_18 : decode cX7_placeOf 18 = .ok (.getfield 20, 3) := by decide +kernel
theorem dX7_placeOf_21 : decode cX7_placeOf 21 = .ok (.iload_n 2, 1) := by decide +kernel
theorem dX7_placeOf_22 : decode cX7_placeOf 22 = .ok (.iaload, 1) := by decide +kernel
theorem dX7_placeOf_23 : decode cX7_placeOf 23 = .ok (.ifCond .eq 16, 3) := by decide +kernel
theorem dX7_placeOf_26 : decode cX7_placeOf 26 = .ok (.aload_n 0, 1) := by decide +kernel
theorem dX7_placeOf_27 : decode cX7_placeOf 27 = .ok (.getfield 20, 3) := by decide +kernel
theorem dX7_placeOf_30 : decode cX7_placeOf 30 = .ok (.iload_n 2, 1) := by decide +kernel
theorem dX7_placeOf_31 : decode cX7_placeOf 31 = .ok (.iaload, 1) := by decide +kernel
theorem dX7_placeOf_32 : decode cX7_placeOf 32 = .ok (.ldc 91, 2) := by decide +kernel
theorem dX7_placeOf_34 : decode cX7_placeOf 34 = .ok (.iand, 1) := by decide +kernel
theorem dX7_placeOf_35 : decode cX7_placeOf 35 = .ok (.iload_n 1, 1) := by decide +kernel
theorem dX7_placeOf_36 : decode cX7_placeOf 36 = .ok (.if_icmp .ne 5, 3) := by decide +kernel
theorem dX7_placeOf_39 : decode cX7_placeOf 39 = .ok (.iload_n 2, 1) := by decide +kernel
theorem dX7_placeOf_40 : decode cX7_placeOf 40 = .ok (.ireturn, 1) := by decide +kernel
theorem dX7_prepare_0 : decode cX7_prepare 0 = .ok (.aload_n 0, 1) := by decide +kernel
theorem dX7_prepare_1 : decode cX7_prepare 1 = .ok (.iload_n 1, 1) := by decide +kernel
theorem dX7_prepare_2 : decode cX7_prepare 2 = .ok (.putfield 36, 3) := by decide +kernel
theorem dX7_prepare_5 : decode cX7_prepare 5 = .ok (.aload_n 0, 1) := by decide +kernel
theorem dX7_prepare_6 : decode cX7_prepare 6 = .ok (.iconst (-1), 1) := by decide +kernel
theorem dX7_prepare_7 : decode cX7_prepare 7 = .ok (.putfield 40, 3) := by decide +kernel
theorem dX7_prepare_10 : decode cX7_prepare 10 = .ok (.aload_n 0, 1) := by decide +kernel
theorem dX7_prepare_11 : decode cX7_prepare 11 = .ok (.invokevirtual 57, 3) := by decide +kernel
theorem dX7_prepare_14 : decode cX7_prepare 14 = .ok (.iconst 0, 1) := by decide +kernel
theorem dX7_prepare_15 : decode cX7_prepare 15 = .ok (.istore_n 2, 1) := by decide +kernel
theorem dX7_prepare_16 : decode cX7_prepare 16 = .ok (.iload_n 2, 1) := by decide +kernel
theorem dX7_prepare_17 : decode cX7_prepare 17 = .ok (.sipush 8192, 3) := by decide +kernel
theorem dX7_prepare_20 : decode cX7_prepare 20 = .ok (.if_icmp .ge 16, 3) := by decide +kernel
theorem dX7_prepare_23 : decode cX7_prepare 23 = .ok (.aload_n 0, 1) := by decide +kernel
theorem dX7_prepare_24 : decode cX7_prepare 24 = .ok (.getfield 20, 3) := by decide +kernel
theorem dX7_prepare_27 : decode cX7_prepare 27 = .ok (.iload_n 2, 1) := by decide +kernel
theorem dX7_prepare_28 : decode cX7_prepare 28 = .ok (.iconst 0, 1) := by decide +kernel
theorem dX7_prepare_29 : decode cX7_prepare 29 = .ok (.iastore, 1) := by decide +kernel
theorem dX7_prepare_30 : decode cX7_prepare 30 = .ok (.iinc 2 1, 3) := by decide +kernel
theorem dX7_prepare_33 : decode cX7_prepare 33 = .ok (.goto (-17), 3) := by decide +kernel
theorem dX7_prepare_36 : decode cX7_prepare 36 = .ok (.aload_n 0, 1) := by decide +kernel
theorem dX7_prepare_37 : decode cX7_prepare 37 = .ok (.iconst 0, 1) := by decide +kernel
theorem dX7_prepare_38 : decode cX7_prepare 38 = .ok (.putfield 60, 3) := by decide +kernel
theorem dX7_prepare_41 : decode cX7_prepare 41 = .ok (.iconst 0, 1) := by decide +kernel
theorem dX7_prepare_42 : decode cX7_prepare 42 = .ok (.istore_n 2, 1) := by decide +kernel
theorem dX7_prepare_43 : decode cX7_prepare 43 = .ok (.iconst 0, 1) := by decide +kernel
theorem dX7_prepare_44 : decode cX7_prepare 44 = .ok (.istore_n 3, 1) := by decide +kernel
theorem dX7_prepare_45 : decode cX7_prepare 45 = .ok (.iload_n 3, 1) := by decide +kernel
theorem dX7_prepare_46 : decode cX7_prepare 46 = .ok (.iconst 1, 1) := by decide +kernel
theorem dX7_prepare_47 : decode cX7_prepare 47 = .ok (.aload_n 0, 1) := by decide +kernel
theorem dX7_prepare_48 : decode cX7_prepare 48 = .ok (.getfield 36, 3) := by decide +kernel
theorem dX7_prepare_51 : decode cX7_prepare 51 = .ok (.ishl, 1) := by decide +kernel
theorem dX7_prepare_52 : decode cX7_prepare 52 = .ok (.if_icmp .ge 17, 3) := by decide +kernel
theorem dX7_prepare_55 : decode cX7_prepare 55 = .ok (.iload_n 2, 1) := by decide +kernel
theorem dX7_prepare_56 : decode cX7_prepare 56 = .ok (.iload_n 3, 1) := by decide +kernel
theorem dX7_prepare_57 : decode cX7_prepare 57 = .ok (.iconst 3, 1) := by decide +kernel
theorem dX7_prepare_58 : decode cX7_prepare 58 = .ok (.iload_n 3, 1) := by decide +kernel
theorem dX7_prepare_59 : decode cX7_prepare 59 = .ok (.imul, 1) := by decide +kernel
theorem dX7_prepare_60 : decode cX7_prepare 60 = .ok (.ishl, 1) := by decide +kernel
theorem dX7_prepare_61 : decode cX7_prepare 61 = .ok (.ior, 1) := by decide +kernel
theorem dX7_prepare_62 : decode cX7_prepare 62 = .ok (.istore_n 2, 1) := by decide +kernel
theorem dX7_prepare_63 : decode cX7_prepare 63 = .ok (.iinc 3 1, 3) := by decide +kernel
theorem dX7_prepare_66 : decode cX7_prepare 66 = .ok (.goto (-21), 3) := by decide +kernel
theorem dX7_prepare_69 : decode cX7_prepare 69 = .ok (.aload_n 0, 1) := by decide +kernel
theorem dX7_prepare_70 : decode cX7_prepare 70 = .ok (.iload_n 2, 1) := by decide +kernel
theorem dX7_prepare_71 : decode cX7_prepare 71 = .ok (.iconst 0, 1) := by decide +kernel
theorem dX7_prepare_72 : decode cX7_prepare 72 = .ok (.invokevirtual 63, 3) := by decide +kernel
theorem dX7_prepare_75 : decode cX7_prepare 75 = .ok (.iconst 0, 1) := by decide +kernel
theorem dX7_prepare_76 : decode cX7_prepare 76 = .ok (.istore_n 3, 1) := by decide +kernel
theorem dX7_prepare_77 : decode cX7_prepare 77 = .ok (.iconst 1, 1) := by decide +kernel
theorem dX7_prepare_78 : decode cX7_prepare 78 = .ok (.istore 4, 2) := by decide +kernel
theorem dX7_prepare_80 : decode cX7_prepare 80 = .ok (.iload 4, 2) := by decide +kernel
theorem dX7_prepare_82 : decode cX7_prepare 82 = .ok (.iconst 4, 1) := by decide +kernel
theorem dX7_prepare_83 : decode cX7_prepare 83 = .ok (.if_icmp .gt 55, 3) := by decide +kernel
theorem dX7_prepare_86 : decode cX7_prepare 86 = .ok (.aload_n 0, 1) := by decide +kernel
theorem dX7_prepare_87 : decode cX7_prepare 87 = .ok (.getfield 60, 3) := by decide +kernel
theorem dX7_prepare_90 : decode cX7_prepare 90 = .ok (.istore 5, 2) := by decide +kernel
theorem dX7_prepare_92 : decode cX7_prepare 92 = .ok (.iload_n 3, 1) := by decide +kernel
theorem dX7_prepare_93 : decode cX7_prepare 93 = .ok (.istore 6, 2) := by decide +kernel
theorem dX7_prepare_95 : decode cX7_prepare 95 = .ok (.iload 6, 2) := by decide +kernel
theorem dX7_prepare_97 : decode cX7_prepare 97 = .ok (.iload 5, 2) := by decide +kernel
theorem dX7_prepare_99 : decode cX7_prepare 99 = .ok (.if_icmp .ge 30, 3) := by decide +kernel
theorem dX7_prepare_102 : decode cX7_prepare 102 = .ok (.iload 6, 2) := by decide +kernel
theorem dX7_prepare_104 : decode cX7_prepare 104 = .ok (.sipush 3600, 3) := by decide +kernel
theorem dX7_prepare_107 : decode cX7_prepare 107 = .ok (.if_icmp .ge 22, 3) := by decide +kernel
theorem dX7_prepare_110 : decode cX7_prepare 110 = .ok (.aload_n 0, 1) := by decide +kernel
theorem dX7_prepare_111 : decode cX7_prepare 111 = .ok (.aload_n 0, 1) := by decide +kernel
theorem dX7_prepare_112 : decode cX7_prepare 112 = .ok (.getfield 24, 3) := by decide +kernel
theorem dX7_prepare_115 : decode cX7_prepare 115 = .ok (.iload 6, 2) := by decide +kernel
theorem dX7_prepare_117 : decode cX7_prepare 117 = .ok (.iaload, 1) := by decide +kernel
theorem dX7_prepare_118 : decode cX7_prepare 118 = .ok (.iload 4, 2) := by decide +kernel
theorem dX7_prepare_120 : decode cX7_prepare 120 = .ok (.invokevirtual 67, 3) := by decide +kernel
theorem dX7_prepare_123 : decode cX7_prepare 123 = .ok (.iinc 6 1, 3) := by decide +kernel
theorem dX7_prepare_126 : decode cX7_prepare 126 = .ok (.goto (-31), 3) := by decide +kernel
theorem dX7_prepare_129 : decode cX7_prepare 129 = .ok (.iload 5, 2) := by decide +kernel
theorem dX7_prepare_131 : decode cX7_prepare 131 = .ok (.istore_n 3, 1) := by decide +kernel
theorem dX7_prepare_132 : decode cX7_prepare 132 = .ok (.iinc 4 1, 3) := by decide +kernel
theorem dX7_prepare_135 : decode cX7_prepare 135 = .ok (.goto (-55), 3) := by decide +kernel
theorem dX7_prepare_138 : decode cX7_prepare 138 = .ok (.return_, 1) := by decide +kernel
theorem dX7_setKinds_0 : decode cX7_setKinds 0 = .ok (.aload_n 0, 1) := by decide +kernel
theorem dX7_setKinds_1 : decode cX7_setKinds 1 = .ok (.iconst 0, 1) := by decide +kernel
theorem dX7_setKinds_2 : decode cX7_setKinds 2 = .ok (.putfield 70, 3) := by decide +kernel
theorem dX7_setKinds_5 : decode cX7_setKinds 5 = .ok (.iconst 0, 1) := by decide +kernel
theorem dX7_setKinds_6 : decode cX7_setKinds 6 = .ok (.istore_n 1, 1) := by decide +kernel
theorem dX7_setKinds_7 : decode cX7_setKinds 7 = .ok (.iload_n 1, 1) := by decide +kernel
theorem dX7_setKinds_8 : decode cX7_setKinds 8 = .ok (.aload_n 0, 1) := by decide +kernel
theorem dX7_setKinds_9 : decode cX7_setKinds 9 = .ok (.getfield 36, 3) := by decide +kernel
theorem dX7_setKinds_12 : decode cX7_setKinds 12 = .ok (.if_icmp .ge 96, 3) := by decide +kernel
theorem dX7_setKinds_108 : decode cX7_setKinds 108 = .ok (.return_, 1) := by decide +kernel
theorem dX7_solve_0 : decode cX7_solve 0 = .ok (.aload_n 0, 1) := by decide +kernel
theorem dX7_solve_1 : decode cX7_solve 1 = .ok (.getfield 36, 3) := by decide +kernel
theorem dX7_solve_4 : decode cX7_solve 4 = .ok (.iload_n 1, 1) := by decide +kernel
theorem dX7_solve_5 : decode cX7_solve 5 = .ok (.if_icmp .eq 8, 3) := by decide +kernel
theorem dX7_solve_8 : decode cX7_solve 8 = .ok (.aload_n 0, 1) := by decide +kernel
theorem dX7_solve_9 : decode cX7_solve 9 = .ok (.iload_n 1, 1) := by decide +kernel
theorem dX7_solve_10 : decode cX7_solve 10 = .ok (.invokevirtual 43, 3) := by decide +kernel
theorem dX7_solve_13 : decode cX7_solve 13 = .ok (.aload_n 0, 1) := by decide +kernel
theorem dX7_solve_14 : decode cX7_solve 14 = .ok (.aload_n 2, 1) := by decide +kernel
theorem dX7_solve_15 : decode cX7_solve 15 = .ok (.invokevirtual 46, 3) := by decide +kernel
theorem dX7_solve_18 : decode cX7_solve 18 = .ok (.istore_n 3, 1) := by decide +kernel
theorem dX7_solve_19 : decode cX7_solve 19 = .ok (.iload_n 3, 1) := by decide +kernel
theorem dX7_solve_20 : decode cX7_solve 20 = .ok (.aload_n 0, 1) := by decide +kernel
theorem dX7_solve_21 : decode cX7_solve 21 = .ok (.getfield 40, 3) := by decide +kernel
theorem dX7_solve_24 : decode cX7_solve 24 = .ok (.if_icmp .ne 4, 3) := by decide +kernel
theorem dX7_solve_28 : decode cX7_solve 28 = .ok (.aload_n 0, 1) := by decide +kernel
theorem dX7_solve_29 : decode cX7_solve 29 = .ok (.iload_n 3, 1) := by decide +kernel
theorem dX7_solve_30 : decode cX7_solve 30 = .ok (.putfield 40, 3) := by decide +kernel
theorem dX7_solve_33 : decode cX7_solve 33 = .ok (.aload_n 0, 1) := by decide +kernel
theorem dX7_solve_34 : decode cX7_solve 34 = .ok (.getfield 16, 3) := by decide +kernel
theorem dX7_solve_37 : decode cX7_solve 37 = .ok (.iconst 0, 1) := by decide +kernel
theorem dX7_solve_38 : decode cX7_solve 38 = .ok (.putfield 50, 3) := by decide +kernel
theorem dX7_solve_41 : decode cX7_solve 41 = .ok (.iconst 0, 1) := by decide +kernel
theorem dX7_solve_42 : decode cX7_solve 42 = .ok (.istore 4, 2) := by decide +kernel
theorem dX7_solve_44 : decode cX7_solve 44 = .ok (.iload 4, 2) := by decide +kernel
theorem dX7_solve_46 : decode cX7_solve 46 = .ok (.iconst 4, 1) := by decide +kernel
theorem dX7_solve_47 : decode cX7_solve 47 = .ok (.if_icmp .gt 20, 3) := by decide +kernel
theorem dX7_solve_50 : decode cX7_solve 50 = .ok (.aload_n 0, 1) := by decide +kernel
theorem dX7_solve_51 : decode cX7_solve 51 = .ok (.iload_n 3, 1) := by decide +kernel
theorem dX7_solve_52 : decode cX7_solve 52 = .ok (.iload 4, 2) := by decide +kernel
theorem dX7_solve_54 : decode cX7_solve 54 = .ok (.invokevirtual 53, 3) := by decide +kernel
theorem dX7_solve_57 : decode cX7_solve 57 = .ok (.ifCond .eq 4, 3) := by decide +kernel
theorem dX7_solve_60 : decode cX7_solve 60 = .ok (.return_, 1) := by decide +kernel
theorem dX8_addWord_0 : decode cX8_addWord 0 = .ok (.bipush 24, 2) := by decide +kernel
theorem dX8_addWord_2 : decode cX8_addWord 2 = .ok (.istore_n 2, 1) := by decide +kernel
theorem dX8_addWord_3 : decode cX8_addWord 3 = .ok (.iload_n 2, 1) := by decide +kernel
theorem dX8_addWord_4 : decode cX8_addWord 4 = .ok (.ifCond .lt 42, 3) := by decide +kernel
theorem dX8_addWord_7 : decode cX8_addWord 7 = .ok (.aload_n 0, 1) := by decide +kernel
theorem dX8_addWord_8 : decode cX8_addWord 8 = .ok (.getfield 26, 3) := by decide +kernel
theorem dX8_addWord_11 : decode cX8_addWord 11 = .ok (.sipush 2000, 3) := by decide +kernel
theorem dX8_addWord_14 : decode cX8_addWord 14 = .ok (.if_icmp .ge 26, 3) := by decide +kernel
theorem dX8_addWord_17 : decode cX8_addWord 17 = .ok (.aload_n 0, 1) := by decide +kernel
theorem dX8_addWord_18 : decode cX8_addWord 18 = .ok (.getfield 11, 3) := by decide +kernel
theorem dX8_addWord_21 : decode cX8_addWord 21 = .ok (.aload_n 0, 1) := by decide +kernel
theorem dX8_addWord_22 : decode cX8_addWord 22 = .ok (.getfield 26, 3) := by decide +kernel
theorem dX8_addWord_25 : decode cX8_addWord 25 = .ok (.iload_n 1, 1) := by decide +kernel
theorem dX8_addWord_26 : decode cX8_addWord 26 = .ok (.iload_n 2, 1) := by decide +kernel
theorem dX8_addWord_27 : decode cX8_addWord 27 = .ok (.iushr, 1) := by decide +kernel
theorem dX8_addWord_28 : decode cX8_addWord 28 = .ok (.i2b, 1) := by decide +kernel
theorem dX8_addWord_29 : decode cX8_addWord 29 = .ok (.bastore, 1) := by decide +kernel
theorem dX8_addWord_30 : decode cX8_addWord 30 = .ok (.aload_n 0, 1) := by decide +kernel
theorem dX8_addWord_31 : decode cX8_addWord 31 = .ok (.dup, 1) := by decide +kernel
theorem dX8_addWord_32 : decode cX8_addWord 32 = .ok (.getfield 26, 3) := by decide +kernel
theorem dX8_addWord_35 : decode cX8_addWord 35 = .ok (.iconst 1, 1) := by decide +kernel
theorem dX8_addWord_36 : decode cX8_addWord 36 = .ok (.iadd, 1) := by decide +kernel
theorem dX8_addWord_37 : decode cX8_addWord 37 = .ok (.putfield 26, 3) := by decide +kernel
theorem dX8_addWord_40 : decode cX8_addWord 40 = .ok (.iinc 2 (-8), 3) := by decide +kernel
theorem dX8_addWord_43 : decode cX8_addWord 43 = .ok (.goto (-40), 3) := by decide +kernel
theorem dX8_addWord_46 : decode cX8_addWord 46 = .ok (.return_, 1) := by decide +kernel
theorem dX8_advance_0 : decode cX8_advance 0 = .ok (.aload_n 0, 1) := by decide +kernel
theorem dX8_advance_1 : decode cX8_advance 1 = .ok (.getfield 33, 3) := by decide +kernel
theorem dX8_advance_4 : decode cX8_advance 4 = .ok (.aload_n 0, 1) := by decide +kernel
theorem dX8_advance_5 : decode cX8_advance 5 = .ok (.getfield 26, 3) := by decide +kernel
theorem dX8_advance_8 : decode cX8_advance 8 = .ok (.if_icmp .ge 30, 3) := by decide +kernel
theorem dX8_advance_38 : decode cX8_advance 38 = .ok (.aload_n 0, 1) := by decide +kernel
theorem dX8_advance_39 : decode cX8_advance 39 = .ok (.aload_n 0, 1) := by decide +kernel
theorem dX8_advance_40 : decode cX8_advance 40 = .ok (.getfield 33, 3) := by decide +kernel
theorem dX8_advance_43 : decode cX8_advance 43 = .ok (.putfield 39, 3) := by decide +kernel
theorem dX8_advance_46 : decode cX8_advance 46 = .ok (.aload_n 0, 1) := by decide +kernel
theorem dX8_advance_47 : decode cX8_advance 47 = .ok (.lconst 0, 1) := by decide +kernel
theorem dX8_advance_48 : decode cX8_advance 48 = .ok (.putfield 42, 3) := by decide +kernel
theorem dX8_advance_51 : decode cX8_advance 51 = .ok (.aload_n 0, 1) := by decide +kernel
theorem dX8_advance_52 : decode cX8_advance 52 = .ok (.aload_n 0, 1) := by decide +kernel
theorem dX8_advance_53 : decode cX8_advance 53 = .ok (.getfield 39, 3) := by decide +kernel
theorem dX8_advance_56 : decode cX8_advance 56 = .ok (.invokevirtual 50, 3) := by decide +kernel
theorem dX8_advance_59 : decode cX8_advance 59 = .ok (.istore_n 1, 1) := by decide +kernel
theorem dX8_advance_60 : decode cX8_advance 60 = .ok (.iload_n 1, 1) := by decide +kernel
theorem dX8_advance_61 : decode cX8_advance 61 = .ok (.iconst (-1), 1) := by decide +kernel
theorem dX8_advance_62 : decode cX8_advance 62 = .ok (.if_icmp .ne 11, 3) := by decide +kernel
theorem dX8_advance_65 : decode cX8_advance 65 = .ok (.aload_n 0, 1) := by decide +kernel
theorem dX8_advance_66 : decode cX8_advance 66 = .ok (.iconst 1, 1) := by decide +kernel
theorem dX8_advance_67 : decode cX8_advance 67 = .ok (.putfield 36, 3) := by decide +kernel
theorem dX8_advance_70 : decode cX8_advance 70 = .ok (.goto 49, 3) := by decide +kernel
theorem dX8_advance_119 : decode cX8_advance 119 = .ok (.return_, 1) := by decide +kernel
theorem dX8_begin_0 : decode cX8_begin 0 = .ok (.aload_n 0, 1) := by decide +kernel
theorem dX8_begin_1 : decode cX8_begin 1 = .ok (.iconst 0, 1) := by decide +kernel
theorem dX8_begin_2 : decode cX8_begin 2 = .ok (.putfield 30, 3) := by decide +kernel
theorem dX8_begin_5 : decode cX8_begin 5 = .ok (.aload_n 0, 1) := by decide +kernel
theorem dX8_begin_6 : decode cX8_begin 6 = .ok (.iconst 0, 1) := by decide +kernel
theorem dX8_begin_7 : decode cX8_begin 7 = .ok (.putfield 33, 3) := by decide +kernel
theorem dX8_begin_10 : decode cX8_begin 10 = .ok (.return_, 1) := by decide +kernel
theorem dX8_byteAt_0 : decode cX8_byteAt 0 = .ok (.iload_n 1, 1) := by decide +kernel
theorem dX8_byteAt_1 : decode cX8_byteAt 1 = .ok (.ifCond .lt 31, 3) := by decide +kernel
theorem dX8_byteAt_4 : decode cX8_byteAt 4 = .ok (.iload_n 1, 1) := by decide +kernel
theorem dX8_byteAt_5 : decode cX8_byteAt 5 = .ok (.aload_n 0, 1) := by decide +kernel
theorem dX8_byteAt_6 : decode cX8_byteAt 6 = .ok (.getfield 26, 3) := by decide +kernel
theorem dX8_byteAt_9 : decode cX8_byteAt 9 = .ok (.if_icmp .ge 23, 3) := by decide +kernel
theorem dX8_byteAt_32 : decode cX8_byteAt 32 = .ok (.iconst (-1), 1) := by decide +kernel
theorem dX8_byteAt_33 : decode cX8_byteAt 33 = .ok (.ireturn, 1) := by decide +kernel
theorem dX8_hasRoomFor_0 : decode cX8_hasRoomFor 0 = .ok (.aload_n 0, 1) := by decide +kernel
theorem dX8_hasRoomFor_1 : decode cX8_hasRoomFor 1 = .ok (.getfield 26, 3) := by decide +kernel
theorem dX8_hasRoomFor_4 : decode cX8_hasRoomFor 4 = .ok (.iload_n 1, 1) := by decide +kernel
theorem dX8_hasRoomFor_5 : decode cX8_hasRoomFor 5 = .ok (.iadd, 1) := by decide +kernel
theorem dX8_hasRoomFor_6 : decode cX8_hasRoomFor 6 = .ok (.sipush 2000, 3) := by decide +kernel
theorem dX8_hasRoomFor_9 : decode cX8_hasRoomFor 9 = .ok (.if_icmp .gt 7, 3) := by decide +kernel
theorem dX8_hasRoomFor_12 : decode cX8_hasRoomFor 12 = .ok (.iconst 1, 1) := by decide +kernel
theorem dX8_hasRoomFor_13 : decode cX8_hasRoomFor 13 = .ok (.goto 4, 3) := by decide +kernel
theorem dX8_hasRoomFor_17 : decode cX8_hasRoomFor 17 = .ok (.ireturn, 1) := by decide +kernel
theorem dX8_init_0 : decode cX8_init 0 = .ok (.aload_n 0, 1) := by decide +kernel
theorem dX8_init_1 : decode cX8_init 1 = .ok (.invokespecial 3, 3) := by decide +kernel
theorem dX8_init_4 : decode cX8_init 4 = .ok (.aload_n 0, 1) := by decide +kernel
theorem dX8_init_5 : decode cX8_init 5 = .ok (.sipush 2000, 3) := by decide +kernel
theorem dX8_init_8 : decode cX8_init 8 = .ok (.newarray .byte, 2) := by decide +kernel
theorem dX8_init_10 : decode cX8_init 10 = .ok (.putfield 11, 3) := by decide +kernel
theorem dX8_init_13 : decode cX8_init 13 = .ok (.aload_n 0, 1) := by decide +kernel
theorem dX8_init_14 : decode cX8_init 14 = .ok (.sipush 400, 3) := by decide +kernel
theorem dX8_init_17 : decode cX8_init 17 = .ok (.newarray .int, 2) := by decide +kernel
theorem dX8_init_19 : decode cX8_init 19 = .ok (.putfield 15, 3) := by decide +kernel
theorem dX8_init_22 : decode cX8_init 22 = .ok (.aload_n 0, 1) := by decide +kernel
theorem dX8_init_23 : decode cX8_init 23 = .ok (.sipush 400, 3) := by decide +kernel
theorem dX8_init_26 : decode cX8_init 26 = .ok (.newarray .int, 2) := by decide +kernel
theorem dX8_init_28 : decode cX8_init 28 = .ok (.putfield 19, 3) := by decide +kernel
theorem dX8_init_31 : decode cX8_init 31 = .ok (.aload_n 0, 1) := by decide +kernel
theorem dX8_init_32 : decode cX8_init 32 = .ok (.sipush 400, 3) := by decide +kernel
theorem dX8_init_35 : decode cX8_init 35 = .ok (.newarray .long, 2) := by decide +kernel
theorem dX8_init_37 : decode cX8_init 37 = .ok (.putfield 22, 3) := by decide +kernel
theorem dX8_init_40 : decode cX8_init 40 = .ok (.return_, 1) := by decide +kernel
theorem dX9_choose_0 : decode cX9_choose 0 = .ok (.iconst 0, 1) := by decide +kernel
theorem dX9_choose_1 : decode cX9_choose 1 = .ok (.istore_n 1, 1) := by decide +kernel
theorem dX9_choose_2 : decode cX9_choose 2 = .ok (.iconst 0, 1) := by decide +kernel
theorem dX9_choose_3 : decode cX9_choose 3 = .ok (.istore_n 2, 1) := by decide +kernel
theorem dX9_choose_4 : decode cX9_choose 4 = .ok (.iload_n 2, 1) := by decide +kernel
theorem dX9_choose_5 : decode cX9_choose 5 = .ok (.aload_n 0, 1) := by decide +kernel
theorem dX9_choose_6 : decode cX9_choose 6 = .ok (.getfield 18, 3) := by decide +kernel
theorem dX9_choose_9 : decode cX9_choose 9 = .ok (.if_icmp .ge 24, 3) := by decide +kernel
theorem dX9_choose_12 : decode cX9_choose 12 = .ok (.iload_n 2, 1) := by decide +kernel
theorem dX9_choose_13 : decode cX9_choose 13 = .ok (.bipush 16, 2) := by decide +kernel
theorem dX9_choose_15 : decode cX9_choose 15 = .ok (.if_icmp .ge 18, 3) := by decide +kernel
theorem dX9_choose_18 : decode cX9_choose 18 = .ok (.iload_n 1, 1) := by decide +kernel
theorem dX9_choose_19 : decode cX9_choose 19 = .ok (.aload_n 0, 1) := by decide +kernel
theorem dX9_choose_20 : decode cX9_choose 20 = .ok (.getfield 9, 3) := by decide +kernel
theorem dX9_choose_23 : decode cX9_choose 23 = .ok (.iload_n 2, 1) := by decide +kernel
theorem dX9_choose_24 : decode cX9_choose 24 = .ok (.iaload, 1) := by decide +kernel
theorem dX9_choose_25 : decode cX9_choose 25 = .ok (.ior, 1) := by decide +kernel
theorem dX9_choose_26 : decode cX9_choose 26 = .ok (.istore_n 1, 1) := by decide +kernel
theorem dX9_choose_27 : decode cX9_choose 27 = .ok (.iinc 2 1, 3) := by decide +kernel
theorem dX9_choose_30 : decode cX9_choose 30 = .ok (.goto (-26), 3) := by decide +kernel
theorem dX9_choose_33 : decode cX9_choose 33 = .ok (.aload_n 0, 1) := by decide +kernel
theorem dX9_choose_34 : decode cX9_choose 34 = .ok (.iconst 0, 1) := by decide +kernel
theorem dX9_choose_35 : decode cX9_choose 35 = .ok (.putfield 35, 3) := by decide +kernel
theorem dX9_choose_38 : decode cX9_choose 38 = .ok (.aload_n 0, 1) := by decide +kernel
theorem dX9_choose_39 : decode cX9_choose 39 = .ok (.getfield 35, 3) := by decide +kernel
theorem dX9_choose_42 : decode cX9_choose 42 = .ok (.bipush 8, 2) := by decide +kernel
theorem dX9_choose_44 : decode cX9_choose 44 = .ok (.if_icmp .ge 27, 3) := by decide +kernel
theorem dX9_choose_47 : decode cX9_choose 47 = .ok (.aload_n 0, 1) := by decide +kernel
theorem dX9_choose_48 : decode cX9_choose 48 = .ok (.iconst 0, 1) := by decide +kernel
theorem dX9_choose_49 : decode cX9_choose 49 = .ok (.iconst 0, 1) := by decide +kernel
theorem dX9_choose_50 : decode cX9_choose 50 = .ok (.iload_n 1, 1) := by decide +kernel
theorem dX9_choose_51 : decode cX9_choose 51 = .ok (.invokevirtual 36, 3) := by decide +kernel
theorem dX9_choose_54 : decode cX9_choose 54 = .ok (.ifCond .eq 4, 3) := by decide +kernel
theorem dX9_choose_57 : decode cX9_choose 57 = .ok (.return_, 1) := by decide +kernel
theorem dX9_chooseFrom_0 : decode cX9_chooseFrom 0 = .ok (.iload_n 2, 1) := by decide +kernel
theorem dX9_chooseFrom_1 : decode cX9_chooseFrom 1 = .ok (.aload_n 0, 1) := by decide +kernel
theorem dX9_chooseFrom_2 : decode cX9_chooseFrom 2 = .ok (.getfield 35, 3) := by decide +kernel
theorem dX9_chooseFrom_5 : decode cX9_chooseFrom 5 = .ok (.if_icmp .ge 9, 3) := by decide +kernel
theorem dX9_chooseFrom_14 : decode cX9_chooseFrom 14 = .ok (.iload_n 3, 1) := by decide +kernel
theorem dX9_chooseFrom_15 : decode cX9_chooseFrom 15 = .ok (.ifCond .ne 7, 3) := by decide +kernel
theorem dX9_chooseFrom_18 : decode cX9_chooseFrom 18 = .ok (.iconst 1, 1) := by decide +kernel
theorem dX9_chooseFrom_19 : decode cX9_chooseFrom 19 = .ok (.goto 4, 3) := by decide +kernel
theorem dX9_chooseFrom_23 : decode cX9_chooseFrom 23 = .ok (.ireturn, 1) := by decide +kernel
theorem dX9_init_0 : decode cX9_init 0 = .ok (.aload_n 0, 1) := by decide +kernel
theorem dX9_init_1 : decode cX9_init 1 = .ok (.invokespecial 3, 3) := by decide +kernel
theorem dX9_init_4 : decode cX9_init 4 = .ok (.aload_n 0, 1) := by decide +kernel
theorem dX9_init_5 : decode cX9_init 5 = .ok (.bipush 16, 2) := by decide +kernel
theorem dX9_init_7 : decode cX9_init 7 = .ok (.newarray .int, 2) := by decide +kernel
theorem dX9_init_9 : decode cX9_init 9 = .ok (.putfield 9, 3) := by decide +kernel
theorem dX9_init_12 : decode cX9_init 12 = .ok (.aload_n 0, 1) := by decide +kernel
theorem dX9_init_13 : decode cX9_init 13 = .ok (.bipush 8, 2) := by decide +kernel
theorem dX9_init_15 : decode cX9_init 15 = .ok (.newarray .int, 2) := by decide +kernel
theorem dX9_init_17 : decode cX9_init 17 = .ok (.putfield 15, 3) := by decide +kernel
theorem dX9_init_20 : decode cX9_init 20 = .ok (.return_, 1) := by decide +kernel
theorem dX9_look_0 : decode cX9_look 0 = .ok (.aload_n 0, 1) := by decide +kernel
theorem dX9_look_1 : decode cX9_look 1 = .ok (.iconst 1, 1) := by decide +kernel
theorem dX9_look_2 : decode cX9_look 2 = .ok (.iload_n 2, 1) := by decide +kernel
theorem dX9_look_3 : decode cX9_look 3 = .ok (.ishl, 1) := by decide +kernel
theorem dX9_look_4 : decode cX9_look 4 = .ok (.putfield 18, 3) := by decide +kernel
theorem dX9_look_7 : decode cX9_look 7 = .ok (.iconst 0, 1) := by decide +kernel
theorem dX9_look_8 : decode cX9_look 8 = .ok (.istore_n 3, 1) := by decide +kernel
theorem dX9_look_9 : decode cX9_look 9 = .ok (.iload_n 3, 1) := by decide +kernel
theorem dX9_look_10 : decode cX9_look 10 = .ok (.aload_n 0, 1) := by decide +kernel
theorem dX9_look_11 : decode cX9_look 11 = .ok (.getfield 18, 3) := by decide +kernel
theorem dX9_look_14 : decode cX9_look 14 = .ok (.if_icmp .ge 91, 3) := by decide +kernel
theorem dX9_look_17 : decode cX9_look 17 = .ok (.iload_n 3, 1) := by decide +kernel
theorem dX9_look_18 : decode cX9_look 18 = .ok (.bipush 16, 2) := by decide +kernel
theorem dX9_look_20 : decode cX9_look 20 = .ok (.if_icmp .ge 85, 3) := by decide +kernel
theorem dX9_look_23 : decode cX9_look 23 = .ok (.aload_n 1, 1) := by decide +kernel
theorem dX9_look_24 : decode cX9_look 24 = .ok (.iload_n 3, 1) := by decide +kernel
theorem dX9_look_25 : decode cX9_look 25 = .ok (.iconst 0, 1) := by decide +kernel
theorem dX9_look_26 : decode cX9_look 26 = .ok (.aload_n 1, 1) := by decide +kernel
theorem dX9_look_27 : decode cX9_look 27 = .ok (.getfield 22, 3) := by decide +kernel
theorem dX9_look_30 : decode cX9_look 30 = .ok (.invokevirtual 27, 3) := by decide +kernel
theorem dX9_look_33 : decode cX9_look 33 = .ok (.istore 4, 2) := by decide +kernel
theorem dX9_look_35 : decode cX9_look 35 = .ok (.iconst 0, 1) := by decide +kernel
theorem dX9_look_36 : decode cX9_look 36 = .ok (.istore 5, 2) := by decide +kernel
theorem dX9_look_38 : decode cX9_look 38 = .ok (.iconst 0, 1) := by decide +kernel
theorem dX9_look_39 : decode cX9_look 39 = .ok (.istore 6, 2) := by decide +kernel
theorem dX9_look_41 : decode cX9_look 41 = .ok (.iload 6, 2) := by decide +kernel
theorem dX9_look_43 : decode cX9_look 43 = .ok (.iconst 2, 1) := by decide +kernel
theorem dX9_look_44 : decode cX9_look 44 = .ok (.iload_n 2, 1) := by decide +kernel
theorem dX9_look_45 : decode cX9_look 45 = .ok (.imul, 1) := by decide +kernel
theorem dX9_look_46 : decode cX9_look 46 = .ok (.if_icmp .ge 45, 3) := by decide +kernel
theorem dX9_look_91 : decode cX9_look 91 = .ok (.aload_n 0, 1) := by decide +kernel
theorem dX9_look_92 : decode cX9_look 92 = .ok (.getfield 9, 3) := by decide +kernel
theorem dX9_look_95 : decode cX9_look 95 = .ok (.iload_n 3, 1) := by decide +kernel
