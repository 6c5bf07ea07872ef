theorem dX9_look_96 : decode cX9_look 96 = .ok (.iload 5, 2) := by decide +kernel
theorem dX9_look_98 : decode cX9_look 98 = .ok (.iastore, 1) := by decide +kernel
theorem dX9_look_99 : decode cX9_look 99 = .ok (.iinc 3 1, 3) := by decide +kernel
theorem dX9_look_102 : decode cX9_look 102 = .ok (.goto (-93), 3) := by decide +kernel
theorem dX9_look_105 : decode cX9_look 105 = .ok (.return_, 1) := by decide +kernel
theorem dX9_seeingRows_0 : decode cX9_seeingRows 0 = .ok (.iconst 0, 1) := by decide +kernel
theorem dX9_seeingRows_1 : decode cX9_seeingRows 1 = .ok (.istore_n 1, 1) := by decide +kernel
theorem dX9_seeingRows_2 : decode cX9_seeingRows 2 = .ok (.iconst 0, 1) := by decide +kernel
theorem dX9_seeingRows_3 : decode cX9_seeingRows 3 = .ok (.istore_n 2, 1) := by decide +kernel
theorem dX9_seeingRows_4 : decode cX9_seeingRows 4 = .ok (.iload_n 2, 1) := by decide +kernel
theorem dX9_seeingRows_5 : decode cX9_seeingRows 5 = .ok (.aload_n 0, 1) := by decide +kernel
theorem dX9_seeingRows_6 : decode cX9_seeingRows 6 = .ok (.getfield 18, 3) := by decide +kernel
theorem dX9_seeingRows_9 : decode cX9_seeingRows 9 = .ok (.if_icmp .ge 34, 3) := by decide +kernel
theorem dX9_seeingRows_12 : decode cX9_seeingRows 12 = .ok (.iload_n 2, 1) := by decide +kernel
theorem dX9_seeingRows_13 : decode cX9_seeingRows 13 = .ok (.bipush 16, 2) := by decide +kernel
theorem dX9_seeingRows_15 : decode cX9_seeingRows 15 = .ok (.if_icmp .ge 28, 3) := by decide +kernel
theorem dX9_seeingRows_18 : decode cX9_seeingRows 18 = .ok (.iload_n 1, 1) := by decide +kernel
theorem dX9_seeingRows_19 : decode cX9_seeingRows 19 = .ok (.aload_n 0, 1) := by decide +kernel
theorem dX9_seeingRows_20 : decode cX9_seeingRows 20 = .ok (.getfield 9, 3) := by decide +kernel
theorem dX9_seeingRows_23 : decode cX9_seeingRows 23 = .ok (.iload_n 2, 1) := by decide +kernel
theorem dX9_seeingRows_24 : decode cX9_seeingRows 24 = .ok (.iaload, 1) := by decide +kernel
theorem dX9_seeingRows_25 : decode cX9_seeingRows 25 = .ok (.ifCond .eq 9, 3) := by decide +kernel
theorem dX9_seeingRows_34 : decode cX9_seeingRows 34 = .ok (.iconst 0, 1) := by decide +kernel
theorem dX9_seeingRows_35 : decode cX9_seeingRows 35 = .ok (.ior, 1) := by decide +kernel
theorem dX9_seeingRows_36 : decode cX9_seeingRows 36 = .ok (.istore_n 1, 1) := by decide +kernel
theorem dX9_seeingRows_37 : decode cX9_seeingRows 37 = .ok (.iinc 2 1, 3) := by decide +kernel
theorem dX9_seeingRows_40 : decode cX9_seeingRows 40 = .ok (.goto (-36), 3) := by decide +kernel
theorem dX9_seeingRows_43 : decode cX9_seeingRows 43 = .ok (.iload_n 1, 1) := by decide +kernel
theorem dX9_seeingRows_44 : decode cX9_seeingRows 44 = .ok (.ireturn, 1) := by decide +kernel
