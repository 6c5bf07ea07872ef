theorem dX0_runBack_1 : decode cX0_runBack 1 = .ok (.istore_n 2, 1) := by decide +kernel
theorem dX0_runBack_2 : decode cX0_runBack 2 = .ok (.aload_n 0, 1) := by decide +kernel
theorem dX0_runBack_3 : decode cX0_runBack 3 = .ok (.getfield 21, 3) := by decide +kernel
theorem dX0_runBack_6 : decode cX0_runBack 6 = .ok (.iconst 1, 1) := by decide +kernel
theorem dX0_runBack_7 : decode cX0_runBack 7 = .ok (.isub, 1) := by decide +kernel
theorem dX0_runBack_8 : decode cX0_runBack 8 = .ok (.istore_n 3, 1) := by decide +kernel
theorem dX0_runBack_9 : decode cX0_runBack 9 = .ok (.iload_n 3, 1) := by decide +kernel
theorem dX0_runBack_10 : decode cX0_runBack 10 = .ok (.ifCond .lt 19, 3) := by decide +kernel
theorem dX0_runBack_29 : decode cX0_runBack 29 = .ok (.iload_n 2, 1) := by decide +kernel
theorem dX0_runBack_30 : decode cX0_runBack 30 = .ok (.ireturn, 1) := by decide +kernel
theorem dX0_shrink_0 : decode cX0_shrink 0 = .ok (.aload_n 0, 1) := by decide +kernel
theorem dX0_shrink_1 : decode cX0_shrink 1 = .ok (.getfield 21, 3) := by decide +kernel
theorem dX0_shrink_4 : decode cX0_shrink 4 = .ok (.istore_n 2, 1) := by decide +kernel
theorem dX0_shrink_5 : decode cX0_shrink 5 = .ok (.iload_n 2, 1) := by decide +kernel
theorem dX0_shrink_6 : decode cX0_shrink 6 = .ok (.ifCond .le 18, 3) := by decide +kernel
theorem dX0_shrink_24 : decode cX0_shrink 24 = .ok (.return_, 1) := by decide +kernel
theorem dX0_turnRound_0 : decode cX0_turnRound 0 = .ok (.iconst 0, 1) := by decide +kernel
theorem dX0_turnRound_1 : decode cX0_turnRound 1 = .ok (.istore_n 1, 1) := by decide +kernel
theorem dX0_turnRound_2 : decode cX0_turnRound 2 = .ok (.aload_n 0, 1) := by decide +kernel
theorem dX0_turnRound_3 : decode cX0_turnRound 3 = .ok (.getfield 21, 3) := by decide +kernel
theorem dX0_turnRound_6 : decode cX0_turnRound 6 = .ok (.iconst 1, 1) := by decide +kernel
theorem dX0_turnRound_7 : decode cX0_turnRound 7 = .ok (.isub, 1) := by decide +kernel
theorem dX0_turnRound_8 : decode cX0_turnRound 8 = .ok (.istore_n 2, 1) := by decide +kernel
theorem dX0_turnRound_9 : decode cX0_turnRound 9 = .ok (.iload_n 1, 1) := by decide +kernel
theorem dX0_turnRound_10 : decode cX0_turnRound 10 = .ok (.iload_n 2, 1) := by decide +kernel
theorem dX0_turnRound_11 : decode cX0_turnRound 11 = .ok (.if_icmp .ge 38, 3) := by decide +kernel
theorem dX0_turnRound_49 : decode cX0_turnRound 49 = .ok (.return_, 1) := by decide +kernel
theorem dX10_init_0 : decode cX10_init 0 = .ok (.aload_n 0, 1) := by decide +kernel
theorem dX10_init_1 : decode cX10_init 1 = .ok (.invokespecial 1, 3) := by decide +kernel
theorem dX10_init_4 : decode cX10_init 4 = .ok (.aload_n 0, 1) := by decide +kernel
theorem dX10_init_5 : decode cX10_init 5 = .ok (.bipush 8, 2) := by decide +kernel
theorem dX10_init_7 : decode cX10_init 7 = .ok (.newarray .int, 2) := by decide +kernel
theorem dX10_init_9 : decode cX10_init 9 = .ok (.putfield 9, 3) := by decide +kernel
theorem dX10_init_12 : decode cX10_init 12 = .ok (.return_, 1) := by decide +kernel
theorem dX11_agree_0 : decode cX11_agree 0 = .ok (.aload_n 0, 1) := by decide +kernel
theorem dX11_agree_1 : decode cX11_agree 1 = .ok (.getfield 35, 3) := by decide +kernel
theorem dX11_agree_4 : decode cX11_agree 4 = .ok (.iload_n 1, 1) := by decide +kernel
theorem dX11_agree_5 : decode cX11_agree 5 = .ok (.invokevirtual 170, 3) := by decide +kernel
theorem dX11_agree_8 : decode cX11_agree 8 = .ok (.ifCond .eq 14, 3) := by decide +kernel
theorem dX11_agree_22 : decode cX11_agree 22 = .ok (.iconst (-1), 1) := by decide +kernel
theorem dX11_agree_23 : decode cX11_agree 23 = .ok (.ireturn, 1) := by decide +kernel
theorem dX11_allControls_0 : decode cX11_allControls 0 = .ok (.iconst 0, 1) := by decide +kernel
theorem dX11_allControls_1 : decode cX11_allControls 1 = .ok (.istore_n 1, 1) := by decide +kernel
theorem dX11_allControls_2 : decode cX11_allControls 2 = .ok (.iconst 0, 1) := by decide +kernel
theorem dX11_allControls_3 : decode cX11_allControls 3 = .ok (.istore_n 2, 1) := by decide +kernel
theorem dX11_allControls_4 : decode cX11_allControls 4 = .ok (.iload_n 2, 1) := by decide +kernel
theorem dX11_allControls_5 : decode cX11_allControls 5 = .ok (.aload_n 0, 1) := by decide +kernel
theorem dX11_allControls_6 : decode cX11_allControls 6 = .ok (.getfield 35, 3) := by decide +kernel
theorem dX11_allControls_9 : decode cX11_allControls 9 = .ok (.getfield 142, 3) := by decide +kernel
theorem dX11_allControls_12 : decode cX11_allControls 12 = .ok (.if_icmp .ge 26, 3) := by decide +kernel
theorem dX11_allControls_38 : decode cX11_allControls 38 = .ok (.iload_n 1, 1) := by decide +kernel
theorem dX11_allControls_39 : decode cX11_allControls 39 = .ok (.ireturn, 1) := by decide +kernel
theorem dX11_answer_0 : decode cX11_answer 0 = .ok (.aload_n 0, 1) := by decide +kernel
theorem dX11_answer_1 : decode cX11_answer 1 = .ok (.ifnonnull 5, 3) := by decide +kernel
theorem dX11_answer_6 : decode cX11_answer 6 = .ok (.iload_n 1, 1) := by decide +kernel
theorem dX11_answer_7 : decode cX11_answer 7 = .ok (.iconst (-1), 1) := by decide +kernel
theorem dX11_answer_8 : decode cX11_answer 8 = .ok (.if_icmp .ne 8, 3) := by decide +kernel
theorem dX11_answer_11 : decode cX11_answer 11 = .ok (.aload_n 0, 1) := by decide +kernel
theorem dX11_answer_12 : decode cX11_answer 12 = .ok (.getfield 142, 3) := by decide +kernel
theorem dX11_answer_15 : decode cX11_answer 15 = .ok (.ireturn, 1) := by decide +kernel
theorem dX11_answer_16 : decode cX11_answer 16 = .ok (.aload_n 0, 1) := by decide +kernel
theorem dX11_answer_17 : decode cX11_answer 17 = .ok (.iload_n 1, 1) := by decide +kernel
theorem dX11_answer_18 : decode cX11_answer 18 = .ok (.invokevirtual 170, 3) := by decide +kernel
theorem dX11_answer_21 : decode cX11_answer 21 = .ok (.ifCond .eq 12, 3) := by decide +kernel
theorem dX11_answer_33 : decode cX11_answer 33 = .ok (.iconst (-1), 1) := by decide +kernel
theorem dX11_answer_34 : decode cX11_answer 34 = .ok (.ireturn, 1) := by decide +kernel
theorem dX11_back_0 : decode cX11_back 0 = .ok (.iload_n 1, 1) := by decide +kernel
theorem dX11_back_1 : decode cX11_back 1 = .ok (.ifCond .lt 14, 3) := by decide +kernel
theorem dX11_back_4 : decode cX11_back 4 = .ok (.iload_n 1, 1) := by decide +kernel
theorem dX11_back_5 : decode cX11_back 5 = .ok (.aload_n 0, 1) := by decide +kernel
theorem dX11_back_6 : decode cX11_back 6 = .ok (.getfield 10, 3) := by decide +kernel
theorem dX11_back_9 : decode cX11_back 9 = .ok (.getfield 104, 3) := by decide +kernel
theorem dX11_back_12 : decode cX11_back 12 = .ok (.if_icmp .le 5, 3) := by decide +kernel
theorem dX11_back_15 : decode cX11_back 15 = .ok (.iconst (-1), 1) := by decide +kernel
theorem dX11_back_16 : decode cX11_back 16 = .ok (.ireturn, 1) := by decide +kernel
theorem dX11_back_17 : decode cX11_back 17 = .ok (.aload_n 0, 1) := by decide +kernel
theorem dX11_back_18 : decode cX11_back 18 = .ok (.getfield 10, 3) := by decide +kernel
theorem dX11_back_21 : decode cX11_back 21 = .ok (.dup, 1) := by decide +kernel
theorem dX11_back_22 : decode cX11_back 22 = .ok (.getfield 104, 3) := by decide +kernel
theorem dX11_back_25 : decode cX11_back 25 = .ok (.iload_n 1, 1) := by decide +kernel
theorem dX11_back_26 : decode cX11_back 26 = .ok (.isub, 1) := by decide +kernel
theorem dX11_back_27 : decode cX11_back 27 = .ok (.putfield 104, 3) := by decide +kernel
theorem dX11_back_30 : decode cX11_back 30 = .ok (.aload_n 0, 1) := by decide +kernel
theorem dX11_back_31 : decode cX11_back 31 = .ok (.getfield 10, 3) := by decide +kernel
theorem dX11_back_34 : decode cX11_back 34 = .ok (.getfield 104, 3) := by decide +kernel
theorem dX11_back_37 : decode cX11_back 37 = .ok (.ireturn, 1) := by decide +kernel
theorem dX11_become_0 : decode cX11_become 0 = .ok (.aconst_null, 1) := by decide +kernel
theorem dX11_become_1 : decode cX11_become 1 = .ok (.astore_n 2, 1) := by decide +kernel
theorem dX11_become_2 : decode cX11_become 2 = .ok (.iload_n 1, 1) := by decide +kernel
theorem dX11_become_3 : decode cX11_become 3 = .ok (.tableswitch 75 0 4 #[33, 41, 50, 59, 67], 33) := by decide +kernel
theorem dX11_become_36 : decode cX11_become 36 = .ok (.aload_n 0, 1) := by decide +kernel
theorem dX11_become_37 : decode cX11_become 37 = .ok (.invokevirtual 179, 3) := by decide +kernel
theorem dX11_become_40 : decode cX11_become 40 = .ok (.astore_n 2, 1) := by decide +kernel
theorem dX11_become_41 : decode cX11_become 41 = .ok (.goto 37, 3) := by decide +kernel
theorem dX11_become_44 : decode cX11_become 44 = .ok (.aload_n 0, 1) := by decide +kernel
theorem dX11_become_45 : decode cX11_become 45 = .ok (.iconst 0, 1) := by decide +kernel
theorem dX11_become_46 : decode cX11_become 46 = .ok (.invokevirtual 183, 3) := by decide +kernel
theorem dX11_become_49 : decode cX11_become 49 = .ok (.astore_n 2, 1) := by decide +kernel
theorem dX11_become_50 : decode cX11_become 50 = .ok (.goto 28, 3) := by decide +kernel
theorem dX11_become_53 : decode cX11_become 53 = .ok (.aload_n 0, 1) := by decide +kernel
theorem dX11_become_54 : decode cX11_become 54 = .ok (.iconst 1, 1) := by decide +kernel
theorem dX11_become_55 : decode cX11_become 55 = .ok (.invokevirtual 183, 3) := by decide +kernel
theorem dX11_become_58 : decode cX11_become 58 = .ok (.astore_n 2, 1) := by decide +kernel
theorem dX11_become_59 : decode cX11_become 59 = .ok (.goto 19, 3) := by decide +kernel
theorem dX11_become_62 : decode cX11_become 62 = .ok (.aload_n 0, 1) := by decide +kernel
theorem dX11_become_63 : decode cX11_become 63 = .ok (.invokevirtual 187, 3) := by decide +kernel
theorem dX11_become_66 : decode cX11_become 66 = .ok (.astore_n 2, 1) := by decide +kernel
theorem dX11_become_67 : decode cX11_become 67 = .ok (.goto 11, 3) := by decide +kernel
theorem dX11_become_70 : decode cX11_become 70 = .ok (.aload_n 0, 1) := by decide +kernel
theorem dX11_become_71 : decode cX11_become 71 = .ok (.invokevirtual 190, 3) := by decide +kernel
theorem dX11_become_74 : decode cX11_become 74 = .ok (.astore_n 2, 1) := by decide +kernel
theorem dX11_become_75 : decode cX11_become 75 = .ok (.goto 3, 3) := by decide +kernel
theorem dX11_become_78 : decode cX11_become 78 = .ok (.aload_n 2, 1) := by decide +kernel
theorem dX11_become_79 : decode cX11_become 79 = .ok (.ifnull 12, 3) := by decide +kernel
theorem dX11_become_82 : decode cX11_become 82 = .ok (.aload_n 2, 1) := by decide +kernel
theorem dX11_become_83 : decode cX11_become 83 = .ok (.getfield 142, 3) := by decide +kernel
theorem dX11_become_86 : decode cX11_become 86 = .ok (.bipush 16, 2) := by decide +kernel
theorem dX11_become_88 : decode cX11_become 88 = .ok (.if_icmp .le 5, 3) := by decide +kernel
theorem dX11_become_91 : decode cX11_become 91 = .ok (.iconst (-1), 1) := by decide +kernel
theorem dX11_become_92 : decode cX11_become 92 = .ok (.ireturn, 1) := by decide +kernel
theorem dX11_become_93 : decode cX11_become 93 = .ok (.aload_n 0, 1) := by decide +kernel
theorem dX11_become_94 : decode cX11_become 94 = .ok (.getfield 53, 3) := by decide +kernel
theorem dX11_become_97 : decode cX11_become 97 = .ok (.aload_n 0, 1) := by decide +kernel
theorem dX11_become_98 : decode cX11_become 98 = .ok (.getfield 35, 3) := by decide +kernel
theorem dX11_become_101 : decode cX11_become 101 = .ok (.invokevirtual 149, 3) := by decide +kernel
theorem dX11_become_104 : decode cX11_become 104 = .ok (.aload_n 0, 1) := by decide +kernel
theorem dX11_become_105 : decode cX11_become 105 = .ok (.getfield 35, 3) := by decide +kernel
theorem dX11_become_108 : decode cX11_become 108 = .ok (.aload_n 2, 1) := by decide +kernel
theorem dX11_become_109 : decode cX11_become 109 = .ok (.invokevirtual 193, 3) := by decide +kernel
theorem dX11_become_112 : decode cX11_become 112 = .ok (.aload_n 0, 1) := by decide +kernel
theorem dX11_become_113 : decode cX11_become 113 = .ok (.getfield 35, 3) := by decide +kernel
theorem dX11_become_116 : decode cX11_become 116 = .ok (.getfield 142, 3) := by decide +kernel
theorem dX11_become_119 : decode cX11_become 119 = .ok (.ireturn, 1) := by decide +kernel
theorem dX11_cost_0 : decode cX11_cost 0 = .ok (.iconst 0, 1) := by decide +kernel
theorem dX11_cost_1 : decode cX11_cost 1 = .ok (.istore_n 1, 1) := by decide +kernel
theorem dX11_cost_2 : decode cX11_cost 2 = .ok (.iconst 0, 1) := by decide +kernel
theorem dX11_cost_3 : decode cX11_cost 3 = .ok (.istore_n 2, 1) := by decide +kernel
theorem dX11_cost_4 : decode cX11_cost 4 = .ok (.iload_n 2, 1) := by decide +kernel
theorem dX11_cost_5 : decode cX11_cost 5 = .ok (.aload_n 0, 1) := by decide +kernel
theorem dX11_cost_6 : decode cX11_cost 6 = .ok (.getfield 35, 3) := by decide +kernel
theorem dX11_cost_9 : decode cX11_cost 9 = .ok (.getfield 142, 3) := by decide +kernel
theorem dX11_cost_12 : decode cX11_cost 12 = .ok (.if_icmp .ge 24, 3) := by decide +kernel
theorem dX11_cost_36 : decode cX11_cost 36 = .ok (.iload_n 1, 1) := by decide +kernel
theorem dX11_cost_37 : decode cX11_cost 37 = .ok (.ireturn, 1) := by decide +kernel
theorem dX11_count_0 : decode cX11_count 0 = .ok (.iload_n 1, 1) := by decide +kernel
theorem dX11_count_1 : decode cX11_count 1 = .ok (.tableswitch 185 0 16 #[83, 88, 96, 101, 106, 111, 116, 124, 132, 137, 137, 137, 137, 147, 152, 175, 180], 83) := by decide +kernel
theorem dX11_count_84 : decode cX11_count 84 = .ok (.aload_n 0, 1) := by decide +kernel
theorem dX11_count_85 : decode cX11_count 85 = .ok (.getfield 120, 3) := by decide +kernel
theorem dX11_count_88 : decode cX11_count 88 = .ok (.ireturn, 1) := by decide +kernel
theorem dX11_count_89 : decode cX11_count 89 = .ok (.aload_n 0, 1) := by decide +kernel
theorem dX11_count_90 : decode cX11_count 90 = .ok (.getfield 35, 3) := by decide +kernel
theorem dX11_count_93 : decode cX11_count 93 = .ok (.getfield 142, 3) := by decide +kernel
theorem dX11_count_96 : decode cX11_count 96 = .ok (.ireturn, 1) := by decide +kernel
theorem dX11_count_97 : decode cX11_count 97 = .ok (.aload_n 0, 1) := by decide +kernel
theorem dX11_count_98 : decode cX11_count 98 = .ok (.invokevirtual 366, 3) := by decide +kernel
theorem dX11_count_101 : decode cX11_count 101 = .ok (.ireturn, 1) := by decide +kernel
theorem dX11_count_102 : decode cX11_count 102 = .ok (.aload_n 0, 1) := by decide +kernel
theorem dX11_count_103 : decode cX11_count 103 = .ok (.invokevirtual 234, 3) := by decide +kernel
theorem dX11_count_106 : decode cX11_count 106 = .ok (.ireturn, 1) := by decide +kernel
theorem dX11_count_107 : decode cX11_count 107 = .ok (.aload_n 0, 1) := by decide +kernel
theorem dX11_count_108 : decode cX11_count 108 = .ok (.invokevirtual 369, 3) := by decide +kernel
theorem dX11_count_111 : decode cX11_count 111 = .ok (.ireturn, 1) := by decide +kernel
theorem dX11_count_112 : decode cX11_count 112 = .ok (.aload_n 0, 1) := by decide +kernel
theorem dX11_count_113 : decode cX11_count 113 = .ok (.invokevirtual 372, 3) := by decide +kernel
theorem dX11_count_116 : decode cX11_count 116 = .ok (.ireturn, 1) := by decide +kernel
theorem dX11_count_117 : decode cX11_count 117 = .ok (.aload_n 0, 1) := by decide +kernel
theorem dX11_count_118 : decode cX11_count 118 = .ok (.getfield 10, 3) := by decide +kernel
theorem dX11_count_121 : decode cX11_count 121 = .ok (.getfield 104, 3) := by decide +kernel
theorem dX11_count_124 : decode cX11_count 124 = .ok (.ireturn, 1) := by decide +kernel
theorem dX11_count_125 : decode cX11_count 125 = .ok (.aload_n 0, 1) := by decide +kernel
theorem dX11_count_126 : decode cX11_count 126 = .ok (.getfield 53, 3) := by decide +kernel
theorem dX11_count_129 : decode cX11_count 129 = .ok (.getfield 375, 3) := by decide +kernel
theorem dX11_count_132 : decode cX11_count 132 = .ok (.ireturn, 1) := by decide +kernel
theorem dX11_count_133 : decode cX11_count 133 = .ok (.aload_n 0, 1) := by decide +kernel
theorem dX11_count_134 : decode cX11_count 134 = .ok (.invokevirtual 376, 3) := by decide +kernel
theorem dX11_count_137 : decode cX11_count 137 = .ok (.ireturn, 1) := by decide +kernel
theorem dX11_count_138 : decode cX11_count 138 = .ok (.aload_n 0, 1) := by decide +kernel
theorem dX11_count_139 : decode cX11_count 139 = .ok (.getfield 87, 3) := by decide +kernel
theorem dX11_count_142 : decode cX11_count 142 = .ok (.iload_n 1, 1) := by decide +kernel
theorem dX11_count_143 : decode cX11_count 143 = .ok (.bipush 9, 2) := by decide +kernel
theorem dX11_count_145 : decode cX11_count 145 = .ok (.isub, 1) := by decide +kernel
theorem dX11_count_146 : decode cX11_count 146 = .ok (.iaload, 1) := by decide +kernel
theorem dX11_count_147 : decode cX11_count 147 = .ok (.ireturn, 1) := by decide +kernel
theorem dX11_count_148 : decode cX11_count 148 = .ok (.aload_n 0, 1) := by decide +kernel
theorem dX11_count_149 : decode cX11_count 149 = .ok (.invokevirtual 379, 3) := by decide +kernel
theorem dX11_count_152 : decode cX11_count 152 = .ok (.ireturn, 1) := by decide +kernel
theorem dX11_count_153 : decode cX11_count 153 = .ok (.aload_n 0, 1) := by decide +kernel
theorem dX11_count_154 : decode cX11_count 154 = .ok (.getfield 67, 3) := by decide +kernel
theorem dX11_count_157 : decode cX11_count 157 = .ok (.aload_n 0, 1) := by decide +kernel
theorem dX11_count_158 : decode cX11_count 158 = .ok (.getfield 35, 3) := by decide +kernel
theorem dX11_count_161 : decode cX11_count 161 = .ok (.aload_n 0, 1) := by decide +kernel
theorem dX11_count_162 : decode cX11_count 162 = .ok (.getfield 120, 3) := by decide +kernel
theorem dX11_count_165 : decode cX11_count 165 = .ok (.invokevirtual 289, 3) := by decide +kernel
theorem dX11_count_168 : decode cX11_count 168 = .ok (.aload_n 0, 1) := by decide +kernel
theorem dX11_count_169 : decode cX11_count 169 = .ok (.getfield 67, 3) := by decide +kernel
theorem dX11_count_172 : decode cX11_count 172 = .ok (.invokevirtual 382, 3) := by decide +kernel
theorem dX11_count_175 : decode cX11_count 175 = .ok (.ireturn, 1) := by decide +kernel
theorem dX11_count_176 : decode cX11_count 176 = .ok (.aload_n 0, 1) := by decide +kernel
theorem dX11_count_177 : decode cX11_count 177 = .ok (.invokevirtual 385, 3) := by decide +kernel
theorem dX11_count_180 : decode cX11_count 180 = .ok (.ireturn, 1) := by decide +kernel
theorem dX11_count_181 : decode cX11_count 181 = .ok (.aload_n 0, 1) := by decide +kernel
theorem dX11_count_182 : decode cX11_count 182 = .ok (.invokevirtual 388, 3) := by decide +kernel
theorem dX11_count_185 : decode cX11_count 185 = .ok (.ireturn, 1) := by decide +kernel
theorem dX11_count_186 : decode cX11_count 186 = .ok (.iconst (-1), 1) := by decide +kernel
theorem dX11_count_187 : decode cX11_count 187 = .ok (.ireturn, 1) := by decide +kernel
theorem dX11_degree_0 : decode cX11_degree 0 = .ok (.iconst 0, 1) := by decide +kernel
theorem dX11_degree_1 : decode cX11_degree 1 = .ok (.istore_n 1, 1) := by decide +kernel
theorem dX11_degree_2 : decode cX11_degree 2 = .ok (.iconst 0, 1) := by decide +kernel
theorem dX11_degree_3 : decode cX11_degree 3 = .ok (.istore_n 2, 1) := by decide +kernel
theorem dX11_degree_4 : decode cX11_degree 4 = .ok (.iload_n 2, 1) := by decide +kernel
theorem dX11_degree_5 : decode cX11_degree 5 = .ok (.aload_n 0, 1) := by decide +kernel
theorem dX11_degree_6 : decode cX11_degree 6 = .ok (.getfield 120, 3) := by decide +kernel
theorem dX11_degree_9 : decode cX11_degree 9 = .ok (.if_icmp .ge 52, 3) := by decide +kernel
theorem dX11_degree_61 : decode cX11_degree 61 = .ok (.iload_n 1, 1) := by decide +kernel
theorem dX11_degree_62 : decode cX11_degree 62 = .ok (.ireturn, 1) := by decide +kernel
theorem dX11_feed_0 : decode cX11_feed 0 = .ok (.aload_n 0, 1) := by decide +kernel
theorem dX11_feed_1 : decode cX11_feed 1 = .ok (.getfield 10, 3) := by decide +kernel
theorem dX11_feed_4 : decode cX11_feed 4 = .ok (.bipush 20, 2) := by decide +kernel
theorem dX11_feed_6 : decode cX11_feed 6 = .ok (.invokevirtual 97, 3) := by decide +kernel
theorem dX11_feed_9 : decode cX11_feed 9 = .ok (.ifCond .ne 5, 3) := by decide +kernel
theorem dX11_feed_14 : decode cX11_feed 14 = .ok (.aload_n 0, 1) := by decide +kernel
theorem dX11_feed_15 : decode cX11_feed 15 = .ok (.getfield 10, 3) := by decide +kernel
theorem dX11_feed_18 : decode cX11_feed 18 = .ok (.iload_n 1, 1) := by decide +kernel
theorem dX11_feed_19 : decode cX11_feed 19 = .ok (.invokevirtual 101, 3) := by decide +kernel
theorem dX11_feed_22 : decode cX11_feed 22 = .ok (.aload_n 0, 1) := by decide +kernel
theorem dX11_feed_23 : decode cX11_feed 23 = .ok (.getfield 10, 3) := by decide +kernel
theorem dX11_feed_26 : decode cX11_feed 26 = .ok (.iload_n 2, 1) := by decide +kernel
theorem dX11_feed_27 : decode cX11_feed 27 = .ok (.invokevirtual 101, 3) := by decide +kernel
theorem dX11_feed_30 : decode cX11_feed 30 = .ok (.aload_n 0, 1) := by decide +kernel
theorem dX11_feed_31 : decode cX11_feed 31 = .ok (.getfield 10, 3) := by decide +kernel
theorem dX11_feed_34 : decode cX11_feed 34 = .ok (.iload_n 3, 1) := by decide +kernel
theorem dX11_feed_35 : decode cX11_feed 35 = .ok (.invokevirtual 101, 3) := by decide +kernel
theorem dX11_feed_38 : decode cX11_feed 38 = .ok (.aload_n 0, 1) := by decide +kernel
theorem dX11_feed_39 : decode cX11_feed 39 = .ok (.getfield 10, 3) := by decide +kernel
theorem dX11_feed_42 : decode cX11_feed 42 = .ok (.iload 4, 2) := by decide +kernel
theorem dX11_feed_44 : decode cX11_feed 44 = .ok (.invokevirtual 101, 3) := by decide +kernel
theorem dX11_feed_47 : decode cX11_feed 47 = .ok (.aload_n 0, 1) := by decide +kernel
theorem dX11_feed_48 : decode cX11_feed 48 = .ok (.getfield 10, 3) := by decide +kernel
theorem dX11_feed_51 : decode cX11_feed 51 = .ok (.iload 5, 2) := by decide +kernel
theorem dX11_feed_53 : decode cX11_feed 53 = .ok (.invokevirtual 101, 3) := by decide +kernel
theorem dX11_feed_56 : decode cX11_feed 56 = .ok (.aload_n 0, 1) := by decide +kernel
theorem dX11_feed_57 : decode cX11_feed 57 = .ok (.getfield 10, 3) := by decide +kernel
theorem dX11_feed_60 : decode cX11_feed 60 = .ok (.getfield 104, 3) := by decide +kernel
theorem dX11_feed_63 : decode cX11_feed 63 = .ok (.ireturn, 1) := by decide +kernel
theorem dX11_fits_0 : decode cX11_fits 0 = .ok (.aload_n 0, 1) := by decide +kernel
theorem dX11_fits_1 : decode cX11_fits 1 = .ok (.iload_n 1, 1) := by decide +kernel
theorem dX11_fits_2 : decode cX11_fits 2 = .ok (.invokevirtual 163, 3) := by decide +kernel
theorem dX11_fits_5 : decode cX11_fits 5 = .ok (.ifCond .eq 9, 3) := by decide +kernel
theorem dX11_fits_14 : decode cX11_fits 14 = .ok (.iconst 0, 1) := by decide +kernel
theorem dX11_fits_15 : decode cX11_fits 15 = .ok (.ireturn, 1) := by decide +kernel
theorem dX11_found_0 : decode cX11_found 0 = .ok (.aload_n 0, 1) := by decide +kernel
theorem dX11_found_1 : decode cX11_found 1 = .ok (.iload_n 1, 1) := by decide +kernel
theorem dX11_found_2 : decode cX11_found 2 = .ok (.invokevirtual 183, 3) := by decide +kernel
theorem dX11_found_5 : decode cX11_found 5 = .ok (.iload_n 2, 1) := by decide +kernel
theorem dX11_found_6 : decode cX11_found 6 = .ok (.iload_n 3, 1) := by decide +kernel
theorem dX11_found_7 : decode cX11_found 7 = .ok (.iconst 1, 1) := by decide +kernel
theorem dX11_found_8 : decode cX11_found 8 = .ok (.invokestatic 300, 3) := by decide +kernel
theorem dX11_found_11 : decode cX11_found 11 = .ok (.ireturn, 1) := by decide +kernel
theorem dX11_foundCascade_0 : decode cX11_foundCascade 0 = .ok (.aload_n 0, 1) := by decide +kernel
theorem dX11_foundCascade_1 : decode cX11_foundCascade 1 = .ok (.getfield 35, 3) := by decide +kernel
theorem dX11_foundCascade_4 : decode cX11_foundCascade 4 = .ok (.aload_n 0, 1) := by decide +kernel
theorem dX11_foundCascade_5 : decode cX11_foundCascade 5 = .ok (.invokevirtual 166, 3) := by decide +kernel
theorem dX11_foundCascade_8 : decode cX11_foundCascade 8 = .ok (.aload_n 0, 1) := by decide +kernel
theorem dX11_foundCascade_9 : decode cX11_foundCascade 9 = .ok (.getfield 60, 3) := by decide +kernel
theorem dX11_foundCascade_12 : decode cX11_foundCascade 12 = .ok (.getfield 257, 3) := by decide +kernel
theorem dX11_foundCascade_15 : decode cX11_foundCascade 15 = .ok (.invokevirtual 260, 3) := by decide +kernel
theorem dX11_foundCascade_18 : decode cX11_foundCascade 18 = .ok (.aload_n 0, 1) := by decide +kernel
theorem dX11_foundCascade_19 : decode cX11_foundCascade 19 = .ok (.getfield 60, 3) := by decide +kernel
theorem dX11_foundCascade_22 : decode cX11_foundCascade 22 = .ok (.aload_n 0, 1) := by decide +kernel
theorem dX11_foundCascade_23 : decode cX11_foundCascade 23 = .ok (.invokevirtual 166, 3) := by decide +kernel
theorem dX11_foundCascade_26 : decode cX11_foundCascade 26 = .ok (.iload_n 1, 1) := by decide +kernel
theorem dX11_foundCascade_27 : decode cX11_foundCascade 27 = .ok (.invokevirtual 307, 3) := by decide +kernel
theorem dX11_foundCascade_30 : decode cX11_foundCascade 30 = .ok (.aload_n 0, 1) := by decide +kernel
theorem dX11_foundCascade_31 : decode cX11_foundCascade 31 = .ok (.getfield 60, 3) := by decide +kernel
theorem dX11_foundCascade_34 : decode cX11_foundCascade 34 = .ok (.getfield 311, 3) := by decide +kernel
theorem dX11_foundCascade_37 : decode cX11_foundCascade 37 = .ok (.areturn, 1) := by decide +kernel
theorem dX11_gate_0 : decode cX11_gate 0 = .ok (.aload_n 0, 1) := by decide +kernel
theorem dX11_gate_1 : decode cX11_gate 1 = .ok (.getfield 35, 3) := by decide +kernel
theorem dX11_gate_4 : decode cX11_gate 4 = .ok (.iload_n 1, 1) := by decide +kernel
theorem dX11_gate_5 : decode cX11_gate 5 = .ok (.invokevirtual 170, 3) := by decide +kernel
theorem dX11_gate_8 : decode cX11_gate 8 = .ok (.ifCond .ne 5, 3) := by decide +kernel
theorem dX11_gate_11 : decode cX11_gate 11 = .ok (.iconst (-1), 1) := by decide +kernel
theorem dX11_gate_12 : decode cX11_gate 12 = .ok (.ireturn, 1) := by decide +kernel
theorem dX11_gatesThatAgree_0 : decode cX11_gatesThatAgree 0 = .ok (.iconst 0, 1) := by decide +kernel
theorem dX11_gatesThatAgree_1 : decode cX11_gatesThatAgree 1 = .ok (.istore_n 1, 1) := by decide +kernel
theorem dX11_gatesThatAgree_2 : decode cX11_gatesThatAgree 2 = .ok (.iconst 0, 1) := by decide +kernel
theorem dX11_gatesThatAgree_3 : decode cX11_gatesThatAgree 3 = .ok (.istore_n 2, 1) := by decide +kernel
theorem dX11_gatesThatAgree_4 : decode cX11_gatesThatAgree 4 = .ok (.iload_n 2, 1) := by decide +kernel
theorem dX11_gatesThatAgree_5 : decode cX11_gatesThatAgree 5 = .ok (.aload_n 0, 1) := by decide +kernel
theorem dX11_gatesThatAgree_6 : decode cX11_gatesThatAgree 6 = .ok (.getfield 35, 3) := by decide +kernel
theorem dX11_gatesThatAgree_9 : decode cX11_gatesThatAgree 9 = .ok (.getfield 142, 3) := by decide +kernel
theorem dX11_gatesThatAgree_12 : decode cX11_gatesThatAgree 12 = .ok (.if_icmp .ge 83, 3) := by decide +kernel
theorem dX11_gatesThatAgree_95 : decode cX11_gatesThatAgree 95 = .ok (.iload_n 1, 1) := by decide +kernel
theorem dX11_gatesThatAgree_96 : decode cX11_gatesThatAgree 96 = .ok (.ireturn, 1) := by decide +kernel
theorem dX11_hold_0 : decode cX11_hold 0 = .ok (.iload_n 1, 1) := by decide +kernel
theorem dX11_hold_1 : decode cX11_hold 1 = .ok (.invokestatic 203, 3) := by decide +kernel
theorem dX11_hold_4 : decode cX11_hold 4 = .ok (.ifCond .ne 5, 3) := by decide +kernel
theorem dX11_hold_7 : decode cX11_hold 7 = .ok (.iconst 0, 1) := by decide +kernel
theorem dX11_hold_8 : decode cX11_hold 8 = .ok (.ireturn, 1) := by decide +kernel
theorem dX11_hold_9 : decode cX11_hold 9 = .ok (.aload_n 0, 1) := by decide +kernel
theorem dX11_hold_10 : decode cX11_hold 10 = .ok (.getfield 42, 3) := by decide +kernel
theorem dX11_hold_13 : decode cX11_hold 13 = .ok (.iload_n 1, 1) := by decide +kernel
theorem dX11_hold_14 : decode cX11_hold 14 = .ok (.aaload, 1) := by decide +kernel
theorem dX11_hold_15 : decode cX11_hold 15 = .ok (.aload_n 0, 1) := by decide +kernel
theorem dX11_hold_16 : decode cX11_hold 16 = .ok (.getfield 35, 3) := by decide +kernel
theorem dX11_hold_19 : decode cX11_hold 19 = .ok (.invokevirtual 193, 3) := by decide +kernel
theorem dX11_hold_22 : decode cX11_hold 22 = .ok (.aload_n 0, 1) := by decide +kernel
theorem dX11_hold_23 : decode cX11_hold 23 = .ok (.getfield 46, 3) := by decide +kernel
theorem dX11_hold_26 : decode cX11_hold 26 = .ok (.iload_n 1, 1) := by decide +kernel
theorem dX11_hold_27 : decode cX11_hold 27 = .ok (.iconst 1, 1) := by decide +kernel
theorem dX11_hold_28 : decode cX11_hold 28 = .ok (.bastore, 1) := by decide +kernel
theorem dX11_hold_29 : decode cX11_hold 29 = .ok (.iconst 1, 1) := by decide +kernel
theorem dX11_hold_30 : decode cX11_hold 30 = .ok (.ireturn, 1) := by decide +kernel
theorem dX11_holds_0 : decode cX11_holds 0 = .ok (.iload_n 1, 1) := by decide +kernel
theorem dX11_holds_1 : decode cX11_holds 1 = .ok (.invokestatic 203, 3) := by decide +kernel
theorem dX11_holds_4 : decode cX11_holds 4 = .ok (.ifCond .eq 16, 3) := by decide +kernel
theorem dX11_holds_7 : decode cX11_holds 7 = .ok (.aload_n 0, 1) := by decide +kernel
theorem dX11_holds_8 : decode cX11_holds 8 = .ok (.getfield 46, 3) := by decide +kernel
theorem dX11_holds_11 : decode cX11_holds 11 = .ok (.iload_n 1, 1) := by decide +kernel
theorem dX11_holds_12 : decode cX11_holds 12 = .ok (.baload, 1) := by decide +kernel
theorem dX11_holds_13 : decode cX11_holds 13 = .ok (.ifCond .eq 7, 3) := by decide +kernel
theorem dX11_holds_20 : decode cX11_holds 20 = .ok (.iconst 0, 1) := by decide +kernel
theorem dX11_holds_21 : decode cX11_holds 21 = .ok (.ireturn, 1) := by decide +kernel
theorem dX11_idle_0 : decode cX11_idle 0 = .ok (.iload_n 1, 1) := by decide +kernel
theorem dX11_idle_1 : decode cX11_idle 1 = .ok (.ifCond .eq 10, 3) := by decide +kernel
theorem dX11_idle_4 : decode cX11_idle 4 = .ok (.iload_n 1, 1) := by decide +kernel
theorem dX11_idle_5 : decode cX11_idle 5 = .ok (.iconst 1, 1) := by decide +kernel
theorem dX11_idle_6 : decode cX11_idle 6 = .ok (.if_icmp .eq 5, 3) := by decide +kernel
theorem dX11_idle_9 : decode cX11_idle 9 = .ok (.iconst (-1), 1) := by decide +kernel
theorem dX11_idle_10 : decode cX11_idle 10 = .ok (.ireturn, 1) := by decide +kernel
theorem dX11_idle_11 : decode cX11_idle 11 = .ok (.iconst 1, 1) := by decide +kernel
theorem dX11_idle_12 : decode cX11_idle 12 = .ok (.istore_n 2, 1) := by decide +kernel
theorem dX11_idle_13 : decode cX11_idle 13 = .ok (.iload_n 2, 1) := by decide +kernel
theorem dX11_idle_14 : decode cX11_idle 14 = .ok (.aload_n 0, 1) := by decide +kernel
theorem dX11_idle_15 : decode cX11_idle 15 = .ok (.getfield 35, 3) := by decide +kernel
theorem dX11_idle_18 : decode cX11_idle 18 = .ok (.getfield 142, 3) := by decide +kernel
theorem dX11_idle_21 : decode cX11_idle 21 = .ok (.if_icmp .gt 62, 3) := by decide +kernel
theorem dX11_idle_83 : decode cX11_idle 83 = .ok (.bipush (-2), 2) := by decide +kernel
theorem dX11_idle_85 : decode cX11_idle 85 = .ok (.ireturn, 1) := by decide +kernel
theorem dX11_init_0 : decode cX11_init 0 = .ok (.aload_n 0, 1) := by decide +kernel
theorem dX11_init_1 : decode cX11_init 1 = .ok (.invokespecial 1, 3) := by decide +kernel
theorem dX11_init_4 : decode cX11_init 4 = .ok (.aload_n 0, 1) := by decide +kernel
theorem dX11_init_5 : decode cX11_init 5 = .ok (.new 7, 3) := by decide +kernel
theorem dX11_init_8 : decode cX11_init 8 = .ok (.dup, 1) := by decide +kernel
theorem dX11_init_9 : decode cX11_init 9 = .ok (.invokespecial 9, 3) := by decide +kernel
theorem dX11_init_12 : decode cX11_init 12 = .ok (.putfield 10, 3) := by decide +kernel
theorem dX11_init_15 : decode cX11_init 15 = .ok (.aload_n 0, 1) := by decide +kernel
theorem dX11_init_16 : decode cX11_init 16 = .ok (.new 16, 3) := by decide +kernel
theorem dX11_init_19 : decode cX11_init 19 = .ok (.dup, 1) := by decide +kernel
theorem dX11_init_20 : decode cX11_init 20 = .ok (.invokespecial 18, 3) := by decide +kernel
theorem dX11_init_23 : decode cX11_init 23 = .ok (.putfield 19, 3) := by decide +kernel
theorem dX11_init_26 : decode cX11_init 26 = .ok (.aload_n 0, 1) := by decide +kernel
theorem dX11_init_27 : decode cX11_init 27 = .ok (.new 23, 3) := by decide +kernel
theorem dX11_init_30 : decode cX11_init 30 = .ok (.dup, 1) := by decide +kernel
theorem dX11_init_31 : decode cX11_init 31 = .ok (.invokespecial 25, 3) := by decide +kernel
theorem dX11_init_34 : decode cX11_init 34 = .ok (.putfield 26, 3) := by decide +kernel
theorem dX11_init_37 : decode cX11_init 37 = .ok (.aload_n 0, 1) := by decide +kernel
theorem dX11_init_38 : decode cX11_init 38 = .ok (.new 30, 3) := by decide +kernel
theorem dX11_init_41 : decode cX11_init 41 = .ok (.dup, 1) := by decide +kernel
theorem dX11_init_42 : decode cX11_init 42 = .ok (.bipush 16, 2) := by decide +kernel
theorem dX11_init_44 : decode cX11_init 44 = .ok (.invokespecial 32, 3) := by decide +kernel
theorem dX11_init_47 : decode cX11_init 47 = .ok (.putfield 35, 3) := by decide +kernel
theorem dX11_init_50 : decode cX11_init 50 = .ok (.aload_n 0, 1) := by decide +kernel
theorem dX11_init_51 : decode cX11_init 51 = .ok (.new 30, 3) := by decide +kernel
theorem dX11_init_54 : decode cX11_init 54 = .ok (.dup, 1) := by decide +kernel
theorem dX11_init_55 : decode cX11_init 55 = .ok (.bipush 16, 2) := by decide +kernel
theorem dX11_init_57 : decode cX11_init 57 = .ok (.invokespecial 32, 3) := by decide +kernel
theorem dX11_init_60 : decode cX11_init 60 = .ok (.putfield 39, 3) := by decide +kernel
theorem dX11_init_63 : decode cX11_init 63 = .ok (.aload_n 0, 1) := by decide +kernel
theorem dX11_init_64 : decode cX11_init 64 = .ok (.iconst 3, 1) := by decide +kernel
theorem dX11_init_65 : decode cX11_init 65 = .ok (.anewarray 30, 3) := by decide +kernel
theorem dX11_init_68 : decode cX11_init 68 = .ok (.putfield 42, 3) := by decide +kernel
theorem dX11_init_71 : decode cX11_init 71 = .ok (.aload_n 0, 1) := by decide +kernel
theorem dX11_init_72 : decode cX11_init 72 = .ok (.iconst 3, 1) := by decide +kernel
theorem dX11_init_73 : decode cX11_init 73 = .ok (.newarray .boolean, 2) := by decide +kernel
theorem dX11_init_75 : decode cX11_init 75 = .ok (.putfield 46, 3) := by decide +kernel
theorem dX11_init_78 : decode cX11_init 78 = .ok (.aload_n 0, 1) := by decide +kernel
theorem dX11_init_79 : decode cX11_init 79 = .ok (.new 50, 3) := by decide +kernel
theorem dX11_init_82 : decode cX11_init 82 = .ok (.dup, 1) := by decide +kernel
theorem dX11_init_83 : decode cX11_init 83 = .ok (.invokespecial 52, 3) := by decide +kernel
theorem dX11_init_86 : decode cX11_init 86 = .ok (.putfield 53, 3) := by decide +kernel
theorem dX11_init_89 : decode cX11_init 89 = .ok (.aload_n 0, 1) := by decide +kernel
theorem dX11_init_90 : decode cX11_init 90 = .ok (.new 57, 3) := by decide +kernel
theorem dX11_init_93 : decode cX11_init 93 = .ok (.dup, 1) := by decide +kernel
theorem dX11_init_94 : decode cX11_init 94 = .ok (.invokespecial 59, 3) := by decide +kernel
theorem dX11_init_97 : decode cX11_init 97 = .ok (.putfield 60, 3) := by decide +kernel
theorem dX11_init_100 : decode cX11_init 100 = .ok (.aload_n 0, 1) := by decide +kernel
theorem dX11_init_101 : decode cX11_init 101 = .ok (.new 64, 3) := by decide +kernel
theorem dX11_init_104 : decode cX11_init 104 = .ok (.dup, 1) := by decide +kernel
theorem dX11_init_105 : decode cX11_init 105 = .ok (.invokespecial 66, 3) := by decide +kernel
theorem dX11_init_108 : decode cX11_init 108 = .ok (.putfield 67, 3) := by decide +kernel
theorem dX11_init_111 : decode cX11_init 111 = .ok (.aload_n 0, 1) := by decide +kernel
theorem dX11_init_112 : decode cX11_init 112 = .ok (.new 71, 3) := by decide +kernel
theorem dX11_init_115 : decode cX11_init 115 = .ok (.dup, 1) := by decide +kernel
theorem dX11_init_116 : decode cX11_init 116 = .ok (.invokespecial 73, 3) := by decide +kernel
theorem dX11_init_119 : decode cX11_init 119 = .ok (.putfield 74, 3) := by decide +kernel
theorem dX11_init_122 : decode cX11_init 122 = .ok (.aload_n 0, 1) := by decide +kernel
theorem dX11_init_123 : decode cX11_init 123 = .ok (.getstatic 78, 3) := by decide +kernel
theorem dX11_init_126 : decode cX11_init 126 = .ok (.invokevirtual 82, 3) := by decide +kernel
theorem dX11_init_129 : decode cX11_init 129 = .ok (.checkcast 83, 3) := by decide +kernel
theorem dX11_init_132 : decode cX11_init 132 = .ok (.putfield 87, 3) := by decide +kernel
theorem dX11_init_135 : decode cX11_init 135 = .ok (.aload_n 0, 1) := by decide +kernel
theorem dX11_init_136 : decode cX11_init 136 = .ok (.bipush 16, 2) := by decide +kernel
theorem dX11_init_138 : decode cX11_init 138 = .ok (.newarray .int, 2) := by decide +kernel
theorem dX11_init_140 : decode cX11_init 140 = .ok (.putfield 90, 3) := by decide +kernel
theorem dX11_init_143 : decode cX11_init 143 = .ok (.aload_n 0, 1) := by decide +kernel
theorem dX11_init_144 : decode cX11_init 144 = .ok (.iconst (-1), 1) := by decide +kernel
theorem dX11_init_145 : decode cX11_init 145 = .ok (.putfield 93, 3) := by decide +kernel
theorem dX11_init_148 : decode cX11_init 148 = .ok (.iconst 0, 1) := by decide +kernel
theorem dX11_init_149 : decode cX11_init 149 = .ok (.istore_n 1, 1) := by decide +kernel
theorem dX11_init_150 : decode cX11_init 150 = .ok (.iload_n 1, 1) := by decide +kernel
theorem dX11_init_151 : decode cX11_init 151 = .ok (.iconst 3, 1) := by decide +kernel
theorem dX11_init_152 : decode cX11_init 152 = .ok (.if_icmp .ge 24, 3) := by decide +kernel
theorem dX11_init_155 : decode cX11_init 155 = .ok (.aload_n 0, 1) := by decide +kernel
theorem dX11_init_156 : decode cX11_init 156 = .ok (.getfield 42, 3) := by decide +kernel
theorem dX11_init_159 : decode cX11_init 159 = .ok (.iload_n 1, 1) := by decide +kernel
theorem dX11_init_160 : decode cX11_init 160 = .ok (.new 30, 3) := by decide +kernel
theorem dX11_init_163 : decode cX11_init 163 = .ok (.dup, 1) := by decide +kernel
theorem dX11_init_164 : decode cX11_init 164 = .ok (.bipush 16, 2) := by decide +kernel
theorem dX11_init_166 : decode cX11_init 166 = .ok (.invokespecial 32, 3) := by decide +kernel
theorem dX11_init_169 : decode cX11_init 169 = .ok (.aastore, 1) := by decide +kernel
theorem dX11_init_170 : decode cX11_init 170 = .ok (.iinc 1 1, 3) := by decide +kernel
theorem dX11_init_173 : decode cX11_init 173 = .ok (.goto (-23), 3) := by decide +kernel
theorem dX11_init_176 : decode cX11_init 176 = .ok (.return_, 1) := by decide +kernel
theorem dX11_isRow_0 : decode cX11_isRow 0 = .ok (.iload_n 1, 1) := by decide +kernel
theorem dX11_isRow_1 : decode cX11_isRow 1 = .ok (.ifCond .lt 15, 3) := by decide +kernel
theorem dX11_isRow_4 : decode cX11_isRow 4 = .ok (.iload_n 1, 1) := by decide +kernel
theorem dX11_isRow_5 : decode cX11_isRow 5 = .ok (.aload_n 0, 1) := by decide +kernel
theorem dX11_isRow_6 : decode cX11_isRow 6 = .ok (.invokevirtual 166, 3) := by decide +kernel
theorem dX11_isRow_9 : decode cX11_isRow 9 = .ok (.if_icmp .ge 7, 3) := by decide +kernel
theorem dX11_isRow_12 : decode cX11_isRow 12 = .ok (.iconst 1, 1) := by decide +kernel
theorem dX11_isRow_13 : decode cX11_isRow 13 = .ok (.goto 4, 3) := by decide +kernel
theorem dX11_isRow_16 : decode cX11_isRow 16 = .ok (.iconst 0, 1) := by decide +kernel
theorem dX11_isRow_17 : decode cX11_isRow 17 = .ok (.ireturn, 1) := by decide +kernel
theorem dX11_isSlot_0 : decode cX11_isSlot 0 = .ok (.iload_n 0, 1) := by decide +kernel
theorem dX11_isSlot_1 : decode cX11_isSlot 1 = .ok (.ifCond .lt 12, 3) := by decide +kernel
theorem dX11_isSlot_4 : decode cX11_isSlot 4 = .ok (.iload_n 0, 1) := by decide +kernel
theorem dX11_isSlot_5 : decode cX11_isSlot 5 = .ok (.iconst 3, 1) := by decide +kernel
theorem dX11_isSlot_6 : decode cX11_isSlot 6 = .ok (.if_icmp .ge 7, 3) := by decide +kernel
theorem dX11_isSlot_9 : decode cX11_isSlot 9 = .ok (.iconst 1, 1) := by decide +kernel
theorem dX11_isSlot_10 : decode cX11_isSlot 10 = .ok (.goto 4, 3) := by decide +kernel
theorem dX11_isSlot_13 : decode cX11_isSlot 13 = .ok (.iconst 0, 1) := by decide +kernel
theorem dX11_isSlot_14 : decode cX11_isSlot 14 = .ok (.ireturn, 1) := by decide +kernel
theorem dX11_isWire_0 : decode cX11_isWire 0 = .ok (.iload_n 1, 1) := by decide +kernel
theorem dX11_isWire_1 : decode cX11_isWire 1 = .ok (.ifCond .lt 15, 3) := by decide +kernel
theorem dX11_isWire_4 : decode cX11_isWire 4 = .ok (.iload_n 1, 1) := by decide +kernel
theorem dX11_isWire_5 : decode cX11_isWire 5 = .ok (.aload_n 0, 1) := by decide +kernel
theorem dX11_isWire_6 : decode cX11_isWire 6 = .ok (.getfield 120, 3) := by decide +kernel
theorem dX11_isWire_9 : decode cX11_isWire 9 = .ok (.if_icmp .ge 7, 3) := by decide +kernel
theorem dX11_isWire_16 : decode cX11_isWire 16 = .ok (.iconst 0, 1) := by decide +kernel
theorem dX11_isWire_17 : decode cX11_isWire 17 = .ok (.ireturn, 1) := by decide +kernel
theorem dX11_laid_0 : decode cX11_laid 0 = .ok (.aload_n 0, 1) := by decide +kernel
theorem dX11_laid_1 : decode cX11_laid 1 = .ok (.getfield 74, 3) := by decide +kernel
theorem dX11_laid_4 : decode cX11_laid 4 = .ok (.getfield 339, 3) := by decide +kernel
theorem dX11_laid_7 : decode cX11_laid 7 = .ok (.ifCond .eq 20, 3) := by decide +kernel
theorem dX11_laid_27 : decode cX11_laid 27 = .ok (.iconst (-1), 1) := by decide +kernel
theorem dX11_laid_28 : decode cX11_laid 28 = .ok (.ireturn, 1) := by decide +kernel
theorem dX11_least_0 : decode cX11_least 0 = .ok (.aload_n 0, 1) := by decide +kernel
theorem dX11_least_1 : decode cX11_least 1 = .ok (.invokevirtual 190, 3) := by decide +kernel
theorem dX11_least_4 : decode cX11_least 4 = .ok (.iload_n 1, 1) := by decide +kernel
theorem dX11_least_5 : decode cX11_least 5 = .ok (.iload_n 2, 1) := by decide +kernel
theorem dX11_least_6 : decode cX11_least 6 = .ok (.iconst 1, 1) := by decide +kernel
theorem dX11_least_7 : decode cX11_least 7 = .ok (.invokestatic 300, 3) := by decide +kernel
theorem dX11_least_10 : decode cX11_least 10 = .ok (.ireturn, 1) := by decide +kernel
theorem dX11_leastCascade_0 : decode cX11_leastCascade 0 = .ok (.aload_n 0, 1) := by decide +kernel
theorem dX11_leastCascade_1 : decode cX11_leastCascade 1 = .ok (.getfield 120, 3) := by decide +kernel
theorem dX11_leastCascade_4 : decode cX11_leastCascade 4 = .ok (.iconst 3, 1) := by decide +kernel
theorem dX11_leastCascade_5 : decode cX11_leastCascade 5 = .ok (.if_icmp .le 5, 3) := by decide +kernel
theorem dX11_leastCascade_10 : decode cX11_leastCascade 10 = .ok (.aload_n 0, 1) := by decide +kernel
theorem dX11_leastCascade_11 : decode cX11_leastCascade 11 = .ok (.getfield 35, 3) := by decide +kernel
theorem dX11_leastCascade_14 : decode cX11_leastCascade 14 = .ok (.aload_n 0, 1) := by decide +kernel
theorem dX11_leastCascade_15 : decode cX11_leastCascade 15 = .ok (.invokevirtual 166, 3) := by decide +kernel
theorem dX11_leastCascade_18 : decode cX11_leastCascade 18 = .ok (.aload_n 0, 1) := by decide +kernel
theorem dX11_leastCascade_19 : decode cX11_leastCascade 19 = .ok (.getfield 60, 3) := by decide +kernel
theorem dX11_leastCascade_22 : decode cX11_leastCascade 22 = .ok (.getfield 257, 3) := by decide +kernel
theorem dX11_leastCascade_25 : decode cX11_leastCascade 25 = .ok (.invokevirtual 260, 3) := by decide +kernel
theorem dX11_leastCascade_28 : decode cX11_leastCascade 28 = .ok (.aload_n 0, 1) := by decide +kernel
theorem dX11_leastCascade_29 : decode cX11_leastCascade 29 = .ok (.invokevirtual 314, 3) := by decide +kernel
theorem dX11_leastCascade_32 : decode cX11_leastCascade 32 = .ok (.areturn, 1) := by decide +kernel
theorem dX11_leastForImages_0 : decode cX11_leastForImages 0 = .ok (.aload_n 0, 1) := by decide +kernel
theorem dX11_leastForImages_1 : decode cX11_leastForImages 1 = .ok (.getfield 317, 3) := by decide +kernel
theorem dX11_leastForImages_4 : decode cX11_leastForImages 4 = .ok (.ifnonnull 14, 3) := by decide +kernel
theorem dX11_leastForImages_7 : decode cX11_leastForImages 7 = .ok (.aload_n 0, 1) := by decide +kernel
theorem dX11_leastForImages_8 : decode cX11_leastForImages 8 = .ok (.new 312, 3) := by decide +kernel
theorem dX11_leastForImages_11 : decode cX11_leastForImages 11 = .ok (.dup, 1) := by decide +kernel
theorem dX11_leastForImages_12 : decode cX11_leastForImages 12 = .ok (.invokespecial 321, 3) := by decide +kernel
theorem dX11_leastForImages_15 : decode cX11_leastForImages 15 = .ok (.putfield 317, 3) := by decide +kernel
theorem dX11_leastForImages_18 : decode cX11_leastForImages 18 = .ok (.aload_n 0, 1) := by decide +kernel
theorem dX11_leastForImages_19 : decode cX11_leastForImages 19 = .ok (.getfield 317, 3) := by decide +kernel
theorem dX11_leastForImages_22 : decode cX11_leastForImages 22 = .ok (.aload_n 0, 1) := by decide +kernel
theorem dX11_leastForImages_23 : decode cX11_leastForImages 23 = .ok (.getfield 120, 3) := by decide +kernel
theorem dX11_leastForImages_26 : decode cX11_leastForImages 26 = .ok (.aload_n 0, 1) := by decide +kernel
theorem dX11_leastForImages_27 : decode cX11_leastForImages 27 = .ok (.getfield 60, 3) := by decide +kernel
theorem dX11_leastForImages_30 : decode cX11_leastForImages 30 = .ok (.getfield 257, 3) := by decide +kernel
theorem dX11_leastForImages_33 : decode cX11_leastForImages 33 = .ok (.invokevirtual 322, 3) := by decide +kernel
theorem dX11_leastForImages_36 : decode cX11_leastForImages 36 = .ok (.aload_n 0, 1) := by decide +kernel
theorem dX11_leastForImages_37 : decode cX11_leastForImages 37 = .ok (.getfield 317, 3) := by decide +kernel
theorem dX11_leastForImages_40 : decode cX11_leastForImages 40 = .ok (.getfield 325, 3) := by decide +kernel
theorem dX11_leastForImages_43 : decode cX11_leastForImages 43 = .ok (.areturn, 1) := by decide +kernel
theorem dX11_like_0 : decode cX11_like 0 = .ok (.aload_n 0, 1) := by decide +kernel
theorem dX11_like_1 : decode cX11_like 1 = .ok (.iload_n 1, 1) := by decide +kernel
theorem dX11_like_2 : decode cX11_like 2 = .ok (.invokevirtual 206, 3) := by decide +kernel
theorem dX11_like_5 : decode cX11_like 5 = .ok (.ifCond .ne 5, 3) := by decide +kernel
theorem dX11_like_8 : decode cX11_like 8 = .ok (.iconst (-1), 1) := by decide +kernel
theorem dX11_like_9 : decode cX11_like 9 = .ok (.ireturn, 1) := by decide +kernel
theorem dX11_made_0 : decode cX11_made 0 = .ok (.aload_n 0, 1) := by decide +kernel
theorem dX11_made_1 : decode cX11_made 1 = .ok (.iload_n 1, 1) := by decide +kernel
theorem dX11_made_2 : decode cX11_made 2 = .ok (.invokevirtual 248, 3) := by decide +kernel
theorem dX11_made_5 : decode cX11_made 5 = .ok (.ifCond .eq 18, 3) := by decide +kernel
theorem dX11_made_8 : decode cX11_made 8 = .ok (.iload_n 2, 1) := by decide +kernel
theorem dX11_made_9 : decode cX11_made 9 = .ok (.ifCond .lt 14, 3) := by decide +kernel
theorem dX11_made_12 : decode cX11_made 12 = .ok (.iload_n 2, 1) := by decide +kernel
theorem dX11_made_13 : decode cX11_made 13 = .ok (.aload_n 0, 1) := by decide +kernel
theorem dX11_made_14 : decode cX11_made 14 = .ok (.getfield 35, 3) := by decide +kernel
theorem dX11_made_17 : decode cX11_made 17 = .ok (.getfield 142, 3) := by decide +kernel
theorem dX11_made_20 : decode cX11_made 20 = .ok (.if_icmp .le 5, 3) := by decide +kernel
theorem dX11_made_23 : decode cX11_made 23 = .ok (.iconst (-1), 1) := by decide +kernel
theorem dX11_made_24 : decode cX11_made 24 = .ok (.ireturn, 1) := by decide +kernel
theorem dX11_made_25 : decode cX11_made 25 = .ok (.aload_n 0, 1) := by decide +kernel
theorem dX11_made_26 : decode cX11_made 26 = .ok (.getfield 35, 3) := by decide +kernel
theorem dX11_made_29 : decode cX11_made 29 = .ok (.iload_n 1, 1) := by decide +kernel
theorem dX11_made_30 : decode cX11_made 30 = .ok (.iconst 0, 1) := by decide +kernel
theorem dX11_made_31 : decode cX11_made 31 = .ok (.iload_n 2, 1) := by decide +kernel
theorem dX11_made_32 : decode cX11_made 32 = .ok (.invokevirtual 251, 3) := by decide +kernel
theorem dX11_made_35 : decode cX11_made 35 = .ok (.ireturn, 1) := by decide +kernel
theorem dX11_off_0 : decode cX11_off 0 = .ok (.aload_n 0, 1) := by decide +kernel
theorem dX11_off_1 : decode cX11_off 1 = .ok (.iload_n 1, 1) := by decide +kernel
theorem dX11_off_2 : decode cX11_off 2 = .ok (.invokevirtual 206, 3) := by decide +kernel
theorem dX11_off_5 : decode cX11_off 5 = .ok (.ifCond .eq 11, 3) := by decide +kernel
theorem dX11_off_16 : decode cX11_off 16 = .ok (.iconst (-1), 1) := by decide +kernel
theorem dX11_off_17 : decode cX11_off 17 = .ok (.ireturn, 1) := by decide +kernel
theorem dX11_order_0 : decode cX11_order 0 = .ok (.aload_n 0, 1) := by decide +kernel
theorem dX11_order_1 : decode cX11_order 1 = .ok (.getfield 60, 3) := by decide +kernel
theorem dX11_order_4 : decode cX11_order 4 = .ok (.getfield 257, 3) := by decide +kernel
theorem dX11_order_7 : decode cX11_order 7 = .ok (.astore_n 2, 1) := by decide +kernel
theorem dX11_order_8 : decode cX11_order 8 = .ok (.aload_n 0, 1) := by decide +kernel
theorem dX11_order_9 : decode cX11_order 9 = .ok (.getfield 35, 3) := by decide +kernel
theorem dX11_order_12 : decode cX11_order 12 = .ok (.aload_n 0, 1) := by decide +kernel
theorem dX11_order_13 : decode cX11_order 13 = .ok (.invokevirtual 166, 3) := by decide +kernel
theorem dX11_order_16 : decode cX11_order 16 = .ok (.aload_n 2, 1) := by decide +kernel
theorem dX11_order_17 : decode cX11_order 17 = .ok (.invokevirtual 260, 3) := by decide +kernel
theorem dX11_order_20 : decode cX11_order 20 = .ok (.iload_n 1, 1) := by decide +kernel
theorem dX11_order_21 : decode cX11_order 21 = .ok (.tableswitch 95 0 4 #[35, 44, 53, 62, 86], 35) := by decide +kernel
theorem dX11_order_56 : decode cX11_order 56 = .ok (.aload_n 2, 1) := by decide +kernel
theorem dX11_order_57 : decode cX11_order 57 = .ok (.aload_n 0, 1) := by decide +kernel
theorem dX11_order_58 : decode cX11_order 58 = .ok (.invokevirtual 166, 3) := by decide +kernel
theorem dX11_order_61 : decode cX11_order 61 = .ok (.invokestatic 264, 3) := by decide +kernel
theorem dX11_order_64 : decode cX11_order 64 = .ok (.ireturn, 1) := by decide +kernel
theorem dX11_order_65 : decode cX11_order 65 = .ok (.aload_n 2, 1) := by decide +kernel
theorem dX11_order_66 : decode cX11_order 66 = .ok (.aload_n 0, 1) := by decide +kernel
theorem dX11_order_67 : decode cX11_order 67 = .ok (.invokevirtual 166, 3) := by decide +kernel
theorem dX11_order_70 : decode cX11_order 70 = .ok (.invokestatic 270, 3) := by decide +kernel
theorem dX11_order_73 : decode cX11_order 73 = .ok (.ireturn, 1) := by decide +kernel
theorem dX11_order_74 : decode cX11_order 74 = .ok (.aload_n 2, 1) := by decide +kernel
theorem dX11_order_75 : decode cX11_order 75 = .ok (.aload_n 0, 1) := by decide +kernel
theorem dX11_order_76 : decode cX11_order 76 = .ok (.invokevirtual 166, 3) := by decide +kernel
theorem dX11_order_79 : decode cX11_order 79 = .ok (.invokestatic 273, 3) := by decide +kernel
theorem dX11_order_82 : decode cX11_order 82 = .ok (.ireturn, 1) := by decide +kernel
theorem dX11_order_83 : decode cX11_order 83 = .ok (.aload_n 0, 1) := by decide +kernel
theorem dX11_order_84 : decode cX11_order 84 = .ok (.invokevirtual 166, 3) := by decide +kernel
theorem dX11_order_87 : decode cX11_order 87 = .ok (.aload_n 2, 1) := by decide +kernel
theorem dX11_order_88 : decode cX11_order 88 = .ok (.aload_n 0, 1) := by decide +kernel
theorem dX11_order_89 : decode cX11_order 89 = .ok (.invokevirtual 166, 3) := by decide +kernel
theorem dX11_order_92 : decode cX11_order 92 = .ok (.invokestatic 264, 3) := by decide +kernel
theorem dX11_order_95 : decode cX11_order 95 = .ok (.isub, 1) := by decide +kernel
theorem dX11_order_96 : decode cX11_order 96 = .ok (.iconst 2, 1) := by decide +kernel
theorem dX11_order_97 : decode cX11_order 97 = .ok (.irem, 1) := by decide +kernel
theorem dX11_order_98 : decode cX11_order 98 = .ok (.ifCond .ne 7, 3) := by decide +kernel
theorem dX11_order_101 : decode cX11_order 101 = .ok (.iconst 1, 1) := by decide +kernel
theorem dX11_order_102 : decode cX11_order 102 = .ok (.goto 4, 3) := by decide +kernel
theorem dX11_order_106 : decode cX11_order 106 = .ok (.ireturn, 1) := by decide +kernel
theorem dX11_order_107 : decode cX11_order 107 = .ok (.aload_n 2, 1) := by decide +kernel
theorem dX11_order_108 : decode cX11_order 108 = .ok (.aload_n 0, 1) := by decide +kernel
theorem dX11_order_109 : decode cX11_order 109 = .ok (.invokevirtual 166, 3) := by decide +kernel
theorem dX11_order_112 : decode cX11_order 112 = .ok (.invokestatic 276, 3) := by decide +kernel
theorem dX11_order_115 : decode cX11_order 115 = .ok (.ireturn, 1) := by decide +kernel
theorem dX11_order_116 : decode cX11_order 116 = .ok (.iconst (-1), 1) := by decide +kernel
theorem dX11_order_117 : decode cX11_order 117 = .ok (.ireturn, 1) := by decide +kernel
theorem dX11_place_0 : decode cX11_place 0 = .ok (.aload_n 0, 1) := by decide +kernel
theorem dX11_place_1 : decode cX11_place 1 = .ok (.getfield 93, 3) := by decide +kernel
theorem dX11_place_4 : decode cX11_place 4 = .ok (.ireturn, 1) := by decide +kernel
theorem dX11_put_0 : decode cX11_put 0 = .ok (.aload_n 0, 1) := by decide +kernel
theorem dX11_put_1 : decode cX11_put 1 = .ok (.getfield 35, 3) := by decide +kernel
theorem dX11_put_4 : decode cX11_put 4 = .ok (.getfield 142, 3) := by decide +kernel
theorem dX11_put_7 : decode cX11_put 7 = .ok (.bipush 16, 2) := by decide +kernel
theorem dX11_put_9 : decode cX11_put 9 = .ok (.if_icmp .ge 29, 3) := by decide +kernel
theorem dX11_put_12 : decode cX11_put 12 = .ok (.iload_n 1, 1) := by decide +kernel
theorem dX11_put_13 : decode cX11_put 13 = .ok (.ifCond .lt 25, 3) := by decide +kernel
theorem dX11_put_16 : decode cX11_put 16 = .ok (.iload_n 1, 1) := by decide +kernel
theorem dX11_put_17 : decode cX11_put 17 = .ok (.aload_n 0, 1) := by decide +kernel
theorem dX11_put_18 : decode cX11_put 18 = .ok (.getfield 35, 3) := by decide +kernel
theorem dX11_put_21 : decode cX11_put 21 = .ok (.getfield 142, 3) := by decide +kernel
theorem dX11_put_24 : decode cX11_put 24 = .ok (.if_icmp .gt 14, 3) := by decide +kernel
theorem dX11_put_27 : decode cX11_put 27 = .ok (.aload_n 0, 1) := by decide +kernel
theorem dX11_put_28 : decode cX11_put 28 = .ok (.iload_n 2, 1) := by decide +kernel
theorem dX11_put_29 : decode cX11_put 29 = .ok (.iload_n 3, 1) := by decide +kernel
theorem dX11_put_30 : decode cX11_put 30 = .ok (.iload 4, 2) := by decide +kernel
theorem dX11_put_32 : decode cX11_put 32 = .ok (.invokevirtual 145, 3) := by decide +kernel
theorem dX11_put_35 : decode cX11_put 35 = .ok (.ifCond .ne 5, 3) := by decide +kernel
theorem dX11_put_38 : decode cX11_put 38 = .ok (.iconst 0, 1) := by decide +kernel
theorem dX11_put_39 : decode cX11_put 39 = .ok (.ireturn, 1) := by decide +kernel
theorem dX11_read_0 : decode cX11_read 0 = .ok (.aload_n 0, 1) := by decide +kernel
theorem dX11_read_1 : decode cX11_read 1 = .ok (.getfield 19, 3) := by decide +kernel
theorem dX11_read_4 : decode cX11_read 4 = .ok (.aload_n 0, 1) := by decide +kernel
theorem dX11_read_5 : decode cX11_read 5 = .ok (.getfield 10, 3) := by decide +kernel
theorem dX11_read_8 : decode cX11_read 8 = .ok (.invokevirtual 107, 3) := by decide +kernel
theorem dX11_read_11 : decode cX11_read 11 = .ok (.istore_n 1, 1) := by decide +kernel
theorem dX11_read_12 : decode cX11_read 12 = .ok (.aload_n 0, 1) := by decide +kernel
theorem dX11_read_13 : decode cX11_read 13 = .ok (.aload_n 0, 1) := by decide +kernel
theorem dX11_read_14 : decode cX11_read 14 = .ok (.getfield 19, 3) := by decide +kernel
theorem dX11_read_17 : decode cX11_read 17 = .ok (.getfield 111, 3) := by decide +kernel
theorem dX11_read_20 : decode cX11_read 20 = .ok (.putfield 93, 3) := by decide +kernel
theorem dX11_read_23 : decode cX11_read 23 = .ok (.iload_n 1, 1) := by decide +kernel
theorem dX11_read_24 : decode cX11_read 24 = .ok (.ifCond .ne 26, 3) := by decide +kernel
theorem dX11_read_27 : decode cX11_read 27 = .ok (.aload_n 0, 1) := by decide +kernel
theorem dX11_read_28 : decode cX11_read 28 = .ok (.getfield 26, 3) := by decide +kernel
theorem dX11_read_31 : decode cX11_read 31 = .ok (.aload_n 0, 1) := by decide +kernel
theorem dX11_read_32 : decode cX11_read 32 = .ok (.getfield 10, 3) := by decide +kernel
theorem dX11_read_35 : decode cX11_read 35 = .ok (.invokevirtual 112, 3) := by decide +kernel
theorem dX11_read_38 : decode cX11_read 38 = .ok (.istore_n 1, 1) := by decide +kernel
theorem dX11_read_39 : decode cX11_read 39 = .ok (.aload_n 0, 1) := by decide +kernel
theorem dX11_read_40 : decode cX11_read 40 = .ok (.aload_n 0, 1) := by decide +kernel
theorem dX11_read_41 : decode cX11_read 41 = .ok (.getfield 26, 3) := by decide +kernel
theorem dX11_read_44 : decode cX11_read 44 = .ok (.getfield 113, 3) := by decide +kernel
theorem dX11_read_47 : decode cX11_read 47 = .ok (.putfield 93, 3) := by decide +kernel
theorem dX11_read_50 : decode cX11_read 50 = .ok (.aload_n 0, 1) := by decide +kernel
theorem dX11_read_51 : decode cX11_read 51 = .ok (.getfield 10, 3) := by decide +kernel
theorem dX11_read_54 : decode cX11_read 54 = .ok (.iconst 0, 1) := by decide +kernel
theorem dX11_read_55 : decode cX11_read 55 = .ok (.putfield 104, 3) := by decide +kernel
theorem dX11_read_58 : decode cX11_read 58 = .ok (.iload_n 1, 1) := by decide +kernel
theorem dX11_read_59 : decode cX11_read 59 = .ok (.ifCond .ne 7, 3) := by decide +kernel
theorem dX11_read_62 : decode cX11_read 62 = .ok (.aload_n 0, 1) := by decide +kernel
theorem dX11_read_63 : decode cX11_read 63 = .ok (.invokevirtual 114, 3) := by decide +kernel
theorem dX11_read_66 : decode cX11_read 66 = .ok (.iload_n 1, 1) := by decide +kernel
theorem dX11_read_67 : decode cX11_read 67 = .ok (.ireturn, 1) := by decide +kernel
theorem dX11_restore_0 : decode cX11_restore 0 = .ok (.aload_n 0, 1) := by decide +kernel
theorem dX11_restore_1 : decode cX11_restore 1 = .ok (.iload_n 1, 1) := by decide +kernel
theorem dX11_restore_2 : decode cX11_restore 2 = .ok (.invokevirtual 206, 3) := by decide +kernel
theorem dX11_restore_5 : decode cX11_restore 5 = .ok (.ifCond .ne 5, 3) := by decide +kernel
theorem dX11_restore_8 : decode cX11_restore 8 = .ok (.iconst 0, 1) := by decide +kernel
theorem dX11_restore_9 : decode cX11_restore 9 = .ok (.ireturn, 1) := by decide +kernel
theorem dX11_rows_0 : decode cX11_rows 0 = .ok (.iconst 1, 1) := by decide +kernel
theorem dX11_rows_1 : decode cX11_rows 1 = .ok (.aload_n 0, 1) := by decide +kernel
theorem dX11_rows_2 : decode cX11_rows 2 = .ok (.getfield 120, 3) := by decide +kernel
theorem dX11_rows_5 : decode cX11_rows 5 = .ok (.ishl, 1) := by decide +kernel
theorem dX11_rows_6 : decode cX11_rows 6 = .ok (.ireturn, 1) := by decide +kernel
theorem dX11_setLevels_0 : decode cX11_setLevels 0 = .ok (.iconst 0, 1) := by decide +kernel
theorem dX11_setLevels_1 : decode cX11_setLevels 1 = .ok (.istore_n 1, 1) := by decide +kernel
theorem dX11_setLevels_2 : decode cX11_setLevels 2 = .ok (.iconst 0, 1) := by decide +kernel
theorem dX11_setLevels_3 : decode cX11_setLevels 3 = .ok (.istore_n 2, 1) := by decide +kernel
theorem dX11_setLevels_4 : decode cX11_setLevels 4 = .ok (.iload_n 2, 1) := by decide +kernel
theorem dX11_setLevels_5 : decode cX11_setLevels 5 = .ok (.aload_n 0, 1) := by decide +kernel
theorem dX11_setLevels_6 : decode cX11_setLevels 6 = .ok (.getfield 35, 3) := by decide +kernel
theorem dX11_setLevels_9 : decode cX11_setLevels 9 = .ok (.getfield 142, 3) := by decide +kernel
theorem dX11_setLevels_12 : decode cX11_setLevels 12 = .ok (.if_icmp .ge 91, 3) := by decide +kernel
theorem dX11_setLevels_103 : decode cX11_setLevels 103 = .ok (.iload_n 1, 1) := by decide +kernel
theorem dX11_setLevels_104 : decode cX11_setLevels 104 = .ok (.ireturn, 1) := by decide +kernel
theorem dX11_shrunk_0 : decode cX11_shrunk 0 = .ok (.aload_n 0, 1) := by decide +kernel
theorem dX11_shrunk_1 : decode cX11_shrunk 1 = .ok (.invokevirtual 179, 3) := by decide +kernel
theorem dX11_shrunk_4 : decode cX11_shrunk 4 = .ok (.iload_n 1, 1) := by decide +kernel
theorem dX11_shrunk_5 : decode cX11_shrunk 5 = .ok (.iload_n 2, 1) := by decide +kernel
theorem dX11_shrunk_6 : decode cX11_shrunk 6 = .ok (.iconst 2, 1) := by decide +kernel
theorem dX11_shrunk_7 : decode cX11_shrunk 7 = .ok (.invokestatic 300, 3) := by decide +kernel
theorem dX11_shrunk_10 : decode cX11_shrunk 10 = .ok (.ireturn, 1) := by decide +kernel
theorem dX11_shrunkCascade_0 : decode cX11_shrunkCascade 0 = .ok (.aload_n 0, 1) := by decide +kernel
theorem dX11_shrunkCascade_1 : decode cX11_shrunkCascade 1 = .ok (.getfield 39, 3) := by decide +kernel
theorem dX11_shrunkCascade_4 : decode cX11_shrunkCascade 4 = .ok (.aload_n 0, 1) := by decide +kernel
theorem dX11_shrunkCascade_5 : decode cX11_shrunkCascade 5 = .ok (.getfield 35, 3) := by decide +kernel
theorem dX11_shrunkCascade_8 : decode cX11_shrunkCascade 8 = .ok (.invokevirtual 193, 3) := by decide +kernel
theorem dX11_shrunkCascade_11 : decode cX11_shrunkCascade 11 = .ok (.aload_n 0, 1) := by decide +kernel
theorem dX11_shrunkCascade_12 : decode cX11_shrunkCascade 12 = .ok (.getfield 39, 3) := by decide +kernel
theorem dX11_shrunkCascade_15 : decode cX11_shrunkCascade 15 = .ok (.aload_n 0, 1) := by decide +kernel
theorem dX11_shrunkCascade_16 : decode cX11_shrunkCascade 16 = .ok (.invokevirtual 166, 3) := by decide +kernel
theorem dX11_shrunkCascade_19 : decode cX11_shrunkCascade 19 = .ok (.invokevirtual 304, 3) := by decide +kernel
theorem dX11_shrunkCascade_22 : decode cX11_shrunkCascade 22 = .ok (.aload_n 0, 1) := by decide +kernel
theorem dX11_shrunkCascade_23 : decode cX11_shrunkCascade 23 = .ok (.getfield 39, 3) := by decide +kernel
theorem dX11_shrunkCascade_26 : decode cX11_shrunkCascade 26 = .ok (.areturn, 1) := by decide +kernel
theorem dX11_slotsHeld_0 : decode cX11_slotsHeld 0 = .ok (.iconst 0, 1) := by decide +kernel
theorem dX11_slotsHeld_1 : decode cX11_slotsHeld 1 = .ok (.istore_n 1, 1) := by decide +kernel
theorem dX11_slotsHeld_2 : decode cX11_slotsHeld 2 = .ok (.iconst 0, 1) := by decide +kernel
theorem dX11_slotsHeld_3 : decode cX11_slotsHeld 3 = .ok (.istore_n 2, 1) := by decide +kernel
theorem dX11_slotsHeld_4 : decode cX11_slotsHeld 4 = .ok (.iload_n 2, 1) := by decide +kernel
theorem dX11_slotsHeld_5 : decode cX11_slotsHeld 5 = .ok (.iconst 3, 1) := by decide +kernel
theorem dX11_slotsHeld_6 : decode cX11_slotsHeld 6 = .ok (.if_icmp .ge 26, 3) := by decide +kernel
theorem dX11_slotsHeld_9 : decode cX11_slotsHeld 9 = .ok (.iload_n 1, 1) := by decide +kernel
theorem dX11_slotsHeld_10 : decode cX11_slotsHeld 10 = .ok (.aload_n 0, 1) := by decide +kernel
theorem dX11_slotsHeld_11 : decode cX11_slotsHeld 11 = .ok (.getfield 46, 3) := by decide +kernel
theorem dX11_slotsHeld_14 : decode cX11_slotsHeld 14 = .ok (.iload_n 2, 1) := by decide +kernel
theorem dX11_slotsHeld_15 : decode cX11_slotsHeld 15 = .ok (.baload, 1) := by decide +kernel
theorem dX11_slotsHeld_16 : decode cX11_slotsHeld 16 = .ok (.ifCond .eq 7, 3) := by decide +kernel
theorem dX11_slotsHeld_23 : decode cX11_slotsHeld 23 = .ok (.iconst 0, 1) := by decide +kernel
theorem dX11_slotsHeld_24 : decode cX11_slotsHeld 24 = .ok (.iadd, 1) := by decide +kernel
theorem dX11_slotsHeld_25 : decode cX11_slotsHeld 25 = .ok (.istore_n 1, 1) := by decide +kernel
theorem dX11_slotsHeld_26 : decode cX11_slotsHeld 26 = .ok (.iinc 2 1, 3) := by decide +kernel
theorem dX11_slotsHeld_29 : decode cX11_slotsHeld 29 = .ok (.goto (-25), 3) := by decide +kernel
theorem dX11_slotsHeld_32 : decode cX11_slotsHeld 32 = .ok (.iload_n 1, 1) := by decide +kernel
theorem dX11_slotsHeld_33 : decode cX11_slotsHeld 33 = .ok (.ireturn, 1) := by decide +kernel
theorem dX11_stuck_0 : decode cX11_stuck 0 = .ok (.aload_n 0, 1) := by decide +kernel
theorem dX11_stuck_1 : decode cX11_stuck 1 = .ok (.iload_n 1, 1) := by decide +kernel
theorem dX11_stuck_2 : decode cX11_stuck 2 = .ok (.invokevirtual 248, 3) := by decide +kernel
