theorem dX12_order_30 : decode cX12_order 30 = .ok (.istore 6, 2) := by decide +kernel
theorem dX12_order_32 : decode cX12_order 32 = .ok (.iload 6, 2) := by decide +kernel
theorem dX12_order_34 : decode cX12_order 34 = .ok (.aload_n 0, 1) := by decide +kernel
theorem dX12_order_35 : decode cX12_order 35 = .ok (.invokevirtual 248, 3) := by decide +kernel
theorem dX12_order_38 : decode cX12_order 38 = .ok (.if_icmp .ge 104, 3) := by decide +kernel
theorem dX12_order_41 : decode cX12_order 41 = .ok (.iconst 1, 1) := by decide +kernel
theorem dX12_order_42 : decode cX12_order 42 = .ok (.istore 7, 2) := by decide +kernel
theorem dX12_order_44 : decode cX12_order 44 = .ok (.iload 6, 2) := by decide +kernel
theorem dX12_order_46 : decode cX12_order 46 = .ok (.istore 8, 2) := by decide +kernel
theorem dX12_order_48 : decode cX12_order 48 = .ok (.aload_n 0, 1) := by decide +kernel
theorem dX12_order_49 : decode cX12_order 49 = .ok (.getfield 68, 3) := by decide +kernel
theorem dX12_order_52 : decode cX12_order 52 = .ok (.iload 6, 2) := by decide +kernel
theorem dX12_order_54 : decode cX12_order 54 = .ok (.iaload, 1) := by decide +kernel
theorem dX12_order_55 : decode cX12_order 55 = .ok (.istore 9, 2) := by decide +kernel
theorem dX12_order_57 : decode cX12_order 57 = .ok (.iload 9, 2) := by decide +kernel
theorem dX12_order_59 : decode cX12_order 59 = .ok (.iload 6, 2) := by decide +kernel
theorem dX12_order_61 : decode cX12_order 61 = .ok (.if_icmp .eq 29, 3) := by decide +kernel
theorem dX12_order_90 : decode cX12_order 90 = .ok (.iload 8, 2) := by decide +kernel
theorem dX12_order_92 : decode cX12_order 92 = .ok (.iload 6, 2) := by decide +kernel
theorem dX12_order_94 : decode cX12_order 94 = .ok (.if_icmp .ge 6, 3) := by decide +kernel
theorem dX12_order_100 : decode cX12_order 100 = .ok (.iinc 2 1, 3) := by decide +kernel
theorem dX12_order_103 : decode cX12_order 103 = .ok (.iload 7, 2) := by decide +kernel
theorem dX12_order_105 : decode cX12_order 105 = .ok (.iload_n 3, 1) := by decide +kernel
theorem dX12_order_106 : decode cX12_order 106 = .ok (.if_icmp .le 6, 3) := by decide +kernel
theorem dX12_order_109 : decode cX12_order 109 = .ok (.iload 7, 2) := by decide +kernel
theorem dX12_order_111 : decode cX12_order 111 = .ok (.istore_n 3, 1) := by decide +kernel
theorem dX12_order_112 : decode cX12_order 112 = .ok (.iload 7, 2) := by decide +kernel
theorem dX12_order_114 : decode cX12_order 114 = .ok (.iconst 1, 1) := by decide +kernel
theorem dX12_order_115 : decode cX12_order 115 = .ok (.if_icmp .ne 6, 3) := by decide +kernel
theorem dX12_order_118 : decode cX12_order 118 = .ok (.iinc 5 1, 3) := by decide +kernel
theorem dX12_order_121 : decode cX12_order 121 = .ok (.iload 4, 2) := by decide +kernel
theorem dX12_order_123 : decode cX12_order 123 = .ok (.iload 4, 2) := by decide +kernel
theorem dX12_order_125 : decode cX12_order 125 = .ok (.iload 7, 2) := by decide +kernel
theorem dX12_order_127 : decode cX12_order 127 = .ok (.invokestatic 311, 3) := by decide +kernel
theorem dX12_order_130 : decode cX12_order 130 = .ok (.idiv, 1) := by decide +kernel
theorem dX12_order_131 : decode cX12_order 131 = .ok (.iload 7, 2) := by decide +kernel
theorem dX12_order_133 : decode cX12_order 133 = .ok (.imul, 1) := by decide +kernel
theorem dX12_order_134 : decode cX12_order 134 = .ok (.istore 4, 2) := by decide +kernel
theorem dX12_order_136 : decode cX12_order 136 = .ok (.iinc 6 1, 3) := by decide +kernel
theorem dX12_order_139 : decode cX12_order 139 = .ok (.goto (-107), 3) := by decide +kernel
theorem dX12_order_142 : decode cX12_order 142 = .ok (.iload_n 1, 1) := by decide +kernel
theorem dX12_order_143 : decode cX12_order 143 = .ok (.ifCond .ne 7, 3) := by decide +kernel
theorem dX12_order_146 : decode cX12_order 146 = .ok (.iload_n 2, 1) := by decide +kernel
theorem dX12_order_147 : decode cX12_order 147 = .ok (.goto 42, 3) := by decide +kernel
theorem dX12_order_150 : decode cX12_order 150 = .ok (.iload_n 1, 1) := by decide +kernel
theorem dX12_order_151 : decode cX12_order 151 = .ok (.iconst 1, 1) := by decide +kernel
theorem dX12_order_152 : decode cX12_order 152 = .ok (.if_icmp .ne 7, 3) := by decide +kernel
theorem dX12_order_155 : decode cX12_order 155 = .ok (.iload_n 3, 1) := by decide +kernel
theorem dX12_order_156 : decode cX12_order 156 = .ok (.goto 33, 3) := by decide +kernel
theorem dX12_order_159 : decode cX12_order 159 = .ok (.iload_n 1, 1) := by decide +kernel
theorem dX12_order_160 : decode cX12_order 160 = .ok (.iconst 2, 1) := by decide +kernel
theorem dX12_order_161 : decode cX12_order 161 = .ok (.if_icmp .ne 8, 3) := by decide +kernel
theorem dX12_order_164 : decode cX12_order 164 = .ok (.iload 4, 2) := by decide +kernel
theorem dX12_order_166 : decode cX12_order 166 = .ok (.goto 23, 3) := by decide +kernel
theorem dX12_order_169 : decode cX12_order 169 = .ok (.iload_n 1, 1) := by decide +kernel
theorem dX12_order_170 : decode cX12_order 170 = .ok (.iconst 3, 1) := by decide +kernel
theorem dX12_order_171 : decode cX12_order 171 = .ok (.if_icmp .ne 16, 3) := by decide +kernel
theorem dX12_order_174 : decode cX12_order 174 = .ok (.iconst 1, 1) := by decide +kernel
theorem dX12_order_175 : decode cX12_order 175 = .ok (.aload_n 0, 1) := by decide +kernel
theorem dX12_order_176 : decode cX12_order 176 = .ok (.invokevirtual 248, 3) := by decide +kernel
theorem dX12_order_179 : decode cX12_order 179 = .ok (.iload_n 2, 1) := by decide +kernel
theorem dX12_order_180 : decode cX12_order 180 = .ok (.isub, 1) := by decide +kernel
theorem dX12_order_181 : decode cX12_order 181 = .ok (.iconst 2, 1) := by decide +kernel
theorem dX12_order_182 : decode cX12_order 182 = .ok (.irem, 1) := by decide +kernel
theorem dX12_order_183 : decode cX12_order 183 = .ok (.isub, 1) := by decide +kernel
theorem dX12_order_184 : decode cX12_order 184 = .ok (.goto 5, 3) := by decide +kernel
theorem dX12_order_187 : decode cX12_order 187 = .ok (.iload 5, 2) := by decide +kernel
theorem dX12_order_189 : decode cX12_order 189 = .ok (.ireturn, 1) := by decide +kernel
theorem dX12_place_0 : decode cX12_place 0 = .ok (.aload_n 0, 1) := by decide +kernel
theorem dX12_place_1 : decode cX12_place 1 = .ok (.getfield 37, 3) := by decide +kernel
theorem dX12_place_4 : decode cX12_place 4 = .ok (.ireturn, 1) := by decide +kernel
theorem dX12_placeOf_0 : decode cX12_placeOf 0 = .ok (.iconst 0, 1) := by decide +kernel
theorem dX12_placeOf_1 : decode cX12_placeOf 1 = .ok (.istore_n 2, 1) := by decide +kernel
theorem dX12_placeOf_2 : decode cX12_placeOf 2 = .ok (.iconst 0, 1) := by decide +kernel
theorem dX12_placeOf_3 : decode cX12_placeOf 3 = .ok (.istore_n 3, 1) := by decide +kernel
theorem dX12_placeOf_4 : decode cX12_placeOf 4 = .ok (.iload_n 3, 1) := by decide +kernel
theorem dX12_placeOf_5 : decode cX12_placeOf 5 = .ok (.iload_n 1, 1) := by decide +kernel
theorem dX12_placeOf_6 : decode cX12_placeOf 6 = .ok (.if_icmp .ge 57, 3) := by decide +kernel
theorem dX12_placeOf_9 : decode cX12_placeOf 9 = .ok (.iconst 0, 1) := by decide +kernel
theorem dX12_placeOf_10 : decode cX12_placeOf 10 = .ok (.istore 4, 2) := by decide +kernel
theorem dX12_placeOf_12 : decode cX12_placeOf 12 = .ok (.iload_n 3, 1) := by decide +kernel
theorem dX12_placeOf_13 : decode cX12_placeOf 13 = .ok (.iconst 1, 1) := by decide +kernel
theorem dX12_placeOf_14 : decode cX12_placeOf 14 = .ok (.iadd, 1) := by decide +kernel
theorem dX12_placeOf_15 : decode cX12_placeOf 15 = .ok (.istore 5, 2) := by decide +kernel
theorem dX12_placeOf_17 : decode cX12_placeOf 17 = .ok (.iload 5, 2) := by decide +kernel
theorem dX12_placeOf_19 : decode cX12_placeOf 19 = .ok (.iload_n 1, 1) := by decide +kernel
theorem dX12_placeOf_20 : decode cX12_placeOf 20 = .ok (.if_icmp .ge 28, 3) := by decide +kernel
theorem dX12_placeOf_48 : decode cX12_placeOf 48 = .ok (.iload_n 2, 1) := by decide +kernel
theorem dX12_placeOf_49 : decode cX12_placeOf 49 = .ok (.iload_n 1, 1) := by decide +kernel
theorem dX12_placeOf_50 : decode cX12_placeOf 50 = .ok (.iload_n 3, 1) := by decide +kernel
theorem dX12_placeOf_51 : decode cX12_placeOf 51 = .ok (.isub, 1) := by decide +kernel
theorem dX12_placeOf_52 : decode cX12_placeOf 52 = .ok (.imul, 1) := by decide +kernel
theorem dX12_placeOf_53 : decode cX12_placeOf 53 = .ok (.iload 4, 2) := by decide +kernel
theorem dX12_placeOf_55 : decode cX12_placeOf 55 = .ok (.iadd, 1) := by decide +kernel
theorem dX12_placeOf_56 : decode cX12_placeOf 56 = .ok (.istore_n 2, 1) := by decide +kernel
theorem dX12_placeOf_57 : decode cX12_placeOf 57 = .ok (.iinc 3 1, 3) := by decide +kernel
theorem dX12_placeOf_60 : decode cX12_placeOf 60 = .ok (.goto (-56), 3) := by decide +kernel
theorem dX12_placeOf_63 : decode cX12_placeOf 63 = .ok (.iload_n 2, 1) := by decide +kernel
theorem dX12_placeOf_64 : decode cX12_placeOf 64 = .ok (.ireturn, 1) := by decide +kernel
theorem dX12_put_0 : decode cX12_put 0 = .ok (.aload_n 0, 1) := by decide +kernel
theorem dX12_put_1 : decode cX12_put 1 = .ok (.invokevirtual 244, 3) := by decide +kernel
theorem dX12_put_4 : decode cX12_put 4 = .ok (.bipush 16, 2) := by decide +kernel
theorem dX12_put_6 : decode cX12_put 6 = .ok (.if_icmp .eq 46, 3) := by decide +kernel
theorem dX12_put_9 : decode cX12_put 9 = .ok (.iload_n 1, 1) := by decide +kernel
theorem dX12_put_10 : decode cX12_put 10 = .ok (.iconst 0, 1) := by decide +kernel
theorem dX12_put_11 : decode cX12_put 11 = .ok (.aload_n 0, 1) := by decide +kernel
theorem dX12_put_12 : decode cX12_put 12 = .ok (.invokevirtual 244, 3) := by decide +kernel
theorem dX12_put_15 : decode cX12_put 15 = .ok (.invokestatic 237, 3) := by decide +kernel
theorem dX12_put_18 : decode cX12_put 18 = .ok (.ifCond .eq 34, 3) := by decide +kernel
theorem dX12_put_21 : decode cX12_put 21 = .ok (.iload_n 2, 1) := by decide +kernel
theorem dX12_put_22 : decode cX12_put 22 = .ok (.iconst 0, 1) := by decide +kernel
theorem dX12_put_23 : decode cX12_put 23 = .ok (.aload_n 0, 1) := by decide +kernel
theorem dX12_put_24 : decode cX12_put 24 = .ok (.getfield 203, 3) := by decide +kernel
theorem dX12_put_27 : decode cX12_put 27 = .ok (.iconst 1, 1) := by decide +kernel
theorem dX12_put_28 : decode cX12_put 28 = .ok (.isub, 1) := by decide +kernel
theorem dX12_put_29 : decode cX12_put 29 = .ok (.invokestatic 237, 3) := by decide +kernel
theorem dX12_put_32 : decode cX12_put 32 = .ok (.ifCond .eq 20, 3) := by decide +kernel
theorem dX12_put_52 : decode cX12_put 52 = .ok (.iconst 0, 1) := by decide +kernel
theorem dX12_put_53 : decode cX12_put 53 = .ok (.ireturn, 1) := by decide +kernel
theorem dX12_read_0 : decode cX12_read 0 = .ok (.aload_n 0, 1) := by decide +kernel
theorem dX12_read_1 : decode cX12_read 1 = .ok (.aload_n 0, 1) := by decide +kernel
theorem dX12_read_2 : decode cX12_read 2 = .ok (.getfield 127, 3) := by decide +kernel
theorem dX12_read_5 : decode cX12_read 5 = .ok (.putfield 134, 3) := by decide +kernel
theorem dX12_read_8 : decode cX12_read 8 = .ok (.iconst 0, 1) := by decide +kernel
theorem dX12_read_9 : decode cX12_read 9 = .ok (.istore_n 1, 1) := by decide +kernel
theorem dX12_read_10 : decode cX12_read 10 = .ok (.iload_n 1, 1) := by decide +kernel
theorem dX12_read_11 : decode cX12_read 11 = .ok (.aload_n 0, 1) := by decide +kernel
theorem dX12_read_12 : decode cX12_read 12 = .ok (.getfield 134, 3) := by decide +kernel
theorem dX12_read_15 : decode cX12_read 15 = .ok (.if_icmp .ge 21, 3) := by decide +kernel
theorem dX12_read_36 : decode cX12_read 36 = .ok (.aload_n 0, 1) := by decide +kernel
theorem dX12_read_37 : decode cX12_read 37 = .ok (.iconst 0, 1) := by decide +kernel
theorem dX12_read_38 : decode cX12_read 38 = .ok (.putfield 127, 3) := by decide +kernel
theorem dX12_read_41 : decode cX12_read 41 = .ok (.aload_n 0, 1) := by decide +kernel
theorem dX12_read_42 : decode cX12_read 42 = .ok (.invokevirtual 189, 3) := by decide +kernel
theorem dX12_read_45 : decode cX12_read 45 = .ok (.aload_n 0, 1) := by decide +kernel
theorem dX12_read_46 : decode cX12_read 46 = .ok (.iconst 0, 1) := by decide +kernel
theorem dX12_read_47 : decode cX12_read 47 = .ok (.putfield 168, 3) := by decide +kernel
theorem dX12_read_50 : decode cX12_read 50 = .ok (.aload_n 0, 1) := by decide +kernel
theorem dX12_read_51 : decode cX12_read 51 = .ok (.iconst 0, 1) := by decide +kernel
theorem dX12_read_52 : decode cX12_read 52 = .ok (.putfield 165, 3) := by decide +kernel
theorem dX12_read_55 : decode cX12_read 55 = .ok (.aload_n 0, 1) := by decide +kernel
theorem dX12_read_56 : decode cX12_read 56 = .ok (.iconst 0, 1) := by decide +kernel
theorem dX12_read_57 : decode cX12_read 57 = .ok (.putfield 174, 3) := by decide +kernel
theorem dX12_read_60 : decode cX12_read 60 = .ok (.aload_n 0, 1) := by decide +kernel
theorem dX12_read_61 : decode cX12_read 61 = .ok (.iconst 0, 1) := by decide +kernel
theorem dX12_read_62 : decode cX12_read 62 = .ok (.putfield 192, 3) := by decide +kernel
theorem dX12_read_65 : decode cX12_read 65 = .ok (.aload_n 0, 1) := by decide +kernel
theorem dX12_read_66 : decode cX12_read 66 = .ok (.iconst 0, 1) := by decide +kernel
theorem dX12_read_67 : decode cX12_read 67 = .ok (.putfield 195, 3) := by decide +kernel
theorem dX12_read_70 : decode cX12_read 70 = .ok (.aload_n 0, 1) := by decide +kernel
theorem dX12_read_71 : decode cX12_read 71 = .ok (.getfield 165, 3) := by decide +kernel
theorem dX12_read_74 : decode cX12_read 74 = .ok (.ifCond .ne 18, 3) := by decide +kernel
theorem dX12_read_77 : decode cX12_read 77 = .ok (.aload_n 0, 1) := by decide +kernel
theorem dX12_read_78 : decode cX12_read 78 = .ok (.iconst 0, 1) := by decide +kernel
theorem dX12_read_79 : decode cX12_read 79 = .ok (.invokevirtual 183, 3) := by decide +kernel
theorem dX12_read_82 : decode cX12_read 82 = .ok (.ifCond .ne 10, 3) := by decide +kernel
theorem dX12_read_92 : decode cX12_read 92 = .ok (.aload_n 0, 1) := by decide +kernel
theorem dX12_read_93 : decode cX12_read 93 = .ok (.getfield 165, 3) := by decide +kernel
theorem dX12_read_96 : decode cX12_read 96 = .ok (.ifCond .ne 7, 3) := by decide +kernel
theorem dX12_read_99 : decode cX12_read 99 = .ok (.aload_n 0, 1) := by decide +kernel
theorem dX12_read_100 : decode cX12_read 100 = .ok (.invokevirtual 200, 3) := by decide +kernel
theorem dX12_read_103 : decode cX12_read 103 = .ok (.aload_n 0, 1) := by decide +kernel
theorem dX12_read_104 : decode cX12_read 104 = .ok (.aload_n 0, 1) := by decide +kernel
theorem dX12_read_105 : decode cX12_read 105 = .ok (.getfield 165, 3) := by decide +kernel
theorem dX12_read_108 : decode cX12_read 108 = .ok (.ifCond .le 10, 3) := by decide +kernel
theorem dX12_read_118 : decode cX12_read 118 = .ok (.aload_n 0, 1) := by decide +kernel
theorem dX12_read_119 : decode cX12_read 119 = .ok (.getfield 174, 3) := by decide +kernel
theorem dX12_read_122 : decode cX12_read 122 = .ok (.ifCond .le 10, 3) := by decide +kernel
theorem dX12_read_132 : decode cX12_read 132 = .ok (.iconst (-1), 1) := by decide +kernel
theorem dX12_read_133 : decode cX12_read 133 = .ok (.putfield 37, 3) := by decide +kernel
theorem dX12_read_136 : decode cX12_read 136 = .ok (.aload_n 0, 1) := by decide +kernel
theorem dX12_read_137 : decode cX12_read 137 = .ok (.getfield 165, 3) := by decide +kernel
theorem dX12_read_140 : decode cX12_read 140 = .ok (.ifCond .le 8, 3) := by decide +kernel
theorem dX12_read_148 : decode cX12_read 148 = .ok (.aload_n 0, 1) := by decide +kernel
theorem dX12_read_149 : decode cX12_read 149 = .ok (.getfield 174, 3) := by decide +kernel
theorem dX12_read_152 : decode cX12_read 152 = .ok (.ifCond .le 8, 3) := by decide +kernel
theorem dX12_read_160 : decode cX12_read 160 = .ok (.aload_n 0, 1) := by decide +kernel
theorem dX12_read_161 : decode cX12_read 161 = .ok (.aload_n 0, 1) := by decide +kernel
theorem dX12_read_162 : decode cX12_read 162 = .ok (.getfield 192, 3) := by decide +kernel
theorem dX12_read_165 : decode cX12_read 165 = .ok (.putfield 203, 3) := by decide +kernel
theorem dX12_read_168 : decode cX12_read 168 = .ok (.iconst 0, 1) := by decide +kernel
theorem dX12_read_169 : decode cX12_read 169 = .ok (.istore_n 1, 1) := by decide +kernel
theorem dX12_read_170 : decode cX12_read 170 = .ok (.iload_n 1, 1) := by decide +kernel
theorem dX12_read_171 : decode cX12_read 171 = .ok (.iconst 4, 1) := by decide +kernel
theorem dX12_read_172 : decode cX12_read 172 = .ok (.if_icmp .ge 21, 3) := by decide +kernel
theorem dX12_read_175 : decode cX12_read 175 = .ok (.aload_n 0, 1) := by decide +kernel
theorem dX12_read_176 : decode cX12_read 176 = .ok (.getfield 40, 3) := by decide +kernel
theorem dX12_read_179 : decode cX12_read 179 = .ok (.iload_n 1, 1) := by decide +kernel
theorem dX12_read_180 : decode cX12_read 180 = .ok (.aload_n 0, 1) := by decide +kernel
theorem dX12_read_181 : decode cX12_read 181 = .ok (.getfield 46, 3) := by decide +kernel
theorem dX12_read_184 : decode cX12_read 184 = .ok (.iload_n 1, 1) := by decide +kernel
theorem dX12_read_185 : decode cX12_read 185 = .ok (.iaload, 1) := by decide +kernel
theorem dX12_read_186 : decode cX12_read 186 = .ok (.iastore, 1) := by decide +kernel
theorem dX12_read_187 : decode cX12_read 187 = .ok (.iinc 1 1, 3) := by decide +kernel
theorem dX12_read_190 : decode cX12_read 190 = .ok (.goto (-20), 3) := by decide +kernel
theorem dX12_read_193 : decode cX12_read 193 = .ok (.aload_n 0, 1) := by decide +kernel
theorem dX12_read_194 : decode cX12_read 194 = .ok (.aload_n 0, 1) := by decide +kernel
theorem dX12_read_195 : decode cX12_read 195 = .ok (.getfield 206, 3) := by decide +kernel
theorem dX12_read_198 : decode cX12_read 198 = .ok (.putfield 209, 3) := by decide +kernel
theorem dX12_read_201 : decode cX12_read 201 = .ok (.aload_n 0, 1) := by decide +kernel
theorem dX12_read_202 : decode cX12_read 202 = .ok (.aload_n 0, 1) := by decide +kernel
theorem dX12_read_203 : decode cX12_read 203 = .ok (.getfield 212, 3) := by decide +kernel
theorem dX12_read_206 : decode cX12_read 206 = .ok (.putfield 215, 3) := by decide +kernel
theorem dX12_read_209 : decode cX12_read 209 = .ok (.iconst 0, 1) := by decide +kernel
theorem dX12_read_210 : decode cX12_read 210 = .ok (.istore_n 1, 1) := by decide +kernel
theorem dX12_read_211 : decode cX12_read 211 = .ok (.iload_n 1, 1) := by decide +kernel
theorem dX12_read_212 : decode cX12_read 212 = .ok (.bipush 8, 2) := by decide +kernel
theorem dX12_read_214 : decode cX12_read 214 = .ok (.if_icmp .ge 21, 3) := by decide +kernel
theorem dX12_read_217 : decode cX12_read 217 = .ok (.aload_n 0, 1) := by decide +kernel
theorem dX12_read_218 : decode cX12_read 218 = .ok (.getfield 43, 3) := by decide +kernel
theorem dX12_read_221 : decode cX12_read 221 = .ok (.iload_n 1, 1) := by decide +kernel
theorem dX12_read_222 : decode cX12_read 222 = .ok (.aload_n 0, 1) := by decide +kernel
theorem dX12_read_223 : decode cX12_read 223 = .ok (.getfield 49, 3) := by decide +kernel
theorem dX12_read_226 : decode cX12_read 226 = .ok (.iload_n 1, 1) := by decide +kernel
theorem dX12_read_227 : decode cX12_read 227 = .ok (.iaload, 1) := by decide +kernel
theorem dX12_read_228 : decode cX12_read 228 = .ok (.iastore, 1) := by decide +kernel
theorem dX12_read_229 : decode cX12_read 229 = .ok (.iinc 1 1, 3) := by decide +kernel
theorem dX12_read_232 : decode cX12_read 232 = .ok (.goto (-21), 3) := by decide +kernel
theorem dX12_read_235 : decode cX12_read 235 = .ok (.iconst 0, 1) := by decide +kernel
theorem dX12_read_236 : decode cX12_read 236 = .ok (.istore_n 1, 1) := by decide +kernel
theorem dX12_read_237 : decode cX12_read 237 = .ok (.iload_n 1, 1) := by decide +kernel
theorem dX12_read_238 : decode cX12_read 238 = .ok (.bipush 49, 2) := by decide +kernel
theorem dX12_read_240 : decode cX12_read 240 = .ok (.if_icmp .ge 21, 3) := by decide +kernel
theorem dX12_read_243 : decode cX12_read 243 = .ok (.aload_n 0, 1) := by decide +kernel
theorem dX12_read_244 : decode cX12_read 244 = .ok (.getfield 52, 3) := by decide +kernel
theorem dX12_read_247 : decode cX12_read 247 = .ok (.iload_n 1, 1) := by decide +kernel
theorem dX12_read_248 : decode cX12_read 248 = .ok (.aload_n 0, 1) := by decide +kernel
theorem dX12_read_249 : decode cX12_read 249 = .ok (.getfield 55, 3) := by decide +kernel
theorem dX12_read_252 : decode cX12_read 252 = .ok (.iload_n 1, 1) := by decide +kernel
theorem dX12_read_253 : decode cX12_read 253 = .ok (.iaload, 1) := by decide +kernel
theorem dX12_read_254 : decode cX12_read 254 = .ok (.iastore, 1) := by decide +kernel
theorem dX12_read_255 : decode cX12_read 255 = .ok (.iinc 1 1, 3) := by decide +kernel
theorem dX12_read_258 : decode cX12_read 258 = .ok (.goto (-21), 3) := by decide +kernel
theorem dX12_read_261 : decode cX12_read 261 = .ok (.aload_n 0, 1) := by decide +kernel
theorem dX12_read_262 : decode cX12_read 262 = .ok (.iconst 0, 1) := by decide +kernel
theorem dX12_read_263 : decode cX12_read 263 = .ok (.putfield 218, 3) := by decide +kernel
theorem dX12_read_266 : decode cX12_read 266 = .ok (.iconst 0, 1) := by decide +kernel
theorem dX12_read_267 : decode cX12_read 267 = .ok (.istore_n 1, 1) := by decide +kernel
theorem dX12_read_268 : decode cX12_read 268 = .ok (.iload_n 1, 1) := by decide +kernel
theorem dX12_read_269 : decode cX12_read 269 = .ok (.iconst 3, 1) := by decide +kernel
theorem dX12_read_270 : decode cX12_read 270 = .ok (.if_icmp .ge 16, 3) := by decide +kernel
theorem dX12_read_273 : decode cX12_read 273 = .ok (.aload_n 0, 1) := by decide +kernel
theorem dX12_read_274 : decode cX12_read 274 = .ok (.getfield 64, 3) := by decide +kernel
theorem dX12_read_277 : decode cX12_read 277 = .ok (.iload_n 1, 1) := by decide +kernel
theorem dX12_read_278 : decode cX12_read 278 = .ok (.iconst 0, 1) := by decide +kernel
theorem dX12_read_279 : decode cX12_read 279 = .ok (.bastore, 1) := by decide +kernel
theorem dX12_read_280 : decode cX12_read 280 = .ok (.iinc 1 1, 3) := by decide +kernel
theorem dX12_read_283 : decode cX12_read 283 = .ok (.goto (-15), 3) := by decide +kernel
theorem dX12_read_286 : decode cX12_read 286 = .ok (.iconst 0, 1) := by decide +kernel
theorem dX12_read_287 : decode cX12_read 287 = .ok (.ireturn, 1) := by decide +kernel
theorem dX12_restore_0 : decode cX12_restore 0 = .ok (.iload_n 1, 1) := by decide +kernel
theorem dX12_restore_1 : decode cX12_restore 1 = .ok (.iconst 0, 1) := by decide +kernel
theorem dX12_restore_2 : decode cX12_restore 2 = .ok (.iconst 2, 1) := by decide +kernel
theorem dX12_restore_3 : decode cX12_restore 3 = .ok (.invokestatic 237, 3) := by decide +kernel
theorem dX12_restore_6 : decode cX12_restore 6 = .ok (.ifCond .eq 12, 3) := by decide +kernel
theorem dX12_restore_9 : decode cX12_restore 9 = .ok (.aload_n 0, 1) := by decide +kernel
theorem dX12_restore_10 : decode cX12_restore 10 = .ok (.getfield 64, 3) := by decide +kernel
theorem dX12_restore_13 : decode cX12_restore 13 = .ok (.iload_n 1, 1) := by decide +kernel
theorem dX12_restore_14 : decode cX12_restore 14 = .ok (.baload, 1) := by decide +kernel
theorem dX12_restore_15 : decode cX12_restore 15 = .ok (.ifCond .ne 5, 3) := by decide +kernel
theorem dX12_restore_18 : decode cX12_restore 18 = .ok (.iconst 0, 1) := by decide +kernel
theorem dX12_restore_19 : decode cX12_restore 19 = .ok (.ireturn, 1) := by decide +kernel
theorem dX12_rows_0 : decode cX12_rows 0 = .ok (.iconst 1, 1) := by decide +kernel
theorem dX12_rows_1 : decode cX12_rows 1 = .ok (.aload_n 0, 1) := by decide +kernel
theorem dX12_rows_2 : decode cX12_rows 2 = .ok (.getfield 203, 3) := by decide +kernel
theorem dX12_rows_5 : decode cX12_rows 5 = .ok (.ishl, 1) := by decide +kernel
theorem dX12_rows_6 : decode cX12_rows 6 = .ok (.ireturn, 1) := by decide +kernel
theorem dX12_seeing_0 : decode cX12_seeing 0 = .ok (.iconst 0, 1) := by decide +kernel
theorem dX12_seeing_1 : decode cX12_seeing 1 = .ok (.istore_n 1, 1) := by decide +kernel
theorem dX12_seeing_2 : decode cX12_seeing 2 = .ok (.iconst 0, 1) := by decide +kernel
theorem dX12_seeing_3 : decode cX12_seeing 3 = .ok (.istore_n 2, 1) := by decide +kernel
theorem dX12_seeing_4 : decode cX12_seeing 4 = .ok (.iload_n 2, 1) := by decide +kernel
theorem dX12_seeing_5 : decode cX12_seeing 5 = .ok (.aload_n 0, 1) := by decide +kernel
theorem dX12_seeing_6 : decode cX12_seeing 6 = .ok (.invokevirtual 248, 3) := by decide +kernel
theorem dX12_seeing_9 : decode cX12_seeing 9 = .ok (.if_icmp .ge 23, 3) := by decide +kernel
theorem dX12_seeing_12 : decode cX12_seeing 12 = .ok (.aload_n 0, 1) := by decide +kernel
theorem dX12_seeing_13 : decode cX12_seeing 13 = .ok (.iload_n 2, 1) := by decide +kernel
theorem dX12_seeing_14 : decode cX12_seeing 14 = .ok (.invokevirtual 388, 3) := by decide +kernel
theorem dX12_seeing_17 : decode cX12_seeing 17 = .ok (.ifCond .eq 9, 3) := by decide +kernel
theorem dX12_seeing_26 : decode cX12_seeing 26 = .ok (.iinc 2 1, 3) := by decide +kernel
theorem dX12_seeing_29 : decode cX12_seeing 29 = .ok (.goto (-25), 3) := by decide +kernel
theorem dX12_seeing_32 : decode cX12_seeing 32 = .ok (.iload_n 1, 1) := by decide +kernel
theorem dX12_seeing_33 : decode cX12_seeing 33 = .ok (.ireturn, 1) := by decide +kernel
theorem dX12_seenBy_0 : decode cX12_seenBy 0 = .ok (.iconst 0, 1) := by decide +kernel
theorem dX12_seenBy_1 : decode cX12_seenBy 1 = .ok (.istore_n 2, 1) := by decide +kernel
theorem dX12_seenBy_2 : decode cX12_seenBy 2 = .ok (.iconst 0, 1) := by decide +kernel
theorem dX12_seenBy_3 : decode cX12_seenBy 3 = .ok (.istore_n 3, 1) := by decide +kernel
theorem dX12_seenBy_4 : decode cX12_seenBy 4 = .ok (.iload_n 3, 1) := by decide +kernel
theorem dX12_seenBy_5 : decode cX12_seenBy 5 = .ok (.iconst 2, 1) := by decide +kernel
theorem dX12_seenBy_6 : decode cX12_seenBy 6 = .ok (.aload_n 0, 1) := by decide +kernel
theorem dX12_seenBy_7 : decode cX12_seenBy 7 = .ok (.getfield 203, 3) := by decide +kernel
theorem dX12_seenBy_10 : decode cX12_seenBy 10 = .ok (.imul, 1) := by decide +kernel
theorem dX12_seenBy_11 : decode cX12_seenBy 11 = .ok (.if_icmp .ge 39, 3) := by decide +kernel
theorem dX12_seenBy_50 : decode cX12_seenBy 50 = .ok (.iload_n 2, 1) := by decide +kernel
theorem dX12_seenBy_51 : decode cX12_seenBy 51 = .ok (.ireturn, 1) := by decide +kernel
theorem dX12_shrinks_0 : decode cX12_shrinks 0 = .ok (.iconst 0, 1) := by decide +kernel
theorem dX12_shrinks_1 : decode cX12_shrinks 1 = .ok (.istore_n 2, 1) := by decide +kernel
theorem dX12_shrinks_2 : decode cX12_shrinks 2 = .ok (.iload_n 2, 1) := by decide +kernel
theorem dX12_shrinks_3 : decode cX12_shrinks 3 = .ok (.aload_n 0, 1) := by decide +kernel
theorem dX12_shrinks_4 : decode cX12_shrinks 4 = .ok (.getfield 74, 3) := by decide +kernel
theorem dX12_shrinks_7 : decode cX12_shrinks 7 = .ok (.iconst 0, 1) := by decide +kernel
theorem dX12_shrinks_8 : decode cX12_shrinks 8 = .ok (.iaload, 1) := by decide +kernel
theorem dX12_shrinks_9 : decode cX12_shrinks 9 = .ok (.if_icmp .ge 79, 3) := by decide +kernel
theorem dX12_shrinks_88 : decode cX12_shrinks 88 = .ok (.iconst 0, 1) := by decide +kernel
theorem dX12_shrinks_89 : decode cX12_shrinks 89 = .ok (.ireturn, 1) := by decide +kernel
theorem dX12_shrunk_0 : decode cX12_shrunk 0 = .ok (.aload_n 0, 1) := by decide +kernel
theorem dX12_shrunk_1 : decode cX12_shrunk 1 = .ok (.invokevirtual 282, 3) := by decide +kernel
theorem dX12_shrunk_4 : decode cX12_shrunk 4 = .ok (.iload_n 1, 1) := by decide +kernel
theorem dX12_shrunk_5 : decode cX12_shrunk 5 = .ok (.iconst (-1), 1) := by decide +kernel
theorem dX12_shrunk_6 : decode cX12_shrunk 6 = .ok (.if_icmp .ne 10, 3) := by decide +kernel
theorem dX12_shrunk_9 : decode cX12_shrunk 9 = .ok (.aload_n 0, 1) := by decide +kernel
theorem dX12_shrunk_10 : decode cX12_shrunk 10 = .ok (.getfield 74, 3) := by decide +kernel
theorem dX12_shrunk_13 : decode cX12_shrunk 13 = .ok (.iconst 0, 1) := by decide +kernel
theorem dX12_shrunk_14 : decode cX12_shrunk 14 = .ok (.iaload, 1) := by decide +kernel
theorem dX12_shrunk_15 : decode cX12_shrunk 15 = .ok (.ireturn, 1) := by decide +kernel
theorem dX12_shrunk_16 : decode cX12_shrunk 16 = .ok (.iload_n 1, 1) := by decide +kernel
theorem dX12_shrunk_17 : decode cX12_shrunk 17 = .ok (.iconst 0, 1) := by decide +kernel
theorem dX12_shrunk_18 : decode cX12_shrunk 18 = .ok (.aload_n 0, 1) := by decide +kernel
theorem dX12_shrunk_19 : decode cX12_shrunk 19 = .ok (.getfield 74, 3) := by decide +kernel
theorem dX12_shrunk_22 : decode cX12_shrunk 22 = .ok (.iconst 0, 1) := by decide +kernel
theorem dX12_shrunk_23 : decode cX12_shrunk 23 = .ok (.iaload, 1) := by decide +kernel
theorem dX12_shrunk_24 : decode cX12_shrunk 24 = .ok (.iconst 1, 1) := by decide +kernel
theorem dX12_shrunk_25 : decode cX12_shrunk 25 = .ok (.isub, 1) := by decide +kernel
theorem dX12_shrunk_26 : decode cX12_shrunk 26 = .ok (.invokestatic 237, 3) := by decide +kernel
theorem dX12_shrunk_29 : decode cX12_shrunk 29 = .ok (.ifCond .eq 12, 3) := by decide +kernel
theorem dX12_shrunk_41 : decode cX12_shrunk 41 = .ok (.iconst (-1), 1) := by decide +kernel
theorem dX12_shrunk_42 : decode cX12_shrunk 42 = .ok (.ireturn, 1) := by decide +kernel
theorem dX12_sorts_0 : decode cX12_sorts 0 = .ok (.iconst 0, 1) := by decide +kernel
theorem dX12_sorts_1 : decode cX12_sorts 1 = .ok (.istore_n 1, 1) := by decide +kernel
theorem dX12_sorts_2 : decode cX12_sorts 2 = .ok (.iconst 0, 1) := by decide +kernel
theorem dX12_sorts_3 : decode cX12_sorts 3 = .ok (.istore_n 2, 1) := by decide +kernel
theorem dX12_sorts_4 : decode cX12_sorts 4 = .ok (.iload_n 2, 1) := by decide +kernel
theorem dX12_sorts_5 : decode cX12_sorts 5 = .ok (.aload_n 0, 1) := by decide +kernel
theorem dX12_sorts_6 : decode cX12_sorts 6 = .ok (.invokevirtual 244, 3) := by decide +kernel
theorem dX12_sorts_9 : decode cX12_sorts 9 = .ok (.if_icmp .ge 99, 3) := by decide +kernel
theorem dX12_sorts_108 : decode cX12_sorts 108 = .ok (.iload_n 1, 1) := by decide +kernel
theorem dX12_sorts_109 : decode cX12_sorts 109 = .ok (.ireturn, 1) := by decide +kernel
theorem dX12_stuck_0 : decode cX12_stuck 0 = .ok (.aload_n 0, 1) := by decide +kernel
theorem dX12_stuck_1 : decode cX12_stuck 1 = .ok (.iload_n 1, 1) := by decide +kernel
theorem dX12_stuck_2 : decode cX12_stuck 2 = .ok (.invokevirtual 258, 3) := by decide +kernel
theorem dX12_stuck_5 : decode cX12_stuck 5 = .ok (.ifCond .eq 35, 3) := by decide +kernel
theorem dX12_stuck_8 : decode cX12_stuck 8 = .ok (.iload_n 2, 1) := by decide +kernel
theorem dX12_stuck_9 : decode cX12_stuck 9 = .ok (.iconst 0, 1) := by decide +kernel
theorem dX12_stuck_10 : decode cX12_stuck 10 = .ok (.aload_n 0, 1) := by decide +kernel
theorem dX12_stuck_11 : decode cX12_stuck 11 = .ok (.getfield 203, 3) := by decide +kernel
theorem dX12_stuck_14 : decode cX12_stuck 14 = .ok (.iconst 1, 1) := by decide +kernel
theorem dX12_stuck_15 : decode cX12_stuck 15 = .ok (.isub, 1) := by decide +kernel
theorem dX12_stuck_16 : decode cX12_stuck 16 = .ok (.invokestatic 237, 3) := by decide +kernel
theorem dX12_stuck_19 : decode cX12_stuck 19 = .ok (.ifCond .eq 21, 3) := by decide +kernel
theorem dX12_stuck_40 : decode cX12_stuck 40 = .ok (.iconst (-1), 1) := by decide +kernel
theorem dX12_stuck_41 : decode cX12_stuck 41 = .ok (.ireturn, 1) := by decide +kernel
theorem dX12_swap_0 : decode cX12_swap 0 = .ok (.aload_n 0, 1) := by decide +kernel
theorem dX12_swap_1 : decode cX12_swap 1 = .ok (.iload_n 1, 1) := by decide +kernel
theorem dX12_swap_2 : decode cX12_swap 2 = .ok (.invokevirtual 272, 3) := by decide +kernel
theorem dX12_swap_5 : decode cX12_swap 5 = .ok (.ifCond .eq 13, 3) := by decide +kernel
theorem dX12_swap_18 : decode cX12_swap 18 = .ok (.iconst 0, 1) := by decide +kernel
theorem dX12_swap_19 : decode cX12_swap 19 = .ok (.ireturn, 1) := by decide +kernel
theorem dX12_table_0 : decode cX12_table 0 = .ok (.aload_n 0, 1) := by decide +kernel
theorem dX12_table_1 : decode cX12_table 1 = .ok (.getfield 209, 3) := by decide +kernel
theorem dX12_table_4 : decode cX12_table 4 = .ok (.ifCond .ne 5, 3) := by decide +kernel
theorem dX12_table_7 : decode cX12_table 7 = .ok (.iconst (-1), 1) := by decide +kernel
theorem dX12_table_8 : decode cX12_table 8 = .ok (.ireturn, 1) := by decide +kernel
theorem dX12_take_0 : decode cX12_take 0 = .ok (.aload_n 0, 1) := by decide +kernel
theorem dX12_take_1 : decode cX12_take 1 = .ok (.iload_n 1, 1) := by decide +kernel
theorem dX12_take_2 : decode cX12_take 2 = .ok (.invokevirtual 272, 3) := by decide +kernel
theorem dX12_take_5 : decode cX12_take 5 = .ok (.ifCond .ne 5, 3) := by decide +kernel
theorem dX12_take_8 : decode cX12_take 8 = .ok (.iconst 0, 1) := by decide +kernel
theorem dX12_take_9 : decode cX12_take 9 = .ok (.ireturn, 1) := by decide +kernel
theorem dX12_terms_0 : decode cX12_terms 0 = .ok (.iload_n 1, 1) := by decide +kernel
theorem dX12_terms_1 : decode cX12_terms 1 = .ok (.iconst 0, 1) := by decide +kernel
theorem dX12_terms_2 : decode cX12_terms 2 = .ok (.aload_n 0, 1) := by decide +kernel
theorem dX12_terms_3 : decode cX12_terms 3 = .ok (.getfield 203, 3) := by decide +kernel
theorem dX12_terms_6 : decode cX12_terms 6 = .ok (.iconst 1, 1) := by decide +kernel
theorem dX12_terms_7 : decode cX12_terms 7 = .ok (.isub, 1) := by decide +kernel
theorem dX12_terms_8 : decode cX12_terms 8 = .ok (.invokestatic 237, 3) := by decide +kernel
theorem dX12_terms_11 : decode cX12_terms 11 = .ok (.ifCond .eq 11, 3) := by decide +kernel
theorem dX12_terms_22 : decode cX12_terms 22 = .ok (.iconst (-1), 1) := by decide +kernel
theorem dX12_terms_23 : decode cX12_terms 23 = .ok (.ireturn, 1) := by decide +kernel
theorem dX12_test_0 : decode cX12_test 0 = .ok (.iload_n 1, 1) := by decide +kernel
theorem dX12_test_1 : decode cX12_test 1 = .ok (.iconst (-1), 1) := by decide +kernel
theorem dX12_test_2 : decode cX12_test 2 = .ok (.if_icmp .ge 5, 3) := by decide +kernel
theorem dX12_test_5 : decode cX12_test 5 = .ok (.iconst (-1), 1) := by decide +kernel
theorem dX12_test_6 : decode cX12_test 6 = .ok (.ireturn, 1) := by decide +kernel
theorem dX12_test_7 : decode cX12_test 7 = .ok (.aload_n 0, 1) := by decide +kernel
theorem dX12_test_8 : decode cX12_test 8 = .ok (.invokevirtual 394, 3) := by decide +kernel
theorem dX12_test_11 : decode cX12_test 11 = .ok (.istore_n 2, 1) := by decide +kernel
theorem dX12_test_12 : decode cX12_test 12 = .ok (.iconst 0, 1) := by decide +kernel
theorem dX12_test_13 : decode cX12_test 13 = .ok (.istore_n 3, 1) := by decide +kernel
theorem dX12_test_14 : decode cX12_test 14 = .ok (.iconst 0, 1) := by decide +kernel
theorem dX12_test_15 : decode cX12_test 15 = .ok (.istore 4, 2) := by decide +kernel
theorem dX12_test_17 : decode cX12_test 17 = .ok (.iload 4, 2) := by decide +kernel
theorem dX12_test_19 : decode cX12_test 19 = .ok (.aload_n 0, 1) := by decide +kernel
theorem dX12_test_20 : decode cX12_test 20 = .ok (.invokevirtual 248, 3) := by decide +kernel
theorem dX12_test_23 : decode cX12_test 23 = .ok (.if_icmp .ge 32, 3) := by decide +kernel
theorem dX12_test_26 : decode cX12_test 26 = .ok (.iload_n 2, 1) := by decide +kernel
theorem dX12_test_27 : decode cX12_test 27 = .ok (.iload 4, 2) := by decide +kernel
theorem dX12_test_29 : decode cX12_test 29 = .ok (.invokestatic 261, 3) := by decide +kernel
theorem dX12_test_32 : decode cX12_test 32 = .ok (.ifCond .ne 6, 3) := by decide +kernel
theorem dX12_test_35 : decode cX12_test 35 = .ok (.goto 14, 3) := by decide +kernel
theorem dX12_test_49 : decode cX12_test 49 = .ok (.iinc 4 1, 3) := by decide +kernel
theorem dX12_test_52 : decode cX12_test 52 = .ok (.goto (-35), 3) := by decide +kernel
theorem dX12_test_55 : decode cX12_test 55 = .ok (.iload_n 1, 1) := by decide +kernel
theorem dX12_test_56 : decode cX12_test 56 = .ok (.iconst (-1), 1) := by decide +kernel
theorem dX12_test_57 : decode cX12_test 57 = .ok (.if_icmp .ne 7, 3) := by decide +kernel
theorem dX12_test_60 : decode cX12_test 60 = .ok (.iload_n 3, 1) := by decide +kernel
theorem dX12_test_61 : decode cX12_test 61 = .ok (.goto 4, 3) := by decide +kernel
theorem dX12_test_64 : decode cX12_test 64 = .ok (.iconst (-1), 1) := by decide +kernel
theorem dX12_test_65 : decode cX12_test 65 = .ok (.ireturn, 1) := by decide +kernel
theorem dX12_testRows_0 : decode cX12_testRows 0 = .ok (.iconst 0, 1) := by decide +kernel
theorem dX12_testRows_1 : decode cX12_testRows 1 = .ok (.istore_n 1, 1) := by decide +kernel
theorem dX12_testRows_2 : decode cX12_testRows 2 = .ok (.iconst 0, 1) := by decide +kernel
theorem dX12_testRows_3 : decode cX12_testRows 3 = .ok (.istore_n 2, 1) := by decide +kernel
theorem dX12_testRows_4 : decode cX12_testRows 4 = .ok (.iload_n 2, 1) := by decide +kernel
theorem dX12_testRows_5 : decode cX12_testRows 5 = .ok (.aload_n 0, 1) := by decide +kernel
theorem dX12_testRows_6 : decode cX12_testRows 6 = .ok (.invokevirtual 248, 3) := by decide +kernel
theorem dX12_testRows_9 : decode cX12_testRows 9 = .ok (.if_icmp .ge 29, 3) := by decide +kernel
theorem dX12_testRows_12 : decode cX12_testRows 12 = .ok (.aload_n 0, 1) := by decide +kernel
theorem dX12_testRows_13 : decode cX12_testRows 13 = .ok (.getfield 117, 3) := by decide +kernel
theorem dX12_testRows_16 : decode cX12_testRows 16 = .ok (.iload_n 2, 1) := by decide +kernel
theorem dX12_testRows_17 : decode cX12_testRows 17 = .ok (.aload_n 0, 1) := by decide +kernel
theorem dX12_testRows_18 : decode cX12_testRows 18 = .ok (.iload_n 2, 1) := by decide +kernel
theorem dX12_testRows_19 : decode cX12_testRows 19 = .ok (.invokevirtual 388, 3) := by decide +kernel
theorem dX12_testRows_22 : decode cX12_testRows 22 = .ok (.iastore, 1) := by decide +kernel
theorem dX12_testRows_23 : decode cX12_testRows 23 = .ok (.iload_n 1, 1) := by decide +kernel
theorem dX12_testRows_24 : decode cX12_testRows 24 = .ok (.aload_n 0, 1) := by decide +kernel
theorem dX12_testRows_25 : decode cX12_testRows 25 = .ok (.getfield 117, 3) := by decide +kernel
theorem dX12_testRows_28 : decode cX12_testRows 28 = .ok (.iload_n 2, 1) := by decide +kernel
theorem dX12_testRows_29 : decode cX12_testRows 29 = .ok (.iaload, 1) := by decide +kernel
theorem dX12_testRows_30 : decode cX12_testRows 30 = .ok (.ior, 1) := by decide +kernel
theorem dX12_testRows_31 : decode cX12_testRows 31 = .ok (.istore_n 1, 1) := by decide +kernel
theorem dX12_testRows_32 : decode cX12_testRows 32 = .ok (.iinc 2 1, 3) := by decide +kernel
theorem dX12_testRows_35 : decode cX12_testRows 35 = .ok (.goto (-31), 3) := by decide +kernel
theorem dX12_testRows_38 : decode cX12_testRows 38 = .ok (.iconst (-1), 1) := by decide +kernel
theorem dX12_testRows_39 : decode cX12_testRows 39 = .ok (.istore_n 2, 1) := by decide +kernel
theorem dX12_testRows_40 : decode cX12_testRows 40 = .ok (.iconst 0, 1) := by decide +kernel
theorem dX12_testRows_41 : decode cX12_testRows 41 = .ok (.istore_n 3, 1) := by decide +kernel
theorem dX12_testRows_42 : decode cX12_testRows 42 = .ok (.iload_n 3, 1) := by decide +kernel
theorem dX12_testRows_43 : decode cX12_testRows 43 = .ok (.iconst 1, 1) := by decide +kernel
theorem dX12_testRows_44 : decode cX12_testRows 44 = .ok (.aload_n 0, 1) := by decide +kernel
theorem dX12_testRows_45 : decode cX12_testRows 45 = .ok (.invokevirtual 248, 3) := by decide +kernel
theorem dX12_testRows_48 : decode cX12_testRows 48 = .ok (.ishl, 1) := by decide +kernel
theorem dX12_testRows_49 : decode cX12_testRows 49 = .ok (.if_icmp .ge 74, 3) := by decide +kernel
theorem dX12_testRows_52 : decode cX12_testRows 52 = .ok (.iload_n 2, 1) := by decide +kernel
theorem dX12_testRows_53 : decode cX12_testRows 53 = .ok (.ifCond .lt 14, 3) := by decide +kernel
theorem dX12_testRows_56 : decode cX12_testRows 56 = .ok (.iload_n 3, 1) := by decide +kernel
theorem dX12_testRows_57 : decode cX12_testRows 57 = .ok (.iload_n 2, 1) := by decide +kernel
theorem dX12_testRows_58 : decode cX12_testRows 58 = .ok (.invokestatic 391, 3) := by decide +kernel
theorem dX12_testRows_61 : decode cX12_testRows 61 = .ok (.ifCond .ne 6, 3) := by decide +kernel
theorem dX12_testRows_64 : decode cX12_testRows 64 = .ok (.goto 53, 3) := by decide +kernel
theorem dX12_testRows_67 : decode cX12_testRows 67 = .ok (.iconst 0, 1) := by decide +kernel
theorem dX12_testRows_68 : decode cX12_testRows 68 = .ok (.istore 4, 2) := by decide +kernel
theorem dX12_testRows_70 : decode cX12_testRows 70 = .ok (.iconst 0, 1) := by decide +kernel
theorem dX12_testRows_71 : decode cX12_testRows 71 = .ok (.istore 5, 2) := by decide +kernel
theorem dX12_testRows_73 : decode cX12_testRows 73 = .ok (.iload 5, 2) := by decide +kernel
theorem dX12_testRows_75 : decode cX12_testRows 75 = .ok (.aload_n 0, 1) := by decide +kernel
theorem dX12_testRows_76 : decode cX12_testRows 76 = .ok (.invokevirtual 248, 3) := by decide +kernel
theorem dX12_testRows_79 : decode cX12_testRows 79 = .ok (.if_icmp .ge 30, 3) := by decide +kernel
theorem dX12_testRows_82 : decode cX12_testRows 82 = .ok (.iload_n 3, 1) := by decide +kernel
theorem dX12_testRows_83 : decode cX12_testRows 83 = .ok (.iload 5, 2) := by decide +kernel
theorem dX12_testRows_85 : decode cX12_testRows 85 = .ok (.invokestatic 261, 3) := by decide +kernel
theorem dX12_testRows_88 : decode cX12_testRows 88 = .ok (.ifCond .eq 15, 3) := by decide +kernel
theorem dX12_testRows_103 : decode cX12_testRows 103 = .ok (.iinc 5 1, 3) := by decide +kernel
theorem dX12_testRows_106 : decode cX12_testRows 106 = .ok (.goto (-33), 3) := by decide +kernel
theorem dX12_testRows_109 : decode cX12_testRows 109 = .ok (.iload 4, 2) := by decide +kernel
theorem dX12_testRows_111 : decode cX12_testRows 111 = .ok (.iload_n 1, 1) := by decide +kernel
theorem dX12_testRows_112 : decode cX12_testRows 112 = .ok (.if_icmp .ne 5, 3) := by decide +kernel
theorem dX12_testRows_115 : decode cX12_testRows 115 = .ok (.iload_n 3, 1) := by decide +kernel
theorem dX12_testRows_116 : decode cX12_testRows 116 = .ok (.istore_n 2, 1) := by decide +kernel
theorem dX12_testRows_117 : decode cX12_testRows 117 = .ok (.iinc 3 1, 3) := by decide +kernel
theorem dX12_testRows_120 : decode cX12_testRows 120 = .ok (.goto (-78), 3) := by decide +kernel
theorem dX12_testRows_123 : decode cX12_testRows 123 = .ok (.iload_n 2, 1) := by decide +kernel
theorem dX12_testRows_124 : decode cX12_testRows 124 = .ok (.ireturn, 1) := by decide +kernel
theorem dX12_token_0 : decode cX12_token 0 = .ok (.aload_n 0, 1) := by decide +kernel
theorem dX12_token_1 : decode cX12_token 1 = .ok (.getfield 20, 3) := by decide +kernel
theorem dX12_token_4 : decode cX12_token 4 = .ok (.aload_n 0, 1) := by decide +kernel
theorem dX12_token_5 : decode cX12_token 5 = .ok (.getfield 143, 3) := by decide +kernel
theorem dX12_token_8 : decode cX12_token 8 = .ok (.iload_n 1, 1) := by decide +kernel
theorem dX12_token_9 : decode cX12_token 9 = .ok (.iastore, 1) := by decide +kernel
theorem dX12_token_10 : decode cX12_token 10 = .ok (.aload_n 0, 1) := by decide +kernel
theorem dX12_token_11 : decode cX12_token 11 = .ok (.getfield 24, 3) := by decide +kernel
theorem dX12_token_14 : decode cX12_token 14 = .ok (.aload_n 0, 1) := by decide +kernel
theorem dX12_token_15 : decode cX12_token 15 = .ok (.getfield 143, 3) := by decide +kernel
theorem dX12_token_18 : decode cX12_token 18 = .ok (.iload_n 2, 1) := by decide +kernel
theorem dX12_token_19 : decode cX12_token 19 = .ok (.iastore, 1) := by decide +kernel
theorem dX12_token_20 : decode cX12_token 20 = .ok (.aload_n 0, 1) := by decide +kernel
theorem dX12_token_21 : decode cX12_token 21 = .ok (.getfield 27, 3) := by decide +kernel
theorem dX12_token_24 : decode cX12_token 24 = .ok (.aload_n 0, 1) := by decide +kernel
theorem dX12_token_25 : decode cX12_token 25 = .ok (.getfield 143, 3) := by decide +kernel
theorem dX12_token_28 : decode cX12_token 28 = .ok (.iload_n 3, 1) := by decide +kernel
theorem dX12_token_29 : decode cX12_token 29 = .ok (.iastore, 1) := by decide +kernel
theorem dX12_token_30 : decode cX12_token 30 = .ok (.aload_n 0, 1) := by decide +kernel
theorem dX12_token_31 : decode cX12_token 31 = .ok (.getfield 30, 3) := by decide +kernel
theorem dX12_token_34 : decode cX12_token 34 = .ok (.aload_n 0, 1) := by decide +kernel
theorem dX12_token_35 : decode cX12_token 35 = .ok (.getfield 143, 3) := by decide +kernel
theorem dX12_token_38 : decode cX12_token 38 = .ok (.lload 4, 2) := by decide +kernel
theorem dX12_token_40 : decode cX12_token 40 = .ok (.lastore, 1) := by decide +kernel
theorem dX12_token_41 : decode cX12_token 41 = .ok (.aload_n 0, 1) := by decide +kernel
theorem dX12_token_42 : decode cX12_token 42 = .ok (.dup, 1) := by decide +kernel
theorem dX12_token_43 : decode cX12_token 43 = .ok (.getfield 143, 3) := by decide +kernel
theorem dX12_token_46 : decode cX12_token 46 = .ok (.iconst 1, 1) := by decide +kernel
theorem dX12_token_47 : decode cX12_token 47 = .ok (.iadd, 1) := by decide +kernel
theorem dX12_token_48 : decode cX12_token 48 = .ok (.putfield 143, 3) := by decide +kernel
theorem dX12_token_51 : decode cX12_token 51 = .ok (.return_, 1) := by decide +kernel
theorem dX12_undo_0 : decode cX12_undo 0 = .ok (.aload_n 0, 1) := by decide +kernel
theorem dX12_undo_1 : decode cX12_undo 1 = .ok (.getfield 218, 3) := by decide +kernel
theorem dX12_undo_4 : decode cX12_undo 4 = .ok (.ifCond .ne 5, 3) := by decide +kernel
theorem dX12_undo_7 : decode cX12_undo 7 = .ok (.iconst 0, 1) := by decide +kernel
theorem dX12_undo_8 : decode cX12_undo 8 = .ok (.ireturn, 1) := by decide +kernel
theorem dX12_undone_0 : decode cX12_undone 0 = .ok (.aload_n 0, 1) := by decide +kernel
theorem dX12_undone_1 : decode cX12_undone 1 = .ok (.iload_n 1, 1) := by decide +kernel
theorem dX12_undone_2 : decode cX12_undone 2 = .ok (.invokevirtual 258, 3) := by decide +kernel
theorem dX12_undone_5 : decode cX12_undone 5 = .ok (.ifCond .ne 5, 3) := by decide +kernel
theorem dX12_undone_8 : decode cX12_undone 8 = .ok (.iconst (-1), 1) := by decide +kernel
theorem dX12_undone_9 : decode cX12_undone 9 = .ok (.ireturn, 1) := by decide +kernel
theorem dX12_undone_10 : decode cX12_undone 10 = .ok (.iload_n 1, 1) := by decide +kernel
theorem dX12_undone_11 : decode cX12_undone 11 = .ok (.istore_n 2, 1) := by decide +kernel
theorem dX12_undone_12 : decode cX12_undone 12 = .ok (.aload_n 0, 1) := by decide +kernel
theorem dX12_undone_13 : decode cX12_undone 13 = .ok (.invokevirtual 244, 3) := by decide +kernel
theorem dX12_undone_16 : decode cX12_undone 16 = .ok (.iconst 1, 1) := by decide +kernel
theorem dX12_undone_17 : decode cX12_undone 17 = .ok (.isub, 1) := by decide +kernel
theorem dX12_undone_18 : decode cX12_undone 18 = .ok (.istore_n 3, 1) := by decide +kernel
theorem dX12_undone_19 : decode cX12_undone 19 = .ok (.iload_n 3, 1) := by decide +kernel
theorem dX12_undone_20 : decode cX12_undone 20 = .ok (.ifCond .lt 19, 3) := by decide +kernel
theorem dX12_undone_39 : decode cX12_undone 39 = .ok (.iload_n 2, 1) := by decide +kernel
theorem dX12_undone_40 : decode cX12_undone 40 = .ok (.ireturn, 1) := by decide +kernel
theorem dX1_find_0 : decode cX1_find 0 = .ok (.aload_n 0, 1) := by decide +kernel
theorem dX1_find_1 : decode cX1_find 1 = .ok (.getfield 18, 3) := by decide +kernel
theorem dX1_find_4 : decode cX1_find 4 = .ok (.iconst 0, 1) := by decide +kernel
theorem dX1_find_5 : decode cX1_find 5 = .ok (.putfield 25, 3) := by decide +kernel
theorem dX1_find_8 : decode cX1_find 8 = .ok (.aload_n 0, 1) := by decide +kernel
theorem dX1_find_9 : decode cX1_find 9 = .ok (.getfield 22, 3) := by decide +kernel
theorem dX1_find_12 : decode cX1_find 12 = .ok (.iconst 0, 1) := by decide +kernel
theorem dX1_find_13 : decode cX1_find 13 = .ok (.putfield 25, 3) := by decide +kernel
theorem dX1_find_16 : decode cX1_find 16 = .ok (.iconst 0, 1) := by decide +kernel
theorem dX1_find_17 : decode cX1_find 17 = .ok (.istore_n 3, 1) := by decide +kernel
theorem dX1_find_18 : decode cX1_find 18 = .ok (.iload_n 3, 1) := by decide +kernel
theorem dX1_find_19 : decode cX1_find 19 = .ok (.iload_n 1, 1) := by decide +kernel
theorem dX1_find_20 : decode cX1_find 20 = .ok (.if_icmp .ge 81, 3) := by decide +kernel
theorem dX1_find_23 : decode cX1_find 23 = .ok (.iload_n 3, 1) := by decide +kernel
theorem dX1_find_24 : decode cX1_find 24 = .ok (.aload_n 0, 1) := by decide +kernel
theorem dX1_find_25 : decode cX1_find 25 = .ok (.getfield 9, 3) := by decide +kernel
theorem dX1_find_28 : decode cX1_find 28 = .ok (.arraylength, 1) := by decide +kernel
theorem dX1_find_29 : decode cX1_find 29 = .ok (.if_icmp .ge 72, 3) := by decide +kernel
theorem dX1_find_32 : decode cX1_find 32 = .ok (.aload_n 0, 1) := by decide +kernel
theorem dX1_find_33 : decode cX1_find 33 = .ok (.getfield 9, 3) := by decide +kernel
theorem dX1_find_36 : decode cX1_find 36 = .ok (.iload_n 3, 1) := by decide +kernel
theorem dX1_find_37 : decode cX1_find 37 = .ok (.iaload, 1) := by decide +kernel
theorem dX1_find_38 : decode cX1_find 38 = .ok (.istore 4, 2) := by decide +kernel
theorem dX1_find_40 : decode cX1_find 40 = .ok (.iload_n 2, 1) := by decide +kernel
theorem dX1_find_41 : decode cX1_find 41 = .ok (.ifCond .eq 12, 3) := by decide +kernel
theorem dX1_find_44 : decode cX1_find 44 = .ok (.aload_n 0, 1) := by decide +kernel
theorem dX1_find_45 : decode cX1_find 45 = .ok (.iload_n 3, 1) := by decide +kernel
theorem dX1_find_46 : decode cX1_find 46 = .ok (.iload_n 1, 1) := by decide +kernel
theorem dX1_find_47 : decode cX1_find 47 = .ok (.invokevirtual 29, 3) := by decide +kernel
theorem dX1_find_50 : decode cX1_find 50 = .ok (.goto 5, 3) := by decide +kernel
theorem dX1_find_53 : decode cX1_find 53 = .ok (.iload 4, 2) := by decide +kernel
theorem dX1_find_55 : decode cX1_find 55 = .ok (.istore 5, 2) := by decide +kernel
theorem dX1_find_57 : decode cX1_find 57 = .ok (.iload_n 3, 1) := by decide +kernel
theorem dX1_find_58 : decode cX1_find 58 = .ok (.iload 5, 2) := by decide +kernel
theorem dX1_find_60 : decode cX1_find 60 = .ok (.ixor, 1) := by decide +kernel
theorem dX1_find_61 : decode cX1_find 61 = .ok (.invokestatic 33, 3) := by decide +kernel
theorem dX1_find_64 : decode cX1_find 64 = .ok (.iload_n 3, 1) := by decide +kernel
theorem dX1_find_65 : decode cX1_find 65 = .ok (.iload 4, 2) := by decide +kernel
theorem dX1_find_67 : decode cX1_find 67 = .ok (.ixor, 1) := by decide +kernel
theorem dX1_find_68 : decode cX1_find 68 = .ok (.invokestatic 33, 3) := by decide +kernel
theorem dX1_find_71 : decode cX1_find 71 = .ok (.if_icmp .ge 15, 3) := by decide +kernel
theorem dX1_find_86 : decode cX1_find 86 = .ok (.aload_n 0, 1) := by decide +kernel
theorem dX1_find_87 : decode cX1_find 87 = .ok (.iload_n 3, 1) := by decide +kernel
theorem dX1_find_88 : decode cX1_find 88 = .ok (.iload 4, 2) := by decide +kernel
theorem dX1_find_90 : decode cX1_find 90 = .ok (.iload_n 1, 1) := by decide +kernel
theorem dX1_find_91 : decode cX1_find 91 = .ok (.iconst 0, 1) := by decide +kernel
theorem dX1_find_92 : decode cX1_find 92 = .ok (.invokevirtual 39, 3) := by decide +kernel
theorem dX1_find_95 : decode cX1_find 95 = .ok (.iinc 3 1, 3) := by decide +kernel
theorem dX1_find_98 : decode cX1_find 98 = .ok (.goto (-80), 3) := by decide +kernel
theorem dX1_find_101 : decode cX1_find 101 = .ok (.aload_n 0, 1) := by decide +kernel
theorem dX1_find_102 : decode cX1_find 102 = .ok (.getfield 22, 3) := by decide +kernel
theorem dX1_find_105 : decode cX1_find 105 = .ok (.getfield 25, 3) := by decide +kernel
theorem dX1_find_108 : decode cX1_find 108 = .ok (.iconst 1, 1) := by decide +kernel
theorem dX1_find_109 : decode cX1_find 109 = .ok (.isub, 1) := by decide +kernel
theorem dX1_find_110 : decode cX1_find 110 = .ok (.istore_n 3, 1) := by decide +kernel
theorem dX1_find_111 : decode cX1_find 111 = .ok (.iload_n 3, 1) := by decide +kernel
theorem dX1_find_112 : decode cX1_find 112 = .ok (.ifCond .lt 24, 3) := by decide +kernel
theorem dX1_find_136 : decode cX1_find 136 = .ok (.return_, 1) := by decide +kernel
theorem dX1_init_0 : decode cX1_init 0 = .ok (.aload_n 0, 1) := by decide +kernel
theorem dX1_init_1 : decode cX1_init 1 = .ok (.invokespecial 3, 3) := by decide +kernel
theorem dX1_init_4 : decode cX1_init 4 = .ok (.aload_n 0, 1) := by decide +kernel
theorem dX1_init_5 : decode cX1_init 5 = .ok (.bipush 64, 2) := by decide +kernel
theorem dX1_init_7 : decode cX1_init 7 = .ok (.newarray .int, 2) := by decide +kernel
theorem dX1_init_9 : decode cX1_init 9 = .ok (.putfield 9, 3) := by decide +kernel
theorem dX1_init_12 : decode cX1_init 12 = .ok (.aload_n 0, 1) := by decide +kernel
theorem dX1_init_13 : decode cX1_init 13 = .ok (.new 13, 3) := by decide +kernel
theorem dX1_init_16 : decode cX1_init 16 = .ok (.dup, 1) := by decide +kernel
theorem dX1_init_17 : decode cX1_init 17 = .ok (.sipush 384, 3) := by decide +kernel
theorem dX1_init_20 : decode cX1_init 20 = .ok (.invokespecial 15, 3) := by decide +kernel
theorem dX1_init_23 : decode cX1_init 23 = .ok (.putfield 18, 3) := by decide +kernel
theorem dX1_init_26 : decode cX1_init 26 = .ok (.aload_n 0, 1) := by decide +kernel
theorem dX1_init_27 : decode cX1_init 27 = .ok (.new 13, 3) := by decide +kernel
theorem dX1_init_30 : decode cX1_init 30 = .ok (.dup, 1) := by decide +kernel
theorem dX1_init_31 : decode cX1_init 31 = .ok (.sipush 384, 3) := by decide +kernel
theorem dX1_init_34 : decode cX1_init 34 = .ok (.invokespecial 15, 3) := by decide +kernel
theorem dX1_init_37 : decode cX1_init 37 = .ok (.putfield 22, 3) := by decide +kernel
theorem dX1_init_40 : decode cX1_init 40 = .ok (.return_, 1) := by decide +kernel
theorem dX1_lead_0 : decode cX1_lead 0 = .ok (.iload_n 2, 1) := by decide +kernel
theorem dX1_lead_1 : decode cX1_lead 1 = .ok (.istore 5, 2) := by decide +kernel
theorem dX1_lead_3 : decode cX1_lead 3 = .ok (.iconst 0, 1) := by decide +kernel
theorem dX1_lead_4 : decode cX1_lead 4 = .ok (.istore 6, 2) := by decide +kernel
theorem dX1_lead_6 : decode cX1_lead 6 = .ok (.iload 6, 2) := by decide +kernel
theorem dX1_lead_8 : decode cX1_lead 8 = .ok (.bipush 6, 2) := by decide +kernel
theorem dX1_lead_10 : decode cX1_lead 10 = .ok (.if_icmp .ge 47, 3) := by decide +kernel
theorem dX1_lead_13 : decode cX1_lead 13 = .ok (.iload_n 1, 1) := by decide +kernel
theorem dX1_lead_14 : decode cX1_lead 14 = .ok (.iload 5, 2) := by decide +kernel
theorem dX1_lead_16 : decode cX1_lead 16 = .ok (.iconst (-1), 1) := by decide +kernel
theorem dX1_lead_17 : decode cX1_lead 17 = .ok (.ixor, 1) := by decide +kernel
theorem dX1_lead_18 : decode cX1_lead 18 = .ok (.iand, 1) := by decide +kernel
theorem dX1_lead_19 : decode cX1_lead 19 = .ok (.iconst 1, 1) := by decide +kernel
theorem dX1_lead_20 : decode cX1_lead 20 = .ok (.iload 6, 2) := by decide +kernel
theorem dX1_lead_22 : decode cX1_lead 22 = .ok (.ishl, 1) := by decide +kernel
theorem dX1_lead_23 : decode cX1_lead 23 = .ok (.iand, 1) := by decide +kernel
theorem dX1_lead_24 : decode cX1_lead 24 = .ok (.ifCond .eq 27, 3) := by decide +kernel
theorem dX1_lead_51 : decode cX1_lead 51 = .ok (.iinc 6 1, 3) := by decide +kernel
theorem dX1_lead_54 : decode cX1_lead 54 = .ok (.goto (-48), 3) := by decide +kernel
theorem dX1_lead_57 : decode cX1_lead 57 = .ok (.iconst 0, 1) := by decide +kernel
theorem dX1_lead_58 : decode cX1_lead 58 = .ok (.istore 6, 2) := by decide +kernel
theorem dX1_lead_60 : decode cX1_lead 60 = .ok (.iload 6, 2) := by decide +kernel
theorem dX1_lead_62 : decode cX1_lead 62 = .ok (.bipush 6, 2) := by decide +kernel
theorem dX1_lead_64 : decode cX1_lead 64 = .ok (.if_icmp .ge 49, 3) := by decide +kernel
theorem dX1_lead_67 : decode cX1_lead 67 = .ok (.iload 5, 2) := by decide +kernel
theorem dX1_lead_69 : decode cX1_lead 69 = .ok (.iload_n 1, 1) := by decide +kernel
theorem dX1_lead_70 : decode cX1_lead 70 = .ok (.iconst (-1), 1) := by decide +kernel
theorem dX1_lead_71 : decode cX1_lead 71 = .ok (.ixor, 1) := by decide +kernel
theorem dX1_lead_72 : decode cX1_lead 72 = .ok (.iand, 1) := by decide +kernel
theorem dX1_lead_73 : decode cX1_lead 73 = .ok (.iconst 1, 1) := by decide +kernel
theorem dX1_lead_74 : decode cX1_lead 74 = .ok (.iload 6, 2) := by decide +kernel
theorem dX1_lead_76 : decode cX1_lead 76 = .ok (.ishl, 1) := by decide +kernel
theorem dX1_lead_77 : decode cX1_lead 77 = .ok (.iand, 1) := by decide +kernel
theorem dX1_lead_78 : decode cX1_lead 78 = .ok (.ifCond .eq 29, 3) := by decide +kernel
theorem dX1_lead_107 : decode cX1_lead 107 = .ok (.iinc 6 1, 3) := by decide +kernel
theorem dX1_lead_110 : decode cX1_lead 110 = .ok (.goto (-50), 3) := by decide +kernel
theorem dX1_lead_113 : decode cX1_lead 113 = .ok (.return_, 1) := by decide +kernel
theorem dX1_sourceOf_0 : decode cX1_sourceOf 0 = .ok (.iconst 0, 1) := by decide +kernel
theorem dX1_sourceOf_1 : decode cX1_sourceOf 1 = .ok (.istore_n 3, 1) := by decide +kernel
theorem dX1_sourceOf_2 : decode cX1_sourceOf 2 = .ok (.iload_n 3, 1) := by decide +kernel
theorem dX1_sourceOf_3 : decode cX1_sourceOf 3 = .ok (.iload_n 2, 1) := by decide +kernel
theorem dX1_sourceOf_4 : decode cX1_sourceOf 4 = .ok (.if_icmp .ge 30, 3) := by decide +kernel
theorem dX1_sourceOf_7 : decode cX1_sourceOf 7 = .ok (.iload_n 3, 1) := by decide +kernel
theorem dX1_sourceOf_8 : decode cX1_sourceOf 8 = .ok (.aload_n 0, 1) := by decide +kernel
theorem dX1_sourceOf_9 : decode cX1_sourceOf 9 = .ok (.getfield 9, 3) := by decide +kernel
theorem dX1_sourceOf_12 : decode cX1_sourceOf 12 = .ok (.arraylength, 1) := by decide +kernel
theorem dX1_sourceOf_13 : decode cX1_sourceOf 13 = .ok (.if_icmp .ge 21, 3) := by decide +kernel
theorem dX1_sourceOf_16 : decode cX1_sourceOf 16 = .ok (.aload_n 0, 1) := by decide +kernel
theorem dX1_sourceOf_17 : decode cX1_sourceOf 17 = .ok (.getfield 9, 3) := by decide +kernel
theorem dX1_sourceOf_20 : decode cX1_sourceOf 20 = .ok (.iload_n 3, 1) := by decide +kernel
theorem dX1_sourceOf_21 : decode cX1_sourceOf 21 = .ok (.iaload, 1) := by decide +kernel
theorem dX1_sourceOf_22 : decode cX1_sourceOf 22 = .ok (.iload_n 1, 1) := by decide +kernel
theorem dX1_sourceOf_23 : decode cX1_sourceOf 23 = .ok (.if_icmp .ne 5, 3) := by decide +kernel
theorem dX1_sourceOf_26 : decode cX1_sourceOf 26 = .ok (.iload_n 3, 1) := by decide +kernel
theorem dX1_sourceOf_27 : decode cX1_sourceOf 27 = .ok (.ireturn, 1) := by decide +kernel
theorem dX3_begin_0 : decode cX3_begin 0 = .ok (.aload_n 1, 1) := by decide +kernel
theorem dX3_begin_1 : decode cX3_begin 1 = .ok (.invokevirtual 43, 3) := by decide +kernel
theorem dX3_begin_4 : decode cX3_begin 4 = .ok (.aload_n 0, 1) := by decide +kernel
theorem dX3_begin_5 : decode cX3_begin 5 = .ok (.iconst (-1), 1) := by decide +kernel
theorem dX3_begin_6 : decode cX3_begin 6 = .ok (.putfield 37, 3) := by decide +kernel
theorem dX3_begin_9 : decode cX3_begin 9 = .ok (.aload_n 0, 1) := by decide +kernel
theorem dX3_begin_10 : decode cX3_begin 10 = .ok (.iconst 0, 1) := by decide +kernel
theorem dX3_begin_11 : decode cX3_begin 11 = .ok (.putfield 27, 3) := by decide +kernel
theorem dX3_begin_14 : decode cX3_begin 14 = .ok (.aload_n 0, 1) := by decide +kernel
theorem dX3_begin_15 : decode cX3_begin 15 = .ok (.iconst 0, 1) := by decide +kernel
theorem dX3_begin_16 : decode cX3_begin 16 = .ok (.putfield 45, 3) := by decide +kernel
theorem dX3_begin_19 : decode cX3_begin 19 = .ok (.aload_n 0, 1) := by decide +kernel
theorem dX3_begin_20 : decode cX3_begin 20 = .ok (.iconst 0, 1) := by decide +kernel
theorem dX3_begin_21 : decode cX3_begin 21 = .ok (.putfield 48, 3) := by decide +kernel
theorem dX3_begin_24 : decode cX3_begin 24 = .ok (.return_, 1) := by decide +kernel
theorem dX3_check_0 : decode cX3_check 0 = .ok (.aload_n 0, 1) := by decide +kernel
theorem dX3_check_1 : decode cX3_check 1 = .ok (.aload_n 1, 1) := by decide +kernel
theorem dX3_check_2 : decode cX3_check 2 = .ok (.invokevirtual 9, 3) := by decide +kernel
theorem dX3_check_5 : decode cX3_check 5 = .ok (.aload_n 1, 1) := by decide +kernel
theorem dX3_check_6 : decode cX3_check 6 = .ok (.getfield 15, 3) := by decide +kernel
theorem dX3_check_9 : decode cX3_check 9 = .ok (.istore_n 2, 1) := by decide +kernel
theorem dX3_check_10 : decode cX3_check 10 = .ok (.iload_n 2, 1) := by decide +kernel
theorem dX3_check_11 : decode cX3_check 11 = .ok (.ifCond .lt 54, 3) := by decide +kernel
theorem dX3_check_14 : decode cX3_check 14 = .ok (.aload_n 1, 1) := by decide +kernel
theorem dX3_check_15 : decode cX3_check 15 = .ok (.invokevirtual 21, 3) := by decide +kernel
theorem dX3_check_18 : decode cX3_check 18 = .ok (.aload_n 1, 1) := by decide +kernel
theorem dX3_check_19 : decode cX3_check 19 = .ok (.getfield 24, 3) := by decide +kernel
theorem dX3_check_22 : decode cX3_check 22 = .ok (.iconst 1, 1) := by decide +kernel
theorem dX3_check_23 : decode cX3_check 23 = .ok (.if_icmp .ne 12, 3) := by decide +kernel
theorem dX3_check_26 : decode cX3_check 26 = .ok (.aload_n 0, 1) := by decide +kernel
theorem dX3_check_27 : decode cX3_check 27 = .ok (.getfield 27, 3) := by decide +kernel
theorem dX3_check_30 : decode cX3_check 30 = .ok (.ifCond .ne 5, 3) := by decide +kernel
theorem dX3_check_33 : decode cX3_check 33 = .ok (.iconst 0, 1) := by decide +kernel
theorem dX3_check_34 : decode cX3_check 34 = .ok (.ireturn, 1) := by decide +kernel
theorem dX3_init_0 : decode cX3_init 0 = .ok (.aload_n 0, 1) := by decide +kernel
theorem dX3_init_1 : decode cX3_init 1 = .ok (.invokespecial 3, 3) := by decide +kernel
theorem dX3_init_4 : decode cX3_init 4 = .ok (.return_, 1) := by decide +kernel
theorem dX4_bringBack_0 : decode cX4_bringBack 0 = .ok (.aload_n 0, 1) := by decide +kernel
theorem dX4_bringBack_1 : decode cX4_bringBack 1 = .ok (.getfield 20, 3) := by decide +kernel
theorem dX4_bringBack_4 : decode cX4_bringBack 4 = .ok (.ifCond .gt 5, 3) := by decide +kernel
theorem dX4_bringBack_7 : decode cX4_bringBack 7 = .ok (.iconst 0, 1) := by decide +kernel
theorem dX4_bringBack_8 : decode cX4_bringBack 8 = .ok (.ireturn, 1) := by decide +kernel
theorem dX4_clear_0 : decode cX4_clear 0 = .ok (.aload_n 0, 1) := by decide +kernel
