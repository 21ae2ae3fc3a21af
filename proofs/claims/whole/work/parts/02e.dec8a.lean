theorem dX8_init_0 : decode cX8_init 0 = .ok (.aload_n 0, 1) := by decide +kernel
theorem dX8_init_1 : decode cX8_init 1 = .ok (.invokespecial 1, 3) := by decide +kernel
theorem dX8_init_4 : decode cX8_init 4 = .ok (.aload_n 0, 1) := by decide +kernel
theorem dX8_init_5 : decode cX8_init 5 = .ok (.sipush 400, 3) := by decide +kernel
theorem dX8_init_8 : decode cX8_init 8 = .ok (.newarray .byte, 2) := by decide +kernel
theorem dX8_init_10 : decode cX8_init 10 = .ok (.putfield 7, 3) := by decide +kernel
theorem dX8_init_13 : decode cX8_init 13 = .ok (.aload_n 0, 1) := by decide +kernel
theorem dX8_init_14 : decode cX8_init 14 = .ok (.sipush 2400, 3) := by decide +kernel
theorem dX8_init_17 : decode cX8_init 17 = .ok (.newarray .int, 2) := by decide +kernel
theorem dX8_init_19 : decode cX8_init 19 = .ok (.putfield 13, 3) := by decide +kernel
theorem dX8_init_22 : decode cX8_init 22 = .ok (.aload_n 0, 1) := by decide +kernel
theorem dX8_init_23 : decode cX8_init 23 = .ok (.bipush 7, 2) := by decide +kernel
theorem dX8_init_25 : decode cX8_init 25 = .ok (.newarray .int, 2) := by decide +kernel
theorem dX8_init_27 : decode cX8_init 27 = .ok (.putfield 17, 3) := by decide +kernel
theorem dX8_init_30 : decode cX8_init 30 = .ok (.aload_n 0, 1) := by decide +kernel
theorem dX8_init_31 : decode cX8_init 31 = .ok (.sipush 144, 3) := by decide +kernel
theorem dX8_init_34 : decode cX8_init 34 = .ok (.newarray .int, 2) := by decide +kernel
theorem dX8_init_36 : decode cX8_init 36 = .ok (.putfield 20, 3) := by decide +kernel
theorem dX8_init_39 : decode cX8_init 39 = .ok (.aload_n 0, 1) := by decide +kernel
theorem dX8_init_40 : decode cX8_init 40 = .ok (.bipush 6, 2) := by decide +kernel
theorem dX8_init_42 : decode cX8_init 42 = .ok (.newarray .int, 2) := by decide +kernel
theorem dX8_init_44 : decode cX8_init 44 = .ok (.putfield 23, 3) := by decide +kernel
theorem dX8_init_47 : decode cX8_init 47 = .ok (.aload_n 0, 1) := by decide +kernel
theorem dX8_init_48 : decode cX8_init 48 = .ok (.bipush 16, 2) := by decide +kernel
theorem dX8_init_50 : decode cX8_init 50 = .ok (.newarray .int, 2) := by decide +kernel
theorem dX8_init_52 : decode cX8_init 52 = .ok (.putfield 26, 3) := by decide +kernel
theorem dX8_init_55 : decode cX8_init 55 = .ok (.aload_n 0, 1) := by decide +kernel
theorem dX8_init_56 : decode cX8_init 56 = .ok (.bipush 24, 2) := by decide +kernel
theorem dX8_init_58 : decode cX8_init 58 = .ok (.newarray .int, 2) := by decide +kernel
theorem dX8_init_60 : decode cX8_init 60 = .ok (.putfield 29, 3) := by decide +kernel
theorem dX8_init_63 : decode cX8_init 63 = .ok (.aload_n 0, 1) := by decide +kernel
theorem dX8_init_64 : decode cX8_init 64 = .ok (.sipush 400, 3) := by decide +kernel
theorem dX8_init_67 : decode cX8_init 67 = .ok (.newarray .int, 2) := by decide +kernel
theorem dX8_init_69 : decode cX8_init 69 = .ok (.putfield 32, 3) := by decide +kernel
theorem dX8_init_72 : decode cX8_init 72 = .ok (.aload_n 0, 1) := by decide +kernel
theorem dX8_init_73 : decode cX8_init 73 = .ok (.bipush 64, 2) := by decide +kernel
theorem dX8_init_75 : decode cX8_init 75 = .ok (.newarray .long, 2) := by decide +kernel
theorem dX8_init_77 : decode cX8_init 77 = .ok (.putfield 35, 3) := by decide +kernel
theorem dX8_init_80 : decode cX8_init 80 = .ok (.aload_n 0, 1) := by decide +kernel
theorem dX8_init_81 : decode cX8_init 81 = .ok (.bipush 10, 2) := by decide +kernel
theorem dX8_init_83 : decode cX8_init 83 = .ok (.newarray .long, 2) := by decide +kernel
theorem dX8_init_85 : decode cX8_init 85 = .ok (.putfield 39, 3) := by decide +kernel
theorem dX8_init_88 : decode cX8_init 88 = .ok (.aload_n 0, 1) := by decide +kernel
theorem dX8_init_89 : decode cX8_init 89 = .ok (.bipush 93, 2) := by decide +kernel
theorem dX8_init_91 : decode cX8_init 91 = .ok (.newarray .int, 2) := by decide +kernel
theorem dX8_init_93 : decode cX8_init 93 = .ok (.putfield 42, 3) := by decide +kernel
theorem dX8_init_96 : decode cX8_init 96 = .ok (.aload_n 0, 1) := by decide +kernel
theorem dX8_init_97 : decode cX8_init 97 = .ok (.bipush 93, 2) := by decide +kernel
theorem dX8_init_99 : decode cX8_init 99 = .ok (.newarray .int, 2) := by decide +kernel
theorem dX8_init_101 : decode cX8_init 101 = .ok (.putfield 45, 3) := by decide +kernel
theorem dX8_init_104 : decode cX8_init 104 = .ok (.aload_n 0, 1) := by decide +kernel
theorem dX8_init_105 : decode cX8_init 105 = .ok (.sipush 21000, 3) := by decide +kernel
theorem dX8_init_108 : decode cX8_init 108 = .ok (.newarray .int, 2) := by decide +kernel
theorem dX8_init_110 : decode cX8_init 110 = .ok (.putfield 48, 3) := by decide +kernel
theorem dX8_init_113 : decode cX8_init 113 = .ok (.aload_n 0, 1) := by decide +kernel
theorem dX8_init_114 : decode cX8_init 114 = .ok (.sipush 1500, 3) := by decide +kernel
theorem dX8_init_117 : decode cX8_init 117 = .ok (.newarray .int, 2) := by decide +kernel
theorem dX8_init_119 : decode cX8_init 119 = .ok (.putfield 51, 3) := by decide +kernel
theorem dX8_init_122 : decode cX8_init 122 = .ok (.aload_n 0, 1) := by decide +kernel
theorem dX8_init_123 : decode cX8_init 123 = .ok (.sipush 1500, 3) := by decide +kernel
theorem dX8_init_126 : decode cX8_init 126 = .ok (.newarray .int, 2) := by decide +kernel
theorem dX8_init_128 : decode cX8_init 128 = .ok (.putfield 54, 3) := by decide +kernel
theorem dX8_init_131 : decode cX8_init 131 = .ok (.aload_n 0, 1) := by decide +kernel
theorem dX8_init_132 : decode cX8_init 132 = .ok (.sipush 1500, 3) := by decide +kernel
theorem dX8_init_135 : decode cX8_init 135 = .ok (.newarray .int, 2) := by decide +kernel
theorem dX8_init_137 : decode cX8_init 137 = .ok (.putfield 57, 3) := by decide +kernel
theorem dX8_init_140 : decode cX8_init 140 = .ok (.aload_n 0, 1) := by decide +kernel
theorem dX8_init_141 : decode cX8_init 141 = .ok (.sipush 1500, 3) := by decide +kernel
theorem dX8_init_144 : decode cX8_init 144 = .ok (.newarray .boolean, 2) := by decide +kernel
theorem dX8_init_146 : decode cX8_init 146 = .ok (.putfield 60, 3) := by decide +kernel
theorem dX8_init_149 : decode cX8_init 149 = .ok (.aload_n 0, 1) := by decide +kernel
theorem dX8_init_150 : decode cX8_init 150 = .ok (.sipush 1500, 3) := by decide +kernel
theorem dX8_init_153 : decode cX8_init 153 = .ok (.newarray .int, 2) := by decide +kernel
theorem dX8_init_155 : decode cX8_init 155 = .ok (.putfield 64, 3) := by decide +kernel
theorem dX8_init_158 : decode cX8_init 158 = .ok (.aload_n 0, 1) := by decide +kernel
theorem dX8_init_159 : decode cX8_init 159 = .ok (.sipush 1500, 3) := by decide +kernel
theorem dX8_init_162 : decode cX8_init 162 = .ok (.newarray .int, 2) := by decide +kernel
theorem dX8_init_164 : decode cX8_init 164 = .ok (.putfield 67, 3) := by decide +kernel
theorem dX8_init_167 : decode cX8_init 167 = .ok (.aload_n 0, 1) := by decide +kernel
theorem dX8_init_168 : decode cX8_init 168 = .ok (.sipush 4096, 3) := by decide +kernel
theorem dX8_init_171 : decode cX8_init 171 = .ok (.newarray .int, 2) := by decide +kernel
theorem dX8_init_173 : decode cX8_init 173 = .ok (.putfield 70, 3) := by decide +kernel
theorem dX8_init_176 : decode cX8_init 176 = .ok (.aload_n 0, 1) := by decide +kernel
theorem dX8_init_177 : decode cX8_init 177 = .ok (.sipush 372, 3) := by decide +kernel
theorem dX8_init_180 : decode cX8_init 180 = .ok (.newarray .int, 2) := by decide +kernel
theorem dX8_init_182 : decode cX8_init 182 = .ok (.putfield 73, 3) := by decide +kernel
theorem dX8_init_185 : decode cX8_init 185 = .ok (.aload_n 0, 1) := by decide +kernel
theorem dX8_init_186 : decode cX8_init 186 = .ok (.iconst 4, 1) := by decide +kernel
theorem dX8_init_187 : decode cX8_init 187 = .ok (.newarray .int, 2) := by decide +kernel
theorem dX8_init_189 : decode cX8_init 189 = .ok (.putfield 76, 3) := by decide +kernel
theorem dX8_init_192 : decode cX8_init 192 = .ok (.aload_n 0, 1) := by decide +kernel
theorem dX8_init_193 : decode cX8_init 193 = .ok (.iconst 3, 1) := by decide +kernel
theorem dX8_init_194 : decode cX8_init 194 = .ok (.newarray .int, 2) := by decide +kernel
theorem dX8_init_196 : decode cX8_init 196 = .ok (.putfield 79, 3) := by decide +kernel
theorem dX8_init_199 : decode cX8_init 199 = .ok (.aload_n 0, 1) := by decide +kernel
theorem dX8_init_200 : decode cX8_init 200 = .ok (.sipush 372, 3) := by decide +kernel
theorem dX8_init_203 : decode cX8_init 203 = .ok (.newarray .int, 2) := by decide +kernel
theorem dX8_init_205 : decode cX8_init 205 = .ok (.putfield 82, 3) := by decide +kernel
theorem dX8_init_208 : decode cX8_init 208 = .ok (.aload_n 0, 1) := by decide +kernel
theorem dX8_init_209 : decode cX8_init 209 = .ok (.iconst 4, 1) := by decide +kernel
theorem dX8_init_210 : decode cX8_init 210 = .ok (.newarray .boolean, 2) := by decide +kernel
theorem dX8_init_212 : decode cX8_init 212 = .ok (.putfield 85, 3) := by decide +kernel
theorem dX8_init_215 : decode cX8_init 215 = .ok (.aload_n 0, 1) := by decide +kernel
theorem dX8_init_216 : decode cX8_init 216 = .ok (.getfield 42, 3) := by decide +kernel
theorem dX8_init_219 : decode cX8_init 219 = .ok (.bipush 8, 2) := by decide +kernel
theorem dX8_init_221 : decode cX8_init 221 = .ok (.iconst (-1), 1) := by decide +kernel
theorem dX8_init_222 : decode cX8_init 222 = .ok (.iastore, 1) := by decide +kernel
theorem dX8_init_223 : decode cX8_init 223 = .ok (.return_, 1) := by decide +kernel
theorem dX8_in_0 : decode cX8_in 0 = .ok (.lload_n 0, 1) := by decide +kernel
theorem dX8_in_1 : decode cX8_in 1 = .ok (.lload_n 2, 1) := by decide +kernel
theorem dX8_in_2 : decode cX8_in 2 = .ok (.lcmp, 1) := by decide +kernel
theorem dX8_in_3 : decode cX8_in 3 = .ok (.ifCond .lt 14, 3) := by decide +kernel
theorem dX8_in_6 : decode cX8_in 6 = .ok (.lload_n 0, 1) := by decide +kernel
theorem dX8_in_7 : decode cX8_in 7 = .ok (.lload 4, 2) := by decide +kernel
theorem dX8_in_9 : decode cX8_in 9 = .ok (.lcmp, 1) := by decide +kernel
theorem dX8_in_10 : decode cX8_in 10 = .ok (.ifCond .gt 7, 3) := by decide +kernel
theorem dX8_in_13 : decode cX8_in 13 = .ok (.iconst 1, 1) := by decide +kernel
theorem dX8_in_14 : decode cX8_in 14 = .ok (.goto 4, 3) := by decide +kernel
theorem dX8_in_17 : decode cX8_in 17 = .ok (.iconst 0, 1) := by decide +kernel
theorem dX8_in_18 : decode cX8_in 18 = .ok (.ireturn, 1) := by decide +kernel
theorem dX8_isOf_0 : decode cX8_isOf 0 = .ok (.iload_n 0, 1) := by decide +kernel
theorem dX8_isOf_1 : decode cX8_isOf 1 = .ok (.iload_n 1, 1) := by decide +kernel
theorem dX8_isOf_2 : decode cX8_isOf 2 = .ok (.ishr, 1) := by decide +kernel
theorem dX8_isOf_3 : decode cX8_isOf 3 = .ok (.iconst 1, 1) := by decide +kernel
theorem dX8_isOf_4 : decode cX8_isOf 4 = .ok (.iand, 1) := by decide +kernel
theorem dX8_isOf_5 : decode cX8_isOf 5 = .ok (.iconst 1, 1) := by decide +kernel
theorem dX8_isOf_6 : decode cX8_isOf 6 = .ok (.if_icmp .ne 7, 3) := by decide +kernel
theorem dX8_isOf_9 : decode cX8_isOf 9 = .ok (.iconst 1, 1) := by decide +kernel
theorem dX8_isOf_10 : decode cX8_isOf 10 = .ok (.goto 4, 3) := by decide +kernel
theorem dX8_isOf_13 : decode cX8_isOf 13 = .ok (.iconst 0, 1) := by decide +kernel
theorem dX8_isOf_14 : decode cX8_isOf 14 = .ok (.ireturn, 1) := by decide +kernel
theorem dX8_bits_0 : decode cX8_bits 0 = .ok (.iconst 0, 1) := by decide +kernel
theorem dX8_bits_1 : decode cX8_bits 1 = .ok (.istore_n 1, 1) := by decide +kernel
theorem dX8_bits_2 : decode cX8_bits 2 = .ok (.iload_n 0, 1) := by decide +kernel
theorem dX8_bits_3 : decode cX8_bits 3 = .ok (.istore_n 2, 1) := by decide +kernel
theorem dX8_bits_4 : decode cX8_bits 4 = .ok (.iload_n 2, 1) := by decide +kernel
theorem dX8_bits_5 : decode cX8_bits 5 = .ok (.ifCond .eq 15, 3) := by decide +kernel
theorem dX8_bits_8 : decode cX8_bits 8 = .ok (.iinc 1 1, 3) := by decide +kernel
theorem dX8_bits_11 : decode cX8_bits 11 = .ok (.iload_n 2, 1) := by decide +kernel
theorem dX8_bits_12 : decode cX8_bits 12 = .ok (.iload_n 2, 1) := by decide +kernel
theorem dX8_bits_13 : decode cX8_bits 13 = .ok (.iconst 1, 1) := by decide +kernel
theorem dX8_bits_14 : decode cX8_bits 14 = .ok (.isub, 1) := by decide +kernel
theorem dX8_bits_15 : decode cX8_bits 15 = .ok (.iand, 1) := by decide +kernel
theorem dX8_bits_16 : decode cX8_bits 16 = .ok (.istore_n 2, 1) := by decide +kernel
theorem dX8_bits_17 : decode cX8_bits 17 = .ok (.goto (-13), 3) := by decide +kernel
theorem dX8_bits_20 : decode cX8_bits 20 = .ok (.iload_n 1, 1) := by decide +kernel
theorem dX8_bits_21 : decode cX8_bits 21 = .ok (.ireturn, 1) := by decide +kernel
theorem dX8_four_0 : decode cX8_four 0 = .ok (.bipush 24, 2) := by decide +kernel
theorem dX8_four_2 : decode cX8_four 2 = .ok (.istore_n 2, 1) := by decide +kernel
theorem dX8_four_3 : decode cX8_four 3 = .ok (.iload_n 2, 1) := by decide +kernel
theorem dX8_four_4 : decode cX8_four 4 = .ok (.ifCond .lt 32, 3) := by decide +kernel
theorem dX8_four_7 : decode cX8_four 7 = .ok (.aload_n 0, 1) := by decide +kernel
theorem dX8_four_8 : decode cX8_four 8 = .ok (.getfield 7, 3) := by decide +kernel
theorem dX8_four_11 : decode cX8_four 11 = .ok (.aload_n 0, 1) := by decide +kernel
theorem dX8_four_12 : decode cX8_four 12 = .ok (.getfield 88, 3) := by decide +kernel
theorem dX8_four_15 : decode cX8_four 15 = .ok (.iload_n 1, 1) := by decide +kernel
theorem dX8_four_16 : decode cX8_four 16 = .ok (.iload_n 2, 1) := by decide +kernel
theorem dX8_four_17 : decode cX8_four 17 = .ok (.ishr, 1) := by decide +kernel
theorem dX8_four_18 : decode cX8_four 18 = .ok (.i2b, 1) := by decide +kernel
theorem dX8_four_19 : decode cX8_four 19 = .ok (.bastore, 1) := by decide +kernel
theorem dX8_four_20 : decode cX8_four 20 = .ok (.aload_n 0, 1) := by decide +kernel
theorem dX8_four_21 : decode cX8_four 21 = .ok (.dup, 1) := by decide +kernel
theorem dX8_four_22 : decode cX8_four 22 = .ok (.getfield 88, 3) := by decide +kernel
theorem dX8_four_25 : decode cX8_four 25 = .ok (.iconst 1, 1) := by decide +kernel
theorem dX8_four_26 : decode cX8_four 26 = .ok (.iadd, 1) := by decide +kernel
theorem dX8_four_27 : decode cX8_four 27 = .ok (.putfield 88, 3) := by decide +kernel
theorem dX8_four_30 : decode cX8_four 30 = .ok (.iinc 2 (-8), 3) := by decide +kernel
theorem dX8_four_33 : decode cX8_four 33 = .ok (.goto (-30), 3) := by decide +kernel
theorem dX8_four_36 : decode cX8_four 36 = .ok (.return_, 1) := by decide +kernel
theorem dX8_feed_0 : decode cX8_feed 0 = .ok (.aload_n 0, 1) := by decide +kernel
theorem dX8_feed_1 : decode cX8_feed 1 = .ok (.getfield 88, 3) := by decide +kernel
theorem dX8_feed_4 : decode cX8_feed 4 = .ok (.bipush 20, 2) := by decide +kernel
theorem dX8_feed_6 : decode cX8_feed 6 = .ok (.iadd, 1) := by decide +kernel
theorem dX8_feed_7 : decode cX8_feed 7 = .ok (.sipush 400, 3) := by decide +kernel
theorem dX8_feed_10 : decode cX8_feed 10 = .ok (.if_icmp .le 5, 3) := by decide +kernel
theorem dX8_feed_13 : decode cX8_feed 13 = .ok (.iconst (-1), 1) := by decide +kernel
theorem dX8_feed_14 : decode cX8_feed 14 = .ok (.ireturn, 1) := by decide +kernel
theorem dX8_feed_15 : decode cX8_feed 15 = .ok (.aload_n 0, 1) := by decide +kernel
theorem dX8_feed_16 : decode cX8_feed 16 = .ok (.iload_n 1, 1) := by decide +kernel
theorem dX8_feed_17 : decode cX8_feed 17 = .ok (.invokevirtual 92, 3) := by decide +kernel
theorem dX8_feed_20 : decode cX8_feed 20 = .ok (.aload_n 0, 1) := by decide +kernel
theorem dX8_feed_21 : decode cX8_feed 21 = .ok (.iload_n 2, 1) := by decide +kernel
theorem dX8_feed_22 : decode cX8_feed 22 = .ok (.invokevirtual 92, 3) := by decide +kernel
theorem dX8_feed_25 : decode cX8_feed 25 = .ok (.aload_n 0, 1) := by decide +kernel
theorem dX8_feed_26 : decode cX8_feed 26 = .ok (.iload_n 3, 1) := by decide +kernel
theorem dX8_feed_27 : decode cX8_feed 27 = .ok (.invokevirtual 92, 3) := by decide +kernel
theorem dX8_feed_30 : decode cX8_feed 30 = .ok (.aload_n 0, 1) := by decide +kernel
theorem dX8_feed_31 : decode cX8_feed 31 = .ok (.iload 4, 2) := by decide +kernel
theorem dX8_feed_33 : decode cX8_feed 33 = .ok (.invokevirtual 92, 3) := by decide +kernel
theorem dX8_feed_36 : decode cX8_feed 36 = .ok (.aload_n 0, 1) := by decide +kernel
theorem dX8_feed_37 : decode cX8_feed 37 = .ok (.iload 5, 2) := by decide +kernel
theorem dX8_feed_39 : decode cX8_feed 39 = .ok (.invokevirtual 92, 3) := by decide +kernel
theorem dX8_feed_42 : decode cX8_feed 42 = .ok (.aload_n 0, 1) := by decide +kernel
theorem dX8_feed_43 : decode cX8_feed 43 = .ok (.getfield 88, 3) := by decide +kernel
theorem dX8_feed_46 : decode cX8_feed 46 = .ok (.ireturn, 1) := by decide +kernel
theorem dX8_end_0 : decode cX8_end 0 = .ok (.iload_n 1, 1) := by decide +kernel
theorem dX8_end_1 : decode cX8_end 1 = .ok (.ifCond .lt 11, 3) := by decide +kernel
theorem dX8_end_4 : decode cX8_end 4 = .ok (.iload_n 1, 1) := by decide +kernel
theorem dX8_end_5 : decode cX8_end 5 = .ok (.aload_n 0, 1) := by decide +kernel
theorem dX8_end_6 : decode cX8_end 6 = .ok (.getfield 88, 3) := by decide +kernel
theorem dX8_end_9 : decode cX8_end 9 = .ok (.if_icmp .le 5, 3) := by decide +kernel
theorem dX8_end_12 : decode cX8_end 12 = .ok (.iconst (-1), 1) := by decide +kernel
theorem dX8_end_13 : decode cX8_end 13 = .ok (.ireturn, 1) := by decide +kernel
theorem dX8_end_14 : decode cX8_end 14 = .ok (.aload_n 0, 1) := by decide +kernel
theorem dX8_end_15 : decode cX8_end 15 = .ok (.iload_n 1, 1) := by decide +kernel
theorem dX8_end_16 : decode cX8_end 16 = .ok (.putfield 88, 3) := by decide +kernel
theorem dX8_end_19 : decode cX8_end 19 = .ok (.iload_n 1, 1) := by decide +kernel
theorem dX8_end_20 : decode cX8_end 20 = .ok (.ireturn, 1) := by decide +kernel
theorem dX8_fails_0 : decode cX8_fails 0 = .ok (.aload_n 0, 1) := by decide +kernel
theorem dX8_fails_1 : decode cX8_fails 1 = .ok (.getfield 96, 3) := by decide +kernel
theorem dX8_fails_4 : decode cX8_fails 4 = .ok (.ifCond .ne 15, 3) := by decide +kernel
theorem dX8_fails_7 : decode cX8_fails 7 = .ok (.aload_n 0, 1) := by decide +kernel
theorem dX8_fails_8 : decode cX8_fails 8 = .ok (.iconst 1, 1) := by decide +kernel
theorem dX8_fails_9 : decode cX8_fails 9 = .ok (.bipush 8, 2) := by decide +kernel
theorem dX8_fails_11 : decode cX8_fails 11 = .ok (.iload_n 2, 1) := by decide +kernel
theorem dX8_fails_12 : decode cX8_fails 12 = .ok (.imul, 1) := by decide +kernel
theorem dX8_fails_13 : decode cX8_fails 13 = .ok (.iadd, 1) := by decide +kernel
theorem dX8_fails_14 : decode cX8_fails 14 = .ok (.iload_n 1, 1) := by decide +kernel
theorem dX8_fails_15 : decode cX8_fails 15 = .ok (.iadd, 1) := by decide +kernel
theorem dX8_fails_16 : decode cX8_fails 16 = .ok (.putfield 96, 3) := by decide +kernel
theorem dX8_fails_19 : decode cX8_fails 19 = .ok (.iconst 0, 1) := by decide +kernel
theorem dX8_fails_20 : decode cX8_fails 20 = .ok (.ireturn, 1) := by decide +kernel
theorem dX8_see_0 : decode cX8_see 0 = .ok (.aload_n 0, 1) := by decide +kernel
theorem dX8_see_1 : decode cX8_see 1 = .ok (.getfield 99, 3) := by decide +kernel
theorem dX8_see_4 : decode cX8_see 4 = .ok (.aload_n 0, 1) := by decide +kernel
theorem dX8_see_5 : decode cX8_see 5 = .ok (.getfield 88, 3) := by decide +kernel
theorem dX8_see_8 : decode cX8_see 8 = .ok (.if_icmp .ge 30, 3) := by decide +kernel
theorem dX8_see_11 : decode cX8_see 11 = .ok (.aload_n 0, 1) := by decide +kernel
theorem dX8_see_12 : decode cX8_see 12 = .ok (.getfield 7, 3) := by decide +kernel
theorem dX8_see_15 : decode cX8_see 15 = .ok (.aload_n 0, 1) := by decide +kernel
theorem dX8_see_16 : decode cX8_see 16 = .ok (.getfield 99, 3) := by decide +kernel
theorem dX8_see_19 : decode cX8_see 19 = .ok (.baload, 1) := by decide +kernel
theorem dX8_see_20 : decode cX8_see 20 = .ok (.bipush 32, 2) := by decide +kernel
theorem dX8_see_22 : decode cX8_see 22 = .ok (.if_icmp .ne 16, 3) := by decide +kernel
theorem dX8_see_25 : decode cX8_see 25 = .ok (.aload_n 0, 1) := by decide +kernel
theorem dX8_see_26 : decode cX8_see 26 = .ok (.dup, 1) := by decide +kernel
theorem dX8_see_27 : decode cX8_see 27 = .ok (.getfield 99, 3) := by decide +kernel
theorem dX8_see_30 : decode cX8_see 30 = .ok (.iconst 1, 1) := by decide +kernel
theorem dX8_see_31 : decode cX8_see 31 = .ok (.iadd, 1) := by decide +kernel
theorem dX8_see_32 : decode cX8_see 32 = .ok (.putfield 99, 3) := by decide +kernel
theorem dX8_see_35 : decode cX8_see 35 = .ok (.goto (-35), 3) := by decide +kernel
theorem dX8_see_38 : decode cX8_see 38 = .ok (.aload_n 0, 1) := by decide +kernel
theorem dX8_see_39 : decode cX8_see 39 = .ok (.getfield 99, 3) := by decide +kernel
theorem dX8_see_42 : decode cX8_see 42 = .ok (.aload_n 0, 1) := by decide +kernel
theorem dX8_see_43 : decode cX8_see 43 = .ok (.getfield 88, 3) := by decide +kernel
theorem dX8_see_46 : decode cX8_see 46 = .ok (.if_icmp .ge 19, 3) := by decide +kernel
theorem dX8_see_49 : decode cX8_see 49 = .ok (.aload_n 0, 1) := by decide +kernel
theorem dX8_see_50 : decode cX8_see 50 = .ok (.getfield 7, 3) := by decide +kernel
theorem dX8_see_53 : decode cX8_see 53 = .ok (.aload_n 0, 1) := by decide +kernel
theorem dX8_see_54 : decode cX8_see 54 = .ok (.getfield 99, 3) := by decide +kernel
theorem dX8_see_57 : decode cX8_see 57 = .ok (.baload, 1) := by decide +kernel
theorem dX8_see_58 : decode cX8_see 58 = .ok (.sipush 255, 3) := by decide +kernel
theorem dX8_see_61 : decode cX8_see 61 = .ok (.iand, 1) := by decide +kernel
theorem dX8_see_62 : decode cX8_see 62 = .ok (.goto 4, 3) := by decide +kernel
theorem dX8_see_65 : decode cX8_see 65 = .ok (.iconst (-1), 1) := by decide +kernel
theorem dX8_see_66 : decode cX8_see 66 = .ok (.ireturn, 1) := by decide +kernel
theorem dX8_isDigit_0 : decode cX8_isDigit 0 = .ok (.iload_n 1, 1) := by decide +kernel
theorem dX8_isDigit_1 : decode cX8_isDigit 1 = .ok (.aload_n 0, 1) := by decide +kernel
theorem dX8_isDigit_2 : decode cX8_isDigit 2 = .ok (.getfield 88, 3) := by decide +kernel
theorem dX8_isDigit_5 : decode cX8_isDigit 5 = .ok (.if_icmp .ge 29, 3) := by decide +kernel
theorem dX8_isDigit_8 : decode cX8_isDigit 8 = .ok (.aload_n 0, 1) := by decide +kernel
theorem dX8_isDigit_9 : decode cX8_isDigit 9 = .ok (.getfield 7, 3) := by decide +kernel
theorem dX8_isDigit_12 : decode cX8_isDigit 12 = .ok (.iload_n 1, 1) := by decide +kernel
theorem dX8_isDigit_13 : decode cX8_isDigit 13 = .ok (.baload, 1) := by decide +kernel
theorem dX8_isDigit_14 : decode cX8_isDigit 14 = .ok (.bipush 48, 2) := by decide +kernel
theorem dX8_isDigit_16 : decode cX8_isDigit 16 = .ok (.if_icmp .lt 18, 3) := by decide +kernel
theorem dX8_isDigit_19 : decode cX8_isDigit 19 = .ok (.aload_n 0, 1) := by decide +kernel
theorem dX8_isDigit_20 : decode cX8_isDigit 20 = .ok (.getfield 7, 3) := by decide +kernel
theorem dX8_isDigit_23 : decode cX8_isDigit 23 = .ok (.iload_n 1, 1) := by decide +kernel
theorem dX8_isDigit_24 : decode cX8_isDigit 24 = .ok (.baload, 1) := by decide +kernel
theorem dX8_isDigit_25 : decode cX8_isDigit 25 = .ok (.bipush 57, 2) := by decide +kernel
theorem dX8_isDigit_27 : decode cX8_isDigit 27 = .ok (.if_icmp .gt 7, 3) := by decide +kernel
theorem dX8_isDigit_30 : decode cX8_isDigit 30 = .ok (.iconst 1, 1) := by decide +kernel
theorem dX8_isDigit_31 : decode cX8_isDigit 31 = .ok (.goto 4, 3) := by decide +kernel
theorem dX8_isDigit_34 : decode cX8_isDigit 34 = .ok (.iconst 0, 1) := by decide +kernel
theorem dX8_isDigit_35 : decode cX8_isDigit 35 = .ok (.ireturn, 1) := by decide +kernel
theorem dX8_isLetter_0 : decode cX8_isLetter 0 = .ok (.iload_n 1, 1) := by decide +kernel
theorem dX8_isLetter_1 : decode cX8_isLetter 1 = .ok (.aload_n 0, 1) := by decide +kernel
theorem dX8_isLetter_2 : decode cX8_isLetter 2 = .ok (.getfield 88, 3) := by decide +kernel
theorem dX8_isLetter_5 : decode cX8_isLetter 5 = .ok (.if_icmp .ge 29, 3) := by decide +kernel
theorem dX8_isLetter_8 : decode cX8_isLetter 8 = .ok (.aload_n 0, 1) := by decide +kernel
theorem dX8_isLetter_9 : decode cX8_isLetter 9 = .ok (.getfield 7, 3) := by decide +kernel
theorem dX8_isLetter_12 : decode cX8_isLetter 12 = .ok (.iload_n 1, 1) := by decide +kernel
theorem dX8_isLetter_13 : decode cX8_isLetter 13 = .ok (.baload, 1) := by decide +kernel
theorem dX8_isLetter_14 : decode cX8_isLetter 14 = .ok (.bipush 97, 2) := by decide +kernel
theorem dX8_isLetter_16 : decode cX8_isLetter 16 = .ok (.if_icmp .lt 18, 3) := by decide +kernel
theorem dX8_isLetter_19 : decode cX8_isLetter 19 = .ok (.aload_n 0, 1) := by decide +kernel
theorem dX8_isLetter_20 : decode cX8_isLetter 20 = .ok (.getfield 7, 3) := by decide +kernel
theorem dX8_isLetter_23 : decode cX8_isLetter 23 = .ok (.iload_n 1, 1) := by decide +kernel
theorem dX8_isLetter_24 : decode cX8_isLetter 24 = .ok (.baload, 1) := by decide +kernel
theorem dX8_isLetter_25 : decode cX8_isLetter 25 = .ok (.bipush 122, 2) := by decide +kernel
theorem dX8_isLetter_27 : decode cX8_isLetter 27 = .ok (.if_icmp .gt 7, 3) := by decide +kernel
theorem dX8_isLetter_30 : decode cX8_isLetter 30 = .ok (.iconst 1, 1) := by decide +kernel
theorem dX8_isLetter_31 : decode cX8_isLetter 31 = .ok (.goto 4, 3) := by decide +kernel
theorem dX8_isLetter_34 : decode cX8_isLetter 34 = .ok (.iconst 0, 1) := by decide +kernel
theorem dX8_isLetter_35 : decode cX8_isLetter 35 = .ok (.ireturn, 1) := by decide +kernel
theorem dX8_isWord_0 : decode cX8_isWord 0 = .ok (.aload_n 0, 1) := by decide +kernel
theorem dX8_isWord_1 : decode cX8_isWord 1 = .ok (.invokevirtual 102, 3) := by decide +kernel
theorem dX8_isWord_4 : decode cX8_isWord 4 = .ok (.pop, 1) := by decide +kernel
theorem dX8_isWord_5 : decode cX8_isWord 5 = .ok (.lconst 0, 1) := by decide +kernel
theorem dX8_isWord_6 : decode cX8_isWord 6 = .ok (.lstore_n 3, 1) := by decide +kernel
theorem dX8_isWord_7 : decode cX8_isWord 7 = .ok (.iconst 0, 1) := by decide +kernel
theorem dX8_isWord_8 : decode cX8_isWord 8 = .ok (.istore 5, 2) := by decide +kernel
theorem dX8_isWord_10 : decode cX8_isWord 10 = .ok (.aload_n 0, 1) := by decide +kernel
theorem dX8_isWord_11 : decode cX8_isWord 11 = .ok (.aload_n 0, 1) := by decide +kernel
theorem dX8_isWord_12 : decode cX8_isWord 12 = .ok (.getfield 99, 3) := by decide +kernel
theorem dX8_isWord_15 : decode cX8_isWord 15 = .ok (.iload 5, 2) := by decide +kernel
theorem dX8_isWord_17 : decode cX8_isWord 17 = .ok (.iadd, 1) := by decide +kernel
theorem dX8_isWord_18 : decode cX8_isWord 18 = .ok (.invokevirtual 106, 3) := by decide +kernel
theorem dX8_isWord_21 : decode cX8_isWord 21 = .ok (.ifCond .eq 35, 3) := by decide +kernel
theorem dX8_isWord_24 : decode cX8_isWord 24 = .ok (.iload 5, 2) := by decide +kernel
theorem dX8_isWord_26 : decode cX8_isWord 26 = .ok (.bipush 8, 2) := by decide +kernel
theorem dX8_isWord_28 : decode cX8_isWord 28 = .ok (.if_icmp .ge 22, 3) := by decide +kernel
theorem dX8_isWord_31 : decode cX8_isWord 31 = .ok (.lload_n 3, 1) := by decide +kernel
theorem dX8_isWord_32 : decode cX8_isWord 32 = .ok (.bipush 8, 2) := by decide +kernel
theorem dX8_isWord_34 : decode cX8_isWord 34 = .ok (.lshl, 1) := by decide +kernel
theorem dX8_isWord_35 : decode cX8_isWord 35 = .ok (.aload_n 0, 1) := by decide +kernel
theorem dX8_isWord_36 : decode cX8_isWord 36 = .ok (.getfield 7, 3) := by decide +kernel
theorem dX8_isWord_39 : decode cX8_isWord 39 = .ok (.aload_n 0, 1) := by decide +kernel
theorem dX8_isWord_40 : decode cX8_isWord 40 = .ok (.getfield 99, 3) := by decide +kernel
theorem dX8_isWord_43 : decode cX8_isWord 43 = .ok (.iload 5, 2) := by decide +kernel
theorem dX8_isWord_45 : decode cX8_isWord 45 = .ok (.iadd, 1) := by decide +kernel
theorem dX8_isWord_46 : decode cX8_isWord 46 = .ok (.baload, 1) := by decide +kernel
theorem dX8_isWord_47 : decode cX8_isWord 47 = .ok (.i2l, 1) := by decide +kernel
theorem dX8_isWord_48 : decode cX8_isWord 48 = .ok (.lor, 1) := by decide +kernel
theorem dX8_isWord_49 : decode cX8_isWord 49 = .ok (.lstore_n 3, 1) := by decide +kernel
theorem dX8_isWord_50 : decode cX8_isWord 50 = .ok (.iinc 5 1, 3) := by decide +kernel
theorem dX8_isWord_53 : decode cX8_isWord 53 = .ok (.goto (-43), 3) := by decide +kernel
theorem dX8_isWord_56 : decode cX8_isWord 56 = .ok (.iload 5, 2) := by decide +kernel
theorem dX8_isWord_58 : decode cX8_isWord 58 = .ok (.ifCond .le 20, 3) := by decide +kernel
theorem dX8_isWord_61 : decode cX8_isWord 61 = .ok (.iload 5, 2) := by decide +kernel
theorem dX8_isWord_63 : decode cX8_isWord 63 = .ok (.bipush 8, 2) := by decide +kernel
theorem dX8_isWord_65 : decode cX8_isWord 65 = .ok (.if_icmp .ge 13, 3) := by decide +kernel
theorem dX8_isWord_68 : decode cX8_isWord 68 = .ok (.lload_n 3, 1) := by decide +kernel
theorem dX8_isWord_69 : decode cX8_isWord 69 = .ok (.lload_n 1, 1) := by decide +kernel
theorem dX8_isWord_70 : decode cX8_isWord 70 = .ok (.lcmp, 1) := by decide +kernel
theorem dX8_isWord_71 : decode cX8_isWord 71 = .ok (.ifCond .ne 7, 3) := by decide +kernel
theorem dX8_isWord_74 : decode cX8_isWord 74 = .ok (.iconst 1, 1) := by decide +kernel
theorem dX8_isWord_75 : decode cX8_isWord 75 = .ok (.goto 4, 3) := by decide +kernel
theorem dX8_isWord_78 : decode cX8_isWord 78 = .ok (.iconst 0, 1) := by decide +kernel
theorem dX8_isWord_79 : decode cX8_isWord 79 = .ok (.ireturn, 1) := by decide +kernel
theorem dX8_passWord_0 : decode cX8_passWord 0 = .ok (.aload_n 0, 1) := by decide +kernel
theorem dX8_passWord_1 : decode cX8_passWord 1 = .ok (.aload_n 0, 1) := by decide +kernel
theorem dX8_passWord_2 : decode cX8_passWord 2 = .ok (.getfield 99, 3) := by decide +kernel
theorem dX8_passWord_5 : decode cX8_passWord 5 = .ok (.invokevirtual 106, 3) := by decide +kernel
theorem dX8_passWord_8 : decode cX8_passWord 8 = .ok (.ifCond .eq 16, 3) := by decide +kernel
theorem dX8_passWord_11 : decode cX8_passWord 11 = .ok (.aload_n 0, 1) := by decide +kernel
theorem dX8_passWord_12 : decode cX8_passWord 12 = .ok (.dup, 1) := by decide +kernel
theorem dX8_passWord_13 : decode cX8_passWord 13 = .ok (.getfield 99, 3) := by decide +kernel
theorem dX8_passWord_16 : decode cX8_passWord 16 = .ok (.iconst 1, 1) := by decide +kernel
theorem dX8_passWord_17 : decode cX8_passWord 17 = .ok (.iadd, 1) := by decide +kernel
theorem dX8_passWord_18 : decode cX8_passWord 18 = .ok (.putfield 99, 3) := by decide +kernel
theorem dX8_passWord_21 : decode cX8_passWord 21 = .ok (.goto (-21), 3) := by decide +kernel
theorem dX8_passWord_24 : decode cX8_passWord 24 = .ok (.return_, 1) := by decide +kernel
theorem dX8_numberHere_0 : decode cX8_numberHere 0 = .ok (.aload_n 0, 1) := by decide +kernel
theorem dX8_numberHere_1 : decode cX8_numberHere 1 = .ok (.invokevirtual 102, 3) := by decide +kernel
theorem dX8_numberHere_4 : decode cX8_numberHere 4 = .ok (.pop, 1) := by decide +kernel
theorem dX8_numberHere_5 : decode cX8_numberHere 5 = .ok (.aload_n 0, 1) := by decide +kernel
theorem dX8_numberHere_6 : decode cX8_numberHere 6 = .ok (.aload_n 0, 1) := by decide +kernel
theorem dX8_numberHere_7 : decode cX8_numberHere 7 = .ok (.getfield 99, 3) := by decide +kernel
theorem dX8_numberHere_10 : decode cX8_numberHere 10 = .ok (.invokevirtual 117, 3) := by decide +kernel
theorem dX8_numberHere_13 : decode cX8_numberHere 13 = .ok (.ifCond .ne 13, 3) := by decide +kernel
theorem dX8_numberHere_16 : decode cX8_numberHere 16 = .ok (.aload_n 0, 1) := by decide +kernel
theorem dX8_numberHere_17 : decode cX8_numberHere 17 = .ok (.iconst 0, 1) := by decide +kernel
theorem dX8_numberHere_18 : decode cX8_numberHere 18 = .ok (.aload_n 0, 1) := by decide +kernel
theorem dX8_numberHere_19 : decode cX8_numberHere 19 = .ok (.getfield 99, 3) := by decide +kernel
theorem dX8_numberHere_22 : decode cX8_numberHere 22 = .ok (.invokevirtual 120, 3) := by decide +kernel
theorem dX8_numberHere_25 : decode cX8_numberHere 25 = .ok (.ireturn, 1) := by decide +kernel
theorem dX8_numberHere_26 : decode cX8_numberHere 26 = .ok (.aload_n 0, 1) := by decide +kernel
theorem dX8_numberHere_27 : decode cX8_numberHere 27 = .ok (.getfield 99, 3) := by decide +kernel
theorem dX8_numberHere_30 : decode cX8_numberHere 30 = .ok (.istore_n 3, 1) := by decide +kernel
theorem dX8_numberHere_31 : decode cX8_numberHere 31 = .ok (.iconst 0, 1) := by decide +kernel
theorem dX8_numberHere_32 : decode cX8_numberHere 32 = .ok (.istore 4, 2) := by decide +kernel
theorem dX8_numberHere_34 : decode cX8_numberHere 34 = .ok (.aload_n 0, 1) := by decide +kernel
theorem dX8_numberHere_35 : decode cX8_numberHere 35 = .ok (.aload_n 0, 1) := by decide +kernel
theorem dX8_numberHere_36 : decode cX8_numberHere 36 = .ok (.getfield 99, 3) := by decide +kernel
theorem dX8_numberHere_39 : decode cX8_numberHere 39 = .ok (.invokevirtual 117, 3) := by decide +kernel
theorem dX8_numberHere_42 : decode cX8_numberHere 42 = .ok (.ifCond .eq 46, 3) := by decide +kernel
theorem dX8_numberHere_45 : decode cX8_numberHere 45 = .ok (.aload_n 0, 1) := by decide +kernel
theorem dX8_numberHere_46 : decode cX8_numberHere 46 = .ok (.getfield 99, 3) := by decide +kernel
theorem dX8_numberHere_49 : decode cX8_numberHere 49 = .ok (.iload_n 3, 1) := by decide +kernel
theorem dX8_numberHere_50 : decode cX8_numberHere 50 = .ok (.isub, 1) := by decide +kernel
theorem dX8_numberHere_51 : decode cX8_numberHere 51 = .ok (.iconst 5, 1) := by decide +kernel
theorem dX8_numberHere_52 : decode cX8_numberHere 52 = .ok (.if_icmp .ge 23, 3) := by decide +kernel
theorem dX8_numberHere_55 : decode cX8_numberHere 55 = .ok (.bipush 10, 2) := by decide +kernel
theorem dX8_numberHere_57 : decode cX8_numberHere 57 = .ok (.iload 4, 2) := by decide +kernel
theorem dX8_numberHere_59 : decode cX8_numberHere 59 = .ok (.imul, 1) := by decide +kernel
theorem dX8_numberHere_60 : decode cX8_numberHere 60 = .ok (.aload_n 0, 1) := by decide +kernel
theorem dX8_numberHere_61 : decode cX8_numberHere 61 = .ok (.getfield 7, 3) := by decide +kernel
theorem dX8_numberHere_64 : decode cX8_numberHere 64 = .ok (.aload_n 0, 1) := by decide +kernel
theorem dX8_numberHere_65 : decode cX8_numberHere 65 = .ok (.getfield 99, 3) := by decide +kernel
theorem dX8_numberHere_68 : decode cX8_numberHere 68 = .ok (.baload, 1) := by decide +kernel
theorem dX8_numberHere_69 : decode cX8_numberHere 69 = .ok (.iadd, 1) := by decide +kernel
theorem dX8_numberHere_70 : decode cX8_numberHere 70 = .ok (.bipush 48, 2) := by decide +kernel
theorem dX8_numberHere_72 : decode cX8_numberHere 72 = .ok (.isub, 1) := by decide +kernel
theorem dX8_numberHere_73 : decode cX8_numberHere 73 = .ok (.istore 4, 2) := by decide +kernel
theorem dX8_numberHere_75 : decode cX8_numberHere 75 = .ok (.aload_n 0, 1) := by decide +kernel
theorem dX8_numberHere_76 : decode cX8_numberHere 76 = .ok (.dup, 1) := by decide +kernel
theorem dX8_numberHere_77 : decode cX8_numberHere 77 = .ok (.getfield 99, 3) := by decide +kernel
theorem dX8_numberHere_80 : decode cX8_numberHere 80 = .ok (.iconst 1, 1) := by decide +kernel
theorem dX8_numberHere_81 : decode cX8_numberHere 81 = .ok (.iadd, 1) := by decide +kernel
theorem dX8_numberHere_82 : decode cX8_numberHere 82 = .ok (.putfield 99, 3) := by decide +kernel
theorem dX8_numberHere_85 : decode cX8_numberHere 85 = .ok (.goto (-51), 3) := by decide +kernel
theorem dX8_numberHere_88 : decode cX8_numberHere 88 = .ok (.aload_n 0, 1) := by decide +kernel
theorem dX8_numberHere_89 : decode cX8_numberHere 89 = .ok (.iload 4, 2) := by decide +kernel
theorem dX8_numberHere_91 : decode cX8_numberHere 91 = .ok (.putfield 124, 3) := by decide +kernel
theorem dX8_numberHere_94 : decode cX8_numberHere 94 = .ok (.aload_n 0, 1) := by decide +kernel
theorem dX8_numberHere_95 : decode cX8_numberHere 95 = .ok (.getfield 99, 3) := by decide +kernel
theorem dX8_numberHere_98 : decode cX8_numberHere 98 = .ok (.iload_n 3, 1) := by decide +kernel
theorem dX8_numberHere_99 : decode cX8_numberHere 99 = .ok (.isub, 1) := by decide +kernel
theorem dX8_numberHere_100 : decode cX8_numberHere 100 = .ok (.iconst 5, 1) := by decide +kernel
theorem dX8_numberHere_101 : decode cX8_numberHere 101 = .ok (.if_icmp .gt 16, 3) := by decide +kernel
theorem dX8_numberHere_104 : decode cX8_numberHere 104 = .ok (.iload 4, 2) := by decide +kernel
theorem dX8_numberHere_106 : decode cX8_numberHere 106 = .ok (.i2l, 1) := by decide +kernel
theorem dX8_numberHere_107 : decode cX8_numberHere 107 = .ok (.iload_n 1, 1) := by decide +kernel
theorem dX8_numberHere_108 : decode cX8_numberHere 108 = .ok (.i2l, 1) := by decide +kernel
theorem dX8_numberHere_109 : decode cX8_numberHere 109 = .ok (.iload_n 2, 1) := by decide +kernel
theorem dX8_numberHere_110 : decode cX8_numberHere 110 = .ok (.i2l, 1) := by decide +kernel
theorem dX8_numberHere_111 : decode cX8_numberHere 111 = .ok (.invokestatic 127, 3) := by decide +kernel
theorem dX8_numberHere_114 : decode cX8_numberHere 114 = .ok (.ifCond .ne 12, 3) := by decide +kernel
theorem dX8_numberHere_117 : decode cX8_numberHere 117 = .ok (.aload_n 0, 1) := by decide +kernel
theorem dX8_numberHere_118 : decode cX8_numberHere 118 = .ok (.iconst 1, 1) := by decide +kernel
theorem dX8_numberHere_119 : decode cX8_numberHere 119 = .ok (.iload_n 3, 1) := by decide +kernel
theorem dX8_numberHere_120 : decode cX8_numberHere 120 = .ok (.invokevirtual 120, 3) := by decide +kernel
theorem dX8_numberHere_123 : decode cX8_numberHere 123 = .ok (.ifCond .eq 7, 3) := by decide +kernel
theorem dX8_numberHere_126 : decode cX8_numberHere 126 = .ok (.iconst 1, 1) := by decide +kernel
theorem dX8_numberHere_127 : decode cX8_numberHere 127 = .ok (.goto 4, 3) := by decide +kernel
theorem dX8_numberHere_130 : decode cX8_numberHere 130 = .ok (.iconst 0, 1) := by decide +kernel
theorem dX8_numberHere_131 : decode cX8_numberHere 131 = .ok (.ireturn, 1) := by decide +kernel
theorem dX8_wordHere_0 : decode cX8_wordHere 0 = .ok (.aload_n 0, 1) := by decide +kernel
theorem dX8_wordHere_1 : decode cX8_wordHere 1 = .ok (.ldc2_w 131, 3) := by decide +kernel
theorem dX8_wordHere_4 : decode cX8_wordHere 4 = .ok (.invokevirtual 110, 3) := by decide +kernel
theorem dX8_wordHere_7 : decode cX8_wordHere 7 = .ok (.ifCond .eq 5, 3) := by decide +kernel
theorem dX8_wordHere_10 : decode cX8_wordHere 10 = .ok (.iconst 0, 1) := by decide +kernel
theorem dX8_wordHere_11 : decode cX8_wordHere 11 = .ok (.ireturn, 1) := by decide +kernel
theorem dX8_wordHere_12 : decode cX8_wordHere 12 = .ok (.aload_n 0, 1) := by decide +kernel
theorem dX8_wordHere_13 : decode cX8_wordHere 13 = .ok (.ldc2_w 133, 3) := by decide +kernel
theorem dX8_wordHere_16 : decode cX8_wordHere 16 = .ok (.invokevirtual 110, 3) := by decide +kernel
theorem dX8_wordHere_19 : decode cX8_wordHere 19 = .ok (.ifCond .eq 5, 3) := by decide +kernel
theorem dX8_wordHere_22 : decode cX8_wordHere 22 = .ok (.iconst 1, 1) := by decide +kernel
theorem dX8_wordHere_23 : decode cX8_wordHere 23 = .ok (.ireturn, 1) := by decide +kernel
theorem dX8_wordHere_24 : decode cX8_wordHere 24 = .ok (.aload_n 0, 1) := by decide +kernel
theorem dX8_wordHere_25 : decode cX8_wordHere 25 = .ok (.ldc2_w 135, 3) := by decide +kernel
theorem dX8_wordHere_28 : decode cX8_wordHere 28 = .ok (.invokevirtual 110, 3) := by decide +kernel
theorem dX8_wordHere_31 : decode cX8_wordHere 31 = .ok (.ifCond .eq 5, 3) := by decide +kernel
theorem dX8_wordHere_34 : decode cX8_wordHere 34 = .ok (.iconst 2, 1) := by decide +kernel
theorem dX8_wordHere_35 : decode cX8_wordHere 35 = .ok (.ireturn, 1) := by decide +kernel
theorem dX8_wordHere_36 : decode cX8_wordHere 36 = .ok (.aload_n 0, 1) := by decide +kernel
theorem dX8_wordHere_37 : decode cX8_wordHere 37 = .ok (.ldc2_w 137, 3) := by decide +kernel
theorem dX8_wordHere_40 : decode cX8_wordHere 40 = .ok (.invokevirtual 110, 3) := by decide +kernel
theorem dX8_wordHere_43 : decode cX8_wordHere 43 = .ok (.ifCond .eq 5, 3) := by decide +kernel
theorem dX8_wordHere_46 : decode cX8_wordHere 46 = .ok (.iconst 3, 1) := by decide +kernel
theorem dX8_wordHere_47 : decode cX8_wordHere 47 = .ok (.ireturn, 1) := by decide +kernel
theorem dX8_wordHere_48 : decode cX8_wordHere 48 = .ok (.aload_n 0, 1) := by decide +kernel
theorem dX8_wordHere_49 : decode cX8_wordHere 49 = .ok (.ldc2_w 139, 3) := by decide +kernel
theorem dX8_wordHere_52 : decode cX8_wordHere 52 = .ok (.invokevirtual 110, 3) := by decide +kernel
theorem dX8_wordHere_55 : decode cX8_wordHere 55 = .ok (.ifCond .eq 5, 3) := by decide +kernel
theorem dX8_wordHere_58 : decode cX8_wordHere 58 = .ok (.iconst 4, 1) := by decide +kernel
theorem dX8_wordHere_59 : decode cX8_wordHere 59 = .ok (.ireturn, 1) := by decide +kernel
theorem dX8_wordHere_60 : decode cX8_wordHere 60 = .ok (.aload_n 0, 1) := by decide +kernel
theorem dX8_wordHere_61 : decode cX8_wordHere 61 = .ok (.ldc2_w 141, 3) := by decide +kernel
theorem dX8_wordHere_64 : decode cX8_wordHere 64 = .ok (.invokevirtual 110, 3) := by decide +kernel
theorem dX8_wordHere_67 : decode cX8_wordHere 67 = .ok (.ifCond .eq 5, 3) := by decide +kernel
theorem dX8_wordHere_70 : decode cX8_wordHere 70 = .ok (.iconst 5, 1) := by decide +kernel
theorem dX8_wordHere_71 : decode cX8_wordHere 71 = .ok (.ireturn, 1) := by decide +kernel
theorem dX8_wordHere_72 : decode cX8_wordHere 72 = .ok (.aload_n 0, 1) := by decide +kernel
theorem dX8_wordHere_73 : decode cX8_wordHere 73 = .ok (.ldc2_w 143, 3) := by decide +kernel
theorem dX8_wordHere_76 : decode cX8_wordHere 76 = .ok (.invokevirtual 110, 3) := by decide +kernel
theorem dX8_wordHere_79 : decode cX8_wordHere 79 = .ok (.ifCond .eq 6, 3) := by decide +kernel
theorem dX8_wordHere_82 : decode cX8_wordHere 82 = .ok (.bipush 6, 2) := by decide +kernel
theorem dX8_wordHere_84 : decode cX8_wordHere 84 = .ok (.ireturn, 1) := by decide +kernel
theorem dX8_wordHere_85 : decode cX8_wordHere 85 = .ok (.aload_n 0, 1) := by decide +kernel
theorem dX8_wordHere_86 : decode cX8_wordHere 86 = .ok (.ldc2_w 145, 3) := by decide +kernel
theorem dX8_wordHere_89 : decode cX8_wordHere 89 = .ok (.invokevirtual 110, 3) := by decide +kernel
theorem dX8_wordHere_92 : decode cX8_wordHere 92 = .ok (.ifCond .eq 6, 3) := by decide +kernel
theorem dX8_wordHere_95 : decode cX8_wordHere 95 = .ok (.bipush 7, 2) := by decide +kernel
theorem dX8_wordHere_97 : decode cX8_wordHere 97 = .ok (.ireturn, 1) := by decide +kernel
theorem dX8_wordHere_98 : decode cX8_wordHere 98 = .ok (.aload_n 0, 1) := by decide +kernel
theorem dX8_wordHere_99 : decode cX8_wordHere 99 = .ok (.ldc2_w 147, 3) := by decide +kernel
theorem dX8_wordHere_102 : decode cX8_wordHere 102 = .ok (.invokevirtual 110, 3) := by decide +kernel
theorem dX8_wordHere_105 : decode cX8_wordHere 105 = .ok (.ifCond .eq 8, 3) := by decide +kernel
theorem dX8_wordHere_108 : decode cX8_wordHere 108 = .ok (.bipush 8, 2) := by decide +kernel
theorem dX8_wordHere_110 : decode cX8_wordHere 110 = .ok (.goto 19, 3) := by decide +kernel
theorem dX8_wordHere_113 : decode cX8_wordHere 113 = .ok (.aload_n 0, 1) := by decide +kernel
theorem dX8_wordHere_114 : decode cX8_wordHere 114 = .ok (.ldc2_w 149, 3) := by decide +kernel
theorem dX8_wordHere_117 : decode cX8_wordHere 117 = .ok (.invokevirtual 110, 3) := by decide +kernel
theorem dX8_wordHere_120 : decode cX8_wordHere 120 = .ok (.ifCond .eq 8, 3) := by decide +kernel
theorem dX8_wordHere_123 : decode cX8_wordHere 123 = .ok (.bipush 9, 2) := by decide +kernel
theorem dX8_wordHere_125 : decode cX8_wordHere 125 = .ok (.goto 4, 3) := by decide +kernel
theorem dX8_wordHere_128 : decode cX8_wordHere 128 = .ok (.iconst (-1), 1) := by decide +kernel
theorem dX8_wordHere_129 : decode cX8_wordHere 129 = .ok (.ireturn, 1) := by decide +kernel
theorem dX8_puts_0 : decode cX8_puts 0 = .ok (.aload_n 0, 1) := by decide +kernel
theorem dX8_puts_1 : decode cX8_puts 1 = .ok (.getfield 13, 3) := by decide +kernel
theorem dX8_puts_4 : decode cX8_puts 4 = .ok (.sipush 400, 3) := by decide +kernel
theorem dX8_puts_7 : decode cX8_puts 7 = .ok (.aload_n 0, 1) := by decide +kernel
theorem dX8_puts_8 : decode cX8_puts 8 = .ok (.getfield 151, 3) := by decide +kernel
theorem dX8_puts_11 : decode cX8_puts 11 = .ok (.imul, 1) := by decide +kernel
theorem dX8_puts_12 : decode cX8_puts 12 = .ok (.aload_n 0, 1) := by decide +kernel
theorem dX8_puts_13 : decode cX8_puts 13 = .ok (.getfield 17, 3) := by decide +kernel
theorem dX8_puts_16 : decode cX8_puts 16 = .ok (.aload_n 0, 1) := by decide +kernel
theorem dX8_puts_17 : decode cX8_puts 17 = .ok (.getfield 151, 3) := by decide +kernel
theorem dX8_puts_20 : decode cX8_puts 20 = .ok (.iaload, 1) := by decide +kernel
theorem dX8_puts_21 : decode cX8_puts 21 = .ok (.iadd, 1) := by decide +kernel
theorem dX8_puts_22 : decode cX8_puts 22 = .ok (.iload_n 1, 1) := by decide +kernel
theorem dX8_puts_23 : decode cX8_puts 23 = .ok (.bipush 16, 2) := by decide +kernel
theorem dX8_puts_25 : decode cX8_puts 25 = .ok (.iload_n 2, 1) := by decide +kernel
theorem dX8_puts_26 : decode cX8_puts 26 = .ok (.imul, 1) := by decide +kernel
theorem dX8_puts_27 : decode cX8_puts 27 = .ok (.iadd, 1) := by decide +kernel
theorem dX8_puts_28 : decode cX8_puts 28 = .ok (.iastore, 1) := by decide +kernel
theorem dX8_puts_29 : decode cX8_puts 29 = .ok (.aload_n 0, 1) := by decide +kernel
theorem dX8_puts_30 : decode cX8_puts 30 = .ok (.getfield 17, 3) := by decide +kernel
theorem dX8_puts_33 : decode cX8_puts 33 = .ok (.aload_n 0, 1) := by decide +kernel
theorem dX8_puts_34 : decode cX8_puts 34 = .ok (.getfield 151, 3) := by decide +kernel
theorem dX8_puts_37 : decode cX8_puts 37 = .ok (.dup2, 1) := by decide +kernel
theorem dX8_puts_38 : decode cX8_puts 38 = .ok (.iaload, 1) := by decide +kernel
theorem dX8_puts_39 : decode cX8_puts 39 = .ok (.iconst 1, 1) := by decide +kernel
theorem dX8_puts_40 : decode cX8_puts 40 = .ok (.iadd, 1) := by decide +kernel
theorem dX8_puts_41 : decode cX8_puts 41 = .ok (.iastore, 1) := by decide +kernel
theorem dX8_puts_42 : decode cX8_puts 42 = .ok (.return_, 1) := by decide +kernel
theorem dX8_makes_0 : decode cX8_makes 0 = .ok (.aload_n 0, 1) := by decide +kernel
theorem dX8_makes_1 : decode cX8_makes 1 = .ok (.getfield 154, 3) := by decide +kernel
theorem dX8_makes_4 : decode cX8_makes 4 = .ok (.bipush 60, 2) := by decide +kernel
theorem dX8_makes_6 : decode cX8_makes 6 = .ok (.if_icmp .ne 10, 3) := by decide +kernel
theorem dX8_makes_9 : decode cX8_makes 9 = .ok (.aload_n 0, 1) := by decide +kernel
theorem dX8_makes_10 : decode cX8_makes 10 = .ok (.iconst 3, 1) := by decide +kernel
theorem dX8_makes_11 : decode cX8_makes 11 = .ok (.iload_n 1, 1) := by decide +kernel
theorem dX8_makes_12 : decode cX8_makes 12 = .ok (.invokevirtual 120, 3) := by decide +kernel
theorem dX8_makes_15 : decode cX8_makes 15 = .ok (.ireturn, 1) := by decide +kernel
theorem dX8_makes_16 : decode cX8_makes 16 = .ok (.aload_n 0, 1) := by decide +kernel
theorem dX8_makes_17 : decode cX8_makes 17 = .ok (.dup, 1) := by decide +kernel
theorem dX8_makes_18 : decode cX8_makes 18 = .ok (.getfield 154, 3) := by decide +kernel
theorem dX8_makes_21 : decode cX8_makes 21 = .ok (.iconst 1, 1) := by decide +kernel
theorem dX8_makes_22 : decode cX8_makes 22 = .ok (.iadd, 1) := by decide +kernel
theorem dX8_makes_23 : decode cX8_makes 23 = .ok (.putfield 154, 3) := by decide +kernel
theorem dX8_makes_26 : decode cX8_makes 26 = .ok (.iconst 1, 1) := by decide +kernel
theorem dX8_makes_27 : decode cX8_makes 27 = .ok (.ireturn, 1) := by decide +kernel
theorem dX8_opens_0 : decode cX8_opens 0 = .ok (.aload_n 0, 1) := by decide +kernel
theorem dX8_opens_1 : decode cX8_opens 1 = .ok (.getfield 157, 3) := by decide +kernel
theorem dX8_opens_4 : decode cX8_opens 4 = .ok (.bipush 10, 2) := by decide +kernel
theorem dX8_opens_6 : decode cX8_opens 6 = .ok (.if_icmp .ne 13, 3) := by decide +kernel
theorem dX8_opens_9 : decode cX8_opens 9 = .ok (.aload_n 0, 1) := by decide +kernel
theorem dX8_opens_10 : decode cX8_opens 10 = .ok (.iconst 2, 1) := by decide +kernel
theorem dX8_opens_11 : decode cX8_opens 11 = .ok (.aload_n 0, 1) := by decide +kernel
theorem dX8_opens_12 : decode cX8_opens 12 = .ok (.getfield 99, 3) := by decide +kernel
theorem dX8_opens_15 : decode cX8_opens 15 = .ok (.invokevirtual 120, 3) := by decide +kernel
theorem dX8_opens_18 : decode cX8_opens 18 = .ok (.ireturn, 1) := by decide +kernel
theorem dX8_opens_19 : decode cX8_opens 19 = .ok (.aload_n 0, 1) := by decide +kernel
theorem dX8_opens_20 : decode cX8_opens 20 = .ok (.dup, 1) := by decide +kernel
theorem dX8_opens_21 : decode cX8_opens 21 = .ok (.getfield 157, 3) := by decide +kernel
theorem dX8_opens_24 : decode cX8_opens 24 = .ok (.iconst 1, 1) := by decide +kernel
theorem dX8_opens_25 : decode cX8_opens 25 = .ok (.iadd, 1) := by decide +kernel
theorem dX8_opens_26 : decode cX8_opens 26 = .ok (.putfield 157, 3) := by decide +kernel
theorem dX8_opens_29 : decode cX8_opens 29 = .ok (.aload_n 0, 1) := by decide +kernel
theorem dX8_opens_30 : decode cX8_opens 30 = .ok (.getfield 32, 3) := by decide +kernel
theorem dX8_opens_33 : decode cX8_opens 33 = .ok (.aload_n 0, 1) := by decide +kernel
theorem dX8_opens_34 : decode cX8_opens 34 = .ok (.getfield 160, 3) := by decide +kernel
theorem dX8_opens_37 : decode cX8_opens 37 = .ok (.iload_n 1, 1) := by decide +kernel
theorem dX8_opens_38 : decode cX8_opens 38 = .ok (.iastore, 1) := by decide +kernel
theorem dX8_opens_39 : decode cX8_opens 39 = .ok (.aload_n 0, 1) := by decide +kernel
theorem dX8_opens_40 : decode cX8_opens 40 = .ok (.dup, 1) := by decide +kernel
theorem dX8_opens_41 : decode cX8_opens 41 = .ok (.getfield 160, 3) := by decide +kernel
theorem dX8_opens_44 : decode cX8_opens 44 = .ok (.iconst 1, 1) := by decide +kernel
theorem dX8_opens_45 : decode cX8_opens 45 = .ok (.iadd, 1) := by decide +kernel
theorem dX8_opens_46 : decode cX8_opens 46 = .ok (.putfield 160, 3) := by decide +kernel
theorem dX8_opens_49 : decode cX8_opens 49 = .ok (.iconst 1, 1) := by decide +kernel
theorem dX8_opens_50 : decode cX8_opens 50 = .ok (.ireturn, 1) := by decide +kernel
theorem dX8_strength_0 : decode cX8_strength 0 = .ok (.iload_n 0, 1) := by decide +kernel
theorem dX8_strength_1 : decode cX8_strength 1 = .ok (.bipush 13, 2) := by decide +kernel
theorem dX8_strength_3 : decode cX8_strength 3 = .ok (.if_icmp .ne 7, 3) := by decide +kernel
theorem dX8_strength_6 : decode cX8_strength 6 = .ok (.iconst 1, 1) := by decide +kernel
theorem dX8_strength_7 : decode cX8_strength 7 = .ok (.goto 24, 3) := by decide +kernel
theorem dX8_strength_10 : decode cX8_strength 10 = .ok (.iload_n 0, 1) := by decide +kernel
theorem dX8_strength_11 : decode cX8_strength 11 = .ok (.bipush 12, 2) := by decide +kernel
theorem dX8_strength_13 : decode cX8_strength 13 = .ok (.if_icmp .ne 7, 3) := by decide +kernel
theorem dX8_strength_16 : decode cX8_strength 16 = .ok (.iconst 2, 1) := by decide +kernel
theorem dX8_strength_17 : decode cX8_strength 17 = .ok (.goto 14, 3) := by decide +kernel
theorem dX8_strength_20 : decode cX8_strength 20 = .ok (.iload_n 0, 1) := by decide +kernel
theorem dX8_strength_21 : decode cX8_strength 21 = .ok (.bipush 11, 2) := by decide +kernel
theorem dX8_strength_23 : decode cX8_strength 23 = .ok (.if_icmp .ne 7, 3) := by decide +kernel
theorem dX8_strength_26 : decode cX8_strength 26 = .ok (.iconst 3, 1) := by decide +kernel
theorem dX8_strength_27 : decode cX8_strength 27 = .ok (.goto 4, 3) := by decide +kernel
theorem dX8_strength_30 : decode cX8_strength 30 = .ok (.iconst 0, 1) := by decide +kernel
theorem dX8_strength_31 : decode cX8_strength 31 = .ok (.ireturn, 1) := by decide +kernel
theorem dX8_settles_0 : decode cX8_settles 0 = .ok (.aload_n 0, 1) := by decide +kernel
theorem dX8_settles_1 : decode cX8_settles 1 = .ok (.getfield 160, 3) := by decide +kernel
theorem dX8_settles_4 : decode cX8_settles 4 = .ok (.ifCond .le 72, 3) := by decide +kernel
theorem dX8_settles_7 : decode cX8_settles 7 = .ok (.aload_n 0, 1) := by decide +kernel
theorem dX8_settles_8 : decode cX8_settles 8 = .ok (.getfield 32, 3) := by decide +kernel
theorem dX8_settles_11 : decode cX8_settles 11 = .ok (.aload_n 0, 1) := by decide +kernel
theorem dX8_settles_12 : decode cX8_settles 12 = .ok (.getfield 160, 3) := by decide +kernel
theorem dX8_settles_15 : decode cX8_settles 15 = .ok (.iconst 1, 1) := by decide +kernel
theorem dX8_settles_16 : decode cX8_settles 16 = .ok (.isub, 1) := by decide +kernel
theorem dX8_settles_17 : decode cX8_settles 17 = .ok (.iaload, 1) := by decide +kernel
theorem dX8_settles_18 : decode cX8_settles 18 = .ok (.invokestatic 163, 3) := by decide +kernel
theorem dX8_settles_21 : decode cX8_settles 21 = .ok (.iload_n 1, 1) := by decide +kernel
theorem dX8_settles_22 : decode cX8_settles 22 = .ok (.if_icmp .lt 54, 3) := by decide +kernel
theorem dX8_settles_25 : decode cX8_settles 25 = .ok (.aload_n 0, 1) := by decide +kernel
theorem dX8_settles_26 : decode cX8_settles 26 = .ok (.dup, 1) := by decide +kernel
theorem dX8_settles_27 : decode cX8_settles 27 = .ok (.getfield 160, 3) := by decide +kernel
theorem dX8_settles_30 : decode cX8_settles 30 = .ok (.iconst 1, 1) := by decide +kernel
theorem dX8_settles_31 : decode cX8_settles 31 = .ok (.isub, 1) := by decide +kernel
theorem dX8_settles_32 : decode cX8_settles 32 = .ok (.putfield 160, 3) := by decide +kernel
theorem dX8_settles_35 : decode cX8_settles 35 = .ok (.aload_n 0, 1) := by decide +kernel
theorem dX8_settles_36 : decode cX8_settles 36 = .ok (.aload_n 0, 1) := by decide +kernel
theorem dX8_settles_37 : decode cX8_settles 37 = .ok (.getfield 32, 3) := by decide +kernel
theorem dX8_settles_40 : decode cX8_settles 40 = .ok (.aload_n 0, 1) := by decide +kernel
theorem dX8_settles_41 : decode cX8_settles 41 = .ok (.getfield 160, 3) := by decide +kernel
theorem dX8_settles_44 : decode cX8_settles 44 = .ok (.iaload, 1) := by decide +kernel
theorem dX8_settles_45 : decode cX8_settles 45 = .ok (.iconst 0, 1) := by decide +kernel
theorem dX8_settles_46 : decode cX8_settles 46 = .ok (.invokevirtual 167, 3) := by decide +kernel
theorem dX8_settles_49 : decode cX8_settles 49 = .ok (.aload_n 0, 1) := by decide +kernel
theorem dX8_settles_50 : decode cX8_settles 50 = .ok (.getfield 32, 3) := by decide +kernel
theorem dX8_settles_53 : decode cX8_settles 53 = .ok (.aload_n 0, 1) := by decide +kernel
theorem dX8_settles_54 : decode cX8_settles 54 = .ok (.getfield 160, 3) := by decide +kernel
theorem dX8_settles_57 : decode cX8_settles 57 = .ok (.iaload, 1) := by decide +kernel
theorem dX8_settles_58 : decode cX8_settles 58 = .ok (.bipush 11, 2) := by decide +kernel
theorem dX8_settles_60 : decode cX8_settles 60 = .ok (.if_icmp .ne (-60), 3) := by decide +kernel
theorem dX8_settles_63 : decode cX8_settles 63 = .ok (.aload_n 0, 1) := by decide +kernel
theorem dX8_settles_64 : decode cX8_settles 64 = .ok (.dup, 1) := by decide +kernel
theorem dX8_settles_65 : decode cX8_settles 65 = .ok (.getfield 157, 3) := by decide +kernel
theorem dX8_settles_68 : decode cX8_settles 68 = .ok (.iconst 1, 1) := by decide +kernel
theorem dX8_settles_69 : decode cX8_settles 69 = .ok (.isub, 1) := by decide +kernel
theorem dX8_settles_70 : decode cX8_settles 70 = .ok (.putfield 157, 3) := by decide +kernel
theorem dX8_settles_73 : decode cX8_settles 73 = .ok (.goto (-73), 3) := by decide +kernel
theorem dX8_settles_76 : decode cX8_settles 76 = .ok (.return_, 1) := by decide +kernel
theorem dX8_value_0 : decode cX8_value 0 = .ok (.aload_n 0, 1) := by decide +kernel
theorem dX8_value_1 : decode cX8_value 1 = .ok (.invokevirtual 102, 3) := by decide +kernel
theorem dX8_value_4 : decode cX8_value 4 = .ok (.pop, 1) := by decide +kernel
theorem dX8_value_5 : decode cX8_value 5 = .ok (.aload_n 0, 1) := by decide +kernel
theorem dX8_value_6 : decode cX8_value 6 = .ok (.getfield 99, 3) := by decide +kernel
theorem dX8_value_9 : decode cX8_value 9 = .ok (.istore_n 1, 1) := by decide +kernel
theorem dX8_value_10 : decode cX8_value 10 = .ok (.aload_n 0, 1) := by decide +kernel
theorem dX8_value_11 : decode cX8_value 11 = .ok (.aload_n 0, 1) := by decide +kernel
theorem dX8_value_12 : decode cX8_value 12 = .ok (.getfield 99, 3) := by decide +kernel
theorem dX8_value_15 : decode cX8_value 15 = .ok (.invokevirtual 117, 3) := by decide +kernel
theorem dX8_value_18 : decode cX8_value 18 = .ok (.ifCond .eq 34, 3) := by decide +kernel
theorem dX8_value_21 : decode cX8_value 21 = .ok (.aload_n 0, 1) := by decide +kernel
theorem dX8_value_22 : decode cX8_value 22 = .ok (.iconst 0, 1) := by decide +kernel
theorem dX8_value_23 : decode cX8_value 23 = .ok (.ldc 171, 2) := by decide +kernel
theorem dX8_value_25 : decode cX8_value 25 = .ok (.invokevirtual 172, 3) := by decide +kernel
theorem dX8_value_28 : decode cX8_value 28 = .ok (.ifCond .eq 11, 3) := by decide +kernel
theorem dX8_value_31 : decode cX8_value 31 = .ok (.aload_n 0, 1) := by decide +kernel
theorem dX8_value_32 : decode cX8_value 32 = .ok (.iload_n 1, 1) := by decide +kernel
theorem dX8_value_33 : decode cX8_value 33 = .ok (.invokevirtual 175, 3) := by decide +kernel
theorem dX8_value_36 : decode cX8_value 36 = .ok (.ifCond .ne 5, 3) := by decide +kernel
theorem dX8_value_39 : decode cX8_value 39 = .ok (.iconst 0, 1) := by decide +kernel
theorem dX8_value_40 : decode cX8_value 40 = .ok (.ireturn, 1) := by decide +kernel
theorem dX8_value_41 : decode cX8_value 41 = .ok (.aload_n 0, 1) := by decide +kernel
theorem dX8_value_42 : decode cX8_value 42 = .ok (.iconst 0, 1) := by decide +kernel
theorem dX8_value_43 : decode cX8_value 43 = .ok (.aload_n 0, 1) := by decide +kernel
theorem dX8_value_44 : decode cX8_value 44 = .ok (.getfield 124, 3) := by decide +kernel
theorem dX8_value_47 : decode cX8_value 47 = .ok (.invokevirtual 167, 3) := by decide +kernel
theorem dX8_value_50 : decode cX8_value 50 = .ok (.iconst 1, 1) := by decide +kernel
theorem dX8_value_51 : decode cX8_value 51 = .ok (.ireturn, 1) := by decide +kernel
theorem dX8_value_52 : decode cX8_value 52 = .ok (.aload_n 0, 1) := by decide +kernel
theorem dX8_value_53 : decode cX8_value 53 = .ok (.invokevirtual 178, 3) := by decide +kernel
theorem dX8_value_56 : decode cX8_value 56 = .ok (.istore_n 2, 1) := by decide +kernel
theorem dX8_value_57 : decode cX8_value 57 = .ok (.iload_n 2, 1) := by decide +kernel
theorem dX8_value_58 : decode cX8_value 58 = .ok (.ifCond .ge 10, 3) := by decide +kernel
theorem dX8_value_61 : decode cX8_value 61 = .ok (.aload_n 0, 1) := by decide +kernel
theorem dX8_value_62 : decode cX8_value 62 = .ok (.iconst 0, 1) := by decide +kernel
theorem dX8_value_63 : decode cX8_value 63 = .ok (.iload_n 1, 1) := by decide +kernel
theorem dX8_value_64 : decode cX8_value 64 = .ok (.invokevirtual 120, 3) := by decide +kernel
theorem dX8_value_67 : decode cX8_value 67 = .ok (.ireturn, 1) := by decide +kernel
theorem dX8_value_68 : decode cX8_value 68 = .ok (.aload_n 0, 1) := by decide +kernel
theorem dX8_value_69 : decode cX8_value 69 = .ok (.iload_n 1, 1) := by decide +kernel
theorem dX8_value_70 : decode cX8_value 70 = .ok (.invokevirtual 175, 3) := by decide +kernel
theorem dX8_value_73 : decode cX8_value 73 = .ok (.ifCond .ne 5, 3) := by decide +kernel
theorem dX8_value_76 : decode cX8_value 76 = .ok (.iconst 0, 1) := by decide +kernel
theorem dX8_value_77 : decode cX8_value 77 = .ok (.ireturn, 1) := by decide +kernel
theorem dX8_value_78 : decode cX8_value 78 = .ok (.aload_n 0, 1) := by decide +kernel
theorem dX8_value_79 : decode cX8_value 79 = .ok (.invokevirtual 114, 3) := by decide +kernel
theorem dX8_value_82 : decode cX8_value 82 = .ok (.aload_n 0, 1) := by decide +kernel
theorem dX8_value_83 : decode cX8_value 83 = .ok (.iconst 1, 1) := by decide +kernel
theorem dX8_value_84 : decode cX8_value 84 = .ok (.iload_n 2, 1) := by decide +kernel
theorem dX8_value_85 : decode cX8_value 85 = .ok (.invokevirtual 167, 3) := by decide +kernel
theorem dX8_value_88 : decode cX8_value 88 = .ok (.iconst 1, 1) := by decide +kernel
theorem dX8_value_89 : decode cX8_value 89 = .ok (.ireturn, 1) := by decide +kernel
theorem dX8_term_0 : decode cX8_term 0 = .ok (.aload_n 0, 1) := by decide +kernel
theorem dX8_term_1 : decode cX8_term 1 = .ok (.invokevirtual 181, 3) := by decide +kernel
theorem dX8_term_4 : decode cX8_term 4 = .ok (.ifCond .ne 5, 3) := by decide +kernel
theorem dX8_term_7 : decode cX8_term 7 = .ok (.iconst 0, 1) := by decide +kernel
theorem dX8_term_8 : decode cX8_term 8 = .ok (.ireturn, 1) := by decide +kernel
theorem dX8_term_9 : decode cX8_term 9 = .ok (.aload_n 0, 1) := by decide +kernel
theorem dX8_term_10 : decode cX8_term 10 = .ok (.invokevirtual 102, 3) := by decide +kernel
theorem dX8_term_13 : decode cX8_term 13 = .ok (.bipush 42, 2) := by decide +kernel
theorem dX8_term_15 : decode cX8_term 15 = .ok (.if_icmp .eq 12, 3) := by decide +kernel
theorem dX8_term_18 : decode cX8_term 18 = .ok (.aload_n 0, 1) := by decide +kernel
theorem dX8_term_19 : decode cX8_term 19 = .ok (.invokevirtual 102, 3) := by decide +kernel
theorem dX8_term_22 : decode cX8_term 22 = .ok (.bipush 47, 2) := by decide +kernel
theorem dX8_term_24 : decode cX8_term 24 = .ok (.if_icmp .ne 51, 3) := by decide +kernel
theorem dX8_term_27 : decode cX8_term 27 = .ok (.aload_n 0, 1) := by decide +kernel
theorem dX8_term_28 : decode cX8_term 28 = .ok (.getfield 7, 3) := by decide +kernel
theorem dX8_term_31 : decode cX8_term 31 = .ok (.aload_n 0, 1) := by decide +kernel
theorem dX8_term_32 : decode cX8_term 32 = .ok (.getfield 99, 3) := by decide +kernel
theorem dX8_term_35 : decode cX8_term 35 = .ok (.baload, 1) := by decide +kernel
theorem dX8_term_36 : decode cX8_term 36 = .ok (.bipush 42, 2) := by decide +kernel
theorem dX8_term_38 : decode cX8_term 38 = .ok (.if_icmp .ne 7, 3) := by decide +kernel
theorem dX8_term_41 : decode cX8_term 41 = .ok (.iconst 4, 1) := by decide +kernel
theorem dX8_term_42 : decode cX8_term 42 = .ok (.goto 4, 3) := by decide +kernel
theorem dX8_term_45 : decode cX8_term 45 = .ok (.iconst 5, 1) := by decide +kernel
theorem dX8_term_46 : decode cX8_term 46 = .ok (.istore_n 1, 1) := by decide +kernel
theorem dX8_term_47 : decode cX8_term 47 = .ok (.aload_n 0, 1) := by decide +kernel
theorem dX8_term_48 : decode cX8_term 48 = .ok (.dup, 1) := by decide +kernel
theorem dX8_term_49 : decode cX8_term 49 = .ok (.getfield 99, 3) := by decide +kernel
theorem dX8_term_52 : decode cX8_term 52 = .ok (.iconst 1, 1) := by decide +kernel
theorem dX8_term_53 : decode cX8_term 53 = .ok (.iadd, 1) := by decide +kernel
theorem dX8_term_54 : decode cX8_term 54 = .ok (.putfield 99, 3) := by decide +kernel
theorem dX8_term_57 : decode cX8_term 57 = .ok (.aload_n 0, 1) := by decide +kernel
theorem dX8_term_58 : decode cX8_term 58 = .ok (.invokevirtual 181, 3) := by decide +kernel
theorem dX8_term_61 : decode cX8_term 61 = .ok (.ifCond .ne 5, 3) := by decide +kernel
theorem dX8_term_64 : decode cX8_term 64 = .ok (.iconst 0, 1) := by decide +kernel
theorem dX8_term_65 : decode cX8_term 65 = .ok (.ireturn, 1) := by decide +kernel
theorem dX8_term_66 : decode cX8_term 66 = .ok (.aload_n 0, 1) := by decide +kernel
theorem dX8_term_67 : decode cX8_term 67 = .ok (.iload_n 1, 1) := by decide +kernel
theorem dX8_term_68 : decode cX8_term 68 = .ok (.iconst 0, 1) := by decide +kernel
theorem dX8_term_69 : decode cX8_term 69 = .ok (.invokevirtual 167, 3) := by decide +kernel
theorem dX8_term_72 : decode cX8_term 72 = .ok (.goto (-63), 3) := by decide +kernel
theorem dX8_term_75 : decode cX8_term 75 = .ok (.iconst 1, 1) := by decide +kernel
theorem dX8_term_76 : decode cX8_term 76 = .ok (.ireturn, 1) := by decide +kernel
theorem dX8_sum_0 : decode cX8_sum 0 = .ok (.aload_n 0, 1) := by decide +kernel
theorem dX8_sum_1 : decode cX8_sum 1 = .ok (.invokevirtual 185, 3) := by decide +kernel
theorem dX8_sum_4 : decode cX8_sum 4 = .ok (.ifCond .ne 5, 3) := by decide +kernel
theorem dX8_sum_7 : decode cX8_sum 7 = .ok (.iconst 0, 1) := by decide +kernel
theorem dX8_sum_8 : decode cX8_sum 8 = .ok (.ireturn, 1) := by decide +kernel
theorem dX8_sum_9 : decode cX8_sum 9 = .ok (.aload_n 0, 1) := by decide +kernel
theorem dX8_sum_10 : decode cX8_sum 10 = .ok (.invokevirtual 102, 3) := by decide +kernel
theorem dX8_sum_13 : decode cX8_sum 13 = .ok (.bipush 43, 2) := by decide +kernel
theorem dX8_sum_15 : decode cX8_sum 15 = .ok (.if_icmp .eq 12, 3) := by decide +kernel
theorem dX8_sum_18 : decode cX8_sum 18 = .ok (.aload_n 0, 1) := by decide +kernel
theorem dX8_sum_19 : decode cX8_sum 19 = .ok (.invokevirtual 102, 3) := by decide +kernel
theorem dX8_sum_22 : decode cX8_sum 22 = .ok (.bipush 45, 2) := by decide +kernel
theorem dX8_sum_24 : decode cX8_sum 24 = .ok (.if_icmp .ne 51, 3) := by decide +kernel
theorem dX8_sum_27 : decode cX8_sum 27 = .ok (.aload_n 0, 1) := by decide +kernel
theorem dX8_sum_28 : decode cX8_sum 28 = .ok (.getfield 7, 3) := by decide +kernel
theorem dX8_sum_31 : decode cX8_sum 31 = .ok (.aload_n 0, 1) := by decide +kernel
theorem dX8_sum_32 : decode cX8_sum 32 = .ok (.getfield 99, 3) := by decide +kernel
theorem dX8_sum_35 : decode cX8_sum 35 = .ok (.baload, 1) := by decide +kernel
theorem dX8_sum_36 : decode cX8_sum 36 = .ok (.bipush 43, 2) := by decide +kernel
theorem dX8_sum_38 : decode cX8_sum 38 = .ok (.if_icmp .ne 7, 3) := by decide +kernel
theorem dX8_sum_41 : decode cX8_sum 41 = .ok (.iconst 2, 1) := by decide +kernel
theorem dX8_sum_42 : decode cX8_sum 42 = .ok (.goto 4, 3) := by decide +kernel
theorem dX8_sum_45 : decode cX8_sum 45 = .ok (.iconst 3, 1) := by decide +kernel
theorem dX8_sum_46 : decode cX8_sum 46 = .ok (.istore_n 1, 1) := by decide +kernel
theorem dX8_sum_47 : decode cX8_sum 47 = .ok (.aload_n 0, 1) := by decide +kernel
theorem dX8_sum_48 : decode cX8_sum 48 = .ok (.dup, 1) := by decide +kernel
theorem dX8_sum_49 : decode cX8_sum 49 = .ok (.getfield 99, 3) := by decide +kernel
theorem dX8_sum_52 : decode cX8_sum 52 = .ok (.iconst 1, 1) := by decide +kernel
theorem dX8_sum_53 : decode cX8_sum 53 = .ok (.iadd, 1) := by decide +kernel
theorem dX8_sum_54 : decode cX8_sum 54 = .ok (.putfield 99, 3) := by decide +kernel
theorem dX8_sum_57 : decode cX8_sum 57 = .ok (.aload_n 0, 1) := by decide +kernel
theorem dX8_sum_58 : decode cX8_sum 58 = .ok (.invokevirtual 185, 3) := by decide +kernel
theorem dX8_sum_61 : decode cX8_sum 61 = .ok (.ifCond .ne 5, 3) := by decide +kernel
theorem dX8_sum_64 : decode cX8_sum 64 = .ok (.iconst 0, 1) := by decide +kernel
theorem dX8_sum_65 : decode cX8_sum 65 = .ok (.ireturn, 1) := by decide +kernel
theorem dX8_sum_66 : decode cX8_sum 66 = .ok (.aload_n 0, 1) := by decide +kernel
theorem dX8_sum_67 : decode cX8_sum 67 = .ok (.iload_n 1, 1) := by decide +kernel
theorem dX8_sum_68 : decode cX8_sum 68 = .ok (.iconst 0, 1) := by decide +kernel
theorem dX8_sum_69 : decode cX8_sum 69 = .ok (.invokevirtual 167, 3) := by decide +kernel
theorem dX8_sum_72 : decode cX8_sum 72 = .ok (.goto (-63), 3) := by decide +kernel
theorem dX8_sum_75 : decode cX8_sum 75 = .ok (.iconst 1, 1) := by decide +kernel
theorem dX8_sum_76 : decode cX8_sum 76 = .ok (.ireturn, 1) := by decide +kernel
theorem dX8_compare_0 : decode cX8_compare 0 = .ok (.aload_n 0, 1) := by decide +kernel
theorem dX8_compare_1 : decode cX8_compare 1 = .ok (.invokevirtual 188, 3) := by decide +kernel
theorem dX8_compare_4 : decode cX8_compare 4 = .ok (.ifCond .ne 5, 3) := by decide +kernel
theorem dX8_compare_7 : decode cX8_compare 7 = .ok (.iconst 0, 1) := by decide +kernel
theorem dX8_compare_8 : decode cX8_compare 8 = .ok (.ireturn, 1) := by decide +kernel
theorem dX8_compare_9 : decode cX8_compare 9 = .ok (.aload_n 0, 1) := by decide +kernel
theorem dX8_compare_10 : decode cX8_compare 10 = .ok (.invokevirtual 102, 3) := by decide +kernel
theorem dX8_compare_13 : decode cX8_compare 13 = .ok (.istore_n 1, 1) := by decide +kernel
theorem dX8_compare_14 : decode cX8_compare 14 = .ok (.aload_n 0, 1) := by decide +kernel
theorem dX8_compare_15 : decode cX8_compare 15 = .ok (.getfield 99, 3) := by decide +kernel
theorem dX8_compare_18 : decode cX8_compare 18 = .ok (.istore_n 2, 1) := by decide +kernel
theorem dX8_compare_19 : decode cX8_compare 19 = .ok (.iload_n 1, 1) := by decide +kernel
theorem dX8_compare_20 : decode cX8_compare 20 = .ok (.bipush 60, 2) := by decide +kernel
theorem dX8_compare_22 : decode cX8_compare 22 = .ok (.if_icmp .eq 22, 3) := by decide +kernel
theorem dX8_compare_25 : decode cX8_compare 25 = .ok (.iload_n 1, 1) := by decide +kernel
theorem dX8_compare_26 : decode cX8_compare 26 = .ok (.bipush 61, 2) := by decide +kernel
theorem dX8_compare_28 : decode cX8_compare 28 = .ok (.if_icmp .eq 16, 3) := by decide +kernel
theorem dX8_compare_31 : decode cX8_compare 31 = .ok (.iload_n 1, 1) := by decide +kernel
theorem dX8_compare_32 : decode cX8_compare 32 = .ok (.bipush 62, 2) := by decide +kernel
theorem dX8_compare_34 : decode cX8_compare 34 = .ok (.if_icmp .eq 10, 3) := by decide +kernel
theorem dX8_compare_37 : decode cX8_compare 37 = .ok (.aload_n 0, 1) := by decide +kernel
theorem dX8_compare_38 : decode cX8_compare 38 = .ok (.iconst 0, 1) := by decide +kernel
theorem dX8_compare_39 : decode cX8_compare 39 = .ok (.iload_n 2, 1) := by decide +kernel
theorem dX8_compare_40 : decode cX8_compare 40 = .ok (.invokevirtual 120, 3) := by decide +kernel
theorem dX8_compare_43 : decode cX8_compare 43 = .ok (.ireturn, 1) := by decide +kernel
theorem dX8_compare_44 : decode cX8_compare 44 = .ok (.aload_n 0, 1) := by decide +kernel
theorem dX8_compare_45 : decode cX8_compare 45 = .ok (.dup, 1) := by decide +kernel
theorem dX8_compare_46 : decode cX8_compare 46 = .ok (.getfield 99, 3) := by decide +kernel
theorem dX8_compare_49 : decode cX8_compare 49 = .ok (.iconst 1, 1) := by decide +kernel
theorem dX8_compare_50 : decode cX8_compare 50 = .ok (.iadd, 1) := by decide +kernel
theorem dX8_compare_51 : decode cX8_compare 51 = .ok (.putfield 99, 3) := by decide +kernel
theorem dX8_compare_54 : decode cX8_compare 54 = .ok (.iload_n 1, 1) := by decide +kernel
theorem dX8_compare_55 : decode cX8_compare 55 = .ok (.bipush 61, 2) := by decide +kernel
theorem dX8_compare_57 : decode cX8_compare 57 = .ok (.if_icmp .eq 32, 3) := by decide +kernel
theorem dX8_compare_60 : decode cX8_compare 60 = .ok (.aload_n 0, 1) := by decide +kernel
theorem dX8_compare_61 : decode cX8_compare 61 = .ok (.getfield 99, 3) := by decide +kernel
theorem dX8_compare_64 : decode cX8_compare 64 = .ok (.aload_n 0, 1) := by decide +kernel
theorem dX8_compare_65 : decode cX8_compare 65 = .ok (.getfield 88, 3) := by decide +kernel
theorem dX8_compare_68 : decode cX8_compare 68 = .ok (.if_icmp .ge 21, 3) := by decide +kernel
theorem dX8_compare_71 : decode cX8_compare 71 = .ok (.aload_n 0, 1) := by decide +kernel
theorem dX8_compare_72 : decode cX8_compare 72 = .ok (.getfield 7, 3) := by decide +kernel
theorem dX8_compare_75 : decode cX8_compare 75 = .ok (.aload_n 0, 1) := by decide +kernel
theorem dX8_compare_76 : decode cX8_compare 76 = .ok (.getfield 99, 3) := by decide +kernel
theorem dX8_compare_79 : decode cX8_compare 79 = .ok (.baload, 1) := by decide +kernel
theorem dX8_compare_80 : decode cX8_compare 80 = .ok (.bipush 61, 2) := by decide +kernel
theorem dX8_compare_82 : decode cX8_compare 82 = .ok (.if_icmp .ne 7, 3) := by decide +kernel
theorem dX8_compare_85 : decode cX8_compare 85 = .ok (.iconst 1, 1) := by decide +kernel
theorem dX8_compare_86 : decode cX8_compare 86 = .ok (.goto 4, 3) := by decide +kernel
theorem dX8_compare_89 : decode cX8_compare 89 = .ok (.iconst 0, 1) := by decide +kernel
theorem dX8_compare_90 : decode cX8_compare 90 = .ok (.istore_n 3, 1) := by decide +kernel
theorem dX8_compare_91 : decode cX8_compare 91 = .ok (.iload_n 3, 1) := by decide +kernel
theorem dX8_compare_92 : decode cX8_compare 92 = .ok (.ifCond .eq 13, 3) := by decide +kernel
theorem dX8_compare_95 : decode cX8_compare 95 = .ok (.aload_n 0, 1) := by decide +kernel
theorem dX8_compare_96 : decode cX8_compare 96 = .ok (.dup, 1) := by decide +kernel
theorem dX8_compare_97 : decode cX8_compare 97 = .ok (.getfield 99, 3) := by decide +kernel
theorem dX8_compare_100 : decode cX8_compare 100 = .ok (.iconst 1, 1) := by decide +kernel
theorem dX8_compare_101 : decode cX8_compare 101 = .ok (.iadd, 1) := by decide +kernel
theorem dX8_compare_102 : decode cX8_compare 102 = .ok (.putfield 99, 3) := by decide +kernel
theorem dX8_compare_105 : decode cX8_compare 105 = .ok (.aload_n 0, 1) := by decide +kernel
theorem dX8_compare_106 : decode cX8_compare 106 = .ok (.iload_n 2, 1) := by decide +kernel
theorem dX8_compare_107 : decode cX8_compare 107 = .ok (.invokevirtual 175, 3) := by decide +kernel
theorem dX8_compare_110 : decode cX8_compare 110 = .ok (.ifCond .ne 5, 3) := by decide +kernel
theorem dX8_compare_113 : decode cX8_compare 113 = .ok (.iconst 0, 1) := by decide +kernel
theorem dX8_compare_114 : decode cX8_compare 114 = .ok (.ireturn, 1) := by decide +kernel
theorem dX8_compare_115 : decode cX8_compare 115 = .ok (.iload_n 1, 1) := by decide +kernel
theorem dX8_compare_116 : decode cX8_compare 116 = .ok (.bipush 60, 2) := by decide +kernel
theorem dX8_compare_118 : decode cX8_compare 118 = .ok (.if_icmp .ne 15, 3) := by decide +kernel
theorem dX8_compare_121 : decode cX8_compare 121 = .ok (.iload_n 3, 1) := by decide +kernel
theorem dX8_compare_122 : decode cX8_compare 122 = .ok (.ifCond .eq 7, 3) := by decide +kernel
theorem dX8_compare_125 : decode cX8_compare 125 = .ok (.iconst 1, 1) := by decide +kernel
theorem dX8_compare_126 : decode cX8_compare 126 = .ok (.goto 26, 3) := by decide +kernel
theorem dX8_compare_129 : decode cX8_compare 129 = .ok (.iconst 0, 1) := by decide +kernel
theorem dX8_compare_130 : decode cX8_compare 130 = .ok (.goto 22, 3) := by decide +kernel
theorem dX8_compare_133 : decode cX8_compare 133 = .ok (.iload_n 1, 1) := by decide +kernel
theorem dX8_compare_134 : decode cX8_compare 134 = .ok (.bipush 61, 2) := by decide +kernel
theorem dX8_compare_136 : decode cX8_compare 136 = .ok (.if_icmp .ne 7, 3) := by decide +kernel
theorem dX8_compare_139 : decode cX8_compare 139 = .ok (.iconst 2, 1) := by decide +kernel
theorem dX8_compare_140 : decode cX8_compare 140 = .ok (.goto 12, 3) := by decide +kernel
theorem dX8_compare_143 : decode cX8_compare 143 = .ok (.iload_n 3, 1) := by decide +kernel
theorem dX8_compare_144 : decode cX8_compare 144 = .ok (.ifCond .eq 7, 3) := by decide +kernel
theorem dX8_compare_147 : decode cX8_compare 147 = .ok (.iconst 3, 1) := by decide +kernel
theorem dX8_compare_148 : decode cX8_compare 148 = .ok (.goto 4, 3) := by decide +kernel
theorem dX8_compare_151 : decode cX8_compare 151 = .ok (.iconst 4, 1) := by decide +kernel
theorem dX8_compare_152 : decode cX8_compare 152 = .ok (.istore 4, 2) := by decide +kernel
theorem dX8_compare_154 : decode cX8_compare 154 = .ok (.aload_n 0, 1) := by decide +kernel
theorem dX8_compare_155 : decode cX8_compare 155 = .ok (.invokevirtual 188, 3) := by decide +kernel
theorem dX8_compare_158 : decode cX8_compare 158 = .ok (.ifCond .ne 5, 3) := by decide +kernel
theorem dX8_compare_161 : decode cX8_compare 161 = .ok (.iconst 0, 1) := by decide +kernel
theorem dX8_compare_162 : decode cX8_compare 162 = .ok (.ireturn, 1) := by decide +kernel
theorem dX8_compare_163 : decode cX8_compare 163 = .ok (.aload_n 0, 1) := by decide +kernel
theorem dX8_compare_164 : decode cX8_compare 164 = .ok (.bipush 6, 2) := by decide +kernel
theorem dX8_compare_166 : decode cX8_compare 166 = .ok (.iload 4, 2) := by decide +kernel
theorem dX8_compare_168 : decode cX8_compare 168 = .ok (.iadd, 1) := by decide +kernel
theorem dX8_compare_169 : decode cX8_compare 169 = .ok (.iconst 0, 1) := by decide +kernel
theorem dX8_compare_170 : decode cX8_compare 170 = .ok (.invokevirtual 167, 3) := by decide +kernel
theorem dX8_compare_173 : decode cX8_compare 173 = .ok (.iconst 1, 1) := by decide +kernel
theorem dX8_compare_174 : decode cX8_compare 174 = .ok (.ireturn, 1) := by decide +kernel
theorem dX8_fact_0 : decode cX8_fact 0 = .ok (.iconst 1, 1) := by decide +kernel
theorem dX8_fact_1 : decode cX8_fact 1 = .ok (.istore_n 1, 1) := by decide +kernel
theorem dX8_fact_2 : decode cX8_fact 2 = .ok (.iload_n 1, 1) := by decide +kernel
theorem dX8_fact_3 : decode cX8_fact 3 = .ok (.ifCond .eq 72, 3) := by decide +kernel
theorem dX8_fact_6 : decode cX8_fact 6 = .ok (.iconst 0, 1) := by decide +kernel
theorem dX8_fact_7 : decode cX8_fact 7 = .ok (.istore_n 1, 1) := by decide +kernel
theorem dX8_fact_8 : decode cX8_fact 8 = .ok (.aload_n 0, 1) := by decide +kernel
theorem dX8_fact_9 : decode cX8_fact 9 = .ok (.invokevirtual 102, 3) := by decide +kernel
theorem dX8_fact_12 : decode cX8_fact 12 = .ok (.istore_n 2, 1) := by decide +kernel
theorem dX8_fact_13 : decode cX8_fact 13 = .ok (.aload_n 0, 1) := by decide +kernel
theorem dX8_fact_14 : decode cX8_fact 14 = .ok (.ldc2_w 191, 3) := by decide +kernel
theorem dX8_fact_17 : decode cX8_fact 17 = .ok (.invokevirtual 110, 3) := by decide +kernel
theorem dX8_fact_20 : decode cX8_fact 20 = .ok (.ifCond .eq 23, 3) := by decide +kernel
theorem dX8_fact_23 : decode cX8_fact 23 = .ok (.aload_n 0, 1) := by decide +kernel
theorem dX8_fact_24 : decode cX8_fact 24 = .ok (.bipush 11, 2) := by decide +kernel
theorem dX8_fact_26 : decode cX8_fact 26 = .ok (.invokevirtual 193, 3) := by decide +kernel
theorem dX8_fact_29 : decode cX8_fact 29 = .ok (.ifCond .ne 5, 3) := by decide +kernel
theorem dX8_fact_32 : decode cX8_fact 32 = .ok (.iconst 0, 1) := by decide +kernel
theorem dX8_fact_33 : decode cX8_fact 33 = .ok (.ireturn, 1) := by decide +kernel
theorem dX8_fact_34 : decode cX8_fact 34 = .ok (.aload_n 0, 1) := by decide +kernel
theorem dX8_fact_35 : decode cX8_fact 35 = .ok (.invokevirtual 114, 3) := by decide +kernel
theorem dX8_fact_38 : decode cX8_fact 38 = .ok (.iconst 1, 1) := by decide +kernel
theorem dX8_fact_39 : decode cX8_fact 39 = .ok (.istore_n 1, 1) := by decide +kernel
theorem dX8_fact_40 : decode cX8_fact 40 = .ok (.goto 32, 3) := by decide +kernel
theorem dX8_fact_43 : decode cX8_fact 43 = .ok (.iload_n 2, 1) := by decide +kernel
theorem dX8_fact_44 : decode cX8_fact 44 = .ok (.bipush 91, 2) := by decide +kernel
theorem dX8_fact_46 : decode cX8_fact 46 = .ok (.if_icmp .ne 26, 3) := by decide +kernel
theorem dX8_fact_49 : decode cX8_fact 49 = .ok (.aload_n 0, 1) := by decide +kernel
theorem dX8_fact_50 : decode cX8_fact 50 = .ok (.bipush 91, 2) := by decide +kernel
theorem dX8_fact_52 : decode cX8_fact 52 = .ok (.invokevirtual 193, 3) := by decide +kernel
theorem dX8_fact_55 : decode cX8_fact 55 = .ok (.ifCond .ne 5, 3) := by decide +kernel
theorem dX8_fact_58 : decode cX8_fact 58 = .ok (.iconst 0, 1) := by decide +kernel
theorem dX8_fact_59 : decode cX8_fact 59 = .ok (.ireturn, 1) := by decide +kernel
theorem dX8_fact_60 : decode cX8_fact 60 = .ok (.aload_n 0, 1) := by decide +kernel
theorem dX8_fact_61 : decode cX8_fact 61 = .ok (.dup, 1) := by decide +kernel
theorem dX8_fact_62 : decode cX8_fact 62 = .ok (.getfield 99, 3) := by decide +kernel
theorem dX8_fact_65 : decode cX8_fact 65 = .ok (.iconst 1, 1) := by decide +kernel
theorem dX8_fact_66 : decode cX8_fact 66 = .ok (.iadd, 1) := by decide +kernel
theorem dX8_fact_67 : decode cX8_fact 67 = .ok (.putfield 99, 3) := by decide +kernel
theorem dX8_fact_70 : decode cX8_fact 70 = .ok (.iconst 1, 1) := by decide +kernel
theorem dX8_fact_71 : decode cX8_fact 71 = .ok (.istore_n 1, 1) := by decide +kernel
theorem dX8_fact_72 : decode cX8_fact 72 = .ok (.goto (-70), 3) := by decide +kernel
theorem dX8_fact_75 : decode cX8_fact 75 = .ok (.aload_n 0, 1) := by decide +kernel
theorem dX8_fact_76 : decode cX8_fact 76 = .ok (.invokevirtual 196, 3) := by decide +kernel
theorem dX8_fact_79 : decode cX8_fact 79 = .ok (.ireturn, 1) := by decide +kernel
theorem dX8_isInside_0 : decode cX8_isInside 0 = .ok (.iconst 0, 1) := by decide +kernel
theorem dX8_isInside_1 : decode cX8_isInside 1 = .ok (.istore_n 1, 1) := by decide +kernel
theorem dX8_isInside_2 : decode cX8_isInside 2 = .ok (.iload_n 1, 1) := by decide +kernel
theorem dX8_isInside_3 : decode cX8_isInside 3 = .ok (.aload_n 0, 1) := by decide +kernel
theorem dX8_isInside_4 : decode cX8_isInside 4 = .ok (.getfield 160, 3) := by decide +kernel
theorem dX8_isInside_7 : decode cX8_isInside 7 = .ok (.if_icmp .ge 22, 3) := by decide +kernel
theorem dX8_isInside_10 : decode cX8_isInside 10 = .ok (.aload_n 0, 1) := by decide +kernel
theorem dX8_isInside_11 : decode cX8_isInside 11 = .ok (.getfield 32, 3) := by decide +kernel
theorem dX8_isInside_14 : decode cX8_isInside 14 = .ok (.iload_n 1, 1) := by decide +kernel
theorem dX8_isInside_15 : decode cX8_isInside 15 = .ok (.iaload, 1) := by decide +kernel
theorem dX8_isInside_16 : decode cX8_isInside 16 = .ok (.bipush 91, 2) := by decide +kernel
theorem dX8_isInside_18 : decode cX8_isInside 18 = .ok (.if_icmp .ne 5, 3) := by decide +kernel
theorem dX8_isInside_21 : decode cX8_isInside 21 = .ok (.iconst 1, 1) := by decide +kernel
theorem dX8_isInside_22 : decode cX8_isInside 22 = .ok (.ireturn, 1) := by decide +kernel
theorem dX8_isInside_23 : decode cX8_isInside 23 = .ok (.iinc 1 1, 3) := by decide +kernel
theorem dX8_isInside_26 : decode cX8_isInside 26 = .ok (.goto (-24), 3) := by decide +kernel
theorem dX8_isInside_29 : decode cX8_isInside 29 = .ok (.iconst 0, 1) := by decide +kernel
theorem dX8_isInside_30 : decode cX8_isInside 30 = .ok (.ireturn, 1) := by decide +kernel
theorem dX8_closes_0 : decode cX8_closes 0 = .ok (.aload_n 0, 1) := by decide +kernel
theorem dX8_closes_1 : decode cX8_closes 1 = .ok (.iconst 3, 1) := by decide +kernel
theorem dX8_closes_2 : decode cX8_closes 2 = .ok (.invokevirtual 199, 3) := by decide +kernel
theorem dX8_closes_5 : decode cX8_closes 5 = .ok (.aload_n 0, 1) := by decide +kernel
theorem dX8_closes_6 : decode cX8_closes 6 = .ok (.invokevirtual 102, 3) := by decide +kernel
theorem dX8_closes_9 : decode cX8_closes 9 = .ok (.bipush 93, 2) := by decide +kernel
theorem dX8_closes_11 : decode cX8_closes 11 = .ok (.if_icmp .ne 53, 3) := by decide +kernel
theorem dX8_closes_14 : decode cX8_closes 14 = .ok (.aload_n 0, 1) := by decide +kernel
theorem dX8_closes_15 : decode cX8_closes 15 = .ok (.invokevirtual 202, 3) := by decide +kernel
theorem dX8_closes_18 : decode cX8_closes 18 = .ok (.ifCond .eq 46, 3) := by decide +kernel
theorem dX8_closes_21 : decode cX8_closes 21 = .ok (.aload_n 0, 1) := by decide +kernel
theorem dX8_closes_22 : decode cX8_closes 22 = .ok (.iconst 1, 1) := by decide +kernel
theorem dX8_closes_23 : decode cX8_closes 23 = .ok (.invokevirtual 199, 3) := by decide +kernel
theorem dX8_closes_26 : decode cX8_closes 26 = .ok (.aload_n 0, 1) := by decide +kernel
theorem dX8_closes_27 : decode cX8_closes 27 = .ok (.dup, 1) := by decide +kernel
theorem dX8_closes_28 : decode cX8_closes 28 = .ok (.getfield 160, 3) := by decide +kernel
theorem dX8_closes_31 : decode cX8_closes 31 = .ok (.iconst 1, 1) := by decide +kernel
theorem dX8_closes_32 : decode cX8_closes 32 = .ok (.isub, 1) := by decide +kernel
theorem dX8_closes_33 : decode cX8_closes 33 = .ok (.putfield 160, 3) := by decide +kernel
theorem dX8_closes_36 : decode cX8_closes 36 = .ok (.aload_n 0, 1) := by decide +kernel
theorem dX8_closes_37 : decode cX8_closes 37 = .ok (.dup, 1) := by decide +kernel
theorem dX8_closes_38 : decode cX8_closes 38 = .ok (.getfield 157, 3) := by decide +kernel
theorem dX8_closes_41 : decode cX8_closes 41 = .ok (.iconst 1, 1) := by decide +kernel
theorem dX8_closes_42 : decode cX8_closes 42 = .ok (.isub, 1) := by decide +kernel
theorem dX8_closes_43 : decode cX8_closes 43 = .ok (.putfield 157, 3) := by decide +kernel
theorem dX8_closes_46 : decode cX8_closes 46 = .ok (.aload_n 0, 1) := by decide +kernel
theorem dX8_closes_47 : decode cX8_closes 47 = .ok (.dup, 1) := by decide +kernel
theorem dX8_closes_48 : decode cX8_closes 48 = .ok (.getfield 99, 3) := by decide +kernel
theorem dX8_closes_51 : decode cX8_closes 51 = .ok (.iconst 1, 1) := by decide +kernel
theorem dX8_closes_52 : decode cX8_closes 52 = .ok (.iadd, 1) := by decide +kernel
theorem dX8_closes_53 : decode cX8_closes 53 = .ok (.putfield 99, 3) := by decide +kernel
theorem dX8_closes_56 : decode cX8_closes 56 = .ok (.aload_n 0, 1) := by decide +kernel
theorem dX8_closes_57 : decode cX8_closes 57 = .ok (.iconst 3, 1) := by decide +kernel
theorem dX8_closes_58 : decode cX8_closes 58 = .ok (.invokevirtual 199, 3) := by decide +kernel
theorem dX8_closes_61 : decode cX8_closes 61 = .ok (.goto (-56), 3) := by decide +kernel
theorem dX8_closes_64 : decode cX8_closes 64 = .ok (.return_, 1) := by decide +kernel
theorem dX8_tested_0 : decode cX8_tested 0 = .ok (.aload_n 0, 1) := by decide +kernel
theorem dX8_tested_1 : decode cX8_tested 1 = .ok (.iconst 0, 1) := by decide +kernel
theorem dX8_tested_2 : decode cX8_tested 2 = .ok (.putfield 160, 3) := by decide +kernel
theorem dX8_tested_5 : decode cX8_tested 5 = .ok (.aload_n 0, 1) := by decide +kernel
theorem dX8_tested_6 : decode cX8_tested 6 = .ok (.iconst 0, 1) := by decide +kernel
theorem dX8_tested_7 : decode cX8_tested 7 = .ok (.putfield 157, 3) := by decide +kernel
theorem dX8_tested_10 : decode cX8_tested 10 = .ok (.iconst 1, 1) := by decide +kernel
theorem dX8_tested_11 : decode cX8_tested 11 = .ok (.istore_n 1, 1) := by decide +kernel
theorem dX8_tested_12 : decode cX8_tested 12 = .ok (.iload_n 1, 1) := by decide +kernel
theorem dX8_tested_13 : decode cX8_tested 13 = .ok (.ifCond .eq 99, 3) := by decide +kernel
theorem dX8_tested_16 : decode cX8_tested 16 = .ok (.aload_n 0, 1) := by decide +kernel
theorem dX8_tested_17 : decode cX8_tested 17 = .ok (.invokevirtual 205, 3) := by decide +kernel
theorem dX8_tested_20 : decode cX8_tested 20 = .ok (.ifCond .ne 5, 3) := by decide +kernel
theorem dX8_tested_23 : decode cX8_tested 23 = .ok (.iconst 0, 1) := by decide +kernel
theorem dX8_tested_24 : decode cX8_tested 24 = .ok (.ireturn, 1) := by decide +kernel
theorem dX8_tested_25 : decode cX8_tested 25 = .ok (.aload_n 0, 1) := by decide +kernel
theorem dX8_tested_26 : decode cX8_tested 26 = .ok (.invokevirtual 208, 3) := by decide +kernel
theorem dX8_tested_29 : decode cX8_tested 29 = .ok (.aload_n 0, 1) := by decide +kernel
theorem dX8_tested_30 : decode cX8_tested 30 = .ok (.ldc2_w 211, 3) := by decide +kernel
theorem dX8_tested_33 : decode cX8_tested 33 = .ok (.invokevirtual 110, 3) := by decide +kernel
theorem dX8_tested_36 : decode cX8_tested 36 = .ok (.ifCond .ne 13, 3) := by decide +kernel
theorem dX8_tested_39 : decode cX8_tested 39 = .ok (.aload_n 0, 1) := by decide +kernel
theorem dX8_tested_40 : decode cX8_tested 40 = .ok (.ldc2_w 213, 3) := by decide +kernel
theorem dX8_tested_43 : decode cX8_tested 43 = .ok (.invokevirtual 110, 3) := by decide +kernel
theorem dX8_tested_46 : decode cX8_tested 46 = .ok (.ifCond .eq 7, 3) := by decide +kernel
theorem dX8_tested_49 : decode cX8_tested 49 = .ok (.iconst 1, 1) := by decide +kernel
theorem dX8_tested_50 : decode cX8_tested 50 = .ok (.goto 4, 3) := by decide +kernel
theorem dX8_tested_53 : decode cX8_tested 53 = .ok (.iconst 0, 1) := by decide +kernel
theorem dX8_tested_54 : decode cX8_tested 54 = .ok (.istore_n 1, 1) := by decide +kernel
theorem dX8_tested_55 : decode cX8_tested 55 = .ok (.iload_n 1, 1) := by decide +kernel
theorem dX8_tested_56 : decode cX8_tested 56 = .ok (.ifCond .eq (-44), 3) := by decide +kernel
theorem dX8_tested_59 : decode cX8_tested 59 = .ok (.aload_n 0, 1) := by decide +kernel
theorem dX8_tested_60 : decode cX8_tested 60 = .ok (.ldc2_w 211, 3) := by decide +kernel
theorem dX8_tested_63 : decode cX8_tested 63 = .ok (.invokevirtual 110, 3) := by decide +kernel
theorem dX8_tested_66 : decode cX8_tested 66 = .ok (.ifCond .eq 8, 3) := by decide +kernel
theorem dX8_tested_69 : decode cX8_tested 69 = .ok (.bipush 12, 2) := by decide +kernel
theorem dX8_tested_71 : decode cX8_tested 71 = .ok (.goto 5, 3) := by decide +kernel
theorem dX8_tested_74 : decode cX8_tested 74 = .ok (.bipush 13, 2) := by decide +kernel
theorem dX8_tested_76 : decode cX8_tested 76 = .ok (.istore_n 2, 1) := by decide +kernel
theorem dX8_tested_77 : decode cX8_tested 77 = .ok (.aload_n 0, 1) := by decide +kernel
theorem dX8_tested_78 : decode cX8_tested 78 = .ok (.invokevirtual 114, 3) := by decide +kernel
theorem dX8_tested_81 : decode cX8_tested 81 = .ok (.aload_n 0, 1) := by decide +kernel
theorem dX8_tested_82 : decode cX8_tested 82 = .ok (.iload_n 2, 1) := by decide +kernel
theorem dX8_tested_83 : decode cX8_tested 83 = .ok (.invokestatic 163, 3) := by decide +kernel
theorem dX8_tested_86 : decode cX8_tested 86 = .ok (.invokevirtual 199, 3) := by decide +kernel
theorem dX8_tested_89 : decode cX8_tested 89 = .ok (.aload_n 0, 1) := by decide +kernel
theorem dX8_tested_90 : decode cX8_tested 90 = .ok (.getfield 32, 3) := by decide +kernel
theorem dX8_tested_93 : decode cX8_tested 93 = .ok (.aload_n 0, 1) := by decide +kernel
theorem dX8_tested_94 : decode cX8_tested 94 = .ok (.getfield 160, 3) := by decide +kernel
theorem dX8_tested_97 : decode cX8_tested 97 = .ok (.iload_n 2, 1) := by decide +kernel
theorem dX8_tested_98 : decode cX8_tested 98 = .ok (.iastore, 1) := by decide +kernel
theorem dX8_tested_99 : decode cX8_tested 99 = .ok (.aload_n 0, 1) := by decide +kernel
theorem dX8_tested_100 : decode cX8_tested 100 = .ok (.dup, 1) := by decide +kernel
theorem dX8_tested_101 : decode cX8_tested 101 = .ok (.getfield 160, 3) := by decide +kernel
theorem dX8_tested_104 : decode cX8_tested 104 = .ok (.iconst 1, 1) := by decide +kernel
theorem dX8_tested_105 : decode cX8_tested 105 = .ok (.iadd, 1) := by decide +kernel
theorem dX8_tested_106 : decode cX8_tested 106 = .ok (.putfield 160, 3) := by decide +kernel
theorem dX8_tested_109 : decode cX8_tested 109 = .ok (.goto (-97), 3) := by decide +kernel
theorem dX8_tested_112 : decode cX8_tested 112 = .ok (.aload_n 0, 1) := by decide +kernel
theorem dX8_tested_113 : decode cX8_tested 113 = .ok (.invokevirtual 202, 3) := by decide +kernel
theorem dX8_tested_116 : decode cX8_tested 116 = .ok (.ifCond .eq 18, 3) := by decide +kernel
theorem dX8_tested_119 : decode cX8_tested 119 = .ok (.aload_n 0, 1) := by decide +kernel
theorem dX8_tested_120 : decode cX8_tested 120 = .ok (.invokevirtual 102, 3) := by decide +kernel
theorem dX8_tested_123 : decode cX8_tested 123 = .ok (.pop, 1) := by decide +kernel
theorem dX8_tested_124 : decode cX8_tested 124 = .ok (.aload_n 0, 1) := by decide +kernel
theorem dX8_tested_125 : decode cX8_tested 125 = .ok (.iconst 0, 1) := by decide +kernel
theorem dX8_tested_126 : decode cX8_tested 126 = .ok (.aload_n 0, 1) := by decide +kernel
theorem dX8_tested_127 : decode cX8_tested 127 = .ok (.getfield 99, 3) := by decide +kernel
theorem dX8_tested_130 : decode cX8_tested 130 = .ok (.invokevirtual 120, 3) := by decide +kernel
theorem dX8_tested_133 : decode cX8_tested 133 = .ok (.ireturn, 1) := by decide +kernel
theorem dX8_tested_134 : decode cX8_tested 134 = .ok (.aload_n 0, 1) := by decide +kernel
theorem dX8_tested_135 : decode cX8_tested 135 = .ok (.iconst 1, 1) := by decide +kernel
theorem dX8_tested_136 : decode cX8_tested 136 = .ok (.invokevirtual 199, 3) := by decide +kernel
theorem dX8_tested_139 : decode cX8_tested 139 = .ok (.iconst 1, 1) := by decide +kernel
theorem dX8_tested_140 : decode cX8_tested 140 = .ok (.ireturn, 1) := by decide +kernel
theorem dX8_isBarHere_0 : decode cX8_isBarHere 0 = .ok (.aload_n 0, 1) := by decide +kernel
theorem dX8_isBarHere_1 : decode cX8_isBarHere 1 = .ok (.invokevirtual 114, 3) := by decide +kernel
theorem dX8_isBarHere_4 : decode cX8_isBarHere 4 = .ok (.bipush 24, 2) := by decide +kernel
theorem dX8_isBarHere_6 : decode cX8_isBarHere 6 = .ok (.aload_n 0, 1) := by decide +kernel
theorem dX8_isBarHere_7 : decode cX8_isBarHere 7 = .ok (.getfield 151, 3) := by decide +kernel
theorem dX8_isBarHere_10 : decode cX8_isBarHere 10 = .ok (.imul, 1) := by decide +kernel
theorem dX8_isBarHere_11 : decode cX8_isBarHere 11 = .ok (.iconst 2, 1) := by decide +kernel
theorem dX8_isBarHere_12 : decode cX8_isBarHere 12 = .ok (.aload_n 0, 1) := by decide +kernel
theorem dX8_isBarHere_13 : decode cX8_isBarHere 13 = .ok (.getfield 23, 3) := by decide +kernel
theorem dX8_isBarHere_16 : decode cX8_isBarHere 16 = .ok (.aload_n 0, 1) := by decide +kernel
theorem dX8_isBarHere_17 : decode cX8_isBarHere 17 = .ok (.getfield 151, 3) := by decide +kernel
theorem dX8_isBarHere_20 : decode cX8_isBarHere 20 = .ok (.iaload, 1) := by decide +kernel
theorem dX8_isBarHere_21 : decode cX8_isBarHere 21 = .ok (.imul, 1) := by decide +kernel
theorem dX8_isBarHere_22 : decode cX8_isBarHere 22 = .ok (.iadd, 1) := by decide +kernel
theorem dX8_isBarHere_23 : decode cX8_isBarHere 23 = .ok (.istore_n 1, 1) := by decide +kernel
theorem dX8_isBarHere_24 : decode cX8_isBarHere 24 = .ok (.aload_n 0, 1) := by decide +kernel
theorem dX8_isBarHere_25 : decode cX8_isBarHere 25 = .ok (.getfield 20, 3) := by decide +kernel
theorem dX8_isBarHere_28 : decode cX8_isBarHere 28 = .ok (.iload_n 1, 1) := by decide +kernel
theorem dX8_isBarHere_29 : decode cX8_isBarHere 29 = .ok (.aload_n 0, 1) := by decide +kernel
theorem dX8_isBarHere_30 : decode cX8_isBarHere 30 = .ok (.getfield 17, 3) := by decide +kernel
theorem dX8_isBarHere_33 : decode cX8_isBarHere 33 = .ok (.aload_n 0, 1) := by decide +kernel
theorem dX8_isBarHere_34 : decode cX8_isBarHere 34 = .ok (.getfield 151, 3) := by decide +kernel
theorem dX8_isBarHere_37 : decode cX8_isBarHere 37 = .ok (.iaload, 1) := by decide +kernel
theorem dX8_isBarHere_38 : decode cX8_isBarHere 38 = .ok (.iastore, 1) := by decide +kernel
theorem dX8_isBarHere_39 : decode cX8_isBarHere 39 = .ok (.aload_n 0, 1) := by decide +kernel
theorem dX8_isBarHere_40 : decode cX8_isBarHere 40 = .ok (.invokevirtual 215, 3) := by decide +kernel
theorem dX8_isBarHere_43 : decode cX8_isBarHere 43 = .ok (.ifCond .ne 5, 3) := by decide +kernel
theorem dX8_isBarHere_46 : decode cX8_isBarHere 46 = .ok (.iconst 0, 1) := by decide +kernel
theorem dX8_isBarHere_47 : decode cX8_isBarHere 47 = .ok (.ireturn, 1) := by decide +kernel
theorem dX8_isBarHere_48 : decode cX8_isBarHere 48 = .ok (.aload_n 0, 1) := by decide +kernel
theorem dX8_isBarHere_49 : decode cX8_isBarHere 49 = .ok (.getfield 20, 3) := by decide +kernel
theorem dX8_isBarHere_52 : decode cX8_isBarHere 52 = .ok (.iload_n 1, 1) := by decide +kernel
theorem dX8_isBarHere_53 : decode cX8_isBarHere 53 = .ok (.iconst 1, 1) := by decide +kernel
theorem dX8_isBarHere_54 : decode cX8_isBarHere 54 = .ok (.iadd, 1) := by decide +kernel
theorem dX8_isBarHere_55 : decode cX8_isBarHere 55 = .ok (.aload_n 0, 1) := by decide +kernel
theorem dX8_isBarHere_56 : decode cX8_isBarHere 56 = .ok (.getfield 17, 3) := by decide +kernel
theorem dX8_isBarHere_59 : decode cX8_isBarHere 59 = .ok (.aload_n 0, 1) := by decide +kernel
theorem dX8_isBarHere_60 : decode cX8_isBarHere 60 = .ok (.getfield 151, 3) := by decide +kernel
theorem dX8_isBarHere_63 : decode cX8_isBarHere 63 = .ok (.iaload, 1) := by decide +kernel
theorem dX8_isBarHere_64 : decode cX8_isBarHere 64 = .ok (.iastore, 1) := by decide +kernel
theorem dX8_isBarHere_65 : decode cX8_isBarHere 65 = .ok (.aload_n 0, 1) := by decide +kernel
theorem dX8_isBarHere_66 : decode cX8_isBarHere 66 = .ok (.getfield 23, 3) := by decide +kernel
theorem dX8_isBarHere_69 : decode cX8_isBarHere 69 = .ok (.aload_n 0, 1) := by decide +kernel
theorem dX8_isBarHere_70 : decode cX8_isBarHere 70 = .ok (.getfield 151, 3) := by decide +kernel
theorem dX8_isBarHere_73 : decode cX8_isBarHere 73 = .ok (.dup2, 1) := by decide +kernel
theorem dX8_isBarHere_74 : decode cX8_isBarHere 74 = .ok (.iaload, 1) := by decide +kernel
theorem dX8_isBarHere_75 : decode cX8_isBarHere 75 = .ok (.iconst 1, 1) := by decide +kernel
theorem dX8_isBarHere_76 : decode cX8_isBarHere 76 = .ok (.iadd, 1) := by decide +kernel
theorem dX8_isBarHere_77 : decode cX8_isBarHere 77 = .ok (.iastore, 1) := by decide +kernel
theorem dX8_isBarHere_78 : decode cX8_isBarHere 78 = .ok (.iconst 1, 1) := by decide +kernel
theorem dX8_isBarHere_79 : decode cX8_isBarHere 79 = .ok (.ireturn, 1) := by decide +kernel
theorem dX8_isLevelHere_0 : decode cX8_isLevelHere 0 = .ok (.aload_n 0, 1) := by decide +kernel
theorem dX8_isLevelHere_1 : decode cX8_isLevelHere 1 = .ok (.getfield 218, 3) := by decide +kernel
theorem dX8_isLevelHere_4 : decode cX8_isLevelHere 4 = .ok (.bipush 8, 2) := by decide +kernel
theorem dX8_isLevelHere_6 : decode cX8_isLevelHere 6 = .ok (.if_icmp .eq 10, 3) := by decide +kernel
theorem dX8_isLevelHere_9 : decode cX8_isLevelHere 9 = .ok (.aload_n 0, 1) := by decide +kernel
theorem dX8_isLevelHere_10 : decode cX8_isLevelHere 10 = .ok (.getfield 221, 3) := by decide +kernel
theorem dX8_isLevelHere_13 : decode cX8_isLevelHere 13 = .ok (.ifCond .eq 10, 3) := by decide +kernel
theorem dX8_isLevelHere_16 : decode cX8_isLevelHere 16 = .ok (.aload_n 0, 1) := by decide +kernel
theorem dX8_isLevelHere_17 : decode cX8_isLevelHere 17 = .ok (.iconst 4, 1) := by decide +kernel
theorem dX8_isLevelHere_18 : decode cX8_isLevelHere 18 = .ok (.iload_n 1, 1) := by decide +kernel
theorem dX8_isLevelHere_19 : decode cX8_isLevelHere 19 = .ok (.invokevirtual 120, 3) := by decide +kernel
theorem dX8_isLevelHere_22 : decode cX8_isLevelHere 22 = .ok (.ireturn, 1) := by decide +kernel
theorem dX8_isLevelHere_23 : decode cX8_isLevelHere 23 = .ok (.aload_n 0, 1) := by decide +kernel
theorem dX8_isLevelHere_24 : decode cX8_isLevelHere 24 = .ok (.invokevirtual 114, 3) := by decide +kernel
theorem dX8_isLevelHere_27 : decode cX8_isLevelHere 27 = .ok (.aload_n 0, 1) := by decide +kernel
theorem dX8_isLevelHere_28 : decode cX8_isLevelHere 28 = .ok (.iconst 0, 1) := by decide +kernel
theorem dX8_isLevelHere_29 : decode cX8_isLevelHere 29 = .ok (.sipush 999, 3) := by decide +kernel
theorem dX8_isLevelHere_32 : decode cX8_isLevelHere 32 = .ok (.invokevirtual 172, 3) := by decide +kernel
theorem dX8_isLevelHere_35 : decode cX8_isLevelHere 35 = .ok (.ifCond .ne 5, 3) := by decide +kernel
theorem dX8_isLevelHere_38 : decode cX8_isLevelHere 38 = .ok (.iconst 0, 1) := by decide +kernel
theorem dX8_isLevelHere_39 : decode cX8_isLevelHere 39 = .ok (.ireturn, 1) := by decide +kernel
theorem dX8_isLevelHere_40 : decode cX8_isLevelHere 40 = .ok (.aload_n 0, 1) := by decide +kernel
theorem dX8_isLevelHere_41 : decode cX8_isLevelHere 41 = .ok (.getfield 26, 3) := by decide +kernel
theorem dX8_isLevelHere_44 : decode cX8_isLevelHere 44 = .ok (.iconst 2, 1) := by decide +kernel
theorem dX8_isLevelHere_45 : decode cX8_isLevelHere 45 = .ok (.aload_n 0, 1) := by decide +kernel
theorem dX8_isLevelHere_46 : decode cX8_isLevelHere 46 = .ok (.getfield 218, 3) := by decide +kernel
theorem dX8_isLevelHere_49 : decode cX8_isLevelHere 49 = .ok (.imul, 1) := by decide +kernel
theorem dX8_isLevelHere_50 : decode cX8_isLevelHere 50 = .ok (.aload_n 0, 1) := by decide +kernel
theorem dX8_isLevelHere_51 : decode cX8_isLevelHere 51 = .ok (.getfield 124, 3) := by decide +kernel
theorem dX8_isLevelHere_54 : decode cX8_isLevelHere 54 = .ok (.iastore, 1) := by decide +kernel
theorem dX8_isLevelHere_55 : decode cX8_isLevelHere 55 = .ok (.aload_n 0, 1) := by decide +kernel
theorem dX8_isLevelHere_56 : decode cX8_isLevelHere 56 = .ok (.iconst 1, 1) := by decide +kernel
theorem dX8_isLevelHere_57 : decode cX8_isLevelHere 57 = .ok (.bipush 8, 2) := by decide +kernel
theorem dX8_isLevelHere_59 : decode cX8_isLevelHere 59 = .ok (.invokevirtual 172, 3) := by decide +kernel
theorem dX8_isLevelHere_62 : decode cX8_isLevelHere 62 = .ok (.ifCond .ne 5, 3) := by decide +kernel
theorem dX8_isLevelHere_65 : decode cX8_isLevelHere 65 = .ok (.iconst 0, 1) := by decide +kernel
theorem dX8_isLevelHere_66 : decode cX8_isLevelHere 66 = .ok (.ireturn, 1) := by decide +kernel
theorem dX8_isLevelHere_67 : decode cX8_isLevelHere 67 = .ok (.aload_n 0, 1) := by decide +kernel
theorem dX8_isLevelHere_68 : decode cX8_isLevelHere 68 = .ok (.getfield 26, 3) := by decide +kernel
theorem dX8_isLevelHere_71 : decode cX8_isLevelHere 71 = .ok (.iconst 2, 1) := by decide +kernel
theorem dX8_isLevelHere_72 : decode cX8_isLevelHere 72 = .ok (.aload_n 0, 1) := by decide +kernel
theorem dX8_isLevelHere_73 : decode cX8_isLevelHere 73 = .ok (.getfield 218, 3) := by decide +kernel
theorem dX8_isLevelHere_76 : decode cX8_isLevelHere 76 = .ok (.imul, 1) := by decide +kernel
theorem dX8_isLevelHere_77 : decode cX8_isLevelHere 77 = .ok (.iconst 1, 1) := by decide +kernel
theorem dX8_isLevelHere_78 : decode cX8_isLevelHere 78 = .ok (.iadd, 1) := by decide +kernel
theorem dX8_isLevelHere_79 : decode cX8_isLevelHere 79 = .ok (.aload_n 0, 1) := by decide +kernel
theorem dX8_isLevelHere_80 : decode cX8_isLevelHere 80 = .ok (.getfield 124, 3) := by decide +kernel
theorem dX8_isLevelHere_83 : decode cX8_isLevelHere 83 = .ok (.iastore, 1) := by decide +kernel
theorem dX8_isLevelHere_84 : decode cX8_isLevelHere 84 = .ok (.aload_n 0, 1) := by decide +kernel
theorem dX8_isLevelHere_85 : decode cX8_isLevelHere 85 = .ok (.dup, 1) := by decide +kernel
theorem dX8_isLevelHere_86 : decode cX8_isLevelHere 86 = .ok (.getfield 218, 3) := by decide +kernel
theorem dX8_isLevelHere_89 : decode cX8_isLevelHere 89 = .ok (.iconst 1, 1) := by decide +kernel
theorem dX8_isLevelHere_90 : decode cX8_isLevelHere 90 = .ok (.iadd, 1) := by decide +kernel
theorem dX8_isLevelHere_91 : decode cX8_isLevelHere 91 = .ok (.putfield 218, 3) := by decide +kernel
theorem dX8_isLevelHere_94 : decode cX8_isLevelHere 94 = .ok (.iconst 1, 1) := by decide +kernel
theorem dX8_isLevelHere_95 : decode cX8_isLevelHere 95 = .ok (.ireturn, 1) := by decide +kernel
theorem dX8_isLagHere_0 : decode cX8_isLagHere 0 = .ok (.aload_n 0, 1) := by decide +kernel
theorem dX8_isLagHere_1 : decode cX8_isLagHere 1 = .ok (.getfield 225, 3) := by decide +kernel
theorem dX8_isLagHere_4 : decode cX8_isLagHere 4 = .ok (.ifCond .lt 10, 3) := by decide +kernel
theorem dX8_isLagHere_7 : decode cX8_isLagHere 7 = .ok (.aload_n 0, 1) := by decide +kernel
theorem dX8_isLagHere_8 : decode cX8_isLagHere 8 = .ok (.iconst 4, 1) := by decide +kernel
theorem dX8_isLagHere_9 : decode cX8_isLagHere 9 = .ok (.iload_n 1, 1) := by decide +kernel
theorem dX8_isLagHere_10 : decode cX8_isLagHere 10 = .ok (.invokevirtual 120, 3) := by decide +kernel
theorem dX8_isLagHere_13 : decode cX8_isLagHere 13 = .ok (.ireturn, 1) := by decide +kernel
theorem dX8_isLagHere_14 : decode cX8_isLagHere 14 = .ok (.aload_n 0, 1) := by decide +kernel
theorem dX8_isLagHere_15 : decode cX8_isLagHere 15 = .ok (.invokevirtual 114, 3) := by decide +kernel
theorem dX8_isLagHere_18 : decode cX8_isLagHere 18 = .ok (.aload_n 0, 1) := by decide +kernel
theorem dX8_isLagHere_19 : decode cX8_isLagHere 19 = .ok (.iconst 0, 1) := by decide +kernel
theorem dX8_isLagHere_20 : decode cX8_isLagHere 20 = .ok (.bipush 20, 2) := by decide +kernel
theorem dX8_isLagHere_22 : decode cX8_isLagHere 22 = .ok (.invokevirtual 172, 3) := by decide +kernel
theorem dX8_isLagHere_25 : decode cX8_isLagHere 25 = .ok (.ifCond .ne 5, 3) := by decide +kernel
theorem dX8_isLagHere_28 : decode cX8_isLagHere 28 = .ok (.iconst 0, 1) := by decide +kernel
theorem dX8_isLagHere_29 : decode cX8_isLagHere 29 = .ok (.ireturn, 1) := by decide +kernel
theorem dX8_isLagHere_30 : decode cX8_isLagHere 30 = .ok (.aload_n 0, 1) := by decide +kernel
theorem dX8_isLagHere_31 : decode cX8_isLagHere 31 = .ok (.aload_n 0, 1) := by decide +kernel
theorem dX8_isLagHere_32 : decode cX8_isLagHere 32 = .ok (.getfield 124, 3) := by decide +kernel
theorem dX8_isLagHere_35 : decode cX8_isLagHere 35 = .ok (.putfield 225, 3) := by decide +kernel
theorem dX8_isLagHere_38 : decode cX8_isLagHere 38 = .ok (.iconst 1, 1) := by decide +kernel
theorem dX8_isLagHere_39 : decode cX8_isLagHere 39 = .ok (.ireturn, 1) := by decide +kernel
theorem dX8_mostOf_0 : decode cX8_mostOf 0 = .ok (.iload_n 0, 1) := by decide +kernel
theorem dX8_mostOf_1 : decode cX8_mostOf 1 = .ok (.ifCond .ne 8, 3) := by decide +kernel
theorem dX8_mostOf_4 : decode cX8_mostOf 4 = .ok (.bipush 99, 2) := by decide +kernel
theorem dX8_mostOf_6 : decode cX8_mostOf 6 = .ok (.goto 15, 3) := by decide +kernel
theorem dX8_mostOf_9 : decode cX8_mostOf 9 = .ok (.iload_n 0, 1) := by decide +kernel
theorem dX8_mostOf_10 : decode cX8_mostOf 10 = .ok (.iconst 3, 1) := by decide +kernel
theorem dX8_mostOf_11 : decode cX8_mostOf 11 = .ok (.if_icmp .ne 9, 3) := by decide +kernel
theorem dX8_mostOf_14 : decode cX8_mostOf 14 = .ok (.sipush 999, 3) := by decide +kernel
theorem dX8_mostOf_17 : decode cX8_mostOf 17 = .ok (.goto 4, 3) := by decide +kernel
theorem dX8_mostOf_20 : decode cX8_mostOf 20 = .ok (.iconst 1, 1) := by decide +kernel
theorem dX8_mostOf_21 : decode cX8_mostOf 21 = .ok (.ireturn, 1) := by decide +kernel
theorem dX8_isBargeHere_0 : decode cX8_isBargeHere 0 = .ok (.aload_n 0, 1) := by decide +kernel
theorem dX8_isBargeHere_1 : decode cX8_isBargeHere 1 = .ok (.getfield 218, 3) := by decide +kernel
theorem dX8_isBargeHere_4 : decode cX8_isBargeHere 4 = .ok (.iconst 2, 1) := by decide +kernel
theorem dX8_isBargeHere_5 : decode cX8_isBargeHere 5 = .ok (.if_icmp .lt 12, 3) := by decide +kernel
theorem dX8_isBargeHere_8 : decode cX8_isBargeHere 8 = .ok (.aload_n 0, 1) := by decide +kernel
theorem dX8_isBargeHere_9 : decode cX8_isBargeHere 9 = .ok (.getfield 228, 3) := by decide +kernel
theorem dX8_isBargeHere_12 : decode cX8_isBargeHere 12 = .ok (.bipush 6, 2) := by decide +kernel
theorem dX8_isBargeHere_14 : decode cX8_isBargeHere 14 = .ok (.if_icmp .ne 10, 3) := by decide +kernel
theorem dX8_isBargeHere_17 : decode cX8_isBargeHere 17 = .ok (.aload_n 0, 1) := by decide +kernel
theorem dX8_isBargeHere_18 : decode cX8_isBargeHere 18 = .ok (.iconst 4, 1) := by decide +kernel
theorem dX8_isBargeHere_19 : decode cX8_isBargeHere 19 = .ok (.iload_n 1, 1) := by decide +kernel
theorem dX8_isBargeHere_20 : decode cX8_isBargeHere 20 = .ok (.invokevirtual 120, 3) := by decide +kernel
theorem dX8_isBargeHere_23 : decode cX8_isBargeHere 23 = .ok (.ireturn, 1) := by decide +kernel
theorem dX8_isBargeHere_24 : decode cX8_isBargeHere 24 = .ok (.aload_n 0, 1) := by decide +kernel
theorem dX8_isBargeHere_25 : decode cX8_isBargeHere 25 = .ok (.iconst 1, 1) := by decide +kernel
theorem dX8_isBargeHere_26 : decode cX8_isBargeHere 26 = .ok (.putfield 221, 3) := by decide +kernel
theorem dX8_isBargeHere_29 : decode cX8_isBargeHere 29 = .ok (.aload_n 0, 1) := by decide +kernel
theorem dX8_isBargeHere_30 : decode cX8_isBargeHere 30 = .ok (.invokevirtual 114, 3) := by decide +kernel
theorem dX8_isBargeHere_33 : decode cX8_isBargeHere 33 = .ok (.iconst 0, 1) := by decide +kernel
theorem dX8_isBargeHere_34 : decode cX8_isBargeHere 34 = .ok (.istore_n 2, 1) := by decide +kernel
theorem dX8_isBargeHere_35 : decode cX8_isBargeHere 35 = .ok (.iload_n 2, 1) := by decide +kernel
theorem dX8_isBargeHere_36 : decode cX8_isBargeHere 36 = .ok (.iconst 4, 1) := by decide +kernel
theorem dX8_isBargeHere_37 : decode cX8_isBargeHere 37 = .ok (.if_icmp .ge 48, 3) := by decide +kernel
theorem dX8_isBargeHere_40 : decode cX8_isBargeHere 40 = .ok (.aload_n 0, 1) := by decide +kernel
theorem dX8_isBargeHere_41 : decode cX8_isBargeHere 41 = .ok (.iload_n 2, 1) := by decide +kernel
theorem dX8_isBargeHere_42 : decode cX8_isBargeHere 42 = .ok (.ifCond .ne 7, 3) := by decide +kernel
theorem dX8_isBargeHere_45 : decode cX8_isBargeHere 45 = .ok (.iconst 1, 1) := by decide +kernel
theorem dX8_isBargeHere_46 : decode cX8_isBargeHere 46 = .ok (.goto 4, 3) := by decide +kernel
theorem dX8_isBargeHere_49 : decode cX8_isBargeHere 49 = .ok (.iconst 0, 1) := by decide +kernel
theorem dX8_isBargeHere_50 : decode cX8_isBargeHere 50 = .ok (.iload_n 2, 1) := by decide +kernel
theorem dX8_isBargeHere_51 : decode cX8_isBargeHere 51 = .ok (.invokestatic 231, 3) := by decide +kernel
theorem dX8_isBargeHere_54 : decode cX8_isBargeHere 54 = .ok (.invokevirtual 172, 3) := by decide +kernel
theorem dX8_isBargeHere_57 : decode cX8_isBargeHere 57 = .ok (.ifCond .ne 5, 3) := by decide +kernel
theorem dX8_isBargeHere_60 : decode cX8_isBargeHere 60 = .ok (.iconst 0, 1) := by decide +kernel
theorem dX8_isBargeHere_61 : decode cX8_isBargeHere 61 = .ok (.ireturn, 1) := by decide +kernel
theorem dX8_isBargeHere_62 : decode cX8_isBargeHere 62 = .ok (.aload_n 0, 1) := by decide +kernel
theorem dX8_isBargeHere_63 : decode cX8_isBargeHere 63 = .ok (.getfield 29, 3) := by decide +kernel
theorem dX8_isBargeHere_66 : decode cX8_isBargeHere 66 = .ok (.iconst 4, 1) := by decide +kernel
theorem dX8_isBargeHere_67 : decode cX8_isBargeHere 67 = .ok (.aload_n 0, 1) := by decide +kernel
theorem dX8_isBargeHere_68 : decode cX8_isBargeHere 68 = .ok (.getfield 228, 3) := by decide +kernel
theorem dX8_isBargeHere_71 : decode cX8_isBargeHere 71 = .ok (.imul, 1) := by decide +kernel
theorem dX8_isBargeHere_72 : decode cX8_isBargeHere 72 = .ok (.iload_n 2, 1) := by decide +kernel
theorem dX8_isBargeHere_73 : decode cX8_isBargeHere 73 = .ok (.iadd, 1) := by decide +kernel
theorem dX8_isBargeHere_74 : decode cX8_isBargeHere 74 = .ok (.aload_n 0, 1) := by decide +kernel
theorem dX8_isBargeHere_75 : decode cX8_isBargeHere 75 = .ok (.getfield 124, 3) := by decide +kernel
theorem dX8_isBargeHere_78 : decode cX8_isBargeHere 78 = .ok (.iastore, 1) := by decide +kernel
theorem dX8_isBargeHere_79 : decode cX8_isBargeHere 79 = .ok (.iinc 2 1, 3) := by decide +kernel
theorem dX8_isBargeHere_82 : decode cX8_isBargeHere 82 = .ok (.goto (-47), 3) := by decide +kernel
theorem dX8_isBargeHere_85 : decode cX8_isBargeHere 85 = .ok (.aload_n 0, 1) := by decide +kernel
theorem dX8_isBargeHere_86 : decode cX8_isBargeHere 86 = .ok (.dup, 1) := by decide +kernel
theorem dX8_isBargeHere_87 : decode cX8_isBargeHere 87 = .ok (.getfield 228, 3) := by decide +kernel
theorem dX8_isBargeHere_90 : decode cX8_isBargeHere 90 = .ok (.iconst 1, 1) := by decide +kernel
theorem dX8_isBargeHere_91 : decode cX8_isBargeHere 91 = .ok (.iadd, 1) := by decide +kernel
theorem dX8_isBargeHere_92 : decode cX8_isBargeHere 92 = .ok (.putfield 228, 3) := by decide +kernel
theorem dX8_isBargeHere_95 : decode cX8_isBargeHere 95 = .ok (.iconst 1, 1) := by decide +kernel
theorem dX8_isBargeHere_96 : decode cX8_isBargeHere 96 = .ok (.ireturn, 1) := by decide +kernel
theorem dX8_isBrokenHere_0 : decode cX8_isBrokenHere 0 = .ok (.aload_n 0, 1) := by decide +kernel
theorem dX8_isBrokenHere_1 : decode cX8_isBrokenHere 1 = .ok (.getfield 218, 3) := by decide +kernel
theorem dX8_isBrokenHere_4 : decode cX8_isBrokenHere 4 = .ok (.iconst 2, 1) := by decide +kernel
theorem dX8_isBrokenHere_5 : decode cX8_isBrokenHere 5 = .ok (.if_icmp .ge 10, 3) := by decide +kernel
theorem dX8_isBrokenHere_8 : decode cX8_isBrokenHere 8 = .ok (.aload_n 0, 1) := by decide +kernel
theorem dX8_isBrokenHere_9 : decode cX8_isBrokenHere 9 = .ok (.iconst 4, 1) := by decide +kernel
theorem dX8_isBrokenHere_10 : decode cX8_isBrokenHere 10 = .ok (.iload_n 1, 1) := by decide +kernel
theorem dX8_isBrokenHere_11 : decode cX8_isBrokenHere 11 = .ok (.invokevirtual 120, 3) := by decide +kernel
theorem dX8_isBrokenHere_14 : decode cX8_isBrokenHere 14 = .ok (.ireturn, 1) := by decide +kernel
theorem dX8_isBrokenHere_15 : decode cX8_isBrokenHere 15 = .ok (.aload_n 0, 1) := by decide +kernel
theorem dX8_isBrokenHere_16 : decode cX8_isBrokenHere 16 = .ok (.iconst 1, 1) := by decide +kernel
theorem dX8_isBrokenHere_17 : decode cX8_isBrokenHere 17 = .ok (.putfield 221, 3) := by decide +kernel
theorem dX8_isBrokenHere_20 : decode cX8_isBrokenHere 20 = .ok (.aload_n 0, 1) := by decide +kernel
theorem dX8_isBrokenHere_21 : decode cX8_isBrokenHere 21 = .ok (.invokevirtual 114, 3) := by decide +kernel
theorem dX8_isBrokenHere_24 : decode cX8_isBrokenHere 24 = .ok (.aload_n 0, 1) := by decide +kernel
theorem dX8_isBrokenHere_25 : decode cX8_isBrokenHere 25 = .ok (.iconst 0, 1) := by decide +kernel
theorem dX8_isBrokenHere_26 : decode cX8_isBrokenHere 26 = .ok (.aload_n 0, 1) := by decide +kernel
theorem dX8_isBrokenHere_27 : decode cX8_isBrokenHere 27 = .ok (.getfield 218, 3) := by decide +kernel
theorem dX8_isBrokenHere_30 : decode cX8_isBrokenHere 30 = .ok (.iconst 2, 1) := by decide +kernel
theorem dX8_isBrokenHere_31 : decode cX8_isBrokenHere 31 = .ok (.isub, 1) := by decide +kernel
theorem dX8_isBrokenHere_32 : decode cX8_isBrokenHere 32 = .ok (.invokevirtual 172, 3) := by decide +kernel
theorem dX8_isBrokenHere_35 : decode cX8_isBrokenHere 35 = .ok (.ifCond .ne 5, 3) := by decide +kernel
theorem dX8_isBrokenHere_38 : decode cX8_isBrokenHere 38 = .ok (.iconst 0, 1) := by decide +kernel
theorem dX8_isBrokenHere_39 : decode cX8_isBrokenHere 39 = .ok (.ireturn, 1) := by decide +kernel
theorem dX8_isBrokenHere_40 : decode cX8_isBrokenHere 40 = .ok (.aload_n 0, 1) := by decide +kernel
theorem dX8_isBrokenHere_41 : decode cX8_isBrokenHere 41 = .ok (.dup, 1) := by decide +kernel
theorem dX8_isBrokenHere_42 : decode cX8_isBrokenHere 42 = .ok (.getfield 234, 3) := by decide +kernel
theorem dX8_isBrokenHere_45 : decode cX8_isBrokenHere 45 = .ok (.iconst 1, 1) := by decide +kernel
theorem dX8_isBrokenHere_46 : decode cX8_isBrokenHere 46 = .ok (.aload_n 0, 1) := by decide +kernel
theorem dX8_isBrokenHere_47 : decode cX8_isBrokenHere 47 = .ok (.getfield 124, 3) := by decide +kernel
theorem dX8_isBrokenHere_50 : decode cX8_isBrokenHere 50 = .ok (.ishl, 1) := by decide +kernel
theorem dX8_isBrokenHere_51 : decode cX8_isBrokenHere 51 = .ok (.ior, 1) := by decide +kernel
theorem dX8_isBrokenHere_52 : decode cX8_isBrokenHere 52 = .ok (.putfield 234, 3) := by decide +kernel
theorem dX8_isBrokenHere_55 : decode cX8_isBrokenHere 55 = .ok (.iconst 1, 1) := by decide +kernel
theorem dX8_isBrokenHere_56 : decode cX8_isBrokenHere 56 = .ok (.ireturn, 1) := by decide +kernel
theorem dX8_clauseHere_0 : decode cX8_clauseHere 0 = .ok (.aload_n 0, 1) := by decide +kernel
theorem dX8_clauseHere_1 : decode cX8_clauseHere 1 = .ok (.invokevirtual 102, 3) := by decide +kernel
theorem dX8_clauseHere_4 : decode cX8_clauseHere 4 = .ok (.pop, 1) := by decide +kernel
theorem dX8_clauseHere_5 : decode cX8_clauseHere 5 = .ok (.aload_n 0, 1) := by decide +kernel
theorem dX8_clauseHere_6 : decode cX8_clauseHere 6 = .ok (.getfield 99, 3) := by decide +kernel
theorem dX8_clauseHere_9 : decode cX8_clauseHere 9 = .ok (.istore_n 1, 1) := by decide +kernel
theorem dX8_clauseHere_10 : decode cX8_clauseHere 10 = .ok (.aload_n 0, 1) := by decide +kernel
theorem dX8_clauseHere_11 : decode cX8_clauseHere 11 = .ok (.getfield 151, 3) := by decide +kernel
theorem dX8_clauseHere_14 : decode cX8_clauseHere 14 = .ok (.bipush 6, 2) := by decide +kernel
theorem dX8_clauseHere_16 : decode cX8_clauseHere 16 = .ok (.if_icmp .ne 7, 3) := by decide +kernel
theorem dX8_clauseHere_19 : decode cX8_clauseHere 19 = .ok (.iconst 1, 1) := by decide +kernel
theorem dX8_clauseHere_20 : decode cX8_clauseHere 20 = .ok (.goto 4, 3) := by decide +kernel
theorem dX8_clauseHere_23 : decode cX8_clauseHere 23 = .ok (.iconst 0, 1) := by decide +kernel
theorem dX8_clauseHere_24 : decode cX8_clauseHere 24 = .ok (.istore_n 2, 1) := by decide +kernel
theorem dX8_clauseHere_25 : decode cX8_clauseHere 25 = .ok (.iload_n 2, 1) := by decide +kernel
theorem dX8_clauseHere_26 : decode cX8_clauseHere 26 = .ok (.ifCond .eq 51, 3) := by decide +kernel
theorem dX8_clauseHere_29 : decode cX8_clauseHere 29 = .ok (.aload_n 0, 1) := by decide +kernel
theorem dX8_clauseHere_30 : decode cX8_clauseHere 30 = .ok (.ldc2_w 237, 3) := by decide +kernel
theorem dX8_clauseHere_33 : decode cX8_clauseHere 33 = .ok (.invokevirtual 110, 3) := by decide +kernel
theorem dX8_clauseHere_36 : decode cX8_clauseHere 36 = .ok (.ifCond .ne 33, 3) := by decide +kernel
theorem dX8_clauseHere_39 : decode cX8_clauseHere 39 = .ok (.aload_n 0, 1) := by decide +kernel
theorem dX8_clauseHere_40 : decode cX8_clauseHere 40 = .ok (.ldc2_w 239, 3) := by decide +kernel
theorem dX8_clauseHere_43 : decode cX8_clauseHere 43 = .ok (.invokevirtual 110, 3) := by decide +kernel
theorem dX8_clauseHere_46 : decode cX8_clauseHere 46 = .ok (.ifCond .ne 23, 3) := by decide +kernel
theorem dX8_clauseHere_49 : decode cX8_clauseHere 49 = .ok (.aload_n 0, 1) := by decide +kernel
theorem dX8_clauseHere_50 : decode cX8_clauseHere 50 = .ok (.ldc2_w 241, 3) := by decide +kernel
theorem dX8_clauseHere_53 : decode cX8_clauseHere 53 = .ok (.invokevirtual 110, 3) := by decide +kernel
theorem dX8_clauseHere_56 : decode cX8_clauseHere 56 = .ok (.ifCond .ne 13, 3) := by decide +kernel
theorem dX8_clauseHere_59 : decode cX8_clauseHere 59 = .ok (.aload_n 0, 1) := by decide +kernel
theorem dX8_clauseHere_60 : decode cX8_clauseHere 60 = .ok (.ldc2_w 243, 3) := by decide +kernel
theorem dX8_clauseHere_63 : decode cX8_clauseHere 63 = .ok (.invokevirtual 110, 3) := by decide +kernel
theorem dX8_clauseHere_66 : decode cX8_clauseHere 66 = .ok (.ifCond .eq 7, 3) := by decide +kernel
theorem dX8_clauseHere_69 : decode cX8_clauseHere 69 = .ok (.iconst 1, 1) := by decide +kernel
theorem dX8_clauseHere_70 : decode cX8_clauseHere 70 = .ok (.goto 14, 3) := by decide +kernel
theorem dX8_clauseHere_73 : decode cX8_clauseHere 73 = .ok (.iconst 0, 1) := by decide +kernel
theorem dX8_clauseHere_74 : decode cX8_clauseHere 74 = .ok (.goto 10, 3) := by decide +kernel
theorem dX8_clauseHere_77 : decode cX8_clauseHere 77 = .ok (.aload_n 0, 1) := by decide +kernel
theorem dX8_clauseHere_78 : decode cX8_clauseHere 78 = .ok (.ldc2_w 245, 3) := by decide +kernel
theorem dX8_clauseHere_81 : decode cX8_clauseHere 81 = .ok (.invokevirtual 110, 3) := by decide +kernel
theorem dX8_clauseHere_84 : decode cX8_clauseHere 84 = .ok (.istore_n 3, 1) := by decide +kernel
theorem dX8_clauseHere_85 : decode cX8_clauseHere 85 = .ok (.iload_n 3, 1) := by decide +kernel
theorem dX8_clauseHere_86 : decode cX8_clauseHere 86 = .ok (.ifCond .ne 10, 3) := by decide +kernel
theorem dX8_clauseHere_89 : decode cX8_clauseHere 89 = .ok (.aload_n 0, 1) := by decide +kernel
theorem dX8_clauseHere_90 : decode cX8_clauseHere 90 = .ok (.iconst 0, 1) := by decide +kernel
theorem dX8_clauseHere_91 : decode cX8_clauseHere 91 = .ok (.iload_n 1, 1) := by decide +kernel
theorem dX8_clauseHere_92 : decode cX8_clauseHere 92 = .ok (.invokevirtual 120, 3) := by decide +kernel
theorem dX8_clauseHere_95 : decode cX8_clauseHere 95 = .ok (.ireturn, 1) := by decide +kernel
theorem dX8_clauseHere_96 : decode cX8_clauseHere 96 = .ok (.aload_n 0, 1) := by decide +kernel
theorem dX8_clauseHere_97 : decode cX8_clauseHere 97 = .ok (.getfield 247, 3) := by decide +kernel
theorem dX8_clauseHere_100 : decode cX8_clauseHere 100 = .ok (.iload_n 2, 1) := by decide +kernel
theorem dX8_clauseHere_101 : decode cX8_clauseHere 101 = .ok (.ifCond .eq 8, 3) := by decide +kernel
theorem dX8_clauseHere_104 : decode cX8_clauseHere 104 = .ok (.bipush 32, 2) := by decide +kernel
theorem dX8_clauseHere_106 : decode cX8_clauseHere 106 = .ok (.goto 5, 3) := by decide +kernel
theorem dX8_clauseHere_109 : decode cX8_clauseHere 109 = .ok (.bipush 12, 2) := by decide +kernel
theorem dX8_clauseHere_111 : decode cX8_clauseHere 111 = .ok (.if_icmp .ne 10, 3) := by decide +kernel
theorem dX8_clauseHere_114 : decode cX8_clauseHere 114 = .ok (.aload_n 0, 1) := by decide +kernel
theorem dX8_clauseHere_115 : decode cX8_clauseHere 115 = .ok (.iconst 4, 1) := by decide +kernel
theorem dX8_clauseHere_116 : decode cX8_clauseHere 116 = .ok (.iload_n 1, 1) := by decide +kernel
theorem dX8_clauseHere_117 : decode cX8_clauseHere 117 = .ok (.invokevirtual 120, 3) := by decide +kernel
theorem dX8_clauseHere_120 : decode cX8_clauseHere 120 = .ok (.ireturn, 1) := by decide +kernel
theorem dX8_clauseHere_121 : decode cX8_clauseHere 121 = .ok (.aload_n 0, 1) := by decide +kernel
theorem dX8_clauseHere_122 : decode cX8_clauseHere 122 = .ok (.dup, 1) := by decide +kernel
theorem dX8_clauseHere_123 : decode cX8_clauseHere 123 = .ok (.getfield 247, 3) := by decide +kernel
theorem dX8_clauseHere_126 : decode cX8_clauseHere 126 = .ok (.iconst 1, 1) := by decide +kernel
theorem dX8_clauseHere_127 : decode cX8_clauseHere 127 = .ok (.iadd, 1) := by decide +kernel
theorem dX8_clauseHere_128 : decode cX8_clauseHere 128 = .ok (.putfield 247, 3) := by decide +kernel
theorem dX8_clauseHere_131 : decode cX8_clauseHere 131 = .ok (.iload_n 2, 1) := by decide +kernel
theorem dX8_clauseHere_132 : decode cX8_clauseHere 132 = .ok (.ifCond .ne 8, 3) := by decide +kernel
theorem dX8_clauseHere_135 : decode cX8_clauseHere 135 = .ok (.aload_n 0, 1) := by decide +kernel
theorem dX8_clauseHere_136 : decode cX8_clauseHere 136 = .ok (.invokevirtual 250, 3) := by decide +kernel
theorem dX8_clauseHere_139 : decode cX8_clauseHere 139 = .ok (.ireturn, 1) := by decide +kernel
theorem dX8_clauseHere_140 : decode cX8_clauseHere 140 = .ok (.aload_n 0, 1) := by decide +kernel
theorem dX8_clauseHere_141 : decode cX8_clauseHere 141 = .ok (.ldc2_w 237, 3) := by decide +kernel
theorem dX8_clauseHere_144 : decode cX8_clauseHere 144 = .ok (.invokevirtual 110, 3) := by decide +kernel
theorem dX8_clauseHere_147 : decode cX8_clauseHere 147 = .ok (.ifCond .eq 9, 3) := by decide +kernel
theorem dX8_clauseHere_150 : decode cX8_clauseHere 150 = .ok (.aload_n 0, 1) := by decide +kernel
theorem dX8_clauseHere_151 : decode cX8_clauseHere 151 = .ok (.iload_n 1, 1) := by decide +kernel
theorem dX8_clauseHere_152 : decode cX8_clauseHere 152 = .ok (.invokevirtual 253, 3) := by decide +kernel
theorem dX8_clauseHere_155 : decode cX8_clauseHere 155 = .ok (.ireturn, 1) := by decide +kernel
theorem dX8_clauseHere_156 : decode cX8_clauseHere 156 = .ok (.aload_n 0, 1) := by decide +kernel
theorem dX8_clauseHere_157 : decode cX8_clauseHere 157 = .ok (.ldc2_w 239, 3) := by decide +kernel
theorem dX8_clauseHere_160 : decode cX8_clauseHere 160 = .ok (.invokevirtual 110, 3) := by decide +kernel
theorem dX8_clauseHere_163 : decode cX8_clauseHere 163 = .ok (.ifCond .eq 11, 3) := by decide +kernel
theorem dX8_clauseHere_166 : decode cX8_clauseHere 166 = .ok (.aload_n 0, 1) := by decide +kernel
theorem dX8_clauseHere_167 : decode cX8_clauseHere 167 = .ok (.iload_n 1, 1) := by decide +kernel
theorem dX8_clauseHere_168 : decode cX8_clauseHere 168 = .ok (.invokevirtual 256, 3) := by decide +kernel
theorem dX8_clauseHere_171 : decode cX8_clauseHere 171 = .ok (.goto 26, 3) := by decide +kernel
theorem dX8_clauseHere_174 : decode cX8_clauseHere 174 = .ok (.aload_n 0, 1) := by decide +kernel
theorem dX8_clauseHere_175 : decode cX8_clauseHere 175 = .ok (.ldc2_w 241, 3) := by decide +kernel
theorem dX8_clauseHere_178 : decode cX8_clauseHere 178 = .ok (.invokevirtual 110, 3) := by decide +kernel
theorem dX8_clauseHere_181 : decode cX8_clauseHere 181 = .ok (.ifCond .eq 11, 3) := by decide +kernel
theorem dX8_clauseHere_184 : decode cX8_clauseHere 184 = .ok (.aload_n 0, 1) := by decide +kernel
theorem dX8_clauseHere_185 : decode cX8_clauseHere 185 = .ok (.iload_n 1, 1) := by decide +kernel
theorem dX8_clauseHere_186 : decode cX8_clauseHere 186 = .ok (.invokevirtual 259, 3) := by decide +kernel
theorem dX8_clauseHere_189 : decode cX8_clauseHere 189 = .ok (.goto 8, 3) := by decide +kernel
theorem dX8_clauseHere_192 : decode cX8_clauseHere 192 = .ok (.aload_n 0, 1) := by decide +kernel
theorem dX8_clauseHere_193 : decode cX8_clauseHere 193 = .ok (.iload_n 1, 1) := by decide +kernel
theorem dX8_clauseHere_194 : decode cX8_clauseHere 194 = .ok (.invokevirtual 262, 3) := by decide +kernel
theorem dX8_clauseHere_197 : decode cX8_clauseHere 197 = .ok (.ireturn, 1) := by decide +kernel
theorem dX8_readsAll_0 : decode cX8_readsAll 0 = .ok (.aload_n 0, 1) := by decide +kernel
theorem dX8_readsAll_1 : decode cX8_readsAll 1 = .ok (.getfield 17, 3) := by decide +kernel
theorem dX8_readsAll_4 : decode cX8_readsAll 4 = .ok (.aload_n 0, 1) := by decide +kernel
theorem dX8_readsAll_5 : decode cX8_readsAll 5 = .ok (.getfield 151, 3) := by decide +kernel
theorem dX8_readsAll_8 : decode cX8_readsAll 8 = .ok (.iconst 0, 1) := by decide +kernel
theorem dX8_readsAll_9 : decode cX8_readsAll 9 = .ok (.iastore, 1) := by decide +kernel
theorem dX8_readsAll_10 : decode cX8_readsAll 10 = .ok (.aload_n 0, 1) := by decide +kernel
theorem dX8_readsAll_11 : decode cX8_readsAll 11 = .ok (.iconst 0, 1) := by decide +kernel
theorem dX8_readsAll_12 : decode cX8_readsAll 12 = .ok (.putfield 247, 3) := by decide +kernel
theorem dX8_readsAll_15 : decode cX8_readsAll 15 = .ok (.aload_n 0, 1) := by decide +kernel
theorem dX8_readsAll_16 : decode cX8_readsAll 16 = .ok (.iconst 0, 1) := by decide +kernel
theorem dX8_readsAll_17 : decode cX8_readsAll 17 = .ok (.putfield 99, 3) := by decide +kernel
theorem dX8_readsAll_20 : decode cX8_readsAll 20 = .ok (.aload_n 0, 1) := by decide +kernel
theorem dX8_readsAll_21 : decode cX8_readsAll 21 = .ok (.iconst 0, 1) := by decide +kernel
theorem dX8_readsAll_22 : decode cX8_readsAll 22 = .ok (.putfield 96, 3) := by decide +kernel
theorem dX8_readsAll_25 : decode cX8_readsAll 25 = .ok (.aload_n 0, 1) := by decide +kernel
theorem dX8_readsAll_26 : decode cX8_readsAll 26 = .ok (.iconst 0, 1) := by decide +kernel
theorem dX8_readsAll_27 : decode cX8_readsAll 27 = .ok (.putfield 154, 3) := by decide +kernel
theorem dX8_readsAll_30 : decode cX8_readsAll 30 = .ok (.aload_n 0, 1) := by decide +kernel
theorem dX8_readsAll_31 : decode cX8_readsAll 31 = .ok (.invokevirtual 265, 3) := by decide +kernel
theorem dX8_readsAll_34 : decode cX8_readsAll 34 = .ok (.istore_n 1, 1) := by decide +kernel
theorem dX8_readsAll_35 : decode cX8_readsAll 35 = .ok (.iload_n 1, 1) := by decide +kernel
theorem dX8_readsAll_36 : decode cX8_readsAll 36 = .ok (.ifCond .eq 30, 3) := by decide +kernel
theorem dX8_readsAll_39 : decode cX8_readsAll 39 = .ok (.aload_n 0, 1) := by decide +kernel
theorem dX8_readsAll_40 : decode cX8_readsAll 40 = .ok (.invokevirtual 102, 3) := by decide +kernel
theorem dX8_readsAll_43 : decode cX8_readsAll 43 = .ok (.bipush 59, 2) := by decide +kernel
theorem dX8_readsAll_45 : decode cX8_readsAll 45 = .ok (.if_icmp .ne 21, 3) := by decide +kernel
theorem dX8_readsAll_48 : decode cX8_readsAll 48 = .ok (.aload_n 0, 1) := by decide +kernel
theorem dX8_readsAll_49 : decode cX8_readsAll 49 = .ok (.dup, 1) := by decide +kernel
theorem dX8_readsAll_50 : decode cX8_readsAll 50 = .ok (.getfield 99, 3) := by decide +kernel
theorem dX8_readsAll_53 : decode cX8_readsAll 53 = .ok (.iconst 1, 1) := by decide +kernel
theorem dX8_readsAll_54 : decode cX8_readsAll 54 = .ok (.iadd, 1) := by decide +kernel
theorem dX8_readsAll_55 : decode cX8_readsAll 55 = .ok (.putfield 99, 3) := by decide +kernel
theorem dX8_readsAll_58 : decode cX8_readsAll 58 = .ok (.aload_n 0, 1) := by decide +kernel
theorem dX8_readsAll_59 : decode cX8_readsAll 59 = .ok (.invokevirtual 265, 3) := by decide +kernel
theorem dX8_readsAll_62 : decode cX8_readsAll 62 = .ok (.istore_n 1, 1) := by decide +kernel
theorem dX8_readsAll_63 : decode cX8_readsAll 63 = .ok (.goto (-28), 3) := by decide +kernel
theorem dX8_readsAll_66 : decode cX8_readsAll 66 = .ok (.iload_n 1, 1) := by decide +kernel
theorem dX8_readsAll_67 : decode cX8_readsAll 67 = .ok (.ifCond .eq 21, 3) := by decide +kernel
theorem dX8_readsAll_70 : decode cX8_readsAll 70 = .ok (.aload_n 0, 1) := by decide +kernel
theorem dX8_readsAll_71 : decode cX8_readsAll 71 = .ok (.invokevirtual 102, 3) := by decide +kernel
theorem dX8_readsAll_74 : decode cX8_readsAll 74 = .ok (.iconst (-1), 1) := by decide +kernel
theorem dX8_readsAll_75 : decode cX8_readsAll 75 = .ok (.if_icmp .eq 13, 3) := by decide +kernel
theorem dX8_readsAll_78 : decode cX8_readsAll 78 = .ok (.aload_n 0, 1) := by decide +kernel
theorem dX8_readsAll_79 : decode cX8_readsAll 79 = .ok (.iconst 0, 1) := by decide +kernel
theorem dX8_readsAll_80 : decode cX8_readsAll 80 = .ok (.aload_n 0, 1) := by decide +kernel
theorem dX8_readsAll_81 : decode cX8_readsAll 81 = .ok (.getfield 99, 3) := by decide +kernel
theorem dX8_readsAll_84 : decode cX8_readsAll 84 = .ok (.invokevirtual 120, 3) := by decide +kernel
theorem dX8_readsAll_87 : decode cX8_readsAll 87 = .ok (.istore_n 1, 1) := by decide +kernel
theorem dX8_readsAll_88 : decode cX8_readsAll 88 = .ok (.iload_n 1, 1) := by decide +kernel
theorem dX8_readsAll_89 : decode cX8_readsAll 89 = .ok (.ifCond .eq 30, 3) := by decide +kernel
theorem dX8_readsAll_92 : decode cX8_readsAll 92 = .ok (.aload_n 0, 1) := by decide +kernel
theorem dX8_readsAll_93 : decode cX8_readsAll 93 = .ok (.getfield 151, 3) := by decide +kernel
theorem dX8_readsAll_96 : decode cX8_readsAll 96 = .ok (.bipush 6, 2) := by decide +kernel
theorem dX8_readsAll_98 : decode cX8_readsAll 98 = .ok (.if_icmp .ne 21, 3) := by decide +kernel
theorem dX8_readsAll_101 : decode cX8_readsAll 101 = .ok (.aload_n 0, 1) := by decide +kernel
theorem dX8_readsAll_102 : decode cX8_readsAll 102 = .ok (.getfield 218, 3) := by decide +kernel
theorem dX8_readsAll_105 : decode cX8_readsAll 105 = .ok (.iconst 2, 1) := by decide +kernel
theorem dX8_readsAll_106 : decode cX8_readsAll 106 = .ok (.if_icmp .ge 13, 3) := by decide +kernel
theorem dX8_readsAll_109 : decode cX8_readsAll 109 = .ok (.aload_n 0, 1) := by decide +kernel
theorem dX8_readsAll_110 : decode cX8_readsAll 110 = .ok (.iconst 0, 1) := by decide +kernel
theorem dX8_readsAll_111 : decode cX8_readsAll 111 = .ok (.aload_n 0, 1) := by decide +kernel
theorem dX8_readsAll_112 : decode cX8_readsAll 112 = .ok (.getfield 99, 3) := by decide +kernel
theorem dX8_readsAll_115 : decode cX8_readsAll 115 = .ok (.invokevirtual 120, 3) := by decide +kernel
theorem dX8_readsAll_118 : decode cX8_readsAll 118 = .ok (.pop, 1) := by decide +kernel
theorem dX8_readsAll_119 : decode cX8_readsAll 119 = .ok (.aload_n 0, 1) := by decide +kernel
theorem dX8_readsAll_120 : decode cX8_readsAll 120 = .ok (.iconst 0, 1) := by decide +kernel
theorem dX8_readsAll_121 : decode cX8_readsAll 121 = .ok (.putfield 88, 3) := by decide +kernel
theorem dX8_readsAll_124 : decode cX8_readsAll 124 = .ok (.aload_n 0, 1) := by decide +kernel
theorem dX8_readsAll_125 : decode cX8_readsAll 125 = .ok (.getfield 96, 3) := by decide +kernel
theorem dX8_readsAll_128 : decode cX8_readsAll 128 = .ok (.ifCond .ne 7, 3) := by decide +kernel
theorem dX8_readsAll_131 : decode cX8_readsAll 131 = .ok (.iconst 1, 1) := by decide +kernel
theorem dX8_readsAll_132 : decode cX8_readsAll 132 = .ok (.goto 4, 3) := by decide +kernel
theorem dX8_readsAll_135 : decode cX8_readsAll 135 = .ok (.iconst 0, 1) := by decide +kernel
theorem dX8_readsAll_136 : decode cX8_readsAll 136 = .ok (.ireturn, 1) := by decide +kernel
theorem dX8_rule_0 : decode cX8_rule 0 = .ok (.aload_n 0, 1) := by decide +kernel
theorem dX8_rule_1 : decode cX8_rule 1 = .ok (.getfield 268, 3) := by decide +kernel
theorem dX8_rule_4 : decode cX8_rule 4 = .ok (.bipush 6, 2) := by decide +kernel
theorem dX8_rule_6 : decode cX8_rule 6 = .ok (.if_icmp .ne 5, 3) := by decide +kernel
theorem dX8_rule_9 : decode cX8_rule 9 = .ok (.iconst (-1), 1) := by decide +kernel
theorem dX8_rule_10 : decode cX8_rule 10 = .ok (.ireturn, 1) := by decide +kernel
theorem dX8_rule_11 : decode cX8_rule 11 = .ok (.aload_n 0, 1) := by decide +kernel
theorem dX8_rule_12 : decode cX8_rule 12 = .ok (.aload_n 0, 1) := by decide +kernel
theorem dX8_rule_13 : decode cX8_rule 13 = .ok (.getfield 268, 3) := by decide +kernel
theorem dX8_rule_16 : decode cX8_rule 16 = .ok (.putfield 151, 3) := by decide +kernel
theorem dX8_rule_19 : decode cX8_rule 19 = .ok (.aload_n 0, 1) := by decide +kernel
theorem dX8_rule_20 : decode cX8_rule 20 = .ok (.getfield 23, 3) := by decide +kernel
theorem dX8_rule_23 : decode cX8_rule 23 = .ok (.aload_n 0, 1) := by decide +kernel
theorem dX8_rule_24 : decode cX8_rule 24 = .ok (.getfield 151, 3) := by decide +kernel
theorem dX8_rule_27 : decode cX8_rule 27 = .ok (.iconst 0, 1) := by decide +kernel
theorem dX8_rule_28 : decode cX8_rule 28 = .ok (.iastore, 1) := by decide +kernel
theorem dX8_rule_29 : decode cX8_rule 29 = .ok (.aload_n 0, 1) := by decide +kernel
theorem dX8_rule_30 : decode cX8_rule 30 = .ok (.invokevirtual 271, 3) := by decide +kernel
theorem dX8_rule_33 : decode cX8_rule 33 = .ok (.ifCond .ne 11, 3) := by decide +kernel
theorem dX8_rule_36 : decode cX8_rule 36 = .ok (.bipush (-2), 2) := by decide +kernel
theorem dX8_rule_38 : decode cX8_rule 38 = .ok (.aload_n 0, 1) := by decide +kernel
theorem dX8_rule_39 : decode cX8_rule 39 = .ok (.getfield 96, 3) := by decide +kernel
theorem dX8_rule_42 : decode cX8_rule 42 = .ok (.isub, 1) := by decide +kernel
theorem dX8_rule_43 : decode cX8_rule 43 = .ok (.ireturn, 1) := by decide +kernel
theorem dX8_rule_44 : decode cX8_rule 44 = .ok (.aload_n 0, 1) := by decide +kernel
theorem dX8_rule_45 : decode cX8_rule 45 = .ok (.dup, 1) := by decide +kernel
theorem dX8_rule_46 : decode cX8_rule 46 = .ok (.getfield 268, 3) := by decide +kernel
theorem dX8_rule_49 : decode cX8_rule 49 = .ok (.iconst 1, 1) := by decide +kernel
theorem dX8_rule_50 : decode cX8_rule 50 = .ok (.iadd, 1) := by decide +kernel
theorem dX8_rule_51 : decode cX8_rule 51 = .ok (.putfield 268, 3) := by decide +kernel
theorem dX8_rule_54 : decode cX8_rule 54 = .ok (.aload_n 0, 1) := by decide +kernel
theorem dX8_rule_55 : decode cX8_rule 55 = .ok (.getfield 268, 3) := by decide +kernel
theorem dX8_rule_58 : decode cX8_rule 58 = .ok (.iconst 1, 1) := by decide +kernel
theorem dX8_rule_59 : decode cX8_rule 59 = .ok (.isub, 1) := by decide +kernel
theorem dX8_rule_60 : decode cX8_rule 60 = .ok (.ireturn, 1) := by decide +kernel
theorem dX8_stair_0 : decode cX8_stair 0 = .ok (.aload_n 0, 1) := by decide +kernel
theorem dX8_stair_1 : decode cX8_stair 1 = .ok (.bipush 6, 2) := by decide +kernel
theorem dX8_stair_3 : decode cX8_stair 3 = .ok (.putfield 151, 3) := by decide +kernel
theorem dX8_stair_6 : decode cX8_stair 6 = .ok (.aload_n 0, 1) := by decide +kernel
theorem dX8_stair_7 : decode cX8_stair 7 = .ok (.iconst 0, 1) := by decide +kernel
theorem dX8_stair_8 : decode cX8_stair 8 = .ok (.putfield 218, 3) := by decide +kernel
theorem dX8_stair_11 : decode cX8_stair 11 = .ok (.aload_n 0, 1) := by decide +kernel
theorem dX8_stair_12 : decode cX8_stair 12 = .ok (.iconst 0, 1) := by decide +kernel
theorem dX8_stair_13 : decode cX8_stair 13 = .ok (.putfield 228, 3) := by decide +kernel
theorem dX8_stair_16 : decode cX8_stair 16 = .ok (.aload_n 0, 1) := by decide +kernel
theorem dX8_stair_17 : decode cX8_stair 17 = .ok (.iconst (-1), 1) := by decide +kernel
theorem dX8_stair_18 : decode cX8_stair 18 = .ok (.putfield 225, 3) := by decide +kernel
theorem dX8_stair_21 : decode cX8_stair 21 = .ok (.aload_n 0, 1) := by decide +kernel
theorem dX8_stair_22 : decode cX8_stair 22 = .ok (.iconst 0, 1) := by decide +kernel
theorem dX8_stair_23 : decode cX8_stair 23 = .ok (.putfield 234, 3) := by decide +kernel
theorem dX8_stair_26 : decode cX8_stair 26 = .ok (.aload_n 0, 1) := by decide +kernel
theorem dX8_stair_27 : decode cX8_stair 27 = .ok (.iconst 0, 1) := by decide +kernel
theorem dX8_stair_28 : decode cX8_stair 28 = .ok (.putfield 221, 3) := by decide +kernel
theorem dX8_stair_31 : decode cX8_stair 31 = .ok (.aload_n 0, 1) := by decide +kernel
theorem dX8_stair_32 : decode cX8_stair 32 = .ok (.invokevirtual 271, 3) := by decide +kernel
theorem dX8_stair_35 : decode cX8_stair 35 = .ok (.ifCond .ne 11, 3) := by decide +kernel
theorem dX8_stair_38 : decode cX8_stair 38 = .ok (.bipush (-2), 2) := by decide +kernel
theorem dX8_stair_40 : decode cX8_stair 40 = .ok (.aload_n 0, 1) := by decide +kernel
theorem dX8_stair_41 : decode cX8_stair 41 = .ok (.getfield 96, 3) := by decide +kernel
theorem dX8_stair_44 : decode cX8_stair 44 = .ok (.isub, 1) := by decide +kernel
theorem dX8_stair_45 : decode cX8_stair 45 = .ok (.ireturn, 1) := by decide +kernel
theorem dX8_stair_46 : decode cX8_stair 46 = .ok (.aload_n 0, 1) := by decide +kernel
theorem dX8_stair_47 : decode cX8_stair 47 = .ok (.getfield 42, 3) := by decide +kernel
theorem dX8_stair_50 : decode cX8_stair 50 = .ok (.bipush 7, 2) := by decide +kernel
theorem dX8_stair_52 : decode cX8_stair 52 = .ok (.iaload, 1) := by decide +kernel
theorem dX8_stair_53 : decode cX8_stair 53 = .ok (.istore_n 1, 1) := by decide +kernel
theorem dX8_stair_54 : decode cX8_stair 54 = .ok (.iconst 0, 1) := by decide +kernel
theorem dX8_stair_55 : decode cX8_stair 55 = .ok (.istore_n 2, 1) := by decide +kernel
theorem dX8_stair_56 : decode cX8_stair 56 = .ok (.iload_n 2, 1) := by decide +kernel
theorem dX8_stair_57 : decode cX8_stair 57 = .ok (.bipush 93, 2) := by decide +kernel
theorem dX8_stair_59 : decode cX8_stair 59 = .ok (.if_icmp .ge 22, 3) := by decide +kernel
theorem dX8_stair_62 : decode cX8_stair 62 = .ok (.iload_n 2, 1) := by decide +kernel
theorem dX8_stair_63 : decode cX8_stair 63 = .ok (.bipush 8, 2) := by decide +kernel
theorem dX8_stair_65 : decode cX8_stair 65 = .ok (.if_icmp .eq 10, 3) := by decide +kernel
theorem dX8_stair_68 : decode cX8_stair 68 = .ok (.aload_n 0, 1) := by decide +kernel
theorem dX8_stair_69 : decode cX8_stair 69 = .ok (.getfield 42, 3) := by decide +kernel
theorem dX8_stair_72 : decode cX8_stair 72 = .ok (.iload_n 2, 1) := by decide +kernel
theorem dX8_stair_73 : decode cX8_stair 73 = .ok (.iconst 0, 1) := by decide +kernel
theorem dX8_stair_74 : decode cX8_stair 74 = .ok (.iastore, 1) := by decide +kernel
theorem dX8_stair_75 : decode cX8_stair 75 = .ok (.iinc 2 1, 3) := by decide +kernel
theorem dX8_stair_78 : decode cX8_stair 78 = .ok (.goto (-22), 3) := by decide +kernel
theorem dX8_stair_81 : decode cX8_stair 81 = .ok (.aload_n 0, 1) := by decide +kernel
theorem dX8_stair_82 : decode cX8_stair 82 = .ok (.getfield 42, 3) := by decide +kernel
theorem dX8_stair_85 : decode cX8_stair 85 = .ok (.iconst 0, 1) := by decide +kernel
theorem dX8_stair_86 : decode cX8_stair 86 = .ok (.aload_n 0, 1) := by decide +kernel
theorem dX8_stair_87 : decode cX8_stair 87 = .ok (.getfield 218, 3) := by decide +kernel
theorem dX8_stair_90 : decode cX8_stair 90 = .ok (.iastore, 1) := by decide +kernel
theorem dX8_stair_91 : decode cX8_stair 91 = .ok (.aload_n 0, 1) := by decide +kernel
theorem dX8_stair_92 : decode cX8_stair 92 = .ok (.getfield 42, 3) := by decide +kernel
theorem dX8_stair_95 : decode cX8_stair 95 = .ok (.iconst 1, 1) := by decide +kernel
theorem dX8_stair_96 : decode cX8_stair 96 = .ok (.aload_n 0, 1) := by decide +kernel
theorem dX8_stair_97 : decode cX8_stair 97 = .ok (.getfield 228, 3) := by decide +kernel
theorem dX8_stair_100 : decode cX8_stair 100 = .ok (.iastore, 1) := by decide +kernel
theorem dX8_stair_101 : decode cX8_stair 101 = .ok (.aload_n 0, 1) := by decide +kernel
theorem dX8_stair_102 : decode cX8_stair 102 = .ok (.getfield 42, 3) := by decide +kernel
theorem dX8_stair_105 : decode cX8_stair 105 = .ok (.iconst 2, 1) := by decide +kernel
theorem dX8_stair_106 : decode cX8_stair 106 = .ok (.aload_n 0, 1) := by decide +kernel
theorem dX8_stair_107 : decode cX8_stair 107 = .ok (.getfield 225, 3) := by decide +kernel
theorem dX8_stair_110 : decode cX8_stair 110 = .ok (.ifCond .ge 7, 3) := by decide +kernel
theorem dX8_stair_113 : decode cX8_stair 113 = .ok (.iconst 0, 1) := by decide +kernel
theorem dX8_stair_114 : decode cX8_stair 114 = .ok (.goto 7, 3) := by decide +kernel
theorem dX8_stair_117 : decode cX8_stair 117 = .ok (.aload_n 0, 1) := by decide +kernel
theorem dX8_stair_118 : decode cX8_stair 118 = .ok (.getfield 225, 3) := by decide +kernel
theorem dX8_stair_121 : decode cX8_stair 121 = .ok (.iastore, 1) := by decide +kernel
theorem dX8_stair_122 : decode cX8_stair 122 = .ok (.aload_n 0, 1) := by decide +kernel
theorem dX8_stair_123 : decode cX8_stair 123 = .ok (.getfield 42, 3) := by decide +kernel
theorem dX8_stair_126 : decode cX8_stair 126 = .ok (.iconst 5, 1) := by decide +kernel
theorem dX8_stair_127 : decode cX8_stair 127 = .ok (.aload_n 0, 1) := by decide +kernel
theorem dX8_stair_128 : decode cX8_stair 128 = .ok (.getfield 234, 3) := by decide +kernel
theorem dX8_stair_131 : decode cX8_stair 131 = .ok (.iastore, 1) := by decide +kernel
theorem dX8_stair_132 : decode cX8_stair 132 = .ok (.aload_n 0, 1) := by decide +kernel
theorem dX8_stair_133 : decode cX8_stair 133 = .ok (.getfield 42, 3) := by decide +kernel
theorem dX8_stair_136 : decode cX8_stair 136 = .ok (.bipush 7, 2) := by decide +kernel
theorem dX8_stair_138 : decode cX8_stair 138 = .ok (.iload_n 1, 1) := by decide +kernel
theorem dX8_stair_139 : decode cX8_stair 139 = .ok (.iastore, 1) := by decide +kernel
theorem dX8_stair_140 : decode cX8_stair 140 = .ok (.iconst 0, 1) := by decide +kernel
theorem dX8_stair_141 : decode cX8_stair 141 = .ok (.istore_n 2, 1) := by decide +kernel
theorem dX8_stair_142 : decode cX8_stair 142 = .ok (.iload_n 2, 1) := by decide +kernel
theorem dX8_stair_143 : decode cX8_stair 143 = .ok (.iconst 2, 1) := by decide +kernel
theorem dX8_stair_144 : decode cX8_stair 144 = .ok (.aload_n 0, 1) := by decide +kernel
theorem dX8_stair_145 : decode cX8_stair 145 = .ok (.getfield 218, 3) := by decide +kernel
theorem dX8_stair_148 : decode cX8_stair 148 = .ok (.imul, 1) := by decide +kernel
theorem dX8_stair_149 : decode cX8_stair 149 = .ok (.if_icmp .ge 24, 3) := by decide +kernel
theorem dX8_stair_152 : decode cX8_stair 152 = .ok (.aload_n 0, 1) := by decide +kernel
theorem dX8_stair_153 : decode cX8_stair 153 = .ok (.getfield 42, 3) := by decide +kernel
theorem dX8_stair_156 : decode cX8_stair 156 = .ok (.bipush 9, 2) := by decide +kernel
theorem dX8_stair_158 : decode cX8_stair 158 = .ok (.iload_n 2, 1) := by decide +kernel
theorem dX8_stair_159 : decode cX8_stair 159 = .ok (.iadd, 1) := by decide +kernel
theorem dX8_stair_160 : decode cX8_stair 160 = .ok (.aload_n 0, 1) := by decide +kernel
theorem dX8_stair_161 : decode cX8_stair 161 = .ok (.getfield 26, 3) := by decide +kernel
theorem dX8_stair_164 : decode cX8_stair 164 = .ok (.iload_n 2, 1) := by decide +kernel
theorem dX8_stair_165 : decode cX8_stair 165 = .ok (.iaload, 1) := by decide +kernel
theorem dX8_stair_166 : decode cX8_stair 166 = .ok (.iastore, 1) := by decide +kernel
theorem dX8_stair_167 : decode cX8_stair 167 = .ok (.iinc 2 1, 3) := by decide +kernel
theorem dX8_stair_170 : decode cX8_stair 170 = .ok (.goto (-28), 3) := by decide +kernel
theorem dX8_stair_173 : decode cX8_stair 173 = .ok (.iconst 0, 1) := by decide +kernel
theorem dX8_stair_174 : decode cX8_stair 174 = .ok (.istore_n 2, 1) := by decide +kernel
theorem dX8_stair_175 : decode cX8_stair 175 = .ok (.iload_n 2, 1) := by decide +kernel
theorem dX8_stair_176 : decode cX8_stair 176 = .ok (.aload_n 0, 1) := by decide +kernel
theorem dX8_stair_177 : decode cX8_stair 177 = .ok (.getfield 228, 3) := by decide +kernel
theorem dX8_stair_180 : decode cX8_stair 180 = .ok (.if_icmp .ge 50, 3) := by decide +kernel
theorem dX8_stair_183 : decode cX8_stair 183 = .ok (.iconst 0, 1) := by decide +kernel
theorem dX8_stair_184 : decode cX8_stair 184 = .ok (.istore_n 3, 1) := by decide +kernel
theorem dX8_stair_185 : decode cX8_stair 185 = .ok (.iload_n 3, 1) := by decide +kernel
theorem dX8_stair_186 : decode cX8_stair 186 = .ok (.iconst 4, 1) := by decide +kernel
theorem dX8_stair_187 : decode cX8_stair 187 = .ok (.if_icmp .ge 32, 3) := by decide +kernel
theorem dX8_stair_190 : decode cX8_stair 190 = .ok (.aload_n 0, 1) := by decide +kernel
theorem dX8_stair_191 : decode cX8_stair 191 = .ok (.getfield 42, 3) := by decide +kernel
theorem dX8_stair_194 : decode cX8_stair 194 = .ok (.bipush 25, 2) := by decide +kernel
theorem dX8_stair_196 : decode cX8_stair 196 = .ok (.iconst 5, 1) := by decide +kernel
theorem dX8_stair_197 : decode cX8_stair 197 = .ok (.iload_n 2, 1) := by decide +kernel
theorem dX8_stair_198 : decode cX8_stair 198 = .ok (.imul, 1) := by decide +kernel
theorem dX8_stair_199 : decode cX8_stair 199 = .ok (.iadd, 1) := by decide +kernel
theorem dX8_stair_200 : decode cX8_stair 200 = .ok (.iload_n 3, 1) := by decide +kernel
theorem dX8_stair_201 : decode cX8_stair 201 = .ok (.iadd, 1) := by decide +kernel
theorem dX8_stair_202 : decode cX8_stair 202 = .ok (.aload_n 0, 1) := by decide +kernel
theorem dX8_stair_203 : decode cX8_stair 203 = .ok (.getfield 29, 3) := by decide +kernel
theorem dX8_stair_206 : decode cX8_stair 206 = .ok (.iconst 4, 1) := by decide +kernel
theorem dX8_stair_207 : decode cX8_stair 207 = .ok (.iload_n 2, 1) := by decide +kernel
theorem dX8_stair_208 : decode cX8_stair 208 = .ok (.imul, 1) := by decide +kernel
theorem dX8_stair_209 : decode cX8_stair 209 = .ok (.iload_n 3, 1) := by decide +kernel
theorem dX8_stair_210 : decode cX8_stair 210 = .ok (.iadd, 1) := by decide +kernel
theorem dX8_stair_211 : decode cX8_stair 211 = .ok (.iaload, 1) := by decide +kernel
theorem dX8_stair_212 : decode cX8_stair 212 = .ok (.iastore, 1) := by decide +kernel
theorem dX8_stair_213 : decode cX8_stair 213 = .ok (.iinc 3 1, 3) := by decide +kernel
theorem dX8_stair_216 : decode cX8_stair 216 = .ok (.goto (-31), 3) := by decide +kernel
theorem dX8_stair_219 : decode cX8_stair 219 = .ok (.aload_n 0, 1) := by decide +kernel
theorem dX8_stair_220 : decode cX8_stair 220 = .ok (.iload_n 2, 1) := by decide +kernel
theorem dX8_stair_221 : decode cX8_stair 221 = .ok (.invokevirtual 274, 3) := by decide +kernel
theorem dX8_stair_224 : decode cX8_stair 224 = .ok (.iinc 2 1, 3) := by decide +kernel
theorem dX8_stair_227 : decode cX8_stair 227 = .ok (.goto (-52), 3) := by decide +kernel
theorem dX8_stair_230 : decode cX8_stair 230 = .ok (.iconst 0, 1) := by decide +kernel
theorem dX8_stair_231 : decode cX8_stair 231 = .ok (.istore_n 2, 1) := by decide +kernel
theorem dX8_stair_232 : decode cX8_stair 232 = .ok (.iload_n 2, 1) := by decide +kernel
theorem dX8_stair_233 : decode cX8_stair 233 = .ok (.bipush 8, 2) := by decide +kernel
theorem dX8_stair_235 : decode cX8_stair 235 = .ok (.if_icmp .ge 19, 3) := by decide +kernel
theorem dX8_stair_238 : decode cX8_stair 238 = .ok (.aload_n 0, 1) := by decide +kernel
theorem dX8_stair_239 : decode cX8_stair 239 = .ok (.getfield 42, 3) := by decide +kernel
theorem dX8_stair_242 : decode cX8_stair 242 = .ok (.bipush 55, 2) := by decide +kernel
theorem dX8_stair_244 : decode cX8_stair 244 = .ok (.iload_n 2, 1) := by decide +kernel
theorem dX8_stair_245 : decode cX8_stair 245 = .ok (.iadd, 1) := by decide +kernel
theorem dX8_stair_246 : decode cX8_stair 246 = .ok (.iconst (-1), 1) := by decide +kernel
theorem dX8_stair_247 : decode cX8_stair 247 = .ok (.iastore, 1) := by decide +kernel
theorem dX8_stair_248 : decode cX8_stair 248 = .ok (.iinc 2 1, 3) := by decide +kernel
theorem dX8_stair_251 : decode cX8_stair 251 = .ok (.goto (-19), 3) := by decide +kernel
theorem dX8_stair_254 : decode cX8_stair 254 = .ok (.aload_n 0, 1) := by decide +kernel
theorem dX8_stair_255 : decode cX8_stair 255 = .ok (.getfield 218, 3) := by decide +kernel
theorem dX8_stair_258 : decode cX8_stair 258 = .ok (.ireturn, 1) := by decide +kernel
theorem dX8_isRule_0 : decode cX8_isRule 0 = .ok (.iload_n 1, 1) := by decide +kernel
theorem dX8_isRule_1 : decode cX8_isRule 1 = .ok (.ifCond .lt 15, 3) := by decide +kernel
theorem dX8_isRule_4 : decode cX8_isRule 4 = .ok (.iload_n 1, 1) := by decide +kernel
theorem dX8_isRule_5 : decode cX8_isRule 5 = .ok (.aload_n 0, 1) := by decide +kernel
theorem dX8_isRule_6 : decode cX8_isRule 6 = .ok (.getfield 268, 3) := by decide +kernel
theorem dX8_isRule_9 : decode cX8_isRule 9 = .ok (.if_icmp .ge 7, 3) := by decide +kernel
theorem dX8_isRule_12 : decode cX8_isRule 12 = .ok (.iconst 1, 1) := by decide +kernel
theorem dX8_isRule_13 : decode cX8_isRule 13 = .ok (.goto 4, 3) := by decide +kernel
theorem dX8_isRule_16 : decode cX8_isRule 16 = .ok (.iconst 0, 1) := by decide +kernel
theorem dX8_isRule_17 : decode cX8_isRule 17 = .ok (.ireturn, 1) := by decide +kernel
theorem dX8_push_0 : decode cX8_push 0 = .ok (.aload_n 0, 1) := by decide +kernel
theorem dX8_push_1 : decode cX8_push 1 = .ok (.getfield 35, 3) := by decide +kernel
theorem dX8_push_4 : decode cX8_push 4 = .ok (.aload_n 0, 1) := by decide +kernel
theorem dX8_push_5 : decode cX8_push 5 = .ok (.getfield 277, 3) := by decide +kernel
theorem dX8_push_8 : decode cX8_push 8 = .ok (.lload_n 1, 1) := by decide +kernel
theorem dX8_push_9 : decode cX8_push 9 = .ok (.lastore, 1) := by decide +kernel
theorem dX8_push_10 : decode cX8_push 10 = .ok (.aload_n 0, 1) := by decide +kernel
theorem dX8_push_11 : decode cX8_push 11 = .ok (.dup, 1) := by decide +kernel
theorem dX8_push_12 : decode cX8_push 12 = .ok (.getfield 277, 3) := by decide +kernel
theorem dX8_push_15 : decode cX8_push 15 = .ok (.iconst 1, 1) := by decide +kernel
theorem dX8_push_16 : decode cX8_push 16 = .ok (.iadd, 1) := by decide +kernel
theorem dX8_push_17 : decode cX8_push 17 = .ok (.putfield 277, 3) := by decide +kernel
theorem dX8_push_20 : decode cX8_push 20 = .ok (.return_, 1) := by decide +kernel
theorem dX8_pop_0 : decode cX8_pop 0 = .ok (.aload_n 0, 1) := by decide +kernel
theorem dX8_pop_1 : decode cX8_pop 1 = .ok (.dup, 1) := by decide +kernel
theorem dX8_pop_2 : decode cX8_pop 2 = .ok (.getfield 277, 3) := by decide +kernel
theorem dX8_pop_5 : decode cX8_pop 5 = .ok (.iconst 1, 1) := by decide +kernel
theorem dX8_pop_6 : decode cX8_pop 6 = .ok (.isub, 1) := by decide +kernel
theorem dX8_pop_7 : decode cX8_pop 7 = .ok (.putfield 277, 3) := by decide +kernel
theorem dX8_pop_10 : decode cX8_pop 10 = .ok (.aload_n 0, 1) := by decide +kernel
theorem dX8_pop_11 : decode cX8_pop 11 = .ok (.getfield 35, 3) := by decide +kernel
theorem dX8_pop_14 : decode cX8_pop 14 = .ok (.aload_n 0, 1) := by decide +kernel
theorem dX8_pop_15 : decode cX8_pop 15 = .ok (.getfield 277, 3) := by decide +kernel
theorem dX8_pop_18 : decode cX8_pop 18 = .ok (.laload, 1) := by decide +kernel
theorem dX8_pop_19 : decode cX8_pop 19 = .ok (.lreturn, 1) := by decide +kernel
theorem dX8_one_0 : decode cX8_one 0 = .ok (.iload_n 0, 1) := by decide +kernel
theorem dX8_one_1 : decode cX8_one 1 = .ok (.tableswitch 149 2 12 #[59, 63, 67, 71, 85, 97, 109, 121, 133, 149, 145], 59) := by decide +kernel
theorem dX8_one_60 : decode cX8_one 60 = .ok (.lload_n 1, 1) := by decide +kernel
theorem dX8_one_61 : decode cX8_one 61 = .ok (.lload_n 3, 1) := by decide +kernel
theorem dX8_one_62 : decode cX8_one 62 = .ok (.ladd, 1) := by decide +kernel
theorem dX8_one_63 : decode cX8_one 63 = .ok (.lreturn, 1) := by decide +kernel
theorem dX8_one_64 : decode cX8_one 64 = .ok (.lload_n 1, 1) := by decide +kernel
theorem dX8_one_65 : decode cX8_one 65 = .ok (.lload_n 3, 1) := by decide +kernel
theorem dX8_one_66 : decode cX8_one 66 = .ok (.lsub, 1) := by decide +kernel
theorem dX8_one_67 : decode cX8_one 67 = .ok (.lreturn, 1) := by decide +kernel
theorem dX8_one_68 : decode cX8_one 68 = .ok (.lload_n 1, 1) := by decide +kernel
theorem dX8_one_69 : decode cX8_one 69 = .ok (.lload_n 3, 1) := by decide +kernel
theorem dX8_one_70 : decode cX8_one 70 = .ok (.lmul, 1) := by decide +kernel
theorem dX8_one_71 : decode cX8_one 71 = .ok (.lreturn, 1) := by decide +kernel
theorem dX8_one_72 : decode cX8_one 72 = .ok (.lload_n 3, 1) := by decide +kernel
theorem dX8_one_73 : decode cX8_one 73 = .ok (.lconst 0, 1) := by decide +kernel
theorem dX8_one_74 : decode cX8_one 74 = .ok (.lcmp, 1) := by decide +kernel
theorem dX8_one_75 : decode cX8_one 75 = .ok (.ifCond .ne 7, 3) := by decide +kernel
theorem dX8_one_78 : decode cX8_one 78 = .ok (.lconst 0, 1) := by decide +kernel
theorem dX8_one_79 : decode cX8_one 79 = .ok (.goto 6, 3) := by decide +kernel
theorem dX8_one_82 : decode cX8_one 82 = .ok (.lload_n 1, 1) := by decide +kernel
theorem dX8_one_83 : decode cX8_one 83 = .ok (.lload_n 3, 1) := by decide +kernel
theorem dX8_one_84 : decode cX8_one 84 = .ok (.ldiv, 1) := by decide +kernel
theorem dX8_one_85 : decode cX8_one 85 = .ok (.lreturn, 1) := by decide +kernel
theorem dX8_one_86 : decode cX8_one 86 = .ok (.lload_n 1, 1) := by decide +kernel
theorem dX8_one_87 : decode cX8_one 87 = .ok (.lload_n 3, 1) := by decide +kernel
theorem dX8_one_88 : decode cX8_one 88 = .ok (.lcmp, 1) := by decide +kernel
theorem dX8_one_89 : decode cX8_one 89 = .ok (.ifCond .ge 7, 3) := by decide +kernel
theorem dX8_one_92 : decode cX8_one 92 = .ok (.lconst 1, 1) := by decide +kernel
theorem dX8_one_93 : decode cX8_one 93 = .ok (.goto 4, 3) := by decide +kernel
theorem dX8_one_96 : decode cX8_one 96 = .ok (.lconst 0, 1) := by decide +kernel
theorem dX8_one_97 : decode cX8_one 97 = .ok (.lreturn, 1) := by decide +kernel
theorem dX8_one_98 : decode cX8_one 98 = .ok (.lload_n 1, 1) := by decide +kernel
theorem dX8_one_99 : decode cX8_one 99 = .ok (.lload_n 3, 1) := by decide +kernel
theorem dX8_one_100 : decode cX8_one 100 = .ok (.lcmp, 1) := by decide +kernel
theorem dX8_one_101 : decode cX8_one 101 = .ok (.ifCond .gt 7, 3) := by decide +kernel
theorem dX8_one_104 : decode cX8_one 104 = .ok (.lconst 1, 1) := by decide +kernel
theorem dX8_one_105 : decode cX8_one 105 = .ok (.goto 4, 3) := by decide +kernel
theorem dX8_one_108 : decode cX8_one 108 = .ok (.lconst 0, 1) := by decide +kernel
theorem dX8_one_109 : decode cX8_one 109 = .ok (.lreturn, 1) := by decide +kernel
theorem dX8_one_110 : decode cX8_one 110 = .ok (.lload_n 1, 1) := by decide +kernel
theorem dX8_one_111 : decode cX8_one 111 = .ok (.lload_n 3, 1) := by decide +kernel
theorem dX8_one_112 : decode cX8_one 112 = .ok (.lcmp, 1) := by decide +kernel
theorem dX8_one_113 : decode cX8_one 113 = .ok (.ifCond .ne 7, 3) := by decide +kernel
theorem dX8_one_116 : decode cX8_one 116 = .ok (.lconst 1, 1) := by decide +kernel
theorem dX8_one_117 : decode cX8_one 117 = .ok (.goto 4, 3) := by decide +kernel
theorem dX8_one_120 : decode cX8_one 120 = .ok (.lconst 0, 1) := by decide +kernel
theorem dX8_one_121 : decode cX8_one 121 = .ok (.lreturn, 1) := by decide +kernel
theorem dX8_one_122 : decode cX8_one 122 = .ok (.lload_n 1, 1) := by decide +kernel
theorem dX8_one_123 : decode cX8_one 123 = .ok (.lload_n 3, 1) := by decide +kernel
theorem dX8_one_124 : decode cX8_one 124 = .ok (.lcmp, 1) := by decide +kernel
theorem dX8_one_125 : decode cX8_one 125 = .ok (.ifCond .lt 7, 3) := by decide +kernel
theorem dX8_one_128 : decode cX8_one 128 = .ok (.lconst 1, 1) := by decide +kernel
theorem dX8_one_129 : decode cX8_one 129 = .ok (.goto 4, 3) := by decide +kernel
theorem dX8_one_132 : decode cX8_one 132 = .ok (.lconst 0, 1) := by decide +kernel
theorem dX8_one_133 : decode cX8_one 133 = .ok (.lreturn, 1) := by decide +kernel
theorem dX8_one_134 : decode cX8_one 134 = .ok (.lload_n 1, 1) := by decide +kernel
theorem dX8_one_135 : decode cX8_one 135 = .ok (.lload_n 3, 1) := by decide +kernel
theorem dX8_one_136 : decode cX8_one 136 = .ok (.lcmp, 1) := by decide +kernel
theorem dX8_one_137 : decode cX8_one 137 = .ok (.ifCond .le 7, 3) := by decide +kernel
theorem dX8_one_140 : decode cX8_one 140 = .ok (.lconst 1, 1) := by decide +kernel
theorem dX8_one_141 : decode cX8_one 141 = .ok (.goto 4, 3) := by decide +kernel
theorem dX8_one_144 : decode cX8_one 144 = .ok (.lconst 0, 1) := by decide +kernel
theorem dX8_one_145 : decode cX8_one 145 = .ok (.lreturn, 1) := by decide +kernel
theorem dX8_one_146 : decode cX8_one 146 = .ok (.lload_n 1, 1) := by decide +kernel
theorem dX8_one_147 : decode cX8_one 147 = .ok (.lload_n 3, 1) := by decide +kernel
theorem dX8_one_148 : decode cX8_one 148 = .ok (.land, 1) := by decide +kernel
theorem dX8_one_149 : decode cX8_one 149 = .ok (.lreturn, 1) := by decide +kernel
theorem dX8_one_150 : decode cX8_one 150 = .ok (.lload_n 1, 1) := by decide +kernel
theorem dX8_one_151 : decode cX8_one 151 = .ok (.lload_n 3, 1) := by decide +kernel
theorem dX8_one_152 : decode cX8_one 152 = .ok (.lor, 1) := by decide +kernel
theorem dX8_one_153 : decode cX8_one 153 = .ok (.lreturn, 1) := by decide +kernel
theorem dX8_reckons_0 : decode cX8_reckons 0 = .ok (.aload_n 0, 1) := by decide +kernel
theorem dX8_reckons_1 : decode cX8_reckons 1 = .ok (.iconst 0, 1) := by decide +kernel
theorem dX8_reckons_2 : decode cX8_reckons 2 = .ok (.putfield 277, 3) := by decide +kernel
theorem dX8_reckons_5 : decode cX8_reckons 5 = .ok (.iload_n 2, 1) := by decide +kernel
theorem dX8_reckons_6 : decode cX8_reckons 6 = .ok (.istore 4, 2) := by decide +kernel
theorem dX8_reckons_8 : decode cX8_reckons 8 = .ok (.iload 4, 2) := by decide +kernel
theorem dX8_reckons_10 : decode cX8_reckons 10 = .ok (.iload_n 3, 1) := by decide +kernel
theorem dX8_reckons_11 : decode cX8_reckons 11 = .ok (.if_icmp .ge 124, 3) := by decide +kernel
theorem dX8_reckons_14 : decode cX8_reckons 14 = .ok (.aload_n 0, 1) := by decide +kernel
theorem dX8_reckons_15 : decode cX8_reckons 15 = .ok (.getfield 13, 3) := by decide +kernel
theorem dX8_reckons_18 : decode cX8_reckons 18 = .ok (.sipush 400, 3) := by decide +kernel
theorem dX8_reckons_21 : decode cX8_reckons 21 = .ok (.iload_n 1, 1) := by decide +kernel
theorem dX8_reckons_22 : decode cX8_reckons 22 = .ok (.imul, 1) := by decide +kernel
theorem dX8_reckons_23 : decode cX8_reckons 23 = .ok (.iload 4, 2) := by decide +kernel
theorem dX8_reckons_25 : decode cX8_reckons 25 = .ok (.iadd, 1) := by decide +kernel
theorem dX8_reckons_26 : decode cX8_reckons 26 = .ok (.iaload, 1) := by decide +kernel
theorem dX8_reckons_27 : decode cX8_reckons 27 = .ok (.bipush 15, 2) := by decide +kernel
theorem dX8_reckons_29 : decode cX8_reckons 29 = .ok (.iand, 1) := by decide +kernel
theorem dX8_reckons_30 : decode cX8_reckons 30 = .ok (.istore 5, 2) := by decide +kernel
theorem dX8_reckons_32 : decode cX8_reckons 32 = .ok (.aload_n 0, 1) := by decide +kernel
theorem dX8_reckons_33 : decode cX8_reckons 33 = .ok (.getfield 13, 3) := by decide +kernel
theorem dX8_reckons_36 : decode cX8_reckons 36 = .ok (.sipush 400, 3) := by decide +kernel
theorem dX8_reckons_39 : decode cX8_reckons 39 = .ok (.iload_n 1, 1) := by decide +kernel
theorem dX8_reckons_40 : decode cX8_reckons 40 = .ok (.imul, 1) := by decide +kernel
theorem dX8_reckons_41 : decode cX8_reckons 41 = .ok (.iload 4, 2) := by decide +kernel
theorem dX8_reckons_43 : decode cX8_reckons 43 = .ok (.iadd, 1) := by decide +kernel
theorem dX8_reckons_44 : decode cX8_reckons 44 = .ok (.iaload, 1) := by decide +kernel
theorem dX8_reckons_45 : decode cX8_reckons 45 = .ok (.iconst 4, 1) := by decide +kernel
theorem dX8_reckons_46 : decode cX8_reckons 46 = .ok (.ishr, 1) := by decide +kernel
theorem dX8_reckons_47 : decode cX8_reckons 47 = .ok (.istore 6, 2) := by decide +kernel
theorem dX8_reckons_49 : decode cX8_reckons 49 = .ok (.iload 5, 2) := by decide +kernel
theorem dX8_reckons_51 : decode cX8_reckons 51 = .ok (.ifCond .ne 13, 3) := by decide +kernel
theorem dX8_reckons_54 : decode cX8_reckons 54 = .ok (.aload_n 0, 1) := by decide +kernel
theorem dX8_reckons_55 : decode cX8_reckons 55 = .ok (.iload 6, 2) := by decide +kernel
theorem dX8_reckons_57 : decode cX8_reckons 57 = .ok (.i2l, 1) := by decide +kernel
theorem dX8_reckons_58 : decode cX8_reckons 58 = .ok (.invokevirtual 280, 3) := by decide +kernel
theorem dX8_reckons_61 : decode cX8_reckons 61 = .ok (.goto 68, 3) := by decide +kernel
theorem dX8_reckons_64 : decode cX8_reckons 64 = .ok (.iload 5, 2) := by decide +kernel
theorem dX8_reckons_66 : decode cX8_reckons 66 = .ok (.iconst 1, 1) := by decide +kernel
theorem dX8_reckons_67 : decode cX8_reckons 67 = .ok (.if_icmp .ne 17, 3) := by decide +kernel
theorem dX8_reckons_70 : decode cX8_reckons 70 = .ok (.aload_n 0, 1) := by decide +kernel
theorem dX8_reckons_71 : decode cX8_reckons 71 = .ok (.aload_n 0, 1) := by decide +kernel
theorem dX8_reckons_72 : decode cX8_reckons 72 = .ok (.getfield 39, 3) := by decide +kernel
theorem dX8_reckons_75 : decode cX8_reckons 75 = .ok (.iload 6, 2) := by decide +kernel
theorem dX8_reckons_77 : decode cX8_reckons 77 = .ok (.laload, 1) := by decide +kernel
theorem dX8_reckons_78 : decode cX8_reckons 78 = .ok (.invokevirtual 280, 3) := by decide +kernel
theorem dX8_reckons_81 : decode cX8_reckons 81 = .ok (.goto 48, 3) := by decide +kernel
theorem dX8_reckons_84 : decode cX8_reckons 84 = .ok (.iload 5, 2) := by decide +kernel
theorem dX8_reckons_86 : decode cX8_reckons 86 = .ok (.bipush 11, 2) := by decide +kernel
theorem dX8_reckons_88 : decode cX8_reckons 88 = .ok (.if_icmp .ne 16, 3) := by decide +kernel
theorem dX8_reckons_91 : decode cX8_reckons 91 = .ok (.aload_n 0, 1) := by decide +kernel
theorem dX8_reckons_92 : decode cX8_reckons 92 = .ok (.lconst 1, 1) := by decide +kernel
theorem dX8_reckons_93 : decode cX8_reckons 93 = .ok (.aload_n 0, 1) := by decide +kernel
theorem dX8_reckons_94 : decode cX8_reckons 94 = .ok (.invokevirtual 284, 3) := by decide +kernel
theorem dX8_reckons_97 : decode cX8_reckons 97 = .ok (.lsub, 1) := by decide +kernel
theorem dX8_reckons_98 : decode cX8_reckons 98 = .ok (.invokevirtual 280, 3) := by decide +kernel
theorem dX8_reckons_101 : decode cX8_reckons 101 = .ok (.goto 28, 3) := by decide +kernel
theorem dX8_reckons_104 : decode cX8_reckons 104 = .ok (.aload_n 0, 1) := by decide +kernel
theorem dX8_reckons_105 : decode cX8_reckons 105 = .ok (.invokevirtual 284, 3) := by decide +kernel
theorem dX8_reckons_108 : decode cX8_reckons 108 = .ok (.lstore 7, 2) := by decide +kernel
theorem dX8_reckons_110 : decode cX8_reckons 110 = .ok (.aload_n 0, 1) := by decide +kernel
theorem dX8_reckons_111 : decode cX8_reckons 111 = .ok (.invokevirtual 284, 3) := by decide +kernel
theorem dX8_reckons_114 : decode cX8_reckons 114 = .ok (.lstore 9, 2) := by decide +kernel
theorem dX8_reckons_116 : decode cX8_reckons 116 = .ok (.aload_n 0, 1) := by decide +kernel
theorem dX8_reckons_117 : decode cX8_reckons 117 = .ok (.iload 5, 2) := by decide +kernel
theorem dX8_reckons_119 : decode cX8_reckons 119 = .ok (.lload 9, 2) := by decide +kernel
theorem dX8_reckons_121 : decode cX8_reckons 121 = .ok (.lload 7, 2) := by decide +kernel
theorem dX8_reckons_123 : decode cX8_reckons 123 = .ok (.invokestatic 288, 3) := by decide +kernel
theorem dX8_reckons_126 : decode cX8_reckons 126 = .ok (.invokevirtual 280, 3) := by decide +kernel
theorem dX8_reckons_129 : decode cX8_reckons 129 = .ok (.iinc 4 1, 3) := by decide +kernel
theorem dX8_reckons_132 : decode cX8_reckons 132 = .ok (.goto (-124), 3) := by decide +kernel
theorem dX8_reckons_135 : decode cX8_reckons 135 = .ok (.aload_n 0, 1) := by decide +kernel
theorem dX8_reckons_136 : decode cX8_reckons 136 = .ok (.invokevirtual 284, 3) := by decide +kernel
theorem dX8_reckons_139 : decode cX8_reckons 139 = .ok (.lreturn, 1) := by decide +kernel
theorem dX8_isLevel_0 : decode cX8_isLevel 0 = .ok (.iload_n 1, 1) := by decide +kernel
theorem dX8_isLevel_1 : decode cX8_isLevel 1 = .ok (.ifCond .lt 17, 3) := by decide +kernel
theorem dX8_isLevel_4 : decode cX8_isLevel 4 = .ok (.iload_n 1, 1) := by decide +kernel
theorem dX8_isLevel_5 : decode cX8_isLevel 5 = .ok (.aload_n 0, 1) := by decide +kernel
theorem dX8_isLevel_6 : decode cX8_isLevel 6 = .ok (.getfield 42, 3) := by decide +kernel
theorem dX8_isLevel_9 : decode cX8_isLevel 9 = .ok (.iconst 0, 1) := by decide +kernel
theorem dX8_isLevel_10 : decode cX8_isLevel 10 = .ok (.iaload, 1) := by decide +kernel
theorem dX8_isLevel_11 : decode cX8_isLevel 11 = .ok (.if_icmp .ge 7, 3) := by decide +kernel
theorem dX8_isLevel_14 : decode cX8_isLevel 14 = .ok (.iconst 1, 1) := by decide +kernel
theorem dX8_isLevel_15 : decode cX8_isLevel 15 = .ok (.goto 4, 3) := by decide +kernel
theorem dX8_isLevel_18 : decode cX8_isLevel 18 = .ok (.iconst 0, 1) := by decide +kernel
theorem dX8_isLevel_19 : decode cX8_isLevel 19 = .ok (.ireturn, 1) := by decide +kernel
theorem dX8_isStep_0 : decode cX8_isStep 0 = .ok (.iload_n 1, 1) := by decide +kernel
theorem dX8_isStep_1 : decode cX8_isStep 1 = .ok (.ifCond .lt 19, 3) := by decide +kernel
theorem dX8_isStep_4 : decode cX8_isStep 4 = .ok (.iload_n 1, 1) := by decide +kernel
theorem dX8_isStep_5 : decode cX8_isStep 5 = .ok (.aload_n 0, 1) := by decide +kernel
theorem dX8_isStep_6 : decode cX8_isStep 6 = .ok (.getfield 42, 3) := by decide +kernel
theorem dX8_isStep_9 : decode cX8_isStep 9 = .ok (.iconst 0, 1) := by decide +kernel
theorem dX8_isStep_10 : decode cX8_isStep 10 = .ok (.iaload, 1) := by decide +kernel
theorem dX8_isStep_11 : decode cX8_isStep 11 = .ok (.iconst 1, 1) := by decide +kernel
theorem dX8_isStep_12 : decode cX8_isStep 12 = .ok (.isub, 1) := by decide +kernel
theorem dX8_isStep_13 : decode cX8_isStep 13 = .ok (.if_icmp .ge 7, 3) := by decide +kernel
theorem dX8_isStep_16 : decode cX8_isStep 16 = .ok (.iconst 1, 1) := by decide +kernel
theorem dX8_isStep_17 : decode cX8_isStep 17 = .ok (.goto 4, 3) := by decide +kernel
theorem dX8_isStep_20 : decode cX8_isStep 20 = .ok (.iconst 0, 1) := by decide +kernel
theorem dX8_isStep_21 : decode cX8_isStep 21 = .ok (.ireturn, 1) := by decide +kernel
theorem dX8_isBarge_0 : decode cX8_isBarge 0 = .ok (.iload_n 1, 1) := by decide +kernel
theorem dX8_isBarge_1 : decode cX8_isBarge 1 = .ok (.ifCond .lt 17, 3) := by decide +kernel
theorem dX8_isBarge_4 : decode cX8_isBarge 4 = .ok (.iload_n 1, 1) := by decide +kernel
theorem dX8_isBarge_5 : decode cX8_isBarge 5 = .ok (.aload_n 0, 1) := by decide +kernel
theorem dX8_isBarge_6 : decode cX8_isBarge 6 = .ok (.getfield 42, 3) := by decide +kernel
theorem dX8_isBarge_9 : decode cX8_isBarge 9 = .ok (.iconst 1, 1) := by decide +kernel
theorem dX8_isBarge_10 : decode cX8_isBarge 10 = .ok (.iaload, 1) := by decide +kernel
theorem dX8_isBarge_11 : decode cX8_isBarge 11 = .ok (.if_icmp .ge 7, 3) := by decide +kernel
theorem dX8_isBarge_14 : decode cX8_isBarge 14 = .ok (.iconst 1, 1) := by decide +kernel
theorem dX8_isBarge_15 : decode cX8_isBarge 15 = .ok (.goto 4, 3) := by decide +kernel
theorem dX8_isBarge_18 : decode cX8_isBarge 18 = .ok (.iconst 0, 1) := by decide +kernel
theorem dX8_isBarge_19 : decode cX8_isBarge 19 = .ok (.ireturn, 1) := by decide +kernel
theorem dX8_isNamed_0 : decode cX8_isNamed 0 = .ok (.iload_n 1, 1) := by decide +kernel
theorem dX8_isNamed_1 : decode cX8_isNamed 1 = .ok (.iconst (-1), 1) := by decide +kernel
theorem dX8_isNamed_2 : decode cX8_isNamed 2 = .ok (.if_icmp .eq 11, 3) := by decide +kernel
theorem dX8_isNamed_5 : decode cX8_isNamed 5 = .ok (.aload_n 0, 1) := by decide +kernel
theorem dX8_isNamed_6 : decode cX8_isNamed 6 = .ok (.iload_n 1, 1) := by decide +kernel
theorem dX8_isNamed_7 : decode cX8_isNamed 7 = .ok (.invokevirtual 292, 3) := by decide +kernel
theorem dX8_isNamed_10 : decode cX8_isNamed 10 = .ok (.ifCond .eq 7, 3) := by decide +kernel
theorem dX8_isNamed_13 : decode cX8_isNamed 13 = .ok (.iconst 1, 1) := by decide +kernel
theorem dX8_isNamed_14 : decode cX8_isNamed 14 = .ok (.goto 4, 3) := by decide +kernel
theorem dX8_isNamed_17 : decode cX8_isNamed 17 = .ok (.iconst 0, 1) := by decide +kernel
theorem dX8_isNamed_18 : decode cX8_isNamed 18 = .ok (.ireturn, 1) := by decide +kernel
theorem dX8_waterOf_0 : decode cX8_waterOf 0 = .ok (.aload_n 0, 1) := by decide +kernel
theorem dX8_waterOf_1 : decode cX8_waterOf 1 = .ok (.getfield 42, 3) := by decide +kernel
theorem dX8_waterOf_4 : decode cX8_waterOf 4 = .ok (.bipush 9, 2) := by decide +kernel
theorem dX8_waterOf_6 : decode cX8_waterOf 6 = .ok (.iconst 2, 1) := by decide +kernel
theorem dX8_waterOf_7 : decode cX8_waterOf 7 = .ok (.iload_n 1, 1) := by decide +kernel
theorem dX8_waterOf_8 : decode cX8_waterOf 8 = .ok (.imul, 1) := by decide +kernel
theorem dX8_waterOf_9 : decode cX8_waterOf 9 = .ok (.iadd, 1) := by decide +kernel
theorem dX8_waterOf_10 : decode cX8_waterOf 10 = .ok (.iaload, 1) := by decide +kernel
theorem dX8_waterOf_11 : decode cX8_waterOf 11 = .ok (.ireturn, 1) := by decide +kernel
theorem dX8_bargeOf_0 : decode cX8_bargeOf 0 = .ok (.aload_n 0, 1) := by decide +kernel
theorem dX8_bargeOf_1 : decode cX8_bargeOf 1 = .ok (.getfield 42, 3) := by decide +kernel
theorem dX8_bargeOf_4 : decode cX8_bargeOf 4 = .ok (.bipush 25, 2) := by decide +kernel
theorem dX8_bargeOf_6 : decode cX8_bargeOf 6 = .ok (.iconst 5, 1) := by decide +kernel
theorem dX8_bargeOf_7 : decode cX8_bargeOf 7 = .ok (.iload_n 1, 1) := by decide +kernel
theorem dX8_bargeOf_8 : decode cX8_bargeOf 8 = .ok (.imul, 1) := by decide +kernel
theorem dX8_bargeOf_9 : decode cX8_bargeOf 9 = .ok (.iadd, 1) := by decide +kernel
theorem dX8_bargeOf_10 : decode cX8_bargeOf 10 = .ok (.iload_n 2, 1) := by decide +kernel
theorem dX8_bargeOf_11 : decode cX8_bargeOf 11 = .ok (.iadd, 1) := by decide +kernel
theorem dX8_bargeOf_12 : decode cX8_bargeOf 12 = .ok (.iaload, 1) := by decide +kernel
theorem dX8_bargeOf_13 : decode cX8_bargeOf 13 = .ok (.ireturn, 1) := by decide +kernel
theorem dX8_begins_0 : decode cX8_begins 0 = .ok (.aload_n 0, 1) := by decide +kernel
theorem dX8_begins_1 : decode cX8_begins 1 = .ok (.getfield 42, 3) := by decide +kernel
theorem dX8_begins_4 : decode cX8_begins 4 = .ok (.bipush 25, 2) := by decide +kernel
theorem dX8_begins_6 : decode cX8_begins 6 = .ok (.iconst 5, 1) := by decide +kernel
theorem dX8_begins_7 : decode cX8_begins 7 = .ok (.iload_n 1, 1) := by decide +kernel
theorem dX8_begins_8 : decode cX8_begins 8 = .ok (.imul, 1) := by decide +kernel
theorem dX8_begins_9 : decode cX8_begins 9 = .ok (.iadd, 1) := by decide +kernel
theorem dX8_begins_10 : decode cX8_begins 10 = .ok (.iconst 4, 1) := by decide +kernel
theorem dX8_begins_11 : decode cX8_begins 11 = .ok (.iadd, 1) := by decide +kernel
theorem dX8_begins_12 : decode cX8_begins 12 = .ok (.aload_n 0, 1) := by decide +kernel
theorem dX8_begins_13 : decode cX8_begins 13 = .ok (.iload_n 1, 1) := by decide +kernel
theorem dX8_begins_14 : decode cX8_begins 14 = .ok (.iconst 2, 1) := by decide +kernel
theorem dX8_begins_15 : decode cX8_begins 15 = .ok (.invokevirtual 295, 3) := by decide +kernel
theorem dX8_begins_18 : decode cX8_begins 18 = .ok (.ifCond .ne 7, 3) := by decide +kernel
theorem dX8_begins_21 : decode cX8_begins 21 = .ok (.iconst 0, 1) := by decide +kernel
theorem dX8_begins_22 : decode cX8_begins 22 = .ok (.goto 11, 3) := by decide +kernel
theorem dX8_begins_25 : decode cX8_begins 25 = .ok (.aload_n 0, 1) := by decide +kernel
theorem dX8_begins_26 : decode cX8_begins 26 = .ok (.getfield 42, 3) := by decide +kernel
theorem dX8_begins_29 : decode cX8_begins 29 = .ok (.iconst 0, 1) := by decide +kernel
theorem dX8_begins_30 : decode cX8_begins 30 = .ok (.iaload, 1) := by decide +kernel
theorem dX8_begins_31 : decode cX8_begins 31 = .ok (.iconst 1, 1) := by decide +kernel
theorem dX8_begins_32 : decode cX8_begins 32 = .ok (.isub, 1) := by decide +kernel
theorem dX8_begins_33 : decode cX8_begins 33 = .ok (.iastore, 1) := by decide +kernel
theorem dX8_begins_34 : decode cX8_begins 34 = .ok (.return_, 1) := by decide +kernel
theorem dX8_isHome_0 : decode cX8_isHome 0 = .ok (.aload_n 0, 1) := by decide +kernel
theorem dX8_isHome_1 : decode cX8_isHome 1 = .ok (.iload_n 1, 1) := by decide +kernel
theorem dX8_isHome_2 : decode cX8_isHome 2 = .ok (.iconst 4, 1) := by decide +kernel
theorem dX8_isHome_3 : decode cX8_isHome 3 = .ok (.invokevirtual 295, 3) := by decide +kernel
theorem dX8_isHome_6 : decode cX8_isHome 6 = .ok (.aload_n 0, 1) := by decide +kernel
theorem dX8_isHome_7 : decode cX8_isHome 7 = .ok (.iload_n 1, 1) := by decide +kernel
theorem dX8_isHome_8 : decode cX8_isHome 8 = .ok (.iconst 2, 1) := by decide +kernel
theorem dX8_isHome_9 : decode cX8_isHome 9 = .ok (.invokevirtual 295, 3) := by decide +kernel
theorem dX8_isHome_12 : decode cX8_isHome 12 = .ok (.ifCond .ne 14, 3) := by decide +kernel
theorem dX8_isHome_15 : decode cX8_isHome 15 = .ok (.aload_n 0, 1) := by decide +kernel
theorem dX8_isHome_16 : decode cX8_isHome 16 = .ok (.getfield 42, 3) := by decide +kernel
theorem dX8_isHome_19 : decode cX8_isHome 19 = .ok (.iconst 0, 1) := by decide +kernel
theorem dX8_isHome_20 : decode cX8_isHome 20 = .ok (.iaload, 1) := by decide +kernel
theorem dX8_isHome_21 : decode cX8_isHome 21 = .ok (.iconst 1, 1) := by decide +kernel
theorem dX8_isHome_22 : decode cX8_isHome 22 = .ok (.isub, 1) := by decide +kernel
theorem dX8_isHome_23 : decode cX8_isHome 23 = .ok (.goto 4, 3) := by decide +kernel
theorem dX8_isHome_26 : decode cX8_isHome 26 = .ok (.iconst 0, 1) := by decide +kernel
theorem dX8_isHome_27 : decode cX8_isHome 27 = .ok (.if_icmp .ne 7, 3) := by decide +kernel
theorem dX8_isHome_30 : decode cX8_isHome 30 = .ok (.iconst 1, 1) := by decide +kernel
theorem dX8_isHome_31 : decode cX8_isHome 31 = .ok (.goto 4, 3) := by decide +kernel
theorem dX8_isHome_34 : decode cX8_isHome 34 = .ok (.iconst 0, 1) := by decide +kernel
theorem dX8_isHome_35 : decode cX8_isHome 35 = .ok (.ireturn, 1) := by decide +kernel
theorem dX8_homeOnes_0 : decode cX8_homeOnes 0 = .ok (.iconst 0, 1) := by decide +kernel
theorem dX8_homeOnes_1 : decode cX8_homeOnes 1 = .ok (.istore_n 1, 1) := by decide +kernel
theorem dX8_homeOnes_2 : decode cX8_homeOnes 2 = .ok (.iconst 0, 1) := by decide +kernel
theorem dX8_homeOnes_3 : decode cX8_homeOnes 3 = .ok (.istore_n 2, 1) := by decide +kernel
theorem dX8_homeOnes_4 : decode cX8_homeOnes 4 = .ok (.iload_n 2, 1) := by decide +kernel
theorem dX8_homeOnes_5 : decode cX8_homeOnes 5 = .ok (.aload_n 0, 1) := by decide +kernel
theorem dX8_homeOnes_6 : decode cX8_homeOnes 6 = .ok (.getfield 42, 3) := by decide +kernel
theorem dX8_homeOnes_9 : decode cX8_homeOnes 9 = .ok (.iconst 1, 1) := by decide +kernel
theorem dX8_homeOnes_10 : decode cX8_homeOnes 10 = .ok (.iaload, 1) := by decide +kernel
theorem dX8_homeOnes_11 : decode cX8_homeOnes 11 = .ok (.if_icmp .ge 27, 3) := by decide +kernel
theorem dX8_homeOnes_14 : decode cX8_homeOnes 14 = .ok (.iload_n 1, 1) := by decide +kernel
theorem dX8_homeOnes_15 : decode cX8_homeOnes 15 = .ok (.aload_n 0, 1) := by decide +kernel
theorem dX8_homeOnes_16 : decode cX8_homeOnes 16 = .ok (.iload_n 2, 1) := by decide +kernel
theorem dX8_homeOnes_17 : decode cX8_homeOnes 17 = .ok (.invokevirtual 299, 3) := by decide +kernel
theorem dX8_homeOnes_20 : decode cX8_homeOnes 20 = .ok (.ifCond .eq 9, 3) := by decide +kernel
theorem dX8_homeOnes_23 : decode cX8_homeOnes 23 = .ok (.iconst 1, 1) := by decide +kernel
theorem dX8_homeOnes_24 : decode cX8_homeOnes 24 = .ok (.iload_n 2, 1) := by decide +kernel
theorem dX8_homeOnes_25 : decode cX8_homeOnes 25 = .ok (.ishl, 1) := by decide +kernel
theorem dX8_homeOnes_26 : decode cX8_homeOnes 26 = .ok (.goto 4, 3) := by decide +kernel
theorem dX8_homeOnes_29 : decode cX8_homeOnes 29 = .ok (.iconst 0, 1) := by decide +kernel
theorem dX8_homeOnes_30 : decode cX8_homeOnes 30 = .ok (.ior, 1) := by decide +kernel
theorem dX8_homeOnes_31 : decode cX8_homeOnes 31 = .ok (.istore_n 1, 1) := by decide +kernel
theorem dX8_homeOnes_32 : decode cX8_homeOnes 32 = .ok (.iinc 2 1, 3) := by decide +kernel
theorem dX8_homeOnes_35 : decode cX8_homeOnes 35 = .ok (.goto (-31), 3) := by decide +kernel
theorem dX8_homeOnes_38 : decode cX8_homeOnes 38 = .ok (.iload_n 1, 1) := by decide +kernel
theorem dX8_homeOnes_39 : decode cX8_homeOnes 39 = .ok (.ireturn, 1) := by decide +kernel
theorem dX8_atLevel_0 : decode cX8_atLevel 0 = .ok (.iconst 0, 1) := by decide +kernel
theorem dX8_atLevel_1 : decode cX8_atLevel 1 = .ok (.istore_n 2, 1) := by decide +kernel
theorem dX8_atLevel_2 : decode cX8_atLevel 2 = .ok (.iconst 0, 1) := by decide +kernel
theorem dX8_atLevel_3 : decode cX8_atLevel 3 = .ok (.istore_n 3, 1) := by decide +kernel
theorem dX8_atLevel_4 : decode cX8_atLevel 4 = .ok (.iload_n 3, 1) := by decide +kernel
theorem dX8_atLevel_5 : decode cX8_atLevel 5 = .ok (.aload_n 0, 1) := by decide +kernel
theorem dX8_atLevel_6 : decode cX8_atLevel 6 = .ok (.getfield 42, 3) := by decide +kernel
theorem dX8_atLevel_9 : decode cX8_atLevel 9 = .ok (.iconst 1, 1) := by decide +kernel
theorem dX8_atLevel_10 : decode cX8_atLevel 10 = .ok (.iaload, 1) := by decide +kernel
theorem dX8_atLevel_11 : decode cX8_atLevel 11 = .ok (.if_icmp .ge 29, 3) := by decide +kernel
theorem dX8_atLevel_14 : decode cX8_atLevel 14 = .ok (.iload_n 2, 1) := by decide +kernel
theorem dX8_atLevel_15 : decode cX8_atLevel 15 = .ok (.aload_n 0, 1) := by decide +kernel
theorem dX8_atLevel_16 : decode cX8_atLevel 16 = .ok (.iload_n 3, 1) := by decide +kernel
theorem dX8_atLevel_17 : decode cX8_atLevel 17 = .ok (.iconst 4, 1) := by decide +kernel
theorem dX8_atLevel_18 : decode cX8_atLevel 18 = .ok (.invokevirtual 295, 3) := by decide +kernel
theorem dX8_atLevel_21 : decode cX8_atLevel 21 = .ok (.iload_n 1, 1) := by decide +kernel
theorem dX8_atLevel_22 : decode cX8_atLevel 22 = .ok (.if_icmp .ne 9, 3) := by decide +kernel
theorem dX8_atLevel_25 : decode cX8_atLevel 25 = .ok (.iconst 1, 1) := by decide +kernel
theorem dX8_atLevel_26 : decode cX8_atLevel 26 = .ok (.iload_n 3, 1) := by decide +kernel
theorem dX8_atLevel_27 : decode cX8_atLevel 27 = .ok (.ishl, 1) := by decide +kernel
theorem dX8_atLevel_28 : decode cX8_atLevel 28 = .ok (.goto 4, 3) := by decide +kernel
theorem dX8_atLevel_31 : decode cX8_atLevel 31 = .ok (.iconst 0, 1) := by decide +kernel
theorem dX8_atLevel_32 : decode cX8_atLevel 32 = .ok (.ior, 1) := by decide +kernel
theorem dX8_atLevel_33 : decode cX8_atLevel 33 = .ok (.istore_n 2, 1) := by decide +kernel
theorem dX8_atLevel_34 : decode cX8_atLevel 34 = .ok (.iinc 3 1, 3) := by decide +kernel
theorem dX8_atLevel_37 : decode cX8_atLevel 37 = .ok (.goto (-33), 3) := by decide +kernel
theorem dX8_atLevel_40 : decode cX8_atLevel 40 = .ok (.iload_n 2, 1) := by decide +kernel
theorem dX8_atLevel_41 : decode cX8_atLevel 41 = .ok (.ireturn, 1) := by decide +kernel
theorem dX8_force_0 : decode cX8_force 0 = .ok (.iload_n 1, 1) := by decide +kernel
theorem dX8_force_1 : decode cX8_force 1 = .ok (.iconst (-1), 1) := by decide +kernel
theorem dX8_force_2 : decode cX8_force 2 = .ok (.if_icmp .eq 14, 3) := by decide +kernel
theorem dX8_force_5 : decode cX8_force 5 = .ok (.aload_n 0, 1) := by decide +kernel
theorem dX8_force_6 : decode cX8_force 6 = .ok (.iload_n 1, 1) := by decide +kernel
theorem dX8_force_7 : decode cX8_force 7 = .ok (.invokevirtual 302, 3) := by decide +kernel
theorem dX8_force_10 : decode cX8_force 10 = .ok (.ifCond .ne 6, 3) := by decide +kernel
theorem dX8_force_13 : decode cX8_force 13 = .ok (.bipush (-2), 2) := by decide +kernel
theorem dX8_force_15 : decode cX8_force 15 = .ok (.ireturn, 1) := by decide +kernel
theorem dX8_force_16 : decode cX8_force 16 = .ok (.aload_n 0, 1) := by decide +kernel
theorem dX8_force_17 : decode cX8_force 17 = .ok (.getfield 42, 3) := by decide +kernel
theorem dX8_force_20 : decode cX8_force 20 = .ok (.bipush 8, 2) := by decide +kernel
theorem dX8_force_22 : decode cX8_force 22 = .ok (.iaload, 1) := by decide +kernel
theorem dX8_force_23 : decode cX8_force 23 = .ok (.istore_n 2, 1) := by decide +kernel
theorem dX8_force_24 : decode cX8_force 24 = .ok (.aload_n 0, 1) := by decide +kernel
theorem dX8_force_25 : decode cX8_force 25 = .ok (.getfield 42, 3) := by decide +kernel
theorem dX8_force_28 : decode cX8_force 28 = .ok (.bipush 8, 2) := by decide +kernel
theorem dX8_force_30 : decode cX8_force 30 = .ok (.iload_n 1, 1) := by decide +kernel
theorem dX8_force_31 : decode cX8_force 31 = .ok (.iastore, 1) := by decide +kernel
theorem dX8_force_32 : decode cX8_force 32 = .ok (.iload_n 2, 1) := by decide +kernel
theorem dX8_force_33 : decode cX8_force 33 = .ok (.ireturn, 1) := by decide +kernel
theorem dX8_level_0 : decode cX8_level 0 = .ok (.aload_n 0, 1) := by decide +kernel
theorem dX8_level_1 : decode cX8_level 1 = .ok (.iload_n 1, 1) := by decide +kernel
theorem dX8_level_2 : decode cX8_level 2 = .ok (.invokevirtual 305, 3) := by decide +kernel
theorem dX8_level_5 : decode cX8_level 5 = .ok (.ifCond .eq 15, 3) := by decide +kernel
theorem dX8_level_8 : decode cX8_level 8 = .ok (.iload_n 2, 1) := by decide +kernel
theorem dX8_level_9 : decode cX8_level 9 = .ok (.i2l, 1) := by decide +kernel
theorem dX8_level_10 : decode cX8_level 10 = .ok (.lconst 0, 1) := by decide +kernel
theorem dX8_level_11 : decode cX8_level 11 = .ok (.ldc2_w 308, 3) := by decide +kernel
theorem dX8_level_14 : decode cX8_level 14 = .ok (.invokestatic 127, 3) := by decide +kernel
theorem dX8_level_17 : decode cX8_level 17 = .ok (.ifCond .ne 5, 3) := by decide +kernel
theorem dX8_level_20 : decode cX8_level 20 = .ok (.iconst (-1), 1) := by decide +kernel
theorem dX8_level_21 : decode cX8_level 21 = .ok (.ireturn, 1) := by decide +kernel
theorem dX8_level_22 : decode cX8_level 22 = .ok (.iload_n 2, 1) := by decide +kernel
theorem dX8_level_23 : decode cX8_level 23 = .ok (.iconst 2, 1) := by decide +kernel
theorem dX8_level_24 : decode cX8_level 24 = .ok (.if_icmp .ge 17, 3) := by decide +kernel
theorem dX8_level_27 : decode cX8_level 27 = .ok (.aload_n 0, 1) := by decide +kernel
theorem dX8_level_28 : decode cX8_level 28 = .ok (.getfield 42, 3) := by decide +kernel
theorem dX8_level_31 : decode cX8_level 31 = .ok (.bipush 9, 2) := by decide +kernel
theorem dX8_level_33 : decode cX8_level 33 = .ok (.iconst 2, 1) := by decide +kernel
theorem dX8_level_34 : decode cX8_level 34 = .ok (.iload_n 1, 1) := by decide +kernel
theorem dX8_level_35 : decode cX8_level 35 = .ok (.imul, 1) := by decide +kernel
theorem dX8_level_36 : decode cX8_level 36 = .ok (.iadd, 1) := by decide +kernel
theorem dX8_level_37 : decode cX8_level 37 = .ok (.iload_n 2, 1) := by decide +kernel
theorem dX8_level_38 : decode cX8_level 38 = .ok (.iadd, 1) := by decide +kernel
theorem dX8_level_39 : decode cX8_level 39 = .ok (.iaload, 1) := by decide +kernel
theorem dX8_level_40 : decode cX8_level 40 = .ok (.ireturn, 1) := by decide +kernel
theorem dX8_level_41 : decode cX8_level 41 = .ok (.iload_n 2, 1) := by decide +kernel
theorem dX8_level_42 : decode cX8_level 42 = .ok (.iconst 2, 1) := by decide +kernel
theorem dX8_level_43 : decode cX8_level 43 = .ok (.if_icmp .ne 11, 3) := by decide +kernel
theorem dX8_level_46 : decode cX8_level 46 = .ok (.aload_n 0, 1) := by decide +kernel
theorem dX8_level_47 : decode cX8_level 47 = .ok (.iload_n 1, 1) := by decide +kernel
theorem dX8_level_48 : decode cX8_level 48 = .ok (.invokevirtual 310, 3) := by decide +kernel
theorem dX8_level_51 : decode cX8_level 51 = .ok (.goto 33, 3) := by decide +kernel
theorem dX8_level_54 : decode cX8_level 54 = .ok (.aload_n 0, 1) := by decide +kernel
theorem dX8_level_55 : decode cX8_level 55 = .ok (.iload_n 1, 1) := by decide +kernel
theorem dX8_level_56 : decode cX8_level 56 = .ok (.invokevirtual 313, 3) := by decide +kernel
theorem dX8_level_59 : decode cX8_level 59 = .ok (.ifCond .ne 7, 3) := by decide +kernel
theorem dX8_level_62 : decode cX8_level 62 = .ok (.iconst (-1), 1) := by decide +kernel
theorem dX8_level_63 : decode cX8_level 63 = .ok (.goto 21, 3) := by decide +kernel
theorem dX8_level_66 : decode cX8_level 66 = .ok (.aload_n 0, 1) := by decide +kernel
theorem dX8_level_67 : decode cX8_level 67 = .ok (.getfield 42, 3) := by decide +kernel
theorem dX8_level_70 : decode cX8_level 70 = .ok (.iconst 5, 1) := by decide +kernel
theorem dX8_level_71 : decode cX8_level 71 = .ok (.iaload, 1) := by decide +kernel
theorem dX8_level_72 : decode cX8_level 72 = .ok (.iload_n 1, 1) := by decide +kernel
theorem dX8_level_73 : decode cX8_level 73 = .ok (.invokestatic 316, 3) := by decide +kernel
theorem dX8_level_76 : decode cX8_level 76 = .ok (.ifCond .eq 7, 3) := by decide +kernel
theorem dX8_level_79 : decode cX8_level 79 = .ok (.iconst 0, 1) := by decide +kernel
theorem dX8_level_80 : decode cX8_level 80 = .ok (.goto 4, 3) := by decide +kernel
theorem dX8_level_83 : decode cX8_level 83 = .ok (.iconst 1, 1) := by decide +kernel
theorem dX8_level_84 : decode cX8_level 84 = .ok (.ireturn, 1) := by decide +kernel
theorem dX8_barge_0 : decode cX8_barge 0 = .ok (.aload_n 0, 1) := by decide +kernel
theorem dX8_barge_1 : decode cX8_barge 1 = .ok (.iload_n 1, 1) := by decide +kernel
theorem dX8_barge_2 : decode cX8_barge 2 = .ok (.invokevirtual 292, 3) := by decide +kernel
theorem dX8_barge_5 : decode cX8_barge 5 = .ok (.ifCond .eq 15, 3) := by decide +kernel
theorem dX8_barge_8 : decode cX8_barge 8 = .ok (.iload_n 2, 1) := by decide +kernel
theorem dX8_barge_9 : decode cX8_barge 9 = .ok (.i2l, 1) := by decide +kernel
theorem dX8_barge_10 : decode cX8_barge 10 = .ok (.lconst 0, 1) := by decide +kernel
theorem dX8_barge_11 : decode cX8_barge 11 = .ok (.ldc2_w 319, 3) := by decide +kernel
theorem dX8_barge_14 : decode cX8_barge 14 = .ok (.invokestatic 127, 3) := by decide +kernel
theorem dX8_barge_17 : decode cX8_barge 17 = .ok (.ifCond .ne 5, 3) := by decide +kernel
theorem dX8_barge_20 : decode cX8_barge 20 = .ok (.iconst (-1), 1) := by decide +kernel
theorem dX8_barge_21 : decode cX8_barge 21 = .ok (.ireturn, 1) := by decide +kernel
theorem dX8_barge_22 : decode cX8_barge 22 = .ok (.iload_n 2, 1) := by decide +kernel
theorem dX8_barge_23 : decode cX8_barge 23 = .ok (.ifCond .ne 12, 3) := by decide +kernel
theorem dX8_barge_26 : decode cX8_barge 26 = .ok (.aload_n 0, 1) := by decide +kernel
theorem dX8_barge_27 : decode cX8_barge 27 = .ok (.iload_n 1, 1) := by decide +kernel
theorem dX8_barge_28 : decode cX8_barge 28 = .ok (.iconst 4, 1) := by decide +kernel
theorem dX8_barge_29 : decode cX8_barge 29 = .ok (.invokevirtual 295, 3) := by decide +kernel
theorem dX8_barge_32 : decode cX8_barge 32 = .ok (.goto 32, 3) := by decide +kernel
theorem dX8_barge_35 : decode cX8_barge 35 = .ok (.iload_n 2, 1) := by decide +kernel
theorem dX8_barge_36 : decode cX8_barge 36 = .ok (.iconst 5, 1) := by decide +kernel
theorem dX8_barge_37 : decode cX8_barge 37 = .ok (.if_icmp .ne 19, 3) := by decide +kernel
theorem dX8_barge_40 : decode cX8_barge 40 = .ok (.aload_n 0, 1) := by decide +kernel
theorem dX8_barge_41 : decode cX8_barge 41 = .ok (.iload_n 1, 1) := by decide +kernel
theorem dX8_barge_42 : decode cX8_barge 42 = .ok (.invokevirtual 299, 3) := by decide +kernel
theorem dX8_barge_45 : decode cX8_barge 45 = .ok (.ifCond .eq 7, 3) := by decide +kernel
theorem dX8_barge_48 : decode cX8_barge 48 = .ok (.iconst 1, 1) := by decide +kernel
theorem dX8_barge_49 : decode cX8_barge 49 = .ok (.goto 15, 3) := by decide +kernel
theorem dX8_barge_52 : decode cX8_barge 52 = .ok (.iconst 0, 1) := by decide +kernel
theorem dX8_barge_53 : decode cX8_barge 53 = .ok (.goto 11, 3) := by decide +kernel
theorem dX8_barge_56 : decode cX8_barge 56 = .ok (.aload_n 0, 1) := by decide +kernel
theorem dX8_barge_57 : decode cX8_barge 57 = .ok (.iload_n 1, 1) := by decide +kernel
theorem dX8_barge_58 : decode cX8_barge 58 = .ok (.iload_n 2, 1) := by decide +kernel
theorem dX8_barge_59 : decode cX8_barge 59 = .ok (.iconst 1, 1) := by decide +kernel
theorem dX8_barge_60 : decode cX8_barge 60 = .ok (.isub, 1) := by decide +kernel
theorem dX8_barge_61 : decode cX8_barge 61 = .ok (.invokevirtual 295, 3) := by decide +kernel
theorem dX8_barge_64 : decode cX8_barge 64 = .ok (.ireturn, 1) := by decide +kernel
theorem dX8_weightOf_0 : decode cX8_weightOf 0 = .ok (.iload_n 1, 1) := by decide +kernel
theorem dX8_weightOf_1 : decode cX8_weightOf 1 = .ok (.ifCond .ge 7, 3) := by decide +kernel
theorem dX8_weightOf_4 : decode cX8_weightOf 4 = .ok (.iconst 0, 1) := by decide +kernel
theorem dX8_weightOf_5 : decode cX8_weightOf 5 = .ok (.goto 9, 3) := by decide +kernel
theorem dX8_weightOf_8 : decode cX8_weightOf 8 = .ok (.aload_n 0, 1) := by decide +kernel
theorem dX8_weightOf_9 : decode cX8_weightOf 9 = .ok (.iload_n 1, 1) := by decide +kernel
theorem dX8_weightOf_10 : decode cX8_weightOf 10 = .ok (.iconst 0, 1) := by decide +kernel
theorem dX8_weightOf_11 : decode cX8_weightOf 11 = .ok (.invokevirtual 295, 3) := by decide +kernel
theorem dX8_weightOf_14 : decode cX8_weightOf 14 = .ok (.ireturn, 1) := by decide +kernel
theorem dX8_wideOf_0 : decode cX8_wideOf 0 = .ok (.iload_n 1, 1) := by decide +kernel
theorem dX8_wideOf_1 : decode cX8_wideOf 1 = .ok (.ifCond .ge 7, 3) := by decide +kernel
theorem dX8_wideOf_4 : decode cX8_wideOf 4 = .ok (.iconst 0, 1) := by decide +kernel
theorem dX8_wideOf_5 : decode cX8_wideOf 5 = .ok (.goto 9, 3) := by decide +kernel
theorem dX8_wideOf_8 : decode cX8_wideOf 8 = .ok (.aload_n 0, 1) := by decide +kernel
theorem dX8_wideOf_9 : decode cX8_wideOf 9 = .ok (.iload_n 1, 1) := by decide +kernel
theorem dX8_wideOf_10 : decode cX8_wideOf 10 = .ok (.iconst 1, 1) := by decide +kernel
theorem dX8_wideOf_11 : decode cX8_wideOf 11 = .ok (.invokevirtual 295, 3) := by decide +kernel
theorem dX8_wideOf_14 : decode cX8_wideOf 14 = .ok (.ireturn, 1) := by decide +kernel
theorem dX8_needOf_0 : decode cX8_needOf 0 = .ok (.aload_n 0, 1) := by decide +kernel
theorem dX8_needOf_1 : decode cX8_needOf 1 = .ok (.iload_n 2, 1) := by decide +kernel
theorem dX8_needOf_2 : decode cX8_needOf 2 = .ok (.invokevirtual 321, 3) := by decide +kernel
theorem dX8_needOf_5 : decode cX8_needOf 5 = .ok (.aload_n 0, 1) := by decide +kernel
theorem dX8_needOf_6 : decode cX8_needOf 6 = .ok (.getfield 42, 3) := by decide +kernel
theorem dX8_needOf_9 : decode cX8_needOf 9 = .ok (.iconst 2, 1) := by decide +kernel
theorem dX8_needOf_10 : decode cX8_needOf 10 = .ok (.iaload, 1) := by decide +kernel
theorem dX8_needOf_11 : decode cX8_needOf 11 = .ok (.iadd, 1) := by decide +kernel
theorem dX8_needOf_12 : decode cX8_needOf 12 = .ok (.aload_n 0, 1) := by decide +kernel
theorem dX8_needOf_13 : decode cX8_needOf 13 = .ok (.iload_n 1, 1) := by decide +kernel
theorem dX8_needOf_14 : decode cX8_needOf 14 = .ok (.invokevirtual 321, 3) := by decide +kernel
theorem dX8_needOf_17 : decode cX8_needOf 17 = .ok (.isub, 1) := by decide +kernel
theorem dX8_needOf_18 : decode cX8_needOf 18 = .ok (.istore_n 3, 1) := by decide +kernel
theorem dX8_needOf_19 : decode cX8_needOf 19 = .ok (.iload_n 3, 1) := by decide +kernel
theorem dX8_needOf_20 : decode cX8_needOf 20 = .ok (.ifCond .ge 7, 3) := by decide +kernel
theorem dX8_needOf_23 : decode cX8_needOf 23 = .ok (.iconst 0, 1) := by decide +kernel
theorem dX8_needOf_24 : decode cX8_needOf 24 = .ok (.goto 24, 3) := by decide +kernel
theorem dX8_needOf_27 : decode cX8_needOf 27 = .ok (.aload_n 0, 1) := by decide +kernel
theorem dX8_needOf_28 : decode cX8_needOf 28 = .ok (.iload_n 1, 1) := by decide +kernel
theorem dX8_needOf_29 : decode cX8_needOf 29 = .ok (.invokevirtual 324, 3) := by decide +kernel
theorem dX8_needOf_32 : decode cX8_needOf 32 = .ok (.aload_n 0, 1) := by decide +kernel
theorem dX8_needOf_33 : decode cX8_needOf 33 = .ok (.iload_n 2, 1) := by decide +kernel
theorem dX8_needOf_34 : decode cX8_needOf 34 = .ok (.invokevirtual 324, 3) := by decide +kernel
theorem dX8_needOf_37 : decode cX8_needOf 37 = .ok (.iadd, 1) := by decide +kernel
theorem dX8_needOf_38 : decode cX8_needOf 38 = .ok (.ifCond .le 9, 3) := by decide +kernel
theorem dX8_needOf_41 : decode cX8_needOf 41 = .ok (.iconst 2, 1) := by decide +kernel
theorem dX8_needOf_42 : decode cX8_needOf 42 = .ok (.iload_n 3, 1) := by decide +kernel
theorem dX8_needOf_43 : decode cX8_needOf 43 = .ok (.imul, 1) := by decide +kernel
theorem dX8_needOf_44 : decode cX8_needOf 44 = .ok (.goto 4, 3) := by decide +kernel
theorem dX8_needOf_47 : decode cX8_needOf 47 = .ok (.iload_n 3, 1) := by decide +kernel
theorem dX8_needOf_48 : decode cX8_needOf 48 = .ok (.ireturn, 1) := by decide +kernel
theorem dX8_isThere_0 : decode cX8_isThere 0 = .ok (.iload_n 1, 1) := by decide +kernel
theorem dX8_isThere_1 : decode cX8_isThere 1 = .ok (.ifCond .lt 23, 3) := by decide +kernel
theorem dX8_isThere_4 : decode cX8_isThere 4 = .ok (.aload_n 0, 1) := by decide +kernel
theorem dX8_isThere_5 : decode cX8_isThere 5 = .ok (.iload_n 1, 1) := by decide +kernel
theorem dX8_isThere_6 : decode cX8_isThere 6 = .ok (.iconst 4, 1) := by decide +kernel
theorem dX8_isThere_7 : decode cX8_isThere 7 = .ok (.invokevirtual 295, 3) := by decide +kernel
theorem dX8_isThere_10 : decode cX8_isThere 10 = .ok (.iload_n 2, 1) := by decide +kernel
theorem dX8_isThere_11 : decode cX8_isThere 11 = .ok (.if_icmp .ne 17, 3) := by decide +kernel
theorem dX8_isThere_14 : decode cX8_isThere 14 = .ok (.aload_n 0, 1) := by decide +kernel
theorem dX8_isThere_15 : decode cX8_isThere 15 = .ok (.iload_n 1, 1) := by decide +kernel
theorem dX8_isThere_16 : decode cX8_isThere 16 = .ok (.iconst 2, 1) := by decide +kernel
theorem dX8_isThere_17 : decode cX8_isThere 17 = .ok (.invokevirtual 295, 3) := by decide +kernel
theorem dX8_isThere_20 : decode cX8_isThere 20 = .ok (.iload_n 3, 1) := by decide +kernel
theorem dX8_isThere_21 : decode cX8_isThere 21 = .ok (.if_icmp .ne 7, 3) := by decide +kernel
theorem dX8_isThere_24 : decode cX8_isThere 24 = .ok (.iconst 1, 1) := by decide +kernel
theorem dX8_isThere_25 : decode cX8_isThere 25 = .ok (.goto 4, 3) := by decide +kernel
theorem dX8_isThere_28 : decode cX8_isThere 28 = .ok (.iconst 0, 1) := by decide +kernel
theorem dX8_isThere_29 : decode cX8_isThere 29 = .ok (.ireturn, 1) := by decide +kernel
theorem dX8_areSeats_0 : decode cX8_areSeats 0 = .ok (.iload_n 1, 1) := by decide +kernel
theorem dX8_areSeats_1 : decode cX8_areSeats 1 = .ok (.ifCond .eq 32, 3) := by decide +kernel
theorem dX8_areSeats_4 : decode cX8_areSeats 4 = .ok (.iload_n 1, 1) := by decide +kernel
theorem dX8_areSeats_5 : decode cX8_areSeats 5 = .ok (.aload_n 0, 1) := by decide +kernel
theorem dX8_areSeats_6 : decode cX8_areSeats 6 = .ok (.getfield 42, 3) := by decide +kernel
theorem dX8_areSeats_9 : decode cX8_areSeats 9 = .ok (.iconst 0, 1) := by decide +kernel
theorem dX8_areSeats_10 : decode cX8_areSeats 10 = .ok (.iaload, 1) := by decide +kernel
theorem dX8_areSeats_11 : decode cX8_areSeats 11 = .ok (.iconst 1, 1) := by decide +kernel
theorem dX8_areSeats_12 : decode cX8_areSeats 12 = .ok (.isub, 1) := by decide +kernel
theorem dX8_areSeats_13 : decode cX8_areSeats 13 = .ok (.if_icmp .eq 20, 3) := by decide +kernel
theorem dX8_areSeats_16 : decode cX8_areSeats 16 = .ok (.iload_n 2, 1) := by decide +kernel
theorem dX8_areSeats_17 : decode cX8_areSeats 17 = .ok (.aload_n 0, 1) := by decide +kernel
theorem dX8_areSeats_18 : decode cX8_areSeats 18 = .ok (.getfield 42, 3) := by decide +kernel
theorem dX8_areSeats_21 : decode cX8_areSeats 21 = .ok (.bipush 9, 2) := by decide +kernel
theorem dX8_areSeats_23 : decode cX8_areSeats 23 = .ok (.iconst 2, 1) := by decide +kernel
theorem dX8_areSeats_24 : decode cX8_areSeats 24 = .ok (.iload_n 1, 1) := by decide +kernel
theorem dX8_areSeats_25 : decode cX8_areSeats 25 = .ok (.imul, 1) := by decide +kernel
theorem dX8_areSeats_26 : decode cX8_areSeats 26 = .ok (.iadd, 1) := by decide +kernel
theorem dX8_areSeats_27 : decode cX8_areSeats 27 = .ok (.iconst 1, 1) := by decide +kernel
theorem dX8_areSeats_28 : decode cX8_areSeats 28 = .ok (.iadd, 1) := by decide +kernel
theorem dX8_areSeats_29 : decode cX8_areSeats 29 = .ok (.iaload, 1) := by decide +kernel
theorem dX8_areSeats_30 : decode cX8_areSeats 30 = .ok (.if_icmp .gt 7, 3) := by decide +kernel
theorem dX8_areSeats_33 : decode cX8_areSeats 33 = .ok (.iconst 1, 1) := by decide +kernel
theorem dX8_areSeats_34 : decode cX8_areSeats 34 = .ok (.goto 4, 3) := by decide +kernel
theorem dX8_areSeats_37 : decode cX8_areSeats 37 = .ok (.iconst 0, 1) := by decide +kernel
theorem dX8_areSeats_38 : decode cX8_areSeats 38 = .ok (.ireturn, 1) := by decide +kernel
theorem dX8_isBarred_0 : decode cX8_isBarred 0 = .ok (.aload_n 0, 1) := by decide +kernel
theorem dX8_isBarred_1 : decode cX8_isBarred 1 = .ok (.getfield 42, 3) := by decide +kernel
theorem dX8_isBarred_4 : decode cX8_isBarred 4 = .ok (.bipush 8, 2) := by decide +kernel
theorem dX8_isBarred_6 : decode cX8_isBarred 6 = .ok (.iaload, 1) := by decide +kernel
theorem dX8_isBarred_7 : decode cX8_isBarred 7 = .ok (.ifCond .ge 5, 3) := by decide +kernel
theorem dX8_isBarred_10 : decode cX8_isBarred 10 = .ok (.iconst 0, 1) := by decide +kernel
theorem dX8_isBarred_11 : decode cX8_isBarred 11 = .ok (.ireturn, 1) := by decide +kernel
theorem dX8_isBarred_12 : decode cX8_isBarred 12 = .ok (.aload_n 0, 1) := by decide +kernel
theorem dX8_isBarred_13 : decode cX8_isBarred 13 = .ok (.getfield 39, 3) := by decide +kernel
theorem dX8_isBarred_16 : decode cX8_isBarred 16 = .ok (.iconst 0, 1) := by decide +kernel
theorem dX8_isBarred_17 : decode cX8_isBarred 17 = .ok (.iload_n 1, 1) := by decide +kernel
theorem dX8_isBarred_18 : decode cX8_isBarred 18 = .ok (.i2l, 1) := by decide +kernel
theorem dX8_isBarred_19 : decode cX8_isBarred 19 = .ok (.lastore, 1) := by decide +kernel
theorem dX8_isBarred_20 : decode cX8_isBarred 20 = .ok (.aload_n 0, 1) := by decide +kernel
theorem dX8_isBarred_21 : decode cX8_isBarred 21 = .ok (.getfield 39, 3) := by decide +kernel
theorem dX8_isBarred_24 : decode cX8_isBarred 24 = .ok (.iconst 1, 1) := by decide +kernel
theorem dX8_isBarred_25 : decode cX8_isBarred 25 = .ok (.aload_n 0, 1) := by decide +kernel
theorem dX8_isBarred_26 : decode cX8_isBarred 26 = .ok (.iload_n 2, 1) := by decide +kernel
theorem dX8_isBarred_27 : decode cX8_isBarred 27 = .ok (.invokevirtual 321, 3) := by decide +kernel
theorem dX8_isBarred_30 : decode cX8_isBarred 30 = .ok (.i2l, 1) := by decide +kernel
theorem dX8_isBarred_31 : decode cX8_isBarred 31 = .ok (.lastore, 1) := by decide +kernel
theorem dX8_isBarred_32 : decode cX8_isBarred 32 = .ok (.aload_n 0, 1) := by decide +kernel
theorem dX8_isBarred_33 : decode cX8_isBarred 33 = .ok (.getfield 39, 3) := by decide +kernel
theorem dX8_isBarred_36 : decode cX8_isBarred 36 = .ok (.iconst 2, 1) := by decide +kernel
theorem dX8_isBarred_37 : decode cX8_isBarred 37 = .ok (.aload_n 0, 1) := by decide +kernel
theorem dX8_isBarred_38 : decode cX8_isBarred 38 = .ok (.iload_n 3, 1) := by decide +kernel
theorem dX8_isBarred_39 : decode cX8_isBarred 39 = .ok (.invokevirtual 321, 3) := by decide +kernel
theorem dX8_isBarred_42 : decode cX8_isBarred 42 = .ok (.i2l, 1) := by decide +kernel
theorem dX8_isBarred_43 : decode cX8_isBarred 43 = .ok (.lastore, 1) := by decide +kernel
theorem dX8_isBarred_44 : decode cX8_isBarred 44 = .ok (.aload_n 0, 1) := by decide +kernel
theorem dX8_isBarred_45 : decode cX8_isBarred 45 = .ok (.getfield 39, 3) := by decide +kernel
theorem dX8_isBarred_48 : decode cX8_isBarred 48 = .ok (.iconst 3, 1) := by decide +kernel
theorem dX8_isBarred_49 : decode cX8_isBarred 49 = .ok (.aload_n 0, 1) := by decide +kernel
theorem dX8_isBarred_50 : decode cX8_isBarred 50 = .ok (.iload_n 2, 1) := by decide +kernel
theorem dX8_isBarred_51 : decode cX8_isBarred 51 = .ok (.iload_n 3, 1) := by decide +kernel
theorem dX8_isBarred_52 : decode cX8_isBarred 52 = .ok (.invokevirtual 327, 3) := by decide +kernel
theorem dX8_isBarred_55 : decode cX8_isBarred 55 = .ok (.i2l, 1) := by decide +kernel
theorem dX8_isBarred_56 : decode cX8_isBarred 56 = .ok (.lastore, 1) := by decide +kernel
theorem dX8_isBarred_57 : decode cX8_isBarred 57 = .ok (.aload_n 0, 1) := by decide +kernel
theorem dX8_isBarred_58 : decode cX8_isBarred 58 = .ok (.getfield 39, 3) := by decide +kernel
theorem dX8_isBarred_61 : decode cX8_isBarred 61 = .ok (.iconst 4, 1) := by decide +kernel
theorem dX8_isBarred_62 : decode cX8_isBarred 62 = .ok (.aload_n 0, 1) := by decide +kernel
theorem dX8_isBarred_63 : decode cX8_isBarred 63 = .ok (.iload_n 1, 1) := by decide +kernel
theorem dX8_isBarred_64 : decode cX8_isBarred 64 = .ok (.invokevirtual 330, 3) := by decide +kernel
theorem dX8_isBarred_67 : decode cX8_isBarred 67 = .ok (.i2l, 1) := by decide +kernel
theorem dX8_isBarred_68 : decode cX8_isBarred 68 = .ok (.lastore, 1) := by decide +kernel
theorem dX8_isBarred_69 : decode cX8_isBarred 69 = .ok (.aload_n 0, 1) := by decide +kernel
theorem dX8_isBarred_70 : decode cX8_isBarred 70 = .ok (.getfield 39, 3) := by decide +kernel
theorem dX8_isBarred_73 : decode cX8_isBarred 73 = .ok (.iconst 5, 1) := by decide +kernel
theorem dX8_isBarred_74 : decode cX8_isBarred 74 = .ok (.aload_n 0, 1) := by decide +kernel
theorem dX8_isBarred_75 : decode cX8_isBarred 75 = .ok (.iload_n 1, 1) := by decide +kernel
theorem dX8_isBarred_76 : decode cX8_isBarred 76 = .ok (.iconst 1, 1) := by decide +kernel
theorem dX8_isBarred_77 : decode cX8_isBarred 77 = .ok (.iadd, 1) := by decide +kernel
theorem dX8_isBarred_78 : decode cX8_isBarred 78 = .ok (.invokevirtual 330, 3) := by decide +kernel
theorem dX8_isBarred_81 : decode cX8_isBarred 81 = .ok (.i2l, 1) := by decide +kernel
theorem dX8_isBarred_82 : decode cX8_isBarred 82 = .ok (.lastore, 1) := by decide +kernel
theorem dX8_isBarred_83 : decode cX8_isBarred 83 = .ok (.aload_n 0, 1) := by decide +kernel
theorem dX8_isBarred_84 : decode cX8_isBarred 84 = .ok (.getfield 39, 3) := by decide +kernel
theorem dX8_isBarred_87 : decode cX8_isBarred 87 = .ok (.bipush 6, 2) := by decide +kernel
