theorem dX8_isBarred_89 : decode cX8_isBarred 89 = .ok (.aload_n 0, 1) := by decide +kernel
theorem dX8_isBarred_90 : decode cX8_isBarred 90 = .ok (.iload_n 1, 1) := by decide +kernel
theorem dX8_isBarred_91 : decode cX8_isBarred 91 = .ok (.invokevirtual 310, 3) := by decide +kernel
theorem dX8_isBarred_94 : decode cX8_isBarred 94 = .ok (.invokestatic 333, 3) := by decide +kernel
theorem dX8_isBarred_97 : decode cX8_isBarred 97 = .ok (.i2l, 1) := by decide +kernel
theorem dX8_isBarred_98 : decode cX8_isBarred 98 = .ok (.lastore, 1) := by decide +kernel
theorem dX8_isBarred_99 : decode cX8_isBarred 99 = .ok (.aload_n 0, 1) := by decide +kernel
theorem dX8_isBarred_100 : decode cX8_isBarred 100 = .ok (.getfield 39, 3) := by decide +kernel
theorem dX8_isBarred_103 : decode cX8_isBarred 103 = .ok (.bipush 7, 2) := by decide +kernel
theorem dX8_isBarred_105 : decode cX8_isBarred 105 = .ok (.aload_n 0, 1) := by decide +kernel
theorem dX8_isBarred_106 : decode cX8_isBarred 106 = .ok (.iload_n 1, 1) := by decide +kernel
theorem dX8_isBarred_107 : decode cX8_isBarred 107 = .ok (.iconst 1, 1) := by decide +kernel
theorem dX8_isBarred_108 : decode cX8_isBarred 108 = .ok (.iadd, 1) := by decide +kernel
theorem dX8_isBarred_109 : decode cX8_isBarred 109 = .ok (.invokevirtual 310, 3) := by decide +kernel
theorem dX8_isBarred_112 : decode cX8_isBarred 112 = .ok (.invokestatic 333, 3) := by decide +kernel
theorem dX8_isBarred_115 : decode cX8_isBarred 115 = .ok (.i2l, 1) := by decide +kernel
theorem dX8_isBarred_116 : decode cX8_isBarred 116 = .ok (.lastore, 1) := by decide +kernel
theorem dX8_isBarred_117 : decode cX8_isBarred 117 = .ok (.aload_n 0, 1) := by decide +kernel
theorem dX8_isBarred_118 : decode cX8_isBarred 118 = .ok (.getfield 39, 3) := by decide +kernel
theorem dX8_isBarred_121 : decode cX8_isBarred 121 = .ok (.bipush 8, 2) := by decide +kernel
theorem dX8_isBarred_123 : decode cX8_isBarred 123 = .ok (.aload_n 0, 1) := by decide +kernel
theorem dX8_isBarred_124 : decode cX8_isBarred 124 = .ok (.iload_n 2, 1) := by decide +kernel
theorem dX8_isBarred_125 : decode cX8_isBarred 125 = .ok (.invokevirtual 324, 3) := by decide +kernel
theorem dX8_isBarred_128 : decode cX8_isBarred 128 = .ok (.aload_n 0, 1) := by decide +kernel
theorem dX8_isBarred_129 : decode cX8_isBarred 129 = .ok (.iload_n 3, 1) := by decide +kernel
theorem dX8_isBarred_130 : decode cX8_isBarred 130 = .ok (.invokevirtual 324, 3) := by decide +kernel
theorem dX8_isBarred_133 : decode cX8_isBarred 133 = .ok (.iadd, 1) := by decide +kernel
theorem dX8_isBarred_134 : decode cX8_isBarred 134 = .ok (.i2l, 1) := by decide +kernel
theorem dX8_isBarred_135 : decode cX8_isBarred 135 = .ok (.lastore, 1) := by decide +kernel
theorem dX8_isBarred_136 : decode cX8_isBarred 136 = .ok (.aload_n 0, 1) := by decide +kernel
theorem dX8_isBarred_137 : decode cX8_isBarred 137 = .ok (.getfield 39, 3) := by decide +kernel
theorem dX8_isBarred_140 : decode cX8_isBarred 140 = .ok (.bipush 9, 2) := by decide +kernel
theorem dX8_isBarred_142 : decode cX8_isBarred 142 = .ok (.aload_n 0, 1) := by decide +kernel
theorem dX8_isBarred_143 : decode cX8_isBarred 143 = .ok (.getfield 42, 3) := by decide +kernel
theorem dX8_isBarred_146 : decode cX8_isBarred 146 = .ok (.iconst 3, 1) := by decide +kernel
theorem dX8_isBarred_147 : decode cX8_isBarred 147 = .ok (.iaload, 1) := by decide +kernel
theorem dX8_isBarred_148 : decode cX8_isBarred 148 = .ok (.i2l, 1) := by decide +kernel
theorem dX8_isBarred_149 : decode cX8_isBarred 149 = .ok (.lastore, 1) := by decide +kernel
theorem dX8_isBarred_150 : decode cX8_isBarred 150 = .ok (.iconst 0, 1) := by decide +kernel
theorem dX8_isBarred_151 : decode cX8_isBarred 151 = .ok (.istore 4, 2) := by decide +kernel
theorem dX8_isBarred_153 : decode cX8_isBarred 153 = .ok (.iload 4, 2) := by decide +kernel
theorem dX8_isBarred_155 : decode cX8_isBarred 155 = .ok (.aload_n 0, 1) := by decide +kernel
theorem dX8_isBarred_156 : decode cX8_isBarred 156 = .ok (.getfield 23, 3) := by decide +kernel
theorem dX8_isBarred_159 : decode cX8_isBarred 159 = .ok (.aload_n 0, 1) := by decide +kernel
theorem dX8_isBarred_160 : decode cX8_isBarred 160 = .ok (.getfield 42, 3) := by decide +kernel
theorem dX8_isBarred_163 : decode cX8_isBarred 163 = .ok (.bipush 8, 2) := by decide +kernel
theorem dX8_isBarred_165 : decode cX8_isBarred 165 = .ok (.iaload, 1) := by decide +kernel
theorem dX8_isBarred_166 : decode cX8_isBarred 166 = .ok (.iaload, 1) := by decide +kernel
theorem dX8_isBarred_167 : decode cX8_isBarred 167 = .ok (.if_icmp .ge 60, 3) := by decide +kernel
theorem dX8_isBarred_170 : decode cX8_isBarred 170 = .ok (.bipush 24, 2) := by decide +kernel
theorem dX8_isBarred_172 : decode cX8_isBarred 172 = .ok (.aload_n 0, 1) := by decide +kernel
theorem dX8_isBarred_173 : decode cX8_isBarred 173 = .ok (.getfield 42, 3) := by decide +kernel
theorem dX8_isBarred_176 : decode cX8_isBarred 176 = .ok (.bipush 8, 2) := by decide +kernel
theorem dX8_isBarred_178 : decode cX8_isBarred 178 = .ok (.iaload, 1) := by decide +kernel
theorem dX8_isBarred_179 : decode cX8_isBarred 179 = .ok (.imul, 1) := by decide +kernel
theorem dX8_isBarred_180 : decode cX8_isBarred 180 = .ok (.iconst 2, 1) := by decide +kernel
theorem dX8_isBarred_181 : decode cX8_isBarred 181 = .ok (.iload 4, 2) := by decide +kernel
theorem dX8_isBarred_183 : decode cX8_isBarred 183 = .ok (.imul, 1) := by decide +kernel
theorem dX8_isBarred_184 : decode cX8_isBarred 184 = .ok (.iadd, 1) := by decide +kernel
theorem dX8_isBarred_185 : decode cX8_isBarred 185 = .ok (.istore 5, 2) := by decide +kernel
theorem dX8_isBarred_187 : decode cX8_isBarred 187 = .ok (.aload_n 0, 1) := by decide +kernel
theorem dX8_isBarred_188 : decode cX8_isBarred 188 = .ok (.aload_n 0, 1) := by decide +kernel
theorem dX8_isBarred_189 : decode cX8_isBarred 189 = .ok (.getfield 42, 3) := by decide +kernel
theorem dX8_isBarred_192 : decode cX8_isBarred 192 = .ok (.bipush 8, 2) := by decide +kernel
theorem dX8_isBarred_194 : decode cX8_isBarred 194 = .ok (.iaload, 1) := by decide +kernel
theorem dX8_isBarred_195 : decode cX8_isBarred 195 = .ok (.aload_n 0, 1) := by decide +kernel
theorem dX8_isBarred_196 : decode cX8_isBarred 196 = .ok (.getfield 20, 3) := by decide +kernel
theorem dX8_isBarred_199 : decode cX8_isBarred 199 = .ok (.iload 5, 2) := by decide +kernel
theorem dX8_isBarred_201 : decode cX8_isBarred 201 = .ok (.iaload, 1) := by decide +kernel
theorem dX8_isBarred_202 : decode cX8_isBarred 202 = .ok (.aload_n 0, 1) := by decide +kernel
theorem dX8_isBarred_203 : decode cX8_isBarred 203 = .ok (.getfield 20, 3) := by decide +kernel
theorem dX8_isBarred_206 : decode cX8_isBarred 206 = .ok (.iload 5, 2) := by decide +kernel
theorem dX8_isBarred_208 : decode cX8_isBarred 208 = .ok (.iconst 1, 1) := by decide +kernel
theorem dX8_isBarred_209 : decode cX8_isBarred 209 = .ok (.iadd, 1) := by decide +kernel
theorem dX8_isBarred_210 : decode cX8_isBarred 210 = .ok (.iaload, 1) := by decide +kernel
theorem dX8_isBarred_211 : decode cX8_isBarred 211 = .ok (.invokevirtual 336, 3) := by decide +kernel
theorem dX8_isBarred_214 : decode cX8_isBarred 214 = .ok (.lconst 1, 1) := by decide +kernel
theorem dX8_isBarred_215 : decode cX8_isBarred 215 = .ok (.lcmp, 1) := by decide +kernel
theorem dX8_isBarred_216 : decode cX8_isBarred 216 = .ok (.ifCond .ne 5, 3) := by decide +kernel
theorem dX8_isBarred_219 : decode cX8_isBarred 219 = .ok (.iconst 1, 1) := by decide +kernel
theorem dX8_isBarred_220 : decode cX8_isBarred 220 = .ok (.ireturn, 1) := by decide +kernel
theorem dX8_isBarred_221 : decode cX8_isBarred 221 = .ok (.iinc 4 1, 3) := by decide +kernel
theorem dX8_isBarred_224 : decode cX8_isBarred 224 = .ok (.goto (-71), 3) := by decide +kernel
theorem dX8_isBarred_227 : decode cX8_isBarred 227 = .ok (.iconst 0, 1) := by decide +kernel
theorem dX8_isBarred_228 : decode cX8_isBarred 228 = .ok (.ireturn, 1) := by decide +kernel
theorem dX8_broken_0 : decode cX8_broken 0 = .ok (.aload_n 0, 1) := by decide +kernel
theorem dX8_broken_1 : decode cX8_broken 1 = .ok (.getfield 42, 3) := by decide +kernel
theorem dX8_broken_4 : decode cX8_broken 4 = .ok (.iconst 5, 1) := by decide +kernel
theorem dX8_broken_5 : decode cX8_broken 5 = .ok (.iaload, 1) := by decide +kernel
theorem dX8_broken_6 : decode cX8_broken 6 = .ok (.iload_n 1, 1) := by decide +kernel
theorem dX8_broken_7 : decode cX8_broken 7 = .ok (.invokestatic 316, 3) := by decide +kernel
theorem dX8_broken_10 : decode cX8_broken 10 = .ok (.ifCond .eq 5, 3) := by decide +kernel
theorem dX8_broken_13 : decode cX8_broken 13 = .ok (.iconst 1, 1) := by decide +kernel
theorem dX8_broken_14 : decode cX8_broken 14 = .ok (.ireturn, 1) := by decide +kernel
theorem dX8_broken_15 : decode cX8_broken 15 = .ok (.aload_n 0, 1) := by decide +kernel
theorem dX8_broken_16 : decode cX8_broken 16 = .ok (.iload_n 2, 1) := by decide +kernel
theorem dX8_broken_17 : decode cX8_broken 17 = .ok (.iload_n 1, 1) := by decide +kernel
theorem dX8_broken_18 : decode cX8_broken 18 = .ok (.iconst 0, 1) := by decide +kernel
theorem dX8_broken_19 : decode cX8_broken 19 = .ok (.invokevirtual 340, 3) := by decide +kernel
theorem dX8_broken_22 : decode cX8_broken 22 = .ok (.ifCond .eq 15, 3) := by decide +kernel
theorem dX8_broken_25 : decode cX8_broken 25 = .ok (.aload_n 0, 1) := by decide +kernel
theorem dX8_broken_26 : decode cX8_broken 26 = .ok (.iload_n 3, 1) := by decide +kernel
theorem dX8_broken_27 : decode cX8_broken 27 = .ok (.iload_n 1, 1) := by decide +kernel
theorem dX8_broken_28 : decode cX8_broken 28 = .ok (.iconst 1, 1) := by decide +kernel
theorem dX8_broken_29 : decode cX8_broken 29 = .ok (.iadd, 1) := by decide +kernel
theorem dX8_broken_30 : decode cX8_broken 30 = .ok (.iconst 1, 1) := by decide +kernel
theorem dX8_broken_31 : decode cX8_broken 31 = .ok (.invokevirtual 340, 3) := by decide +kernel
theorem dX8_broken_34 : decode cX8_broken 34 = .ok (.ifCond .ne 5, 3) := by decide +kernel
theorem dX8_broken_37 : decode cX8_broken 37 = .ok (.iconst 2, 1) := by decide +kernel
theorem dX8_broken_38 : decode cX8_broken 38 = .ok (.ireturn, 1) := by decide +kernel
theorem dX8_broken_39 : decode cX8_broken 39 = .ok (.iload_n 3, 1) := by decide +kernel
theorem dX8_broken_40 : decode cX8_broken 40 = .ok (.ifCond .ge 7, 3) := by decide +kernel
theorem dX8_broken_43 : decode cX8_broken 43 = .ok (.iconst 0, 1) := by decide +kernel
theorem dX8_broken_44 : decode cX8_broken 44 = .ok (.goto 4, 3) := by decide +kernel
theorem dX8_broken_47 : decode cX8_broken 47 = .ok (.iconst 1, 1) := by decide +kernel
theorem dX8_broken_48 : decode cX8_broken 48 = .ok (.iload_n 2, 1) := by decide +kernel
theorem dX8_broken_49 : decode cX8_broken 49 = .ok (.ifCond .ge 7, 3) := by decide +kernel
theorem dX8_broken_52 : decode cX8_broken 52 = .ok (.iconst 0, 1) := by decide +kernel
theorem dX8_broken_53 : decode cX8_broken 53 = .ok (.goto 4, 3) := by decide +kernel
theorem dX8_broken_56 : decode cX8_broken 56 = .ok (.iconst 1, 1) := by decide +kernel
theorem dX8_broken_57 : decode cX8_broken 57 = .ok (.isub, 1) := by decide +kernel
theorem dX8_broken_58 : decode cX8_broken 58 = .ok (.istore 4, 2) := by decide +kernel
theorem dX8_broken_60 : decode cX8_broken 60 = .ok (.aload_n 0, 1) := by decide +kernel
theorem dX8_broken_61 : decode cX8_broken 61 = .ok (.iload_n 1, 1) := by decide +kernel
theorem dX8_broken_62 : decode cX8_broken 62 = .ok (.aload_n 0, 1) := by decide +kernel
theorem dX8_broken_63 : decode cX8_broken 63 = .ok (.iload_n 1, 1) := by decide +kernel
theorem dX8_broken_64 : decode cX8_broken 64 = .ok (.invokevirtual 310, 3) := by decide +kernel
theorem dX8_broken_67 : decode cX8_broken 67 = .ok (.invokestatic 333, 3) := by decide +kernel
theorem dX8_broken_70 : decode cX8_broken 70 = .ok (.iload 4, 2) := by decide +kernel
theorem dX8_broken_72 : decode cX8_broken 72 = .ok (.iadd, 1) := by decide +kernel
theorem dX8_broken_73 : decode cX8_broken 73 = .ok (.invokevirtual 344, 3) := by decide +kernel
theorem dX8_broken_76 : decode cX8_broken 76 = .ok (.ifCond .eq 26, 3) := by decide +kernel
theorem dX8_broken_79 : decode cX8_broken 79 = .ok (.aload_n 0, 1) := by decide +kernel
theorem dX8_broken_80 : decode cX8_broken 80 = .ok (.iload_n 1, 1) := by decide +kernel
theorem dX8_broken_81 : decode cX8_broken 81 = .ok (.iconst 1, 1) := by decide +kernel
theorem dX8_broken_82 : decode cX8_broken 82 = .ok (.iadd, 1) := by decide +kernel
theorem dX8_broken_83 : decode cX8_broken 83 = .ok (.aload_n 0, 1) := by decide +kernel
theorem dX8_broken_84 : decode cX8_broken 84 = .ok (.iload_n 1, 1) := by decide +kernel
theorem dX8_broken_85 : decode cX8_broken 85 = .ok (.iconst 1, 1) := by decide +kernel
theorem dX8_broken_86 : decode cX8_broken 86 = .ok (.iadd, 1) := by decide +kernel
theorem dX8_broken_87 : decode cX8_broken 87 = .ok (.invokevirtual 310, 3) := by decide +kernel
theorem dX8_broken_90 : decode cX8_broken 90 = .ok (.invokestatic 333, 3) := by decide +kernel
theorem dX8_broken_93 : decode cX8_broken 93 = .ok (.iload 4, 2) := by decide +kernel
theorem dX8_broken_95 : decode cX8_broken 95 = .ok (.isub, 1) := by decide +kernel
theorem dX8_broken_96 : decode cX8_broken 96 = .ok (.invokevirtual 344, 3) := by decide +kernel
theorem dX8_broken_99 : decode cX8_broken 99 = .ok (.ifCond .ne 5, 3) := by decide +kernel
theorem dX8_broken_102 : decode cX8_broken 102 = .ok (.iconst 3, 1) := by decide +kernel
theorem dX8_broken_103 : decode cX8_broken 103 = .ok (.ireturn, 1) := by decide +kernel
theorem dX8_broken_104 : decode cX8_broken 104 = .ok (.aload_n 0, 1) := by decide +kernel
theorem dX8_broken_105 : decode cX8_broken 105 = .ok (.iload_n 1, 1) := by decide +kernel
theorem dX8_broken_106 : decode cX8_broken 106 = .ok (.invokevirtual 330, 3) := by decide +kernel
theorem dX8_broken_109 : decode cX8_broken 109 = .ok (.aload_n 0, 1) := by decide +kernel
theorem dX8_broken_110 : decode cX8_broken 110 = .ok (.iload_n 2, 1) := by decide +kernel
theorem dX8_broken_111 : decode cX8_broken 111 = .ok (.iload_n 3, 1) := by decide +kernel
theorem dX8_broken_112 : decode cX8_broken 112 = .ok (.invokevirtual 327, 3) := by decide +kernel
theorem dX8_broken_115 : decode cX8_broken 115 = .ok (.if_icmp .ge 5, 3) := by decide +kernel
theorem dX8_broken_118 : decode cX8_broken 118 = .ok (.iconst 4, 1) := by decide +kernel
theorem dX8_broken_119 : decode cX8_broken 119 = .ok (.ireturn, 1) := by decide +kernel
theorem dX8_broken_120 : decode cX8_broken 120 = .ok (.aload_n 0, 1) := by decide +kernel
theorem dX8_broken_121 : decode cX8_broken 121 = .ok (.iload_n 1, 1) := by decide +kernel
theorem dX8_broken_122 : decode cX8_broken 122 = .ok (.iload_n 2, 1) := by decide +kernel
theorem dX8_broken_123 : decode cX8_broken 123 = .ok (.iload_n 3, 1) := by decide +kernel
theorem dX8_broken_124 : decode cX8_broken 124 = .ok (.invokevirtual 347, 3) := by decide +kernel
theorem dX8_broken_127 : decode cX8_broken 127 = .ok (.ifCond .eq 7, 3) := by decide +kernel
theorem dX8_broken_130 : decode cX8_broken 130 = .ok (.iconst 5, 1) := by decide +kernel
theorem dX8_broken_131 : decode cX8_broken 131 = .ok (.goto 4, 3) := by decide +kernel
theorem dX8_broken_134 : decode cX8_broken 134 = .ok (.iconst 0, 1) := by decide +kernel
theorem dX8_broken_135 : decode cX8_broken 135 = .ok (.ireturn, 1) := by decide +kernel
theorem dX8_counted_0 : decode cX8_counted 0 = .ok (.aload_n 0, 1) := by decide +kernel
theorem dX8_counted_1 : decode cX8_counted 1 = .ok (.iload_n 1, 1) := by decide +kernel
theorem dX8_counted_2 : decode cX8_counted 2 = .ok (.invokevirtual 324, 3) := by decide +kernel
theorem dX8_counted_5 : decode cX8_counted 5 = .ok (.aload_n 0, 1) := by decide +kernel
theorem dX8_counted_6 : decode cX8_counted 6 = .ok (.iload_n 2, 1) := by decide +kernel
theorem dX8_counted_7 : decode cX8_counted 7 = .ok (.invokevirtual 324, 3) := by decide +kernel
theorem dX8_counted_10 : decode cX8_counted 10 = .ok (.iadd, 1) := by decide +kernel
theorem dX8_counted_11 : decode cX8_counted 11 = .ok (.ifCond .le 7, 3) := by decide +kernel
theorem dX8_counted_14 : decode cX8_counted 14 = .ok (.iconst 2, 1) := by decide +kernel
theorem dX8_counted_15 : decode cX8_counted 15 = .ok (.goto 4, 3) := by decide +kernel
theorem dX8_counted_18 : decode cX8_counted 18 = .ok (.iconst 1, 1) := by decide +kernel
theorem dX8_counted_19 : decode cX8_counted 19 = .ok (.ireturn, 1) := by decide +kernel
theorem dX8_does_0 : decode cX8_does 0 = .ok (.aload_n 0, 1) := by decide +kernel
theorem dX8_does_1 : decode cX8_does 1 = .ok (.iload_n 2, 1) := by decide +kernel
theorem dX8_does_2 : decode cX8_does 2 = .ok (.iload_n 3, 1) := by decide +kernel
theorem dX8_does_3 : decode cX8_does 3 = .ok (.invokevirtual 327, 3) := by decide +kernel
theorem dX8_does_6 : decode cX8_does 6 = .ok (.istore 4, 2) := by decide +kernel
theorem dX8_does_8 : decode cX8_does 8 = .ok (.aload_n 0, 1) := by decide +kernel
theorem dX8_does_9 : decode cX8_does 9 = .ok (.getfield 42, 3) := by decide +kernel
theorem dX8_does_12 : decode cX8_does 12 = .ok (.bipush 9, 2) := by decide +kernel
theorem dX8_does_14 : decode cX8_does 14 = .ok (.iconst 2, 1) := by decide +kernel
theorem dX8_does_15 : decode cX8_does 15 = .ok (.iload_n 1, 1) := by decide +kernel
theorem dX8_does_16 : decode cX8_does 16 = .ok (.imul, 1) := by decide +kernel
theorem dX8_does_17 : decode cX8_does 17 = .ok (.iadd, 1) := by decide +kernel
theorem dX8_does_18 : decode cX8_does 18 = .ok (.dup2, 1) := by decide +kernel
theorem dX8_does_19 : decode cX8_does 19 = .ok (.iaload, 1) := by decide +kernel
theorem dX8_does_20 : decode cX8_does 20 = .ok (.iload 4, 2) := by decide +kernel
theorem dX8_does_22 : decode cX8_does 22 = .ok (.isub, 1) := by decide +kernel
theorem dX8_does_23 : decode cX8_does 23 = .ok (.iastore, 1) := by decide +kernel
theorem dX8_does_24 : decode cX8_does 24 = .ok (.aload_n 0, 1) := by decide +kernel
theorem dX8_does_25 : decode cX8_does 25 = .ok (.getfield 42, 3) := by decide +kernel
theorem dX8_does_28 : decode cX8_does 28 = .ok (.bipush 9, 2) := by decide +kernel
theorem dX8_does_30 : decode cX8_does 30 = .ok (.iconst 2, 1) := by decide +kernel
theorem dX8_does_31 : decode cX8_does 31 = .ok (.iload_n 1, 1) := by decide +kernel
theorem dX8_does_32 : decode cX8_does 32 = .ok (.imul, 1) := by decide +kernel
theorem dX8_does_33 : decode cX8_does 33 = .ok (.iadd, 1) := by decide +kernel
theorem dX8_does_34 : decode cX8_does 34 = .ok (.iconst 2, 1) := by decide +kernel
theorem dX8_does_35 : decode cX8_does 35 = .ok (.iadd, 1) := by decide +kernel
theorem dX8_does_36 : decode cX8_does 36 = .ok (.dup2, 1) := by decide +kernel
theorem dX8_does_37 : decode cX8_does 37 = .ok (.iaload, 1) := by decide +kernel
theorem dX8_does_38 : decode cX8_does 38 = .ok (.iload 4, 2) := by decide +kernel
theorem dX8_does_40 : decode cX8_does 40 = .ok (.iadd, 1) := by decide +kernel
theorem dX8_does_41 : decode cX8_does 41 = .ok (.iastore, 1) := by decide +kernel
theorem dX8_does_42 : decode cX8_does 42 = .ok (.aload_n 0, 1) := by decide +kernel
theorem dX8_does_43 : decode cX8_does 43 = .ok (.getfield 42, 3) := by decide +kernel
theorem dX8_does_46 : decode cX8_does 46 = .ok (.iconst 4, 1) := by decide +kernel
theorem dX8_does_47 : decode cX8_does 47 = .ok (.dup2, 1) := by decide +kernel
theorem dX8_does_48 : decode cX8_does 48 = .ok (.iaload, 1) := by decide +kernel
theorem dX8_does_49 : decode cX8_does 49 = .ok (.iload 4, 2) := by decide +kernel
theorem dX8_does_51 : decode cX8_does 51 = .ok (.iadd, 1) := by decide +kernel
theorem dX8_does_52 : decode cX8_does 52 = .ok (.iastore, 1) := by decide +kernel
theorem dX8_does_53 : decode cX8_does 53 = .ok (.aload_n 0, 1) := by decide +kernel
theorem dX8_does_54 : decode cX8_does 54 = .ok (.getfield 42, 3) := by decide +kernel
theorem dX8_does_57 : decode cX8_does 57 = .ok (.iconst 3, 1) := by decide +kernel
theorem dX8_does_58 : decode cX8_does 58 = .ok (.dup2, 1) := by decide +kernel
theorem dX8_does_59 : decode cX8_does 59 = .ok (.iaload, 1) := by decide +kernel
theorem dX8_does_60 : decode cX8_does 60 = .ok (.aload_n 0, 1) := by decide +kernel
theorem dX8_does_61 : decode cX8_does 61 = .ok (.iload_n 2, 1) := by decide +kernel
theorem dX8_does_62 : decode cX8_does 62 = .ok (.iload_n 3, 1) := by decide +kernel
theorem dX8_does_63 : decode cX8_does 63 = .ok (.invokevirtual 350, 3) := by decide +kernel
theorem dX8_does_66 : decode cX8_does 66 = .ok (.iadd, 1) := by decide +kernel
theorem dX8_does_67 : decode cX8_does 67 = .ok (.iastore, 1) := by decide +kernel
theorem dX8_does_68 : decode cX8_does 68 = .ok (.iload_n 2, 1) := by decide +kernel
theorem dX8_does_69 : decode cX8_does 69 = .ok (.ifCond .lt 19, 3) := by decide +kernel
theorem dX8_does_72 : decode cX8_does 72 = .ok (.aload_n 0, 1) := by decide +kernel
theorem dX8_does_73 : decode cX8_does 73 = .ok (.getfield 42, 3) := by decide +kernel
theorem dX8_does_76 : decode cX8_does 76 = .ok (.bipush 25, 2) := by decide +kernel
theorem dX8_does_78 : decode cX8_does 78 = .ok (.iconst 5, 1) := by decide +kernel
theorem dX8_does_79 : decode cX8_does 79 = .ok (.iload_n 2, 1) := by decide +kernel
theorem dX8_does_80 : decode cX8_does 80 = .ok (.imul, 1) := by decide +kernel
theorem dX8_does_81 : decode cX8_does 81 = .ok (.iadd, 1) := by decide +kernel
theorem dX8_does_82 : decode cX8_does 82 = .ok (.iconst 4, 1) := by decide +kernel
theorem dX8_does_83 : decode cX8_does 83 = .ok (.iadd, 1) := by decide +kernel
theorem dX8_does_84 : decode cX8_does 84 = .ok (.iload_n 1, 1) := by decide +kernel
theorem dX8_does_85 : decode cX8_does 85 = .ok (.iconst 1, 1) := by decide +kernel
theorem dX8_does_86 : decode cX8_does 86 = .ok (.iadd, 1) := by decide +kernel
theorem dX8_does_87 : decode cX8_does 87 = .ok (.iastore, 1) := by decide +kernel
theorem dX8_does_88 : decode cX8_does 88 = .ok (.iload_n 3, 1) := by decide +kernel
theorem dX8_does_89 : decode cX8_does 89 = .ok (.ifCond .lt 17, 3) := by decide +kernel
theorem dX8_does_92 : decode cX8_does 92 = .ok (.aload_n 0, 1) := by decide +kernel
theorem dX8_does_93 : decode cX8_does 93 = .ok (.getfield 42, 3) := by decide +kernel
theorem dX8_does_96 : decode cX8_does 96 = .ok (.bipush 25, 2) := by decide +kernel
theorem dX8_does_98 : decode cX8_does 98 = .ok (.iconst 5, 1) := by decide +kernel
theorem dX8_does_99 : decode cX8_does 99 = .ok (.iload_n 3, 1) := by decide +kernel
theorem dX8_does_100 : decode cX8_does 100 = .ok (.imul, 1) := by decide +kernel
theorem dX8_does_101 : decode cX8_does 101 = .ok (.iadd, 1) := by decide +kernel
theorem dX8_does_102 : decode cX8_does 102 = .ok (.iconst 4, 1) := by decide +kernel
theorem dX8_does_103 : decode cX8_does 103 = .ok (.iadd, 1) := by decide +kernel
theorem dX8_does_104 : decode cX8_does 104 = .ok (.iload_n 1, 1) := by decide +kernel
theorem dX8_does_105 : decode cX8_does 105 = .ok (.iastore, 1) := by decide +kernel
theorem dX8_does_106 : decode cX8_does 106 = .ok (.iload 4, 2) := by decide +kernel
theorem dX8_does_108 : decode cX8_does 108 = .ok (.ireturn, 1) := by decide +kernel
theorem dX8_isTip_0 : decode cX8_isTip 0 = .ok (.aload_n 0, 1) := by decide +kernel
theorem dX8_isTip_1 : decode cX8_isTip 1 = .ok (.iload_n 1, 1) := by decide +kernel
theorem dX8_isTip_2 : decode cX8_isTip 2 = .ok (.invokevirtual 313, 3) := by decide +kernel
theorem dX8_isTip_5 : decode cX8_isTip 5 = .ok (.ifCond .eq 31, 3) := by decide +kernel
theorem dX8_isTip_8 : decode cX8_isTip 8 = .ok (.aload_n 0, 1) := by decide +kernel
theorem dX8_isTip_9 : decode cX8_isTip 9 = .ok (.iload_n 2, 1) := by decide +kernel
theorem dX8_isTip_10 : decode cX8_isTip 10 = .ok (.invokevirtual 353, 3) := by decide +kernel
theorem dX8_isTip_13 : decode cX8_isTip 13 = .ok (.ifCond .eq 23, 3) := by decide +kernel
theorem dX8_isTip_16 : decode cX8_isTip 16 = .ok (.aload_n 0, 1) := by decide +kernel
theorem dX8_isTip_17 : decode cX8_isTip 17 = .ok (.iload_n 3, 1) := by decide +kernel
theorem dX8_isTip_18 : decode cX8_isTip 18 = .ok (.invokevirtual 353, 3) := by decide +kernel
theorem dX8_isTip_21 : decode cX8_isTip 21 = .ok (.ifCond .eq 15, 3) := by decide +kernel
theorem dX8_isTip_24 : decode cX8_isTip 24 = .ok (.iload_n 2, 1) := by decide +kernel
theorem dX8_isTip_25 : decode cX8_isTip 25 = .ok (.ifCond .ge 7, 3) := by decide +kernel
theorem dX8_isTip_28 : decode cX8_isTip 28 = .ok (.iload_n 3, 1) := by decide +kernel
theorem dX8_isTip_29 : decode cX8_isTip 29 = .ok (.ifCond .lt 7, 3) := by decide +kernel
theorem dX8_isTip_32 : decode cX8_isTip 32 = .ok (.iconst 1, 1) := by decide +kernel
theorem dX8_isTip_33 : decode cX8_isTip 33 = .ok (.goto 4, 3) := by decide +kernel
theorem dX8_isTip_36 : decode cX8_isTip 36 = .ok (.iconst 0, 1) := by decide +kernel
theorem dX8_isTip_37 : decode cX8_isTip 37 = .ok (.ireturn, 1) := by decide +kernel
theorem dX8_may_0 : decode cX8_may 0 = .ok (.aload_n 0, 1) := by decide +kernel
theorem dX8_may_1 : decode cX8_may 1 = .ok (.iload_n 1, 1) := by decide +kernel
theorem dX8_may_2 : decode cX8_may 2 = .ok (.iload_n 2, 1) := by decide +kernel
theorem dX8_may_3 : decode cX8_may 3 = .ok (.iload_n 3, 1) := by decide +kernel
theorem dX8_may_4 : decode cX8_may 4 = .ok (.invokevirtual 356, 3) := by decide +kernel
theorem dX8_may_7 : decode cX8_may 7 = .ok (.ifCond .ne 5, 3) := by decide +kernel
theorem dX8_may_10 : decode cX8_may 10 = .ok (.iconst (-1), 1) := by decide +kernel
theorem dX8_may_11 : decode cX8_may 11 = .ok (.ireturn, 1) := by decide +kernel
theorem dX8_may_12 : decode cX8_may 12 = .ok (.aload_n 0, 1) := by decide +kernel
theorem dX8_may_13 : decode cX8_may 13 = .ok (.iload_n 1, 1) := by decide +kernel
theorem dX8_may_14 : decode cX8_may 14 = .ok (.iload_n 2, 1) := by decide +kernel
theorem dX8_may_15 : decode cX8_may 15 = .ok (.iload_n 3, 1) := by decide +kernel
theorem dX8_may_16 : decode cX8_may 16 = .ok (.invokevirtual 359, 3) := by decide +kernel
theorem dX8_may_19 : decode cX8_may 19 = .ok (.istore 4, 2) := by decide +kernel
theorem dX8_may_21 : decode cX8_may 21 = .ok (.iload 4, 2) := by decide +kernel
theorem dX8_may_23 : decode cX8_may 23 = .ok (.ifCond .le 11, 3) := by decide +kernel
theorem dX8_may_26 : decode cX8_may 26 = .ok (.bipush (-2), 2) := by decide +kernel
theorem dX8_may_28 : decode cX8_may 28 = .ok (.iload 4, 2) := by decide +kernel
theorem dX8_may_30 : decode cX8_may 30 = .ok (.isub, 1) := by decide +kernel
theorem dX8_may_31 : decode cX8_may 31 = .ok (.goto 9, 3) := by decide +kernel
theorem dX8_may_34 : decode cX8_may 34 = .ok (.aload_n 0, 1) := by decide +kernel
theorem dX8_may_35 : decode cX8_may 35 = .ok (.iload_n 2, 1) := by decide +kernel
theorem dX8_may_36 : decode cX8_may 36 = .ok (.iload_n 3, 1) := by decide +kernel
theorem dX8_may_37 : decode cX8_may 37 = .ok (.invokevirtual 327, 3) := by decide +kernel
theorem dX8_may_40 : decode cX8_may 40 = .ok (.ireturn, 1) := by decide +kernel
theorem dX8_tip_0 : decode cX8_tip 0 = .ok (.aload_n 0, 1) := by decide +kernel
theorem dX8_tip_1 : decode cX8_tip 1 = .ok (.iload_n 1, 1) := by decide +kernel
theorem dX8_tip_2 : decode cX8_tip 2 = .ok (.iload_n 2, 1) := by decide +kernel
theorem dX8_tip_3 : decode cX8_tip 3 = .ok (.iload_n 3, 1) := by decide +kernel
theorem dX8_tip_4 : decode cX8_tip 4 = .ok (.invokevirtual 363, 3) := by decide +kernel
theorem dX8_tip_7 : decode cX8_tip 7 = .ok (.istore 4, 2) := by decide +kernel
theorem dX8_tip_9 : decode cX8_tip 9 = .ok (.iload 4, 2) := by decide +kernel
theorem dX8_tip_11 : decode cX8_tip 11 = .ok (.ifCond .ge 8, 3) := by decide +kernel
theorem dX8_tip_14 : decode cX8_tip 14 = .ok (.iload 4, 2) := by decide +kernel
theorem dX8_tip_16 : decode cX8_tip 16 = .ok (.goto 10, 3) := by decide +kernel
theorem dX8_tip_19 : decode cX8_tip 19 = .ok (.aload_n 0, 1) := by decide +kernel
theorem dX8_tip_20 : decode cX8_tip 20 = .ok (.iload_n 1, 1) := by decide +kernel
theorem dX8_tip_21 : decode cX8_tip 21 = .ok (.iload_n 2, 1) := by decide +kernel
theorem dX8_tip_22 : decode cX8_tip 22 = .ok (.iload_n 3, 1) := by decide +kernel
theorem dX8_tip_23 : decode cX8_tip 23 = .ok (.invokevirtual 366, 3) := by decide +kernel
theorem dX8_tip_26 : decode cX8_tip 26 = .ok (.ireturn, 1) := by decide +kernel
theorem dX8_rain_0 : decode cX8_rain 0 = .ok (.aload_n 0, 1) := by decide +kernel
theorem dX8_rain_1 : decode cX8_rain 1 = .ok (.iload_n 1, 1) := by decide +kernel
theorem dX8_rain_2 : decode cX8_rain 2 = .ok (.invokevirtual 305, 3) := by decide +kernel
theorem dX8_rain_5 : decode cX8_rain 5 = .ok (.ifCond .eq 15, 3) := by decide +kernel
theorem dX8_rain_8 : decode cX8_rain 8 = .ok (.iload_n 2, 1) := by decide +kernel
theorem dX8_rain_9 : decode cX8_rain 9 = .ok (.i2l, 1) := by decide +kernel
theorem dX8_rain_10 : decode cX8_rain 10 = .ok (.lconst 0, 1) := by decide +kernel
theorem dX8_rain_11 : decode cX8_rain 11 = .ok (.ldc2_w 369, 3) := by decide +kernel
theorem dX8_rain_14 : decode cX8_rain 14 = .ok (.invokestatic 127, 3) := by decide +kernel
theorem dX8_rain_17 : decode cX8_rain 17 = .ok (.ifCond .ne 5, 3) := by decide +kernel
theorem dX8_rain_20 : decode cX8_rain 20 = .ok (.iconst (-1), 1) := by decide +kernel
theorem dX8_rain_21 : decode cX8_rain 21 = .ok (.ireturn, 1) := by decide +kernel
theorem dX8_rain_22 : decode cX8_rain 22 = .ok (.aload_n 0, 1) := by decide +kernel
theorem dX8_rain_23 : decode cX8_rain 23 = .ok (.iload_n 1, 1) := by decide +kernel
theorem dX8_rain_24 : decode cX8_rain 24 = .ok (.invokevirtual 330, 3) := by decide +kernel
theorem dX8_rain_27 : decode cX8_rain 27 = .ok (.iload_n 2, 1) := by decide +kernel
theorem dX8_rain_28 : decode cX8_rain 28 = .ok (.iadd, 1) := by decide +kernel
theorem dX8_rain_29 : decode cX8_rain 29 = .ok (.istore_n 3, 1) := by decide +kernel
theorem dX8_rain_30 : decode cX8_rain 30 = .ok (.aload_n 0, 1) := by decide +kernel
theorem dX8_rain_31 : decode cX8_rain 31 = .ok (.iload_n 1, 1) := by decide +kernel
theorem dX8_rain_32 : decode cX8_rain 32 = .ok (.invokevirtual 330, 3) := by decide +kernel
theorem dX8_rain_35 : decode cX8_rain 35 = .ok (.sipush 9999, 3) := by decide +kernel
theorem dX8_rain_38 : decode cX8_rain 38 = .ok (.if_icmp .ge 28, 3) := by decide +kernel
theorem dX8_rain_41 : decode cX8_rain 41 = .ok (.aload_n 0, 1) := by decide +kernel
theorem dX8_rain_42 : decode cX8_rain 42 = .ok (.getfield 42, 3) := by decide +kernel
theorem dX8_rain_45 : decode cX8_rain 45 = .ok (.bipush 9, 2) := by decide +kernel
theorem dX8_rain_47 : decode cX8_rain 47 = .ok (.iconst 2, 1) := by decide +kernel
theorem dX8_rain_48 : decode cX8_rain 48 = .ok (.iload_n 1, 1) := by decide +kernel
theorem dX8_rain_49 : decode cX8_rain 49 = .ok (.imul, 1) := by decide +kernel
theorem dX8_rain_50 : decode cX8_rain 50 = .ok (.iadd, 1) := by decide +kernel
theorem dX8_rain_51 : decode cX8_rain 51 = .ok (.iload_n 3, 1) := by decide +kernel
theorem dX8_rain_52 : decode cX8_rain 52 = .ok (.sipush 9999, 3) := by decide +kernel
theorem dX8_rain_55 : decode cX8_rain 55 = .ok (.if_icmp .le 9, 3) := by decide +kernel
theorem dX8_rain_58 : decode cX8_rain 58 = .ok (.sipush 9999, 3) := by decide +kernel
theorem dX8_rain_61 : decode cX8_rain 61 = .ok (.goto 4, 3) := by decide +kernel
theorem dX8_rain_64 : decode cX8_rain 64 = .ok (.iload_n 3, 1) := by decide +kernel
theorem dX8_rain_65 : decode cX8_rain 65 = .ok (.iastore, 1) := by decide +kernel
theorem dX8_rain_66 : decode cX8_rain 66 = .ok (.aload_n 0, 1) := by decide +kernel
theorem dX8_rain_67 : decode cX8_rain 67 = .ok (.iload_n 1, 1) := by decide +kernel
theorem dX8_rain_68 : decode cX8_rain 68 = .ok (.invokevirtual 330, 3) := by decide +kernel
theorem dX8_rain_71 : decode cX8_rain 71 = .ok (.ireturn, 1) := by decide +kernel
theorem dX8_chain_0 : decode cX8_chain 0 = .ok (.aload_n 0, 1) := by decide +kernel
theorem dX8_chain_1 : decode cX8_chain 1 = .ok (.iload_n 1, 1) := by decide +kernel
theorem dX8_chain_2 : decode cX8_chain 2 = .ok (.invokevirtual 313, 3) := by decide +kernel
theorem dX8_chain_5 : decode cX8_chain 5 = .ok (.ifCond .eq 17, 3) := by decide +kernel
theorem dX8_chain_8 : decode cX8_chain 8 = .ok (.aload_n 0, 1) := by decide +kernel
theorem dX8_chain_9 : decode cX8_chain 9 = .ok (.getfield 42, 3) := by decide +kernel
theorem dX8_chain_12 : decode cX8_chain 12 = .ok (.iconst 5, 1) := by decide +kernel
theorem dX8_chain_13 : decode cX8_chain 13 = .ok (.iaload, 1) := by decide +kernel
theorem dX8_chain_14 : decode cX8_chain 14 = .ok (.iload_n 1, 1) := by decide +kernel
theorem dX8_chain_15 : decode cX8_chain 15 = .ok (.invokestatic 316, 3) := by decide +kernel
theorem dX8_chain_18 : decode cX8_chain 18 = .ok (.iload_n 2, 1) := by decide +kernel
theorem dX8_chain_19 : decode cX8_chain 19 = .ok (.if_icmp .eq 5, 3) := by decide +kernel
theorem dX8_chain_22 : decode cX8_chain 22 = .ok (.iconst 0, 1) := by decide +kernel
theorem dX8_chain_23 : decode cX8_chain 23 = .ok (.ireturn, 1) := by decide +kernel
theorem dX8_chain_24 : decode cX8_chain 24 = .ok (.aload_n 0, 1) := by decide +kernel
theorem dX8_chain_25 : decode cX8_chain 25 = .ok (.getfield 42, 3) := by decide +kernel
theorem dX8_chain_28 : decode cX8_chain 28 = .ok (.iconst 5, 1) := by decide +kernel
theorem dX8_chain_29 : decode cX8_chain 29 = .ok (.dup2, 1) := by decide +kernel
theorem dX8_chain_30 : decode cX8_chain 30 = .ok (.iaload, 1) := by decide +kernel
theorem dX8_chain_31 : decode cX8_chain 31 = .ok (.iconst 1, 1) := by decide +kernel
theorem dX8_chain_32 : decode cX8_chain 32 = .ok (.iload_n 1, 1) := by decide +kernel
theorem dX8_chain_33 : decode cX8_chain 33 = .ok (.ishl, 1) := by decide +kernel
theorem dX8_chain_34 : decode cX8_chain 34 = .ok (.ixor, 1) := by decide +kernel
theorem dX8_chain_35 : decode cX8_chain 35 = .ok (.iastore, 1) := by decide +kernel
theorem dX8_chain_36 : decode cX8_chain 36 = .ok (.iconst 1, 1) := by decide +kernel
theorem dX8_chain_37 : decode cX8_chain 37 = .ok (.ireturn, 1) := by decide +kernel
theorem dX8_tipMany_0 : decode cX8_tipMany 0 = .ok (.aload_n 0, 1) := by decide +kernel
theorem dX8_tipMany_1 : decode cX8_tipMany 1 = .ok (.getfield 42, 3) := by decide +kernel
theorem dX8_tipMany_4 : decode cX8_tipMany 4 = .ok (.iconst 0, 1) := by decide +kernel
theorem dX8_tipMany_5 : decode cX8_tipMany 5 = .ok (.iaload, 1) := by decide +kernel
theorem dX8_tipMany_6 : decode cX8_tipMany 6 = .ok (.ifCond .ne 7, 3) := by decide +kernel
theorem dX8_tipMany_9 : decode cX8_tipMany 9 = .ok (.iconst 0, 1) := by decide +kernel
theorem dX8_tipMany_10 : decode cX8_tipMany 10 = .ok (.goto 29, 3) := by decide +kernel
theorem dX8_tipMany_13 : decode cX8_tipMany 13 = .ok (.aload_n 0, 1) := by decide +kernel
theorem dX8_tipMany_14 : decode cX8_tipMany 14 = .ok (.getfield 42, 3) := by decide +kernel
theorem dX8_tipMany_17 : decode cX8_tipMany 17 = .ok (.iconst 0, 1) := by decide +kernel
theorem dX8_tipMany_18 : decode cX8_tipMany 18 = .ok (.iaload, 1) := by decide +kernel
theorem dX8_tipMany_19 : decode cX8_tipMany 19 = .ok (.iconst 1, 1) := by decide +kernel
theorem dX8_tipMany_20 : decode cX8_tipMany 20 = .ok (.isub, 1) := by decide +kernel
theorem dX8_tipMany_21 : decode cX8_tipMany 21 = .ok (.aload_n 0, 1) := by decide +kernel
theorem dX8_tipMany_22 : decode cX8_tipMany 22 = .ok (.getfield 42, 3) := by decide +kernel
theorem dX8_tipMany_25 : decode cX8_tipMany 25 = .ok (.iconst 1, 1) := by decide +kernel
theorem dX8_tipMany_26 : decode cX8_tipMany 26 = .ok (.iaload, 1) := by decide +kernel
theorem dX8_tipMany_27 : decode cX8_tipMany 27 = .ok (.iconst 1, 1) := by decide +kernel
theorem dX8_tipMany_28 : decode cX8_tipMany 28 = .ok (.iadd, 1) := by decide +kernel
theorem dX8_tipMany_29 : decode cX8_tipMany 29 = .ok (.imul, 1) := by decide +kernel
theorem dX8_tipMany_30 : decode cX8_tipMany 30 = .ok (.aload_n 0, 1) := by decide +kernel
theorem dX8_tipMany_31 : decode cX8_tipMany 31 = .ok (.getfield 42, 3) := by decide +kernel
theorem dX8_tipMany_34 : decode cX8_tipMany 34 = .ok (.iconst 1, 1) := by decide +kernel
theorem dX8_tipMany_35 : decode cX8_tipMany 35 = .ok (.iaload, 1) := by decide +kernel
theorem dX8_tipMany_36 : decode cX8_tipMany 36 = .ok (.iconst 1, 1) := by decide +kernel
theorem dX8_tipMany_37 : decode cX8_tipMany 37 = .ok (.iadd, 1) := by decide +kernel
theorem dX8_tipMany_38 : decode cX8_tipMany 38 = .ok (.imul, 1) := by decide +kernel
theorem dX8_tipMany_39 : decode cX8_tipMany 39 = .ok (.ireturn, 1) := by decide +kernel
theorem dX8_stepBy_0 : decode cX8_stepBy 0 = .ok (.iload_n 1, 1) := by decide +kernel
theorem dX8_stepBy_1 : decode cX8_stepBy 1 = .ok (.aload_n 0, 1) := by decide +kernel
theorem dX8_stepBy_2 : decode cX8_stepBy 2 = .ok (.getfield 42, 3) := by decide +kernel
theorem dX8_stepBy_5 : decode cX8_stepBy 5 = .ok (.iconst 1, 1) := by decide +kernel
theorem dX8_stepBy_6 : decode cX8_stepBy 6 = .ok (.iaload, 1) := by decide +kernel
theorem dX8_stepBy_7 : decode cX8_stepBy 7 = .ok (.iconst 1, 1) := by decide +kernel
theorem dX8_stepBy_8 : decode cX8_stepBy 8 = .ok (.iadd, 1) := by decide +kernel
theorem dX8_stepBy_9 : decode cX8_stepBy 9 = .ok (.aload_n 0, 1) := by decide +kernel
theorem dX8_stepBy_10 : decode cX8_stepBy 10 = .ok (.getfield 42, 3) := by decide +kernel
theorem dX8_stepBy_13 : decode cX8_stepBy 13 = .ok (.iconst 1, 1) := by decide +kernel
theorem dX8_stepBy_14 : decode cX8_stepBy 14 = .ok (.iaload, 1) := by decide +kernel
theorem dX8_stepBy_15 : decode cX8_stepBy 15 = .ok (.iconst 1, 1) := by decide +kernel
theorem dX8_stepBy_16 : decode cX8_stepBy 16 = .ok (.iadd, 1) := by decide +kernel
theorem dX8_stepBy_17 : decode cX8_stepBy 17 = .ok (.imul, 1) := by decide +kernel
theorem dX8_stepBy_18 : decode cX8_stepBy 18 = .ok (.idiv, 1) := by decide +kernel
theorem dX8_stepBy_19 : decode cX8_stepBy 19 = .ok (.ireturn, 1) := by decide +kernel
theorem dX8_downBy_0 : decode cX8_downBy 0 = .ok (.iload_n 1, 1) := by decide +kernel
theorem dX8_downBy_1 : decode cX8_downBy 1 = .ok (.aload_n 0, 1) := by decide +kernel
theorem dX8_downBy_2 : decode cX8_downBy 2 = .ok (.getfield 42, 3) := by decide +kernel
theorem dX8_downBy_5 : decode cX8_downBy 5 = .ok (.iconst 1, 1) := by decide +kernel
theorem dX8_downBy_6 : decode cX8_downBy 6 = .ok (.iaload, 1) := by decide +kernel
theorem dX8_downBy_7 : decode cX8_downBy 7 = .ok (.iconst 1, 1) := by decide +kernel
theorem dX8_downBy_8 : decode cX8_downBy 8 = .ok (.iadd, 1) := by decide +kernel
theorem dX8_downBy_9 : decode cX8_downBy 9 = .ok (.idiv, 1) := by decide +kernel
theorem dX8_downBy_10 : decode cX8_downBy 10 = .ok (.aload_n 0, 1) := by decide +kernel
theorem dX8_downBy_11 : decode cX8_downBy 11 = .ok (.getfield 42, 3) := by decide +kernel
theorem dX8_downBy_14 : decode cX8_downBy 14 = .ok (.iconst 1, 1) := by decide +kernel
theorem dX8_downBy_15 : decode cX8_downBy 15 = .ok (.iaload, 1) := by decide +kernel
theorem dX8_downBy_16 : decode cX8_downBy 16 = .ok (.iconst 1, 1) := by decide +kernel
theorem dX8_downBy_17 : decode cX8_downBy 17 = .ok (.iadd, 1) := by decide +kernel
theorem dX8_downBy_18 : decode cX8_downBy 18 = .ok (.irem, 1) := by decide +kernel
theorem dX8_downBy_19 : decode cX8_downBy 19 = .ok (.istore_n 2, 1) := by decide +kernel
theorem dX8_downBy_20 : decode cX8_downBy 20 = .ok (.iload_n 2, 1) := by decide +kernel
theorem dX8_downBy_21 : decode cX8_downBy 21 = .ok (.aload_n 0, 1) := by decide +kernel
theorem dX8_downBy_22 : decode cX8_downBy 22 = .ok (.getfield 42, 3) := by decide +kernel
theorem dX8_downBy_25 : decode cX8_downBy 25 = .ok (.iconst 1, 1) := by decide +kernel
theorem dX8_downBy_26 : decode cX8_downBy 26 = .ok (.iaload, 1) := by decide +kernel
theorem dX8_downBy_27 : decode cX8_downBy 27 = .ok (.if_icmp .ne 7, 3) := by decide +kernel
theorem dX8_downBy_30 : decode cX8_downBy 30 = .ok (.iconst (-1), 1) := by decide +kernel
theorem dX8_downBy_31 : decode cX8_downBy 31 = .ok (.goto 4, 3) := by decide +kernel
theorem dX8_downBy_34 : decode cX8_downBy 34 = .ok (.iload_n 2, 1) := by decide +kernel
theorem dX8_downBy_35 : decode cX8_downBy 35 = .ok (.ireturn, 1) := by decide +kernel
theorem dX8_upBy_0 : decode cX8_upBy 0 = .ok (.iload_n 1, 1) := by decide +kernel
theorem dX8_upBy_1 : decode cX8_upBy 1 = .ok (.aload_n 0, 1) := by decide +kernel
theorem dX8_upBy_2 : decode cX8_upBy 2 = .ok (.getfield 42, 3) := by decide +kernel
theorem dX8_upBy_5 : decode cX8_upBy 5 = .ok (.iconst 1, 1) := by decide +kernel
theorem dX8_upBy_6 : decode cX8_upBy 6 = .ok (.iaload, 1) := by decide +kernel
theorem dX8_upBy_7 : decode cX8_upBy 7 = .ok (.iconst 1, 1) := by decide +kernel
theorem dX8_upBy_8 : decode cX8_upBy 8 = .ok (.iadd, 1) := by decide +kernel
theorem dX8_upBy_9 : decode cX8_upBy 9 = .ok (.irem, 1) := by decide +kernel
theorem dX8_upBy_10 : decode cX8_upBy 10 = .ok (.istore_n 2, 1) := by decide +kernel
theorem dX8_upBy_11 : decode cX8_upBy 11 = .ok (.iload_n 2, 1) := by decide +kernel
theorem dX8_upBy_12 : decode cX8_upBy 12 = .ok (.aload_n 0, 1) := by decide +kernel
theorem dX8_upBy_13 : decode cX8_upBy 13 = .ok (.getfield 42, 3) := by decide +kernel
theorem dX8_upBy_16 : decode cX8_upBy 16 = .ok (.iconst 1, 1) := by decide +kernel
theorem dX8_upBy_17 : decode cX8_upBy 17 = .ok (.iaload, 1) := by decide +kernel
theorem dX8_upBy_18 : decode cX8_upBy 18 = .ok (.if_icmp .ne 7, 3) := by decide +kernel
theorem dX8_upBy_21 : decode cX8_upBy 21 = .ok (.iconst (-1), 1) := by decide +kernel
theorem dX8_upBy_22 : decode cX8_upBy 22 = .ok (.goto 4, 3) := by decide +kernel
theorem dX8_upBy_25 : decode cX8_upBy 25 = .ok (.iload_n 2, 1) := by decide +kernel
theorem dX8_upBy_26 : decode cX8_upBy 26 = .ok (.ireturn, 1) := by decide +kernel
theorem dX8_mayBe_0 : decode cX8_mayBe 0 = .ok (.aload_n 0, 1) := by decide +kernel
theorem dX8_mayBe_1 : decode cX8_mayBe 1 = .ok (.iload_n 1, 1) := by decide +kernel
theorem dX8_mayBe_2 : decode cX8_mayBe 2 = .ok (.invokevirtual 371, 3) := by decide +kernel
theorem dX8_mayBe_5 : decode cX8_mayBe 5 = .ok (.ifCond .ge 11, 3) := by decide +kernel
theorem dX8_mayBe_8 : decode cX8_mayBe 8 = .ok (.aload_n 0, 1) := by decide +kernel
theorem dX8_mayBe_9 : decode cX8_mayBe 9 = .ok (.iload_n 1, 1) := by decide +kernel
theorem dX8_mayBe_10 : decode cX8_mayBe 10 = .ok (.invokevirtual 374, 3) := by decide +kernel
theorem dX8_mayBe_13 : decode cX8_mayBe 13 = .ok (.ifCond .lt 29, 3) := by decide +kernel
theorem dX8_mayBe_16 : decode cX8_mayBe 16 = .ok (.aload_n 0, 1) := by decide +kernel
theorem dX8_mayBe_17 : decode cX8_mayBe 17 = .ok (.aload_n 0, 1) := by decide +kernel
theorem dX8_mayBe_18 : decode cX8_mayBe 18 = .ok (.iload_n 1, 1) := by decide +kernel
theorem dX8_mayBe_19 : decode cX8_mayBe 19 = .ok (.invokevirtual 377, 3) := by decide +kernel
theorem dX8_mayBe_22 : decode cX8_mayBe 22 = .ok (.aload_n 0, 1) := by decide +kernel
theorem dX8_mayBe_23 : decode cX8_mayBe 23 = .ok (.iload_n 1, 1) := by decide +kernel
theorem dX8_mayBe_24 : decode cX8_mayBe 24 = .ok (.invokevirtual 371, 3) := by decide +kernel
theorem dX8_mayBe_27 : decode cX8_mayBe 27 = .ok (.aload_n 0, 1) := by decide +kernel
theorem dX8_mayBe_28 : decode cX8_mayBe 28 = .ok (.iload_n 1, 1) := by decide +kernel
theorem dX8_mayBe_29 : decode cX8_mayBe 29 = .ok (.invokevirtual 374, 3) := by decide +kernel
theorem dX8_mayBe_32 : decode cX8_mayBe 32 = .ok (.invokevirtual 359, 3) := by decide +kernel
theorem dX8_mayBe_35 : decode cX8_mayBe 35 = .ok (.ifCond .ne 7, 3) := by decide +kernel
theorem dX8_mayBe_38 : decode cX8_mayBe 38 = .ok (.iconst 1, 1) := by decide +kernel
theorem dX8_mayBe_39 : decode cX8_mayBe 39 = .ok (.goto 4, 3) := by decide +kernel
theorem dX8_mayBe_42 : decode cX8_mayBe 42 = .ok (.iconst 0, 1) := by decide +kernel
theorem dX8_mayBe_43 : decode cX8_mayBe 43 = .ok (.ireturn, 1) := by decide +kernel
theorem dX8_firstFrom_0 : decode cX8_firstFrom 0 = .ok (.iload_n 1, 1) := by decide +kernel
theorem dX8_firstFrom_1 : decode cX8_firstFrom 1 = .ok (.istore_n 2, 1) := by decide +kernel
theorem dX8_firstFrom_2 : decode cX8_firstFrom 2 = .ok (.iload_n 2, 1) := by decide +kernel
theorem dX8_firstFrom_3 : decode cX8_firstFrom 3 = .ok (.aload_n 0, 1) := by decide +kernel
theorem dX8_firstFrom_4 : decode cX8_firstFrom 4 = .ok (.invokevirtual 380, 3) := by decide +kernel
theorem dX8_firstFrom_7 : decode cX8_firstFrom 7 = .ok (.if_icmp .ge 19, 3) := by decide +kernel
theorem dX8_firstFrom_10 : decode cX8_firstFrom 10 = .ok (.aload_n 0, 1) := by decide +kernel
theorem dX8_firstFrom_11 : decode cX8_firstFrom 11 = .ok (.iload_n 2, 1) := by decide +kernel
theorem dX8_firstFrom_12 : decode cX8_firstFrom 12 = .ok (.invokevirtual 383, 3) := by decide +kernel
theorem dX8_firstFrom_15 : decode cX8_firstFrom 15 = .ok (.ifCond .eq 5, 3) := by decide +kernel
theorem dX8_firstFrom_18 : decode cX8_firstFrom 18 = .ok (.iload_n 2, 1) := by decide +kernel
theorem dX8_firstFrom_19 : decode cX8_firstFrom 19 = .ok (.ireturn, 1) := by decide +kernel
theorem dX8_firstFrom_20 : decode cX8_firstFrom 20 = .ok (.iinc 2 1, 3) := by decide +kernel
theorem dX8_firstFrom_23 : decode cX8_firstFrom 23 = .ok (.goto (-21), 3) := by decide +kernel
theorem dX8_firstFrom_26 : decode cX8_firstFrom 26 = .ok (.iconst (-1), 1) := by decide +kernel
theorem dX8_firstFrom_27 : decode cX8_firstFrom 27 = .ok (.ireturn, 1) := by decide +kernel
theorem dX8_runs_0 : decode cX8_runs 0 = .ok (.iconst 0, 1) := by decide +kernel
theorem dX8_runs_1 : decode cX8_runs 1 = .ok (.istore_n 2, 1) := by decide +kernel
theorem dX8_runs_2 : decode cX8_runs 2 = .ok (.iload_n 2, 1) := by decide +kernel
theorem dX8_runs_3 : decode cX8_runs 3 = .ok (.iload_n 1, 1) := by decide +kernel
theorem dX8_runs_4 : decode cX8_runs 4 = .ok (.if_icmp .ge 41, 3) := by decide +kernel
theorem dX8_runs_7 : decode cX8_runs 7 = .ok (.aload_n 0, 1) := by decide +kernel
theorem dX8_runs_8 : decode cX8_runs 8 = .ok (.iconst 0, 1) := by decide +kernel
theorem dX8_runs_9 : decode cX8_runs 9 = .ok (.invokevirtual 386, 3) := by decide +kernel
theorem dX8_runs_12 : decode cX8_runs 12 = .ok (.istore_n 3, 1) := by decide +kernel
theorem dX8_runs_13 : decode cX8_runs 13 = .ok (.iload_n 3, 1) := by decide +kernel
theorem dX8_runs_14 : decode cX8_runs 14 = .ok (.ifCond .ge 5, 3) := by decide +kernel
theorem dX8_runs_17 : decode cX8_runs 17 = .ok (.iload_n 2, 1) := by decide +kernel
theorem dX8_runs_18 : decode cX8_runs 18 = .ok (.ireturn, 1) := by decide +kernel
theorem dX8_runs_19 : decode cX8_runs 19 = .ok (.aload_n 0, 1) := by decide +kernel
theorem dX8_runs_20 : decode cX8_runs 20 = .ok (.aload_n 0, 1) := by decide +kernel
theorem dX8_runs_21 : decode cX8_runs 21 = .ok (.iload_n 3, 1) := by decide +kernel
theorem dX8_runs_22 : decode cX8_runs 22 = .ok (.invokevirtual 377, 3) := by decide +kernel
theorem dX8_runs_25 : decode cX8_runs 25 = .ok (.aload_n 0, 1) := by decide +kernel
theorem dX8_runs_26 : decode cX8_runs 26 = .ok (.iload_n 3, 1) := by decide +kernel
theorem dX8_runs_27 : decode cX8_runs 27 = .ok (.invokevirtual 371, 3) := by decide +kernel
theorem dX8_runs_30 : decode cX8_runs 30 = .ok (.aload_n 0, 1) := by decide +kernel
theorem dX8_runs_31 : decode cX8_runs 31 = .ok (.iload_n 3, 1) := by decide +kernel
theorem dX8_runs_32 : decode cX8_runs 32 = .ok (.invokevirtual 374, 3) := by decide +kernel
theorem dX8_runs_35 : decode cX8_runs 35 = .ok (.invokevirtual 366, 3) := by decide +kernel
theorem dX8_runs_38 : decode cX8_runs 38 = .ok (.pop, 1) := by decide +kernel
theorem dX8_runs_39 : decode cX8_runs 39 = .ok (.iinc 2 1, 3) := by decide +kernel
theorem dX8_runs_42 : decode cX8_runs 42 = .ok (.goto (-40), 3) := by decide +kernel
theorem dX8_runs_45 : decode cX8_runs 45 = .ok (.iload_n 2, 1) := by decide +kernel
theorem dX8_runs_46 : decode cX8_runs 46 = .ok (.ireturn, 1) := by decide +kernel
theorem dX8_run_0 : decode cX8_run 0 = .ok (.aload_n 0, 1) := by decide +kernel
theorem dX8_run_1 : decode cX8_run 1 = .ok (.getfield 42, 3) := by decide +kernel
theorem dX8_run_4 : decode cX8_run 4 = .ok (.iconst 0, 1) := by decide +kernel
theorem dX8_run_5 : decode cX8_run 5 = .ok (.iaload, 1) := by decide +kernel
theorem dX8_run_6 : decode cX8_run 6 = .ok (.ifCond .le 23, 3) := by decide +kernel
theorem dX8_run_9 : decode cX8_run 9 = .ok (.iload_n 1, 1) := by decide +kernel
theorem dX8_run_10 : decode cX8_run 10 = .ok (.i2l, 1) := by decide +kernel
theorem dX8_run_11 : decode cX8_run 11 = .ok (.lconst 0, 1) := by decide +kernel
theorem dX8_run_12 : decode cX8_run 12 = .ok (.ldc2_w 389, 3) := by decide +kernel
theorem dX8_run_15 : decode cX8_run 15 = .ok (.invokestatic 127, 3) := by decide +kernel
theorem dX8_run_18 : decode cX8_run 18 = .ok (.ifCond .eq 11, 3) := by decide +kernel
theorem dX8_run_21 : decode cX8_run 21 = .ok (.aload_n 0, 1) := by decide +kernel
theorem dX8_run_22 : decode cX8_run 22 = .ok (.iload_n 1, 1) := by decide +kernel
theorem dX8_run_23 : decode cX8_run 23 = .ok (.invokevirtual 391, 3) := by decide +kernel
theorem dX8_run_26 : decode cX8_run 26 = .ok (.goto 4, 3) := by decide +kernel
theorem dX8_run_29 : decode cX8_run 29 = .ok (.iconst (-1), 1) := by decide +kernel
theorem dX8_run_30 : decode cX8_run 30 = .ok (.ireturn, 1) := by decide +kernel
theorem dX8_keeps_0 : decode cX8_keeps 0 = .ok (.iconst 0, 1) := by decide +kernel
theorem dX8_keeps_1 : decode cX8_keeps 1 = .ok (.istore_n 1, 1) := by decide +kernel
theorem dX8_keeps_2 : decode cX8_keeps 2 = .ok (.iload_n 1, 1) := by decide +kernel
theorem dX8_keeps_3 : decode cX8_keeps 3 = .ok (.bipush 93, 2) := by decide +kernel
theorem dX8_keeps_5 : decode cX8_keeps 5 = .ok (.if_icmp .ge 21, 3) := by decide +kernel
theorem dX8_keeps_8 : decode cX8_keeps 8 = .ok (.aload_n 0, 1) := by decide +kernel
theorem dX8_keeps_9 : decode cX8_keeps 9 = .ok (.getfield 45, 3) := by decide +kernel
theorem dX8_keeps_12 : decode cX8_keeps 12 = .ok (.iload_n 1, 1) := by decide +kernel
theorem dX8_keeps_13 : decode cX8_keeps 13 = .ok (.aload_n 0, 1) := by decide +kernel
theorem dX8_keeps_14 : decode cX8_keeps 14 = .ok (.getfield 42, 3) := by decide +kernel
theorem dX8_keeps_17 : decode cX8_keeps 17 = .ok (.iload_n 1, 1) := by decide +kernel
theorem dX8_keeps_18 : decode cX8_keeps 18 = .ok (.iaload, 1) := by decide +kernel
theorem dX8_keeps_19 : decode cX8_keeps 19 = .ok (.iastore, 1) := by decide +kernel
theorem dX8_keeps_20 : decode cX8_keeps 20 = .ok (.iinc 1 1, 3) := by decide +kernel
theorem dX8_keeps_23 : decode cX8_keeps 23 = .ok (.goto (-21), 3) := by decide +kernel
theorem dX8_keeps_26 : decode cX8_keeps 26 = .ok (.return_, 1) := by decide +kernel
theorem dX8_putsBack_0 : decode cX8_putsBack 0 = .ok (.iconst 0, 1) := by decide +kernel
theorem dX8_putsBack_1 : decode cX8_putsBack 1 = .ok (.istore_n 1, 1) := by decide +kernel
theorem dX8_putsBack_2 : decode cX8_putsBack 2 = .ok (.iload_n 1, 1) := by decide +kernel
theorem dX8_putsBack_3 : decode cX8_putsBack 3 = .ok (.bipush 93, 2) := by decide +kernel
theorem dX8_putsBack_5 : decode cX8_putsBack 5 = .ok (.if_icmp .ge 21, 3) := by decide +kernel
theorem dX8_putsBack_8 : decode cX8_putsBack 8 = .ok (.aload_n 0, 1) := by decide +kernel
theorem dX8_putsBack_9 : decode cX8_putsBack 9 = .ok (.getfield 42, 3) := by decide +kernel
theorem dX8_putsBack_12 : decode cX8_putsBack 12 = .ok (.iload_n 1, 1) := by decide +kernel
theorem dX8_putsBack_13 : decode cX8_putsBack 13 = .ok (.aload_n 0, 1) := by decide +kernel
theorem dX8_putsBack_14 : decode cX8_putsBack 14 = .ok (.getfield 45, 3) := by decide +kernel
theorem dX8_putsBack_17 : decode cX8_putsBack 17 = .ok (.iload_n 1, 1) := by decide +kernel
theorem dX8_putsBack_18 : decode cX8_putsBack 18 = .ok (.iaload, 1) := by decide +kernel
theorem dX8_putsBack_19 : decode cX8_putsBack 19 = .ok (.iastore, 1) := by decide +kernel
theorem dX8_putsBack_20 : decode cX8_putsBack 20 = .ok (.iinc 1 1, 3) := by decide +kernel
theorem dX8_putsBack_23 : decode cX8_putsBack 23 = .ok (.goto (-21), 3) := by decide +kernel
theorem dX8_putsBack_26 : decode cX8_putsBack 26 = .ok (.return_, 1) := by decide +kernel
theorem dX8_isStuck_0 : decode cX8_isStuck 0 = .ok (.aload_n 0, 1) := by decide +kernel
theorem dX8_isStuck_1 : decode cX8_isStuck 1 = .ok (.iconst 0, 1) := by decide +kernel
theorem dX8_isStuck_2 : decode cX8_isStuck 2 = .ok (.invokevirtual 386, 3) := by decide +kernel
theorem dX8_isStuck_5 : decode cX8_isStuck 5 = .ok (.ifCond .ge 24, 3) := by decide +kernel
theorem dX8_isStuck_8 : decode cX8_isStuck 8 = .ok (.aload_n 0, 1) := by decide +kernel
theorem dX8_isStuck_9 : decode cX8_isStuck 9 = .ok (.invokevirtual 394, 3) := by decide +kernel
theorem dX8_isStuck_12 : decode cX8_isStuck 12 = .ok (.iconst 1, 1) := by decide +kernel
theorem dX8_isStuck_13 : decode cX8_isStuck 13 = .ok (.aload_n 0, 1) := by decide +kernel
theorem dX8_isStuck_14 : decode cX8_isStuck 14 = .ok (.getfield 42, 3) := by decide +kernel
theorem dX8_isStuck_17 : decode cX8_isStuck 17 = .ok (.iconst 1, 1) := by decide +kernel
theorem dX8_isStuck_18 : decode cX8_isStuck 18 = .ok (.iaload, 1) := by decide +kernel
theorem dX8_isStuck_19 : decode cX8_isStuck 19 = .ok (.ishl, 1) := by decide +kernel
theorem dX8_isStuck_20 : decode cX8_isStuck 20 = .ok (.iconst 1, 1) := by decide +kernel
theorem dX8_isStuck_21 : decode cX8_isStuck 21 = .ok (.isub, 1) := by decide +kernel
theorem dX8_isStuck_22 : decode cX8_isStuck 22 = .ok (.if_icmp .eq 7, 3) := by decide +kernel
theorem dX8_isStuck_25 : decode cX8_isStuck 25 = .ok (.iconst 1, 1) := by decide +kernel
theorem dX8_isStuck_26 : decode cX8_isStuck 26 = .ok (.goto 4, 3) := by decide +kernel
theorem dX8_isStuck_29 : decode cX8_isStuck 29 = .ok (.iconst 0, 1) := by decide +kernel
theorem dX8_isStuck_30 : decode cX8_isStuck 30 = .ok (.ireturn, 1) := by decide +kernel
theorem dX8_would_0 : decode cX8_would 0 = .ok (.aload_n 0, 1) := by decide +kernel
theorem dX8_would_1 : decode cX8_would 1 = .ok (.getfield 42, 3) := by decide +kernel
theorem dX8_would_4 : decode cX8_would 4 = .ok (.iconst 0, 1) := by decide +kernel
theorem dX8_would_5 : decode cX8_would 5 = .ok (.iaload, 1) := by decide +kernel
theorem dX8_would_6 : decode cX8_would 6 = .ok (.ifCond .eq 27, 3) := by decide +kernel
theorem dX8_would_9 : decode cX8_would 9 = .ok (.iload_n 1, 1) := by decide +kernel
theorem dX8_would_10 : decode cX8_would 10 = .ok (.i2l, 1) := by decide +kernel
theorem dX8_would_11 : decode cX8_would 11 = .ok (.lconst 0, 1) := by decide +kernel
theorem dX8_would_12 : decode cX8_would 12 = .ok (.ldc2_w 389, 3) := by decide +kernel
theorem dX8_would_15 : decode cX8_would 15 = .ok (.invokestatic 127, 3) := by decide +kernel
theorem dX8_would_18 : decode cX8_would 18 = .ok (.ifCond .eq 15, 3) := by decide +kernel
theorem dX8_would_21 : decode cX8_would 21 = .ok (.iload_n 2, 1) := by decide +kernel
theorem dX8_would_22 : decode cX8_would 22 = .ok (.i2l, 1) := by decide +kernel
theorem dX8_would_23 : decode cX8_would 23 = .ok (.lconst 0, 1) := by decide +kernel
theorem dX8_would_24 : decode cX8_would 24 = .ok (.ldc2_w 308, 3) := by decide +kernel
theorem dX8_would_27 : decode cX8_would 27 = .ok (.invokestatic 127, 3) := by decide +kernel
theorem dX8_would_30 : decode cX8_would 30 = .ok (.ifCond .ne 5, 3) := by decide +kernel
theorem dX8_would_33 : decode cX8_would 33 = .ok (.iconst (-1), 1) := by decide +kernel
theorem dX8_would_34 : decode cX8_would 34 = .ok (.ireturn, 1) := by decide +kernel
theorem dX8_would_35 : decode cX8_would 35 = .ok (.aload_n 0, 1) := by decide +kernel
theorem dX8_would_36 : decode cX8_would 36 = .ok (.invokevirtual 397, 3) := by decide +kernel
theorem dX8_would_39 : decode cX8_would 39 = .ok (.aload_n 0, 1) := by decide +kernel
theorem dX8_would_40 : decode cX8_would 40 = .ok (.iload_n 1, 1) := by decide +kernel
theorem dX8_would_41 : decode cX8_would 41 = .ok (.invokevirtual 391, 3) := by decide +kernel
theorem dX8_would_44 : decode cX8_would 44 = .ok (.istore_n 3, 1) := by decide +kernel
theorem dX8_would_45 : decode cX8_would 45 = .ok (.iload_n 2, 1) := by decide +kernel
theorem dX8_would_46 : decode cX8_would 46 = .ok (.ifCond .ne 7, 3) := by decide +kernel
theorem dX8_would_49 : decode cX8_would 49 = .ok (.iload_n 3, 1) := by decide +kernel
theorem dX8_would_50 : decode cX8_would 50 = .ok (.goto 51, 3) := by decide +kernel
theorem dX8_would_53 : decode cX8_would 53 = .ok (.iload_n 2, 1) := by decide +kernel
theorem dX8_would_54 : decode cX8_would 54 = .ok (.iconst 1, 1) := by decide +kernel
theorem dX8_would_55 : decode cX8_would 55 = .ok (.if_icmp .ne 13, 3) := by decide +kernel
theorem dX8_would_58 : decode cX8_would 58 = .ok (.aload_n 0, 1) := by decide +kernel
theorem dX8_would_59 : decode cX8_would 59 = .ok (.invokevirtual 394, 3) := by decide +kernel
theorem dX8_would_62 : decode cX8_would 62 = .ok (.invokestatic 333, 3) := by decide +kernel
theorem dX8_would_65 : decode cX8_would 65 = .ok (.goto 36, 3) := by decide +kernel
theorem dX8_would_68 : decode cX8_would 68 = .ok (.iload_n 2, 1) := by decide +kernel
theorem dX8_would_69 : decode cX8_would 69 = .ok (.iconst 2, 1) := by decide +kernel
theorem dX8_would_70 : decode cX8_would 70 = .ok (.if_icmp .ne 19, 3) := by decide +kernel
theorem dX8_would_73 : decode cX8_would 73 = .ok (.aload_n 0, 1) := by decide +kernel
theorem dX8_would_74 : decode cX8_would 74 = .ok (.getfield 42, 3) := by decide +kernel
theorem dX8_would_77 : decode cX8_would 77 = .ok (.iconst 4, 1) := by decide +kernel
theorem dX8_would_78 : decode cX8_would 78 = .ok (.iaload, 1) := by decide +kernel
theorem dX8_would_79 : decode cX8_would 79 = .ok (.aload_n 0, 1) := by decide +kernel
theorem dX8_would_80 : decode cX8_would 80 = .ok (.getfield 45, 3) := by decide +kernel
theorem dX8_would_83 : decode cX8_would 83 = .ok (.iconst 4, 1) := by decide +kernel
theorem dX8_would_84 : decode cX8_would 84 = .ok (.iaload, 1) := by decide +kernel
theorem dX8_would_85 : decode cX8_would 85 = .ok (.isub, 1) := by decide +kernel
theorem dX8_would_86 : decode cX8_would 86 = .ok (.goto 15, 3) := by decide +kernel
theorem dX8_would_89 : decode cX8_would 89 = .ok (.aload_n 0, 1) := by decide +kernel
theorem dX8_would_90 : decode cX8_would 90 = .ok (.invokevirtual 400, 3) := by decide +kernel
theorem dX8_would_93 : decode cX8_would 93 = .ok (.ifCond .eq 7, 3) := by decide +kernel
theorem dX8_would_96 : decode cX8_would 96 = .ok (.iconst 1, 1) := by decide +kernel
theorem dX8_would_97 : decode cX8_would 97 = .ok (.goto 4, 3) := by decide +kernel
theorem dX8_would_100 : decode cX8_would 100 = .ok (.iconst 0, 1) := by decide +kernel
theorem dX8_would_101 : decode cX8_would 101 = .ok (.istore 4, 2) := by decide +kernel
theorem dX8_would_103 : decode cX8_would 103 = .ok (.aload_n 0, 1) := by decide +kernel
theorem dX8_would_104 : decode cX8_would 104 = .ok (.invokevirtual 403, 3) := by decide +kernel
theorem dX8_would_107 : decode cX8_would 107 = .ok (.iload 4, 2) := by decide +kernel
theorem dX8_would_109 : decode cX8_would 109 = .ok (.ireturn, 1) := by decide +kernel
theorem dX8_can_0 : decode cX8_can 0 = .ok (.aload_n 0, 1) := by decide +kernel
theorem dX8_can_1 : decode cX8_can 1 = .ok (.getfield 42, 3) := by decide +kernel
theorem dX8_can_4 : decode cX8_can 4 = .ok (.iconst 0, 1) := by decide +kernel
theorem dX8_can_5 : decode cX8_can 5 = .ok (.iaload, 1) := by decide +kernel
theorem dX8_can_6 : decode cX8_can 6 = .ok (.ifCond .ne 5, 3) := by decide +kernel
theorem dX8_can_9 : decode cX8_can 9 = .ok (.iconst (-1), 1) := by decide +kernel
theorem dX8_can_10 : decode cX8_can 10 = .ok (.ireturn, 1) := by decide +kernel
theorem dX8_can_11 : decode cX8_can 11 = .ok (.iconst 0, 1) := by decide +kernel
theorem dX8_can_12 : decode cX8_can 12 = .ok (.istore_n 1, 1) := by decide +kernel
theorem dX8_can_13 : decode cX8_can 13 = .ok (.iconst 0, 1) := by decide +kernel
theorem dX8_can_14 : decode cX8_can 14 = .ok (.istore_n 2, 1) := by decide +kernel
theorem dX8_can_15 : decode cX8_can 15 = .ok (.iload_n 2, 1) := by decide +kernel
theorem dX8_can_16 : decode cX8_can 16 = .ok (.aload_n 0, 1) := by decide +kernel
theorem dX8_can_17 : decode cX8_can 17 = .ok (.invokevirtual 380, 3) := by decide +kernel
theorem dX8_can_20 : decode cX8_can 20 = .ok (.if_icmp .ge 25, 3) := by decide +kernel
theorem dX8_can_23 : decode cX8_can 23 = .ok (.iload_n 1, 1) := by decide +kernel
theorem dX8_can_24 : decode cX8_can 24 = .ok (.aload_n 0, 1) := by decide +kernel
theorem dX8_can_25 : decode cX8_can 25 = .ok (.iload_n 2, 1) := by decide +kernel
theorem dX8_can_26 : decode cX8_can 26 = .ok (.invokevirtual 383, 3) := by decide +kernel
theorem dX8_can_29 : decode cX8_can 29 = .ok (.ifCond .eq 7, 3) := by decide +kernel
theorem dX8_can_32 : decode cX8_can 32 = .ok (.iconst 1, 1) := by decide +kernel
theorem dX8_can_33 : decode cX8_can 33 = .ok (.goto 4, 3) := by decide +kernel
theorem dX8_can_36 : decode cX8_can 36 = .ok (.iconst 0, 1) := by decide +kernel
theorem dX8_can_37 : decode cX8_can 37 = .ok (.iadd, 1) := by decide +kernel
theorem dX8_can_38 : decode cX8_can 38 = .ok (.istore_n 1, 1) := by decide +kernel
theorem dX8_can_39 : decode cX8_can 39 = .ok (.iinc 2 1, 3) := by decide +kernel
theorem dX8_can_42 : decode cX8_can 42 = .ok (.goto (-27), 3) := by decide +kernel
theorem dX8_can_45 : decode cX8_can 45 = .ok (.iload_n 1, 1) := by decide +kernel
theorem dX8_can_46 : decode cX8_can 46 = .ok (.ireturn, 1) := by decide +kernel
theorem dX8_cellOf_0 : decode cX8_cellOf 0 = .ok (.iload_n 1, 1) := by decide +kernel
theorem dX8_cellOf_1 : decode cX8_cellOf 1 = .ok (.bipush 6, 2) := by decide +kernel
theorem dX8_cellOf_3 : decode cX8_cellOf 3 = .ok (.if_icmp .ge 12, 3) := by decide +kernel
theorem dX8_cellOf_6 : decode cX8_cellOf 6 = .ok (.aload_n 0, 1) := by decide +kernel
theorem dX8_cellOf_7 : decode cX8_cellOf 7 = .ok (.iload_n 1, 1) := by decide +kernel
theorem dX8_cellOf_8 : decode cX8_cellOf 8 = .ok (.iconst 4, 1) := by decide +kernel
theorem dX8_cellOf_9 : decode cX8_cellOf 9 = .ok (.invokevirtual 295, 3) := by decide +kernel
theorem dX8_cellOf_12 : decode cX8_cellOf 12 = .ok (.goto 11, 3) := by decide +kernel
theorem dX8_cellOf_15 : decode cX8_cellOf 15 = .ok (.aload_n 0, 1) := by decide +kernel
theorem dX8_cellOf_16 : decode cX8_cellOf 16 = .ok (.iload_n 1, 1) := by decide +kernel
theorem dX8_cellOf_17 : decode cX8_cellOf 17 = .ok (.bipush 6, 2) := by decide +kernel
theorem dX8_cellOf_19 : decode cX8_cellOf 19 = .ok (.isub, 1) := by decide +kernel
theorem dX8_cellOf_20 : decode cX8_cellOf 20 = .ok (.invokevirtual 330, 3) := by decide +kernel
theorem dX8_cellOf_23 : decode cX8_cellOf 23 = .ok (.ireturn, 1) := by decide +kernel
theorem dX8_isNow_0 : decode cX8_isNow 0 = .ok (.iconst 0, 1) := by decide +kernel
theorem dX8_isNow_1 : decode cX8_isNow 1 = .ok (.istore_n 2, 1) := by decide +kernel
theorem dX8_isNow_2 : decode cX8_isNow 2 = .ok (.iload_n 2, 1) := by decide +kernel
theorem dX8_isNow_3 : decode cX8_isNow 3 = .ok (.bipush 14, 2) := by decide +kernel
theorem dX8_isNow_5 : decode cX8_isNow 5 = .ok (.if_icmp .ge 30, 3) := by decide +kernel
theorem dX8_isNow_8 : decode cX8_isNow 8 = .ok (.aload_n 0, 1) := by decide +kernel
theorem dX8_isNow_9 : decode cX8_isNow 9 = .ok (.getfield 48, 3) := by decide +kernel
theorem dX8_isNow_12 : decode cX8_isNow 12 = .ok (.bipush 14, 2) := by decide +kernel
theorem dX8_isNow_14 : decode cX8_isNow 14 = .ok (.iload_n 1, 1) := by decide +kernel
theorem dX8_isNow_15 : decode cX8_isNow 15 = .ok (.imul, 1) := by decide +kernel
theorem dX8_isNow_16 : decode cX8_isNow 16 = .ok (.iload_n 2, 1) := by decide +kernel
theorem dX8_isNow_17 : decode cX8_isNow 17 = .ok (.iadd, 1) := by decide +kernel
theorem dX8_isNow_18 : decode cX8_isNow 18 = .ok (.iaload, 1) := by decide +kernel
theorem dX8_isNow_19 : decode cX8_isNow 19 = .ok (.aload_n 0, 1) := by decide +kernel
theorem dX8_isNow_20 : decode cX8_isNow 20 = .ok (.iload_n 2, 1) := by decide +kernel
theorem dX8_isNow_21 : decode cX8_isNow 21 = .ok (.invokevirtual 406, 3) := by decide +kernel
theorem dX8_isNow_24 : decode cX8_isNow 24 = .ok (.if_icmp .eq 5, 3) := by decide +kernel
theorem dX8_isNow_27 : decode cX8_isNow 27 = .ok (.iconst 0, 1) := by decide +kernel
theorem dX8_isNow_28 : decode cX8_isNow 28 = .ok (.ireturn, 1) := by decide +kernel
theorem dX8_isNow_29 : decode cX8_isNow 29 = .ok (.iinc 2 1, 3) := by decide +kernel
theorem dX8_isNow_32 : decode cX8_isNow 32 = .ok (.goto (-30), 3) := by decide +kernel
theorem dX8_isNow_35 : decode cX8_isNow 35 = .ok (.iconst 1, 1) := by decide +kernel
theorem dX8_isNow_36 : decode cX8_isNow 36 = .ok (.ireturn, 1) := by decide +kernel
theorem dX8_slotNow_0 : decode cX8_slotNow 0 = .ok (.iconst 0, 1) := by decide +kernel
theorem dX8_slotNow_1 : decode cX8_slotNow 1 = .ok (.istore_n 1, 1) := by decide +kernel
theorem dX8_slotNow_2 : decode cX8_slotNow 2 = .ok (.iconst 0, 1) := by decide +kernel
theorem dX8_slotNow_3 : decode cX8_slotNow 3 = .ok (.istore_n 2, 1) := by decide +kernel
theorem dX8_slotNow_4 : decode cX8_slotNow 4 = .ok (.iload_n 2, 1) := by decide +kernel
theorem dX8_slotNow_5 : decode cX8_slotNow 5 = .ok (.bipush 14, 2) := by decide +kernel
theorem dX8_slotNow_7 : decode cX8_slotNow 7 = .ok (.if_icmp .ge 24, 3) := by decide +kernel
theorem dX8_slotNow_10 : decode cX8_slotNow 10 = .ok (.iload_n 1, 1) := by decide +kernel
theorem dX8_slotNow_11 : decode cX8_slotNow 11 = .ok (.bipush 31, 2) := by decide +kernel
theorem dX8_slotNow_13 : decode cX8_slotNow 13 = .ok (.imul, 1) := by decide +kernel
theorem dX8_slotNow_14 : decode cX8_slotNow 14 = .ok (.aload_n 0, 1) := by decide +kernel
theorem dX8_slotNow_15 : decode cX8_slotNow 15 = .ok (.iload_n 2, 1) := by decide +kernel
theorem dX8_slotNow_16 : decode cX8_slotNow 16 = .ok (.invokevirtual 406, 3) := by decide +kernel
theorem dX8_slotNow_19 : decode cX8_slotNow 19 = .ok (.iadd, 1) := by decide +kernel
theorem dX8_slotNow_20 : decode cX8_slotNow 20 = .ok (.ldc_w 409, 3) := by decide +kernel
theorem dX8_slotNow_23 : decode cX8_slotNow 23 = .ok (.irem, 1) := by decide +kernel
theorem dX8_slotNow_24 : decode cX8_slotNow 24 = .ok (.istore_n 1, 1) := by decide +kernel
theorem dX8_slotNow_25 : decode cX8_slotNow 25 = .ok (.iinc 2 1, 3) := by decide +kernel
theorem dX8_slotNow_28 : decode cX8_slotNow 28 = .ok (.goto (-24), 3) := by decide +kernel
theorem dX8_slotNow_31 : decode cX8_slotNow 31 = .ok (.iload_n 1, 1) := by decide +kernel
theorem dX8_slotNow_32 : decode cX8_slotNow 32 = .ok (.sipush 4096, 3) := by decide +kernel
theorem dX8_slotNow_35 : decode cX8_slotNow 35 = .ok (.irem, 1) := by decide +kernel
theorem dX8_slotNow_36 : decode cX8_slotNow 36 = .ok (.istore_n 2, 1) := by decide +kernel
theorem dX8_slotNow_37 : decode cX8_slotNow 37 = .ok (.aload_n 0, 1) := by decide +kernel
theorem dX8_slotNow_38 : decode cX8_slotNow 38 = .ok (.getfield 70, 3) := by decide +kernel
theorem dX8_slotNow_41 : decode cX8_slotNow 41 = .ok (.iload_n 2, 1) := by decide +kernel
theorem dX8_slotNow_42 : decode cX8_slotNow 42 = .ok (.iaload, 1) := by decide +kernel
theorem dX8_slotNow_43 : decode cX8_slotNow 43 = .ok (.ifCond .le 29, 3) := by decide +kernel
theorem dX8_slotNow_46 : decode cX8_slotNow 46 = .ok (.aload_n 0, 1) := by decide +kernel
theorem dX8_slotNow_47 : decode cX8_slotNow 47 = .ok (.aload_n 0, 1) := by decide +kernel
theorem dX8_slotNow_48 : decode cX8_slotNow 48 = .ok (.getfield 70, 3) := by decide +kernel
theorem dX8_slotNow_51 : decode cX8_slotNow 51 = .ok (.iload_n 2, 1) := by decide +kernel
theorem dX8_slotNow_52 : decode cX8_slotNow 52 = .ok (.iaload, 1) := by decide +kernel
theorem dX8_slotNow_53 : decode cX8_slotNow 53 = .ok (.iconst 1, 1) := by decide +kernel
theorem dX8_slotNow_54 : decode cX8_slotNow 54 = .ok (.isub, 1) := by decide +kernel
theorem dX8_slotNow_55 : decode cX8_slotNow 55 = .ok (.invokevirtual 410, 3) := by decide +kernel
theorem dX8_slotNow_58 : decode cX8_slotNow 58 = .ok (.ifCond .ne 14, 3) := by decide +kernel
theorem dX8_slotNow_61 : decode cX8_slotNow 61 = .ok (.iload_n 2, 1) := by decide +kernel
theorem dX8_slotNow_62 : decode cX8_slotNow 62 = .ok (.iconst 1, 1) := by decide +kernel
theorem dX8_slotNow_63 : decode cX8_slotNow 63 = .ok (.iadd, 1) := by decide +kernel
theorem dX8_slotNow_64 : decode cX8_slotNow 64 = .ok (.sipush 4096, 3) := by decide +kernel
theorem dX8_slotNow_67 : decode cX8_slotNow 67 = .ok (.irem, 1) := by decide +kernel
theorem dX8_slotNow_68 : decode cX8_slotNow 68 = .ok (.istore_n 2, 1) := by decide +kernel
theorem dX8_slotNow_69 : decode cX8_slotNow 69 = .ok (.goto (-32), 3) := by decide +kernel
theorem dX8_slotNow_72 : decode cX8_slotNow 72 = .ok (.iload_n 2, 1) := by decide +kernel
theorem dX8_slotNow_73 : decode cX8_slotNow 73 = .ok (.ireturn, 1) := by decide +kernel
theorem dX8_comes_0 : decode cX8_comes 0 = .ok (.iconst 0, 1) := by decide +kernel
theorem dX8_comes_1 : decode cX8_comes 1 = .ok (.istore 5, 2) := by decide +kernel
theorem dX8_comes_3 : decode cX8_comes 3 = .ok (.iload 5, 2) := by decide +kernel
theorem dX8_comes_5 : decode cX8_comes 5 = .ok (.bipush 14, 2) := by decide +kernel
theorem dX8_comes_7 : decode cX8_comes 7 = .ok (.if_icmp .ge 30, 3) := by decide +kernel
theorem dX8_comes_10 : decode cX8_comes 10 = .ok (.aload_n 0, 1) := by decide +kernel
theorem dX8_comes_11 : decode cX8_comes 11 = .ok (.getfield 48, 3) := by decide +kernel
theorem dX8_comes_14 : decode cX8_comes 14 = .ok (.bipush 14, 2) := by decide +kernel
theorem dX8_comes_16 : decode cX8_comes 16 = .ok (.aload_n 0, 1) := by decide +kernel
theorem dX8_comes_17 : decode cX8_comes 17 = .ok (.getfield 413, 3) := by decide +kernel
theorem dX8_comes_20 : decode cX8_comes 20 = .ok (.imul, 1) := by decide +kernel
theorem dX8_comes_21 : decode cX8_comes 21 = .ok (.iload 5, 2) := by decide +kernel
theorem dX8_comes_23 : decode cX8_comes 23 = .ok (.iadd, 1) := by decide +kernel
theorem dX8_comes_24 : decode cX8_comes 24 = .ok (.aload_n 0, 1) := by decide +kernel
theorem dX8_comes_25 : decode cX8_comes 25 = .ok (.iload 5, 2) := by decide +kernel
theorem dX8_comes_27 : decode cX8_comes 27 = .ok (.invokevirtual 406, 3) := by decide +kernel
theorem dX8_comes_30 : decode cX8_comes 30 = .ok (.iastore, 1) := by decide +kernel
theorem dX8_comes_31 : decode cX8_comes 31 = .ok (.iinc 5 1, 3) := by decide +kernel
theorem dX8_comes_34 : decode cX8_comes 34 = .ok (.goto (-31), 3) := by decide +kernel
theorem dX8_comes_37 : decode cX8_comes 37 = .ok (.aload_n 0, 1) := by decide +kernel
theorem dX8_comes_38 : decode cX8_comes 38 = .ok (.getfield 70, 3) := by decide +kernel
theorem dX8_comes_41 : decode cX8_comes 41 = .ok (.iload_n 1, 1) := by decide +kernel
theorem dX8_comes_42 : decode cX8_comes 42 = .ok (.aload_n 0, 1) := by decide +kernel
theorem dX8_comes_43 : decode cX8_comes 43 = .ok (.getfield 413, 3) := by decide +kernel
theorem dX8_comes_46 : decode cX8_comes 46 = .ok (.iconst 1, 1) := by decide +kernel
theorem dX8_comes_47 : decode cX8_comes 47 = .ok (.iadd, 1) := by decide +kernel
theorem dX8_comes_48 : decode cX8_comes 48 = .ok (.iastore, 1) := by decide +kernel
theorem dX8_comes_49 : decode cX8_comes 49 = .ok (.aload_n 0, 1) := by decide +kernel
theorem dX8_comes_50 : decode cX8_comes 50 = .ok (.getfield 60, 3) := by decide +kernel
theorem dX8_comes_53 : decode cX8_comes 53 = .ok (.aload_n 0, 1) := by decide +kernel
theorem dX8_comes_54 : decode cX8_comes 54 = .ok (.getfield 413, 3) := by decide +kernel
theorem dX8_comes_57 : decode cX8_comes 57 = .ok (.iconst 0, 1) := by decide +kernel
theorem dX8_comes_58 : decode cX8_comes 58 = .ok (.bastore, 1) := by decide +kernel
theorem dX8_comes_59 : decode cX8_comes 59 = .ok (.aload_n 0, 1) := by decide +kernel
theorem dX8_comes_60 : decode cX8_comes 60 = .ok (.getfield 51, 3) := by decide +kernel
theorem dX8_comes_63 : decode cX8_comes 63 = .ok (.aload_n 0, 1) := by decide +kernel
theorem dX8_comes_64 : decode cX8_comes 64 = .ok (.getfield 413, 3) := by decide +kernel
theorem dX8_comes_67 : decode cX8_comes 67 = .ok (.iload_n 2, 1) := by decide +kernel
theorem dX8_comes_68 : decode cX8_comes 68 = .ok (.iastore, 1) := by decide +kernel
theorem dX8_comes_69 : decode cX8_comes 69 = .ok (.aload_n 0, 1) := by decide +kernel
theorem dX8_comes_70 : decode cX8_comes 70 = .ok (.getfield 54, 3) := by decide +kernel
theorem dX8_comes_73 : decode cX8_comes 73 = .ok (.aload_n 0, 1) := by decide +kernel
theorem dX8_comes_74 : decode cX8_comes 74 = .ok (.getfield 413, 3) := by decide +kernel
theorem dX8_comes_77 : decode cX8_comes 77 = .ok (.iload_n 3, 1) := by decide +kernel
theorem dX8_comes_78 : decode cX8_comes 78 = .ok (.iastore, 1) := by decide +kernel
theorem dX8_comes_79 : decode cX8_comes 79 = .ok (.aload_n 0, 1) := by decide +kernel
theorem dX8_comes_80 : decode cX8_comes 80 = .ok (.getfield 57, 3) := by decide +kernel
theorem dX8_comes_83 : decode cX8_comes 83 = .ok (.aload_n 0, 1) := by decide +kernel
theorem dX8_comes_84 : decode cX8_comes 84 = .ok (.getfield 413, 3) := by decide +kernel
theorem dX8_comes_87 : decode cX8_comes 87 = .ok (.iload 4, 2) := by decide +kernel
theorem dX8_comes_89 : decode cX8_comes 89 = .ok (.iastore, 1) := by decide +kernel
theorem dX8_comes_90 : decode cX8_comes 90 = .ok (.aload_n 0, 1) := by decide +kernel
theorem dX8_comes_91 : decode cX8_comes 91 = .ok (.dup, 1) := by decide +kernel
theorem dX8_comes_92 : decode cX8_comes 92 = .ok (.getfield 413, 3) := by decide +kernel
theorem dX8_comes_95 : decode cX8_comes 95 = .ok (.iconst 1, 1) := by decide +kernel
theorem dX8_comes_96 : decode cX8_comes 96 = .ok (.iadd, 1) := by decide +kernel
theorem dX8_comes_97 : decode cX8_comes 97 = .ok (.putfield 413, 3) := by decide +kernel
theorem dX8_comes_100 : decode cX8_comes 100 = .ok (.return_, 1) := by decide +kernel
theorem dX8_stands_0 : decode cX8_stands 0 = .ok (.iconst 0, 1) := by decide +kernel
theorem dX8_stands_1 : decode cX8_stands 1 = .ok (.istore_n 2, 1) := by decide +kernel
theorem dX8_stands_2 : decode cX8_stands 2 = .ok (.iload_n 2, 1) := by decide +kernel
theorem dX8_stands_3 : decode cX8_stands 3 = .ok (.aload_n 0, 1) := by decide +kernel
theorem dX8_stands_4 : decode cX8_stands 4 = .ok (.getfield 42, 3) := by decide +kernel
theorem dX8_stands_7 : decode cX8_stands 7 = .ok (.iconst 1, 1) := by decide +kernel
theorem dX8_stands_8 : decode cX8_stands 8 = .ok (.iaload, 1) := by decide +kernel
theorem dX8_stands_9 : decode cX8_stands 9 = .ok (.if_icmp .ge 33, 3) := by decide +kernel
theorem dX8_stands_12 : decode cX8_stands 12 = .ok (.aload_n 0, 1) := by decide +kernel
theorem dX8_stands_13 : decode cX8_stands 13 = .ok (.getfield 42, 3) := by decide +kernel
theorem dX8_stands_16 : decode cX8_stands 16 = .ok (.bipush 25, 2) := by decide +kernel
theorem dX8_stands_18 : decode cX8_stands 18 = .ok (.iconst 5, 1) := by decide +kernel
theorem dX8_stands_19 : decode cX8_stands 19 = .ok (.iload_n 2, 1) := by decide +kernel
theorem dX8_stands_20 : decode cX8_stands 20 = .ok (.imul, 1) := by decide +kernel
theorem dX8_stands_21 : decode cX8_stands 21 = .ok (.iadd, 1) := by decide +kernel
theorem dX8_stands_22 : decode cX8_stands 22 = .ok (.iconst 4, 1) := by decide +kernel
theorem dX8_stands_23 : decode cX8_stands 23 = .ok (.iadd, 1) := by decide +kernel
theorem dX8_stands_24 : decode cX8_stands 24 = .ok (.aload_n 0, 1) := by decide +kernel
theorem dX8_stands_25 : decode cX8_stands 25 = .ok (.getfield 48, 3) := by decide +kernel
theorem dX8_stands_28 : decode cX8_stands 28 = .ok (.bipush 14, 2) := by decide +kernel
theorem dX8_stands_30 : decode cX8_stands 30 = .ok (.iload_n 1, 1) := by decide +kernel
theorem dX8_stands_31 : decode cX8_stands 31 = .ok (.imul, 1) := by decide +kernel
theorem dX8_stands_32 : decode cX8_stands 32 = .ok (.iload_n 2, 1) := by decide +kernel
theorem dX8_stands_33 : decode cX8_stands 33 = .ok (.iadd, 1) := by decide +kernel
theorem dX8_stands_34 : decode cX8_stands 34 = .ok (.iaload, 1) := by decide +kernel
theorem dX8_stands_35 : decode cX8_stands 35 = .ok (.iastore, 1) := by decide +kernel
theorem dX8_stands_36 : decode cX8_stands 36 = .ok (.iinc 2 1, 3) := by decide +kernel
theorem dX8_stands_39 : decode cX8_stands 39 = .ok (.goto (-37), 3) := by decide +kernel
theorem dX8_stands_42 : decode cX8_stands 42 = .ok (.iconst 0, 1) := by decide +kernel
theorem dX8_stands_43 : decode cX8_stands 43 = .ok (.istore_n 2, 1) := by decide +kernel
theorem dX8_stands_44 : decode cX8_stands 44 = .ok (.iload_n 2, 1) := by decide +kernel
theorem dX8_stands_45 : decode cX8_stands 45 = .ok (.aload_n 0, 1) := by decide +kernel
theorem dX8_stands_46 : decode cX8_stands 46 = .ok (.getfield 42, 3) := by decide +kernel
theorem dX8_stands_49 : decode cX8_stands 49 = .ok (.iconst 0, 1) := by decide +kernel
theorem dX8_stands_50 : decode cX8_stands 50 = .ok (.iaload, 1) := by decide +kernel
theorem dX8_stands_51 : decode cX8_stands 51 = .ok (.if_icmp .ge 34, 3) := by decide +kernel
theorem dX8_stands_54 : decode cX8_stands 54 = .ok (.aload_n 0, 1) := by decide +kernel
theorem dX8_stands_55 : decode cX8_stands 55 = .ok (.getfield 42, 3) := by decide +kernel
theorem dX8_stands_58 : decode cX8_stands 58 = .ok (.bipush 9, 2) := by decide +kernel
theorem dX8_stands_60 : decode cX8_stands 60 = .ok (.iconst 2, 1) := by decide +kernel
theorem dX8_stands_61 : decode cX8_stands 61 = .ok (.iload_n 2, 1) := by decide +kernel
theorem dX8_stands_62 : decode cX8_stands 62 = .ok (.imul, 1) := by decide +kernel
theorem dX8_stands_63 : decode cX8_stands 63 = .ok (.iadd, 1) := by decide +kernel
theorem dX8_stands_64 : decode cX8_stands 64 = .ok (.aload_n 0, 1) := by decide +kernel
theorem dX8_stands_65 : decode cX8_stands 65 = .ok (.getfield 48, 3) := by decide +kernel
theorem dX8_stands_68 : decode cX8_stands 68 = .ok (.bipush 14, 2) := by decide +kernel
theorem dX8_stands_70 : decode cX8_stands 70 = .ok (.iload_n 1, 1) := by decide +kernel
theorem dX8_stands_71 : decode cX8_stands 71 = .ok (.imul, 1) := by decide +kernel
theorem dX8_stands_72 : decode cX8_stands 72 = .ok (.bipush 6, 2) := by decide +kernel
theorem dX8_stands_74 : decode cX8_stands 74 = .ok (.iadd, 1) := by decide +kernel
theorem dX8_stands_75 : decode cX8_stands 75 = .ok (.iload_n 2, 1) := by decide +kernel
theorem dX8_stands_76 : decode cX8_stands 76 = .ok (.iadd, 1) := by decide +kernel
theorem dX8_stands_77 : decode cX8_stands 77 = .ok (.iaload, 1) := by decide +kernel
theorem dX8_stands_78 : decode cX8_stands 78 = .ok (.iastore, 1) := by decide +kernel
theorem dX8_stands_79 : decode cX8_stands 79 = .ok (.iinc 2 1, 3) := by decide +kernel
theorem dX8_stands_82 : decode cX8_stands 82 = .ok (.goto (-38), 3) := by decide +kernel
theorem dX8_stands_85 : decode cX8_stands 85 = .ok (.aload_n 0, 1) := by decide +kernel
theorem dX8_stands_86 : decode cX8_stands 86 = .ok (.getfield 42, 3) := by decide +kernel
theorem dX8_stands_89 : decode cX8_stands 89 = .ok (.iconst 3, 1) := by decide +kernel
theorem dX8_stands_90 : decode cX8_stands 90 = .ok (.aload_n 0, 1) := by decide +kernel
theorem dX8_stands_91 : decode cX8_stands 91 = .ok (.getfield 45, 3) := by decide +kernel
theorem dX8_stands_94 : decode cX8_stands 94 = .ok (.iconst 3, 1) := by decide +kernel
theorem dX8_stands_95 : decode cX8_stands 95 = .ok (.iaload, 1) := by decide +kernel
theorem dX8_stands_96 : decode cX8_stands 96 = .ok (.iastore, 1) := by decide +kernel
theorem dX8_stands_97 : decode cX8_stands 97 = .ok (.return_, 1) := by decide +kernel
theorem dX8_least_0 : decode cX8_least 0 = .ok (.iconst (-1), 1) := by decide +kernel
theorem dX8_least_1 : decode cX8_least 1 = .ok (.istore_n 1, 1) := by decide +kernel
theorem dX8_least_2 : decode cX8_least 2 = .ok (.iconst 0, 1) := by decide +kernel
theorem dX8_least_3 : decode cX8_least 3 = .ok (.istore_n 2, 1) := by decide +kernel
theorem dX8_least_4 : decode cX8_least 4 = .ok (.iload_n 2, 1) := by decide +kernel
theorem dX8_least_5 : decode cX8_least 5 = .ok (.aload_n 0, 1) := by decide +kernel
theorem dX8_least_6 : decode cX8_least 6 = .ok (.getfield 413, 3) := by decide +kernel
theorem dX8_least_9 : decode cX8_least 9 = .ok (.if_icmp .ge 39, 3) := by decide +kernel
theorem dX8_least_12 : decode cX8_least 12 = .ok (.aload_n 0, 1) := by decide +kernel
theorem dX8_least_13 : decode cX8_least 13 = .ok (.getfield 60, 3) := by decide +kernel
theorem dX8_least_16 : decode cX8_least 16 = .ok (.iload_n 2, 1) := by decide +kernel
theorem dX8_least_17 : decode cX8_least 17 = .ok (.baload, 1) := by decide +kernel
theorem dX8_least_18 : decode cX8_least 18 = .ok (.ifCond .ne 24, 3) := by decide +kernel
theorem dX8_least_21 : decode cX8_least 21 = .ok (.iload_n 1, 1) := by decide +kernel
theorem dX8_least_22 : decode cX8_least 22 = .ok (.ifCond .lt 18, 3) := by decide +kernel
theorem dX8_least_25 : decode cX8_least 25 = .ok (.aload_n 0, 1) := by decide +kernel
theorem dX8_least_26 : decode cX8_least 26 = .ok (.getfield 51, 3) := by decide +kernel
theorem dX8_least_29 : decode cX8_least 29 = .ok (.iload_n 2, 1) := by decide +kernel
theorem dX8_least_30 : decode cX8_least 30 = .ok (.iaload, 1) := by decide +kernel
theorem dX8_least_31 : decode cX8_least 31 = .ok (.aload_n 0, 1) := by decide +kernel
theorem dX8_least_32 : decode cX8_least 32 = .ok (.getfield 51, 3) := by decide +kernel
theorem dX8_least_35 : decode cX8_least 35 = .ok (.iload_n 1, 1) := by decide +kernel
theorem dX8_least_36 : decode cX8_least 36 = .ok (.iaload, 1) := by decide +kernel
theorem dX8_least_37 : decode cX8_least 37 = .ok (.if_icmp .ge 5, 3) := by decide +kernel
theorem dX8_least_40 : decode cX8_least 40 = .ok (.iload_n 2, 1) := by decide +kernel
theorem dX8_least_41 : decode cX8_least 41 = .ok (.istore_n 1, 1) := by decide +kernel
theorem dX8_least_42 : decode cX8_least 42 = .ok (.iinc 2 1, 3) := by decide +kernel
theorem dX8_least_45 : decode cX8_least 45 = .ok (.goto (-41), 3) := by decide +kernel
theorem dX8_least_48 : decode cX8_least 48 = .ok (.iload_n 1, 1) := by decide +kernel
theorem dX8_least_49 : decode cX8_least 49 = .ok (.ireturn, 1) := by decide +kernel
theorem dX8_leads_0 : decode cX8_leads 0 = .ok (.aload_n 0, 1) := by decide +kernel
theorem dX8_leads_1 : decode cX8_leads 1 = .ok (.iload_n 2, 1) := by decide +kernel
theorem dX8_leads_2 : decode cX8_leads 2 = .ok (.invokevirtual 371, 3) := by decide +kernel
theorem dX8_leads_5 : decode cX8_leads 5 = .ok (.istore 4, 2) := by decide +kernel
theorem dX8_leads_7 : decode cX8_leads 7 = .ok (.aload_n 0, 1) := by decide +kernel
theorem dX8_leads_8 : decode cX8_leads 8 = .ok (.iload_n 2, 1) := by decide +kernel
theorem dX8_leads_9 : decode cX8_leads 9 = .ok (.invokevirtual 374, 3) := by decide +kernel
theorem dX8_leads_12 : decode cX8_leads 12 = .ok (.istore 5, 2) := by decide +kernel
theorem dX8_leads_14 : decode cX8_leads 14 = .ok (.aload_n 0, 1) := by decide +kernel
theorem dX8_leads_15 : decode cX8_leads 15 = .ok (.getfield 51, 3) := by decide +kernel
theorem dX8_leads_18 : decode cX8_leads 18 = .ok (.iload_n 1, 1) := by decide +kernel
theorem dX8_leads_19 : decode cX8_leads 19 = .ok (.iaload, 1) := by decide +kernel
theorem dX8_leads_20 : decode cX8_leads 20 = .ok (.iload_n 3, 1) := by decide +kernel
theorem dX8_leads_21 : decode cX8_leads 21 = .ok (.ifCond .eq 14, 3) := by decide +kernel
theorem dX8_leads_24 : decode cX8_leads 24 = .ok (.aload_n 0, 1) := by decide +kernel
theorem dX8_leads_25 : decode cX8_leads 25 = .ok (.iload 4, 2) := by decide +kernel
theorem dX8_leads_27 : decode cX8_leads 27 = .ok (.iload 5, 2) := by decide +kernel
theorem dX8_leads_29 : decode cX8_leads 29 = .ok (.invokevirtual 327, 3) := by decide +kernel
theorem dX8_leads_32 : decode cX8_leads 32 = .ok (.goto 11, 3) := by decide +kernel
theorem dX8_leads_35 : decode cX8_leads 35 = .ok (.aload_n 0, 1) := by decide +kernel
theorem dX8_leads_36 : decode cX8_leads 36 = .ok (.iload 4, 2) := by decide +kernel
theorem dX8_leads_38 : decode cX8_leads 38 = .ok (.iload 5, 2) := by decide +kernel
theorem dX8_leads_40 : decode cX8_leads 40 = .ok (.invokevirtual 350, 3) := by decide +kernel
theorem dX8_leads_43 : decode cX8_leads 43 = .ok (.iadd, 1) := by decide +kernel
theorem dX8_leads_44 : decode cX8_leads 44 = .ok (.istore 6, 2) := by decide +kernel
theorem dX8_leads_46 : decode cX8_leads 46 = .ok (.aload_n 0, 1) := by decide +kernel
theorem dX8_leads_47 : decode cX8_leads 47 = .ok (.aload_n 0, 1) := by decide +kernel
theorem dX8_leads_48 : decode cX8_leads 48 = .ok (.iload_n 2, 1) := by decide +kernel
theorem dX8_leads_49 : decode cX8_leads 49 = .ok (.invokevirtual 377, 3) := by decide +kernel
theorem dX8_leads_52 : decode cX8_leads 52 = .ok (.iload 4, 2) := by decide +kernel
theorem dX8_leads_54 : decode cX8_leads 54 = .ok (.iload 5, 2) := by decide +kernel
theorem dX8_leads_56 : decode cX8_leads 56 = .ok (.invokevirtual 366, 3) := by decide +kernel
theorem dX8_leads_59 : decode cX8_leads 59 = .ok (.pop, 1) := by decide +kernel
theorem dX8_leads_60 : decode cX8_leads 60 = .ok (.aload_n 0, 1) := by decide +kernel
theorem dX8_leads_61 : decode cX8_leads 61 = .ok (.invokevirtual 416, 3) := by decide +kernel
theorem dX8_leads_64 : decode cX8_leads 64 = .ok (.istore 7, 2) := by decide +kernel
theorem dX8_leads_66 : decode cX8_leads 66 = .ok (.aload_n 0, 1) := by decide +kernel
theorem dX8_leads_67 : decode cX8_leads 67 = .ok (.getfield 70, 3) := by decide +kernel
theorem dX8_leads_70 : decode cX8_leads 70 = .ok (.iload 7, 2) := by decide +kernel
theorem dX8_leads_72 : decode cX8_leads 72 = .ok (.iaload, 1) := by decide +kernel
theorem dX8_leads_73 : decode cX8_leads 73 = .ok (.ifCond .ne 40, 3) := by decide +kernel
theorem dX8_leads_76 : decode cX8_leads 76 = .ok (.aload_n 0, 1) := by decide +kernel
theorem dX8_leads_77 : decode cX8_leads 77 = .ok (.aload_n 0, 1) := by decide +kernel
theorem dX8_leads_78 : decode cX8_leads 78 = .ok (.getfield 413, 3) := by decide +kernel
theorem dX8_leads_81 : decode cX8_leads 81 = .ok (.sipush 1500, 3) := by decide +kernel
theorem dX8_leads_84 : decode cX8_leads 84 = .ok (.if_icmp .ne 7, 3) := by decide +kernel
theorem dX8_leads_87 : decode cX8_leads 87 = .ok (.iconst 1, 1) := by decide +kernel
theorem dX8_leads_88 : decode cX8_leads 88 = .ok (.goto 4, 3) := by decide +kernel
theorem dX8_leads_91 : decode cX8_leads 91 = .ok (.iconst 0, 1) := by decide +kernel
theorem dX8_leads_92 : decode cX8_leads 92 = .ok (.putfield 419, 3) := by decide +kernel
theorem dX8_leads_95 : decode cX8_leads 95 = .ok (.aload_n 0, 1) := by decide +kernel
theorem dX8_leads_96 : decode cX8_leads 96 = .ok (.getfield 419, 3) := by decide +kernel
theorem dX8_leads_99 : decode cX8_leads 99 = .ok (.ifCond .ne 13, 3) := by decide +kernel
theorem dX8_leads_102 : decode cX8_leads 102 = .ok (.aload_n 0, 1) := by decide +kernel
theorem dX8_leads_103 : decode cX8_leads 103 = .ok (.iload 7, 2) := by decide +kernel
theorem dX8_leads_105 : decode cX8_leads 105 = .ok (.iload 6, 2) := by decide +kernel
theorem dX8_leads_107 : decode cX8_leads 107 = .ok (.iload_n 1, 1) := by decide +kernel
theorem dX8_leads_108 : decode cX8_leads 108 = .ok (.iload_n 2, 1) := by decide +kernel
theorem dX8_leads_109 : decode cX8_leads 109 = .ok (.invokevirtual 422, 3) := by decide +kernel
theorem dX8_leads_112 : decode cX8_leads 112 = .ok (.return_, 1) := by decide +kernel
theorem dX8_leads_113 : decode cX8_leads 113 = .ok (.aload_n 0, 1) := by decide +kernel
theorem dX8_leads_114 : decode cX8_leads 114 = .ok (.getfield 70, 3) := by decide +kernel
theorem dX8_leads_117 : decode cX8_leads 117 = .ok (.iload 7, 2) := by decide +kernel
theorem dX8_leads_119 : decode cX8_leads 119 = .ok (.iaload, 1) := by decide +kernel
theorem dX8_leads_120 : decode cX8_leads 120 = .ok (.iconst 1, 1) := by decide +kernel
theorem dX8_leads_121 : decode cX8_leads 121 = .ok (.isub, 1) := by decide +kernel
theorem dX8_leads_122 : decode cX8_leads 122 = .ok (.istore 8, 2) := by decide +kernel
theorem dX8_leads_124 : decode cX8_leads 124 = .ok (.aload_n 0, 1) := by decide +kernel
theorem dX8_leads_125 : decode cX8_leads 125 = .ok (.getfield 60, 3) := by decide +kernel
theorem dX8_leads_128 : decode cX8_leads 128 = .ok (.iload 8, 2) := by decide +kernel
theorem dX8_leads_130 : decode cX8_leads 130 = .ok (.baload, 1) := by decide +kernel
theorem dX8_leads_131 : decode cX8_leads 131 = .ok (.ifCond .ne 15, 3) := by decide +kernel
theorem dX8_leads_134 : decode cX8_leads 134 = .ok (.iload 6, 2) := by decide +kernel
theorem dX8_leads_136 : decode cX8_leads 136 = .ok (.aload_n 0, 1) := by decide +kernel
theorem dX8_leads_137 : decode cX8_leads 137 = .ok (.getfield 51, 3) := by decide +kernel
theorem dX8_leads_140 : decode cX8_leads 140 = .ok (.iload 8, 2) := by decide +kernel
theorem dX8_leads_142 : decode cX8_leads 142 = .ok (.iaload, 1) := by decide +kernel
theorem dX8_leads_143 : decode cX8_leads 143 = .ok (.if_icmp .lt 4, 3) := by decide +kernel
theorem dX8_leads_146 : decode cX8_leads 146 = .ok (.return_, 1) := by decide +kernel
theorem dX8_leads_147 : decode cX8_leads 147 = .ok (.aload_n 0, 1) := by decide +kernel
theorem dX8_leads_148 : decode cX8_leads 148 = .ok (.getfield 51, 3) := by decide +kernel
theorem dX8_leads_151 : decode cX8_leads 151 = .ok (.iload 8, 2) := by decide +kernel
theorem dX8_leads_153 : decode cX8_leads 153 = .ok (.iload 6, 2) := by decide +kernel
theorem dX8_leads_155 : decode cX8_leads 155 = .ok (.iastore, 1) := by decide +kernel
theorem dX8_leads_156 : decode cX8_leads 156 = .ok (.aload_n 0, 1) := by decide +kernel
theorem dX8_leads_157 : decode cX8_leads 157 = .ok (.getfield 54, 3) := by decide +kernel
theorem dX8_leads_160 : decode cX8_leads 160 = .ok (.iload 8, 2) := by decide +kernel
theorem dX8_leads_162 : decode cX8_leads 162 = .ok (.iload_n 1, 1) := by decide +kernel
theorem dX8_leads_163 : decode cX8_leads 163 = .ok (.iastore, 1) := by decide +kernel
theorem dX8_leads_164 : decode cX8_leads 164 = .ok (.aload_n 0, 1) := by decide +kernel
theorem dX8_leads_165 : decode cX8_leads 165 = .ok (.getfield 57, 3) := by decide +kernel
theorem dX8_leads_168 : decode cX8_leads 168 = .ok (.iload 8, 2) := by decide +kernel
theorem dX8_leads_170 : decode cX8_leads 170 = .ok (.iload_n 2, 1) := by decide +kernel
theorem dX8_leads_171 : decode cX8_leads 171 = .ok (.iastore, 1) := by decide +kernel
theorem dX8_leads_172 : decode cX8_leads 172 = .ok (.return_, 1) := by decide +kernel
theorem dX8_goesThrough_0 : decode cX8_goesThrough 0 = .ok (.iconst 0, 1) := by decide +kernel
theorem dX8_goesThrough_1 : decode cX8_goesThrough 1 = .ok (.istore_n 2, 1) := by decide +kernel
theorem dX8_goesThrough_2 : decode cX8_goesThrough 2 = .ok (.iload_n 2, 1) := by decide +kernel
theorem dX8_goesThrough_3 : decode cX8_goesThrough 3 = .ok (.sipush 4096, 3) := by decide +kernel
theorem dX8_goesThrough_6 : decode cX8_goesThrough 6 = .ok (.if_icmp .ge 16, 3) := by decide +kernel
theorem dX8_goesThrough_9 : decode cX8_goesThrough 9 = .ok (.aload_n 0, 1) := by decide +kernel
theorem dX8_goesThrough_10 : decode cX8_goesThrough 10 = .ok (.getfield 70, 3) := by decide +kernel
theorem dX8_goesThrough_13 : decode cX8_goesThrough 13 = .ok (.iload_n 2, 1) := by decide +kernel
theorem dX8_goesThrough_14 : decode cX8_goesThrough 14 = .ok (.iconst 0, 1) := by decide +kernel
theorem dX8_goesThrough_15 : decode cX8_goesThrough 15 = .ok (.iastore, 1) := by decide +kernel
theorem dX8_goesThrough_16 : decode cX8_goesThrough 16 = .ok (.iinc 2 1, 3) := by decide +kernel
theorem dX8_goesThrough_19 : decode cX8_goesThrough 19 = .ok (.goto (-17), 3) := by decide +kernel
theorem dX8_goesThrough_22 : decode cX8_goesThrough 22 = .ok (.aload_n 0, 1) := by decide +kernel
theorem dX8_goesThrough_23 : decode cX8_goesThrough 23 = .ok (.iconst 0, 1) := by decide +kernel
theorem dX8_goesThrough_24 : decode cX8_goesThrough 24 = .ok (.putfield 413, 3) := by decide +kernel
theorem dX8_goesThrough_27 : decode cX8_goesThrough 27 = .ok (.aload_n 0, 1) := by decide +kernel
theorem dX8_goesThrough_28 : decode cX8_goesThrough 28 = .ok (.iconst 0, 1) := by decide +kernel
theorem dX8_goesThrough_29 : decode cX8_goesThrough 29 = .ok (.putfield 426, 3) := by decide +kernel
theorem dX8_goesThrough_32 : decode cX8_goesThrough 32 = .ok (.aload_n 0, 1) := by decide +kernel
theorem dX8_goesThrough_33 : decode cX8_goesThrough 33 = .ok (.iconst 0, 1) := by decide +kernel
theorem dX8_goesThrough_34 : decode cX8_goesThrough 34 = .ok (.putfield 419, 3) := by decide +kernel
theorem dX8_goesThrough_37 : decode cX8_goesThrough 37 = .ok (.aload_n 0, 1) := by decide +kernel
theorem dX8_goesThrough_38 : decode cX8_goesThrough 38 = .ok (.invokevirtual 397, 3) := by decide +kernel
theorem dX8_goesThrough_41 : decode cX8_goesThrough 41 = .ok (.aload_n 0, 1) := by decide +kernel
theorem dX8_goesThrough_42 : decode cX8_goesThrough 42 = .ok (.aload_n 0, 1) := by decide +kernel
theorem dX8_goesThrough_43 : decode cX8_goesThrough 43 = .ok (.invokevirtual 416, 3) := by decide +kernel
theorem dX8_goesThrough_46 : decode cX8_goesThrough 46 = .ok (.iconst 0, 1) := by decide +kernel
theorem dX8_goesThrough_47 : decode cX8_goesThrough 47 = .ok (.iconst (-1), 1) := by decide +kernel
theorem dX8_goesThrough_48 : decode cX8_goesThrough 48 = .ok (.iconst 0, 1) := by decide +kernel
theorem dX8_goesThrough_49 : decode cX8_goesThrough 49 = .ok (.invokevirtual 422, 3) := by decide +kernel
theorem dX8_goesThrough_52 : decode cX8_goesThrough 52 = .ok (.iconst 0, 1) := by decide +kernel
theorem dX8_goesThrough_53 : decode cX8_goesThrough 53 = .ok (.istore_n 2, 1) := by decide +kernel
theorem dX8_goesThrough_54 : decode cX8_goesThrough 54 = .ok (.iload_n 2, 1) := by decide +kernel
theorem dX8_goesThrough_55 : decode cX8_goesThrough 55 = .ok (.ifCond .lt 103, 3) := by decide +kernel
theorem dX8_goesThrough_58 : decode cX8_goesThrough 58 = .ok (.aload_n 0, 1) := by decide +kernel
theorem dX8_goesThrough_59 : decode cX8_goesThrough 59 = .ok (.getfield 419, 3) := by decide +kernel
theorem dX8_goesThrough_62 : decode cX8_goesThrough 62 = .ok (.ifCond .ne 96, 3) := by decide +kernel
theorem dX8_goesThrough_65 : decode cX8_goesThrough 65 = .ok (.aload_n 0, 1) := by decide +kernel
theorem dX8_goesThrough_66 : decode cX8_goesThrough 66 = .ok (.getfield 60, 3) := by decide +kernel
theorem dX8_goesThrough_69 : decode cX8_goesThrough 69 = .ok (.iload_n 2, 1) := by decide +kernel
theorem dX8_goesThrough_70 : decode cX8_goesThrough 70 = .ok (.iconst 1, 1) := by decide +kernel
theorem dX8_goesThrough_71 : decode cX8_goesThrough 71 = .ok (.bastore, 1) := by decide +kernel
theorem dX8_goesThrough_72 : decode cX8_goesThrough 72 = .ok (.aload_n 0, 1) := by decide +kernel
theorem dX8_goesThrough_73 : decode cX8_goesThrough 73 = .ok (.getfield 64, 3) := by decide +kernel
theorem dX8_goesThrough_76 : decode cX8_goesThrough 76 = .ok (.aload_n 0, 1) := by decide +kernel
theorem dX8_goesThrough_77 : decode cX8_goesThrough 77 = .ok (.getfield 426, 3) := by decide +kernel
theorem dX8_goesThrough_80 : decode cX8_goesThrough 80 = .ok (.iload_n 2, 1) := by decide +kernel
theorem dX8_goesThrough_81 : decode cX8_goesThrough 81 = .ok (.iastore, 1) := by decide +kernel
theorem dX8_goesThrough_82 : decode cX8_goesThrough 82 = .ok (.aload_n 0, 1) := by decide +kernel
theorem dX8_goesThrough_83 : decode cX8_goesThrough 83 = .ok (.iload_n 2, 1) := by decide +kernel
theorem dX8_goesThrough_84 : decode cX8_goesThrough 84 = .ok (.invokevirtual 429, 3) := by decide +kernel
theorem dX8_goesThrough_87 : decode cX8_goesThrough 87 = .ok (.aload_n 0, 1) := by decide +kernel
theorem dX8_goesThrough_88 : decode cX8_goesThrough 88 = .ok (.getfield 67, 3) := by decide +kernel
theorem dX8_goesThrough_91 : decode cX8_goesThrough 91 = .ok (.aload_n 0, 1) := by decide +kernel
theorem dX8_goesThrough_92 : decode cX8_goesThrough 92 = .ok (.getfield 426, 3) := by decide +kernel
theorem dX8_goesThrough_95 : decode cX8_goesThrough 95 = .ok (.aload_n 0, 1) := by decide +kernel
theorem dX8_goesThrough_96 : decode cX8_goesThrough 96 = .ok (.invokevirtual 394, 3) := by decide +kernel
theorem dX8_goesThrough_99 : decode cX8_goesThrough 99 = .ok (.iastore, 1) := by decide +kernel
theorem dX8_goesThrough_100 : decode cX8_goesThrough 100 = .ok (.aload_n 0, 1) := by decide +kernel
theorem dX8_goesThrough_101 : decode cX8_goesThrough 101 = .ok (.dup, 1) := by decide +kernel
theorem dX8_goesThrough_102 : decode cX8_goesThrough 102 = .ok (.getfield 426, 3) := by decide +kernel
theorem dX8_goesThrough_105 : decode cX8_goesThrough 105 = .ok (.iconst 1, 1) := by decide +kernel
theorem dX8_goesThrough_106 : decode cX8_goesThrough 106 = .ok (.iadd, 1) := by decide +kernel
theorem dX8_goesThrough_107 : decode cX8_goesThrough 107 = .ok (.putfield 426, 3) := by decide +kernel
theorem dX8_goesThrough_110 : decode cX8_goesThrough 110 = .ok (.aload_n 0, 1) := by decide +kernel
theorem dX8_goesThrough_111 : decode cX8_goesThrough 111 = .ok (.iconst 0, 1) := by decide +kernel
theorem dX8_goesThrough_112 : decode cX8_goesThrough 112 = .ok (.invokevirtual 386, 3) := by decide +kernel
theorem dX8_goesThrough_115 : decode cX8_goesThrough 115 = .ok (.istore_n 3, 1) := by decide +kernel
theorem dX8_goesThrough_116 : decode cX8_goesThrough 116 = .ok (.iload_n 3, 1) := by decide +kernel
theorem dX8_goesThrough_117 : decode cX8_goesThrough 117 = .ok (.ifCond .lt 33, 3) := by decide +kernel
theorem dX8_goesThrough_120 : decode cX8_goesThrough 120 = .ok (.aload_n 0, 1) := by decide +kernel
theorem dX8_goesThrough_121 : decode cX8_goesThrough 121 = .ok (.getfield 419, 3) := by decide +kernel
theorem dX8_goesThrough_124 : decode cX8_goesThrough 124 = .ok (.ifCond .ne 26, 3) := by decide +kernel
theorem dX8_goesThrough_127 : decode cX8_goesThrough 127 = .ok (.aload_n 0, 1) := by decide +kernel
theorem dX8_goesThrough_128 : decode cX8_goesThrough 128 = .ok (.iload_n 2, 1) := by decide +kernel
theorem dX8_goesThrough_129 : decode cX8_goesThrough 129 = .ok (.iload_n 3, 1) := by decide +kernel
theorem dX8_goesThrough_130 : decode cX8_goesThrough 130 = .ok (.iload_n 1, 1) := by decide +kernel
theorem dX8_goesThrough_131 : decode cX8_goesThrough 131 = .ok (.invokevirtual 432, 3) := by decide +kernel
theorem dX8_goesThrough_134 : decode cX8_goesThrough 134 = .ok (.aload_n 0, 1) := by decide +kernel
theorem dX8_goesThrough_135 : decode cX8_goesThrough 135 = .ok (.iload_n 2, 1) := by decide +kernel
theorem dX8_goesThrough_136 : decode cX8_goesThrough 136 = .ok (.invokevirtual 429, 3) := by decide +kernel
theorem dX8_goesThrough_139 : decode cX8_goesThrough 139 = .ok (.aload_n 0, 1) := by decide +kernel
theorem dX8_goesThrough_140 : decode cX8_goesThrough 140 = .ok (.iload_n 3, 1) := by decide +kernel
theorem dX8_goesThrough_141 : decode cX8_goesThrough 141 = .ok (.iconst 1, 1) := by decide +kernel
theorem dX8_goesThrough_142 : decode cX8_goesThrough 142 = .ok (.iadd, 1) := by decide +kernel
theorem dX8_goesThrough_143 : decode cX8_goesThrough 143 = .ok (.invokevirtual 386, 3) := by decide +kernel
theorem dX8_goesThrough_146 : decode cX8_goesThrough 146 = .ok (.istore_n 3, 1) := by decide +kernel
theorem dX8_goesThrough_147 : decode cX8_goesThrough 147 = .ok (.goto (-31), 3) := by decide +kernel
theorem dX8_goesThrough_150 : decode cX8_goesThrough 150 = .ok (.aload_n 0, 1) := by decide +kernel
theorem dX8_goesThrough_151 : decode cX8_goesThrough 151 = .ok (.invokevirtual 436, 3) := by decide +kernel
theorem dX8_goesThrough_154 : decode cX8_goesThrough 154 = .ok (.istore_n 2, 1) := by decide +kernel
theorem dX8_goesThrough_155 : decode cX8_goesThrough 155 = .ok (.goto (-101), 3) := by decide +kernel
theorem dX8_goesThrough_158 : decode cX8_goesThrough 158 = .ok (.aload_n 0, 1) := by decide +kernel
theorem dX8_goesThrough_159 : decode cX8_goesThrough 159 = .ok (.invokevirtual 403, 3) := by decide +kernel
theorem dX8_goesThrough_162 : decode cX8_goesThrough 162 = .ok (.return_, 1) := by decide +kernel
theorem dX8_endOf_0 : decode cX8_endOf 0 = .ok (.iconst 0, 1) := by decide +kernel
theorem dX8_endOf_1 : decode cX8_endOf 1 = .ok (.istore_n 2, 1) := by decide +kernel
theorem dX8_endOf_2 : decode cX8_endOf 2 = .ok (.iload_n 2, 1) := by decide +kernel
theorem dX8_endOf_3 : decode cX8_endOf 3 = .ok (.aload_n 0, 1) := by decide +kernel
theorem dX8_endOf_4 : decode cX8_endOf 4 = .ok (.getfield 426, 3) := by decide +kernel
theorem dX8_endOf_7 : decode cX8_endOf 7 = .ok (.if_icmp .ge 28, 3) := by decide +kernel
theorem dX8_endOf_10 : decode cX8_endOf 10 = .ok (.aload_n 0, 1) := by decide +kernel
theorem dX8_endOf_11 : decode cX8_endOf 11 = .ok (.getfield 67, 3) := by decide +kernel
theorem dX8_endOf_14 : decode cX8_endOf 14 = .ok (.iload_n 2, 1) := by decide +kernel
theorem dX8_endOf_15 : decode cX8_endOf 15 = .ok (.iaload, 1) := by decide +kernel
theorem dX8_endOf_16 : decode cX8_endOf 16 = .ok (.iload_n 1, 1) := by decide +kernel
theorem dX8_endOf_17 : decode cX8_endOf 17 = .ok (.iand, 1) := by decide +kernel
theorem dX8_endOf_18 : decode cX8_endOf 18 = .ok (.iload_n 1, 1) := by decide +kernel
theorem dX8_endOf_19 : decode cX8_endOf 19 = .ok (.if_icmp .ne 10, 3) := by decide +kernel
theorem dX8_endOf_22 : decode cX8_endOf 22 = .ok (.aload_n 0, 1) := by decide +kernel
theorem dX8_endOf_23 : decode cX8_endOf 23 = .ok (.getfield 64, 3) := by decide +kernel
theorem dX8_endOf_26 : decode cX8_endOf 26 = .ok (.iload_n 2, 1) := by decide +kernel
theorem dX8_endOf_27 : decode cX8_endOf 27 = .ok (.iaload, 1) := by decide +kernel
theorem dX8_endOf_28 : decode cX8_endOf 28 = .ok (.ireturn, 1) := by decide +kernel
theorem dX8_endOf_29 : decode cX8_endOf 29 = .ok (.iinc 2 1, 3) := by decide +kernel
theorem dX8_endOf_32 : decode cX8_endOf 32 = .ok (.goto (-30), 3) := by decide +kernel
theorem dX8_endOf_35 : decode cX8_endOf 35 = .ok (.aload_n 0, 1) := by decide +kernel
theorem dX8_endOf_36 : decode cX8_endOf 36 = .ok (.getfield 419, 3) := by decide +kernel
theorem dX8_endOf_39 : decode cX8_endOf 39 = .ok (.ifCond .eq 8, 3) := by decide +kernel
theorem dX8_endOf_42 : decode cX8_endOf 42 = .ok (.bipush (-3), 2) := by decide +kernel
theorem dX8_endOf_44 : decode cX8_endOf 44 = .ok (.goto 5, 3) := by decide +kernel
theorem dX8_endOf_47 : decode cX8_endOf 47 = .ok (.bipush (-2), 2) := by decide +kernel
theorem dX8_endOf_49 : decode cX8_endOf 49 = .ok (.ireturn, 1) := by decide +kernel
theorem dX8_isSet_0 : decode cX8_isSet 0 = .ok (.aload_n 0, 1) := by decide +kernel
theorem dX8_isSet_1 : decode cX8_isSet 1 = .ok (.getfield 42, 3) := by decide +kernel
theorem dX8_isSet_4 : decode cX8_isSet 4 = .ok (.iconst 0, 1) := by decide +kernel
theorem dX8_isSet_5 : decode cX8_isSet 5 = .ok (.iaload, 1) := by decide +kernel
theorem dX8_isSet_6 : decode cX8_isSet 6 = .ok (.ifCond .le 23, 3) := by decide +kernel
theorem dX8_isSet_9 : decode cX8_isSet 9 = .ok (.iload_n 1, 1) := by decide +kernel
theorem dX8_isSet_10 : decode cX8_isSet 10 = .ok (.ifCond .lt 19, 3) := by decide +kernel
theorem dX8_isSet_13 : decode cX8_isSet 13 = .ok (.iload_n 1, 1) := by decide +kernel
theorem dX8_isSet_14 : decode cX8_isSet 14 = .ok (.iconst 1, 1) := by decide +kernel
theorem dX8_isSet_15 : decode cX8_isSet 15 = .ok (.aload_n 0, 1) := by decide +kernel
theorem dX8_isSet_16 : decode cX8_isSet 16 = .ok (.getfield 42, 3) := by decide +kernel
theorem dX8_isSet_19 : decode cX8_isSet 19 = .ok (.iconst 1, 1) := by decide +kernel
theorem dX8_isSet_20 : decode cX8_isSet 20 = .ok (.iaload, 1) := by decide +kernel
theorem dX8_isSet_21 : decode cX8_isSet 21 = .ok (.ishl, 1) := by decide +kernel
theorem dX8_isSet_22 : decode cX8_isSet 22 = .ok (.if_icmp .ge 7, 3) := by decide +kernel
theorem dX8_isSet_25 : decode cX8_isSet 25 = .ok (.iconst 1, 1) := by decide +kernel
theorem dX8_isSet_26 : decode cX8_isSet 26 = .ok (.goto 4, 3) := by decide +kernel
theorem dX8_isSet_29 : decode cX8_isSet 29 = .ok (.iconst 0, 1) := by decide +kernel
theorem dX8_isSet_30 : decode cX8_isSet 30 = .ok (.ireturn, 1) := by decide +kernel
theorem dX8_plan_0 : decode cX8_plan 0 = .ok (.aload_n 0, 1) := by decide +kernel
theorem dX8_plan_1 : decode cX8_plan 1 = .ok (.iload_n 1, 1) := by decide +kernel
theorem dX8_plan_2 : decode cX8_plan 2 = .ok (.invokevirtual 439, 3) := by decide +kernel
theorem dX8_plan_5 : decode cX8_plan 5 = .ok (.ifCond .ne 5, 3) := by decide +kernel
theorem dX8_plan_8 : decode cX8_plan 8 = .ok (.iconst (-1), 1) := by decide +kernel
theorem dX8_plan_9 : decode cX8_plan 9 = .ok (.ireturn, 1) := by decide +kernel
theorem dX8_plan_10 : decode cX8_plan 10 = .ok (.aload_n 0, 1) := by decide +kernel
theorem dX8_plan_11 : decode cX8_plan 11 = .ok (.iload_n 2, 1) := by decide +kernel
theorem dX8_plan_12 : decode cX8_plan 12 = .ok (.invokevirtual 442, 3) := by decide +kernel
theorem dX8_plan_15 : decode cX8_plan 15 = .ok (.aload_n 0, 1) := by decide +kernel
theorem dX8_plan_16 : decode cX8_plan 16 = .ok (.iload_n 1, 1) := by decide +kernel
theorem dX8_plan_17 : decode cX8_plan 17 = .ok (.invokevirtual 446, 3) := by decide +kernel
theorem dX8_plan_20 : decode cX8_plan 20 = .ok (.istore_n 3, 1) := by decide +kernel
theorem dX8_plan_21 : decode cX8_plan 21 = .ok (.iload_n 3, 1) := by decide +kernel
theorem dX8_plan_22 : decode cX8_plan 22 = .ok (.ifCond .ge 7, 3) := by decide +kernel
theorem dX8_plan_25 : decode cX8_plan 25 = .ok (.iload_n 3, 1) := by decide +kernel
theorem dX8_plan_26 : decode cX8_plan 26 = .ok (.goto 9, 3) := by decide +kernel
theorem dX8_plan_29 : decode cX8_plan 29 = .ok (.aload_n 0, 1) := by decide +kernel
theorem dX8_plan_30 : decode cX8_plan 30 = .ok (.getfield 51, 3) := by decide +kernel
theorem dX8_plan_33 : decode cX8_plan 33 = .ok (.iload_n 3, 1) := by decide +kernel
theorem dX8_plan_34 : decode cX8_plan 34 = .ok (.iaload, 1) := by decide +kernel
theorem dX8_plan_35 : decode cX8_plan 35 = .ok (.ireturn, 1) := by decide +kernel
theorem dX8_row_0 : decode cX8_row 0 = .ok (.aload_n 0, 1) := by decide +kernel
theorem dX8_row_1 : decode cX8_row 1 = .ok (.iload_n 1, 1) := by decide +kernel
theorem dX8_row_2 : decode cX8_row 2 = .ok (.invokevirtual 439, 3) := by decide +kernel
theorem dX8_row_5 : decode cX8_row 5 = .ok (.ifCond .eq 20, 3) := by decide +kernel
theorem dX8_row_8 : decode cX8_row 8 = .ok (.iload_n 3, 1) := by decide +kernel
theorem dX8_row_9 : decode cX8_row 9 = .ok (.ifCond .lt 16, 3) := by decide +kernel
theorem dX8_row_12 : decode cX8_row 12 = .ok (.iload 4, 2) := by decide +kernel
theorem dX8_row_14 : decode cX8_row 14 = .ok (.i2l, 1) := by decide +kernel
theorem dX8_row_15 : decode cX8_row 15 = .ok (.lconst 0, 1) := by decide +kernel
theorem dX8_row_16 : decode cX8_row 16 = .ok (.ldc2_w 449, 3) := by decide +kernel
theorem dX8_row_19 : decode cX8_row 19 = .ok (.invokestatic 127, 3) := by decide +kernel
theorem dX8_row_22 : decode cX8_row 22 = .ok (.ifCond .ne 5, 3) := by decide +kernel
theorem dX8_row_25 : decode cX8_row 25 = .ok (.iconst (-1), 1) := by decide +kernel
theorem dX8_row_26 : decode cX8_row 26 = .ok (.ireturn, 1) := by decide +kernel
theorem dX8_row_27 : decode cX8_row 27 = .ok (.aload_n 0, 1) := by decide +kernel
theorem dX8_row_28 : decode cX8_row 28 = .ok (.iload_n 2, 1) := by decide +kernel
theorem dX8_row_29 : decode cX8_row 29 = .ok (.invokevirtual 442, 3) := by decide +kernel
theorem dX8_row_32 : decode cX8_row 32 = .ok (.aload_n 0, 1) := by decide +kernel
theorem dX8_row_33 : decode cX8_row 33 = .ok (.iload_n 1, 1) := by decide +kernel
theorem dX8_row_34 : decode cX8_row 34 = .ok (.invokevirtual 446, 3) := by decide +kernel
theorem dX8_row_37 : decode cX8_row 37 = .ok (.istore 5, 2) := by decide +kernel
theorem dX8_row_39 : decode cX8_row 39 = .ok (.iload 5, 2) := by decide +kernel
theorem dX8_row_41 : decode cX8_row 41 = .ok (.ifCond .ge 6, 3) := by decide +kernel
theorem dX8_row_44 : decode cX8_row 44 = .ok (.iload 5, 2) := by decide +kernel
theorem dX8_row_46 : decode cX8_row 46 = .ok (.ireturn, 1) := by decide +kernel
theorem dX8_row_47 : decode cX8_row 47 = .ok (.iconst 0, 1) := by decide +kernel
theorem dX8_row_48 : decode cX8_row 48 = .ok (.istore 6, 2) := by decide +kernel
theorem dX8_row_50 : decode cX8_row 50 = .ok (.iload 5, 2) := by decide +kernel
theorem dX8_row_52 : decode cX8_row 52 = .ok (.istore 7, 2) := by decide +kernel
theorem dX8_row_54 : decode cX8_row 54 = .ok (.aload_n 0, 1) := by decide +kernel
theorem dX8_row_55 : decode cX8_row 55 = .ok (.getfield 54, 3) := by decide +kernel
theorem dX8_row_58 : decode cX8_row 58 = .ok (.iload 7, 2) := by decide +kernel
theorem dX8_row_60 : decode cX8_row 60 = .ok (.iaload, 1) := by decide +kernel
theorem dX8_row_61 : decode cX8_row 61 = .ok (.ifCond .lt 18, 3) := by decide +kernel
theorem dX8_row_64 : decode cX8_row 64 = .ok (.iinc 6 1, 3) := by decide +kernel
theorem dX8_row_67 : decode cX8_row 67 = .ok (.aload_n 0, 1) := by decide +kernel
theorem dX8_row_68 : decode cX8_row 68 = .ok (.getfield 54, 3) := by decide +kernel
theorem dX8_row_71 : decode cX8_row 71 = .ok (.iload 7, 2) := by decide +kernel
theorem dX8_row_73 : decode cX8_row 73 = .ok (.iaload, 1) := by decide +kernel
theorem dX8_row_74 : decode cX8_row 74 = .ok (.istore 7, 2) := by decide +kernel
theorem dX8_row_76 : decode cX8_row 76 = .ok (.goto (-22), 3) := by decide +kernel
theorem dX8_row_79 : decode cX8_row 79 = .ok (.iload_n 3, 1) := by decide +kernel
theorem dX8_row_80 : decode cX8_row 80 = .ok (.iload 6, 2) := by decide +kernel
theorem dX8_row_82 : decode cX8_row 82 = .ok (.if_icmp .lt 6, 3) := by decide +kernel
theorem dX8_row_85 : decode cX8_row 85 = .ok (.bipush (-2), 2) := by decide +kernel
theorem dX8_row_87 : decode cX8_row 87 = .ok (.ireturn, 1) := by decide +kernel
theorem dX8_row_88 : decode cX8_row 88 = .ok (.iload 6, 2) := by decide +kernel
theorem dX8_row_90 : decode cX8_row 90 = .ok (.iconst 1, 1) := by decide +kernel
theorem dX8_row_91 : decode cX8_row 91 = .ok (.isub, 1) := by decide +kernel
theorem dX8_row_92 : decode cX8_row 92 = .ok (.istore 7, 2) := by decide +kernel
theorem dX8_row_94 : decode cX8_row 94 = .ok (.iload 7, 2) := by decide +kernel
theorem dX8_row_96 : decode cX8_row 96 = .ok (.iload_n 3, 1) := by decide +kernel
theorem dX8_row_97 : decode cX8_row 97 = .ok (.if_icmp .le 18, 3) := by decide +kernel
theorem dX8_row_100 : decode cX8_row 100 = .ok (.aload_n 0, 1) := by decide +kernel
theorem dX8_row_101 : decode cX8_row 101 = .ok (.getfield 54, 3) := by decide +kernel
theorem dX8_row_104 : decode cX8_row 104 = .ok (.iload 5, 2) := by decide +kernel
theorem dX8_row_106 : decode cX8_row 106 = .ok (.iaload, 1) := by decide +kernel
theorem dX8_row_107 : decode cX8_row 107 = .ok (.istore 5, 2) := by decide +kernel
theorem dX8_row_109 : decode cX8_row 109 = .ok (.iinc 7 (-1), 3) := by decide +kernel
theorem dX8_row_112 : decode cX8_row 112 = .ok (.goto (-18), 3) := by decide +kernel
theorem dX8_row_115 : decode cX8_row 115 = .ok (.iload 4, 2) := by decide +kernel
theorem dX8_row_117 : decode cX8_row 117 = .ok (.ifCond .ne 17, 3) := by decide +kernel
theorem dX8_row_120 : decode cX8_row 120 = .ok (.aload_n 0, 1) := by decide +kernel
theorem dX8_row_121 : decode cX8_row 121 = .ok (.aload_n 0, 1) := by decide +kernel
theorem dX8_row_122 : decode cX8_row 122 = .ok (.getfield 57, 3) := by decide +kernel
theorem dX8_row_125 : decode cX8_row 125 = .ok (.iload 5, 2) := by decide +kernel
theorem dX8_row_127 : decode cX8_row 127 = .ok (.iaload, 1) := by decide +kernel
theorem dX8_row_128 : decode cX8_row 128 = .ok (.invokevirtual 377, 3) := by decide +kernel
theorem dX8_row_131 : decode cX8_row 131 = .ok (.goto 34, 3) := by decide +kernel
theorem dX8_row_134 : decode cX8_row 134 = .ok (.iload 4, 2) := by decide +kernel
theorem dX8_row_136 : decode cX8_row 136 = .ok (.iconst 1, 1) := by decide +kernel
theorem dX8_row_137 : decode cX8_row 137 = .ok (.if_icmp .ne 17, 3) := by decide +kernel
theorem dX8_row_140 : decode cX8_row 140 = .ok (.aload_n 0, 1) := by decide +kernel
theorem dX8_row_141 : decode cX8_row 141 = .ok (.aload_n 0, 1) := by decide +kernel
theorem dX8_row_142 : decode cX8_row 142 = .ok (.getfield 57, 3) := by decide +kernel
theorem dX8_row_145 : decode cX8_row 145 = .ok (.iload 5, 2) := by decide +kernel
theorem dX8_row_147 : decode cX8_row 147 = .ok (.iaload, 1) := by decide +kernel
theorem dX8_row_148 : decode cX8_row 148 = .ok (.invokevirtual 371, 3) := by decide +kernel
theorem dX8_row_151 : decode cX8_row 151 = .ok (.goto 14, 3) := by decide +kernel
theorem dX8_row_154 : decode cX8_row 154 = .ok (.aload_n 0, 1) := by decide +kernel
theorem dX8_row_155 : decode cX8_row 155 = .ok (.aload_n 0, 1) := by decide +kernel
theorem dX8_row_156 : decode cX8_row 156 = .ok (.getfield 57, 3) := by decide +kernel
theorem dX8_row_159 : decode cX8_row 159 = .ok (.iload 5, 2) := by decide +kernel
theorem dX8_row_161 : decode cX8_row 161 = .ok (.iaload, 1) := by decide +kernel
theorem dX8_row_162 : decode cX8_row 162 = .ok (.invokevirtual 374, 3) := by decide +kernel
theorem dX8_row_165 : decode cX8_row 165 = .ok (.ireturn, 1) := by decide +kernel
theorem dX8_tollOf_0 : decode cX8_tollOf 0 = .ok (.iconst 0, 1) := by decide +kernel
theorem dX8_tollOf_1 : decode cX8_tollOf 1 = .ok (.istore_n 2, 1) := by decide +kernel
theorem dX8_tollOf_2 : decode cX8_tollOf 2 = .ok (.iconst 0, 1) := by decide +kernel
theorem dX8_tollOf_3 : decode cX8_tollOf 3 = .ok (.istore_n 3, 1) := by decide +kernel
theorem dX8_tollOf_4 : decode cX8_tollOf 4 = .ok (.iload_n 3, 1) := by decide +kernel
theorem dX8_tollOf_5 : decode cX8_tollOf 5 = .ok (.aload_n 0, 1) := by decide +kernel
theorem dX8_tollOf_6 : decode cX8_tollOf 6 = .ok (.getfield 42, 3) := by decide +kernel
theorem dX8_tollOf_9 : decode cX8_tollOf 9 = .ok (.iconst 1, 1) := by decide +kernel
theorem dX8_tollOf_10 : decode cX8_tollOf 10 = .ok (.iaload, 1) := by decide +kernel
theorem dX8_tollOf_11 : decode cX8_tollOf 11 = .ok (.if_icmp .ge 30, 3) := by decide +kernel
theorem dX8_tollOf_14 : decode cX8_tollOf 14 = .ok (.iload_n 2, 1) := by decide +kernel
theorem dX8_tollOf_15 : decode cX8_tollOf 15 = .ok (.iload_n 1, 1) := by decide +kernel
theorem dX8_tollOf_16 : decode cX8_tollOf 16 = .ok (.iload_n 3, 1) := by decide +kernel
theorem dX8_tollOf_17 : decode cX8_tollOf 17 = .ok (.invokestatic 316, 3) := by decide +kernel
theorem dX8_tollOf_20 : decode cX8_tollOf 20 = .ok (.ifCond .eq 12, 3) := by decide +kernel
theorem dX8_tollOf_23 : decode cX8_tollOf 23 = .ok (.aload_n 0, 1) := by decide +kernel
theorem dX8_tollOf_24 : decode cX8_tollOf 24 = .ok (.iload_n 3, 1) := by decide +kernel
theorem dX8_tollOf_25 : decode cX8_tollOf 25 = .ok (.iconst 3, 1) := by decide +kernel
theorem dX8_tollOf_26 : decode cX8_tollOf 26 = .ok (.invokevirtual 295, 3) := by decide +kernel
theorem dX8_tollOf_29 : decode cX8_tollOf 29 = .ok (.goto 4, 3) := by decide +kernel
theorem dX8_tollOf_32 : decode cX8_tollOf 32 = .ok (.iconst 0, 1) := by decide +kernel
theorem dX8_tollOf_33 : decode cX8_tollOf 33 = .ok (.iadd, 1) := by decide +kernel
theorem dX8_tollOf_34 : decode cX8_tollOf 34 = .ok (.istore_n 2, 1) := by decide +kernel
theorem dX8_tollOf_35 : decode cX8_tollOf 35 = .ok (.iinc 3 1, 3) := by decide +kernel
theorem dX8_tollOf_38 : decode cX8_tollOf 38 = .ok (.goto (-34), 3) := by decide +kernel
theorem dX8_tollOf_41 : decode cX8_tollOf 41 = .ok (.iload_n 2, 1) := by decide +kernel
theorem dX8_tollOf_42 : decode cX8_tollOf 42 = .ok (.ireturn, 1) := by decide +kernel
theorem dX8_drought_0 : decode cX8_drought 0 = .ok (.aload_n 0, 1) := by decide +kernel
theorem dX8_drought_1 : decode cX8_drought 1 = .ok (.getfield 42, 3) := by decide +kernel
theorem dX8_drought_4 : decode cX8_drought 4 = .ok (.iconst 0, 1) := by decide +kernel
theorem dX8_drought_5 : decode cX8_drought 5 = .ok (.iaload, 1) := by decide +kernel
theorem dX8_drought_6 : decode cX8_drought 6 = .ok (.ifCond .eq 25, 3) := by decide +kernel
theorem dX8_drought_9 : decode cX8_drought 9 = .ok (.iload_n 1, 1) := by decide +kernel
theorem dX8_drought_10 : decode cX8_drought 10 = .ok (.i2l, 1) := by decide +kernel
theorem dX8_drought_11 : decode cX8_drought 11 = .ok (.lconst 0, 1) := by decide +kernel
theorem dX8_drought_12 : decode cX8_drought 12 = .ok (.ldc2_w 451, 3) := by decide +kernel
theorem dX8_drought_15 : decode cX8_drought 15 = .ok (.invokestatic 127, 3) := by decide +kernel
theorem dX8_drought_18 : decode cX8_drought 18 = .ok (.ifCond .eq 13, 3) := by decide +kernel
theorem dX8_drought_21 : decode cX8_drought 21 = .ok (.iload_n 2, 1) := by decide +kernel
theorem dX8_drought_22 : decode cX8_drought 22 = .ok (.i2l, 1) := by decide +kernel
theorem dX8_drought_23 : decode cX8_drought 23 = .ok (.lconst 0, 1) := by decide +kernel
theorem dX8_drought_24 : decode cX8_drought 24 = .ok (.lconst 1, 1) := by decide +kernel
theorem dX8_drought_25 : decode cX8_drought 25 = .ok (.invokestatic 127, 3) := by decide +kernel
theorem dX8_drought_28 : decode cX8_drought 28 = .ok (.ifCond .ne 5, 3) := by decide +kernel
theorem dX8_drought_31 : decode cX8_drought 31 = .ok (.iconst (-1), 1) := by decide +kernel
theorem dX8_drought_32 : decode cX8_drought 32 = .ok (.ireturn, 1) := by decide +kernel
theorem dX8_drought_33 : decode cX8_drought 33 = .ok (.aload_n 0, 1) := by decide +kernel
theorem dX8_drought_34 : decode cX8_drought 34 = .ok (.iconst 0, 1) := by decide +kernel
theorem dX8_drought_35 : decode cX8_drought 35 = .ok (.invokevirtual 330, 3) := by decide +kernel
theorem dX8_drought_38 : decode cX8_drought 38 = .ok (.istore_n 3, 1) := by decide +kernel
theorem dX8_drought_39 : decode cX8_drought 39 = .ok (.aload_n 0, 1) := by decide +kernel
theorem dX8_drought_40 : decode cX8_drought 40 = .ok (.getfield 42, 3) := by decide +kernel
theorem dX8_drought_43 : decode cX8_drought 43 = .ok (.bipush 9, 2) := by decide +kernel
theorem dX8_drought_45 : decode cX8_drought 45 = .ok (.iload_n 1, 1) := by decide +kernel
theorem dX8_drought_46 : decode cX8_drought 46 = .ok (.iastore, 1) := by decide +kernel
theorem dX8_drought_47 : decode cX8_drought 47 = .ok (.aload_n 0, 1) := by decide +kernel
theorem dX8_drought_48 : decode cX8_drought 48 = .ok (.iconst 0, 1) := by decide +kernel
theorem dX8_drought_49 : decode cX8_drought 49 = .ok (.invokevirtual 442, 3) := by decide +kernel
theorem dX8_drought_52 : decode cX8_drought 52 = .ok (.aload_n 0, 1) := by decide +kernel
theorem dX8_drought_53 : decode cX8_drought 53 = .ok (.getfield 42, 3) := by decide +kernel
theorem dX8_drought_56 : decode cX8_drought 56 = .ok (.bipush 9, 2) := by decide +kernel
theorem dX8_drought_58 : decode cX8_drought 58 = .ok (.iload_n 3, 1) := by decide +kernel
theorem dX8_drought_59 : decode cX8_drought 59 = .ok (.iastore, 1) := by decide +kernel
theorem dX8_drought_60 : decode cX8_drought 60 = .ok (.iconst 0, 1) := by decide +kernel
theorem dX8_drought_61 : decode cX8_drought 61 = .ok (.istore 4, 2) := by decide +kernel
theorem dX8_drought_63 : decode cX8_drought 63 = .ok (.iconst 1, 1) := by decide +kernel
theorem dX8_drought_64 : decode cX8_drought 64 = .ok (.istore 5, 2) := by decide +kernel
theorem dX8_drought_66 : decode cX8_drought 66 = .ok (.iload 5, 2) := by decide +kernel
theorem dX8_drought_68 : decode cX8_drought 68 = .ok (.iconst 1, 1) := by decide +kernel
theorem dX8_drought_69 : decode cX8_drought 69 = .ok (.aload_n 0, 1) := by decide +kernel
theorem dX8_drought_70 : decode cX8_drought 70 = .ok (.getfield 42, 3) := by decide +kernel
theorem dX8_drought_73 : decode cX8_drought 73 = .ok (.iconst 1, 1) := by decide +kernel
theorem dX8_drought_74 : decode cX8_drought 74 = .ok (.iaload, 1) := by decide +kernel
theorem dX8_drought_75 : decode cX8_drought 75 = .ok (.ishl, 1) := by decide +kernel
theorem dX8_drought_76 : decode cX8_drought 76 = .ok (.if_icmp .ge 68, 3) := by decide +kernel
theorem dX8_drought_79 : decode cX8_drought 79 = .ok (.aload_n 0, 1) := by decide +kernel
theorem dX8_drought_80 : decode cX8_drought 80 = .ok (.iload 5, 2) := by decide +kernel
theorem dX8_drought_82 : decode cX8_drought 82 = .ok (.invokevirtual 446, 3) := by decide +kernel
theorem dX8_drought_85 : decode cX8_drought 85 = .ok (.ifCond .ge 6, 3) := by decide +kernel
theorem dX8_drought_88 : decode cX8_drought 88 = .ok (.goto 50, 3) := by decide +kernel
theorem dX8_drought_91 : decode cX8_drought 91 = .ok (.aload_n 0, 1) := by decide +kernel
theorem dX8_drought_92 : decode cX8_drought 92 = .ok (.iload 5, 2) := by decide +kernel
theorem dX8_drought_94 : decode cX8_drought 94 = .ok (.invokevirtual 453, 3) := by decide +kernel
theorem dX8_drought_97 : decode cX8_drought 97 = .ok (.aload_n 0, 1) := by decide +kernel
theorem dX8_drought_98 : decode cX8_drought 98 = .ok (.iload 4, 2) := by decide +kernel
theorem dX8_drought_100 : decode cX8_drought 100 = .ok (.invokevirtual 453, 3) := by decide +kernel
theorem dX8_drought_103 : decode cX8_drought 103 = .ok (.if_icmp .gt 31, 3) := by decide +kernel
theorem dX8_drought_106 : decode cX8_drought 106 = .ok (.aload_n 0, 1) := by decide +kernel
theorem dX8_drought_107 : decode cX8_drought 107 = .ok (.iload 5, 2) := by decide +kernel
theorem dX8_drought_109 : decode cX8_drought 109 = .ok (.invokevirtual 453, 3) := by decide +kernel
theorem dX8_drought_112 : decode cX8_drought 112 = .ok (.aload_n 0, 1) := by decide +kernel
theorem dX8_drought_113 : decode cX8_drought 113 = .ok (.iload 4, 2) := by decide +kernel
theorem dX8_drought_115 : decode cX8_drought 115 = .ok (.invokevirtual 453, 3) := by decide +kernel
theorem dX8_drought_118 : decode cX8_drought 118 = .ok (.if_icmp .ne 20, 3) := by decide +kernel
theorem dX8_drought_121 : decode cX8_drought 121 = .ok (.iload 5, 2) := by decide +kernel
theorem dX8_drought_123 : decode cX8_drought 123 = .ok (.invokestatic 333, 3) := by decide +kernel
theorem dX8_drought_126 : decode cX8_drought 126 = .ok (.iload 4, 2) := by decide +kernel
theorem dX8_drought_128 : decode cX8_drought 128 = .ok (.invokestatic 333, 3) := by decide +kernel
theorem dX8_drought_131 : decode cX8_drought 131 = .ok (.if_icmp .ge 7, 3) := by decide +kernel
theorem dX8_drought_134 : decode cX8_drought 134 = .ok (.iload 5, 2) := by decide +kernel
theorem dX8_drought_136 : decode cX8_drought 136 = .ok (.istore 4, 2) := by decide +kernel
theorem dX8_drought_138 : decode cX8_drought 138 = .ok (.iinc 5 1, 3) := by decide +kernel
theorem dX8_drought_141 : decode cX8_drought 141 = .ok (.goto (-75), 3) := by decide +kernel
theorem dX8_drought_144 : decode cX8_drought 144 = .ok (.iload_n 2, 1) := by decide +kernel
theorem dX8_drought_145 : decode cX8_drought 145 = .ok (.ifCond .ne 12, 3) := by decide +kernel
theorem dX8_drought_148 : decode cX8_drought 148 = .ok (.aload_n 0, 1) := by decide +kernel
theorem dX8_drought_149 : decode cX8_drought 149 = .ok (.iload 4, 2) := by decide +kernel
theorem dX8_drought_151 : decode cX8_drought 151 = .ok (.invokevirtual 453, 3) := by decide +kernel
theorem dX8_drought_154 : decode cX8_drought 154 = .ok (.goto 5, 3) := by decide +kernel
theorem dX8_drought_157 : decode cX8_drought 157 = .ok (.iload 4, 2) := by decide +kernel
theorem dX8_drought_159 : decode cX8_drought 159 = .ok (.ireturn, 1) := by decide +kernel
theorem dX8_mustPass_0 : decode cX8_mustPass 0 = .ok (.iconst 0, 1) := by decide +kernel
theorem dX8_mustPass_1 : decode cX8_mustPass 1 = .ok (.istore_n 2, 1) := by decide +kernel
theorem dX8_mustPass_2 : decode cX8_mustPass 2 = .ok (.iconst 0, 1) := by decide +kernel
theorem dX8_mustPass_3 : decode cX8_mustPass 3 = .ok (.istore_n 3, 1) := by decide +kernel
theorem dX8_mustPass_4 : decode cX8_mustPass 4 = .ok (.iload_n 3, 1) := by decide +kernel
theorem dX8_mustPass_5 : decode cX8_mustPass 5 = .ok (.aload_n 0, 1) := by decide +kernel
theorem dX8_mustPass_6 : decode cX8_mustPass 6 = .ok (.getfield 42, 3) := by decide +kernel
theorem dX8_mustPass_9 : decode cX8_mustPass 9 = .ok (.iconst 1, 1) := by decide +kernel
theorem dX8_mustPass_10 : decode cX8_mustPass 10 = .ok (.iaload, 1) := by decide +kernel
theorem dX8_mustPass_11 : decode cX8_mustPass 11 = .ok (.if_icmp .ge 57, 3) := by decide +kernel
theorem dX8_mustPass_14 : decode cX8_mustPass 14 = .ok (.iload_n 2, 1) := by decide +kernel
theorem dX8_mustPass_15 : decode cX8_mustPass 15 = .ok (.aload_n 0, 1) := by decide +kernel
theorem dX8_mustPass_16 : decode cX8_mustPass 16 = .ok (.iload_n 3, 1) := by decide +kernel
theorem dX8_mustPass_17 : decode cX8_mustPass 17 = .ok (.invokevirtual 299, 3) := by decide +kernel
theorem dX8_mustPass_20 : decode cX8_mustPass 20 = .ok (.ifCond .ne 39, 3) := by decide +kernel
theorem dX8_mustPass_23 : decode cX8_mustPass 23 = .ok (.aload_n 0, 1) := by decide +kernel
theorem dX8_mustPass_24 : decode cX8_mustPass 24 = .ok (.iload_n 3, 1) := by decide +kernel
theorem dX8_mustPass_25 : decode cX8_mustPass 25 = .ok (.iconst 2, 1) := by decide +kernel
theorem dX8_mustPass_26 : decode cX8_mustPass 26 = .ok (.invokevirtual 295, 3) := by decide +kernel
theorem dX8_mustPass_29 : decode cX8_mustPass 29 = .ok (.ifCond .ne 16, 3) := by decide +kernel
theorem dX8_mustPass_32 : decode cX8_mustPass 32 = .ok (.aload_n 0, 1) := by decide +kernel
theorem dX8_mustPass_33 : decode cX8_mustPass 33 = .ok (.iload_n 3, 1) := by decide +kernel
theorem dX8_mustPass_34 : decode cX8_mustPass 34 = .ok (.iconst 4, 1) := by decide +kernel
theorem dX8_mustPass_35 : decode cX8_mustPass 35 = .ok (.invokevirtual 295, 3) := by decide +kernel
theorem dX8_mustPass_38 : decode cX8_mustPass 38 = .ok (.iload_n 1, 1) := by decide +kernel
theorem dX8_mustPass_39 : decode cX8_mustPass 39 = .ok (.if_icmp .gt 20, 3) := by decide +kernel
theorem dX8_mustPass_42 : decode cX8_mustPass 42 = .ok (.goto 13, 3) := by decide +kernel
theorem dX8_mustPass_45 : decode cX8_mustPass 45 = .ok (.aload_n 0, 1) := by decide +kernel
theorem dX8_mustPass_46 : decode cX8_mustPass 46 = .ok (.iload_n 3, 1) := by decide +kernel
theorem dX8_mustPass_47 : decode cX8_mustPass 47 = .ok (.iconst 4, 1) := by decide +kernel
theorem dX8_mustPass_48 : decode cX8_mustPass 48 = .ok (.invokevirtual 295, 3) := by decide +kernel
theorem dX8_mustPass_51 : decode cX8_mustPass 51 = .ok (.iload_n 1, 1) := by decide +kernel
theorem dX8_mustPass_52 : decode cX8_mustPass 52 = .ok (.if_icmp .le 7, 3) := by decide +kernel
theorem dX8_mustPass_55 : decode cX8_mustPass 55 = .ok (.iconst 1, 1) := by decide +kernel
theorem dX8_mustPass_56 : decode cX8_mustPass 56 = .ok (.goto 4, 3) := by decide +kernel
theorem dX8_mustPass_59 : decode cX8_mustPass 59 = .ok (.iconst 0, 1) := by decide +kernel
theorem dX8_mustPass_60 : decode cX8_mustPass 60 = .ok (.iadd, 1) := by decide +kernel
theorem dX8_mustPass_61 : decode cX8_mustPass 61 = .ok (.istore_n 2, 1) := by decide +kernel
theorem dX8_mustPass_62 : decode cX8_mustPass 62 = .ok (.iinc 3 1, 3) := by decide +kernel
theorem dX8_mustPass_65 : decode cX8_mustPass 65 = .ok (.goto (-61), 3) := by decide +kernel
theorem dX8_mustPass_68 : decode cX8_mustPass 68 = .ok (.iload_n 2, 1) := by decide +kernel
theorem dX8_mustPass_69 : decode cX8_mustPass 69 = .ok (.ireturn, 1) := by decide +kernel
theorem dX8_pass_0 : decode cX8_pass 0 = .ok (.aload_n 0, 1) := by decide +kernel
theorem dX8_pass_1 : decode cX8_pass 1 = .ok (.iload_n 1, 1) := by decide +kernel
theorem dX8_pass_2 : decode cX8_pass 2 = .ok (.invokevirtual 313, 3) := by decide +kernel
theorem dX8_pass_5 : decode cX8_pass 5 = .ok (.ifCond .eq 11, 3) := by decide +kernel
theorem dX8_pass_8 : decode cX8_pass 8 = .ok (.aload_n 0, 1) := by decide +kernel
theorem dX8_pass_9 : decode cX8_pass 9 = .ok (.iload_n 1, 1) := by decide +kernel
theorem dX8_pass_10 : decode cX8_pass 10 = .ok (.invokevirtual 456, 3) := by decide +kernel
theorem dX8_pass_13 : decode cX8_pass 13 = .ok (.goto 4, 3) := by decide +kernel
theorem dX8_pass_16 : decode cX8_pass 16 = .ok (.iconst (-1), 1) := by decide +kernel
theorem dX8_pass_17 : decode cX8_pass 17 = .ok (.ireturn, 1) := by decide +kernel
theorem dX8_worst_0 : decode cX8_worst 0 = .ok (.aload_n 0, 1) := by decide +kernel
theorem dX8_worst_1 : decode cX8_worst 1 = .ok (.getfield 42, 3) := by decide +kernel
theorem dX8_worst_4 : decode cX8_worst 4 = .ok (.iconst 0, 1) := by decide +kernel
theorem dX8_worst_5 : decode cX8_worst 5 = .ok (.iaload, 1) := by decide +kernel
theorem dX8_worst_6 : decode cX8_worst 6 = .ok (.ifCond .ne 5, 3) := by decide +kernel
theorem dX8_worst_9 : decode cX8_worst 9 = .ok (.iconst (-1), 1) := by decide +kernel
theorem dX8_worst_10 : decode cX8_worst 10 = .ok (.ireturn, 1) := by decide +kernel
theorem dX8_worst_11 : decode cX8_worst 11 = .ok (.iconst 0, 1) := by decide +kernel
theorem dX8_worst_12 : decode cX8_worst 12 = .ok (.istore_n 1, 1) := by decide +kernel
theorem dX8_worst_13 : decode cX8_worst 13 = .ok (.iconst 1, 1) := by decide +kernel
theorem dX8_worst_14 : decode cX8_worst 14 = .ok (.istore_n 2, 1) := by decide +kernel
theorem dX8_worst_15 : decode cX8_worst 15 = .ok (.aload_n 0, 1) := by decide +kernel
theorem dX8_worst_16 : decode cX8_worst 16 = .ok (.iload_n 2, 1) := by decide +kernel
theorem dX8_worst_17 : decode cX8_worst 17 = .ok (.invokevirtual 313, 3) := by decide +kernel
theorem dX8_worst_20 : decode cX8_worst 20 = .ok (.ifCond .eq 28, 3) := by decide +kernel
theorem dX8_worst_23 : decode cX8_worst 23 = .ok (.aload_n 0, 1) := by decide +kernel
theorem dX8_worst_24 : decode cX8_worst 24 = .ok (.iload_n 2, 1) := by decide +kernel
theorem dX8_worst_25 : decode cX8_worst 25 = .ok (.invokevirtual 456, 3) := by decide +kernel
theorem dX8_worst_28 : decode cX8_worst 28 = .ok (.aload_n 0, 1) := by decide +kernel
theorem dX8_worst_29 : decode cX8_worst 29 = .ok (.iload_n 1, 1) := by decide +kernel
theorem dX8_worst_30 : decode cX8_worst 30 = .ok (.invokevirtual 456, 3) := by decide +kernel
theorem dX8_worst_33 : decode cX8_worst 33 = .ok (.if_icmp .le 7, 3) := by decide +kernel
theorem dX8_worst_36 : decode cX8_worst 36 = .ok (.iload_n 2, 1) := by decide +kernel
theorem dX8_worst_37 : decode cX8_worst 37 = .ok (.goto 4, 3) := by decide +kernel
theorem dX8_worst_40 : decode cX8_worst 40 = .ok (.iload_n 1, 1) := by decide +kernel
theorem dX8_worst_41 : decode cX8_worst 41 = .ok (.istore_n 1, 1) := by decide +kernel
theorem dX8_worst_42 : decode cX8_worst 42 = .ok (.iinc 2 1, 3) := by decide +kernel
theorem dX8_worst_45 : decode cX8_worst 45 = .ok (.goto (-30), 3) := by decide +kernel
theorem dX8_worst_48 : decode cX8_worst 48 = .ok (.iload_n 1, 1) := by decide +kernel
theorem dX8_worst_49 : decode cX8_worst 49 = .ok (.ireturn, 1) := by decide +kernel
theorem dX8_seen_0 : decode cX8_seen 0 = .ok (.aload_n 0, 1) := by decide +kernel
theorem dX8_seen_1 : decode cX8_seen 1 = .ok (.iload_n 1, 1) := by decide +kernel
theorem dX8_seen_2 : decode cX8_seen 2 = .ok (.invokevirtual 305, 3) := by decide +kernel
theorem dX8_seen_5 : decode cX8_seen 5 = .ok (.ifCond .eq 17, 3) := by decide +kernel
theorem dX8_seen_8 : decode cX8_seen 8 = .ok (.iload_n 2, 1) := by decide +kernel
theorem dX8_seen_9 : decode cX8_seen 9 = .ok (.i2l, 1) := by decide +kernel
theorem dX8_seen_10 : decode cX8_seen 10 = .ok (.ldc2_w 459, 3) := by decide +kernel
theorem dX8_seen_13 : decode cX8_seen 13 = .ok (.ldc2_w 369, 3) := by decide +kernel
theorem dX8_seen_16 : decode cX8_seen 16 = .ok (.invokestatic 127, 3) := by decide +kernel
theorem dX8_seen_19 : decode cX8_seen 19 = .ok (.ifCond .ne 5, 3) := by decide +kernel
theorem dX8_seen_22 : decode cX8_seen 22 = .ok (.iconst 0, 1) := by decide +kernel
theorem dX8_seen_23 : decode cX8_seen 23 = .ok (.ireturn, 1) := by decide +kernel
theorem dX8_seen_24 : decode cX8_seen 24 = .ok (.aload_n 0, 1) := by decide +kernel
theorem dX8_seen_25 : decode cX8_seen 25 = .ok (.getfield 42, 3) := by decide +kernel
theorem dX8_seen_28 : decode cX8_seen 28 = .ok (.bipush 55, 2) := by decide +kernel
theorem dX8_seen_30 : decode cX8_seen 30 = .ok (.iload_n 1, 1) := by decide +kernel
theorem dX8_seen_31 : decode cX8_seen 31 = .ok (.iadd, 1) := by decide +kernel
theorem dX8_seen_32 : decode cX8_seen 32 = .ok (.iload_n 2, 1) := by decide +kernel
theorem dX8_seen_33 : decode cX8_seen 33 = .ok (.iastore, 1) := by decide +kernel
theorem dX8_seen_34 : decode cX8_seen 34 = .ok (.iconst 1, 1) := by decide +kernel
theorem dX8_seen_35 : decode cX8_seen 35 = .ok (.ireturn, 1) := by decide +kernel
theorem dX8_isSeen_0 : decode cX8_isSeen 0 = .ok (.iconst 0, 1) := by decide +kernel
theorem dX8_isSeen_1 : decode cX8_isSeen 1 = .ok (.istore_n 1, 1) := by decide +kernel
theorem dX8_isSeen_2 : decode cX8_isSeen 2 = .ok (.iload_n 1, 1) := by decide +kernel
theorem dX8_isSeen_3 : decode cX8_isSeen 3 = .ok (.aload_n 0, 1) := by decide +kernel
theorem dX8_isSeen_4 : decode cX8_isSeen 4 = .ok (.getfield 42, 3) := by decide +kernel
theorem dX8_isSeen_7 : decode cX8_isSeen 7 = .ok (.iconst 0, 1) := by decide +kernel
theorem dX8_isSeen_8 : decode cX8_isSeen 8 = .ok (.iaload, 1) := by decide +kernel
theorem dX8_isSeen_9 : decode cX8_isSeen 9 = .ok (.if_icmp .ge 40, 3) := by decide +kernel
theorem dX8_isSeen_12 : decode cX8_isSeen 12 = .ok (.aload_n 0, 1) := by decide +kernel
theorem dX8_isSeen_13 : decode cX8_isSeen 13 = .ok (.getfield 42, 3) := by decide +kernel
theorem dX8_isSeen_16 : decode cX8_isSeen 16 = .ok (.bipush 55, 2) := by decide +kernel
theorem dX8_isSeen_18 : decode cX8_isSeen 18 = .ok (.iload_n 1, 1) := by decide +kernel
theorem dX8_isSeen_19 : decode cX8_isSeen 19 = .ok (.iadd, 1) := by decide +kernel
theorem dX8_isSeen_20 : decode cX8_isSeen 20 = .ok (.iaload, 1) := by decide +kernel
theorem dX8_isSeen_21 : decode cX8_isSeen 21 = .ok (.ifCond .lt 22, 3) := by decide +kernel
theorem dX8_isSeen_24 : decode cX8_isSeen 24 = .ok (.aload_n 0, 1) := by decide +kernel
theorem dX8_isSeen_25 : decode cX8_isSeen 25 = .ok (.getfield 42, 3) := by decide +kernel
theorem dX8_isSeen_28 : decode cX8_isSeen 28 = .ok (.bipush 55, 2) := by decide +kernel
theorem dX8_isSeen_30 : decode cX8_isSeen 30 = .ok (.iload_n 1, 1) := by decide +kernel
theorem dX8_isSeen_31 : decode cX8_isSeen 31 = .ok (.iadd, 1) := by decide +kernel
theorem dX8_isSeen_32 : decode cX8_isSeen 32 = .ok (.iaload, 1) := by decide +kernel
theorem dX8_isSeen_33 : decode cX8_isSeen 33 = .ok (.aload_n 0, 1) := by decide +kernel
theorem dX8_isSeen_34 : decode cX8_isSeen 34 = .ok (.iload_n 1, 1) := by decide +kernel
theorem dX8_isSeen_35 : decode cX8_isSeen 35 = .ok (.invokevirtual 330, 3) := by decide +kernel
theorem dX8_isSeen_38 : decode cX8_isSeen 38 = .ok (.if_icmp .eq 5, 3) := by decide +kernel
theorem dX8_isSeen_41 : decode cX8_isSeen 41 = .ok (.iconst 0, 1) := by decide +kernel
theorem dX8_isSeen_42 : decode cX8_isSeen 42 = .ok (.ireturn, 1) := by decide +kernel
theorem dX8_isSeen_43 : decode cX8_isSeen 43 = .ok (.iinc 1 1, 3) := by decide +kernel
theorem dX8_isSeen_46 : decode cX8_isSeen 46 = .ok (.goto (-44), 3) := by decide +kernel
theorem dX8_isSeen_49 : decode cX8_isSeen 49 = .ok (.iconst 1, 1) := by decide +kernel
theorem dX8_isSeen_50 : decode cX8_isSeen 50 = .ok (.ireturn, 1) := by decide +kernel
theorem dX8_keepsAt_0 : decode cX8_keepsAt 0 = .ok (.iconst 0, 1) := by decide +kernel
theorem dX8_keepsAt_1 : decode cX8_keepsAt 1 = .ok (.istore_n 2, 1) := by decide +kernel
theorem dX8_keepsAt_2 : decode cX8_keepsAt 2 = .ok (.iload_n 2, 1) := by decide +kernel
theorem dX8_keepsAt_3 : decode cX8_keepsAt 3 = .ok (.bipush 93, 2) := by decide +kernel
theorem dX8_keepsAt_5 : decode cX8_keepsAt 5 = .ok (.if_icmp .ge 26, 3) := by decide +kernel
theorem dX8_keepsAt_8 : decode cX8_keepsAt 8 = .ok (.aload_n 0, 1) := by decide +kernel
theorem dX8_keepsAt_9 : decode cX8_keepsAt 9 = .ok (.getfield 73, 3) := by decide +kernel
theorem dX8_keepsAt_12 : decode cX8_keepsAt 12 = .ok (.bipush 93, 2) := by decide +kernel
theorem dX8_keepsAt_14 : decode cX8_keepsAt 14 = .ok (.iload_n 1, 1) := by decide +kernel
theorem dX8_keepsAt_15 : decode cX8_keepsAt 15 = .ok (.imul, 1) := by decide +kernel
theorem dX8_keepsAt_16 : decode cX8_keepsAt 16 = .ok (.iload_n 2, 1) := by decide +kernel
theorem dX8_keepsAt_17 : decode cX8_keepsAt 17 = .ok (.iadd, 1) := by decide +kernel
theorem dX8_keepsAt_18 : decode cX8_keepsAt 18 = .ok (.aload_n 0, 1) := by decide +kernel
theorem dX8_keepsAt_19 : decode cX8_keepsAt 19 = .ok (.getfield 42, 3) := by decide +kernel
theorem dX8_keepsAt_22 : decode cX8_keepsAt 22 = .ok (.iload_n 2, 1) := by decide +kernel
theorem dX8_keepsAt_23 : decode cX8_keepsAt 23 = .ok (.iaload, 1) := by decide +kernel
theorem dX8_keepsAt_24 : decode cX8_keepsAt 24 = .ok (.iastore, 1) := by decide +kernel
theorem dX8_keepsAt_25 : decode cX8_keepsAt 25 = .ok (.iinc 2 1, 3) := by decide +kernel
theorem dX8_keepsAt_28 : decode cX8_keepsAt 28 = .ok (.goto (-26), 3) := by decide +kernel
theorem dX8_keepsAt_31 : decode cX8_keepsAt 31 = .ok (.return_, 1) := by decide +kernel
theorem dX8_putsBackAt_0 : decode cX8_putsBackAt 0 = .ok (.iconst 0, 1) := by decide +kernel
theorem dX8_putsBackAt_1 : decode cX8_putsBackAt 1 = .ok (.istore_n 2, 1) := by decide +kernel
theorem dX8_putsBackAt_2 : decode cX8_putsBackAt 2 = .ok (.iload_n 2, 1) := by decide +kernel
theorem dX8_putsBackAt_3 : decode cX8_putsBackAt 3 = .ok (.bipush 93, 2) := by decide +kernel
theorem dX8_putsBackAt_5 : decode cX8_putsBackAt 5 = .ok (.if_icmp .ge 26, 3) := by decide +kernel
theorem dX8_putsBackAt_8 : decode cX8_putsBackAt 8 = .ok (.aload_n 0, 1) := by decide +kernel
theorem dX8_putsBackAt_9 : decode cX8_putsBackAt 9 = .ok (.getfield 42, 3) := by decide +kernel
theorem dX8_putsBackAt_12 : decode cX8_putsBackAt 12 = .ok (.iload_n 2, 1) := by decide +kernel
theorem dX8_putsBackAt_13 : decode cX8_putsBackAt 13 = .ok (.aload_n 0, 1) := by decide +kernel
theorem dX8_putsBackAt_14 : decode cX8_putsBackAt 14 = .ok (.getfield 73, 3) := by decide +kernel
theorem dX8_putsBackAt_17 : decode cX8_putsBackAt 17 = .ok (.bipush 93, 2) := by decide +kernel
theorem dX8_putsBackAt_19 : decode cX8_putsBackAt 19 = .ok (.iload_n 1, 1) := by decide +kernel
theorem dX8_putsBackAt_20 : decode cX8_putsBackAt 20 = .ok (.imul, 1) := by decide +kernel
theorem dX8_putsBackAt_21 : decode cX8_putsBackAt 21 = .ok (.iload_n 2, 1) := by decide +kernel
theorem dX8_putsBackAt_22 : decode cX8_putsBackAt 22 = .ok (.iadd, 1) := by decide +kernel
theorem dX8_putsBackAt_23 : decode cX8_putsBackAt 23 = .ok (.iaload, 1) := by decide +kernel
theorem dX8_putsBackAt_24 : decode cX8_putsBackAt 24 = .ok (.iastore, 1) := by decide +kernel
theorem dX8_putsBackAt_25 : decode cX8_putsBackAt 25 = .ok (.iinc 2 1, 3) := by decide +kernel
theorem dX8_putsBackAt_28 : decode cX8_putsBackAt 28 = .ok (.goto (-26), 3) := by decide +kernel
theorem dX8_putsBackAt_31 : decode cX8_putsBackAt 31 = .ok (.return_, 1) := by decide +kernel
theorem dX8_rowsOf_0 : decode cX8_rowsOf 0 = .ok (.iconst 0, 1) := by decide +kernel
theorem dX8_rowsOf_1 : decode cX8_rowsOf 1 = .ok (.istore_n 2, 1) := by decide +kernel
theorem dX8_rowsOf_2 : decode cX8_rowsOf 2 = .ok (.iconst 0, 1) := by decide +kernel
theorem dX8_rowsOf_3 : decode cX8_rowsOf 3 = .ok (.istore_n 3, 1) := by decide +kernel
theorem dX8_rowsOf_4 : decode cX8_rowsOf 4 = .ok (.aload_n 0, 1) := by decide +kernel
theorem dX8_rowsOf_5 : decode cX8_rowsOf 5 = .ok (.iconst 0, 1) := by decide +kernel
theorem dX8_rowsOf_6 : decode cX8_rowsOf 6 = .ok (.invokevirtual 461, 3) := by decide +kernel
theorem dX8_rowsOf_9 : decode cX8_rowsOf 9 = .ok (.aload_n 0, 1) := by decide +kernel
theorem dX8_rowsOf_10 : decode cX8_rowsOf 10 = .ok (.getfield 76, 3) := by decide +kernel
theorem dX8_rowsOf_13 : decode cX8_rowsOf 13 = .ok (.iconst 0, 1) := by decide +kernel
theorem dX8_rowsOf_14 : decode cX8_rowsOf 14 = .ok (.iconst (-1), 1) := by decide +kernel
theorem dX8_rowsOf_15 : decode cX8_rowsOf 15 = .ok (.iastore, 1) := by decide +kernel
theorem dX8_rowsOf_16 : decode cX8_rowsOf 16 = .ok (.iload_n 3, 1) := by decide +kernel
theorem dX8_rowsOf_17 : decode cX8_rowsOf 17 = .ok (.ifCond .lt 157, 3) := by decide +kernel
theorem dX8_rowsOf_20 : decode cX8_rowsOf 20 = .ok (.iload_n 2, 1) := by decide +kernel
theorem dX8_rowsOf_21 : decode cX8_rowsOf 21 = .ok (.sipush 30000, 3) := by decide +kernel
theorem dX8_rowsOf_24 : decode cX8_rowsOf 24 = .ok (.if_icmp .ge 150, 3) := by decide +kernel
theorem dX8_rowsOf_27 : decode cX8_rowsOf 27 = .ok (.aload_n 0, 1) := by decide +kernel
theorem dX8_rowsOf_28 : decode cX8_rowsOf 28 = .ok (.iload_n 3, 1) := by decide +kernel
theorem dX8_rowsOf_29 : decode cX8_rowsOf 29 = .ok (.invokevirtual 464, 3) := by decide +kernel
theorem dX8_rowsOf_32 : decode cX8_rowsOf 32 = .ok (.aload_n 0, 1) := by decide +kernel
theorem dX8_rowsOf_33 : decode cX8_rowsOf 33 = .ok (.getfield 76, 3) := by decide +kernel
theorem dX8_rowsOf_36 : decode cX8_rowsOf 36 = .ok (.iload_n 3, 1) := by decide +kernel
theorem dX8_rowsOf_37 : decode cX8_rowsOf 37 = .ok (.aload_n 0, 1) := by decide +kernel
theorem dX8_rowsOf_38 : decode cX8_rowsOf 38 = .ok (.aload_n 0, 1) := by decide +kernel
theorem dX8_rowsOf_39 : decode cX8_rowsOf 39 = .ok (.getfield 76, 3) := by decide +kernel
theorem dX8_rowsOf_42 : decode cX8_rowsOf 42 = .ok (.iload_n 3, 1) := by decide +kernel
theorem dX8_rowsOf_43 : decode cX8_rowsOf 43 = .ok (.iaload, 1) := by decide +kernel
theorem dX8_rowsOf_44 : decode cX8_rowsOf 44 = .ok (.iconst 1, 1) := by decide +kernel
theorem dX8_rowsOf_45 : decode cX8_rowsOf 45 = .ok (.iadd, 1) := by decide +kernel
theorem dX8_rowsOf_46 : decode cX8_rowsOf 46 = .ok (.invokevirtual 386, 3) := by decide +kernel
theorem dX8_rowsOf_49 : decode cX8_rowsOf 49 = .ok (.iastore, 1) := by decide +kernel
theorem dX8_rowsOf_50 : decode cX8_rowsOf 50 = .ok (.aload_n 0, 1) := by decide +kernel
theorem dX8_rowsOf_51 : decode cX8_rowsOf 51 = .ok (.getfield 76, 3) := by decide +kernel
theorem dX8_rowsOf_54 : decode cX8_rowsOf 54 = .ok (.iload_n 3, 1) := by decide +kernel
theorem dX8_rowsOf_55 : decode cX8_rowsOf 55 = .ok (.iaload, 1) := by decide +kernel
theorem dX8_rowsOf_56 : decode cX8_rowsOf 56 = .ok (.ifCond .ge 9, 3) := by decide +kernel
theorem dX8_rowsOf_59 : decode cX8_rowsOf 59 = .ok (.iinc 3 (-1), 3) := by decide +kernel
theorem dX8_rowsOf_62 : decode cX8_rowsOf 62 = .ok (.goto (-46), 3) := by decide +kernel
theorem dX8_rowsOf_65 : decode cX8_rowsOf 65 = .ok (.aload_n 0, 1) := by decide +kernel
theorem dX8_rowsOf_66 : decode cX8_rowsOf 66 = .ok (.aload_n 0, 1) := by decide +kernel
theorem dX8_rowsOf_67 : decode cX8_rowsOf 67 = .ok (.aload_n 0, 1) := by decide +kernel
theorem dX8_rowsOf_68 : decode cX8_rowsOf 68 = .ok (.getfield 76, 3) := by decide +kernel
theorem dX8_rowsOf_71 : decode cX8_rowsOf 71 = .ok (.iload_n 3, 1) := by decide +kernel
theorem dX8_rowsOf_72 : decode cX8_rowsOf 72 = .ok (.iaload, 1) := by decide +kernel
theorem dX8_rowsOf_73 : decode cX8_rowsOf 73 = .ok (.invokevirtual 377, 3) := by decide +kernel
theorem dX8_rowsOf_76 : decode cX8_rowsOf 76 = .ok (.aload_n 0, 1) := by decide +kernel
theorem dX8_rowsOf_77 : decode cX8_rowsOf 77 = .ok (.aload_n 0, 1) := by decide +kernel
theorem dX8_rowsOf_78 : decode cX8_rowsOf 78 = .ok (.getfield 76, 3) := by decide +kernel
theorem dX8_rowsOf_81 : decode cX8_rowsOf 81 = .ok (.iload_n 3, 1) := by decide +kernel
theorem dX8_rowsOf_82 : decode cX8_rowsOf 82 = .ok (.iaload, 1) := by decide +kernel
theorem dX8_rowsOf_83 : decode cX8_rowsOf 83 = .ok (.invokevirtual 371, 3) := by decide +kernel
theorem dX8_rowsOf_86 : decode cX8_rowsOf 86 = .ok (.aload_n 0, 1) := by decide +kernel
theorem dX8_rowsOf_87 : decode cX8_rowsOf 87 = .ok (.aload_n 0, 1) := by decide +kernel
theorem dX8_rowsOf_88 : decode cX8_rowsOf 88 = .ok (.getfield 76, 3) := by decide +kernel
theorem dX8_rowsOf_91 : decode cX8_rowsOf 91 = .ok (.iload_n 3, 1) := by decide +kernel
theorem dX8_rowsOf_92 : decode cX8_rowsOf 92 = .ok (.iaload, 1) := by decide +kernel
theorem dX8_rowsOf_93 : decode cX8_rowsOf 93 = .ok (.invokevirtual 374, 3) := by decide +kernel
theorem dX8_rowsOf_96 : decode cX8_rowsOf 96 = .ok (.invokevirtual 366, 3) := by decide +kernel
theorem dX8_rowsOf_99 : decode cX8_rowsOf 99 = .ok (.pop, 1) := by decide +kernel
theorem dX8_rowsOf_100 : decode cX8_rowsOf 100 = .ok (.iload_n 3, 1) := by decide +kernel
theorem dX8_rowsOf_101 : decode cX8_rowsOf 101 = .ok (.iload_n 1, 1) := by decide +kernel
theorem dX8_rowsOf_102 : decode cX8_rowsOf 102 = .ok (.iconst 1, 1) := by decide +kernel
theorem dX8_rowsOf_103 : decode cX8_rowsOf 103 = .ok (.isub, 1) := by decide +kernel
theorem dX8_rowsOf_104 : decode cX8_rowsOf 104 = .ok (.if_icmp .ge 21, 3) := by decide +kernel
theorem dX8_rowsOf_107 : decode cX8_rowsOf 107 = .ok (.iinc 3 1, 3) := by decide +kernel
theorem dX8_rowsOf_110 : decode cX8_rowsOf 110 = .ok (.aload_n 0, 1) := by decide +kernel
theorem dX8_rowsOf_111 : decode cX8_rowsOf 111 = .ok (.iload_n 3, 1) := by decide +kernel
theorem dX8_rowsOf_112 : decode cX8_rowsOf 112 = .ok (.invokevirtual 461, 3) := by decide +kernel
theorem dX8_rowsOf_115 : decode cX8_rowsOf 115 = .ok (.aload_n 0, 1) := by decide +kernel
theorem dX8_rowsOf_116 : decode cX8_rowsOf 116 = .ok (.getfield 76, 3) := by decide +kernel
theorem dX8_rowsOf_119 : decode cX8_rowsOf 119 = .ok (.iload_n 3, 1) := by decide +kernel
theorem dX8_rowsOf_120 : decode cX8_rowsOf 120 = .ok (.iconst (-1), 1) := by decide +kernel
theorem dX8_rowsOf_121 : decode cX8_rowsOf 121 = .ok (.iastore, 1) := by decide +kernel
theorem dX8_rowsOf_122 : decode cX8_rowsOf 122 = .ok (.goto (-106), 3) := by decide +kernel
theorem dX8_rowsOf_125 : decode cX8_rowsOf 125 = .ok (.aload_n 0, 1) := by decide +kernel
theorem dX8_rowsOf_126 : decode cX8_rowsOf 126 = .ok (.invokevirtual 467, 3) := by decide +kernel
theorem dX8_rowsOf_129 : decode cX8_rowsOf 129 = .ok (.ifCond .ne 6, 3) := by decide +kernel
theorem dX8_rowsOf_132 : decode cX8_rowsOf 132 = .ok (.goto (-116), 3) := by decide +kernel
theorem dX8_rowsOf_135 : decode cX8_rowsOf 135 = .ok (.iconst 0, 1) := by decide +kernel
theorem dX8_rowsOf_136 : decode cX8_rowsOf 136 = .ok (.istore 4, 2) := by decide +kernel
theorem dX8_rowsOf_138 : decode cX8_rowsOf 138 = .ok (.iload 4, 2) := by decide +kernel
theorem dX8_rowsOf_140 : decode cX8_rowsOf 140 = .ok (.iload_n 1, 1) := by decide +kernel
theorem dX8_rowsOf_141 : decode cX8_rowsOf 141 = .ok (.if_icmp .ge 27, 3) := by decide +kernel
theorem dX8_rowsOf_144 : decode cX8_rowsOf 144 = .ok (.iload_n 2, 1) := by decide +kernel
theorem dX8_rowsOf_145 : decode cX8_rowsOf 145 = .ok (.ifCond .ne 23, 3) := by decide +kernel
theorem dX8_rowsOf_148 : decode cX8_rowsOf 148 = .ok (.aload_n 0, 1) := by decide +kernel
theorem dX8_rowsOf_149 : decode cX8_rowsOf 149 = .ok (.getfield 79, 3) := by decide +kernel
theorem dX8_rowsOf_152 : decode cX8_rowsOf 152 = .ok (.iload 4, 2) := by decide +kernel
theorem dX8_rowsOf_154 : decode cX8_rowsOf 154 = .ok (.aload_n 0, 1) := by decide +kernel
theorem dX8_rowsOf_155 : decode cX8_rowsOf 155 = .ok (.getfield 76, 3) := by decide +kernel
theorem dX8_rowsOf_158 : decode cX8_rowsOf 158 = .ok (.iload 4, 2) := by decide +kernel
theorem dX8_rowsOf_160 : decode cX8_rowsOf 160 = .ok (.iaload, 1) := by decide +kernel
theorem dX8_rowsOf_161 : decode cX8_rowsOf 161 = .ok (.iastore, 1) := by decide +kernel
theorem dX8_rowsOf_162 : decode cX8_rowsOf 162 = .ok (.iinc 4 1, 3) := by decide +kernel
theorem dX8_rowsOf_165 : decode cX8_rowsOf 165 = .ok (.goto (-27), 3) := by decide +kernel
theorem dX8_rowsOf_168 : decode cX8_rowsOf 168 = .ok (.iinc 2 1, 3) := by decide +kernel
theorem dX8_rowsOf_171 : decode cX8_rowsOf 171 = .ok (.goto (-155), 3) := by decide +kernel
theorem dX8_rowsOf_174 : decode cX8_rowsOf 174 = .ok (.aload_n 0, 1) := by decide +kernel
theorem dX8_rowsOf_175 : decode cX8_rowsOf 175 = .ok (.iconst 0, 1) := by decide +kernel
theorem dX8_rowsOf_176 : decode cX8_rowsOf 176 = .ok (.invokevirtual 464, 3) := by decide +kernel
theorem dX8_rowsOf_179 : decode cX8_rowsOf 179 = .ok (.iload_n 2, 1) := by decide +kernel
theorem dX8_rowsOf_180 : decode cX8_rowsOf 180 = .ok (.ireturn, 1) := by decide +kernel
theorem dX8_went_0 : decode cX8_went 0 = .ok (.aload_n 0, 1) := by decide +kernel
theorem dX8_went_1 : decode cX8_went 1 = .ok (.getfield 42, 3) := by decide +kernel
theorem dX8_went_4 : decode cX8_went 4 = .ok (.iconst 0, 1) := by decide +kernel
theorem dX8_went_5 : decode cX8_went 5 = .ok (.iaload, 1) := by decide +kernel
theorem dX8_went_6 : decode cX8_went 6 = .ok (.ifCond .eq 28, 3) := by decide +kernel
theorem dX8_went_9 : decode cX8_went 9 = .ok (.iload_n 1, 1) := by decide +kernel
theorem dX8_went_10 : decode cX8_went 10 = .ok (.i2l, 1) := by decide +kernel
theorem dX8_went_11 : decode cX8_went 11 = .ok (.lconst 1, 1) := by decide +kernel
theorem dX8_went_12 : decode cX8_went 12 = .ok (.ldc2_w 308, 3) := by decide +kernel
theorem dX8_went_15 : decode cX8_went 15 = .ok (.invokestatic 127, 3) := by decide +kernel
theorem dX8_went_18 : decode cX8_went 18 = .ok (.ifCond .eq 16, 3) := by decide +kernel
theorem dX8_went_21 : decode cX8_went 21 = .ok (.iload_n 2, 1) := by decide +kernel
theorem dX8_went_22 : decode cX8_went 22 = .ok (.i2l, 1) := by decide +kernel
theorem dX8_went_23 : decode cX8_went 23 = .ok (.lconst 0, 1) := by decide +kernel
theorem dX8_went_24 : decode cX8_went 24 = .ok (.iconst 3, 1) := by decide +kernel
theorem dX8_went_25 : decode cX8_went 25 = .ok (.iload_n 1, 1) := by decide +kernel
theorem dX8_went_26 : decode cX8_went 26 = .ok (.imul, 1) := by decide +kernel
theorem dX8_went_27 : decode cX8_went 27 = .ok (.i2l, 1) := by decide +kernel
theorem dX8_went_28 : decode cX8_went 28 = .ok (.invokestatic 127, 3) := by decide +kernel
theorem dX8_went_31 : decode cX8_went 31 = .ok (.ifCond .ne 5, 3) := by decide +kernel
theorem dX8_went_34 : decode cX8_went 34 = .ok (.iconst (-1), 1) := by decide +kernel
theorem dX8_went_35 : decode cX8_went 35 = .ok (.ireturn, 1) := by decide +kernel
theorem dX8_went_36 : decode cX8_went 36 = .ok (.aload_n 0, 1) := by decide +kernel
theorem dX8_went_37 : decode cX8_went 37 = .ok (.iload_n 1, 1) := by decide +kernel
theorem dX8_went_38 : decode cX8_went 38 = .ok (.invokevirtual 470, 3) := by decide +kernel
theorem dX8_went_41 : decode cX8_went 41 = .ok (.istore_n 3, 1) := by decide +kernel
theorem dX8_went_42 : decode cX8_went 42 = .ok (.iload_n 2, 1) := by decide +kernel
theorem dX8_went_43 : decode cX8_went 43 = .ok (.ifCond .ne 5, 3) := by decide +kernel
theorem dX8_went_46 : decode cX8_went 46 = .ok (.iload_n 3, 1) := by decide +kernel
theorem dX8_went_47 : decode cX8_went 47 = .ok (.ireturn, 1) := by decide +kernel
theorem dX8_went_48 : decode cX8_went 48 = .ok (.iload_n 3, 1) := by decide +kernel
theorem dX8_went_49 : decode cX8_went 49 = .ok (.ifCond .ne 6, 3) := by decide +kernel
theorem dX8_went_52 : decode cX8_went 52 = .ok (.bipush (-2), 2) := by decide +kernel
theorem dX8_went_54 : decode cX8_went 54 = .ok (.ireturn, 1) := by decide +kernel
theorem dX8_went_55 : decode cX8_went 55 = .ok (.aload_n 0, 1) := by decide +kernel
theorem dX8_went_56 : decode cX8_went 56 = .ok (.getfield 79, 3) := by decide +kernel
theorem dX8_went_59 : decode cX8_went 59 = .ok (.iload_n 2, 1) := by decide +kernel
theorem dX8_went_60 : decode cX8_went 60 = .ok (.iconst 1, 1) := by decide +kernel
theorem dX8_went_61 : decode cX8_went 61 = .ok (.isub, 1) := by decide +kernel
theorem dX8_went_62 : decode cX8_went 62 = .ok (.iconst 3, 1) := by decide +kernel
theorem dX8_went_63 : decode cX8_went 63 = .ok (.idiv, 1) := by decide +kernel
theorem dX8_went_64 : decode cX8_went 64 = .ok (.iaload, 1) := by decide +kernel
theorem dX8_went_65 : decode cX8_went 65 = .ok (.istore 4, 2) := by decide +kernel
theorem dX8_went_67 : decode cX8_went 67 = .ok (.iload_n 2, 1) := by decide +kernel
theorem dX8_went_68 : decode cX8_went 68 = .ok (.iconst 3, 1) := by decide +kernel
theorem dX8_went_69 : decode cX8_went 69 = .ok (.irem, 1) := by decide +kernel
theorem dX8_went_70 : decode cX8_went 70 = .ok (.iconst 1, 1) := by decide +kernel
theorem dX8_went_71 : decode cX8_went 71 = .ok (.if_icmp .ne 12, 3) := by decide +kernel
theorem dX8_went_74 : decode cX8_went 74 = .ok (.aload_n 0, 1) := by decide +kernel
theorem dX8_went_75 : decode cX8_went 75 = .ok (.iload 4, 2) := by decide +kernel
theorem dX8_went_77 : decode cX8_went 77 = .ok (.invokevirtual 377, 3) := by decide +kernel
theorem dX8_went_80 : decode cX8_went 80 = .ok (.goto 25, 3) := by decide +kernel
theorem dX8_went_83 : decode cX8_went 83 = .ok (.iload_n 2, 1) := by decide +kernel
theorem dX8_went_84 : decode cX8_went 84 = .ok (.iconst 3, 1) := by decide +kernel
theorem dX8_went_85 : decode cX8_went 85 = .ok (.irem, 1) := by decide +kernel
theorem dX8_went_86 : decode cX8_went 86 = .ok (.iconst 2, 1) := by decide +kernel
theorem dX8_went_87 : decode cX8_went 87 = .ok (.if_icmp .ne 12, 3) := by decide +kernel
theorem dX8_went_90 : decode cX8_went 90 = .ok (.aload_n 0, 1) := by decide +kernel
theorem dX8_went_91 : decode cX8_went 91 = .ok (.iload 4, 2) := by decide +kernel
theorem dX8_went_93 : decode cX8_went 93 = .ok (.invokevirtual 371, 3) := by decide +kernel
theorem dX8_went_96 : decode cX8_went 96 = .ok (.goto 9, 3) := by decide +kernel
theorem dX8_went_99 : decode cX8_went 99 = .ok (.aload_n 0, 1) := by decide +kernel
theorem dX8_went_100 : decode cX8_went 100 = .ok (.iload 4, 2) := by decide +kernel
theorem dX8_went_102 : decode cX8_went 102 = .ok (.invokevirtual 374, 3) := by decide +kernel
theorem dX8_went_105 : decode cX8_went 105 = .ok (.ireturn, 1) := by decide +kernel
theorem dX8_book_0 : decode cX8_book 0 = .ok (.iload_n 1, 1) := by decide +kernel
theorem dX8_book_1 : decode cX8_book 1 = .ok (.iconst (-1), 1) := by decide +kernel
theorem dX8_book_2 : decode cX8_book 2 = .ok (.if_icmp .ne 13, 3) := by decide +kernel
theorem dX8_book_5 : decode cX8_book 5 = .ok (.aload_n 0, 1) := by decide +kernel
theorem dX8_book_6 : decode cX8_book 6 = .ok (.getfield 42, 3) := by decide +kernel
theorem dX8_book_9 : decode cX8_book 9 = .ok (.bipush 6, 2) := by decide +kernel
theorem dX8_book_11 : decode cX8_book 11 = .ok (.iconst 0, 1) := by decide +kernel
theorem dX8_book_12 : decode cX8_book 12 = .ok (.iastore, 1) := by decide +kernel
theorem dX8_book_13 : decode cX8_book 13 = .ok (.iconst 0, 1) := by decide +kernel
theorem dX8_book_14 : decode cX8_book 14 = .ok (.ireturn, 1) := by decide +kernel
theorem dX8_book_15 : decode cX8_book 15 = .ok (.aload_n 0, 1) := by decide +kernel
theorem dX8_book_16 : decode cX8_book 16 = .ok (.iload_n 1, 1) := by decide +kernel
theorem dX8_book_17 : decode cX8_book 17 = .ok (.iload_n 2, 1) := by decide +kernel
theorem dX8_book_18 : decode cX8_book 18 = .ok (.iload_n 3, 1) := by decide +kernel
theorem dX8_book_19 : decode cX8_book 19 = .ok (.invokevirtual 356, 3) := by decide +kernel
theorem dX8_book_22 : decode cX8_book 22 = .ok (.ifCond .eq 15, 3) := by decide +kernel
theorem dX8_book_25 : decode cX8_book 25 = .ok (.aload_n 0, 1) := by decide +kernel
theorem dX8_book_26 : decode cX8_book 26 = .ok (.getfield 42, 3) := by decide +kernel
theorem dX8_book_29 : decode cX8_book 29 = .ok (.bipush 6, 2) := by decide +kernel
theorem dX8_book_31 : decode cX8_book 31 = .ok (.iaload, 1) := by decide +kernel
theorem dX8_book_32 : decode cX8_book 32 = .ok (.bipush 10, 2) := by decide +kernel
theorem dX8_book_34 : decode cX8_book 34 = .ok (.if_icmp .ne 6, 3) := by decide +kernel
theorem dX8_book_37 : decode cX8_book 37 = .ok (.bipush (-2), 2) := by decide +kernel
theorem dX8_book_39 : decode cX8_book 39 = .ok (.ireturn, 1) := by decide +kernel
theorem dX8_book_40 : decode cX8_book 40 = .ok (.bipush 63, 2) := by decide +kernel
theorem dX8_book_42 : decode cX8_book 42 = .ok (.iconst 3, 1) := by decide +kernel
theorem dX8_book_43 : decode cX8_book 43 = .ok (.aload_n 0, 1) := by decide +kernel
theorem dX8_book_44 : decode cX8_book 44 = .ok (.getfield 42, 3) := by decide +kernel
theorem dX8_book_47 : decode cX8_book 47 = .ok (.bipush 6, 2) := by decide +kernel
theorem dX8_book_49 : decode cX8_book 49 = .ok (.iaload, 1) := by decide +kernel
theorem dX8_book_50 : decode cX8_book 50 = .ok (.imul, 1) := by decide +kernel
theorem dX8_book_51 : decode cX8_book 51 = .ok (.iadd, 1) := by decide +kernel
theorem dX8_book_52 : decode cX8_book 52 = .ok (.istore 4, 2) := by decide +kernel
theorem dX8_book_54 : decode cX8_book 54 = .ok (.aload_n 0, 1) := by decide +kernel
theorem dX8_book_55 : decode cX8_book 55 = .ok (.getfield 42, 3) := by decide +kernel
theorem dX8_book_58 : decode cX8_book 58 = .ok (.iload 4, 2) := by decide +kernel
theorem dX8_book_60 : decode cX8_book 60 = .ok (.iload_n 1, 1) := by decide +kernel
theorem dX8_book_61 : decode cX8_book 61 = .ok (.iastore, 1) := by decide +kernel
theorem dX8_book_62 : decode cX8_book 62 = .ok (.aload_n 0, 1) := by decide +kernel
theorem dX8_book_63 : decode cX8_book 63 = .ok (.getfield 42, 3) := by decide +kernel
theorem dX8_book_66 : decode cX8_book 66 = .ok (.iload 4, 2) := by decide +kernel
theorem dX8_book_68 : decode cX8_book 68 = .ok (.iconst 1, 1) := by decide +kernel
theorem dX8_book_69 : decode cX8_book 69 = .ok (.iadd, 1) := by decide +kernel
theorem dX8_book_70 : decode cX8_book 70 = .ok (.iload_n 2, 1) := by decide +kernel
theorem dX8_book_71 : decode cX8_book 71 = .ok (.iastore, 1) := by decide +kernel
theorem dX8_book_72 : decode cX8_book 72 = .ok (.aload_n 0, 1) := by decide +kernel
theorem dX8_book_73 : decode cX8_book 73 = .ok (.getfield 42, 3) := by decide +kernel
theorem dX8_book_76 : decode cX8_book 76 = .ok (.iload 4, 2) := by decide +kernel
theorem dX8_book_78 : decode cX8_book 78 = .ok (.iconst 2, 1) := by decide +kernel
theorem dX8_book_79 : decode cX8_book 79 = .ok (.iadd, 1) := by decide +kernel
theorem dX8_book_80 : decode cX8_book 80 = .ok (.iload_n 3, 1) := by decide +kernel
theorem dX8_book_81 : decode cX8_book 81 = .ok (.iastore, 1) := by decide +kernel
theorem dX8_book_82 : decode cX8_book 82 = .ok (.aload_n 0, 1) := by decide +kernel
theorem dX8_book_83 : decode cX8_book 83 = .ok (.getfield 42, 3) := by decide +kernel
theorem dX8_book_86 : decode cX8_book 86 = .ok (.bipush 6, 2) := by decide +kernel
theorem dX8_book_88 : decode cX8_book 88 = .ok (.dup2, 1) := by decide +kernel
theorem dX8_book_89 : decode cX8_book 89 = .ok (.iaload, 1) := by decide +kernel
theorem dX8_book_90 : decode cX8_book 90 = .ok (.iconst 1, 1) := by decide +kernel
theorem dX8_book_91 : decode cX8_book 91 = .ok (.iadd, 1) := by decide +kernel
theorem dX8_book_92 : decode cX8_book 92 = .ok (.iastore, 1) := by decide +kernel
theorem dX8_book_93 : decode cX8_book 93 = .ok (.aload_n 0, 1) := by decide +kernel
theorem dX8_book_94 : decode cX8_book 94 = .ok (.getfield 42, 3) := by decide +kernel
theorem dX8_book_97 : decode cX8_book 97 = .ok (.bipush 6, 2) := by decide +kernel
theorem dX8_book_99 : decode cX8_book 99 = .ok (.iaload, 1) := by decide +kernel
theorem dX8_book_100 : decode cX8_book 100 = .ok (.ireturn, 1) := by decide +kernel
theorem dX8_isBooked_0 : decode cX8_isBooked 0 = .ok (.aload_n 0, 1) := by decide +kernel
theorem dX8_isBooked_1 : decode cX8_isBooked 1 = .ok (.getfield 42, 3) := by decide +kernel
theorem dX8_isBooked_4 : decode cX8_isBooked 4 = .ok (.bipush 25, 2) := by decide +kernel
theorem dX8_isBooked_6 : decode cX8_isBooked 6 = .ok (.iconst 5, 1) := by decide +kernel
theorem dX8_isBooked_7 : decode cX8_isBooked 7 = .ok (.iload_n 1, 1) := by decide +kernel
theorem dX8_isBooked_8 : decode cX8_isBooked 8 = .ok (.imul, 1) := by decide +kernel
theorem dX8_isBooked_9 : decode cX8_isBooked 9 = .ok (.iadd, 1) := by decide +kernel
theorem dX8_isBooked_10 : decode cX8_isBooked 10 = .ok (.dup2, 1) := by decide +kernel
theorem dX8_isBooked_11 : decode cX8_isBooked 11 = .ok (.iaload, 1) := by decide +kernel
theorem dX8_isBooked_12 : decode cX8_isBooked 12 = .ok (.iload_n 2, 1) := by decide +kernel
theorem dX8_isBooked_13 : decode cX8_isBooked 13 = .ok (.iadd, 1) := by decide +kernel
theorem dX8_isBooked_14 : decode cX8_isBooked 14 = .ok (.iastore, 1) := by decide +kernel
theorem dX8_isBooked_15 : decode cX8_isBooked 15 = .ok (.iconst 0, 1) := by decide +kernel
theorem dX8_isBooked_16 : decode cX8_isBooked 16 = .ok (.istore_n 3, 1) := by decide +kernel
theorem dX8_isBooked_17 : decode cX8_isBooked 17 = .ok (.iload_n 3, 1) := by decide +kernel
theorem dX8_isBooked_18 : decode cX8_isBooked 18 = .ok (.aload_n 0, 1) := by decide +kernel
theorem dX8_isBooked_19 : decode cX8_isBooked 19 = .ok (.getfield 42, 3) := by decide +kernel
theorem dX8_isBooked_22 : decode cX8_isBooked 22 = .ok (.bipush 6, 2) := by decide +kernel
theorem dX8_isBooked_24 : decode cX8_isBooked 24 = .ok (.iaload, 1) := by decide +kernel
theorem dX8_isBooked_25 : decode cX8_isBooked 25 = .ok (.if_icmp .ge 47, 3) := by decide +kernel
theorem dX8_isBooked_28 : decode cX8_isBooked 28 = .ok (.bipush 63, 2) := by decide +kernel
theorem dX8_isBooked_30 : decode cX8_isBooked 30 = .ok (.iconst 3, 1) := by decide +kernel
theorem dX8_isBooked_31 : decode cX8_isBooked 31 = .ok (.iload_n 3, 1) := by decide +kernel
theorem dX8_isBooked_32 : decode cX8_isBooked 32 = .ok (.imul, 1) := by decide +kernel
theorem dX8_isBooked_33 : decode cX8_isBooked 33 = .ok (.iadd, 1) := by decide +kernel
theorem dX8_isBooked_34 : decode cX8_isBooked 34 = .ok (.istore 4, 2) := by decide +kernel
theorem dX8_isBooked_36 : decode cX8_isBooked 36 = .ok (.aload_n 0, 1) := by decide +kernel
theorem dX8_isBooked_37 : decode cX8_isBooked 37 = .ok (.aload_n 0, 1) := by decide +kernel
theorem dX8_isBooked_38 : decode cX8_isBooked 38 = .ok (.getfield 42, 3) := by decide +kernel
theorem dX8_isBooked_41 : decode cX8_isBooked 41 = .ok (.iload 4, 2) := by decide +kernel
theorem dX8_isBooked_43 : decode cX8_isBooked 43 = .ok (.iaload, 1) := by decide +kernel
theorem dX8_isBooked_44 : decode cX8_isBooked 44 = .ok (.aload_n 0, 1) := by decide +kernel
theorem dX8_isBooked_45 : decode cX8_isBooked 45 = .ok (.getfield 42, 3) := by decide +kernel
theorem dX8_isBooked_48 : decode cX8_isBooked 48 = .ok (.iload 4, 2) := by decide +kernel
theorem dX8_isBooked_50 : decode cX8_isBooked 50 = .ok (.iconst 1, 1) := by decide +kernel
theorem dX8_isBooked_51 : decode cX8_isBooked 51 = .ok (.iadd, 1) := by decide +kernel
theorem dX8_isBooked_52 : decode cX8_isBooked 52 = .ok (.iaload, 1) := by decide +kernel
theorem dX8_isBooked_53 : decode cX8_isBooked 53 = .ok (.aload_n 0, 1) := by decide +kernel
theorem dX8_isBooked_54 : decode cX8_isBooked 54 = .ok (.getfield 42, 3) := by decide +kernel
theorem dX8_isBooked_57 : decode cX8_isBooked 57 = .ok (.iload 4, 2) := by decide +kernel
theorem dX8_isBooked_59 : decode cX8_isBooked 59 = .ok (.iconst 2, 1) := by decide +kernel
theorem dX8_isBooked_60 : decode cX8_isBooked 60 = .ok (.iadd, 1) := by decide +kernel
theorem dX8_isBooked_61 : decode cX8_isBooked 61 = .ok (.iaload, 1) := by decide +kernel
theorem dX8_isBooked_62 : decode cX8_isBooked 62 = .ok (.invokevirtual 366, 3) := by decide +kernel
theorem dX8_isBooked_65 : decode cX8_isBooked 65 = .ok (.pop, 1) := by decide +kernel
theorem dX8_isBooked_66 : decode cX8_isBooked 66 = .ok (.iinc 3 1, 3) := by decide +kernel
theorem dX8_isBooked_69 : decode cX8_isBooked 69 = .ok (.goto (-52), 3) := by decide +kernel
theorem dX8_isBooked_72 : decode cX8_isBooked 72 = .ok (.aload_n 0, 1) := by decide +kernel
theorem dX8_isBooked_73 : decode cX8_isBooked 73 = .ok (.invokevirtual 467, 3) := by decide +kernel
theorem dX8_isBooked_76 : decode cX8_isBooked 76 = .ok (.istore_n 3, 1) := by decide +kernel
theorem dX8_isBooked_77 : decode cX8_isBooked 77 = .ok (.aload_n 0, 1) := by decide +kernel
theorem dX8_isBooked_78 : decode cX8_isBooked 78 = .ok (.invokevirtual 403, 3) := by decide +kernel
theorem dX8_isBooked_81 : decode cX8_isBooked 81 = .ok (.iload_n 3, 1) := by decide +kernel
theorem dX8_isBooked_82 : decode cX8_isBooked 82 = .ok (.ireturn, 1) := by decide +kernel
theorem dX8_smuggled_0 : decode cX8_smuggled 0 = .ok (.aload_n 0, 1) := by decide +kernel
theorem dX8_smuggled_1 : decode cX8_smuggled 1 = .ok (.getfield 42, 3) := by decide +kernel
theorem dX8_smuggled_4 : decode cX8_smuggled 4 = .ok (.iconst 0, 1) := by decide +kernel
theorem dX8_smuggled_5 : decode cX8_smuggled 5 = .ok (.iaload, 1) := by decide +kernel
theorem dX8_smuggled_6 : decode cX8_smuggled 6 = .ok (.ifCond .eq 15, 3) := by decide +kernel
theorem dX8_smuggled_9 : decode cX8_smuggled 9 = .ok (.iload_n 1, 1) := by decide +kernel
theorem dX8_smuggled_10 : decode cX8_smuggled 10 = .ok (.i2l, 1) := by decide +kernel
theorem dX8_smuggled_11 : decode cX8_smuggled 11 = .ok (.lconst 0, 1) := by decide +kernel
theorem dX8_smuggled_12 : decode cX8_smuggled 12 = .ok (.ldc2_w 449, 3) := by decide +kernel
theorem dX8_smuggled_15 : decode cX8_smuggled 15 = .ok (.invokestatic 127, 3) := by decide +kernel
theorem dX8_smuggled_18 : decode cX8_smuggled 18 = .ok (.ifCond .ne 5, 3) := by decide +kernel
theorem dX8_smuggled_21 : decode cX8_smuggled 21 = .ok (.iconst (-1), 1) := by decide +kernel
theorem dX8_smuggled_22 : decode cX8_smuggled 22 = .ok (.ireturn, 1) := by decide +kernel
theorem dX8_smuggled_23 : decode cX8_smuggled 23 = .ok (.iconst 0, 1) := by decide +kernel
theorem dX8_smuggled_24 : decode cX8_smuggled 24 = .ok (.istore_n 2, 1) := by decide +kernel
theorem dX8_smuggled_25 : decode cX8_smuggled 25 = .ok (.bipush (-2), 2) := by decide +kernel
theorem dX8_smuggled_27 : decode cX8_smuggled 27 = .ok (.istore_n 3, 1) := by decide +kernel
theorem dX8_smuggled_28 : decode cX8_smuggled 28 = .ok (.iconst 0, 1) := by decide +kernel
theorem dX8_smuggled_29 : decode cX8_smuggled 29 = .ok (.istore 4, 2) := by decide +kernel
theorem dX8_smuggled_31 : decode cX8_smuggled 31 = .ok (.aload_n 0, 1) := by decide +kernel
theorem dX8_smuggled_32 : decode cX8_smuggled 32 = .ok (.invokevirtual 397, 3) := by decide +kernel
theorem dX8_smuggled_35 : decode cX8_smuggled 35 = .ok (.iconst 0, 1) := by decide +kernel
theorem dX8_smuggled_36 : decode cX8_smuggled 36 = .ok (.istore 5, 2) := by decide +kernel
theorem dX8_smuggled_38 : decode cX8_smuggled 38 = .ok (.iload 5, 2) := by decide +kernel
theorem dX8_smuggled_40 : decode cX8_smuggled 40 = .ok (.aload_n 0, 1) := by decide +kernel
theorem dX8_smuggled_41 : decode cX8_smuggled 41 = .ok (.getfield 42, 3) := by decide +kernel
theorem dX8_smuggled_44 : decode cX8_smuggled 44 = .ok (.iconst 1, 1) := by decide +kernel
theorem dX8_smuggled_45 : decode cX8_smuggled 45 = .ok (.iaload, 1) := by decide +kernel
theorem dX8_smuggled_46 : decode cX8_smuggled 46 = .ok (.if_icmp .ge 66, 3) := by decide +kernel
theorem dX8_smuggled_49 : decode cX8_smuggled 49 = .ok (.iconst 1, 1) := by decide +kernel
theorem dX8_smuggled_50 : decode cX8_smuggled 50 = .ok (.istore 6, 2) := by decide +kernel
theorem dX8_smuggled_52 : decode cX8_smuggled 52 = .ok (.iload 6, 2) := by decide +kernel
theorem dX8_smuggled_54 : decode cX8_smuggled 54 = .ok (.bipush 20, 2) := by decide +kernel
theorem dX8_smuggled_56 : decode cX8_smuggled 56 = .ok (.if_icmp .gt 50, 3) := by decide +kernel
theorem dX8_smuggled_59 : decode cX8_smuggled 59 = .ok (.aload_n 0, 1) := by decide +kernel
theorem dX8_smuggled_60 : decode cX8_smuggled 60 = .ok (.iload 5, 2) := by decide +kernel
theorem dX8_smuggled_62 : decode cX8_smuggled 62 = .ok (.iload 6, 2) := by decide +kernel
theorem dX8_smuggled_64 : decode cX8_smuggled 64 = .ok (.invokevirtual 473, 3) := by decide +kernel
theorem dX8_smuggled_67 : decode cX8_smuggled 67 = .ok (.ifCond .ne 6, 3) := by decide +kernel
theorem dX8_smuggled_70 : decode cX8_smuggled 70 = .ok (.goto 30, 3) := by decide +kernel
theorem dX8_smuggled_73 : decode cX8_smuggled 73 = .ok (.iload_n 2, 1) := by decide +kernel
theorem dX8_smuggled_74 : decode cX8_smuggled 74 = .ok (.ifCond .ne 8, 3) := by decide +kernel
theorem dX8_smuggled_77 : decode cX8_smuggled 77 = .ok (.iload 5, 2) := by decide +kernel
theorem dX8_smuggled_79 : decode cX8_smuggled 79 = .ok (.goto 4, 3) := by decide +kernel
theorem dX8_smuggled_82 : decode cX8_smuggled 82 = .ok (.iload_n 3, 1) := by decide +kernel
theorem dX8_smuggled_83 : decode cX8_smuggled 83 = .ok (.istore_n 3, 1) := by decide +kernel
theorem dX8_smuggled_84 : decode cX8_smuggled 84 = .ok (.iload_n 2, 1) := by decide +kernel
theorem dX8_smuggled_85 : decode cX8_smuggled 85 = .ok (.ifCond .ne 8, 3) := by decide +kernel
theorem dX8_smuggled_88 : decode cX8_smuggled 88 = .ok (.iload 6, 2) := by decide +kernel
theorem dX8_smuggled_90 : decode cX8_smuggled 90 = .ok (.goto 5, 3) := by decide +kernel
theorem dX8_smuggled_93 : decode cX8_smuggled 93 = .ok (.iload 4, 2) := by decide +kernel
theorem dX8_smuggled_95 : decode cX8_smuggled 95 = .ok (.istore 4, 2) := by decide +kernel
theorem dX8_smuggled_97 : decode cX8_smuggled 97 = .ok (.iinc 2 1, 3) := by decide +kernel
theorem dX8_smuggled_100 : decode cX8_smuggled 100 = .ok (.iinc 6 1, 3) := by decide +kernel
theorem dX8_smuggled_103 : decode cX8_smuggled 103 = .ok (.goto (-51), 3) := by decide +kernel
theorem dX8_smuggled_106 : decode cX8_smuggled 106 = .ok (.iinc 5 1, 3) := by decide +kernel
theorem dX8_smuggled_109 : decode cX8_smuggled 109 = .ok (.goto (-71), 3) := by decide +kernel
theorem dX8_smuggled_112 : decode cX8_smuggled 112 = .ok (.iload_n 1, 1) := by decide +kernel
theorem dX8_smuggled_113 : decode cX8_smuggled 113 = .ok (.ifCond .ne 7, 3) := by decide +kernel
theorem dX8_smuggled_116 : decode cX8_smuggled 116 = .ok (.iload_n 2, 1) := by decide +kernel
theorem dX8_smuggled_117 : decode cX8_smuggled 117 = .ok (.goto 14, 3) := by decide +kernel
theorem dX8_smuggled_120 : decode cX8_smuggled 120 = .ok (.iload_n 1, 1) := by decide +kernel
theorem dX8_smuggled_121 : decode cX8_smuggled 121 = .ok (.iconst 1, 1) := by decide +kernel
theorem dX8_smuggled_122 : decode cX8_smuggled 122 = .ok (.if_icmp .ne 7, 3) := by decide +kernel
theorem dX8_smuggled_125 : decode cX8_smuggled 125 = .ok (.iload_n 3, 1) := by decide +kernel
theorem dX8_smuggled_126 : decode cX8_smuggled 126 = .ok (.goto 5, 3) := by decide +kernel
theorem dX8_smuggled_129 : decode cX8_smuggled 129 = .ok (.iload 4, 2) := by decide +kernel
theorem dX8_smuggled_131 : decode cX8_smuggled 131 = .ok (.ireturn, 1) := by decide +kernel
theorem dX8_seed_0 : decode cX8_seed 0 = .ok (.iload_n 1, 1) := by decide +kernel
theorem dX8_seed_1 : decode cX8_seed 1 = .ok (.ifCond .ge 5, 3) := by decide +kernel
theorem dX8_seed_4 : decode cX8_seed 4 = .ok (.iconst (-1), 1) := by decide +kernel
theorem dX8_seed_5 : decode cX8_seed 5 = .ok (.ireturn, 1) := by decide +kernel
theorem dX8_seed_6 : decode cX8_seed 6 = .ok (.aload_n 0, 1) := by decide +kernel
theorem dX8_seed_7 : decode cX8_seed 7 = .ok (.getfield 42, 3) := by decide +kernel
theorem dX8_seed_10 : decode cX8_seed 10 = .ok (.bipush 7, 2) := by decide +kernel
theorem dX8_seed_12 : decode cX8_seed 12 = .ok (.iaload, 1) := by decide +kernel
theorem dX8_seed_13 : decode cX8_seed 13 = .ok (.istore_n 2, 1) := by decide +kernel
theorem dX8_seed_14 : decode cX8_seed 14 = .ok (.aload_n 0, 1) := by decide +kernel
theorem dX8_seed_15 : decode cX8_seed 15 = .ok (.getfield 42, 3) := by decide +kernel
theorem dX8_seed_18 : decode cX8_seed 18 = .ok (.bipush 7, 2) := by decide +kernel
theorem dX8_seed_20 : decode cX8_seed 20 = .ok (.iload_n 1, 1) := by decide +kernel
theorem dX8_seed_21 : decode cX8_seed 21 = .ok (.iastore, 1) := by decide +kernel
theorem dX8_seed_22 : decode cX8_seed 22 = .ok (.iload_n 2, 1) := by decide +kernel
theorem dX8_seed_23 : decode cX8_seed 23 = .ok (.ireturn, 1) := by decide +kernel
theorem dX8_seasons_0 : decode cX8_seasons 0 = .ok (.aload_n 0, 1) := by decide +kernel
theorem dX8_seasons_1 : decode cX8_seasons 1 = .ok (.getfield 42, 3) := by decide +kernel
theorem dX8_seasons_4 : decode cX8_seasons 4 = .ok (.iconst 0, 1) := by decide +kernel
theorem dX8_seasons_5 : decode cX8_seasons 5 = .ok (.iaload, 1) := by decide +kernel
theorem dX8_seasons_6 : decode cX8_seasons 6 = .ok (.ifCond .eq 37, 3) := by decide +kernel
theorem dX8_seasons_9 : decode cX8_seasons 9 = .ok (.iload_n 1, 1) := by decide +kernel
theorem dX8_seasons_10 : decode cX8_seasons 10 = .ok (.i2l, 1) := by decide +kernel
theorem dX8_seasons_11 : decode cX8_seasons 11 = .ok (.lconst 1, 1) := by decide +kernel
theorem dX8_seasons_12 : decode cX8_seasons 12 = .ok (.ldc2_w 476, 3) := by decide +kernel
theorem dX8_seasons_15 : decode cX8_seasons 15 = .ok (.invokestatic 127, 3) := by decide +kernel
theorem dX8_seasons_18 : decode cX8_seasons 18 = .ok (.ifCond .eq 25, 3) := by decide +kernel
theorem dX8_seasons_21 : decode cX8_seasons 21 = .ok (.iload_n 2, 1) := by decide +kernel
theorem dX8_seasons_22 : decode cX8_seasons 22 = .ok (.i2l, 1) := by decide +kernel
theorem dX8_seasons_23 : decode cX8_seasons 23 = .ok (.lconst 1, 1) := by decide +kernel
theorem dX8_seasons_24 : decode cX8_seasons 24 = .ok (.ldc2_w 478, 3) := by decide +kernel
theorem dX8_seasons_27 : decode cX8_seasons 27 = .ok (.invokestatic 127, 3) := by decide +kernel
theorem dX8_seasons_30 : decode cX8_seasons 30 = .ok (.ifCond .eq 13, 3) := by decide +kernel
theorem dX8_seasons_33 : decode cX8_seasons 33 = .ok (.iload_n 3, 1) := by decide +kernel
theorem dX8_seasons_34 : decode cX8_seasons 34 = .ok (.i2l, 1) := by decide +kernel
theorem dX8_seasons_35 : decode cX8_seasons 35 = .ok (.lconst 0, 1) := by decide +kernel
theorem dX8_seasons_36 : decode cX8_seasons 36 = .ok (.lconst 1, 1) := by decide +kernel
theorem dX8_seasons_37 : decode cX8_seasons 37 = .ok (.invokestatic 127, 3) := by decide +kernel
theorem dX8_seasons_40 : decode cX8_seasons 40 = .ok (.ifCond .ne 5, 3) := by decide +kernel
theorem dX8_seasons_43 : decode cX8_seasons 43 = .ok (.iconst (-1), 1) := by decide +kernel
theorem dX8_seasons_44 : decode cX8_seasons 44 = .ok (.ireturn, 1) := by decide +kernel
theorem dX8_seasons_45 : decode cX8_seasons 45 = .ok (.aload_n 0, 1) := by decide +kernel
theorem dX8_seasons_46 : decode cX8_seasons 46 = .ok (.invokevirtual 397, 3) := by decide +kernel
theorem dX8_seasons_49 : decode cX8_seasons 49 = .ok (.aload_n 0, 1) := by decide +kernel
theorem dX8_seasons_50 : decode cX8_seasons 50 = .ok (.getfield 42, 3) := by decide +kernel
theorem dX8_seasons_53 : decode cX8_seasons 53 = .ok (.bipush 7, 2) := by decide +kernel
theorem dX8_seasons_55 : decode cX8_seasons 55 = .ok (.iaload, 1) := by decide +kernel
theorem dX8_seasons_56 : decode cX8_seasons 56 = .ok (.i2l, 1) := by decide +kernel
theorem dX8_seasons_57 : decode cX8_seasons 57 = .ok (.lstore 4, 2) := by decide +kernel
theorem dX8_seasons_59 : decode cX8_seasons 59 = .ok (.iconst 0, 1) := by decide +kernel
theorem dX8_seasons_60 : decode cX8_seasons 60 = .ok (.istore 6, 2) := by decide +kernel
theorem dX8_seasons_62 : decode cX8_seasons 62 = .ok (.iconst 0, 1) := by decide +kernel
theorem dX8_seasons_63 : decode cX8_seasons 63 = .ok (.istore 7, 2) := by decide +kernel
theorem dX8_seasons_65 : decode cX8_seasons 65 = .ok (.iload 7, 2) := by decide +kernel
theorem dX8_seasons_67 : decode cX8_seasons 67 = .ok (.iload_n 1, 1) := by decide +kernel
theorem dX8_seasons_68 : decode cX8_seasons 68 = .ok (.if_icmp .ge 160, 3) := by decide +kernel
theorem dX8_seasons_71 : decode cX8_seasons 71 = .ok (.iconst 0, 1) := by decide +kernel
theorem dX8_seasons_72 : decode cX8_seasons 72 = .ok (.istore 8, 2) := by decide +kernel
theorem dX8_seasons_74 : decode cX8_seasons 74 = .ok (.iload 8, 2) := by decide +kernel
theorem dX8_seasons_76 : decode cX8_seasons 76 = .ok (.aload_n 0, 1) := by decide +kernel
theorem dX8_seasons_77 : decode cX8_seasons 77 = .ok (.getfield 42, 3) := by decide +kernel
theorem dX8_seasons_80 : decode cX8_seasons 80 = .ok (.iconst 1, 1) := by decide +kernel
theorem dX8_seasons_81 : decode cX8_seasons 81 = .ok (.iaload, 1) := by decide +kernel
theorem dX8_seasons_82 : decode cX8_seasons 82 = .ok (.if_icmp .ge 96, 3) := by decide +kernel
theorem dX8_seasons_85 : decode cX8_seasons 85 = .ok (.lload 4, 2) := by decide +kernel
theorem dX8_seasons_87 : decode cX8_seasons 87 = .ok (.ldc2_w 480, 3) := by decide +kernel
theorem dX8_seasons_90 : decode cX8_seasons 90 = .ok (.lmul, 1) := by decide +kernel
theorem dX8_seasons_91 : decode cX8_seasons 91 = .ok (.ldc2_w 482, 3) := by decide +kernel
theorem dX8_seasons_94 : decode cX8_seasons 94 = .ok (.ladd, 1) := by decide +kernel
theorem dX8_seasons_95 : decode cX8_seasons 95 = .ok (.ldc2_w 484, 3) := by decide +kernel
theorem dX8_seasons_98 : decode cX8_seasons 98 = .ok (.lrem, 1) := by decide +kernel
theorem dX8_seasons_99 : decode cX8_seasons 99 = .ok (.lstore 4, 2) := by decide +kernel
theorem dX8_seasons_101 : decode cX8_seasons 101 = .ok (.aload_n 0, 1) := by decide +kernel
theorem dX8_seasons_102 : decode cX8_seasons 102 = .ok (.getfield 42, 3) := by decide +kernel
theorem dX8_seasons_105 : decode cX8_seasons 105 = .ok (.bipush 25, 2) := by decide +kernel
theorem dX8_seasons_107 : decode cX8_seasons 107 = .ok (.iconst 5, 1) := by decide +kernel
theorem dX8_seasons_108 : decode cX8_seasons 108 = .ok (.iload 8, 2) := by decide +kernel
theorem dX8_seasons_110 : decode cX8_seasons 110 = .ok (.imul, 1) := by decide +kernel
theorem dX8_seasons_111 : decode cX8_seasons 111 = .ok (.iadd, 1) := by decide +kernel
theorem dX8_seasons_112 : decode cX8_seasons 112 = .ok (.iconst 1, 1) := by decide +kernel
theorem dX8_seasons_113 : decode cX8_seasons 113 = .ok (.lload 4, 2) := by decide +kernel
theorem dX8_seasons_115 : decode cX8_seasons 115 = .ok (.ldc2_w 486, 3) := by decide +kernel
theorem dX8_seasons_118 : decode cX8_seasons 118 = .ok (.ldiv, 1) := by decide +kernel
theorem dX8_seasons_119 : decode cX8_seasons 119 = .ok (.iload_n 2, 1) := by decide +kernel
theorem dX8_seasons_120 : decode cX8_seasons 120 = .ok (.i2l, 1) := by decide +kernel
theorem dX8_seasons_121 : decode cX8_seasons 121 = .ok (.lrem, 1) := by decide +kernel
theorem dX8_seasons_122 : decode cX8_seasons 122 = .ok (.l2i, 1) := by decide +kernel
theorem dX8_seasons_123 : decode cX8_seasons 123 = .ok (.iadd, 1) := by decide +kernel
theorem dX8_seasons_124 : decode cX8_seasons 124 = .ok (.iastore, 1) := by decide +kernel
theorem dX8_seasons_125 : decode cX8_seasons 125 = .ok (.lload 4, 2) := by decide +kernel
theorem dX8_seasons_127 : decode cX8_seasons 127 = .ok (.ldc2_w 480, 3) := by decide +kernel
theorem dX8_seasons_130 : decode cX8_seasons 130 = .ok (.lmul, 1) := by decide +kernel
theorem dX8_seasons_131 : decode cX8_seasons 131 = .ok (.ldc2_w 482, 3) := by decide +kernel
theorem dX8_seasons_134 : decode cX8_seasons 134 = .ok (.ladd, 1) := by decide +kernel
theorem dX8_seasons_135 : decode cX8_seasons 135 = .ok (.ldc2_w 484, 3) := by decide +kernel
theorem dX8_seasons_138 : decode cX8_seasons 138 = .ok (.lrem, 1) := by decide +kernel
theorem dX8_seasons_139 : decode cX8_seasons 139 = .ok (.lstore 4, 2) := by decide +kernel
theorem dX8_seasons_141 : decode cX8_seasons 141 = .ok (.aload_n 0, 1) := by decide +kernel
theorem dX8_seasons_142 : decode cX8_seasons 142 = .ok (.getfield 42, 3) := by decide +kernel
theorem dX8_seasons_145 : decode cX8_seasons 145 = .ok (.bipush 25, 2) := by decide +kernel
theorem dX8_seasons_147 : decode cX8_seasons 147 = .ok (.iconst 5, 1) := by decide +kernel
theorem dX8_seasons_148 : decode cX8_seasons 148 = .ok (.iload 8, 2) := by decide +kernel
theorem dX8_seasons_150 : decode cX8_seasons 150 = .ok (.imul, 1) := by decide +kernel
theorem dX8_seasons_151 : decode cX8_seasons 151 = .ok (.iadd, 1) := by decide +kernel
theorem dX8_seasons_152 : decode cX8_seasons 152 = .ok (.iconst 2, 1) := by decide +kernel
theorem dX8_seasons_153 : decode cX8_seasons 153 = .ok (.iadd, 1) := by decide +kernel
theorem dX8_seasons_154 : decode cX8_seasons 154 = .ok (.lload 4, 2) := by decide +kernel
theorem dX8_seasons_156 : decode cX8_seasons 156 = .ok (.ldc2_w 486, 3) := by decide +kernel
theorem dX8_seasons_159 : decode cX8_seasons 159 = .ok (.ldiv, 1) := by decide +kernel
theorem dX8_seasons_160 : decode cX8_seasons 160 = .ok (.ldc2_w 449, 3) := by decide +kernel
theorem dX8_seasons_163 : decode cX8_seasons 163 = .ok (.lrem, 1) := by decide +kernel
theorem dX8_seasons_164 : decode cX8_seasons 164 = .ok (.l2i, 1) := by decide +kernel
theorem dX8_seasons_165 : decode cX8_seasons 165 = .ok (.iastore, 1) := by decide +kernel
theorem dX8_seasons_166 : decode cX8_seasons 166 = .ok (.aload_n 0, 1) := by decide +kernel
theorem dX8_seasons_167 : decode cX8_seasons 167 = .ok (.iload 8, 2) := by decide +kernel
theorem dX8_seasons_169 : decode cX8_seasons 169 = .ok (.invokevirtual 274, 3) := by decide +kernel
theorem dX8_seasons_172 : decode cX8_seasons 172 = .ok (.iinc 8 1, 3) := by decide +kernel
theorem dX8_seasons_175 : decode cX8_seasons 175 = .ok (.goto (-101), 3) := by decide +kernel
theorem dX8_seasons_178 : decode cX8_seasons 178 = .ok (.aload_n 0, 1) := by decide +kernel
theorem dX8_seasons_179 : decode cX8_seasons 179 = .ok (.sipush 200, 3) := by decide +kernel
theorem dX8_seasons_182 : decode cX8_seasons 182 = .ok (.invokevirtual 391, 3) := by decide +kernel
theorem dX8_seasons_185 : decode cX8_seasons 185 = .ok (.pop, 1) := by decide +kernel
theorem dX8_seasons_186 : decode cX8_seasons 186 = .ok (.iload 6, 2) := by decide +kernel
theorem dX8_seasons_188 : decode cX8_seasons 188 = .ok (.iload_n 3, 1) := by decide +kernel
theorem dX8_seasons_189 : decode cX8_seasons 189 = .ok (.ifCond .ne 13, 3) := by decide +kernel
theorem dX8_seasons_192 : decode cX8_seasons 192 = .ok (.aload_n 0, 1) := by decide +kernel
theorem dX8_seasons_193 : decode cX8_seasons 193 = .ok (.invokevirtual 394, 3) := by decide +kernel
theorem dX8_seasons_196 : decode cX8_seasons 196 = .ok (.invokestatic 333, 3) := by decide +kernel
theorem dX8_seasons_199 : decode cX8_seasons 199 = .ok (.goto 16, 3) := by decide +kernel
theorem dX8_seasons_202 : decode cX8_seasons 202 = .ok (.aload_n 0, 1) := by decide +kernel
theorem dX8_seasons_203 : decode cX8_seasons 203 = .ok (.getfield 42, 3) := by decide +kernel
theorem dX8_seasons_206 : decode cX8_seasons 206 = .ok (.iconst 4, 1) := by decide +kernel
theorem dX8_seasons_207 : decode cX8_seasons 207 = .ok (.iaload, 1) := by decide +kernel
theorem dX8_seasons_208 : decode cX8_seasons 208 = .ok (.aload_n 0, 1) := by decide +kernel
theorem dX8_seasons_209 : decode cX8_seasons 209 = .ok (.getfield 45, 3) := by decide +kernel
theorem dX8_seasons_212 : decode cX8_seasons 212 = .ok (.iconst 4, 1) := by decide +kernel
theorem dX8_seasons_213 : decode cX8_seasons 213 = .ok (.iaload, 1) := by decide +kernel
theorem dX8_seasons_214 : decode cX8_seasons 214 = .ok (.isub, 1) := by decide +kernel
theorem dX8_seasons_215 : decode cX8_seasons 215 = .ok (.iadd, 1) := by decide +kernel
theorem dX8_seasons_216 : decode cX8_seasons 216 = .ok (.istore 6, 2) := by decide +kernel
theorem dX8_seasons_218 : decode cX8_seasons 218 = .ok (.aload_n 0, 1) := by decide +kernel
theorem dX8_seasons_219 : decode cX8_seasons 219 = .ok (.invokevirtual 403, 3) := by decide +kernel
theorem dX8_seasons_222 : decode cX8_seasons 222 = .ok (.iinc 7 1, 3) := by decide +kernel
theorem dX8_seasons_225 : decode cX8_seasons 225 = .ok (.goto (-160), 3) := by decide +kernel
theorem dX8_seasons_228 : decode cX8_seasons 228 = .ok (.iload 6, 2) := by decide +kernel
theorem dX8_seasons_230 : decode cX8_seasons 230 = .ok (.ireturn, 1) := by decide +kernel
theorem dX8_count_0 : decode cX8_count 0 = .ok (.iconst 0, 1) := by decide +kernel
theorem dX8_count_1 : decode cX8_count 1 = .ok (.istore_n 2, 1) := by decide +kernel
theorem dX8_count_2 : decode cX8_count 2 = .ok (.iload_n 1, 1) := by decide +kernel
theorem dX8_count_3 : decode cX8_count 3 = .ok (.tableswitch 203 0 12 #[65, 65, 72, 80, 87, 115, 122, 127, 135, 142, 150, 190, 198], 65) := by decide +kernel
theorem dX8_count_68 : decode cX8_count 68 = .ok (.aload_n 0, 1) := by decide +kernel
theorem dX8_count_69 : decode cX8_count 69 = .ok (.getfield 42, 3) := by decide +kernel
theorem dX8_count_72 : decode cX8_count 72 = .ok (.iload_n 1, 1) := by decide +kernel
theorem dX8_count_73 : decode cX8_count 73 = .ok (.iaload, 1) := by decide +kernel
theorem dX8_count_74 : decode cX8_count 74 = .ok (.ireturn, 1) := by decide +kernel
theorem dX8_count_75 : decode cX8_count 75 = .ok (.aload_n 0, 1) := by decide +kernel
theorem dX8_count_76 : decode cX8_count 76 = .ok (.invokevirtual 394, 3) := by decide +kernel
theorem dX8_count_79 : decode cX8_count 79 = .ok (.invokestatic 333, 3) := by decide +kernel
theorem dX8_count_82 : decode cX8_count 82 = .ok (.ireturn, 1) := by decide +kernel
theorem dX8_count_83 : decode cX8_count 83 = .ok (.aload_n 0, 1) := by decide +kernel
theorem dX8_count_84 : decode cX8_count 84 = .ok (.getfield 42, 3) := by decide +kernel
theorem dX8_count_87 : decode cX8_count 87 = .ok (.iconst 3, 1) := by decide +kernel
theorem dX8_count_88 : decode cX8_count 88 = .ok (.iaload, 1) := by decide +kernel
theorem dX8_count_89 : decode cX8_count 89 = .ok (.ireturn, 1) := by decide +kernel
theorem dX8_count_90 : decode cX8_count 90 = .ok (.iconst 0, 1) := by decide +kernel
theorem dX8_count_91 : decode cX8_count 91 = .ok (.istore_n 3, 1) := by decide +kernel
theorem dX8_count_92 : decode cX8_count 92 = .ok (.iload_n 3, 1) := by decide +kernel
theorem dX8_count_93 : decode cX8_count 93 = .ok (.aload_n 0, 1) := by decide +kernel
theorem dX8_count_94 : decode cX8_count 94 = .ok (.getfield 42, 3) := by decide +kernel
theorem dX8_count_97 : decode cX8_count 97 = .ok (.iconst 0, 1) := by decide +kernel
theorem dX8_count_98 : decode cX8_count 98 = .ok (.iaload, 1) := by decide +kernel
theorem dX8_count_99 : decode cX8_count 99 = .ok (.if_icmp .ge 17, 3) := by decide +kernel
theorem dX8_count_102 : decode cX8_count 102 = .ok (.iload_n 2, 1) := by decide +kernel
theorem dX8_count_103 : decode cX8_count 103 = .ok (.aload_n 0, 1) := by decide +kernel
theorem dX8_count_104 : decode cX8_count 104 = .ok (.iload_n 3, 1) := by decide +kernel
theorem dX8_count_105 : decode cX8_count 105 = .ok (.invokevirtual 330, 3) := by decide +kernel
theorem dX8_count_108 : decode cX8_count 108 = .ok (.iadd, 1) := by decide +kernel
theorem dX8_count_109 : decode cX8_count 109 = .ok (.istore_n 2, 1) := by decide +kernel
theorem dX8_count_110 : decode cX8_count 110 = .ok (.iinc 3 1, 3) := by decide +kernel
theorem dX8_count_113 : decode cX8_count 113 = .ok (.goto (-21), 3) := by decide +kernel
theorem dX8_count_116 : decode cX8_count 116 = .ok (.iload_n 2, 1) := by decide +kernel
theorem dX8_count_117 : decode cX8_count 117 = .ok (.ireturn, 1) := by decide +kernel
theorem dX8_count_118 : decode cX8_count 118 = .ok (.aload_n 0, 1) := by decide +kernel
theorem dX8_count_119 : decode cX8_count 119 = .ok (.getfield 42, 3) := by decide +kernel
theorem dX8_count_122 : decode cX8_count 122 = .ok (.iconst 4, 1) := by decide +kernel
theorem dX8_count_123 : decode cX8_count 123 = .ok (.iaload, 1) := by decide +kernel
theorem dX8_count_124 : decode cX8_count 124 = .ok (.ireturn, 1) := by decide +kernel
theorem dX8_count_125 : decode cX8_count 125 = .ok (.aload_n 0, 1) := by decide +kernel
theorem dX8_count_126 : decode cX8_count 126 = .ok (.getfield 268, 3) := by decide +kernel
theorem dX8_count_129 : decode cX8_count 129 = .ok (.ireturn, 1) := by decide +kernel
theorem dX8_count_130 : decode cX8_count 130 = .ok (.aload_n 0, 1) := by decide +kernel
theorem dX8_count_131 : decode cX8_count 131 = .ok (.getfield 42, 3) := by decide +kernel
theorem dX8_count_134 : decode cX8_count 134 = .ok (.bipush 8, 2) := by decide +kernel
theorem dX8_count_136 : decode cX8_count 136 = .ok (.iaload, 1) := by decide +kernel
theorem dX8_count_137 : decode cX8_count 137 = .ok (.ireturn, 1) := by decide +kernel
theorem dX8_count_138 : decode cX8_count 138 = .ok (.aload_n 0, 1) := by decide +kernel
theorem dX8_count_139 : decode cX8_count 139 = .ok (.getfield 42, 3) := by decide +kernel
theorem dX8_count_142 : decode cX8_count 142 = .ok (.iconst 2, 1) := by decide +kernel
theorem dX8_count_143 : decode cX8_count 143 = .ok (.iaload, 1) := by decide +kernel
theorem dX8_count_144 : decode cX8_count 144 = .ok (.ireturn, 1) := by decide +kernel
theorem dX8_count_145 : decode cX8_count 145 = .ok (.aload_n 0, 1) := by decide +kernel
theorem dX8_count_146 : decode cX8_count 146 = .ok (.getfield 42, 3) := by decide +kernel
theorem dX8_count_149 : decode cX8_count 149 = .ok (.bipush 6, 2) := by decide +kernel
theorem dX8_count_151 : decode cX8_count 151 = .ok (.iaload, 1) := by decide +kernel
theorem dX8_count_152 : decode cX8_count 152 = .ok (.ireturn, 1) := by decide +kernel
theorem dX8_count_153 : decode cX8_count 153 = .ok (.iconst 0, 1) := by decide +kernel
theorem dX8_count_154 : decode cX8_count 154 = .ok (.istore_n 3, 1) := by decide +kernel
theorem dX8_count_155 : decode cX8_count 155 = .ok (.iload_n 3, 1) := by decide +kernel
theorem dX8_count_156 : decode cX8_count 156 = .ok (.aload_n 0, 1) := by decide +kernel
theorem dX8_count_157 : decode cX8_count 157 = .ok (.getfield 42, 3) := by decide +kernel
theorem dX8_count_160 : decode cX8_count 160 = .ok (.iconst 0, 1) := by decide +kernel
theorem dX8_count_161 : decode cX8_count 161 = .ok (.iaload, 1) := by decide +kernel
theorem dX8_count_162 : decode cX8_count 162 = .ok (.if_icmp .ge 29, 3) := by decide +kernel
theorem dX8_count_165 : decode cX8_count 165 = .ok (.iload_n 2, 1) := by decide +kernel
theorem dX8_count_166 : decode cX8_count 166 = .ok (.aload_n 0, 1) := by decide +kernel
theorem dX8_count_167 : decode cX8_count 167 = .ok (.getfield 42, 3) := by decide +kernel
theorem dX8_count_170 : decode cX8_count 170 = .ok (.bipush 55, 2) := by decide +kernel
theorem dX8_count_172 : decode cX8_count 172 = .ok (.iload_n 3, 1) := by decide +kernel
theorem dX8_count_173 : decode cX8_count 173 = .ok (.iadd, 1) := by decide +kernel
theorem dX8_count_174 : decode cX8_count 174 = .ok (.iaload, 1) := by decide +kernel
theorem dX8_count_175 : decode cX8_count 175 = .ok (.ifCond .ge 7, 3) := by decide +kernel
theorem dX8_count_178 : decode cX8_count 178 = .ok (.iconst 0, 1) := by decide +kernel
theorem dX8_count_179 : decode cX8_count 179 = .ok (.goto 4, 3) := by decide +kernel
theorem dX8_count_182 : decode cX8_count 182 = .ok (.iconst 1, 1) := by decide +kernel
theorem dX8_count_183 : decode cX8_count 183 = .ok (.iadd, 1) := by decide +kernel
theorem dX8_count_184 : decode cX8_count 184 = .ok (.istore_n 2, 1) := by decide +kernel
theorem dX8_count_185 : decode cX8_count 185 = .ok (.iinc 3 1, 3) := by decide +kernel
theorem dX8_count_188 : decode cX8_count 188 = .ok (.goto (-33), 3) := by decide +kernel
theorem dX8_count_191 : decode cX8_count 191 = .ok (.iload_n 2, 1) := by decide +kernel
theorem dX8_count_192 : decode cX8_count 192 = .ok (.ireturn, 1) := by decide +kernel
theorem dX8_count_193 : decode cX8_count 193 = .ok (.aload_n 0, 1) := by decide +kernel
theorem dX8_count_194 : decode cX8_count 194 = .ok (.getfield 42, 3) := by decide +kernel
theorem dX8_count_197 : decode cX8_count 197 = .ok (.bipush 7, 2) := by decide +kernel
theorem dX8_count_199 : decode cX8_count 199 = .ok (.iaload, 1) := by decide +kernel
theorem dX8_count_200 : decode cX8_count 200 = .ok (.ireturn, 1) := by decide +kernel
theorem dX8_count_201 : decode cX8_count 201 = .ok (.aload_n 0, 1) := by decide +kernel
theorem dX8_count_202 : decode cX8_count 202 = .ok (.getfield 88, 3) := by decide +kernel
theorem dX8_count_205 : decode cX8_count 205 = .ok (.ireturn, 1) := by decide +kernel
theorem dX8_count_206 : decode cX8_count 206 = .ok (.iconst (-1), 1) := by decide +kernel
theorem dX8_count_207 : decode cX8_count 207 = .ok (.ireturn, 1) := by decide +kernel
theorem dX8_image_0 : decode cX8_image 0 = .ok (.iload_n 1, 1) := by decide +kernel
theorem dX8_image_1 : decode cX8_image 1 = .ok (.i2l, 1) := by decide +kernel
theorem dX8_image_2 : decode cX8_image 2 = .ok (.lconst 0, 1) := by decide +kernel
theorem dX8_image_3 : decode cX8_image 3 = .ok (.ldc2_w 308, 3) := by decide +kernel
theorem dX8_image_6 : decode cX8_image 6 = .ok (.invokestatic 127, 3) := by decide +kernel
theorem dX8_image_9 : decode cX8_image 9 = .ok (.ifCond .ne 5, 3) := by decide +kernel
theorem dX8_image_12 : decode cX8_image 12 = .ok (.iconst (-1), 1) := by decide +kernel
theorem dX8_image_13 : decode cX8_image 13 = .ok (.ireturn, 1) := by decide +kernel
theorem dX8_image_14 : decode cX8_image 14 = .ok (.aload_n 0, 1) := by decide +kernel
theorem dX8_image_15 : decode cX8_image 15 = .ok (.getfield 85, 3) := by decide +kernel
theorem dX8_image_18 : decode cX8_image 18 = .ok (.iload_n 1, 1) := by decide +kernel
theorem dX8_image_19 : decode cX8_image 19 = .ok (.iconst 1, 1) := by decide +kernel
theorem dX8_image_20 : decode cX8_image 20 = .ok (.bastore, 1) := by decide +kernel
theorem dX8_image_21 : decode cX8_image 21 = .ok (.iconst 0, 1) := by decide +kernel
theorem dX8_image_22 : decode cX8_image 22 = .ok (.istore_n 2, 1) := by decide +kernel
theorem dX8_image_23 : decode cX8_image 23 = .ok (.iload_n 2, 1) := by decide +kernel
theorem dX8_image_24 : decode cX8_image 24 = .ok (.bipush 93, 2) := by decide +kernel
theorem dX8_image_26 : decode cX8_image 26 = .ok (.if_icmp .ge 26, 3) := by decide +kernel
theorem dX8_image_29 : decode cX8_image 29 = .ok (.aload_n 0, 1) := by decide +kernel
theorem dX8_image_30 : decode cX8_image 30 = .ok (.getfield 82, 3) := by decide +kernel
theorem dX8_image_33 : decode cX8_image 33 = .ok (.bipush 93, 2) := by decide +kernel
theorem dX8_image_35 : decode cX8_image 35 = .ok (.iload_n 1, 1) := by decide +kernel
theorem dX8_image_36 : decode cX8_image 36 = .ok (.imul, 1) := by decide +kernel
theorem dX8_image_37 : decode cX8_image 37 = .ok (.iload_n 2, 1) := by decide +kernel
theorem dX8_image_38 : decode cX8_image 38 = .ok (.iadd, 1) := by decide +kernel
theorem dX8_image_39 : decode cX8_image 39 = .ok (.aload_n 0, 1) := by decide +kernel
theorem dX8_image_40 : decode cX8_image 40 = .ok (.getfield 42, 3) := by decide +kernel
theorem dX8_image_43 : decode cX8_image 43 = .ok (.iload_n 2, 1) := by decide +kernel
theorem dX8_image_44 : decode cX8_image 44 = .ok (.iaload, 1) := by decide +kernel
theorem dX8_image_45 : decode cX8_image 45 = .ok (.iastore, 1) := by decide +kernel
theorem dX8_image_46 : decode cX8_image 46 = .ok (.iinc 2 1, 3) := by decide +kernel
theorem dX8_image_49 : decode cX8_image 49 = .ok (.goto (-26), 3) := by decide +kernel
theorem dX8_image_52 : decode cX8_image 52 = .ok (.aload_n 0, 1) := by decide +kernel
theorem dX8_image_53 : decode cX8_image 53 = .ok (.getfield 42, 3) := by decide +kernel
theorem dX8_image_56 : decode cX8_image 56 = .ok (.iconst 3, 1) := by decide +kernel
theorem dX8_image_57 : decode cX8_image 57 = .ok (.iaload, 1) := by decide +kernel
theorem dX8_image_58 : decode cX8_image 58 = .ok (.ireturn, 1) := by decide +kernel
theorem dX8_back_0 : decode cX8_back 0 = .ok (.iload_n 1, 1) := by decide +kernel
theorem dX8_back_1 : decode cX8_back 1 = .ok (.i2l, 1) := by decide +kernel
theorem dX8_back_2 : decode cX8_back 2 = .ok (.lconst 0, 1) := by decide +kernel
theorem dX8_back_3 : decode cX8_back 3 = .ok (.ldc2_w 308, 3) := by decide +kernel
theorem dX8_back_6 : decode cX8_back 6 = .ok (.invokestatic 127, 3) := by decide +kernel
theorem dX8_back_9 : decode cX8_back 9 = .ok (.ifCond .eq 12, 3) := by decide +kernel
theorem dX8_back_12 : decode cX8_back 12 = .ok (.aload_n 0, 1) := by decide +kernel
theorem dX8_back_13 : decode cX8_back 13 = .ok (.getfield 85, 3) := by decide +kernel
theorem dX8_back_16 : decode cX8_back 16 = .ok (.iload_n 1, 1) := by decide +kernel
theorem dX8_back_17 : decode cX8_back 17 = .ok (.baload, 1) := by decide +kernel
theorem dX8_back_18 : decode cX8_back 18 = .ok (.ifCond .ne 5, 3) := by decide +kernel
theorem dX8_back_21 : decode cX8_back 21 = .ok (.iconst (-1), 1) := by decide +kernel
theorem dX8_back_22 : decode cX8_back 22 = .ok (.ireturn, 1) := by decide +kernel
theorem dX8_back_23 : decode cX8_back 23 = .ok (.iconst 0, 1) := by decide +kernel
theorem dX8_back_24 : decode cX8_back 24 = .ok (.istore_n 2, 1) := by decide +kernel
theorem dX8_back_25 : decode cX8_back 25 = .ok (.iload_n 2, 1) := by decide +kernel
theorem dX8_back_26 : decode cX8_back 26 = .ok (.bipush 93, 2) := by decide +kernel
theorem dX8_back_28 : decode cX8_back 28 = .ok (.if_icmp .ge 26, 3) := by decide +kernel
theorem dX8_back_31 : decode cX8_back 31 = .ok (.aload_n 0, 1) := by decide +kernel
theorem dX8_back_32 : decode cX8_back 32 = .ok (.getfield 42, 3) := by decide +kernel
theorem dX8_back_35 : decode cX8_back 35 = .ok (.iload_n 2, 1) := by decide +kernel
theorem dX8_back_36 : decode cX8_back 36 = .ok (.aload_n 0, 1) := by decide +kernel
theorem dX8_back_37 : decode cX8_back 37 = .ok (.getfield 82, 3) := by decide +kernel
theorem dX8_back_40 : decode cX8_back 40 = .ok (.bipush 93, 2) := by decide +kernel
theorem dX8_back_42 : decode cX8_back 42 = .ok (.iload_n 1, 1) := by decide +kernel
theorem dX8_back_43 : decode cX8_back 43 = .ok (.imul, 1) := by decide +kernel
theorem dX8_back_44 : decode cX8_back 44 = .ok (.iload_n 2, 1) := by decide +kernel
theorem dX8_back_45 : decode cX8_back 45 = .ok (.iadd, 1) := by decide +kernel
theorem dX8_back_46 : decode cX8_back 46 = .ok (.iaload, 1) := by decide +kernel
theorem dX8_back_47 : decode cX8_back 47 = .ok (.iastore, 1) := by decide +kernel
theorem dX8_back_48 : decode cX8_back 48 = .ok (.iinc 2 1, 3) := by decide +kernel
theorem dX8_back_51 : decode cX8_back 51 = .ok (.goto (-26), 3) := by decide +kernel
theorem dX8_back_54 : decode cX8_back 54 = .ok (.aload_n 0, 1) := by decide +kernel
theorem dX8_back_55 : decode cX8_back 55 = .ok (.getfield 42, 3) := by decide +kernel
theorem dX8_back_58 : decode cX8_back 58 = .ok (.iconst 3, 1) := by decide +kernel
theorem dX8_back_59 : decode cX8_back 59 = .ok (.iaload, 1) := by decide +kernel
theorem dX8_back_60 : decode cX8_back 60 = .ok (.ireturn, 1) := by decide +kernel
