theorem dX4_findBest_74 : decode cX4_findBest 74 = .ok (.ldc2_w 221, 3) := by decide +kernel
theorem dX4_findBest_77 : decode cX4_findBest 77 = .ok (.aload_n 0, 1) := by decide +kernel
theorem dX4_findBest_78 : decode cX4_findBest 78 = .ok (.getfield 30, 3) := by decide +kernel
theorem dX4_findBest_81 : decode cX4_findBest 81 = .ok (.getfield 183, 3) := by decide +kernel
theorem dX4_findBest_84 : decode cX4_findBest 84 = .ok (.i2l, 1) := by decide +kernel
theorem dX4_findBest_85 : decode cX4_findBest 85 = .ok (.lmul, 1) := by decide +kernel
theorem dX4_findBest_86 : decode cX4_findBest 86 = .ok (.ladd, 1) := by decide +kernel
theorem dX4_findBest_87 : decode cX4_findBest 87 = .ok (.lstore 5, 2) := by decide +kernel
theorem dX4_findBest_89 : decode cX4_findBest 89 = .ok (.iload_n 3, 1) := by decide +kernel
theorem dX4_findBest_90 : decode cX4_findBest 90 = .ok (.ifCond .ne 12, 3) := by decide +kernel
theorem dX4_findBest_93 : decode cX4_findBest 93 = .ok (.iload 4, 2) := by decide +kernel
theorem dX4_findBest_95 : decode cX4_findBest 95 = .ok (.ifCond .ne 7, 3) := by decide +kernel
theorem dX4_findBest_98 : decode cX4_findBest 98 = .ok (.iconst 1, 1) := by decide +kernel
theorem dX4_findBest_99 : decode cX4_findBest 99 = .ok (.goto 4, 3) := by decide +kernel
theorem dX4_findBest_102 : decode cX4_findBest 102 = .ok (.iconst 0, 1) := by decide +kernel
theorem dX4_findBest_103 : decode cX4_findBest 103 = .ok (.istore 7, 2) := by decide +kernel
theorem dX4_findBest_105 : decode cX4_findBest 105 = .ok (.iload 7, 2) := by decide +kernel
theorem dX4_findBest_107 : decode cX4_findBest 107 = .ok (.ifCond .ne 10, 3) := by decide +kernel
theorem dX4_findBest_110 : decode cX4_findBest 110 = .ok (.lload 5, 2) := by decide +kernel
theorem dX4_findBest_112 : decode cX4_findBest 112 = .ok (.lload_n 1, 1) := by decide +kernel
theorem dX4_findBest_113 : decode cX4_findBest 113 = .ok (.lcmp, 1) := by decide +kernel
theorem dX4_findBest_114 : decode cX4_findBest 114 = .ok (.ifCond .ge 17, 3) := by decide +kernel
theorem dX4_findBest_117 : decode cX4_findBest 117 = .ok (.lload 5, 2) := by decide +kernel
theorem dX4_findBest_119 : decode cX4_findBest 119 = .ok (.lstore_n 1, 1) := by decide +kernel
theorem dX4_findBest_120 : decode cX4_findBest 120 = .ok (.aload_n 0, 1) := by decide +kernel
theorem dX4_findBest_121 : decode cX4_findBest 121 = .ok (.iload_n 3, 1) := by decide +kernel
theorem dX4_findBest_122 : decode cX4_findBest 122 = .ok (.putfield 208, 3) := by decide +kernel
theorem dX4_findBest_125 : decode cX4_findBest 125 = .ok (.aload_n 0, 1) := by decide +kernel
theorem dX4_findBest_126 : decode cX4_findBest 126 = .ok (.iload 4, 2) := by decide +kernel
theorem dX4_findBest_128 : decode cX4_findBest 128 = .ok (.putfield 211, 3) := by decide +kernel
theorem dX4_findBest_131 : decode cX4_findBest 131 = .ok (.iinc 4 60, 3) := by decide +kernel
theorem dX4_findBest_134 : decode cX4_findBest 134 = .ok (.goto (-108), 3) := by decide +kernel
theorem dX4_findBest_137 : decode cX4_findBest 137 = .ok (.iinc 3 1, 3) := by decide +kernel
theorem dX4_findBest_140 : decode cX4_findBest 140 = .ok (.goto (-123), 3) := by decide +kernel
theorem dX4_findBest_143 : decode cX4_findBest 143 = .ok (.return_, 1) := by decide +kernel
theorem dX4_partOfFraction_0 : decode cX4_partOfFraction 0 = .ok (.lload_n 2, 1) := by decide +kernel
theorem dX4_partOfFraction_1 : decode cX4_partOfFraction 1 = .ok (.lconst 0, 1) := by decide +kernel
theorem dX4_partOfFraction_2 : decode cX4_partOfFraction 2 = .ok (.lcmp, 1) := by decide +kernel
theorem dX4_partOfFraction_3 : decode cX4_partOfFraction 3 = .ok (.ifCond .le 11, 3) := by decide +kernel
theorem dX4_partOfFraction_6 : decode cX4_partOfFraction 6 = .ok (.lload_n 0, 1) := by decide +kernel
theorem dX4_partOfFraction_7 : decode cX4_partOfFraction 7 = .ok (.lload_n 2, 1) := by decide +kernel
theorem dX4_partOfFraction_8 : decode cX4_partOfFraction 8 = .ok (.invokestatic 223, 3) := by decide +kernel
theorem dX4_partOfFraction_11 : decode cX4_partOfFraction 11 = .ok (.goto 4, 3) := by decide +kernel
theorem dX4_partOfFraction_14 : decode cX4_partOfFraction 14 = .ok (.lconst 0, 1) := by decide +kernel
theorem dX4_partOfFraction_15 : decode cX4_partOfFraction 15 = .ok (.lstore 5, 2) := by decide +kernel
theorem dX4_partOfFraction_17 : decode cX4_partOfFraction 17 = .ok (.lload 5, 2) := by decide +kernel
theorem dX4_partOfFraction_19 : decode cX4_partOfFraction 19 = .ok (.lconst 0, 1) := by decide +kernel
theorem dX4_partOfFraction_20 : decode cX4_partOfFraction 20 = .ok (.lcmp, 1) := by decide +kernel
theorem dX4_partOfFraction_21 : decode cX4_partOfFraction 21 = .ok (.ifCond .gt 14, 3) := by decide +kernel
theorem dX4_partOfFraction_24 : decode cX4_partOfFraction 24 = .ok (.iload 4, 2) := by decide +kernel
theorem dX4_partOfFraction_26 : decode cX4_partOfFraction 26 = .ok (.ifCond .ne 7, 3) := by decide +kernel
theorem dX4_partOfFraction_29 : decode cX4_partOfFraction 29 = .ok (.lconst 0, 1) := by decide +kernel
theorem dX4_partOfFraction_30 : decode cX4_partOfFraction 30 = .ok (.goto 4, 3) := by decide +kernel
theorem dX4_partOfFraction_33 : decode cX4_partOfFraction 33 = .ok (.lconst 1, 1) := by decide +kernel
theorem dX4_partOfFraction_34 : decode cX4_partOfFraction 34 = .ok (.lreturn, 1) := by decide +kernel
theorem dX4_partOfFraction_35 : decode cX4_partOfFraction 35 = .ok (.iload 4, 2) := by decide +kernel
theorem dX4_partOfFraction_37 : decode cX4_partOfFraction 37 = .ok (.ifCond .ne 7, 3) := by decide +kernel
theorem dX4_partOfFraction_40 : decode cX4_partOfFraction 40 = .ok (.lload_n 0, 1) := by decide +kernel
theorem dX4_partOfFraction_41 : decode cX4_partOfFraction 41 = .ok (.goto 4, 3) := by decide +kernel
theorem dX4_partOfFraction_44 : decode cX4_partOfFraction 44 = .ok (.lload_n 2, 1) := by decide +kernel
theorem dX4_partOfFraction_45 : decode cX4_partOfFraction 45 = .ok (.lload 5, 2) := by decide +kernel
theorem dX4_partOfFraction_47 : decode cX4_partOfFraction 47 = .ok (.ldiv, 1) := by decide +kernel
theorem dX4_partOfFraction_48 : decode cX4_partOfFraction 48 = .ok (.lreturn, 1) := by decide +kernel
theorem dX4_commonDivisor_0 : decode cX4_commonDivisor 0 = .ok (.lload_n 0, 1) := by decide +kernel
theorem dX4_commonDivisor_1 : decode cX4_commonDivisor 1 = .ok (.lstore 4, 2) := by decide +kernel
theorem dX4_commonDivisor_3 : decode cX4_commonDivisor 3 = .ok (.lload_n 2, 1) := by decide +kernel
theorem dX4_commonDivisor_4 : decode cX4_commonDivisor 4 = .ok (.lstore 6, 2) := by decide +kernel
theorem dX4_commonDivisor_6 : decode cX4_commonDivisor 6 = .ok (.iconst 0, 1) := by decide +kernel
theorem dX4_commonDivisor_7 : decode cX4_commonDivisor 7 = .ok (.istore 8, 2) := by decide +kernel
theorem dX4_commonDivisor_9 : decode cX4_commonDivisor 9 = .ok (.iload 8, 2) := by decide +kernel
theorem dX4_commonDivisor_11 : decode cX4_commonDivisor 11 = .ok (.bipush 100, 2) := by decide +kernel
theorem dX4_commonDivisor_13 : decode cX4_commonDivisor 13 = .ok (.if_icmp .ge 31, 3) := by decide +kernel
theorem dX4_commonDivisor_16 : decode cX4_commonDivisor 16 = .ok (.lload 6, 2) := by decide +kernel
theorem dX4_commonDivisor_18 : decode cX4_commonDivisor 18 = .ok (.lconst 0, 1) := by decide +kernel
theorem dX4_commonDivisor_19 : decode cX4_commonDivisor 19 = .ok (.lcmp, 1) := by decide +kernel
theorem dX4_commonDivisor_20 : decode cX4_commonDivisor 20 = .ok (.ifCond .eq 24, 3) := by decide +kernel
theorem dX4_commonDivisor_23 : decode cX4_commonDivisor 23 = .ok (.lload 4, 2) := by decide +kernel
theorem dX4_commonDivisor_25 : decode cX4_commonDivisor 25 = .ok (.lload 6, 2) := by decide +kernel
theorem dX4_commonDivisor_27 : decode cX4_commonDivisor 27 = .ok (.lrem, 1) := by decide +kernel
theorem dX4_commonDivisor_28 : decode cX4_commonDivisor 28 = .ok (.lstore 9, 2) := by decide +kernel
theorem dX4_commonDivisor_30 : decode cX4_commonDivisor 30 = .ok (.lload 6, 2) := by decide +kernel
theorem dX4_commonDivisor_32 : decode cX4_commonDivisor 32 = .ok (.lstore 4, 2) := by decide +kernel
theorem dX4_commonDivisor_34 : decode cX4_commonDivisor 34 = .ok (.lload 9, 2) := by decide +kernel
theorem dX4_commonDivisor_36 : decode cX4_commonDivisor 36 = .ok (.lstore 6, 2) := by decide +kernel
theorem dX4_commonDivisor_38 : decode cX4_commonDivisor 38 = .ok (.iinc 8 1, 3) := by decide +kernel
theorem dX4_commonDivisor_41 : decode cX4_commonDivisor 41 = .ok (.goto (-32), 3) := by decide +kernel
theorem dX4_commonDivisor_44 : decode cX4_commonDivisor 44 = .ok (.lload 4, 2) := by decide +kernel
theorem dX4_commonDivisor_46 : decode cX4_commonDivisor 46 = .ok (.lreturn, 1) := by decide +kernel
theorem dX5_init_0 : decode cX5_init 0 = .ok (.aload_n 0, 1) := by decide +kernel
theorem dX5_init_1 : decode cX5_init 1 = .ok (.invokespecial 1, 3) := by decide +kernel
theorem dX5_init_4 : decode cX5_init 4 = .ok (.aload_n 0, 1) := by decide +kernel
theorem dX5_init_5 : decode cX5_init 5 = .ok (.bipush 9, 2) := by decide +kernel
theorem dX5_init_7 : decode cX5_init 7 = .ok (.newarray .int, 2) := by decide +kernel
theorem dX5_init_9 : decode cX5_init 9 = .ok (.putfield 7, 3) := by decide +kernel
theorem dX5_init_12 : decode cX5_init 12 = .ok (.aload_n 0, 1) := by decide +kernel
theorem dX5_init_13 : decode cX5_init 13 = .ok (.bipush 9, 2) := by decide +kernel
theorem dX5_init_15 : decode cX5_init 15 = .ok (.newarray .int, 2) := by decide +kernel
theorem dX5_init_17 : decode cX5_init 17 = .ok (.putfield 13, 3) := by decide +kernel
theorem dX5_init_20 : decode cX5_init 20 = .ok (.aload_n 0, 1) := by decide +kernel
theorem dX5_init_21 : decode cX5_init 21 = .ok (.bipush 9, 2) := by decide +kernel
theorem dX5_init_23 : decode cX5_init 23 = .ok (.newarray .int, 2) := by decide +kernel
theorem dX5_init_25 : decode cX5_init 25 = .ok (.putfield 16, 3) := by decide +kernel
theorem dX5_init_28 : decode cX5_init 28 = .ok (.aload_n 0, 1) := by decide +kernel
theorem dX5_init_29 : decode cX5_init 29 = .ok (.bipush 8, 2) := by decide +kernel
theorem dX5_init_31 : decode cX5_init 31 = .ok (.newarray .int, 2) := by decide +kernel
theorem dX5_init_33 : decode cX5_init 33 = .ok (.putfield 19, 3) := by decide +kernel
theorem dX5_init_36 : decode cX5_init 36 = .ok (.aload_n 0, 1) := by decide +kernel
theorem dX5_init_37 : decode cX5_init 37 = .ok (.bipush 8, 2) := by decide +kernel
theorem dX5_init_39 : decode cX5_init 39 = .ok (.newarray .int, 2) := by decide +kernel
theorem dX5_init_41 : decode cX5_init 41 = .ok (.putfield 22, 3) := by decide +kernel
theorem dX5_init_44 : decode cX5_init 44 = .ok (.aload_n 0, 1) := by decide +kernel
theorem dX5_init_45 : decode cX5_init 45 = .ok (.bipush 8, 2) := by decide +kernel
theorem dX5_init_47 : decode cX5_init 47 = .ok (.newarray .int, 2) := by decide +kernel
theorem dX5_init_49 : decode cX5_init 49 = .ok (.putfield 25, 3) := by decide +kernel
theorem dX5_init_52 : decode cX5_init 52 = .ok (.aload_n 0, 1) := by decide +kernel
theorem dX5_init_53 : decode cX5_init 53 = .ok (.iconst 5, 1) := by decide +kernel
theorem dX5_init_54 : decode cX5_init 54 = .ok (.newarray .int, 2) := by decide +kernel
theorem dX5_init_56 : decode cX5_init 56 = .ok (.putfield 28, 3) := by decide +kernel
theorem dX5_init_59 : decode cX5_init 59 = .ok (.aload_n 0, 1) := by decide +kernel
theorem dX5_init_60 : decode cX5_init 60 = .ok (.bipush 11, 2) := by decide +kernel
theorem dX5_init_62 : decode cX5_init 62 = .ok (.newarray .int, 2) := by decide +kernel
theorem dX5_init_64 : decode cX5_init 64 = .ok (.putfield 31, 3) := by decide +kernel
theorem dX5_init_67 : decode cX5_init 67 = .ok (.aload_n 0, 1) := by decide +kernel
theorem dX5_init_68 : decode cX5_init 68 = .ok (.bipush 11, 2) := by decide +kernel
theorem dX5_init_70 : decode cX5_init 70 = .ok (.newarray .int, 2) := by decide +kernel
theorem dX5_init_72 : decode cX5_init 72 = .ok (.putfield 34, 3) := by decide +kernel
theorem dX5_init_75 : decode cX5_init 75 = .ok (.aload_n 0, 1) := by decide +kernel
theorem dX5_init_76 : decode cX5_init 76 = .ok (.bipush 11, 2) := by decide +kernel
theorem dX5_init_78 : decode cX5_init 78 = .ok (.newarray .int, 2) := by decide +kernel
theorem dX5_init_80 : decode cX5_init 80 = .ok (.putfield 37, 3) := by decide +kernel
theorem dX5_init_83 : decode cX5_init 83 = .ok (.aload_n 0, 1) := by decide +kernel
theorem dX5_init_84 : decode cX5_init 84 = .ok (.bipush 40, 2) := by decide +kernel
theorem dX5_init_86 : decode cX5_init 86 = .ok (.newarray .int, 2) := by decide +kernel
theorem dX5_init_88 : decode cX5_init 88 = .ok (.putfield 40, 3) := by decide +kernel
theorem dX5_init_91 : decode cX5_init 91 = .ok (.aload_n 0, 1) := by decide +kernel
theorem dX5_init_92 : decode cX5_init 92 = .ok (.bipush 10, 2) := by decide +kernel
theorem dX5_init_94 : decode cX5_init 94 = .ok (.newarray .int, 2) := by decide +kernel
theorem dX5_init_96 : decode cX5_init 96 = .ok (.putfield 43, 3) := by decide +kernel
theorem dX5_init_99 : decode cX5_init 99 = .ok (.aload_n 0, 1) := by decide +kernel
theorem dX5_init_100 : decode cX5_init 100 = .ok (.bipush 10, 2) := by decide +kernel
theorem dX5_init_102 : decode cX5_init 102 = .ok (.newarray .int, 2) := by decide +kernel
theorem dX5_init_104 : decode cX5_init 104 = .ok (.putfield 46, 3) := by decide +kernel
theorem dX5_init_107 : decode cX5_init 107 = .ok (.aload_n 0, 1) := by decide +kernel
theorem dX5_init_108 : decode cX5_init 108 = .ok (.bipush 80, 2) := by decide +kernel
theorem dX5_init_110 : decode cX5_init 110 = .ok (.newarray .int, 2) := by decide +kernel
theorem dX5_init_112 : decode cX5_init 112 = .ok (.putfield 49, 3) := by decide +kernel
theorem dX5_init_115 : decode cX5_init 115 = .ok (.aload_n 0, 1) := by decide +kernel
theorem dX5_init_116 : decode cX5_init 116 = .ok (.bipush 80, 2) := by decide +kernel
theorem dX5_init_118 : decode cX5_init 118 = .ok (.newarray .int, 2) := by decide +kernel
theorem dX5_init_120 : decode cX5_init 120 = .ok (.putfield 52, 3) := by decide +kernel
theorem dX5_init_123 : decode cX5_init 123 = .ok (.aload_n 0, 1) := by decide +kernel
theorem dX5_init_124 : decode cX5_init 124 = .ok (.bipush 80, 2) := by decide +kernel
theorem dX5_init_126 : decode cX5_init 126 = .ok (.newarray .int, 2) := by decide +kernel
theorem dX5_init_128 : decode cX5_init 128 = .ok (.putfield 55, 3) := by decide +kernel
theorem dX5_init_131 : decode cX5_init 131 = .ok (.aload_n 0, 1) := by decide +kernel
theorem dX5_init_132 : decode cX5_init 132 = .ok (.bipush 80, 2) := by decide +kernel
theorem dX5_init_134 : decode cX5_init 134 = .ok (.newarray .int, 2) := by decide +kernel
theorem dX5_init_136 : decode cX5_init 136 = .ok (.putfield 58, 3) := by decide +kernel
theorem dX5_init_139 : decode cX5_init 139 = .ok (.aload_n 0, 1) := by decide +kernel
theorem dX5_init_140 : decode cX5_init 140 = .ok (.bipush 80, 2) := by decide +kernel
theorem dX5_init_142 : decode cX5_init 142 = .ok (.newarray .int, 2) := by decide +kernel
theorem dX5_init_144 : decode cX5_init 144 = .ok (.putfield 61, 3) := by decide +kernel
theorem dX5_init_147 : decode cX5_init 147 = .ok (.aload_n 0, 1) := by decide +kernel
theorem dX5_init_148 : decode cX5_init 148 = .ok (.bipush 80, 2) := by decide +kernel
theorem dX5_init_150 : decode cX5_init 150 = .ok (.newarray .int, 2) := by decide +kernel
theorem dX5_init_152 : decode cX5_init 152 = .ok (.putfield 64, 3) := by decide +kernel
theorem dX5_init_155 : decode cX5_init 155 = .ok (.aload_n 0, 1) := by decide +kernel
theorem dX5_init_156 : decode cX5_init 156 = .ok (.bipush 80, 2) := by decide +kernel
theorem dX5_init_158 : decode cX5_init 158 = .ok (.newarray .int, 2) := by decide +kernel
theorem dX5_init_160 : decode cX5_init 160 = .ok (.putfield 67, 3) := by decide +kernel
theorem dX5_init_163 : decode cX5_init 163 = .ok (.aload_n 0, 1) := by decide +kernel
theorem dX5_init_164 : decode cX5_init 164 = .ok (.bipush 80, 2) := by decide +kernel
theorem dX5_init_166 : decode cX5_init 166 = .ok (.newarray .int, 2) := by decide +kernel
theorem dX5_init_168 : decode cX5_init 168 = .ok (.putfield 70, 3) := by decide +kernel
theorem dX5_init_171 : decode cX5_init 171 = .ok (.aload_n 0, 1) := by decide +kernel
theorem dX5_init_172 : decode cX5_init 172 = .ok (.bipush 9, 2) := by decide +kernel
theorem dX5_init_174 : decode cX5_init 174 = .ok (.newarray .int, 2) := by decide +kernel
theorem dX5_init_176 : decode cX5_init 176 = .ok (.putfield 73, 3) := by decide +kernel
theorem dX5_init_179 : decode cX5_init 179 = .ok (.aload_n 0, 1) := by decide +kernel
theorem dX5_init_180 : decode cX5_init 180 = .ok (.bipush 9, 2) := by decide +kernel
theorem dX5_init_182 : decode cX5_init 182 = .ok (.newarray .int, 2) := by decide +kernel
theorem dX5_init_184 : decode cX5_init 184 = .ok (.putfield 76, 3) := by decide +kernel
theorem dX5_init_187 : decode cX5_init 187 = .ok (.aload_n 0, 1) := by decide +kernel
theorem dX5_init_188 : decode cX5_init 188 = .ok (.bipush 9, 2) := by decide +kernel
theorem dX5_init_190 : decode cX5_init 190 = .ok (.newarray .int, 2) := by decide +kernel
theorem dX5_init_192 : decode cX5_init 192 = .ok (.putfield 79, 3) := by decide +kernel
theorem dX5_init_195 : decode cX5_init 195 = .ok (.aload_n 0, 1) := by decide +kernel
theorem dX5_init_196 : decode cX5_init 196 = .ok (.bipush 8, 2) := by decide +kernel
theorem dX5_init_198 : decode cX5_init 198 = .ok (.newarray .int, 2) := by decide +kernel
theorem dX5_init_200 : decode cX5_init 200 = .ok (.putfield 82, 3) := by decide +kernel
theorem dX5_init_203 : decode cX5_init 203 = .ok (.aload_n 0, 1) := by decide +kernel
theorem dX5_init_204 : decode cX5_init 204 = .ok (.bipush 8, 2) := by decide +kernel
theorem dX5_init_206 : decode cX5_init 206 = .ok (.newarray .int, 2) := by decide +kernel
theorem dX5_init_208 : decode cX5_init 208 = .ok (.putfield 85, 3) := by decide +kernel
theorem dX5_init_211 : decode cX5_init 211 = .ok (.aload_n 0, 1) := by decide +kernel
theorem dX5_init_212 : decode cX5_init 212 = .ok (.bipush 10, 2) := by decide +kernel
theorem dX5_init_214 : decode cX5_init 214 = .ok (.newarray .int, 2) := by decide +kernel
theorem dX5_init_216 : decode cX5_init 216 = .ok (.putfield 88, 3) := by decide +kernel
theorem dX5_init_219 : decode cX5_init 219 = .ok (.aload_n 0, 1) := by decide +kernel
theorem dX5_init_220 : decode cX5_init 220 = .ok (.bipush 10, 2) := by decide +kernel
theorem dX5_init_222 : decode cX5_init 222 = .ok (.newarray .int, 2) := by decide +kernel
theorem dX5_init_224 : decode cX5_init 224 = .ok (.putfield 91, 3) := by decide +kernel
theorem dX5_init_227 : decode cX5_init 227 = .ok (.iconst 0, 1) := by decide +kernel
theorem dX5_init_228 : decode cX5_init 228 = .ok (.istore_n 1, 1) := by decide +kernel
theorem dX5_init_229 : decode cX5_init 229 = .ok (.iload_n 1, 1) := by decide +kernel
theorem dX5_init_230 : decode cX5_init 230 = .ok (.bipush 9, 2) := by decide +kernel
theorem dX5_init_232 : decode cX5_init 232 = .ok (.if_icmp .ge 24, 3) := by decide +kernel
theorem dX5_init_235 : decode cX5_init 235 = .ok (.aload_n 0, 1) := by decide +kernel
theorem dX5_init_236 : decode cX5_init 236 = .ok (.getfield 7, 3) := by decide +kernel
theorem dX5_init_239 : decode cX5_init 239 = .ok (.iload_n 1, 1) := by decide +kernel
theorem dX5_init_240 : decode cX5_init 240 = .ok (.bipush 120, 2) := by decide +kernel
theorem dX5_init_242 : decode cX5_init 242 = .ok (.iastore, 1) := by decide +kernel
theorem dX5_init_243 : decode cX5_init 243 = .ok (.aload_n 0, 1) := by decide +kernel
theorem dX5_init_244 : decode cX5_init 244 = .ok (.getfield 16, 3) := by decide +kernel
theorem dX5_init_247 : decode cX5_init 247 = .ok (.iload_n 1, 1) := by decide +kernel
theorem dX5_init_248 : decode cX5_init 248 = .ok (.iconst 3, 1) := by decide +kernel
theorem dX5_init_249 : decode cX5_init 249 = .ok (.iastore, 1) := by decide +kernel
theorem dX5_init_250 : decode cX5_init 250 = .ok (.iinc 1 1, 3) := by decide +kernel
theorem dX5_init_253 : decode cX5_init 253 = .ok (.goto (-24), 3) := by decide +kernel
theorem dX5_init_256 : decode cX5_init 256 = .ok (.aload_n 0, 1) := by decide +kernel
theorem dX5_init_257 : decode cX5_init 257 = .ok (.getfield 28, 3) := by decide +kernel
theorem dX5_init_260 : decode cX5_init 260 = .ok (.iconst 0, 1) := by decide +kernel
theorem dX5_init_261 : decode cX5_init 261 = .ok (.bipush 8, 2) := by decide +kernel
theorem dX5_init_263 : decode cX5_init 263 = .ok (.iastore, 1) := by decide +kernel
theorem dX5_init_264 : decode cX5_init 264 = .ok (.aload_n 0, 1) := by decide +kernel
theorem dX5_init_265 : decode cX5_init 265 = .ok (.getfield 28, 3) := by decide +kernel
theorem dX5_init_268 : decode cX5_init 268 = .ok (.iconst 1, 1) := by decide +kernel
theorem dX5_init_269 : decode cX5_init 269 = .ok (.iconst 2, 1) := by decide +kernel
theorem dX5_init_270 : decode cX5_init 270 = .ok (.iastore, 1) := by decide +kernel
theorem dX5_init_271 : decode cX5_init 271 = .ok (.aload_n 0, 1) := by decide +kernel
theorem dX5_init_272 : decode cX5_init 272 = .ok (.getfield 28, 3) := by decide +kernel
theorem dX5_init_275 : decode cX5_init 275 = .ok (.iconst 2, 1) := by decide +kernel
theorem dX5_init_276 : decode cX5_init 276 = .ok (.iconst 1, 1) := by decide +kernel
theorem dX5_init_277 : decode cX5_init 277 = .ok (.iastore, 1) := by decide +kernel
theorem dX5_init_278 : decode cX5_init 278 = .ok (.aload_n 0, 1) := by decide +kernel
theorem dX5_init_279 : decode cX5_init 279 = .ok (.getfield 28, 3) := by decide +kernel
theorem dX5_init_282 : decode cX5_init 282 = .ok (.iconst 4, 1) := by decide +kernel
theorem dX5_init_283 : decode cX5_init 283 = .ok (.bipush 30, 2) := by decide +kernel
theorem dX5_init_285 : decode cX5_init 285 = .ok (.iastore, 1) := by decide +kernel
theorem dX5_init_286 : decode cX5_init 286 = .ok (.return_, 1) := by decide +kernel
theorem dX5_in_0 : decode cX5_in 0 = .ok (.iload_n 0, 1) := by decide +kernel
theorem dX5_in_1 : decode cX5_in 1 = .ok (.iload_n 1, 1) := by decide +kernel
theorem dX5_in_2 : decode cX5_in 2 = .ok (.if_icmp .lt 12, 3) := by decide +kernel
theorem dX5_in_5 : decode cX5_in 5 = .ok (.iload_n 0, 1) := by decide +kernel
theorem dX5_in_6 : decode cX5_in 6 = .ok (.iload_n 2, 1) := by decide +kernel
theorem dX5_in_7 : decode cX5_in 7 = .ok (.if_icmp .gt 7, 3) := by decide +kernel
theorem dX5_in_10 : decode cX5_in 10 = .ok (.iconst 1, 1) := by decide +kernel
theorem dX5_in_11 : decode cX5_in 11 = .ok (.goto 4, 3) := by decide +kernel
theorem dX5_in_14 : decode cX5_in 14 = .ok (.iconst 0, 1) := by decide +kernel
theorem dX5_in_15 : decode cX5_in 15 = .ok (.ireturn, 1) := by decide +kernel
theorem dX5_isOn_0 : decode cX5_isOn 0 = .ok (.iload_n 0, 1) := by decide +kernel
theorem dX5_isOn_1 : decode cX5_isOn 1 = .ok (.iconst 0, 1) := by decide +kernel
theorem dX5_isOn_2 : decode cX5_isOn 2 = .ok (.bipush 8, 2) := by decide +kernel
theorem dX5_isOn_4 : decode cX5_isOn 4 = .ok (.invokestatic 94, 3) := by decide +kernel
theorem dX5_isOn_7 : decode cX5_isOn 7 = .ok (.ireturn, 1) := by decide +kernel
theorem dX5_isBus_0 : decode cX5_isBus 0 = .ok (.iload_n 1, 1) := by decide +kernel
theorem dX5_isBus_1 : decode cX5_isBus 1 = .ok (.iconst 0, 1) := by decide +kernel
theorem dX5_isBus_2 : decode cX5_isBus 2 = .ok (.aload_n 0, 1) := by decide +kernel
theorem dX5_isBus_3 : decode cX5_isBus 3 = .ok (.getfield 98, 3) := by decide +kernel
theorem dX5_isBus_6 : decode cX5_isBus 6 = .ok (.iconst 1, 1) := by decide +kernel
theorem dX5_isBus_7 : decode cX5_isBus 7 = .ok (.isub, 1) := by decide +kernel
theorem dX5_isBus_8 : decode cX5_isBus 8 = .ok (.invokestatic 94, 3) := by decide +kernel
theorem dX5_isBus_11 : decode cX5_isBus 11 = .ok (.ireturn, 1) := by decide +kernel
theorem dX5_stop_0 : decode cX5_stop 0 = .ok (.iload_n 1, 1) := by decide +kernel
theorem dX5_stop_1 : decode cX5_stop 1 = .ok (.invokestatic 102, 3) := by decide +kernel
theorem dX5_stop_4 : decode cX5_stop 4 = .ok (.ifCond .ne 5, 3) := by decide +kernel
theorem dX5_stop_7 : decode cX5_stop 7 = .ok (.iconst (-1), 1) := by decide +kernel
theorem dX5_stop_8 : decode cX5_stop 8 = .ok (.ireturn, 1) := by decide +kernel
theorem dX5_stop_9 : decode cX5_stop 9 = .ok (.iload_n 2, 1) := by decide +kernel
theorem dX5_stop_10 : decode cX5_stop 10 = .ok (.ifCond .ne 15, 3) := by decide +kernel
theorem dX5_stop_13 : decode cX5_stop 13 = .ok (.iload_n 3, 1) := by decide +kernel
theorem dX5_stop_14 : decode cX5_stop 14 = .ok (.bipush 10, 2) := by decide +kernel
theorem dX5_stop_16 : decode cX5_stop 16 = .ok (.sipush 900, 3) := by decide +kernel
theorem dX5_stop_19 : decode cX5_stop 19 = .ok (.invokestatic 94, 3) := by decide +kernel
theorem dX5_stop_22 : decode cX5_stop 22 = .ok (.goto 52, 3) := by decide +kernel
theorem dX5_stop_25 : decode cX5_stop 25 = .ok (.iload_n 2, 1) := by decide +kernel
theorem dX5_stop_26 : decode cX5_stop 26 = .ok (.iconst 1, 1) := by decide +kernel
theorem dX5_stop_27 : decode cX5_stop 27 = .ok (.if_icmp .ne 27, 3) := by decide +kernel
theorem dX5_stop_30 : decode cX5_stop 30 = .ok (.iload_n 3, 1) := by decide +kernel
theorem dX5_stop_31 : decode cX5_stop 31 = .ok (.ifCond .eq 15, 3) := by decide +kernel
theorem dX5_stop_34 : decode cX5_stop 34 = .ok (.iload_n 3, 1) := by decide +kernel
theorem dX5_stop_35 : decode cX5_stop 35 = .ok (.bipush 10, 2) := by decide +kernel
theorem dX5_stop_37 : decode cX5_stop 37 = .ok (.sipush 900, 3) := by decide +kernel
theorem dX5_stop_40 : decode cX5_stop 40 = .ok (.invokestatic 94, 3) := by decide +kernel
theorem dX5_stop_43 : decode cX5_stop 43 = .ok (.ifCond .eq 7, 3) := by decide +kernel
theorem dX5_stop_46 : decode cX5_stop 46 = .ok (.iconst 1, 1) := by decide +kernel
theorem dX5_stop_47 : decode cX5_stop 47 = .ok (.goto 27, 3) := by decide +kernel
theorem dX5_stop_50 : decode cX5_stop 50 = .ok (.iconst 0, 1) := by decide +kernel
theorem dX5_stop_51 : decode cX5_stop 51 = .ok (.goto 23, 3) := by decide +kernel
theorem dX5_stop_54 : decode cX5_stop 54 = .ok (.iload_n 2, 1) := by decide +kernel
theorem dX5_stop_55 : decode cX5_stop 55 = .ok (.iconst 2, 1) := by decide +kernel
theorem dX5_stop_56 : decode cX5_stop 56 = .ok (.if_icmp .ne 17, 3) := by decide +kernel
theorem dX5_stop_59 : decode cX5_stop 59 = .ok (.iload_n 3, 1) := by decide +kernel
theorem dX5_stop_60 : decode cX5_stop 60 = .ok (.iconst 1, 1) := by decide +kernel
theorem dX5_stop_61 : decode cX5_stop 61 = .ok (.bipush 9, 2) := by decide +kernel
theorem dX5_stop_63 : decode cX5_stop 63 = .ok (.invokestatic 94, 3) := by decide +kernel
theorem dX5_stop_66 : decode cX5_stop 66 = .ok (.ifCond .eq 7, 3) := by decide +kernel
theorem dX5_stop_69 : decode cX5_stop 69 = .ok (.iconst 1, 1) := by decide +kernel
theorem dX5_stop_70 : decode cX5_stop 70 = .ok (.goto 4, 3) := by decide +kernel
theorem dX5_stop_73 : decode cX5_stop 73 = .ok (.iconst 0, 1) := by decide +kernel
theorem dX5_stop_74 : decode cX5_stop 74 = .ok (.istore 4, 2) := by decide +kernel
theorem dX5_stop_76 : decode cX5_stop 76 = .ok (.iload 4, 2) := by decide +kernel
theorem dX5_stop_78 : decode cX5_stop 78 = .ok (.ifCond .ne 6, 3) := by decide +kernel
theorem dX5_stop_81 : decode cX5_stop 81 = .ok (.bipush (-2), 2) := by decide +kernel
theorem dX5_stop_83 : decode cX5_stop 83 = .ok (.ireturn, 1) := by decide +kernel
theorem dX5_stop_84 : decode cX5_stop 84 = .ok (.iload_n 2, 1) := by decide +kernel
theorem dX5_stop_85 : decode cX5_stop 85 = .ok (.ifCond .ne 12, 3) := by decide +kernel
theorem dX5_stop_88 : decode cX5_stop 88 = .ok (.aload_n 0, 1) := by decide +kernel
theorem dX5_stop_89 : decode cX5_stop 89 = .ok (.getfield 7, 3) := by decide +kernel
theorem dX5_stop_92 : decode cX5_stop 92 = .ok (.iload_n 1, 1) := by decide +kernel
theorem dX5_stop_93 : decode cX5_stop 93 = .ok (.iaload, 1) := by decide +kernel
theorem dX5_stop_94 : decode cX5_stop 94 = .ok (.goto 23, 3) := by decide +kernel
theorem dX5_stop_97 : decode cX5_stop 97 = .ok (.iload_n 2, 1) := by decide +kernel
theorem dX5_stop_98 : decode cX5_stop 98 = .ok (.iconst 1, 1) := by decide +kernel
theorem dX5_stop_99 : decode cX5_stop 99 = .ok (.if_icmp .ne 12, 3) := by decide +kernel
theorem dX5_stop_102 : decode cX5_stop 102 = .ok (.aload_n 0, 1) := by decide +kernel
theorem dX5_stop_103 : decode cX5_stop 103 = .ok (.getfield 13, 3) := by decide +kernel
theorem dX5_stop_106 : decode cX5_stop 106 = .ok (.iload_n 1, 1) := by decide +kernel
theorem dX5_stop_107 : decode cX5_stop 107 = .ok (.iaload, 1) := by decide +kernel
theorem dX5_stop_108 : decode cX5_stop 108 = .ok (.goto 9, 3) := by decide +kernel
theorem dX5_stop_111 : decode cX5_stop 111 = .ok (.aload_n 0, 1) := by decide +kernel
theorem dX5_stop_112 : decode cX5_stop 112 = .ok (.getfield 16, 3) := by decide +kernel
theorem dX5_stop_115 : decode cX5_stop 115 = .ok (.iload_n 1, 1) := by decide +kernel
theorem dX5_stop_116 : decode cX5_stop 116 = .ok (.iaload, 1) := by decide +kernel
theorem dX5_stop_117 : decode cX5_stop 117 = .ok (.istore 5, 2) := by decide +kernel
theorem dX5_stop_119 : decode cX5_stop 119 = .ok (.iload_n 2, 1) := by decide +kernel
theorem dX5_stop_120 : decode cX5_stop 120 = .ok (.ifCond .ne 13, 3) := by decide +kernel
theorem dX5_stop_123 : decode cX5_stop 123 = .ok (.aload_n 0, 1) := by decide +kernel
theorem dX5_stop_124 : decode cX5_stop 124 = .ok (.getfield 7, 3) := by decide +kernel
theorem dX5_stop_127 : decode cX5_stop 127 = .ok (.iload_n 1, 1) := by decide +kernel
theorem dX5_stop_128 : decode cX5_stop 128 = .ok (.iload_n 3, 1) := by decide +kernel
theorem dX5_stop_129 : decode cX5_stop 129 = .ok (.iastore, 1) := by decide +kernel
theorem dX5_stop_130 : decode cX5_stop 130 = .ok (.goto 25, 3) := by decide +kernel
theorem dX5_stop_133 : decode cX5_stop 133 = .ok (.iload_n 2, 1) := by decide +kernel
theorem dX5_stop_134 : decode cX5_stop 134 = .ok (.iconst 1, 1) := by decide +kernel
theorem dX5_stop_135 : decode cX5_stop 135 = .ok (.if_icmp .ne 13, 3) := by decide +kernel
theorem dX5_stop_138 : decode cX5_stop 138 = .ok (.aload_n 0, 1) := by decide +kernel
theorem dX5_stop_139 : decode cX5_stop 139 = .ok (.getfield 13, 3) := by decide +kernel
theorem dX5_stop_142 : decode cX5_stop 142 = .ok (.iload_n 1, 1) := by decide +kernel
theorem dX5_stop_143 : decode cX5_stop 143 = .ok (.iload_n 3, 1) := by decide +kernel
theorem dX5_stop_144 : decode cX5_stop 144 = .ok (.iastore, 1) := by decide +kernel
theorem dX5_stop_145 : decode cX5_stop 145 = .ok (.goto 10, 3) := by decide +kernel
theorem dX5_stop_148 : decode cX5_stop 148 = .ok (.aload_n 0, 1) := by decide +kernel
theorem dX5_stop_149 : decode cX5_stop 149 = .ok (.getfield 16, 3) := by decide +kernel
theorem dX5_stop_152 : decode cX5_stop 152 = .ok (.iload_n 1, 1) := by decide +kernel
theorem dX5_stop_153 : decode cX5_stop 153 = .ok (.iload_n 3, 1) := by decide +kernel
theorem dX5_stop_154 : decode cX5_stop 154 = .ok (.iastore, 1) := by decide +kernel
theorem dX5_stop_155 : decode cX5_stop 155 = .ok (.iload 5, 2) := by decide +kernel
theorem dX5_stop_157 : decode cX5_stop 157 = .ok (.ireturn, 1) := by decide +kernel
theorem dX5_bus_0 : decode cX5_bus 0 = .ok (.iload_n 1, 1) := by decide +kernel
theorem dX5_bus_1 : decode cX5_bus 1 = .ok (.aload_n 0, 1) := by decide +kernel
theorem dX5_bus_2 : decode cX5_bus 2 = .ok (.getfield 98, 3) := by decide +kernel
theorem dX5_bus_5 : decode cX5_bus 5 = .ok (.ifCond .ne 7, 3) := by decide +kernel
theorem dX5_bus_8 : decode cX5_bus 8 = .ok (.iconst 0, 1) := by decide +kernel
theorem dX5_bus_9 : decode cX5_bus 9 = .ok (.goto 14, 3) := by decide +kernel
theorem dX5_bus_12 : decode cX5_bus 12 = .ok (.aload_n 0, 1) := by decide +kernel
theorem dX5_bus_13 : decode cX5_bus 13 = .ok (.getfield 19, 3) := by decide +kernel
theorem dX5_bus_16 : decode cX5_bus 16 = .ok (.aload_n 0, 1) := by decide +kernel
theorem dX5_bus_17 : decode cX5_bus 17 = .ok (.getfield 98, 3) := by decide +kernel
theorem dX5_bus_20 : decode cX5_bus 20 = .ok (.iconst 1, 1) := by decide +kernel
theorem dX5_bus_21 : decode cX5_bus 21 = .ok (.isub, 1) := by decide +kernel
theorem dX5_bus_22 : decode cX5_bus 22 = .ok (.iaload, 1) := by decide +kernel
theorem dX5_bus_23 : decode cX5_bus 23 = .ok (.sipush 7200, 3) := by decide +kernel
theorem dX5_bus_26 : decode cX5_bus 26 = .ok (.invokestatic 94, 3) := by decide +kernel
theorem dX5_bus_29 : decode cX5_bus 29 = .ok (.ifCond .eq 13, 3) := by decide +kernel
theorem dX5_bus_32 : decode cX5_bus 32 = .ok (.iload_n 2, 1) := by decide +kernel
theorem dX5_bus_33 : decode cX5_bus 33 = .ok (.iconst 1, 1) := by decide +kernel
theorem dX5_bus_34 : decode cX5_bus 34 = .ok (.bipush 80, 2) := by decide +kernel
theorem dX5_bus_36 : decode cX5_bus 36 = .ok (.invokestatic 94, 3) := by decide +kernel
theorem dX5_bus_39 : decode cX5_bus 39 = .ok (.ifCond .ne 6, 3) := by decide +kernel
theorem dX5_bus_42 : decode cX5_bus 42 = .ok (.bipush (-2), 2) := by decide +kernel
theorem dX5_bus_44 : decode cX5_bus 44 = .ok (.ireturn, 1) := by decide +kernel
theorem dX5_bus_45 : decode cX5_bus 45 = .ok (.aload_n 0, 1) := by decide +kernel
theorem dX5_bus_46 : decode cX5_bus 46 = .ok (.getfield 98, 3) := by decide +kernel
theorem dX5_bus_49 : decode cX5_bus 49 = .ok (.bipush 8, 2) := by decide +kernel
theorem dX5_bus_51 : decode cX5_bus 51 = .ok (.if_icmp .ne 6, 3) := by decide +kernel
theorem dX5_bus_54 : decode cX5_bus 54 = .ok (.bipush (-4), 2) := by decide +kernel
theorem dX5_bus_56 : decode cX5_bus 56 = .ok (.ireturn, 1) := by decide +kernel
theorem dX5_bus_57 : decode cX5_bus 57 = .ok (.aload_n 0, 1) := by decide +kernel
theorem dX5_bus_58 : decode cX5_bus 58 = .ok (.getfield 19, 3) := by decide +kernel
theorem dX5_bus_61 : decode cX5_bus 61 = .ok (.aload_n 0, 1) := by decide +kernel
theorem dX5_bus_62 : decode cX5_bus 62 = .ok (.getfield 98, 3) := by decide +kernel
theorem dX5_bus_65 : decode cX5_bus 65 = .ok (.iload_n 1, 1) := by decide +kernel
theorem dX5_bus_66 : decode cX5_bus 66 = .ok (.iastore, 1) := by decide +kernel
theorem dX5_bus_67 : decode cX5_bus 67 = .ok (.aload_n 0, 1) := by decide +kernel
theorem dX5_bus_68 : decode cX5_bus 68 = .ok (.getfield 22, 3) := by decide +kernel
theorem dX5_bus_71 : decode cX5_bus 71 = .ok (.aload_n 0, 1) := by decide +kernel
theorem dX5_bus_72 : decode cX5_bus 72 = .ok (.getfield 98, 3) := by decide +kernel
theorem dX5_bus_75 : decode cX5_bus 75 = .ok (.iload_n 2, 1) := by decide +kernel
theorem dX5_bus_76 : decode cX5_bus 76 = .ok (.iastore, 1) := by decide +kernel
theorem dX5_bus_77 : decode cX5_bus 77 = .ok (.aload_n 0, 1) := by decide +kernel
theorem dX5_bus_78 : decode cX5_bus 78 = .ok (.getfield 25, 3) := by decide +kernel
theorem dX5_bus_81 : decode cX5_bus 81 = .ok (.aload_n 0, 1) := by decide +kernel
theorem dX5_bus_82 : decode cX5_bus 82 = .ok (.getfield 98, 3) := by decide +kernel
theorem dX5_bus_85 : decode cX5_bus 85 = .ok (.bipush 9, 2) := by decide +kernel
theorem dX5_bus_87 : decode cX5_bus 87 = .ok (.iastore, 1) := by decide +kernel
theorem dX5_bus_88 : decode cX5_bus 88 = .ok (.aload_n 0, 1) := by decide +kernel
theorem dX5_bus_89 : decode cX5_bus 89 = .ok (.dup, 1) := by decide +kernel
theorem dX5_bus_90 : decode cX5_bus 90 = .ok (.getfield 98, 3) := by decide +kernel
theorem dX5_bus_93 : decode cX5_bus 93 = .ok (.iconst 1, 1) := by decide +kernel
theorem dX5_bus_94 : decode cX5_bus 94 = .ok (.iadd, 1) := by decide +kernel
theorem dX5_bus_95 : decode cX5_bus 95 = .ok (.putfield 98, 3) := by decide +kernel
theorem dX5_bus_98 : decode cX5_bus 98 = .ok (.aload_n 0, 1) := by decide +kernel
theorem dX5_bus_99 : decode cX5_bus 99 = .ok (.getfield 98, 3) := by decide +kernel
theorem dX5_bus_102 : decode cX5_bus 102 = .ok (.iconst 1, 1) := by decide +kernel
theorem dX5_bus_103 : decode cX5_bus 103 = .ok (.isub, 1) := by decide +kernel
theorem dX5_bus_104 : decode cX5_bus 104 = .ok (.ireturn, 1) := by decide +kernel
theorem dX5_set_0 : decode cX5_set 0 = .ok (.iload_n 1, 1) := by decide +kernel
theorem dX5_set_1 : decode cX5_set 1 = .ok (.iconst 0, 1) := by decide +kernel
theorem dX5_set_2 : decode cX5_set 2 = .ok (.iconst 4, 1) := by decide +kernel
theorem dX5_set_3 : decode cX5_set 3 = .ok (.invokestatic 94, 3) := by decide +kernel
theorem dX5_set_6 : decode cX5_set 6 = .ok (.ifCond .ne 6, 3) := by decide +kernel
theorem dX5_set_9 : decode cX5_set 9 = .ok (.bipush (-2), 2) := by decide +kernel
theorem dX5_set_11 : decode cX5_set 11 = .ok (.ireturn, 1) := by decide +kernel
theorem dX5_set_12 : decode cX5_set 12 = .ok (.iload_n 2, 1) := by decide +kernel
theorem dX5_set_13 : decode cX5_set 13 = .ok (.iconst 0, 1) := by decide +kernel
theorem dX5_set_14 : decode cX5_set 14 = .ok (.iload_n 1, 1) := by decide +kernel
theorem dX5_set_15 : decode cX5_set 15 = .ok (.ifCond .ne 8, 3) := by decide +kernel
theorem dX5_set_18 : decode cX5_set 18 = .ok (.bipush 60, 2) := by decide +kernel
theorem dX5_set_20 : decode cX5_set 20 = .ok (.goto 25, 3) := by decide +kernel
theorem dX5_set_23 : decode cX5_set 23 = .ok (.iload_n 1, 1) := by decide +kernel
theorem dX5_set_24 : decode cX5_set 24 = .ok (.iconst 3, 1) := by decide +kernel
theorem dX5_set_25 : decode cX5_set 25 = .ok (.if_icmp .ge 8, 3) := by decide +kernel
theorem dX5_set_28 : decode cX5_set 28 = .ok (.bipush 10, 2) := by decide +kernel
theorem dX5_set_30 : decode cX5_set 30 = .ok (.goto 15, 3) := by decide +kernel
theorem dX5_set_33 : decode cX5_set 33 = .ok (.iload_n 1, 1) := by decide +kernel
theorem dX5_set_34 : decode cX5_set 34 = .ok (.iconst 3, 1) := by decide +kernel
theorem dX5_set_35 : decode cX5_set 35 = .ok (.if_icmp .ne 7, 3) := by decide +kernel
theorem dX5_set_38 : decode cX5_set 38 = .ok (.iconst 1, 1) := by decide +kernel
theorem dX5_set_39 : decode cX5_set 39 = .ok (.goto 6, 3) := by decide +kernel
theorem dX5_set_42 : decode cX5_set 42 = .ok (.sipush 600, 3) := by decide +kernel
theorem dX5_set_45 : decode cX5_set 45 = .ok (.invokestatic 94, 3) := by decide +kernel
theorem dX5_set_48 : decode cX5_set 48 = .ok (.ifCond .ne 6, 3) := by decide +kernel
theorem dX5_set_51 : decode cX5_set 51 = .ok (.bipush (-2), 2) := by decide +kernel
theorem dX5_set_53 : decode cX5_set 53 = .ok (.ireturn, 1) := by decide +kernel
theorem dX5_set_54 : decode cX5_set 54 = .ok (.aload_n 0, 1) := by decide +kernel
theorem dX5_set_55 : decode cX5_set 55 = .ok (.getfield 28, 3) := by decide +kernel
theorem dX5_set_58 : decode cX5_set 58 = .ok (.iload_n 1, 1) := by decide +kernel
theorem dX5_set_59 : decode cX5_set 59 = .ok (.iaload, 1) := by decide +kernel
theorem dX5_set_60 : decode cX5_set 60 = .ok (.istore_n 3, 1) := by decide +kernel
theorem dX5_set_61 : decode cX5_set 61 = .ok (.aload_n 0, 1) := by decide +kernel
theorem dX5_set_62 : decode cX5_set 62 = .ok (.getfield 28, 3) := by decide +kernel
theorem dX5_set_65 : decode cX5_set 65 = .ok (.iload_n 1, 1) := by decide +kernel
theorem dX5_set_66 : decode cX5_set 66 = .ok (.iload_n 2, 1) := by decide +kernel
theorem dX5_set_67 : decode cX5_set 67 = .ok (.iastore, 1) := by decide +kernel
theorem dX5_set_68 : decode cX5_set 68 = .ok (.iload_n 3, 1) := by decide +kernel
theorem dX5_set_69 : decode cX5_set 69 = .ok (.ireturn, 1) := by decide +kernel
theorem dX5_late_0 : decode cX5_late 0 = .ok (.aload_n 0, 1) := by decide +kernel
theorem dX5_late_1 : decode cX5_late 1 = .ok (.iload_n 1, 1) := by decide +kernel
theorem dX5_late_2 : decode cX5_late 2 = .ok (.invokevirtual 106, 3) := by decide +kernel
theorem dX5_late_5 : decode cX5_late 5 = .ok (.ifCond .eq 10, 3) := by decide +kernel
theorem dX5_late_8 : decode cX5_late 8 = .ok (.iload_n 2, 1) := by decide +kernel
theorem dX5_late_9 : decode cX5_late 9 = .ok (.invokestatic 102, 3) := by decide +kernel
theorem dX5_late_12 : decode cX5_late 12 = .ok (.ifCond .ne 5, 3) := by decide +kernel
theorem dX5_late_15 : decode cX5_late 15 = .ok (.iconst (-1), 1) := by decide +kernel
theorem dX5_late_16 : decode cX5_late 16 = .ok (.ireturn, 1) := by decide +kernel
theorem dX5_late_17 : decode cX5_late 17 = .ok (.iload_n 3, 1) := by decide +kernel
theorem dX5_late_18 : decode cX5_late 18 = .ok (.iconst 1, 1) := by decide +kernel
theorem dX5_late_19 : decode cX5_late 19 = .ok (.sipush 900, 3) := by decide +kernel
theorem dX5_late_22 : decode cX5_late 22 = .ok (.invokestatic 94, 3) := by decide +kernel
theorem dX5_late_25 : decode cX5_late 25 = .ok (.ifCond .ne 6, 3) := by decide +kernel
theorem dX5_late_28 : decode cX5_late 28 = .ok (.bipush (-2), 2) := by decide +kernel
theorem dX5_late_30 : decode cX5_late 30 = .ok (.ireturn, 1) := by decide +kernel
theorem dX5_late_31 : decode cX5_late 31 = .ok (.aload_n 0, 1) := by decide +kernel
theorem dX5_late_32 : decode cX5_late 32 = .ok (.getfield 109, 3) := by decide +kernel
theorem dX5_late_35 : decode cX5_late 35 = .ok (.bipush 10, 2) := by decide +kernel
theorem dX5_late_37 : decode cX5_late 37 = .ok (.if_icmp .ne 6, 3) := by decide +kernel
theorem dX5_late_40 : decode cX5_late 40 = .ok (.bipush (-4), 2) := by decide +kernel
theorem dX5_late_42 : decode cX5_late 42 = .ok (.ireturn, 1) := by decide +kernel
theorem dX5_late_43 : decode cX5_late 43 = .ok (.aload_n 0, 1) := by decide +kernel
theorem dX5_late_44 : decode cX5_late 44 = .ok (.getfield 31, 3) := by decide +kernel
theorem dX5_late_47 : decode cX5_late 47 = .ok (.aload_n 0, 1) := by decide +kernel
theorem dX5_late_48 : decode cX5_late 48 = .ok (.getfield 109, 3) := by decide +kernel
theorem dX5_late_51 : decode cX5_late 51 = .ok (.iload_n 1, 1) := by decide +kernel
theorem dX5_late_52 : decode cX5_late 52 = .ok (.iastore, 1) := by decide +kernel
theorem dX5_late_53 : decode cX5_late 53 = .ok (.aload_n 0, 1) := by decide +kernel
theorem dX5_late_54 : decode cX5_late 54 = .ok (.getfield 34, 3) := by decide +kernel
theorem dX5_late_57 : decode cX5_late 57 = .ok (.aload_n 0, 1) := by decide +kernel
theorem dX5_late_58 : decode cX5_late 58 = .ok (.getfield 109, 3) := by decide +kernel
theorem dX5_late_61 : decode cX5_late 61 = .ok (.iload_n 2, 1) := by decide +kernel
theorem dX5_late_62 : decode cX5_late 62 = .ok (.iastore, 1) := by decide +kernel
theorem dX5_late_63 : decode cX5_late 63 = .ok (.aload_n 0, 1) := by decide +kernel
theorem dX5_late_64 : decode cX5_late 64 = .ok (.getfield 37, 3) := by decide +kernel
theorem dX5_late_67 : decode cX5_late 67 = .ok (.aload_n 0, 1) := by decide +kernel
theorem dX5_late_68 : decode cX5_late 68 = .ok (.getfield 109, 3) := by decide +kernel
theorem dX5_late_71 : decode cX5_late 71 = .ok (.iload_n 3, 1) := by decide +kernel
theorem dX5_late_72 : decode cX5_late 72 = .ok (.iastore, 1) := by decide +kernel
theorem dX5_late_73 : decode cX5_late 73 = .ok (.aload_n 0, 1) := by decide +kernel
theorem dX5_late_74 : decode cX5_late 74 = .ok (.dup, 1) := by decide +kernel
theorem dX5_late_75 : decode cX5_late 75 = .ok (.getfield 109, 3) := by decide +kernel
theorem dX5_late_78 : decode cX5_late 78 = .ok (.iconst 1, 1) := by decide +kernel
theorem dX5_late_79 : decode cX5_late 79 = .ok (.iadd, 1) := by decide +kernel
theorem dX5_late_80 : decode cX5_late 80 = .ok (.putfield 109, 3) := by decide +kernel
theorem dX5_late_83 : decode cX5_late 83 = .ok (.aload_n 0, 1) := by decide +kernel
theorem dX5_late_84 : decode cX5_late 84 = .ok (.getfield 109, 3) := by decide +kernel
theorem dX5_late_87 : decode cX5_late 87 = .ok (.iconst 1, 1) := by decide +kernel
theorem dX5_late_88 : decode cX5_late 88 = .ok (.isub, 1) := by decide +kernel
theorem dX5_late_89 : decode cX5_late 89 = .ok (.ireturn, 1) := by decide +kernel
theorem dX5_mend_0 : decode cX5_mend 0 = .ok (.aload_n 0, 1) := by decide +kernel
theorem dX5_mend_1 : decode cX5_mend 1 = .ok (.getfield 109, 3) := by decide +kernel
theorem dX5_mend_4 : decode cX5_mend 4 = .ok (.ifCond .ne 6, 3) := by decide +kernel
theorem dX5_mend_7 : decode cX5_mend 7 = .ok (.bipush (-5), 2) := by decide +kernel
theorem dX5_mend_9 : decode cX5_mend 9 = .ok (.ireturn, 1) := by decide +kernel
theorem dX5_mend_10 : decode cX5_mend 10 = .ok (.aload_n 0, 1) := by decide +kernel
theorem dX5_mend_11 : decode cX5_mend 11 = .ok (.dup, 1) := by decide +kernel
theorem dX5_mend_12 : decode cX5_mend 12 = .ok (.getfield 109, 3) := by decide +kernel
theorem dX5_mend_15 : decode cX5_mend 15 = .ok (.iconst 1, 1) := by decide +kernel
theorem dX5_mend_16 : decode cX5_mend 16 = .ok (.isub, 1) := by decide +kernel
theorem dX5_mend_17 : decode cX5_mend 17 = .ok (.putfield 109, 3) := by decide +kernel
theorem dX5_mend_20 : decode cX5_mend 20 = .ok (.aload_n 0, 1) := by decide +kernel
theorem dX5_mend_21 : decode cX5_mend 21 = .ok (.getfield 109, 3) := by decide +kernel
theorem dX5_mend_24 : decode cX5_mend 24 = .ok (.ireturn, 1) := by decide +kernel
theorem dX5_turn_0 : decode cX5_turn 0 = .ok (.aload_n 0, 1) := by decide +kernel
theorem dX5_turn_1 : decode cX5_turn 1 = .ok (.iload_n 1, 1) := by decide +kernel
theorem dX5_turn_2 : decode cX5_turn 2 = .ok (.invokevirtual 106, 3) := by decide +kernel
theorem dX5_turn_5 : decode cX5_turn 5 = .ok (.ifCond .ne 5, 3) := by decide +kernel
theorem dX5_turn_8 : decode cX5_turn 8 = .ok (.iconst (-1), 1) := by decide +kernel
theorem dX5_turn_9 : decode cX5_turn 9 = .ok (.ireturn, 1) := by decide +kernel
theorem dX5_turn_10 : decode cX5_turn 10 = .ok (.iload_n 2, 1) := by decide +kernel
theorem dX5_turn_11 : decode cX5_turn 11 = .ok (.iconst 1, 1) := by decide +kernel
theorem dX5_turn_12 : decode cX5_turn 12 = .ok (.bipush 9, 2) := by decide +kernel
theorem dX5_turn_14 : decode cX5_turn 14 = .ok (.invokestatic 94, 3) := by decide +kernel
theorem dX5_turn_17 : decode cX5_turn 17 = .ok (.ifCond .ne 6, 3) := by decide +kernel
theorem dX5_turn_20 : decode cX5_turn 20 = .ok (.bipush (-2), 2) := by decide +kernel
theorem dX5_turn_22 : decode cX5_turn 22 = .ok (.ireturn, 1) := by decide +kernel
theorem dX5_turn_23 : decode cX5_turn 23 = .ok (.aload_n 0, 1) := by decide +kernel
theorem dX5_turn_24 : decode cX5_turn 24 = .ok (.getfield 25, 3) := by decide +kernel
theorem dX5_turn_27 : decode cX5_turn 27 = .ok (.iload_n 1, 1) := by decide +kernel
theorem dX5_turn_28 : decode cX5_turn 28 = .ok (.iaload, 1) := by decide +kernel
theorem dX5_turn_29 : decode cX5_turn 29 = .ok (.istore_n 3, 1) := by decide +kernel
theorem dX5_turn_30 : decode cX5_turn 30 = .ok (.aload_n 0, 1) := by decide +kernel
theorem dX5_turn_31 : decode cX5_turn 31 = .ok (.getfield 25, 3) := by decide +kernel
theorem dX5_turn_34 : decode cX5_turn 34 = .ok (.iload_n 1, 1) := by decide +kernel
theorem dX5_turn_35 : decode cX5_turn 35 = .ok (.iload_n 2, 1) := by decide +kernel
theorem dX5_turn_36 : decode cX5_turn 36 = .ok (.iastore, 1) := by decide +kernel
theorem dX5_turn_37 : decode cX5_turn 37 = .ok (.iload_n 3, 1) := by decide +kernel
theorem dX5_turn_38 : decode cX5_turn 38 = .ok (.ireturn, 1) := by decide +kernel
theorem dX5_lateAt_0 : decode cX5_lateAt 0 = .ok (.iconst 0, 1) := by decide +kernel
theorem dX5_lateAt_1 : decode cX5_lateAt 1 = .ok (.istore 4, 2) := by decide +kernel
theorem dX5_lateAt_3 : decode cX5_lateAt 3 = .ok (.iconst 0, 1) := by decide +kernel
theorem dX5_lateAt_4 : decode cX5_lateAt 4 = .ok (.istore 5, 2) := by decide +kernel
theorem dX5_lateAt_6 : decode cX5_lateAt 6 = .ok (.iload 5, 2) := by decide +kernel
theorem dX5_lateAt_8 : decode cX5_lateAt 8 = .ok (.aload_n 0, 1) := by decide +kernel
theorem dX5_lateAt_9 : decode cX5_lateAt 9 = .ok (.getfield 109, 3) := by decide +kernel
theorem dX5_lateAt_12 : decode cX5_lateAt 12 = .ok (.if_icmp .ge 53, 3) := by decide +kernel
theorem dX5_lateAt_15 : decode cX5_lateAt 15 = .ok (.iload 4, 2) := by decide +kernel
theorem dX5_lateAt_17 : decode cX5_lateAt 17 = .ok (.iload 5, 2) := by decide +kernel
theorem dX5_lateAt_19 : decode cX5_lateAt 19 = .ok (.iload_n 3, 1) := by decide +kernel
theorem dX5_lateAt_20 : decode cX5_lateAt 20 = .ok (.if_icmp .eq 35, 3) := by decide +kernel
theorem dX5_lateAt_23 : decode cX5_lateAt 23 = .ok (.aload_n 0, 1) := by decide +kernel
theorem dX5_lateAt_24 : decode cX5_lateAt 24 = .ok (.getfield 31, 3) := by decide +kernel
theorem dX5_lateAt_27 : decode cX5_lateAt 27 = .ok (.iload 5, 2) := by decide +kernel
theorem dX5_lateAt_29 : decode cX5_lateAt 29 = .ok (.iaload, 1) := by decide +kernel
theorem dX5_lateAt_30 : decode cX5_lateAt 30 = .ok (.iload_n 1, 1) := by decide +kernel
theorem dX5_lateAt_31 : decode cX5_lateAt 31 = .ok (.if_icmp .ne 24, 3) := by decide +kernel
theorem dX5_lateAt_34 : decode cX5_lateAt 34 = .ok (.aload_n 0, 1) := by decide +kernel
theorem dX5_lateAt_35 : decode cX5_lateAt 35 = .ok (.getfield 34, 3) := by decide +kernel
theorem dX5_lateAt_38 : decode cX5_lateAt 38 = .ok (.iload 5, 2) := by decide +kernel
theorem dX5_lateAt_40 : decode cX5_lateAt 40 = .ok (.iaload, 1) := by decide +kernel
theorem dX5_lateAt_41 : decode cX5_lateAt 41 = .ok (.iload_n 2, 1) := by decide +kernel
theorem dX5_lateAt_42 : decode cX5_lateAt 42 = .ok (.if_icmp .ne 13, 3) := by decide +kernel
theorem dX5_lateAt_45 : decode cX5_lateAt 45 = .ok (.aload_n 0, 1) := by decide +kernel
theorem dX5_lateAt_46 : decode cX5_lateAt 46 = .ok (.getfield 37, 3) := by decide +kernel
theorem dX5_lateAt_49 : decode cX5_lateAt 49 = .ok (.iload 5, 2) := by decide +kernel
theorem dX5_lateAt_51 : decode cX5_lateAt 51 = .ok (.iaload, 1) := by decide +kernel
theorem dX5_lateAt_52 : decode cX5_lateAt 52 = .ok (.goto 4, 3) := by decide +kernel
theorem dX5_lateAt_55 : decode cX5_lateAt 55 = .ok (.iconst 0, 1) := by decide +kernel
theorem dX5_lateAt_56 : decode cX5_lateAt 56 = .ok (.iadd, 1) := by decide +kernel
theorem dX5_lateAt_57 : decode cX5_lateAt 57 = .ok (.istore 4, 2) := by decide +kernel
theorem dX5_lateAt_59 : decode cX5_lateAt 59 = .ok (.iinc 5 1, 3) := by decide +kernel
theorem dX5_lateAt_62 : decode cX5_lateAt 62 = .ok (.goto (-56), 3) := by decide +kernel
theorem dX5_lateAt_65 : decode cX5_lateAt 65 = .ok (.iload 4, 2) := by decide +kernel
theorem dX5_lateAt_67 : decode cX5_lateAt 67 = .ok (.ireturn, 1) := by decide +kernel
theorem dX5_layOrder_0 : decode cX5_layOrder 0 = .ok (.iconst 0, 1) := by decide +kernel
theorem dX5_layOrder_1 : decode cX5_layOrder 1 = .ok (.istore_n 2, 1) := by decide +kernel
theorem dX5_layOrder_2 : decode cX5_layOrder 2 = .ok (.iconst 0, 1) := by decide +kernel
theorem dX5_layOrder_3 : decode cX5_layOrder 3 = .ok (.istore_n 3, 1) := by decide +kernel
theorem dX5_layOrder_4 : decode cX5_layOrder 4 = .ok (.iload_n 3, 1) := by decide +kernel
theorem dX5_layOrder_5 : decode cX5_layOrder 5 = .ok (.aload_n 0, 1) := by decide +kernel
theorem dX5_layOrder_6 : decode cX5_layOrder 6 = .ok (.getfield 98, 3) := by decide +kernel
theorem dX5_layOrder_9 : decode cX5_layOrder 9 = .ok (.if_icmp .ge 185, 3) := by decide +kernel
theorem dX5_layOrder_12 : decode cX5_layOrder 12 = .ok (.bipush 10, 2) := by decide +kernel
theorem dX5_layOrder_14 : decode cX5_layOrder 14 = .ok (.iload_n 3, 1) := by decide +kernel
theorem dX5_layOrder_15 : decode cX5_layOrder 15 = .ok (.imul, 1) := by decide +kernel
theorem dX5_layOrder_16 : decode cX5_layOrder 16 = .ok (.iload_n 1, 1) := by decide +kernel
theorem dX5_layOrder_17 : decode cX5_layOrder 17 = .ok (.iadd, 1) := by decide +kernel
theorem dX5_layOrder_18 : decode cX5_layOrder 18 = .ok (.istore 4, 2) := by decide +kernel
theorem dX5_layOrder_20 : decode cX5_layOrder 20 = .ok (.iload_n 1, 1) := by decide +kernel
theorem dX5_layOrder_21 : decode cX5_layOrder 21 = .ok (.ifCond .eq 27, 3) := by decide +kernel
theorem dX5_layOrder_24 : decode cX5_layOrder 24 = .ok (.aload_n 0, 1) := by decide +kernel
theorem dX5_layOrder_25 : decode cX5_layOrder 25 = .ok (.getfield 49, 3) := by decide +kernel
theorem dX5_layOrder_28 : decode cX5_layOrder 28 = .ok (.iload 4, 2) := by decide +kernel
theorem dX5_layOrder_30 : decode cX5_layOrder 30 = .ok (.iconst 1, 1) := by decide +kernel
theorem dX5_layOrder_31 : decode cX5_layOrder 31 = .ok (.isub, 1) := by decide +kernel
theorem dX5_layOrder_32 : decode cX5_layOrder 32 = .ok (.iaload, 1) := by decide +kernel
theorem dX5_layOrder_33 : decode cX5_layOrder 33 = .ok (.ifCond .lt 19, 3) := by decide +kernel
theorem dX5_layOrder_36 : decode cX5_layOrder 36 = .ok (.aload_n 0, 1) := by decide +kernel
theorem dX5_layOrder_37 : decode cX5_layOrder 37 = .ok (.getfield 25, 3) := by decide +kernel
theorem dX5_layOrder_40 : decode cX5_layOrder 40 = .ok (.iload_n 3, 1) := by decide +kernel
theorem dX5_layOrder_41 : decode cX5_layOrder 41 = .ok (.iaload, 1) := by decide +kernel
theorem dX5_layOrder_42 : decode cX5_layOrder 42 = .ok (.iload_n 1, 1) := by decide +kernel
theorem dX5_layOrder_43 : decode cX5_layOrder 43 = .ok (.iconst 1, 1) := by decide +kernel
theorem dX5_layOrder_44 : decode cX5_layOrder 44 = .ok (.isub, 1) := by decide +kernel
theorem dX5_layOrder_45 : decode cX5_layOrder 45 = .ok (.if_icmp .le 7, 3) := by decide +kernel
theorem dX5_layOrder_48 : decode cX5_layOrder 48 = .ok (.iconst 1, 1) := by decide +kernel
theorem dX5_layOrder_49 : decode cX5_layOrder 49 = .ok (.goto 4, 3) := by decide +kernel
theorem dX5_layOrder_52 : decode cX5_layOrder 52 = .ok (.iconst 0, 1) := by decide +kernel
theorem dX5_layOrder_53 : decode cX5_layOrder 53 = .ok (.istore 5, 2) := by decide +kernel
theorem dX5_layOrder_55 : decode cX5_layOrder 55 = .ok (.aload_n 0, 1) := by decide +kernel
theorem dX5_layOrder_56 : decode cX5_layOrder 56 = .ok (.getfield 49, 3) := by decide +kernel
theorem dX5_layOrder_59 : decode cX5_layOrder 59 = .ok (.iload 4, 2) := by decide +kernel
theorem dX5_layOrder_61 : decode cX5_layOrder 61 = .ok (.iload 5, 2) := by decide +kernel
theorem dX5_layOrder_63 : decode cX5_layOrder 63 = .ok (.ifCond .eq 37, 3) := by decide +kernel
theorem dX5_layOrder_66 : decode cX5_layOrder 66 = .ok (.iload_n 1, 1) := by decide +kernel
theorem dX5_layOrder_67 : decode cX5_layOrder 67 = .ok (.ifCond .ne 12, 3) := by decide +kernel
theorem dX5_layOrder_70 : decode cX5_layOrder 70 = .ok (.aload_n 0, 1) := by decide +kernel
theorem dX5_layOrder_71 : decode cX5_layOrder 71 = .ok (.getfield 19, 3) := by decide +kernel
theorem dX5_layOrder_74 : decode cX5_layOrder 74 = .ok (.iload_n 3, 1) := by decide +kernel
theorem dX5_layOrder_75 : decode cX5_layOrder 75 = .ok (.iaload, 1) := by decide +kernel
theorem dX5_layOrder_76 : decode cX5_layOrder 76 = .ok (.goto 26, 3) := by decide +kernel
theorem dX5_layOrder_79 : decode cX5_layOrder 79 = .ok (.aload_n 0, 1) := by decide +kernel
theorem dX5_layOrder_80 : decode cX5_layOrder 80 = .ok (.getfield 52, 3) := by decide +kernel
theorem dX5_layOrder_83 : decode cX5_layOrder 83 = .ok (.iload 4, 2) := by decide +kernel
theorem dX5_layOrder_85 : decode cX5_layOrder 85 = .ok (.iconst 1, 1) := by decide +kernel
theorem dX5_layOrder_86 : decode cX5_layOrder 86 = .ok (.isub, 1) := by decide +kernel
theorem dX5_layOrder_87 : decode cX5_layOrder 87 = .ok (.iaload, 1) := by decide +kernel
theorem dX5_layOrder_88 : decode cX5_layOrder 88 = .ok (.aload_n 0, 1) := by decide +kernel
theorem dX5_layOrder_89 : decode cX5_layOrder 89 = .ok (.getfield 7, 3) := by decide +kernel
theorem dX5_layOrder_92 : decode cX5_layOrder 92 = .ok (.iload_n 1, 1) := by decide +kernel
theorem dX5_layOrder_93 : decode cX5_layOrder 93 = .ok (.iconst 1, 1) := by decide +kernel
theorem dX5_layOrder_94 : decode cX5_layOrder 94 = .ok (.isub, 1) := by decide +kernel
theorem dX5_layOrder_95 : decode cX5_layOrder 95 = .ok (.iaload, 1) := by decide +kernel
theorem dX5_layOrder_96 : decode cX5_layOrder 96 = .ok (.iadd, 1) := by decide +kernel
theorem dX5_layOrder_97 : decode cX5_layOrder 97 = .ok (.goto 5, 3) := by decide +kernel
theorem dX5_layOrder_100 : decode cX5_layOrder 100 = .ok (.bipush (-6), 2) := by decide +kernel
theorem dX5_layOrder_102 : decode cX5_layOrder 102 = .ok (.iastore, 1) := by decide +kernel
theorem dX5_layOrder_103 : decode cX5_layOrder 103 = .ok (.iload 5, 2) := by decide +kernel
theorem dX5_layOrder_105 : decode cX5_layOrder 105 = .ok (.ifCond .eq 83, 3) := by decide +kernel
theorem dX5_layOrder_108 : decode cX5_layOrder 108 = .ok (.iload_n 2, 1) := by decide +kernel
theorem dX5_layOrder_109 : decode cX5_layOrder 109 = .ok (.istore 6, 2) := by decide +kernel
theorem dX5_layOrder_111 : decode cX5_layOrder 111 = .ok (.aload_n 0, 1) := by decide +kernel
theorem dX5_layOrder_112 : decode cX5_layOrder 112 = .ok (.getfield 28, 3) := by decide +kernel
theorem dX5_layOrder_115 : decode cX5_layOrder 115 = .ok (.iconst 3, 1) := by decide +kernel
theorem dX5_layOrder_116 : decode cX5_layOrder 116 = .ok (.iaload, 1) := by decide +kernel
theorem dX5_layOrder_117 : decode cX5_layOrder 117 = .ok (.iconst 1, 1) := by decide +kernel
theorem dX5_layOrder_118 : decode cX5_layOrder 118 = .ok (.if_icmp .ne 59, 3) := by decide +kernel
theorem dX5_layOrder_121 : decode cX5_layOrder 121 = .ok (.iload 6, 2) := by decide +kernel
theorem dX5_layOrder_123 : decode cX5_layOrder 123 = .ok (.ifCond .le 54, 3) := by decide +kernel
theorem dX5_layOrder_126 : decode cX5_layOrder 126 = .ok (.aload_n 0, 1) := by decide +kernel
theorem dX5_layOrder_127 : decode cX5_layOrder 127 = .ok (.getfield 49, 3) := by decide +kernel
theorem dX5_layOrder_130 : decode cX5_layOrder 130 = .ok (.bipush 10, 2) := by decide +kernel
theorem dX5_layOrder_132 : decode cX5_layOrder 132 = .ok (.aload_n 0, 1) := by decide +kernel
theorem dX5_layOrder_133 : decode cX5_layOrder 133 = .ok (.getfield 82, 3) := by decide +kernel
theorem dX5_layOrder_136 : decode cX5_layOrder 136 = .ok (.iload 6, 2) := by decide +kernel
theorem dX5_layOrder_138 : decode cX5_layOrder 138 = .ok (.iconst 1, 1) := by decide +kernel
theorem dX5_layOrder_139 : decode cX5_layOrder 139 = .ok (.isub, 1) := by decide +kernel
theorem dX5_layOrder_140 : decode cX5_layOrder 140 = .ok (.iaload, 1) := by decide +kernel
theorem dX5_layOrder_141 : decode cX5_layOrder 141 = .ok (.imul, 1) := by decide +kernel
theorem dX5_layOrder_142 : decode cX5_layOrder 142 = .ok (.iload_n 1, 1) := by decide +kernel
theorem dX5_layOrder_143 : decode cX5_layOrder 143 = .ok (.iadd, 1) := by decide +kernel
theorem dX5_layOrder_144 : decode cX5_layOrder 144 = .ok (.iaload, 1) := by decide +kernel
theorem dX5_layOrder_145 : decode cX5_layOrder 145 = .ok (.aload_n 0, 1) := by decide +kernel
theorem dX5_layOrder_146 : decode cX5_layOrder 146 = .ok (.getfield 49, 3) := by decide +kernel
theorem dX5_layOrder_149 : decode cX5_layOrder 149 = .ok (.iload 4, 2) := by decide +kernel
theorem dX5_layOrder_151 : decode cX5_layOrder 151 = .ok (.iaload, 1) := by decide +kernel
theorem dX5_layOrder_152 : decode cX5_layOrder 152 = .ok (.if_icmp .le 25, 3) := by decide +kernel
theorem dX5_layOrder_155 : decode cX5_layOrder 155 = .ok (.aload_n 0, 1) := by decide +kernel
theorem dX5_layOrder_156 : decode cX5_layOrder 156 = .ok (.getfield 82, 3) := by decide +kernel
theorem dX5_layOrder_159 : decode cX5_layOrder 159 = .ok (.iload 6, 2) := by decide +kernel
theorem dX5_layOrder_161 : decode cX5_layOrder 161 = .ok (.aload_n 0, 1) := by decide +kernel
theorem dX5_layOrder_162 : decode cX5_layOrder 162 = .ok (.getfield 82, 3) := by decide +kernel
theorem dX5_layOrder_165 : decode cX5_layOrder 165 = .ok (.iload 6, 2) := by decide +kernel
theorem dX5_layOrder_167 : decode cX5_layOrder 167 = .ok (.iconst 1, 1) := by decide +kernel
theorem dX5_layOrder_168 : decode cX5_layOrder 168 = .ok (.isub, 1) := by decide +kernel
theorem dX5_layOrder_169 : decode cX5_layOrder 169 = .ok (.iaload, 1) := by decide +kernel
theorem dX5_layOrder_170 : decode cX5_layOrder 170 = .ok (.iastore, 1) := by decide +kernel
theorem dX5_layOrder_171 : decode cX5_layOrder 171 = .ok (.iinc 6 (-1), 3) := by decide +kernel
theorem dX5_layOrder_174 : decode cX5_layOrder 174 = .ok (.goto (-63), 3) := by decide +kernel
theorem dX5_layOrder_177 : decode cX5_layOrder 177 = .ok (.aload_n 0, 1) := by decide +kernel
theorem dX5_layOrder_178 : decode cX5_layOrder 178 = .ok (.getfield 82, 3) := by decide +kernel
theorem dX5_layOrder_181 : decode cX5_layOrder 181 = .ok (.iload 6, 2) := by decide +kernel
theorem dX5_layOrder_183 : decode cX5_layOrder 183 = .ok (.iload_n 3, 1) := by decide +kernel
theorem dX5_layOrder_184 : decode cX5_layOrder 184 = .ok (.iastore, 1) := by decide +kernel
theorem dX5_layOrder_185 : decode cX5_layOrder 185 = .ok (.iinc 2 1, 3) := by decide +kernel
theorem dX5_layOrder_188 : decode cX5_layOrder 188 = .ok (.iinc 3 1, 3) := by decide +kernel
theorem dX5_layOrder_191 : decode cX5_layOrder 191 = .ok (.goto (-187), 3) := by decide +kernel
theorem dX5_layOrder_194 : decode cX5_layOrder 194 = .ok (.iload_n 2, 1) := by decide +kernel
theorem dX5_layOrder_195 : decode cX5_layOrder 195 = .ok (.ireturn, 1) := by decide +kernel
theorem dX5_getOff_0 : decode cX5_getOff 0 = .ok (.bipush 10, 2) := by decide +kernel
theorem dX5_getOff_2 : decode cX5_getOff 2 = .ok (.iload_n 1, 1) := by decide +kernel
theorem dX5_getOff_3 : decode cX5_getOff 3 = .ok (.imul, 1) := by decide +kernel
theorem dX5_getOff_4 : decode cX5_getOff 4 = .ok (.iload_n 2, 1) := by decide +kernel
theorem dX5_getOff_5 : decode cX5_getOff 5 = .ok (.iadd, 1) := by decide +kernel
theorem dX5_getOff_6 : decode cX5_getOff 6 = .ok (.istore 4, 2) := by decide +kernel
theorem dX5_getOff_8 : decode cX5_getOff 8 = .ok (.iconst 0, 1) := by decide +kernel
theorem dX5_getOff_9 : decode cX5_getOff 9 = .ok (.istore 5, 2) := by decide +kernel
theorem dX5_getOff_11 : decode cX5_getOff 11 = .ok (.aload_n 0, 1) := by decide +kernel
theorem dX5_getOff_12 : decode cX5_getOff 12 = .ok (.getfield 58, 3) := by decide +kernel
theorem dX5_getOff_15 : decode cX5_getOff 15 = .ok (.iload 4, 2) := by decide +kernel
theorem dX5_getOff_17 : decode cX5_getOff 17 = .ok (.aload_n 0, 1) := by decide +kernel
theorem dX5_getOff_18 : decode cX5_getOff 18 = .ok (.getfield 67, 3) := by decide +kernel
theorem dX5_getOff_21 : decode cX5_getOff 21 = .ok (.iload 4, 2) := by decide +kernel
theorem dX5_getOff_23 : decode cX5_getOff 23 = .ok (.iaload, 1) := by decide +kernel
theorem dX5_getOff_24 : decode cX5_getOff 24 = .ok (.iastore, 1) := by decide +kernel
theorem dX5_getOff_25 : decode cX5_getOff 25 = .ok (.iload_n 2, 1) := by decide +kernel
theorem dX5_getOff_26 : decode cX5_getOff 26 = .ok (.istore 6, 2) := by decide +kernel
theorem dX5_getOff_28 : decode cX5_getOff 28 = .ok (.iload 6, 2) := by decide +kernel
theorem dX5_getOff_30 : decode cX5_getOff 30 = .ok (.bipush 10, 2) := by decide +kernel
theorem dX5_getOff_32 : decode cX5_getOff 32 = .ok (.if_icmp .ge 114, 3) := by decide +kernel
theorem dX5_getOff_35 : decode cX5_getOff 35 = .ok (.bipush 10, 2) := by decide +kernel
theorem dX5_getOff_37 : decode cX5_getOff 37 = .ok (.iload_n 1, 1) := by decide +kernel
theorem dX5_getOff_38 : decode cX5_getOff 38 = .ok (.imul, 1) := by decide +kernel
theorem dX5_getOff_39 : decode cX5_getOff 39 = .ok (.iload 6, 2) := by decide +kernel
theorem dX5_getOff_41 : decode cX5_getOff 41 = .ok (.iadd, 1) := by decide +kernel
theorem dX5_getOff_42 : decode cX5_getOff 42 = .ok (.istore 7, 2) := by decide +kernel
theorem dX5_getOff_44 : decode cX5_getOff 44 = .ok (.iload 6, 2) := by decide +kernel
theorem dX5_getOff_46 : decode cX5_getOff 46 = .ok (.iload_n 2, 1) := by decide +kernel
theorem dX5_getOff_47 : decode cX5_getOff 47 = .ok (.if_icmp .eq 7, 3) := by decide +kernel
theorem dX5_getOff_50 : decode cX5_getOff 50 = .ok (.iload_n 3, 1) := by decide +kernel
theorem dX5_getOff_51 : decode cX5_getOff 51 = .ok (.ifCond .eq 89, 3) := by decide +kernel
theorem dX5_getOff_54 : decode cX5_getOff 54 = .ok (.iload 5, 2) := by decide +kernel
theorem dX5_getOff_56 : decode cX5_getOff 56 = .ok (.aload_n 0, 1) := by decide +kernel
theorem dX5_getOff_57 : decode cX5_getOff 57 = .ok (.getfield 67, 3) := by decide +kernel
theorem dX5_getOff_60 : decode cX5_getOff 60 = .ok (.iload 7, 2) := by decide +kernel
theorem dX5_getOff_62 : decode cX5_getOff 62 = .ok (.iaload, 1) := by decide +kernel
theorem dX5_getOff_63 : decode cX5_getOff 63 = .ok (.iadd, 1) := by decide +kernel
theorem dX5_getOff_64 : decode cX5_getOff 64 = .ok (.istore 5, 2) := by decide +kernel
theorem dX5_getOff_66 : decode cX5_getOff 66 = .ok (.aload_n 0, 1) := by decide +kernel
theorem dX5_getOff_67 : decode cX5_getOff 67 = .ok (.dup, 1) := by decide +kernel
theorem dX5_getOff_68 : decode cX5_getOff 68 = .ok (.getfield 112, 3) := by decide +kernel
theorem dX5_getOff_71 : decode cX5_getOff 71 = .ok (.aload_n 0, 1) := by decide +kernel
theorem dX5_getOff_72 : decode cX5_getOff 72 = .ok (.getfield 67, 3) := by decide +kernel
theorem dX5_getOff_75 : decode cX5_getOff 75 = .ok (.iload 7, 2) := by decide +kernel
theorem dX5_getOff_77 : decode cX5_getOff 77 = .ok (.iaload, 1) := by decide +kernel
theorem dX5_getOff_78 : decode cX5_getOff 78 = .ok (.aload_n 0, 1) := by decide +kernel
theorem dX5_getOff_79 : decode cX5_getOff 79 = .ok (.getfield 49, 3) := by decide +kernel
theorem dX5_getOff_82 : decode cX5_getOff 82 = .ok (.iload 4, 2) := by decide +kernel
theorem dX5_getOff_84 : decode cX5_getOff 84 = .ok (.iaload, 1) := by decide +kernel
theorem dX5_getOff_85 : decode cX5_getOff 85 = .ok (.imul, 1) := by decide +kernel
theorem dX5_getOff_86 : decode cX5_getOff 86 = .ok (.aload_n 0, 1) := by decide +kernel
theorem dX5_getOff_87 : decode cX5_getOff 87 = .ok (.getfield 70, 3) := by decide +kernel
theorem dX5_getOff_90 : decode cX5_getOff 90 = .ok (.iload 7, 2) := by decide +kernel
theorem dX5_getOff_92 : decode cX5_getOff 92 = .ok (.iaload, 1) := by decide +kernel
theorem dX5_getOff_93 : decode cX5_getOff 93 = .ok (.isub, 1) := by decide +kernel
theorem dX5_getOff_94 : decode cX5_getOff 94 = .ok (.iadd, 1) := by decide +kernel
theorem dX5_getOff_95 : decode cX5_getOff 95 = .ok (.putfield 112, 3) := by decide +kernel
theorem dX5_getOff_98 : decode cX5_getOff 98 = .ok (.aload_n 0, 1) := by decide +kernel
theorem dX5_getOff_99 : decode cX5_getOff 99 = .ok (.dup, 1) := by decide +kernel
theorem dX5_getOff_100 : decode cX5_getOff 100 = .ok (.getfield 115, 3) := by decide +kernel
theorem dX5_getOff_103 : decode cX5_getOff 103 = .ok (.iload 6, 2) := by decide +kernel
theorem dX5_getOff_105 : decode cX5_getOff 105 = .ok (.iload_n 2, 1) := by decide +kernel
theorem dX5_getOff_106 : decode cX5_getOff 106 = .ok (.if_icmp .ne 7, 3) := by decide +kernel
theorem dX5_getOff_109 : decode cX5_getOff 109 = .ok (.iconst 0, 1) := by decide +kernel
theorem dX5_getOff_110 : decode cX5_getOff 110 = .ok (.goto 10, 3) := by decide +kernel
theorem dX5_getOff_113 : decode cX5_getOff 113 = .ok (.aload_n 0, 1) := by decide +kernel
theorem dX5_getOff_114 : decode cX5_getOff 114 = .ok (.getfield 67, 3) := by decide +kernel
theorem dX5_getOff_117 : decode cX5_getOff 117 = .ok (.iload 7, 2) := by decide +kernel
theorem dX5_getOff_119 : decode cX5_getOff 119 = .ok (.iaload, 1) := by decide +kernel
