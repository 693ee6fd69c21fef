theorem dX5_getOff_120 : decode cX5_getOff 120 = .ok (.iadd, 1) := by decide +kernel
theorem dX5_getOff_121 : decode cX5_getOff 121 = .ok (.putfield 115, 3) := by decide +kernel
theorem dX5_getOff_124 : decode cX5_getOff 124 = .ok (.aload_n 0, 1) := by decide +kernel
theorem dX5_getOff_125 : decode cX5_getOff 125 = .ok (.getfield 67, 3) := by decide +kernel
theorem dX5_getOff_128 : decode cX5_getOff 128 = .ok (.iload 7, 2) := by decide +kernel
theorem dX5_getOff_130 : decode cX5_getOff 130 = .ok (.iconst 0, 1) := by decide +kernel
theorem dX5_getOff_131 : decode cX5_getOff 131 = .ok (.iastore, 1) := by decide +kernel
theorem dX5_getOff_132 : decode cX5_getOff 132 = .ok (.aload_n 0, 1) := by decide +kernel
theorem dX5_getOff_133 : decode cX5_getOff 133 = .ok (.getfield 70, 3) := by decide +kernel
theorem dX5_getOff_136 : decode cX5_getOff 136 = .ok (.iload 7, 2) := by decide +kernel
theorem dX5_getOff_138 : decode cX5_getOff 138 = .ok (.iconst 0, 1) := by decide +kernel
theorem dX5_getOff_139 : decode cX5_getOff 139 = .ok (.iastore, 1) := by decide +kernel
theorem dX5_getOff_140 : decode cX5_getOff 140 = .ok (.iinc 6 1, 3) := by decide +kernel
theorem dX5_getOff_143 : decode cX5_getOff 143 = .ok (.goto (-115), 3) := by decide +kernel
theorem dX5_getOff_146 : decode cX5_getOff 146 = .ok (.iload 5, 2) := by decide +kernel
theorem dX5_getOff_148 : decode cX5_getOff 148 = .ok (.ireturn, 1) := by decide +kernel
theorem dX5_getOn_0 : decode cX5_getOn 0 = .ok (.bipush 10, 2) := by decide +kernel
theorem dX5_getOn_2 : decode cX5_getOn 2 = .ok (.iload_n 1, 1) := by decide +kernel
theorem dX5_getOn_3 : decode cX5_getOn 3 = .ok (.imul, 1) := by decide +kernel
theorem dX5_getOn_4 : decode cX5_getOn 4 = .ok (.iload_n 2, 1) := by decide +kernel
theorem dX5_getOn_5 : decode cX5_getOn 5 = .ok (.iadd, 1) := by decide +kernel
theorem dX5_getOn_6 : decode cX5_getOn 6 = .ok (.istore 4, 2) := by decide +kernel
theorem dX5_getOn_8 : decode cX5_getOn 8 = .ok (.iload_n 2, 1) := by decide +kernel
theorem dX5_getOn_9 : decode cX5_getOn 9 = .ok (.bipush 9, 2) := by decide +kernel
theorem dX5_getOn_11 : decode cX5_getOn 11 = .ok (.if_icmp .eq 12, 3) := by decide +kernel
theorem dX5_getOn_14 : decode cX5_getOn 14 = .ok (.aload_n 0, 1) := by decide +kernel
theorem dX5_getOn_15 : decode cX5_getOn 15 = .ok (.getfield 13, 3) := by decide +kernel
theorem dX5_getOn_18 : decode cX5_getOn 18 = .ok (.iload_n 2, 1) := by decide +kernel
theorem dX5_getOn_19 : decode cX5_getOn 19 = .ok (.iaload, 1) := by decide +kernel
theorem dX5_getOn_20 : decode cX5_getOn 20 = .ok (.ifCond .ne 7, 3) := by decide +kernel
theorem dX5_getOn_23 : decode cX5_getOn 23 = .ok (.iconst 0, 1) := by decide +kernel
theorem dX5_getOn_24 : decode cX5_getOn 24 = .ok (.goto 22, 3) := by decide +kernel
theorem dX5_getOn_27 : decode cX5_getOn 27 = .ok (.aload_n 0, 1) := by decide +kernel
theorem dX5_getOn_28 : decode cX5_getOn 28 = .ok (.getfield 49, 3) := by decide +kernel
theorem dX5_getOn_31 : decode cX5_getOn 31 = .ok (.iload 4, 2) := by decide +kernel
theorem dX5_getOn_33 : decode cX5_getOn 33 = .ok (.iaload, 1) := by decide +kernel
theorem dX5_getOn_34 : decode cX5_getOn 34 = .ok (.aload_n 0, 1) := by decide +kernel
theorem dX5_getOn_35 : decode cX5_getOn 35 = .ok (.getfield 13, 3) := by decide +kernel
theorem dX5_getOn_38 : decode cX5_getOn 38 = .ok (.iload_n 2, 1) := by decide +kernel
theorem dX5_getOn_39 : decode cX5_getOn 39 = .ok (.iaload, 1) := by decide +kernel
theorem dX5_getOn_40 : decode cX5_getOn 40 = .ok (.idiv, 1) := by decide +kernel
theorem dX5_getOn_41 : decode cX5_getOn 41 = .ok (.aload_n 0, 1) := by decide +kernel
theorem dX5_getOn_42 : decode cX5_getOn 42 = .ok (.getfield 118, 3) := by decide +kernel
theorem dX5_getOn_45 : decode cX5_getOn 45 = .ok (.isub, 1) := by decide +kernel
theorem dX5_getOn_46 : decode cX5_getOn 46 = .ok (.istore 5, 2) := by decide +kernel
theorem dX5_getOn_48 : decode cX5_getOn 48 = .ok (.iload 5, 2) := by decide +kernel
theorem dX5_getOn_50 : decode cX5_getOn 50 = .ok (.iload_n 3, 1) := by decide +kernel
theorem dX5_getOn_51 : decode cX5_getOn 51 = .ok (.if_icmp .ge 8, 3) := by decide +kernel
theorem dX5_getOn_54 : decode cX5_getOn 54 = .ok (.iload 5, 2) := by decide +kernel
theorem dX5_getOn_56 : decode cX5_getOn 56 = .ok (.goto 4, 3) := by decide +kernel
theorem dX5_getOn_59 : decode cX5_getOn 59 = .ok (.iload_n 3, 1) := by decide +kernel
theorem dX5_getOn_60 : decode cX5_getOn 60 = .ok (.istore 6, 2) := by decide +kernel
theorem dX5_getOn_62 : decode cX5_getOn 62 = .ok (.aload_n 0, 1) := by decide +kernel
theorem dX5_getOn_63 : decode cX5_getOn 63 = .ok (.getfield 25, 3) := by decide +kernel
theorem dX5_getOn_66 : decode cX5_getOn 66 = .ok (.iload_n 1, 1) := by decide +kernel
theorem dX5_getOn_67 : decode cX5_getOn 67 = .ok (.iaload, 1) := by decide +kernel
theorem dX5_getOn_68 : decode cX5_getOn 68 = .ok (.iload_n 2, 1) := by decide +kernel
theorem dX5_getOn_69 : decode cX5_getOn 69 = .ok (.if_icmp .eq 9, 3) := by decide +kernel
theorem dX5_getOn_72 : decode cX5_getOn 72 = .ok (.iload_n 2, 1) := by decide +kernel
theorem dX5_getOn_73 : decode cX5_getOn 73 = .ok (.bipush 9, 2) := by decide +kernel
theorem dX5_getOn_75 : decode cX5_getOn 75 = .ok (.if_icmp .ne 7, 3) := by decide +kernel
theorem dX5_getOn_78 : decode cX5_getOn 78 = .ok (.iconst 0, 1) := by decide +kernel
theorem dX5_getOn_79 : decode cX5_getOn 79 = .ok (.goto 5, 3) := by decide +kernel
theorem dX5_getOn_82 : decode cX5_getOn 82 = .ok (.iload 6, 2) := by decide +kernel
theorem dX5_getOn_84 : decode cX5_getOn 84 = .ok (.istore 6, 2) := by decide +kernel
theorem dX5_getOn_86 : decode cX5_getOn 86 = .ok (.aload_n 0, 1) := by decide +kernel
theorem dX5_getOn_87 : decode cX5_getOn 87 = .ok (.getfield 64, 3) := by decide +kernel
theorem dX5_getOn_90 : decode cX5_getOn 90 = .ok (.iload 4, 2) := by decide +kernel
theorem dX5_getOn_92 : decode cX5_getOn 92 = .ok (.iload 5, 2) := by decide +kernel
theorem dX5_getOn_94 : decode cX5_getOn 94 = .ok (.iload 6, 2) := by decide +kernel
theorem dX5_getOn_96 : decode cX5_getOn 96 = .ok (.isub, 1) := by decide +kernel
theorem dX5_getOn_97 : decode cX5_getOn 97 = .ok (.iastore, 1) := by decide +kernel
theorem dX5_getOn_98 : decode cX5_getOn 98 = .ok (.aload_n 0, 1) := by decide +kernel
theorem dX5_getOn_99 : decode cX5_getOn 99 = .ok (.getfield 55, 3) := by decide +kernel
theorem dX5_getOn_102 : decode cX5_getOn 102 = .ok (.iload 4, 2) := by decide +kernel
theorem dX5_getOn_104 : decode cX5_getOn 104 = .ok (.iload 6, 2) := by decide +kernel
theorem dX5_getOn_106 : decode cX5_getOn 106 = .ok (.iastore, 1) := by decide +kernel
theorem dX5_getOn_107 : decode cX5_getOn 107 = .ok (.iload 6, 2) := by decide +kernel
theorem dX5_getOn_109 : decode cX5_getOn 109 = .ok (.ifCond .le 194, 3) := by decide +kernel
theorem dX5_getOn_112 : decode cX5_getOn 112 = .ok (.iload_n 2, 1) := by decide +kernel
theorem dX5_getOn_113 : decode cX5_getOn 113 = .ok (.aload_n 0, 1) := by decide +kernel
theorem dX5_getOn_114 : decode cX5_getOn 114 = .ok (.getfield 16, 3) := by decide +kernel
theorem dX5_getOn_117 : decode cX5_getOn 117 = .ok (.iload_n 2, 1) := by decide +kernel
theorem dX5_getOn_118 : decode cX5_getOn 118 = .ok (.iaload, 1) := by decide +kernel
theorem dX5_getOn_119 : decode cX5_getOn 119 = .ok (.iadd, 1) := by decide +kernel
theorem dX5_getOn_120 : decode cX5_getOn 120 = .ok (.bipush 9, 2) := by decide +kernel
theorem dX5_getOn_122 : decode cX5_getOn 122 = .ok (.if_icmp .le 8, 3) := by decide +kernel
theorem dX5_getOn_125 : decode cX5_getOn 125 = .ok (.bipush 9, 2) := by decide +kernel
theorem dX5_getOn_127 : decode cX5_getOn 127 = .ok (.goto 11, 3) := by decide +kernel
theorem dX5_getOn_130 : decode cX5_getOn 130 = .ok (.iload_n 2, 1) := by decide +kernel
theorem dX5_getOn_131 : decode cX5_getOn 131 = .ok (.aload_n 0, 1) := by decide +kernel
theorem dX5_getOn_132 : decode cX5_getOn 132 = .ok (.getfield 16, 3) := by decide +kernel
theorem dX5_getOn_135 : decode cX5_getOn 135 = .ok (.iload_n 2, 1) := by decide +kernel
theorem dX5_getOn_136 : decode cX5_getOn 136 = .ok (.iaload, 1) := by decide +kernel
theorem dX5_getOn_137 : decode cX5_getOn 137 = .ok (.iadd, 1) := by decide +kernel
theorem dX5_getOn_138 : decode cX5_getOn 138 = .ok (.istore 7, 2) := by decide +kernel
theorem dX5_getOn_140 : decode cX5_getOn 140 = .ok (.aload_n 0, 1) := by decide +kernel
theorem dX5_getOn_141 : decode cX5_getOn 141 = .ok (.getfield 67, 3) := by decide +kernel
theorem dX5_getOn_144 : decode cX5_getOn 144 = .ok (.bipush 10, 2) := by decide +kernel
theorem dX5_getOn_146 : decode cX5_getOn 146 = .ok (.iload_n 1, 1) := by decide +kernel
theorem dX5_getOn_147 : decode cX5_getOn 147 = .ok (.imul, 1) := by decide +kernel
theorem dX5_getOn_148 : decode cX5_getOn 148 = .ok (.iload 7, 2) := by decide +kernel
theorem dX5_getOn_150 : decode cX5_getOn 150 = .ok (.iadd, 1) := by decide +kernel
theorem dX5_getOn_151 : decode cX5_getOn 151 = .ok (.dup2, 1) := by decide +kernel
theorem dX5_getOn_152 : decode cX5_getOn 152 = .ok (.iaload, 1) := by decide +kernel
theorem dX5_getOn_153 : decode cX5_getOn 153 = .ok (.iload 6, 2) := by decide +kernel
theorem dX5_getOn_155 : decode cX5_getOn 155 = .ok (.iadd, 1) := by decide +kernel
theorem dX5_getOn_156 : decode cX5_getOn 156 = .ok (.iastore, 1) := by decide +kernel
theorem dX5_getOn_157 : decode cX5_getOn 157 = .ok (.aload_n 0, 1) := by decide +kernel
theorem dX5_getOn_158 : decode cX5_getOn 158 = .ok (.getfield 70, 3) := by decide +kernel
theorem dX5_getOn_161 : decode cX5_getOn 161 = .ok (.bipush 10, 2) := by decide +kernel
theorem dX5_getOn_163 : decode cX5_getOn 163 = .ok (.iload_n 1, 1) := by decide +kernel
theorem dX5_getOn_164 : decode cX5_getOn 164 = .ok (.imul, 1) := by decide +kernel
theorem dX5_getOn_165 : decode cX5_getOn 165 = .ok (.iload 7, 2) := by decide +kernel
theorem dX5_getOn_167 : decode cX5_getOn 167 = .ok (.iadd, 1) := by decide +kernel
theorem dX5_getOn_168 : decode cX5_getOn 168 = .ok (.dup2, 1) := by decide +kernel
theorem dX5_getOn_169 : decode cX5_getOn 169 = .ok (.iaload, 1) := by decide +kernel
theorem dX5_getOn_170 : decode cX5_getOn 170 = .ok (.iload 6, 2) := by decide +kernel
theorem dX5_getOn_172 : decode cX5_getOn 172 = .ok (.aload_n 0, 1) := by decide +kernel
theorem dX5_getOn_173 : decode cX5_getOn 173 = .ok (.getfield 49, 3) := by decide +kernel
theorem dX5_getOn_176 : decode cX5_getOn 176 = .ok (.iload 4, 2) := by decide +kernel
theorem dX5_getOn_178 : decode cX5_getOn 178 = .ok (.iaload, 1) := by decide +kernel
theorem dX5_getOn_179 : decode cX5_getOn 179 = .ok (.imul, 1) := by decide +kernel
theorem dX5_getOn_180 : decode cX5_getOn 180 = .ok (.iadd, 1) := by decide +kernel
theorem dX5_getOn_181 : decode cX5_getOn 181 = .ok (.iastore, 1) := by decide +kernel
theorem dX5_getOn_182 : decode cX5_getOn 182 = .ok (.iload 6, 2) := by decide +kernel
theorem dX5_getOn_184 : decode cX5_getOn 184 = .ok (.aload_n 0, 1) := by decide +kernel
theorem dX5_getOn_185 : decode cX5_getOn 185 = .ok (.getfield 49, 3) := by decide +kernel
theorem dX5_getOn_188 : decode cX5_getOn 188 = .ok (.iload 4, 2) := by decide +kernel
theorem dX5_getOn_190 : decode cX5_getOn 190 = .ok (.iaload, 1) := by decide +kernel
theorem dX5_getOn_191 : decode cX5_getOn 191 = .ok (.imul, 1) := by decide +kernel
theorem dX5_getOn_192 : decode cX5_getOn 192 = .ok (.aload_n 0, 1) := by decide +kernel
theorem dX5_getOn_193 : decode cX5_getOn 193 = .ok (.getfield 13, 3) := by decide +kernel
theorem dX5_getOn_196 : decode cX5_getOn 196 = .ok (.iload_n 2, 1) := by decide +kernel
theorem dX5_getOn_197 : decode cX5_getOn 197 = .ok (.iaload, 1) := by decide +kernel
theorem dX5_getOn_198 : decode cX5_getOn 198 = .ok (.iload 6, 2) := by decide +kernel
theorem dX5_getOn_200 : decode cX5_getOn 200 = .ok (.aload_n 0, 1) := by decide +kernel
theorem dX5_getOn_201 : decode cX5_getOn 201 = .ok (.getfield 118, 3) := by decide +kernel
theorem dX5_getOn_204 : decode cX5_getOn 204 = .ok (.imul, 1) := by decide +kernel
theorem dX5_getOn_205 : decode cX5_getOn 205 = .ok (.iload 6, 2) := by decide +kernel
theorem dX5_getOn_207 : decode cX5_getOn 207 = .ok (.iload 6, 2) := by decide +kernel
theorem dX5_getOn_209 : decode cX5_getOn 209 = .ok (.iconst 1, 1) := by decide +kernel
theorem dX5_getOn_210 : decode cX5_getOn 210 = .ok (.iadd, 1) := by decide +kernel
theorem dX5_getOn_211 : decode cX5_getOn 211 = .ok (.imul, 1) := by decide +kernel
theorem dX5_getOn_212 : decode cX5_getOn 212 = .ok (.iconst 2, 1) := by decide +kernel
theorem dX5_getOn_213 : decode cX5_getOn 213 = .ok (.idiv, 1) := by decide +kernel
theorem dX5_getOn_214 : decode cX5_getOn 214 = .ok (.iadd, 1) := by decide +kernel
theorem dX5_getOn_215 : decode cX5_getOn 215 = .ok (.imul, 1) := by decide +kernel
theorem dX5_getOn_216 : decode cX5_getOn 216 = .ok (.isub, 1) := by decide +kernel
theorem dX5_getOn_217 : decode cX5_getOn 217 = .ok (.istore 8, 2) := by decide +kernel
theorem dX5_getOn_219 : decode cX5_getOn 219 = .ok (.aload_n 0, 1) := by decide +kernel
theorem dX5_getOn_220 : decode cX5_getOn 220 = .ok (.getfield 73, 3) := by decide +kernel
theorem dX5_getOn_223 : decode cX5_getOn 223 = .ok (.iload_n 2, 1) := by decide +kernel
theorem dX5_getOn_224 : decode cX5_getOn 224 = .ok (.dup2, 1) := by decide +kernel
theorem dX5_getOn_225 : decode cX5_getOn 225 = .ok (.iaload, 1) := by decide +kernel
theorem dX5_getOn_226 : decode cX5_getOn 226 = .ok (.iload 6, 2) := by decide +kernel
theorem dX5_getOn_228 : decode cX5_getOn 228 = .ok (.iadd, 1) := by decide +kernel
theorem dX5_getOn_229 : decode cX5_getOn 229 = .ok (.iastore, 1) := by decide +kernel
theorem dX5_getOn_230 : decode cX5_getOn 230 = .ok (.aload_n 0, 1) := by decide +kernel
theorem dX5_getOn_231 : decode cX5_getOn 231 = .ok (.getfield 76, 3) := by decide +kernel
theorem dX5_getOn_234 : decode cX5_getOn 234 = .ok (.iload_n 2, 1) := by decide +kernel
theorem dX5_getOn_235 : decode cX5_getOn 235 = .ok (.dup2, 1) := by decide +kernel
theorem dX5_getOn_236 : decode cX5_getOn 236 = .ok (.iaload, 1) := by decide +kernel
theorem dX5_getOn_237 : decode cX5_getOn 237 = .ok (.iload 8, 2) := by decide +kernel
theorem dX5_getOn_239 : decode cX5_getOn 239 = .ok (.iadd, 1) := by decide +kernel
theorem dX5_getOn_240 : decode cX5_getOn 240 = .ok (.iastore, 1) := by decide +kernel
theorem dX5_getOn_241 : decode cX5_getOn 241 = .ok (.aload_n 0, 1) := by decide +kernel
theorem dX5_getOn_242 : decode cX5_getOn 242 = .ok (.getfield 49, 3) := by decide +kernel
theorem dX5_getOn_245 : decode cX5_getOn 245 = .ok (.iload 4, 2) := by decide +kernel
theorem dX5_getOn_247 : decode cX5_getOn 247 = .ok (.iaload, 1) := by decide +kernel
theorem dX5_getOn_248 : decode cX5_getOn 248 = .ok (.aload_n 0, 1) := by decide +kernel
theorem dX5_getOn_249 : decode cX5_getOn 249 = .ok (.getfield 13, 3) := by decide +kernel
theorem dX5_getOn_252 : decode cX5_getOn 252 = .ok (.iload_n 2, 1) := by decide +kernel
theorem dX5_getOn_253 : decode cX5_getOn 253 = .ok (.iaload, 1) := by decide +kernel
theorem dX5_getOn_254 : decode cX5_getOn 254 = .ok (.aload_n 0, 1) := by decide +kernel
theorem dX5_getOn_255 : decode cX5_getOn 255 = .ok (.getfield 118, 3) := by decide +kernel
theorem dX5_getOn_258 : decode cX5_getOn 258 = .ok (.iconst 1, 1) := by decide +kernel
theorem dX5_getOn_259 : decode cX5_getOn 259 = .ok (.iadd, 1) := by decide +kernel
theorem dX5_getOn_260 : decode cX5_getOn 260 = .ok (.imul, 1) := by decide +kernel
theorem dX5_getOn_261 : decode cX5_getOn 261 = .ok (.isub, 1) := by decide +kernel
theorem dX5_getOn_262 : decode cX5_getOn 262 = .ok (.istore 9, 2) := by decide +kernel
theorem dX5_getOn_264 : decode cX5_getOn 264 = .ok (.aload_n 0, 1) := by decide +kernel
theorem dX5_getOn_265 : decode cX5_getOn 265 = .ok (.getfield 79, 3) := by decide +kernel
theorem dX5_getOn_268 : decode cX5_getOn 268 = .ok (.iload_n 2, 1) := by decide +kernel
theorem dX5_getOn_269 : decode cX5_getOn 269 = .ok (.iload 9, 2) := by decide +kernel
theorem dX5_getOn_271 : decode cX5_getOn 271 = .ok (.aload_n 0, 1) := by decide +kernel
theorem dX5_getOn_272 : decode cX5_getOn 272 = .ok (.getfield 79, 3) := by decide +kernel
theorem dX5_getOn_275 : decode cX5_getOn 275 = .ok (.iload_n 2, 1) := by decide +kernel
theorem dX5_getOn_276 : decode cX5_getOn 276 = .ok (.iaload, 1) := by decide +kernel
theorem dX5_getOn_277 : decode cX5_getOn 277 = .ok (.if_icmp .le 8, 3) := by decide +kernel
theorem dX5_getOn_280 : decode cX5_getOn 280 = .ok (.iload 9, 2) := by decide +kernel
theorem dX5_getOn_282 : decode cX5_getOn 282 = .ok (.goto 9, 3) := by decide +kernel
theorem dX5_getOn_285 : decode cX5_getOn 285 = .ok (.aload_n 0, 1) := by decide +kernel
theorem dX5_getOn_286 : decode cX5_getOn 286 = .ok (.getfield 79, 3) := by decide +kernel
theorem dX5_getOn_289 : decode cX5_getOn 289 = .ok (.iload_n 2, 1) := by decide +kernel
theorem dX5_getOn_290 : decode cX5_getOn 290 = .ok (.iaload, 1) := by decide +kernel
theorem dX5_getOn_291 : decode cX5_getOn 291 = .ok (.iastore, 1) := by decide +kernel
theorem dX5_getOn_292 : decode cX5_getOn 292 = .ok (.aload_n 0, 1) := by decide +kernel
theorem dX5_getOn_293 : decode cX5_getOn 293 = .ok (.dup, 1) := by decide +kernel
theorem dX5_getOn_294 : decode cX5_getOn 294 = .ok (.getfield 118, 3) := by decide +kernel
theorem dX5_getOn_297 : decode cX5_getOn 297 = .ok (.iload 6, 2) := by decide +kernel
theorem dX5_getOn_299 : decode cX5_getOn 299 = .ok (.iadd, 1) := by decide +kernel
theorem dX5_getOn_300 : decode cX5_getOn 300 = .ok (.putfield 118, 3) := by decide +kernel
theorem dX5_getOn_303 : decode cX5_getOn 303 = .ok (.iload 6, 2) := by decide +kernel
theorem dX5_getOn_305 : decode cX5_getOn 305 = .ok (.ireturn, 1) := by decide +kernel
theorem dX5_atStop_0 : decode cX5_atStop 0 = .ok (.aload_n 0, 1) := by decide +kernel
theorem dX5_atStop_1 : decode cX5_atStop 1 = .ok (.iload_n 1, 1) := by decide +kernel
theorem dX5_atStop_2 : decode cX5_atStop 2 = .ok (.invokevirtual 121, 3) := by decide +kernel
theorem dX5_atStop_5 : decode cX5_atStop 5 = .ok (.istore_n 3, 1) := by decide +kernel
theorem dX5_atStop_6 : decode cX5_atStop 6 = .ok (.bipush (-6), 2) := by decide +kernel
theorem dX5_atStop_8 : decode cX5_atStop 8 = .ok (.istore 4, 2) := by decide +kernel
theorem dX5_atStop_10 : decode cX5_atStop 10 = .ok (.bipush (-6), 2) := by decide +kernel
theorem dX5_atStop_12 : decode cX5_atStop 12 = .ok (.istore 5, 2) := by decide +kernel
theorem dX5_atStop_14 : decode cX5_atStop 14 = .ok (.aload_n 0, 1) := by decide +kernel
theorem dX5_atStop_15 : decode cX5_atStop 15 = .ok (.iconst 0, 1) := by decide +kernel
theorem dX5_atStop_16 : decode cX5_atStop 16 = .ok (.putfield 118, 3) := by decide +kernel
theorem dX5_atStop_19 : decode cX5_atStop 19 = .ok (.iconst 0, 1) := by decide +kernel
theorem dX5_atStop_20 : decode cX5_atStop 20 = .ok (.istore 6, 2) := by decide +kernel
theorem dX5_atStop_22 : decode cX5_atStop 22 = .ok (.iload 6, 2) := by decide +kernel
theorem dX5_atStop_24 : decode cX5_atStop 24 = .ok (.iload_n 3, 1) := by decide +kernel
theorem dX5_atStop_25 : decode cX5_atStop 25 = .ok (.if_icmp .ge 388, 3) := by decide +kernel
theorem dX5_atStop_28 : decode cX5_atStop 28 = .ok (.aload_n 0, 1) := by decide +kernel
theorem dX5_atStop_29 : decode cX5_atStop 29 = .ok (.getfield 82, 3) := by decide +kernel
theorem dX5_atStop_32 : decode cX5_atStop 32 = .ok (.iload 6, 2) := by decide +kernel
theorem dX5_atStop_34 : decode cX5_atStop 34 = .ok (.iaload, 1) := by decide +kernel
theorem dX5_atStop_35 : decode cX5_atStop 35 = .ok (.istore 7, 2) := by decide +kernel
theorem dX5_atStop_37 : decode cX5_atStop 37 = .ok (.bipush 10, 2) := by decide +kernel
theorem dX5_atStop_39 : decode cX5_atStop 39 = .ok (.iload 7, 2) := by decide +kernel
theorem dX5_atStop_41 : decode cX5_atStop 41 = .ok (.imul, 1) := by decide +kernel
theorem dX5_atStop_42 : decode cX5_atStop 42 = .ok (.iload_n 1, 1) := by decide +kernel
theorem dX5_atStop_43 : decode cX5_atStop 43 = .ok (.iadd, 1) := by decide +kernel
theorem dX5_atStop_44 : decode cX5_atStop 44 = .ok (.istore 8, 2) := by decide +kernel
theorem dX5_atStop_46 : decode cX5_atStop 46 = .ok (.iload_n 1, 1) := by decide +kernel
theorem dX5_atStop_47 : decode cX5_atStop 47 = .ok (.bipush 9, 2) := by decide +kernel
theorem dX5_atStop_49 : decode cX5_atStop 49 = .ok (.if_icmp .eq 14, 3) := by decide +kernel
theorem dX5_atStop_52 : decode cX5_atStop 52 = .ok (.aload_n 0, 1) := by decide +kernel
theorem dX5_atStop_53 : decode cX5_atStop 53 = .ok (.getfield 25, 3) := by decide +kernel
theorem dX5_atStop_56 : decode cX5_atStop 56 = .ok (.iload 7, 2) := by decide +kernel
theorem dX5_atStop_58 : decode cX5_atStop 58 = .ok (.iaload, 1) := by decide +kernel
theorem dX5_atStop_59 : decode cX5_atStop 59 = .ok (.iload_n 1, 1) := by decide +kernel
theorem dX5_atStop_60 : decode cX5_atStop 60 = .ok (.if_icmp .ne 7, 3) := by decide +kernel
theorem dX5_atStop_63 : decode cX5_atStop 63 = .ok (.iconst 1, 1) := by decide +kernel
theorem dX5_atStop_64 : decode cX5_atStop 64 = .ok (.goto 4, 3) := by decide +kernel
theorem dX5_atStop_67 : decode cX5_atStop 67 = .ok (.iconst 0, 1) := by decide +kernel
theorem dX5_atStop_68 : decode cX5_atStop 68 = .ok (.istore 9, 2) := by decide +kernel
theorem dX5_atStop_70 : decode cX5_atStop 70 = .ok (.aload_n 0, 1) := by decide +kernel
theorem dX5_atStop_71 : decode cX5_atStop 71 = .ok (.getfield 49, 3) := by decide +kernel
theorem dX5_atStop_74 : decode cX5_atStop 74 = .ok (.iload 8, 2) := by decide +kernel
theorem dX5_atStop_76 : decode cX5_atStop 76 = .ok (.aload_n 0, 1) := by decide +kernel
theorem dX5_atStop_77 : decode cX5_atStop 77 = .ok (.getfield 28, 3) := by decide +kernel
theorem dX5_atStop_80 : decode cX5_atStop 80 = .ok (.iconst 3, 1) := by decide +kernel
theorem dX5_atStop_81 : decode cX5_atStop 81 = .ok (.iaload, 1) := by decide +kernel
theorem dX5_atStop_82 : decode cX5_atStop 82 = .ok (.ifCond .ne 20, 3) := by decide +kernel
theorem dX5_atStop_85 : decode cX5_atStop 85 = .ok (.iload 5, 2) := by decide +kernel
theorem dX5_atStop_87 : decode cX5_atStop 87 = .ok (.aload_n 0, 1) := by decide +kernel
theorem dX5_atStop_88 : decode cX5_atStop 88 = .ok (.getfield 49, 3) := by decide +kernel
theorem dX5_atStop_91 : decode cX5_atStop 91 = .ok (.iload 8, 2) := by decide +kernel
theorem dX5_atStop_93 : decode cX5_atStop 93 = .ok (.iaload, 1) := by decide +kernel
theorem dX5_atStop_94 : decode cX5_atStop 94 = .ok (.if_icmp .le 8, 3) := by decide +kernel
theorem dX5_atStop_97 : decode cX5_atStop 97 = .ok (.iload 5, 2) := by decide +kernel
theorem dX5_atStop_99 : decode cX5_atStop 99 = .ok (.goto 10, 3) := by decide +kernel
theorem dX5_atStop_102 : decode cX5_atStop 102 = .ok (.aload_n 0, 1) := by decide +kernel
theorem dX5_atStop_103 : decode cX5_atStop 103 = .ok (.getfield 49, 3) := by decide +kernel
theorem dX5_atStop_106 : decode cX5_atStop 106 = .ok (.iload 8, 2) := by decide +kernel
theorem dX5_atStop_108 : decode cX5_atStop 108 = .ok (.iaload, 1) := by decide +kernel
theorem dX5_atStop_109 : decode cX5_atStop 109 = .ok (.iastore, 1) := by decide +kernel
theorem dX5_atStop_110 : decode cX5_atStop 110 = .ok (.aload_n 0, 1) := by decide +kernel
theorem dX5_atStop_111 : decode cX5_atStop 111 = .ok (.iload 7, 2) := by decide +kernel
theorem dX5_atStop_113 : decode cX5_atStop 113 = .ok (.iload_n 1, 1) := by decide +kernel
theorem dX5_atStop_114 : decode cX5_atStop 114 = .ok (.iload 9, 2) := by decide +kernel
theorem dX5_atStop_116 : decode cX5_atStop 116 = .ok (.invokevirtual 125, 3) := by decide +kernel
theorem dX5_atStop_119 : decode cX5_atStop 119 = .ok (.istore 10, 2) := by decide +kernel
theorem dX5_atStop_121 : decode cX5_atStop 121 = .ok (.iconst 0, 1) := by decide +kernel
theorem dX5_atStop_122 : decode cX5_atStop 122 = .ok (.istore 11, 2) := by decide +kernel
theorem dX5_atStop_124 : decode cX5_atStop 124 = .ok (.iload_n 1, 1) := by decide +kernel
theorem dX5_atStop_125 : decode cX5_atStop 125 = .ok (.iconst 1, 1) := by decide +kernel
theorem dX5_atStop_126 : decode cX5_atStop 126 = .ok (.iadd, 1) := by decide +kernel
theorem dX5_atStop_127 : decode cX5_atStop 127 = .ok (.istore 12, 2) := by decide +kernel
theorem dX5_atStop_129 : decode cX5_atStop 129 = .ok (.iload 12, 2) := by decide +kernel
theorem dX5_atStop_131 : decode cX5_atStop 131 = .ok (.bipush 10, 2) := by decide +kernel
theorem dX5_atStop_133 : decode cX5_atStop 133 = .ok (.if_icmp .ge 27, 3) := by decide +kernel
theorem dX5_atStop_136 : decode cX5_atStop 136 = .ok (.iload 11, 2) := by decide +kernel
theorem dX5_atStop_138 : decode cX5_atStop 138 = .ok (.aload_n 0, 1) := by decide +kernel
theorem dX5_atStop_139 : decode cX5_atStop 139 = .ok (.getfield 67, 3) := by decide +kernel
theorem dX5_atStop_142 : decode cX5_atStop 142 = .ok (.bipush 10, 2) := by decide +kernel
theorem dX5_atStop_144 : decode cX5_atStop 144 = .ok (.iload 7, 2) := by decide +kernel
theorem dX5_atStop_146 : decode cX5_atStop 146 = .ok (.imul, 1) := by decide +kernel
theorem dX5_atStop_147 : decode cX5_atStop 147 = .ok (.iload 12, 2) := by decide +kernel
theorem dX5_atStop_149 : decode cX5_atStop 149 = .ok (.iadd, 1) := by decide +kernel
theorem dX5_atStop_150 : decode cX5_atStop 150 = .ok (.iaload, 1) := by decide +kernel
theorem dX5_atStop_151 : decode cX5_atStop 151 = .ok (.iadd, 1) := by decide +kernel
theorem dX5_atStop_152 : decode cX5_atStop 152 = .ok (.istore 11, 2) := by decide +kernel
theorem dX5_atStop_154 : decode cX5_atStop 154 = .ok (.iinc 12 1, 3) := by decide +kernel
theorem dX5_atStop_157 : decode cX5_atStop 157 = .ok (.goto (-28), 3) := by decide +kernel
theorem dX5_atStop_160 : decode cX5_atStop 160 = .ok (.aload_n 0, 1) := by decide +kernel
theorem dX5_atStop_161 : decode cX5_atStop 161 = .ok (.iload 7, 2) := by decide +kernel
theorem dX5_atStop_163 : decode cX5_atStop 163 = .ok (.iload_n 1, 1) := by decide +kernel
theorem dX5_atStop_164 : decode cX5_atStop 164 = .ok (.aload_n 0, 1) := by decide +kernel
theorem dX5_atStop_165 : decode cX5_atStop 165 = .ok (.getfield 22, 3) := by decide +kernel
theorem dX5_atStop_168 : decode cX5_atStop 168 = .ok (.iload 7, 2) := by decide +kernel
theorem dX5_atStop_170 : decode cX5_atStop 170 = .ok (.iaload, 1) := by decide +kernel
theorem dX5_atStop_171 : decode cX5_atStop 171 = .ok (.iload 11, 2) := by decide +kernel
theorem dX5_atStop_173 : decode cX5_atStop 173 = .ok (.isub, 1) := by decide +kernel
theorem dX5_atStop_174 : decode cX5_atStop 174 = .ok (.invokevirtual 129, 3) := by decide +kernel
theorem dX5_atStop_177 : decode cX5_atStop 177 = .ok (.istore 12, 2) := by decide +kernel
theorem dX5_atStop_179 : decode cX5_atStop 179 = .ok (.aload_n 0, 1) := by decide +kernel
theorem dX5_atStop_180 : decode cX5_atStop 180 = .ok (.getfield 61, 3) := by decide +kernel
theorem dX5_atStop_183 : decode cX5_atStop 183 = .ok (.iload 8, 2) := by decide +kernel
theorem dX5_atStop_185 : decode cX5_atStop 185 = .ok (.iload 11, 2) := by decide +kernel
theorem dX5_atStop_187 : decode cX5_atStop 187 = .ok (.iload 12, 2) := by decide +kernel
theorem dX5_atStop_189 : decode cX5_atStop 189 = .ok (.iadd, 1) := by decide +kernel
theorem dX5_atStop_190 : decode cX5_atStop 190 = .ok (.iastore, 1) := by decide +kernel
theorem dX5_atStop_191 : decode cX5_atStop 191 = .ok (.aload_n 0, 1) := by decide +kernel
theorem dX5_atStop_192 : decode cX5_atStop 192 = .ok (.getfield 49, 3) := by decide +kernel
theorem dX5_atStop_195 : decode cX5_atStop 195 = .ok (.iload 8, 2) := by decide +kernel
theorem dX5_atStop_197 : decode cX5_atStop 197 = .ok (.iaload, 1) := by decide +kernel
theorem dX5_atStop_198 : decode cX5_atStop 198 = .ok (.iload 10, 2) := by decide +kernel
theorem dX5_atStop_200 : decode cX5_atStop 200 = .ok (.iload 12, 2) := by decide +kernel
theorem dX5_atStop_202 : decode cX5_atStop 202 = .ok (.iadd, 1) := by decide +kernel
theorem dX5_atStop_203 : decode cX5_atStop 203 = .ok (.ifCond .le 32, 3) := by decide +kernel
theorem dX5_atStop_206 : decode cX5_atStop 206 = .ok (.aload_n 0, 1) := by decide +kernel
theorem dX5_atStop_207 : decode cX5_atStop 207 = .ok (.getfield 28, 3) := by decide +kernel
theorem dX5_atStop_210 : decode cX5_atStop 210 = .ok (.iconst 0, 1) := by decide +kernel
theorem dX5_atStop_211 : decode cX5_atStop 211 = .ok (.iaload, 1) := by decide +kernel
theorem dX5_atStop_212 : decode cX5_atStop 212 = .ok (.aload_n 0, 1) := by decide +kernel
theorem dX5_atStop_213 : decode cX5_atStop 213 = .ok (.getfield 28, 3) := by decide +kernel
theorem dX5_atStop_216 : decode cX5_atStop 216 = .ok (.iconst 1, 1) := by decide +kernel
theorem dX5_atStop_217 : decode cX5_atStop 217 = .ok (.iaload, 1) := by decide +kernel
theorem dX5_atStop_218 : decode cX5_atStop 218 = .ok (.iload 12, 2) := by decide +kernel
theorem dX5_atStop_220 : decode cX5_atStop 220 = .ok (.imul, 1) := by decide +kernel
theorem dX5_atStop_221 : decode cX5_atStop 221 = .ok (.iadd, 1) := by decide +kernel
theorem dX5_atStop_222 : decode cX5_atStop 222 = .ok (.aload_n 0, 1) := by decide +kernel
theorem dX5_atStop_223 : decode cX5_atStop 223 = .ok (.getfield 28, 3) := by decide +kernel
theorem dX5_atStop_226 : decode cX5_atStop 226 = .ok (.iconst 2, 1) := by decide +kernel
theorem dX5_atStop_227 : decode cX5_atStop 227 = .ok (.iaload, 1) := by decide +kernel
theorem dX5_atStop_228 : decode cX5_atStop 228 = .ok (.iload 10, 2) := by decide +kernel
theorem dX5_atStop_230 : decode cX5_atStop 230 = .ok (.imul, 1) := by decide +kernel
theorem dX5_atStop_231 : decode cX5_atStop 231 = .ok (.iadd, 1) := by decide +kernel
theorem dX5_atStop_232 : decode cX5_atStop 232 = .ok (.goto 4, 3) := by decide +kernel
theorem dX5_atStop_235 : decode cX5_atStop 235 = .ok (.iconst 0, 1) := by decide +kernel
theorem dX5_atStop_236 : decode cX5_atStop 236 = .ok (.iadd, 1) := by decide +kernel
theorem dX5_atStop_237 : decode cX5_atStop 237 = .ok (.iload_n 1, 1) := by decide +kernel
theorem dX5_atStop_238 : decode cX5_atStop 238 = .ok (.bipush 9, 2) := by decide +kernel
theorem dX5_atStop_240 : decode cX5_atStop 240 = .ok (.if_icmp .ne 7, 3) := by decide +kernel
theorem dX5_atStop_243 : decode cX5_atStop 243 = .ok (.iconst 0, 1) := by decide +kernel
theorem dX5_atStop_244 : decode cX5_atStop 244 = .ok (.goto 11, 3) := by decide +kernel
theorem dX5_atStop_247 : decode cX5_atStop 247 = .ok (.aload_n 0, 1) := by decide +kernel
theorem dX5_atStop_248 : decode cX5_atStop 248 = .ok (.iload 7, 2) := by decide +kernel
theorem dX5_atStop_250 : decode cX5_atStop 250 = .ok (.iload_n 1, 1) := by decide +kernel
theorem dX5_atStop_251 : decode cX5_atStop 251 = .ok (.iload_n 2, 1) := by decide +kernel
theorem dX5_atStop_252 : decode cX5_atStop 252 = .ok (.invokevirtual 133, 3) := by decide +kernel
theorem dX5_atStop_255 : decode cX5_atStop 255 = .ok (.iadd, 1) := by decide +kernel
theorem dX5_atStop_256 : decode cX5_atStop 256 = .ok (.istore 13, 2) := by decide +kernel
theorem dX5_atStop_258 : decode cX5_atStop 258 = .ok (.iload 9, 2) := by decide +kernel
theorem dX5_atStop_260 : decode cX5_atStop 260 = .ok (.ifCond .ne 51, 3) := by decide +kernel
theorem dX5_atStop_263 : decode cX5_atStop 263 = .ok (.aload_n 0, 1) := by decide +kernel
theorem dX5_atStop_264 : decode cX5_atStop 264 = .ok (.getfield 43, 3) := by decide +kernel
theorem dX5_atStop_267 : decode cX5_atStop 267 = .ok (.iload_n 1, 1) := by decide +kernel
theorem dX5_atStop_268 : decode cX5_atStop 268 = .ok (.iaload, 1) := by decide +kernel
theorem dX5_atStop_269 : decode cX5_atStop 269 = .ok (.iconst 1, 1) := by decide +kernel
theorem dX5_atStop_270 : decode cX5_atStop 270 = .ok (.if_icmp .ne 41, 3) := by decide +kernel
theorem dX5_atStop_273 : decode cX5_atStop 273 = .ok (.aload_n 0, 1) := by decide +kernel
theorem dX5_atStop_274 : decode cX5_atStop 274 = .ok (.getfield 49, 3) := by decide +kernel
theorem dX5_atStop_277 : decode cX5_atStop 277 = .ok (.bipush 10, 2) := by decide +kernel
theorem dX5_atStop_279 : decode cX5_atStop 279 = .ok (.iload 7, 2) := by decide +kernel
theorem dX5_atStop_281 : decode cX5_atStop 281 = .ok (.imul, 1) := by decide +kernel
theorem dX5_atStop_282 : decode cX5_atStop 282 = .ok (.iaload, 1) := by decide +kernel
theorem dX5_atStop_283 : decode cX5_atStop 283 = .ok (.bipush 10, 2) := by decide +kernel
theorem dX5_atStop_285 : decode cX5_atStop 285 = .ok (.aload_n 0, 1) := by decide +kernel
theorem dX5_atStop_286 : decode cX5_atStop 286 = .ok (.getfield 46, 3) := by decide +kernel
theorem dX5_atStop_289 : decode cX5_atStop 289 = .ok (.iload_n 1, 1) := by decide +kernel
theorem dX5_atStop_290 : decode cX5_atStop 290 = .ok (.iaload, 1) := by decide +kernel
theorem dX5_atStop_291 : decode cX5_atStop 291 = .ok (.imul, 1) := by decide +kernel
theorem dX5_atStop_292 : decode cX5_atStop 292 = .ok (.iadd, 1) := by decide +kernel
theorem dX5_atStop_293 : decode cX5_atStop 293 = .ok (.istore 14, 2) := by decide +kernel
theorem dX5_atStop_295 : decode cX5_atStop 295 = .ok (.iload 14, 2) := by decide +kernel
theorem dX5_atStop_297 : decode cX5_atStop 297 = .ok (.iload 13, 2) := by decide +kernel
theorem dX5_atStop_299 : decode cX5_atStop 299 = .ok (.if_icmp .le 8, 3) := by decide +kernel
theorem dX5_atStop_302 : decode cX5_atStop 302 = .ok (.iload 14, 2) := by decide +kernel
theorem dX5_atStop_304 : decode cX5_atStop 304 = .ok (.goto 5, 3) := by decide +kernel
theorem dX5_atStop_307 : decode cX5_atStop 307 = .ok (.iload 13, 2) := by decide +kernel
theorem dX5_atStop_309 : decode cX5_atStop 309 = .ok (.istore 13, 2) := by decide +kernel
theorem dX5_atStop_311 : decode cX5_atStop 311 = .ok (.iload 9, 2) := by decide +kernel
theorem dX5_atStop_313 : decode cX5_atStop 313 = .ok (.ifCond .ne 48, 3) := by decide +kernel
theorem dX5_atStop_316 : decode cX5_atStop 316 = .ok (.aload_n 0, 1) := by decide +kernel
theorem dX5_atStop_317 : decode cX5_atStop 317 = .ok (.getfield 43, 3) := by decide +kernel
theorem dX5_atStop_320 : decode cX5_atStop 320 = .ok (.iload_n 1, 1) := by decide +kernel
theorem dX5_atStop_321 : decode cX5_atStop 321 = .ok (.iaload, 1) := by decide +kernel
theorem dX5_atStop_322 : decode cX5_atStop 322 = .ok (.iconst 2, 1) := by decide +kernel
theorem dX5_atStop_323 : decode cX5_atStop 323 = .ok (.if_icmp .ne 38, 3) := by decide +kernel
theorem dX5_atStop_326 : decode cX5_atStop 326 = .ok (.iload 4, 2) := by decide +kernel
theorem dX5_atStop_328 : decode cX5_atStop 328 = .ok (.ifCond .lt 33, 3) := by decide +kernel
theorem dX5_atStop_331 : decode cX5_atStop 331 = .ok (.iload 4, 2) := by decide +kernel
theorem dX5_atStop_333 : decode cX5_atStop 333 = .ok (.aload_n 0, 1) := by decide +kernel
theorem dX5_atStop_334 : decode cX5_atStop 334 = .ok (.getfield 46, 3) := by decide +kernel
theorem dX5_atStop_337 : decode cX5_atStop 337 = .ok (.iload_n 1, 1) := by decide +kernel
theorem dX5_atStop_338 : decode cX5_atStop 338 = .ok (.iaload, 1) := by decide +kernel
theorem dX5_atStop_339 : decode cX5_atStop 339 = .ok (.iadd, 1) := by decide +kernel
theorem dX5_atStop_340 : decode cX5_atStop 340 = .ok (.iload 13, 2) := by decide +kernel
theorem dX5_atStop_342 : decode cX5_atStop 342 = .ok (.if_icmp .le 15, 3) := by decide +kernel
theorem dX5_atStop_345 : decode cX5_atStop 345 = .ok (.iload 4, 2) := by decide +kernel
theorem dX5_atStop_347 : decode cX5_atStop 347 = .ok (.aload_n 0, 1) := by decide +kernel
theorem dX5_atStop_348 : decode cX5_atStop 348 = .ok (.getfield 46, 3) := by decide +kernel
theorem dX5_atStop_351 : decode cX5_atStop 351 = .ok (.iload_n 1, 1) := by decide +kernel
theorem dX5_atStop_352 : decode cX5_atStop 352 = .ok (.iaload, 1) := by decide +kernel
theorem dX5_atStop_353 : decode cX5_atStop 353 = .ok (.iadd, 1) := by decide +kernel
theorem dX5_atStop_354 : decode cX5_atStop 354 = .ok (.goto 5, 3) := by decide +kernel
theorem dX5_atStop_357 : decode cX5_atStop 357 = .ok (.iload 13, 2) := by decide +kernel
theorem dX5_atStop_359 : decode cX5_atStop 359 = .ok (.istore 13, 2) := by decide +kernel
theorem dX5_atStop_361 : decode cX5_atStop 361 = .ok (.aload_n 0, 1) := by decide +kernel
theorem dX5_atStop_362 : decode cX5_atStop 362 = .ok (.getfield 52, 3) := by decide +kernel
theorem dX5_atStop_365 : decode cX5_atStop 365 = .ok (.iload 8, 2) := by decide +kernel
theorem dX5_atStop_367 : decode cX5_atStop 367 = .ok (.iload 13, 2) := by decide +kernel
theorem dX5_atStop_369 : decode cX5_atStop 369 = .ok (.iastore, 1) := by decide +kernel
theorem dX5_atStop_370 : decode cX5_atStop 370 = .ok (.iload 13, 2) := by decide +kernel
theorem dX5_atStop_372 : decode cX5_atStop 372 = .ok (.iload 5, 2) := by decide +kernel
theorem dX5_atStop_374 : decode cX5_atStop 374 = .ok (.if_icmp .le 8, 3) := by decide +kernel
theorem dX5_atStop_377 : decode cX5_atStop 377 = .ok (.iload 13, 2) := by decide +kernel
theorem dX5_atStop_379 : decode cX5_atStop 379 = .ok (.goto 5, 3) := by decide +kernel
theorem dX5_atStop_382 : decode cX5_atStop 382 = .ok (.iload 5, 2) := by decide +kernel
theorem dX5_atStop_384 : decode cX5_atStop 384 = .ok (.istore 5, 2) := by decide +kernel
theorem dX5_atStop_386 : decode cX5_atStop 386 = .ok (.iload 9, 2) := by decide +kernel
theorem dX5_atStop_388 : decode cX5_atStop 388 = .ok (.ifCond .ne 15, 3) := by decide +kernel
theorem dX5_atStop_391 : decode cX5_atStop 391 = .ok (.iload 13, 2) := by decide +kernel
theorem dX5_atStop_393 : decode cX5_atStop 393 = .ok (.iload 4, 2) := by decide +kernel
theorem dX5_atStop_395 : decode cX5_atStop 395 = .ok (.if_icmp .le 8, 3) := by decide +kernel
theorem dX5_atStop_398 : decode cX5_atStop 398 = .ok (.iload 13, 2) := by decide +kernel
theorem dX5_atStop_400 : decode cX5_atStop 400 = .ok (.goto 5, 3) := by decide +kernel
theorem dX5_atStop_403 : decode cX5_atStop 403 = .ok (.iload 4, 2) := by decide +kernel
theorem dX5_atStop_405 : decode cX5_atStop 405 = .ok (.istore 4, 2) := by decide +kernel
theorem dX5_atStop_407 : decode cX5_atStop 407 = .ok (.iinc 6 1, 3) := by decide +kernel
theorem dX5_atStop_410 : decode cX5_atStop 410 = .ok (.goto (-388), 3) := by decide +kernel
theorem dX5_atStop_413 : decode cX5_atStop 413 = .ok (.return_, 1) := by decide +kernel
theorem dX5_lay_0 : decode cX5_lay 0 = .ok (.aload_n 0, 1) := by decide +kernel
theorem dX5_lay_1 : decode cX5_lay 1 = .ok (.iconst 0, 1) := by decide +kernel
theorem dX5_lay_2 : decode cX5_lay 2 = .ok (.putfield 112, 3) := by decide +kernel
theorem dX5_lay_5 : decode cX5_lay 5 = .ok (.aload_n 0, 1) := by decide +kernel
theorem dX5_lay_6 : decode cX5_lay 6 = .ok (.iconst 0, 1) := by decide +kernel
theorem dX5_lay_7 : decode cX5_lay 7 = .ok (.putfield 115, 3) := by decide +kernel
theorem dX5_lay_10 : decode cX5_lay 10 = .ok (.iconst 0, 1) := by decide +kernel
theorem dX5_lay_11 : decode cX5_lay 11 = .ok (.istore_n 2, 1) := by decide +kernel
theorem dX5_lay_12 : decode cX5_lay 12 = .ok (.iload_n 2, 1) := by decide +kernel
theorem dX5_lay_13 : decode cX5_lay 13 = .ok (.bipush 80, 2) := by decide +kernel
theorem dX5_lay_15 : decode cX5_lay 15 = .ok (.if_icmp .ge 39, 3) := by decide +kernel
theorem dX5_lay_18 : decode cX5_lay 18 = .ok (.aload_n 0, 1) := by decide +kernel
theorem dX5_lay_19 : decode cX5_lay 19 = .ok (.getfield 49, 3) := by decide +kernel
theorem dX5_lay_22 : decode cX5_lay 22 = .ok (.iload_n 2, 1) := by decide +kernel
theorem dX5_lay_23 : decode cX5_lay 23 = .ok (.bipush (-6), 2) := by decide +kernel
theorem dX5_lay_25 : decode cX5_lay 25 = .ok (.iastore, 1) := by decide +kernel
theorem dX5_lay_26 : decode cX5_lay 26 = .ok (.aload_n 0, 1) := by decide +kernel
theorem dX5_lay_27 : decode cX5_lay 27 = .ok (.getfield 52, 3) := by decide +kernel
theorem dX5_lay_30 : decode cX5_lay 30 = .ok (.iload_n 2, 1) := by decide +kernel
theorem dX5_lay_31 : decode cX5_lay 31 = .ok (.bipush (-6), 2) := by decide +kernel
theorem dX5_lay_33 : decode cX5_lay 33 = .ok (.iastore, 1) := by decide +kernel
theorem dX5_lay_34 : decode cX5_lay 34 = .ok (.aload_n 0, 1) := by decide +kernel
theorem dX5_lay_35 : decode cX5_lay 35 = .ok (.getfield 67, 3) := by decide +kernel
theorem dX5_lay_38 : decode cX5_lay 38 = .ok (.iload_n 2, 1) := by decide +kernel
theorem dX5_lay_39 : decode cX5_lay 39 = .ok (.iconst 0, 1) := by decide +kernel
theorem dX5_lay_40 : decode cX5_lay 40 = .ok (.iastore, 1) := by decide +kernel
theorem dX5_lay_41 : decode cX5_lay 41 = .ok (.aload_n 0, 1) := by decide +kernel
theorem dX5_lay_42 : decode cX5_lay 42 = .ok (.getfield 70, 3) := by decide +kernel
theorem dX5_lay_45 : decode cX5_lay 45 = .ok (.iload_n 2, 1) := by decide +kernel
theorem dX5_lay_46 : decode cX5_lay 46 = .ok (.iconst 0, 1) := by decide +kernel
theorem dX5_lay_47 : decode cX5_lay 47 = .ok (.iastore, 1) := by decide +kernel
theorem dX5_lay_48 : decode cX5_lay 48 = .ok (.iinc 2 1, 3) := by decide +kernel
theorem dX5_lay_51 : decode cX5_lay 51 = .ok (.goto (-39), 3) := by decide +kernel
theorem dX5_lay_54 : decode cX5_lay 54 = .ok (.iconst 0, 1) := by decide +kernel
theorem dX5_lay_55 : decode cX5_lay 55 = .ok (.istore_n 2, 1) := by decide +kernel
theorem dX5_lay_56 : decode cX5_lay 56 = .ok (.iload_n 2, 1) := by decide +kernel
theorem dX5_lay_57 : decode cX5_lay 57 = .ok (.bipush 9, 2) := by decide +kernel
theorem dX5_lay_59 : decode cX5_lay 59 = .ok (.if_icmp .ge 30, 3) := by decide +kernel
theorem dX5_lay_62 : decode cX5_lay 62 = .ok (.aload_n 0, 1) := by decide +kernel
theorem dX5_lay_63 : decode cX5_lay 63 = .ok (.getfield 73, 3) := by decide +kernel
theorem dX5_lay_66 : decode cX5_lay 66 = .ok (.iload_n 2, 1) := by decide +kernel
theorem dX5_lay_67 : decode cX5_lay 67 = .ok (.iconst 0, 1) := by decide +kernel
theorem dX5_lay_68 : decode cX5_lay 68 = .ok (.iastore, 1) := by decide +kernel
theorem dX5_lay_69 : decode cX5_lay 69 = .ok (.aload_n 0, 1) := by decide +kernel
theorem dX5_lay_70 : decode cX5_lay 70 = .ok (.getfield 76, 3) := by decide +kernel
theorem dX5_lay_73 : decode cX5_lay 73 = .ok (.iload_n 2, 1) := by decide +kernel
theorem dX5_lay_74 : decode cX5_lay 74 = .ok (.iconst 0, 1) := by decide +kernel
theorem dX5_lay_75 : decode cX5_lay 75 = .ok (.iastore, 1) := by decide +kernel
theorem dX5_lay_76 : decode cX5_lay 76 = .ok (.aload_n 0, 1) := by decide +kernel
theorem dX5_lay_77 : decode cX5_lay 77 = .ok (.getfield 79, 3) := by decide +kernel
theorem dX5_lay_80 : decode cX5_lay 80 = .ok (.iload_n 2, 1) := by decide +kernel
theorem dX5_lay_81 : decode cX5_lay 81 = .ok (.iconst 0, 1) := by decide +kernel
theorem dX5_lay_82 : decode cX5_lay 82 = .ok (.iastore, 1) := by decide +kernel
theorem dX5_lay_83 : decode cX5_lay 83 = .ok (.iinc 2 1, 3) := by decide +kernel
theorem dX5_lay_86 : decode cX5_lay 86 = .ok (.goto (-30), 3) := by decide +kernel
theorem dX5_lay_89 : decode cX5_lay 89 = .ok (.iconst 0, 1) := by decide +kernel
theorem dX5_lay_90 : decode cX5_lay 90 = .ok (.istore_n 2, 1) := by decide +kernel
theorem dX5_lay_91 : decode cX5_lay 91 = .ok (.iload_n 2, 1) := by decide +kernel
theorem dX5_lay_92 : decode cX5_lay 92 = .ok (.bipush 10, 2) := by decide +kernel
theorem dX5_lay_94 : decode cX5_lay 94 = .ok (.if_icmp .ge 15, 3) := by decide +kernel
theorem dX5_lay_97 : decode cX5_lay 97 = .ok (.aload_n 0, 1) := by decide +kernel
theorem dX5_lay_98 : decode cX5_lay 98 = .ok (.iload_n 2, 1) := by decide +kernel
theorem dX5_lay_99 : decode cX5_lay 99 = .ok (.iload_n 1, 1) := by decide +kernel
theorem dX5_lay_100 : decode cX5_lay 100 = .ok (.invokevirtual 136, 3) := by decide +kernel
theorem dX5_lay_103 : decode cX5_lay 103 = .ok (.iinc 2 1, 3) := by decide +kernel
theorem dX5_lay_106 : decode cX5_lay 106 = .ok (.goto (-15), 3) := by decide +kernel
theorem dX5_lay_109 : decode cX5_lay 109 = .ok (.return_, 1) := by decide +kernel
theorem dX5_at_0 : decode cX5_at 0 = .ok (.aload_n 0, 1) := by decide +kernel
theorem dX5_at_1 : decode cX5_at 1 = .ok (.iload_n 1, 1) := by decide +kernel
theorem dX5_at_2 : decode cX5_at 2 = .ok (.invokevirtual 106, 3) := by decide +kernel
theorem dX5_at_5 : decode cX5_at 5 = .ok (.ifCond .eq 13, 3) := by decide +kernel
theorem dX5_at_8 : decode cX5_at 8 = .ok (.iload_n 2, 1) := by decide +kernel
theorem dX5_at_9 : decode cX5_at 9 = .ok (.iconst 0, 1) := by decide +kernel
theorem dX5_at_10 : decode cX5_at 10 = .ok (.bipush 9, 2) := by decide +kernel
theorem dX5_at_12 : decode cX5_at 12 = .ok (.invokestatic 94, 3) := by decide +kernel
theorem dX5_at_15 : decode cX5_at 15 = .ok (.ifCond .ne 5, 3) := by decide +kernel
theorem dX5_at_18 : decode cX5_at 18 = .ok (.iconst (-1), 1) := by decide +kernel
theorem dX5_at_19 : decode cX5_at 19 = .ok (.ireturn, 1) := by decide +kernel
theorem dX5_at_20 : decode cX5_at 20 = .ok (.iload_n 3, 1) := by decide +kernel
theorem dX5_at_21 : decode cX5_at 21 = .ok (.iconst 0, 1) := by decide +kernel
theorem dX5_at_22 : decode cX5_at 22 = .ok (.iconst 5, 1) := by decide +kernel
theorem dX5_at_23 : decode cX5_at 23 = .ok (.invokestatic 94, 3) := by decide +kernel
theorem dX5_at_26 : decode cX5_at 26 = .ok (.ifCond .ne 6, 3) := by decide +kernel
theorem dX5_at_29 : decode cX5_at 29 = .ok (.bipush (-2), 2) := by decide +kernel
theorem dX5_at_31 : decode cX5_at 31 = .ok (.ireturn, 1) := by decide +kernel
theorem dX5_at_32 : decode cX5_at 32 = .ok (.aload_n 0, 1) := by decide +kernel
theorem dX5_at_33 : decode cX5_at 33 = .ok (.bipush (-6), 2) := by decide +kernel
theorem dX5_at_35 : decode cX5_at 35 = .ok (.invokevirtual 140, 3) := by decide +kernel
theorem dX5_at_38 : decode cX5_at 38 = .ok (.bipush 10, 2) := by decide +kernel
theorem dX5_at_40 : decode cX5_at 40 = .ok (.iload_n 1, 1) := by decide +kernel
theorem dX5_at_41 : decode cX5_at 41 = .ok (.imul, 1) := by decide +kernel
theorem dX5_at_42 : decode cX5_at 42 = .ok (.iload_n 2, 1) := by decide +kernel
theorem dX5_at_43 : decode cX5_at 43 = .ok (.iadd, 1) := by decide +kernel
theorem dX5_at_44 : decode cX5_at 44 = .ok (.istore 4, 2) := by decide +kernel
theorem dX5_at_46 : decode cX5_at 46 = .ok (.aload_n 0, 1) := by decide +kernel
theorem dX5_at_47 : decode cX5_at 47 = .ok (.getfield 49, 3) := by decide +kernel
theorem dX5_at_50 : decode cX5_at 50 = .ok (.iload 4, 2) := by decide +kernel
theorem dX5_at_52 : decode cX5_at 52 = .ok (.iaload, 1) := by decide +kernel
theorem dX5_at_53 : decode cX5_at 53 = .ok (.ifCond .ge 6, 3) := by decide +kernel
theorem dX5_at_56 : decode cX5_at 56 = .ok (.bipush (-6), 2) := by decide +kernel
theorem dX5_at_58 : decode cX5_at 58 = .ok (.ireturn, 1) := by decide +kernel
theorem dX5_at_59 : decode cX5_at 59 = .ok (.iload_n 3, 1) := by decide +kernel
theorem dX5_at_60 : decode cX5_at 60 = .ok (.ifCond .ne 13, 3) := by decide +kernel
theorem dX5_at_63 : decode cX5_at 63 = .ok (.aload_n 0, 1) := by decide +kernel
theorem dX5_at_64 : decode cX5_at 64 = .ok (.getfield 49, 3) := by decide +kernel
theorem dX5_at_67 : decode cX5_at 67 = .ok (.iload 4, 2) := by decide +kernel
theorem dX5_at_69 : decode cX5_at 69 = .ok (.iaload, 1) := by decide +kernel
theorem dX5_at_70 : decode cX5_at 70 = .ok (.goto 70, 3) := by decide +kernel
theorem dX5_at_73 : decode cX5_at 73 = .ok (.iload_n 3, 1) := by decide +kernel
theorem dX5_at_74 : decode cX5_at 74 = .ok (.iconst 1, 1) := by decide +kernel
theorem dX5_at_75 : decode cX5_at 75 = .ok (.if_icmp .ne 13, 3) := by decide +kernel
theorem dX5_at_78 : decode cX5_at 78 = .ok (.aload_n 0, 1) := by decide +kernel
theorem dX5_at_79 : decode cX5_at 79 = .ok (.getfield 52, 3) := by decide +kernel
theorem dX5_at_82 : decode cX5_at 82 = .ok (.iload 4, 2) := by decide +kernel
theorem dX5_at_84 : decode cX5_at 84 = .ok (.iaload, 1) := by decide +kernel
theorem dX5_at_85 : decode cX5_at 85 = .ok (.goto 55, 3) := by decide +kernel
theorem dX5_at_88 : decode cX5_at 88 = .ok (.iload_n 3, 1) := by decide +kernel
theorem dX5_at_89 : decode cX5_at 89 = .ok (.iconst 2, 1) := by decide +kernel
theorem dX5_at_90 : decode cX5_at 90 = .ok (.if_icmp .ne 13, 3) := by decide +kernel
theorem dX5_at_93 : decode cX5_at 93 = .ok (.aload_n 0, 1) := by decide +kernel
theorem dX5_at_94 : decode cX5_at 94 = .ok (.getfield 55, 3) := by decide +kernel
theorem dX5_at_97 : decode cX5_at 97 = .ok (.iload 4, 2) := by decide +kernel
theorem dX5_at_99 : decode cX5_at 99 = .ok (.iaload, 1) := by decide +kernel
theorem dX5_at_100 : decode cX5_at 100 = .ok (.goto 40, 3) := by decide +kernel
theorem dX5_at_103 : decode cX5_at 103 = .ok (.iload_n 3, 1) := by decide +kernel
theorem dX5_at_104 : decode cX5_at 104 = .ok (.iconst 3, 1) := by decide +kernel
theorem dX5_at_105 : decode cX5_at 105 = .ok (.if_icmp .ne 13, 3) := by decide +kernel
theorem dX5_at_108 : decode cX5_at 108 = .ok (.aload_n 0, 1) := by decide +kernel
theorem dX5_at_109 : decode cX5_at 109 = .ok (.getfield 58, 3) := by decide +kernel
theorem dX5_at_112 : decode cX5_at 112 = .ok (.iload 4, 2) := by decide +kernel
theorem dX5_at_114 : decode cX5_at 114 = .ok (.iaload, 1) := by decide +kernel
theorem dX5_at_115 : decode cX5_at 115 = .ok (.goto 25, 3) := by decide +kernel
theorem dX5_at_118 : decode cX5_at 118 = .ok (.iload_n 3, 1) := by decide +kernel
theorem dX5_at_119 : decode cX5_at 119 = .ok (.iconst 4, 1) := by decide +kernel
theorem dX5_at_120 : decode cX5_at 120 = .ok (.if_icmp .ne 13, 3) := by decide +kernel
theorem dX5_at_123 : decode cX5_at 123 = .ok (.aload_n 0, 1) := by decide +kernel
theorem dX5_at_124 : decode cX5_at 124 = .ok (.getfield 61, 3) := by decide +kernel
theorem dX5_at_127 : decode cX5_at 127 = .ok (.iload 4, 2) := by decide +kernel
theorem dX5_at_129 : decode cX5_at 129 = .ok (.iaload, 1) := by decide +kernel
theorem dX5_at_130 : decode cX5_at 130 = .ok (.goto 10, 3) := by decide +kernel
theorem dX5_at_133 : decode cX5_at 133 = .ok (.aload_n 0, 1) := by decide +kernel
theorem dX5_at_134 : decode cX5_at 134 = .ok (.getfield 64, 3) := by decide +kernel
theorem dX5_at_137 : decode cX5_at 137 = .ok (.iload 4, 2) := by decide +kernel
theorem dX5_at_139 : decode cX5_at 139 = .ok (.iaload, 1) := by decide +kernel
theorem dX5_at_140 : decode cX5_at 140 = .ok (.ireturn, 1) := by decide +kernel
theorem dX5_say_0 : decode cX5_say 0 = .ok (.iload_n 1, 1) := by decide +kernel
theorem dX5_say_1 : decode cX5_say 1 = .ok (.bipush 33, 2) := by decide +kernel
theorem dX5_say_3 : decode cX5_say 3 = .ok (.bipush 126, 2) := by decide +kernel
theorem dX5_say_5 : decode cX5_say 5 = .ok (.invokestatic 94, 3) := by decide +kernel
theorem dX5_say_8 : decode cX5_say 8 = .ok (.ifCond .ne 6, 3) := by decide +kernel
theorem dX5_say_11 : decode cX5_say 11 = .ok (.bipush (-2), 2) := by decide +kernel
theorem dX5_say_13 : decode cX5_say 13 = .ok (.ireturn, 1) := by decide +kernel
theorem dX5_say_14 : decode cX5_say 14 = .ok (.aload_n 0, 1) := by decide +kernel
theorem dX5_say_15 : decode cX5_say 15 = .ok (.getfield 144, 3) := by decide +kernel
theorem dX5_say_18 : decode cX5_say 18 = .ok (.bipush 40, 2) := by decide +kernel
theorem dX5_say_20 : decode cX5_say 20 = .ok (.if_icmp .ne 6, 3) := by decide +kernel
theorem dX5_say_23 : decode cX5_say 23 = .ok (.bipush (-4), 2) := by decide +kernel
theorem dX5_say_25 : decode cX5_say 25 = .ok (.ireturn, 1) := by decide +kernel
theorem dX5_say_26 : decode cX5_say 26 = .ok (.aload_n 0, 1) := by decide +kernel
theorem dX5_say_27 : decode cX5_say 27 = .ok (.getfield 40, 3) := by decide +kernel
theorem dX5_say_30 : decode cX5_say 30 = .ok (.aload_n 0, 1) := by decide +kernel
theorem dX5_say_31 : decode cX5_say 31 = .ok (.getfield 144, 3) := by decide +kernel
theorem dX5_say_34 : decode cX5_say 34 = .ok (.iload_n 1, 1) := by decide +kernel
theorem dX5_say_35 : decode cX5_say 35 = .ok (.iastore, 1) := by decide +kernel
theorem dX5_say_36 : decode cX5_say 36 = .ok (.aload_n 0, 1) := by decide +kernel
theorem dX5_say_37 : decode cX5_say 37 = .ok (.dup, 1) := by decide +kernel
theorem dX5_say_38 : decode cX5_say 38 = .ok (.getfield 144, 3) := by decide +kernel
theorem dX5_say_41 : decode cX5_say 41 = .ok (.iconst 1, 1) := by decide +kernel
theorem dX5_say_42 : decode cX5_say 42 = .ok (.iadd, 1) := by decide +kernel
theorem dX5_say_43 : decode cX5_say 43 = .ok (.putfield 144, 3) := by decide +kernel
theorem dX5_say_46 : decode cX5_say 46 = .ok (.aload_n 0, 1) := by decide +kernel
theorem dX5_say_47 : decode cX5_say 47 = .ok (.getfield 144, 3) := by decide +kernel
theorem dX5_say_50 : decode cX5_say 50 = .ok (.ireturn, 1) := by decide +kernel
theorem dX5_wipe_0 : decode cX5_wipe 0 = .ok (.aload_n 0, 1) := by decide +kernel
theorem dX5_wipe_1 : decode cX5_wipe 1 = .ok (.getfield 144, 3) := by decide +kernel
theorem dX5_wipe_4 : decode cX5_wipe 4 = .ok (.istore_n 1, 1) := by decide +kernel
theorem dX5_wipe_5 : decode cX5_wipe 5 = .ok (.aload_n 0, 1) := by decide +kernel
theorem dX5_wipe_6 : decode cX5_wipe 6 = .ok (.iconst 0, 1) := by decide +kernel
theorem dX5_wipe_7 : decode cX5_wipe 7 = .ok (.putfield 144, 3) := by decide +kernel
theorem dX5_wipe_10 : decode cX5_wipe 10 = .ok (.iload_n 1, 1) := by decide +kernel
theorem dX5_wipe_11 : decode cX5_wipe 11 = .ok (.ireturn, 1) := by decide +kernel
theorem dX5_faultOf_0 : decode cX5_faultOf 0 = .ok (.iconst 0, 1) := by decide +kernel
theorem dX5_faultOf_1 : decode cX5_faultOf 1 = .ok (.istore_n 1, 1) := by decide +kernel
theorem dX5_faultOf_2 : decode cX5_faultOf 2 = .ok (.iconst 0, 1) := by decide +kernel
theorem dX5_faultOf_3 : decode cX5_faultOf 3 = .ok (.istore_n 2, 1) := by decide +kernel
theorem dX5_faultOf_4 : decode cX5_faultOf 4 = .ok (.iconst 0, 1) := by decide +kernel
theorem dX5_faultOf_5 : decode cX5_faultOf 5 = .ok (.istore_n 3, 1) := by decide +kernel
theorem dX5_faultOf_6 : decode cX5_faultOf 6 = .ok (.iload_n 3, 1) := by decide +kernel
theorem dX5_faultOf_7 : decode cX5_faultOf 7 = .ok (.aload_n 0, 1) := by decide +kernel
theorem dX5_faultOf_8 : decode cX5_faultOf 8 = .ok (.getfield 144, 3) := by decide +kernel
theorem dX5_faultOf_11 : decode cX5_faultOf 11 = .ok (.if_icmp .ge 148, 3) := by decide +kernel
theorem dX5_faultOf_14 : decode cX5_faultOf 14 = .ok (.aload_n 0, 1) := by decide +kernel
theorem dX5_faultOf_15 : decode cX5_faultOf 15 = .ok (.getfield 40, 3) := by decide +kernel
theorem dX5_faultOf_18 : decode cX5_faultOf 18 = .ok (.iload_n 3, 1) := by decide +kernel
theorem dX5_faultOf_19 : decode cX5_faultOf 19 = .ok (.iaload, 1) := by decide +kernel
theorem dX5_faultOf_20 : decode cX5_faultOf 20 = .ok (.istore 4, 2) := by decide +kernel
theorem dX5_faultOf_22 : decode cX5_faultOf 22 = .ok (.iload 4, 2) := by decide +kernel
theorem dX5_faultOf_24 : decode cX5_faultOf 24 = .ok (.bipush 48, 2) := by decide +kernel
theorem dX5_faultOf_26 : decode cX5_faultOf 26 = .ok (.bipush 57, 2) := by decide +kernel
theorem dX5_faultOf_28 : decode cX5_faultOf 28 = .ok (.invokestatic 94, 3) := by decide +kernel
theorem dX5_faultOf_31 : decode cX5_faultOf 31 = .ok (.istore 5, 2) := by decide +kernel
theorem dX5_faultOf_33 : decode cX5_faultOf 33 = .ok (.bipush (-6), 2) := by decide +kernel
theorem dX5_faultOf_35 : decode cX5_faultOf 35 = .ok (.istore 6, 2) := by decide +kernel
theorem dX5_faultOf_37 : decode cX5_faultOf 37 = .ok (.iload_n 1, 1) := by decide +kernel
theorem dX5_faultOf_38 : decode cX5_faultOf 38 = .ok (.ifCond .ne 36, 3) := by decide +kernel
theorem dX5_faultOf_41 : decode cX5_faultOf 41 = .ok (.iload 5, 2) := by decide +kernel
theorem dX5_faultOf_43 : decode cX5_faultOf 43 = .ok (.ifCond .eq 31, 3) := by decide +kernel
theorem dX5_faultOf_46 : decode cX5_faultOf 46 = .ok (.iload_n 2, 1) := by decide +kernel
theorem dX5_faultOf_47 : decode cX5_faultOf 47 = .ok (.iload 4, 2) := by decide +kernel
theorem dX5_faultOf_49 : decode cX5_faultOf 49 = .ok (.bipush 48, 2) := by decide +kernel
theorem dX5_faultOf_51 : decode cX5_faultOf 51 = .ok (.isub, 1) := by decide +kernel
theorem dX5_faultOf_52 : decode cX5_faultOf 52 = .ok (.ishr, 1) := by decide +kernel
theorem dX5_faultOf_53 : decode cX5_faultOf 53 = .ok (.iconst 1, 1) := by decide +kernel
theorem dX5_faultOf_54 : decode cX5_faultOf 54 = .ok (.iand, 1) := by decide +kernel
theorem dX5_faultOf_55 : decode cX5_faultOf 55 = .ok (.ifCond .ne 19, 3) := by decide +kernel
theorem dX5_faultOf_58 : decode cX5_faultOf 58 = .ok (.iload_n 2, 1) := by decide +kernel
theorem dX5_faultOf_59 : decode cX5_faultOf 59 = .ok (.iconst 1, 1) := by decide +kernel
theorem dX5_faultOf_60 : decode cX5_faultOf 60 = .ok (.iload 4, 2) := by decide +kernel
theorem dX5_faultOf_62 : decode cX5_faultOf 62 = .ok (.bipush 48, 2) := by decide +kernel
theorem dX5_faultOf_64 : decode cX5_faultOf 64 = .ok (.isub, 1) := by decide +kernel
theorem dX5_faultOf_65 : decode cX5_faultOf 65 = .ok (.ishl, 1) := by decide +kernel
theorem dX5_faultOf_66 : decode cX5_faultOf 66 = .ok (.ior, 1) := by decide +kernel
theorem dX5_faultOf_67 : decode cX5_faultOf 67 = .ok (.istore_n 2, 1) := by decide +kernel
theorem dX5_faultOf_68 : decode cX5_faultOf 68 = .ok (.iconst 1, 1) := by decide +kernel
theorem dX5_faultOf_69 : decode cX5_faultOf 69 = .ok (.istore 6, 2) := by decide +kernel
theorem dX5_faultOf_71 : decode cX5_faultOf 71 = .ok (.goto 72, 3) := by decide +kernel
theorem dX5_faultOf_74 : decode cX5_faultOf 74 = .ok (.iload_n 1, 1) := by decide +kernel
theorem dX5_faultOf_75 : decode cX5_faultOf 75 = .ok (.iconst 1, 1) := by decide +kernel
theorem dX5_faultOf_76 : decode cX5_faultOf 76 = .ok (.if_icmp .ne 23, 3) := by decide +kernel
theorem dX5_faultOf_79 : decode cX5_faultOf 79 = .ok (.iload 4, 2) := by decide +kernel
theorem dX5_faultOf_81 : decode cX5_faultOf 81 = .ok (.bipush 99, 2) := by decide +kernel
theorem dX5_faultOf_83 : decode cX5_faultOf 83 = .ok (.if_icmp .eq 10, 3) := by decide +kernel
theorem dX5_faultOf_86 : decode cX5_faultOf 86 = .ok (.iload 4, 2) := by decide +kernel
theorem dX5_faultOf_88 : decode cX5_faultOf 88 = .ok (.bipush 103, 2) := by decide +kernel
theorem dX5_faultOf_90 : decode cX5_faultOf 90 = .ok (.if_icmp .ne 9, 3) := by decide +kernel
theorem dX5_faultOf_93 : decode cX5_faultOf 93 = .ok (.iconst 2, 1) := by decide +kernel
theorem dX5_faultOf_94 : decode cX5_faultOf 94 = .ok (.istore 6, 2) := by decide +kernel
theorem dX5_faultOf_96 : decode cX5_faultOf 96 = .ok (.goto 47, 3) := by decide +kernel
theorem dX5_faultOf_99 : decode cX5_faultOf 99 = .ok (.iload_n 1, 1) := by decide +kernel
theorem dX5_faultOf_100 : decode cX5_faultOf 100 = .ok (.iconst 2, 1) := by decide +kernel
theorem dX5_faultOf_101 : decode cX5_faultOf 101 = .ok (.iconst 4, 1) := by decide +kernel
theorem dX5_faultOf_102 : decode cX5_faultOf 102 = .ok (.invokestatic 94, 3) := by decide +kernel
theorem dX5_faultOf_105 : decode cX5_faultOf 105 = .ok (.ifCond .eq 16, 3) := by decide +kernel
theorem dX5_faultOf_108 : decode cX5_faultOf 108 = .ok (.iload 5, 2) := by decide +kernel
theorem dX5_faultOf_110 : decode cX5_faultOf 110 = .ok (.ifCond .eq 11, 3) := by decide +kernel
theorem dX5_faultOf_113 : decode cX5_faultOf 113 = .ok (.iload_n 1, 1) := by decide +kernel
theorem dX5_faultOf_114 : decode cX5_faultOf 114 = .ok (.iconst 1, 1) := by decide +kernel
theorem dX5_faultOf_115 : decode cX5_faultOf 115 = .ok (.iadd, 1) := by decide +kernel
theorem dX5_faultOf_116 : decode cX5_faultOf 116 = .ok (.istore 6, 2) := by decide +kernel
theorem dX5_faultOf_118 : decode cX5_faultOf 118 = .ok (.goto 25, 3) := by decide +kernel
theorem dX5_faultOf_121 : decode cX5_faultOf 121 = .ok (.iload_n 1, 1) := by decide +kernel
theorem dX5_faultOf_122 : decode cX5_faultOf 122 = .ok (.iconst 2, 1) := by decide +kernel
theorem dX5_faultOf_123 : decode cX5_faultOf 123 = .ok (.if_icmp .le 20, 3) := by decide +kernel
theorem dX5_faultOf_126 : decode cX5_faultOf 126 = .ok (.iload 4, 2) := by decide +kernel
theorem dX5_faultOf_128 : decode cX5_faultOf 128 = .ok (.bipush 59, 2) := by decide +kernel
theorem dX5_faultOf_130 : decode cX5_faultOf 130 = .ok (.if_icmp .ne 13, 3) := by decide +kernel
theorem dX5_faultOf_133 : decode cX5_faultOf 133 = .ok (.iload_n 2, 1) := by decide +kernel
theorem dX5_faultOf_134 : decode cX5_faultOf 134 = .ok (.sipush 1023, 3) := by decide +kernel
theorem dX5_faultOf_137 : decode cX5_faultOf 137 = .ok (.if_icmp .eq 6, 3) := by decide +kernel
theorem dX5_faultOf_140 : decode cX5_faultOf 140 = .ok (.iconst 0, 1) := by decide +kernel
theorem dX5_faultOf_141 : decode cX5_faultOf 141 = .ok (.istore 6, 2) := by decide +kernel
theorem dX5_faultOf_143 : decode cX5_faultOf 143 = .ok (.iload 6, 2) := by decide +kernel
theorem dX5_faultOf_145 : decode cX5_faultOf 145 = .ok (.ifCond .ge 5, 3) := by decide +kernel
theorem dX5_faultOf_148 : decode cX5_faultOf 148 = .ok (.iload_n 3, 1) := by decide +kernel
theorem dX5_faultOf_149 : decode cX5_faultOf 149 = .ok (.ireturn, 1) := by decide +kernel
theorem dX5_faultOf_150 : decode cX5_faultOf 150 = .ok (.iload 6, 2) := by decide +kernel
theorem dX5_faultOf_152 : decode cX5_faultOf 152 = .ok (.istore_n 1, 1) := by decide +kernel
theorem dX5_faultOf_153 : decode cX5_faultOf 153 = .ok (.iinc 3 1, 3) := by decide +kernel
theorem dX5_faultOf_156 : decode cX5_faultOf 156 = .ok (.goto (-150), 3) := by decide +kernel
theorem dX5_faultOf_159 : decode cX5_faultOf 159 = .ok (.iload_n 1, 1) := by decide +kernel
theorem dX5_faultOf_160 : decode cX5_faultOf 160 = .ok (.iconst 2, 1) := by decide +kernel
theorem dX5_faultOf_161 : decode cX5_faultOf 161 = .ok (.if_icmp .le 8, 3) := by decide +kernel
theorem dX5_faultOf_164 : decode cX5_faultOf 164 = .ok (.bipush (-6), 2) := by decide +kernel
theorem dX5_faultOf_166 : decode cX5_faultOf 166 = .ok (.goto 7, 3) := by decide +kernel
theorem dX5_faultOf_169 : decode cX5_faultOf 169 = .ok (.aload_n 0, 1) := by decide +kernel
theorem dX5_faultOf_170 : decode cX5_faultOf 170 = .ok (.getfield 144, 3) := by decide +kernel
theorem dX5_faultOf_173 : decode cX5_faultOf 173 = .ok (.ireturn, 1) := by decide +kernel
theorem dX5_fault_0 : decode cX5_fault 0 = .ok (.aload_n 0, 1) := by decide +kernel
theorem dX5_fault_1 : decode cX5_fault 1 = .ok (.invokevirtual 147, 3) := by decide +kernel
theorem dX5_fault_4 : decode cX5_fault 4 = .ok (.ireturn, 1) := by decide +kernel
theorem dX5_clearRule_0 : decode cX5_clearRule 0 = .ok (.aload_n 0, 1) := by decide +kernel
theorem dX5_clearRule_1 : decode cX5_clearRule 1 = .ok (.iconst 0, 1) := by decide +kernel
theorem dX5_clearRule_2 : decode cX5_clearRule 2 = .ok (.putfield 151, 3) := by decide +kernel
theorem dX5_clearRule_5 : decode cX5_clearRule 5 = .ok (.iconst 0, 1) := by decide +kernel
theorem dX5_clearRule_6 : decode cX5_clearRule 6 = .ok (.istore_n 1, 1) := by decide +kernel
theorem dX5_clearRule_7 : decode cX5_clearRule 7 = .ok (.iload_n 1, 1) := by decide +kernel
theorem dX5_clearRule_8 : decode cX5_clearRule 8 = .ok (.bipush 10, 2) := by decide +kernel
theorem dX5_clearRule_10 : decode cX5_clearRule 10 = .ok (.if_icmp .ge 23, 3) := by decide +kernel
theorem dX5_clearRule_13 : decode cX5_clearRule 13 = .ok (.aload_n 0, 1) := by decide +kernel
theorem dX5_clearRule_14 : decode cX5_clearRule 14 = .ok (.getfield 43, 3) := by decide +kernel
theorem dX5_clearRule_17 : decode cX5_clearRule 17 = .ok (.iload_n 1, 1) := by decide +kernel
theorem dX5_clearRule_18 : decode cX5_clearRule 18 = .ok (.iconst 0, 1) := by decide +kernel
theorem dX5_clearRule_19 : decode cX5_clearRule 19 = .ok (.iastore, 1) := by decide +kernel
theorem dX5_clearRule_20 : decode cX5_clearRule 20 = .ok (.aload_n 0, 1) := by decide +kernel
theorem dX5_clearRule_21 : decode cX5_clearRule 21 = .ok (.getfield 46, 3) := by decide +kernel
theorem dX5_clearRule_24 : decode cX5_clearRule 24 = .ok (.iload_n 1, 1) := by decide +kernel
theorem dX5_clearRule_25 : decode cX5_clearRule 25 = .ok (.iconst 0, 1) := by decide +kernel
theorem dX5_clearRule_26 : decode cX5_clearRule 26 = .ok (.iastore, 1) := by decide +kernel
theorem dX5_clearRule_27 : decode cX5_clearRule 27 = .ok (.iinc 1 1, 3) := by decide +kernel
theorem dX5_clearRule_30 : decode cX5_clearRule 30 = .ok (.goto (-23), 3) := by decide +kernel
theorem dX5_clearRule_33 : decode cX5_clearRule 33 = .ok (.return_, 1) := by decide +kernel
theorem dX5_rule_0 : decode cX5_rule 0 = .ok (.aload_n 0, 1) := by decide +kernel
theorem dX5_rule_1 : decode cX5_rule 1 = .ok (.invokevirtual 147, 3) := by decide +kernel
theorem dX5_rule_4 : decode cX5_rule 4 = .ok (.ifCond .lt 6, 3) := by decide +kernel
theorem dX5_rule_7 : decode cX5_rule 7 = .ok (.bipush (-5), 2) := by decide +kernel
theorem dX5_rule_9 : decode cX5_rule 9 = .ok (.ireturn, 1) := by decide +kernel
theorem dX5_rule_10 : decode cX5_rule 10 = .ok (.aload_n 0, 1) := by decide +kernel
theorem dX5_rule_11 : decode cX5_rule 11 = .ok (.invokevirtual 154, 3) := by decide +kernel
theorem dX5_rule_14 : decode cX5_rule 14 = .ok (.iconst 0, 1) := by decide +kernel
theorem dX5_rule_15 : decode cX5_rule 15 = .ok (.istore_n 1, 1) := by decide +kernel
theorem dX5_rule_16 : decode cX5_rule 16 = .ok (.iload_n 1, 1) := by decide +kernel
theorem dX5_rule_17 : decode cX5_rule 17 = .ok (.aload_n 0, 1) := by decide +kernel
theorem dX5_rule_18 : decode cX5_rule 18 = .ok (.getfield 144, 3) := by decide +kernel
theorem dX5_rule_21 : decode cX5_rule 21 = .ok (.if_icmp .ge 106, 3) := by decide +kernel
theorem dX5_rule_24 : decode cX5_rule 24 = .ok (.aload_n 0, 1) := by decide +kernel
theorem dX5_rule_25 : decode cX5_rule 25 = .ok (.getfield 40, 3) := by decide +kernel
theorem dX5_rule_28 : decode cX5_rule 28 = .ok (.iload_n 1, 1) := by decide +kernel
theorem dX5_rule_29 : decode cX5_rule 29 = .ok (.iaload, 1) := by decide +kernel
theorem dX5_rule_30 : decode cX5_rule 30 = .ok (.bipush 48, 2) := by decide +kernel
theorem dX5_rule_32 : decode cX5_rule 32 = .ok (.isub, 1) := by decide +kernel
theorem dX5_rule_33 : decode cX5_rule 33 = .ok (.istore_n 2, 1) := by decide +kernel
theorem dX5_rule_34 : decode cX5_rule 34 = .ok (.aload_n 0, 1) := by decide +kernel
theorem dX5_rule_35 : decode cX5_rule 35 = .ok (.getfield 43, 3) := by decide +kernel
theorem dX5_rule_38 : decode cX5_rule 38 = .ok (.iload_n 2, 1) := by decide +kernel
theorem dX5_rule_39 : decode cX5_rule 39 = .ok (.aload_n 0, 1) := by decide +kernel
