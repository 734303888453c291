theorem dX11_writeDifference_116 : decode cX11_writeDifference 116 = .ok (.goto 4, 3) := by decide +kernel
theorem dX11_writeDifference_119 : decode cX11_writeDifference 119 = .ok (.iconst 0, 1) := by decide +kernel
theorem dX11_writeDifference_120 : decode cX11_writeDifference 120 = .ok (.if_icmp .eq 13, 3) := by decide +kernel
theorem dX11_writeDifference_123 : decode cX11_writeDifference 123 = .ok (.aload_n 0, 1) := by decide +kernel
theorem dX11_writeDifference_124 : decode cX11_writeDifference 124 = .ok (.iconst 0, 1) := by decide +kernel
theorem dX11_writeDifference_125 : decode cX11_writeDifference 125 = .ok (.putfield 167, 3) := by decide +kernel
theorem dX11_writeDifference_128 : decode cX11_writeDifference 128 = .ok (.aload_n 0, 1) := by decide +kernel
theorem dX11_writeDifference_129 : decode cX11_writeDifference 129 = .ok (.invokevirtual 214, 3) := by decide +kernel
theorem dX11_writeDifference_132 : decode cX11_writeDifference 132 = .ok (.ireturn, 1) := by decide +kernel
theorem dX11_writeDifference_133 : decode cX11_writeDifference 133 = .ok (.iconst 1, 1) := by decide +kernel
theorem dX11_writeDifference_134 : decode cX11_writeDifference 134 = .ok (.istore 5, 2) := by decide +kernel
theorem dX11_writeDifference_136 : decode cX11_writeDifference 136 = .ok (.aload_n 0, 1) := by decide +kernel
theorem dX11_writeDifference_137 : decode cX11_writeDifference 137 = .ok (.getfield 96, 3) := by decide +kernel
theorem dX11_writeDifference_140 : decode cX11_writeDifference 140 = .ok (.iconst 0, 1) := by decide +kernel
theorem dX11_writeDifference_141 : decode cX11_writeDifference 141 = .ok (.iload 4, 2) := by decide +kernel
theorem dX11_writeDifference_143 : decode cX11_writeDifference 143 = .ok (.iastore, 1) := by decide +kernel
theorem dX11_writeDifference_144 : decode cX11_writeDifference 144 = .ok (.aload_n 0, 1) := by decide +kernel
theorem dX11_writeDifference_145 : decode cX11_writeDifference 145 = .ok (.getfield 99, 3) := by decide +kernel
theorem dX11_writeDifference_148 : decode cX11_writeDifference 148 = .ok (.iload 4, 2) := by decide +kernel
theorem dX11_writeDifference_150 : decode cX11_writeDifference 150 = .ok (.iconst 0, 1) := by decide +kernel
theorem dX11_writeDifference_151 : decode cX11_writeDifference 151 = .ok (.iastore, 1) := by decide +kernel
theorem dX11_writeDifference_152 : decode cX11_writeDifference 152 = .ok (.iconst 0, 1) := by decide +kernel
theorem dX11_writeDifference_153 : decode cX11_writeDifference 153 = .ok (.istore 6, 2) := by decide +kernel
theorem dX11_writeDifference_155 : decode cX11_writeDifference 155 = .ok (.iload 6, 2) := by decide +kernel
theorem dX11_writeDifference_157 : decode cX11_writeDifference 157 = .ok (.iload 5, 2) := by decide +kernel
theorem dX11_writeDifference_159 : decode cX11_writeDifference 159 = .ok (.if_icmp .ge 147, 3) := by decide +kernel
theorem dX11_writeDifference_162 : decode cX11_writeDifference 162 = .ok (.iconst 0, 1) := by decide +kernel
theorem dX11_writeDifference_163 : decode cX11_writeDifference 163 = .ok (.istore 7, 2) := by decide +kernel
theorem dX11_writeDifference_165 : decode cX11_writeDifference 165 = .ok (.iload 7, 2) := by decide +kernel
theorem dX11_writeDifference_167 : decode cX11_writeDifference 167 = .ok (.iconst 4, 1) := by decide +kernel
theorem dX11_writeDifference_168 : decode cX11_writeDifference 168 = .ok (.if_icmp .ge 132, 3) := by decide +kernel
theorem dX11_writeDifference_171 : decode cX11_writeDifference 171 = .ok (.aload_n 0, 1) := by decide +kernel
theorem dX11_writeDifference_172 : decode cX11_writeDifference 172 = .ok (.getfield 36, 3) := by decide +kernel
theorem dX11_writeDifference_175 : decode cX11_writeDifference 175 = .ok (.iconst 4, 1) := by decide +kernel
theorem dX11_writeDifference_176 : decode cX11_writeDifference 176 = .ok (.aload_n 0, 1) := by decide +kernel
theorem dX11_writeDifference_177 : decode cX11_writeDifference 177 = .ok (.getfield 96, 3) := by decide +kernel
theorem dX11_writeDifference_180 : decode cX11_writeDifference 180 = .ok (.iload 6, 2) := by decide +kernel
theorem dX11_writeDifference_182 : decode cX11_writeDifference 182 = .ok (.iaload, 1) := by decide +kernel
theorem dX11_writeDifference_183 : decode cX11_writeDifference 183 = .ok (.sipush 256, 3) := by decide +kernel
theorem dX11_writeDifference_186 : decode cX11_writeDifference 186 = .ok (.idiv, 1) := by decide +kernel
theorem dX11_writeDifference_187 : decode cX11_writeDifference 187 = .ok (.imul, 1) := by decide +kernel
theorem dX11_writeDifference_188 : decode cX11_writeDifference 188 = .ok (.iload 7, 2) := by decide +kernel
theorem dX11_writeDifference_190 : decode cX11_writeDifference 190 = .ok (.iadd, 1) := by decide +kernel
theorem dX11_writeDifference_191 : decode cX11_writeDifference 191 = .ok (.iaload, 1) := by decide +kernel
theorem dX11_writeDifference_192 : decode cX11_writeDifference 192 = .ok (.istore 8, 2) := by decide +kernel
theorem dX11_writeDifference_194 : decode cX11_writeDifference 194 = .ok (.aload_n 0, 1) := by decide +kernel
theorem dX11_writeDifference_195 : decode cX11_writeDifference 195 = .ok (.getfield 92, 3) := by decide +kernel
theorem dX11_writeDifference_198 : decode cX11_writeDifference 198 = .ok (.iconst 4, 1) := by decide +kernel
theorem dX11_writeDifference_199 : decode cX11_writeDifference 199 = .ok (.aload_n 0, 1) := by decide +kernel
theorem dX11_writeDifference_200 : decode cX11_writeDifference 200 = .ok (.getfield 96, 3) := by decide +kernel
theorem dX11_writeDifference_203 : decode cX11_writeDifference 203 = .ok (.iload 6, 2) := by decide +kernel
theorem dX11_writeDifference_205 : decode cX11_writeDifference 205 = .ok (.iaload, 1) := by decide +kernel
theorem dX11_writeDifference_206 : decode cX11_writeDifference 206 = .ok (.sipush 256, 3) := by decide +kernel
theorem dX11_writeDifference_209 : decode cX11_writeDifference 209 = .ok (.irem, 1) := by decide +kernel
theorem dX11_writeDifference_210 : decode cX11_writeDifference 210 = .ok (.imul, 1) := by decide +kernel
theorem dX11_writeDifference_211 : decode cX11_writeDifference 211 = .ok (.iload 7, 2) := by decide +kernel
theorem dX11_writeDifference_213 : decode cX11_writeDifference 213 = .ok (.iadd, 1) := by decide +kernel
theorem dX11_writeDifference_214 : decode cX11_writeDifference 214 = .ok (.iaload, 1) := by decide +kernel
theorem dX11_writeDifference_215 : decode cX11_writeDifference 215 = .ok (.istore 9, 2) := by decide +kernel
theorem dX11_writeDifference_217 : decode cX11_writeDifference 217 = .ok (.sipush 256, 3) := by decide +kernel
theorem dX11_writeDifference_220 : decode cX11_writeDifference 220 = .ok (.iload 8, 2) := by decide +kernel
theorem dX11_writeDifference_222 : decode cX11_writeDifference 222 = .ok (.imul, 1) := by decide +kernel
theorem dX11_writeDifference_223 : decode cX11_writeDifference 223 = .ok (.iload 9, 2) := by decide +kernel
theorem dX11_writeDifference_225 : decode cX11_writeDifference 225 = .ok (.iadd, 1) := by decide +kernel
theorem dX11_writeDifference_226 : decode cX11_writeDifference 226 = .ok (.istore 10, 2) := by decide +kernel
theorem dX11_writeDifference_228 : decode cX11_writeDifference 228 = .ok (.iload 10, 2) := by decide +kernel
theorem dX11_writeDifference_230 : decode cX11_writeDifference 230 = .ok (.ifCond .eq 64, 3) := by decide +kernel
theorem dX11_writeDifference_233 : decode cX11_writeDifference 233 = .ok (.aload_n 0, 1) := by decide +kernel
theorem dX11_writeDifference_234 : decode cX11_writeDifference 234 = .ok (.getfield 99, 3) := by decide +kernel
theorem dX11_writeDifference_237 : decode cX11_writeDifference 237 = .ok (.iload 10, 2) := by decide +kernel
theorem dX11_writeDifference_239 : decode cX11_writeDifference 239 = .ok (.iaload, 1) := by decide +kernel
theorem dX11_writeDifference_240 : decode cX11_writeDifference 240 = .ok (.iconst (-1), 1) := by decide +kernel
theorem dX11_writeDifference_241 : decode cX11_writeDifference 241 = .ok (.if_icmp .ne 53, 3) := by decide +kernel
theorem dX11_writeDifference_244 : decode cX11_writeDifference 244 = .ok (.aload_n 0, 1) := by decide +kernel
theorem dX11_writeDifference_245 : decode cX11_writeDifference 245 = .ok (.getfield 99, 3) := by decide +kernel
theorem dX11_writeDifference_248 : decode cX11_writeDifference 248 = .ok (.iload 10, 2) := by decide +kernel
theorem dX11_writeDifference_250 : decode cX11_writeDifference 250 = .ok (.iconst 4, 1) := by decide +kernel
theorem dX11_writeDifference_251 : decode cX11_writeDifference 251 = .ok (.aload_n 0, 1) := by decide +kernel
theorem dX11_writeDifference_252 : decode cX11_writeDifference 252 = .ok (.getfield 96, 3) := by decide +kernel
theorem dX11_writeDifference_255 : decode cX11_writeDifference 255 = .ok (.iload 6, 2) := by decide +kernel
theorem dX11_writeDifference_257 : decode cX11_writeDifference 257 = .ok (.iaload, 1) := by decide +kernel
theorem dX11_writeDifference_258 : decode cX11_writeDifference 258 = .ok (.imul, 1) := by decide +kernel
theorem dX11_writeDifference_259 : decode cX11_writeDifference 259 = .ok (.iload 7, 2) := by decide +kernel
theorem dX11_writeDifference_261 : decode cX11_writeDifference 261 = .ok (.iadd, 1) := by decide +kernel
theorem dX11_writeDifference_262 : decode cX11_writeDifference 262 = .ok (.iastore, 1) := by decide +kernel
theorem dX11_writeDifference_263 : decode cX11_writeDifference 263 = .ok (.aload_n 0, 1) := by decide +kernel
theorem dX11_writeDifference_264 : decode cX11_writeDifference 264 = .ok (.getfield 96, 3) := by decide +kernel
theorem dX11_writeDifference_267 : decode cX11_writeDifference 267 = .ok (.iload 5, 2) := by decide +kernel
theorem dX11_writeDifference_269 : decode cX11_writeDifference 269 = .ok (.iload 10, 2) := by decide +kernel
theorem dX11_writeDifference_271 : decode cX11_writeDifference 271 = .ok (.iastore, 1) := by decide +kernel
theorem dX11_writeDifference_272 : decode cX11_writeDifference 272 = .ok (.iinc 5 1, 3) := by decide +kernel
theorem dX11_writeDifference_275 : decode cX11_writeDifference 275 = .ok (.iload 8, 2) := by decide +kernel
theorem dX11_writeDifference_277 : decode cX11_writeDifference 277 = .ok (.ifCond .eq 8, 3) := by decide +kernel
theorem dX11_writeDifference_280 : decode cX11_writeDifference 280 = .ok (.iload 9, 2) := by decide +kernel
theorem dX11_writeDifference_282 : decode cX11_writeDifference 282 = .ok (.ifCond .ne 12, 3) := by decide +kernel
theorem dX11_writeDifference_285 : decode cX11_writeDifference 285 = .ok (.aload_n 0, 1) := by decide +kernel
theorem dX11_writeDifference_286 : decode cX11_writeDifference 286 = .ok (.iload 4, 2) := by decide +kernel
theorem dX11_writeDifference_288 : decode cX11_writeDifference 288 = .ok (.iload 10, 2) := by decide +kernel
theorem dX11_writeDifference_290 : decode cX11_writeDifference 290 = .ok (.invokevirtual 301, 3) := by decide +kernel
theorem dX11_writeDifference_293 : decode cX11_writeDifference 293 = .ok (.ireturn, 1) := by decide +kernel
theorem dX11_writeDifference_294 : decode cX11_writeDifference 294 = .ok (.iinc 7 1, 3) := by decide +kernel
theorem dX11_writeDifference_297 : decode cX11_writeDifference 297 = .ok (.goto (-132), 3) := by decide +kernel
theorem dX11_writeDifference_300 : decode cX11_writeDifference 300 = .ok (.iinc 6 1, 3) := by decide +kernel
theorem dX11_writeDifference_303 : decode cX11_writeDifference 303 = .ok (.goto (-148), 3) := by decide +kernel
theorem dX11_writeDifference_306 : decode cX11_writeDifference 306 = .ok (.iconst (-1), 1) := by decide +kernel
theorem dX11_writeDifference_307 : decode cX11_writeDifference 307 = .ok (.ireturn, 1) := by decide +kernel
theorem dX11_spellDifference_0 : decode cX11_spellDifference 0 = .ok (.aload_n 0, 1) := by decide +kernel
theorem dX11_spellDifference_1 : decode cX11_spellDifference 1 = .ok (.iconst 0, 1) := by decide +kernel
theorem dX11_spellDifference_2 : decode cX11_spellDifference 2 = .ok (.putfield 167, 3) := by decide +kernel
theorem dX11_spellDifference_5 : decode cX11_spellDifference 5 = .ok (.iload_n 2, 1) := by decide +kernel
theorem dX11_spellDifference_6 : decode cX11_spellDifference 6 = .ok (.istore_n 3, 1) := by decide +kernel
theorem dX11_spellDifference_7 : decode cX11_spellDifference 7 = .ok (.iload_n 3, 1) := by decide +kernel
theorem dX11_spellDifference_8 : decode cX11_spellDifference 8 = .ok (.iload_n 1, 1) := by decide +kernel
theorem dX11_spellDifference_9 : decode cX11_spellDifference 9 = .ok (.if_icmp .eq 25, 3) := by decide +kernel
theorem dX11_spellDifference_12 : decode cX11_spellDifference 12 = .ok (.aload_n 0, 1) := by decide +kernel
theorem dX11_spellDifference_13 : decode cX11_spellDifference 13 = .ok (.dup, 1) := by decide +kernel
theorem dX11_spellDifference_14 : decode cX11_spellDifference 14 = .ok (.getfield 167, 3) := by decide +kernel
theorem dX11_spellDifference_17 : decode cX11_spellDifference 17 = .ok (.iconst 1, 1) := by decide +kernel
theorem dX11_spellDifference_18 : decode cX11_spellDifference 18 = .ok (.iadd, 1) := by decide +kernel
theorem dX11_spellDifference_19 : decode cX11_spellDifference 19 = .ok (.putfield 167, 3) := by decide +kernel
theorem dX11_spellDifference_22 : decode cX11_spellDifference 22 = .ok (.aload_n 0, 1) := by decide +kernel
theorem dX11_spellDifference_23 : decode cX11_spellDifference 23 = .ok (.getfield 99, 3) := by decide +kernel
theorem dX11_spellDifference_26 : decode cX11_spellDifference 26 = .ok (.iload_n 3, 1) := by decide +kernel
theorem dX11_spellDifference_27 : decode cX11_spellDifference 27 = .ok (.iaload, 1) := by decide +kernel
theorem dX11_spellDifference_28 : decode cX11_spellDifference 28 = .ok (.iconst 4, 1) := by decide +kernel
theorem dX11_spellDifference_29 : decode cX11_spellDifference 29 = .ok (.idiv, 1) := by decide +kernel
theorem dX11_spellDifference_30 : decode cX11_spellDifference 30 = .ok (.istore_n 3, 1) := by decide +kernel
theorem dX11_spellDifference_31 : decode cX11_spellDifference 31 = .ok (.goto (-24), 3) := by decide +kernel
theorem dX11_spellDifference_34 : decode cX11_spellDifference 34 = .ok (.aload_n 0, 1) := by decide +kernel
theorem dX11_spellDifference_35 : decode cX11_spellDifference 35 = .ok (.getfield 167, 3) := by decide +kernel
theorem dX11_spellDifference_38 : decode cX11_spellDifference 38 = .ok (.iconst 1, 1) := by decide +kernel
theorem dX11_spellDifference_39 : decode cX11_spellDifference 39 = .ok (.isub, 1) := by decide +kernel
theorem dX11_spellDifference_40 : decode cX11_spellDifference 40 = .ok (.istore_n 3, 1) := by decide +kernel
theorem dX11_spellDifference_41 : decode cX11_spellDifference 41 = .ok (.iload_n 2, 1) := by decide +kernel
theorem dX11_spellDifference_42 : decode cX11_spellDifference 42 = .ok (.istore 4, 2) := by decide +kernel
theorem dX11_spellDifference_44 : decode cX11_spellDifference 44 = .ok (.iload 4, 2) := by decide +kernel
theorem dX11_spellDifference_46 : decode cX11_spellDifference 46 = .ok (.iload_n 1, 1) := by decide +kernel
theorem dX11_spellDifference_47 : decode cX11_spellDifference 47 = .ok (.if_icmp .eq 35, 3) := by decide +kernel
theorem dX11_spellDifference_50 : decode cX11_spellDifference 50 = .ok (.aload_n 0, 1) := by decide +kernel
theorem dX11_spellDifference_51 : decode cX11_spellDifference 51 = .ok (.getfield 33, 3) := by decide +kernel
theorem dX11_spellDifference_54 : decode cX11_spellDifference 54 = .ok (.iload_n 3, 1) := by decide +kernel
theorem dX11_spellDifference_55 : decode cX11_spellDifference 55 = .ok (.aload_n 0, 1) := by decide +kernel
theorem dX11_spellDifference_56 : decode cX11_spellDifference 56 = .ok (.getfield 99, 3) := by decide +kernel
theorem dX11_spellDifference_59 : decode cX11_spellDifference 59 = .ok (.iload 4, 2) := by decide +kernel
theorem dX11_spellDifference_61 : decode cX11_spellDifference 61 = .ok (.iaload, 1) := by decide +kernel
theorem dX11_spellDifference_62 : decode cX11_spellDifference 62 = .ok (.iconst 4, 1) := by decide +kernel
theorem dX11_spellDifference_63 : decode cX11_spellDifference 63 = .ok (.irem, 1) := by decide +kernel
theorem dX11_spellDifference_64 : decode cX11_spellDifference 64 = .ok (.iastore, 1) := by decide +kernel
theorem dX11_spellDifference_65 : decode cX11_spellDifference 65 = .ok (.iinc 3 (-1), 3) := by decide +kernel
theorem dX11_spellDifference_68 : decode cX11_spellDifference 68 = .ok (.aload_n 0, 1) := by decide +kernel
theorem dX11_spellDifference_69 : decode cX11_spellDifference 69 = .ok (.getfield 99, 3) := by decide +kernel
theorem dX11_spellDifference_72 : decode cX11_spellDifference 72 = .ok (.iload 4, 2) := by decide +kernel
theorem dX11_spellDifference_74 : decode cX11_spellDifference 74 = .ok (.iaload, 1) := by decide +kernel
theorem dX11_spellDifference_75 : decode cX11_spellDifference 75 = .ok (.iconst 4, 1) := by decide +kernel
theorem dX11_spellDifference_76 : decode cX11_spellDifference 76 = .ok (.idiv, 1) := by decide +kernel
theorem dX11_spellDifference_77 : decode cX11_spellDifference 77 = .ok (.istore 4, 2) := by decide +kernel
theorem dX11_spellDifference_79 : decode cX11_spellDifference 79 = .ok (.goto (-35), 3) := by decide +kernel
theorem dX11_spellDifference_82 : decode cX11_spellDifference 82 = .ok (.aload_n 0, 1) := by decide +kernel
theorem dX11_spellDifference_83 : decode cX11_spellDifference 83 = .ok (.invokevirtual 214, 3) := by decide +kernel
theorem dX11_spellDifference_86 : decode cX11_spellDifference 86 = .ok (.ireturn, 1) := by decide +kernel
theorem dX11_append_0 : decode cX11_append 0 = .ok (.aload_n 0, 1) := by decide +kernel
theorem dX11_append_1 : decode cX11_append 1 = .ok (.aload_n 0, 1) := by decide +kernel
theorem dX11_append_2 : decode cX11_append 2 = .ok (.iload_n 1, 1) := by decide +kernel
theorem dX11_append_3 : decode cX11_append 3 = .ok (.invokevirtual 180, 3) := by decide +kernel
theorem dX11_append_6 : decode cX11_append 6 = .ok (.i2l, 1) := by decide +kernel
theorem dX11_append_7 : decode cX11_append 7 = .ok (.invokevirtual 238, 3) := by decide +kernel
theorem dX11_append_10 : decode cX11_append 10 = .ok (.iconst 0, 1) := by decide +kernel
theorem dX11_append_11 : decode cX11_append 11 = .ok (.istore_n 3, 1) := by decide +kernel
theorem dX11_append_12 : decode cX11_append 12 = .ok (.iload_n 3, 1) := by decide +kernel
theorem dX11_append_13 : decode cX11_append 13 = .ok (.aload_n 0, 1) := by decide +kernel
theorem dX11_append_14 : decode cX11_append 14 = .ok (.getfield 235, 3) := by decide +kernel
theorem dX11_append_17 : decode cX11_append 17 = .ok (.if_icmp .ge 90, 3) := by decide +kernel
theorem dX11_append_20 : decode cX11_append 20 = .ok (.iconst 0, 1) := by decide +kernel
theorem dX11_append_21 : decode cX11_append 21 = .ok (.istore 4, 2) := by decide +kernel
theorem dX11_append_23 : decode cX11_append 23 = .ok (.iload 4, 2) := by decide +kernel
theorem dX11_append_25 : decode cX11_append 25 = .ok (.iconst 4, 1) := by decide +kernel
theorem dX11_append_26 : decode cX11_append 26 = .ok (.if_icmp .ge 75, 3) := by decide +kernel
theorem dX11_append_29 : decode cX11_append 29 = .ok (.aload_n 0, 1) := by decide +kernel
theorem dX11_append_30 : decode cX11_append 30 = .ok (.iload_n 1, 1) := by decide +kernel
theorem dX11_append_31 : decode cX11_append 31 = .ok (.aload_n 0, 1) := by decide +kernel
theorem dX11_append_32 : decode cX11_append 32 = .ok (.getfield 43, 3) := by decide +kernel
theorem dX11_append_35 : decode cX11_append 35 = .ok (.iload_n 3, 1) := by decide +kernel
theorem dX11_append_36 : decode cX11_append 36 = .ok (.iaload, 1) := by decide +kernel
theorem dX11_append_37 : decode cX11_append 37 = .ok (.iload 4, 2) := by decide +kernel
theorem dX11_append_39 : decode cX11_append 39 = .ok (.invokevirtual 152, 3) := by decide +kernel
theorem dX11_append_42 : decode cX11_append 42 = .ok (.istore 5, 2) := by decide +kernel
theorem dX11_append_44 : decode cX11_append 44 = .ok (.iconst 0, 1) := by decide +kernel
theorem dX11_append_45 : decode cX11_append 45 = .ok (.istore 6, 2) := by decide +kernel
theorem dX11_append_47 : decode cX11_append 47 = .ok (.iload 6, 2) := by decide +kernel
theorem dX11_append_49 : decode cX11_append 49 = .ok (.aload_n 0, 1) := by decide +kernel
theorem dX11_append_50 : decode cX11_append 50 = .ok (.getfield 235, 3) := by decide +kernel
theorem dX11_append_53 : decode cX11_append 53 = .ok (.if_icmp .ge 42, 3) := by decide +kernel
theorem dX11_append_56 : decode cX11_append 56 = .ok (.aload_n 0, 1) := by decide +kernel
theorem dX11_append_57 : decode cX11_append 57 = .ok (.getfield 15, 3) := by decide +kernel
theorem dX11_append_60 : decode cX11_append 60 = .ok (.iconst 4, 1) := by decide +kernel
theorem dX11_append_61 : decode cX11_append 61 = .ok (.iload_n 2, 1) := by decide +kernel
theorem dX11_append_62 : decode cX11_append 62 = .ok (.iload_n 3, 1) := by decide +kernel
theorem dX11_append_63 : decode cX11_append 63 = .ok (.iadd, 1) := by decide +kernel
theorem dX11_append_64 : decode cX11_append 64 = .ok (.imul, 1) := by decide +kernel
theorem dX11_append_65 : decode cX11_append 65 = .ok (.iload 4, 2) := by decide +kernel
theorem dX11_append_67 : decode cX11_append 67 = .ok (.iadd, 1) := by decide +kernel
theorem dX11_append_68 : decode cX11_append 68 = .ok (.dup2, 1) := by decide +kernel
theorem dX11_append_69 : decode cX11_append 69 = .ok (.iaload, 1) := by decide +kernel
theorem dX11_append_70 : decode cX11_append 70 = .ok (.iload 5, 2) := by decide +kernel
theorem dX11_append_72 : decode cX11_append 72 = .ok (.aload_n 0, 1) := by decide +kernel
theorem dX11_append_73 : decode cX11_append 73 = .ok (.getfield 43, 3) := by decide +kernel
theorem dX11_append_76 : decode cX11_append 76 = .ok (.iload 6, 2) := by decide +kernel
theorem dX11_append_78 : decode cX11_append 78 = .ok (.iaload, 1) := by decide +kernel
theorem dX11_append_79 : decode cX11_append 79 = .ok (.ishr, 1) := by decide +kernel
theorem dX11_append_80 : decode cX11_append 80 = .ok (.iconst 1, 1) := by decide +kernel
theorem dX11_append_81 : decode cX11_append 81 = .ok (.iand, 1) := by decide +kernel
theorem dX11_append_82 : decode cX11_append 82 = .ok (.iload_n 2, 1) := by decide +kernel
theorem dX11_append_83 : decode cX11_append 83 = .ok (.iload 6, 2) := by decide +kernel
theorem dX11_append_85 : decode cX11_append 85 = .ok (.iadd, 1) := by decide +kernel
theorem dX11_append_86 : decode cX11_append 86 = .ok (.ishl, 1) := by decide +kernel
theorem dX11_append_87 : decode cX11_append 87 = .ok (.ior, 1) := by decide +kernel
theorem dX11_append_88 : decode cX11_append 88 = .ok (.iastore, 1) := by decide +kernel
theorem dX11_append_89 : decode cX11_append 89 = .ok (.iinc 6 1, 3) := by decide +kernel
theorem dX11_append_92 : decode cX11_append 92 = .ok (.goto (-45), 3) := by decide +kernel
theorem dX11_append_95 : decode cX11_append 95 = .ok (.iinc 4 1, 3) := by decide +kernel
theorem dX11_append_98 : decode cX11_append 98 = .ok (.goto (-75), 3) := by decide +kernel
theorem dX11_append_101 : decode cX11_append 101 = .ok (.iinc 3 1, 3) := by decide +kernel
theorem dX11_append_104 : decode cX11_append 104 = .ok (.goto (-92), 3) := by decide +kernel
theorem dX11_append_107 : decode cX11_append 107 = .ok (.aload_n 0, 1) := by decide +kernel
theorem dX11_append_108 : decode cX11_append 108 = .ok (.getfield 235, 3) := by decide +kernel
theorem dX11_append_111 : decode cX11_append 111 = .ok (.ireturn, 1) := by decide +kernel
theorem dX11_union_0 : decode cX11_union 0 = .ok (.iload_n 1, 1) := by decide +kernel
theorem dX11_union_1 : decode cX11_union 1 = .ok (.invokestatic 135, 3) := by decide +kernel
theorem dX11_union_4 : decode cX11_union 4 = .ok (.ifCond .eq 17, 3) := by decide +kernel
theorem dX11_union_7 : decode cX11_union 7 = .ok (.iload_n 2, 1) := by decide +kernel
theorem dX11_union_8 : decode cX11_union 8 = .ok (.invokestatic 135, 3) := by decide +kernel
theorem dX11_union_11 : decode cX11_union 11 = .ok (.ifCond .eq 10, 3) := by decide +kernel
theorem dX11_union_14 : decode cX11_union 14 = .ok (.iload_n 3, 1) := by decide +kernel
theorem dX11_union_15 : decode cX11_union 15 = .ok (.invokestatic 135, 3) := by decide +kernel
theorem dX11_union_18 : decode cX11_union 18 = .ok (.ifCond .ne 6, 3) := by decide +kernel
theorem dX11_union_21 : decode cX11_union 21 = .ok (.bipush (-2), 2) := by decide +kernel
theorem dX11_union_23 : decode cX11_union 23 = .ok (.ireturn, 1) := by decide +kernel
theorem dX11_union_24 : decode cX11_union 24 = .ok (.aload_n 0, 1) := by decide +kernel
theorem dX11_union_25 : decode cX11_union 25 = .ok (.iload_n 1, 1) := by decide +kernel
theorem dX11_union_26 : decode cX11_union 26 = .ok (.invokevirtual 180, 3) := by decide +kernel
theorem dX11_union_29 : decode cX11_union 29 = .ok (.invokestatic 122, 3) := by decide +kernel
theorem dX11_union_32 : decode cX11_union 32 = .ok (.aload_n 0, 1) := by decide +kernel
theorem dX11_union_33 : decode cX11_union 33 = .ok (.iload_n 2, 1) := by decide +kernel
theorem dX11_union_34 : decode cX11_union 34 = .ok (.invokevirtual 180, 3) := by decide +kernel
theorem dX11_union_37 : decode cX11_union 37 = .ok (.invokestatic 122, 3) := by decide +kernel
theorem dX11_union_40 : decode cX11_union 40 = .ok (.iadd, 1) := by decide +kernel
theorem dX11_union_41 : decode cX11_union 41 = .ok (.bipush 8, 2) := by decide +kernel
theorem dX11_union_43 : decode cX11_union 43 = .ok (.if_icmp .le 6, 3) := by decide +kernel
theorem dX11_union_46 : decode cX11_union 46 = .ok (.bipush (-3), 2) := by decide +kernel
theorem dX11_union_48 : decode cX11_union 48 = .ok (.ireturn, 1) := by decide +kernel
theorem dX11_union_49 : decode cX11_union 49 = .ok (.aload_n 0, 1) := by decide +kernel
theorem dX11_union_50 : decode cX11_union 50 = .ok (.invokevirtual 159, 3) := by decide +kernel
theorem dX11_union_53 : decode cX11_union 53 = .ok (.aload_n 0, 1) := by decide +kernel
theorem dX11_union_54 : decode cX11_union 54 = .ok (.iload_n 1, 1) := by decide +kernel
theorem dX11_union_55 : decode cX11_union 55 = .ok (.iconst 0, 1) := by decide +kernel
theorem dX11_union_56 : decode cX11_union 56 = .ok (.invokevirtual 304, 3) := by decide +kernel
theorem dX11_union_59 : decode cX11_union 59 = .ok (.istore 4, 2) := by decide +kernel
theorem dX11_union_61 : decode cX11_union 61 = .ok (.iload 4, 2) := by decide +kernel
theorem dX11_union_63 : decode cX11_union 63 = .ok (.aload_n 0, 1) := by decide +kernel
theorem dX11_union_64 : decode cX11_union 64 = .ok (.iload_n 2, 1) := by decide +kernel
theorem dX11_union_65 : decode cX11_union 65 = .ok (.iload 4, 2) := by decide +kernel
theorem dX11_union_67 : decode cX11_union 67 = .ok (.invokevirtual 304, 3) := by decide +kernel
theorem dX11_union_70 : decode cX11_union 70 = .ok (.iadd, 1) := by decide +kernel
theorem dX11_union_71 : decode cX11_union 71 = .ok (.istore 4, 2) := by decide +kernel
theorem dX11_union_73 : decode cX11_union 73 = .ok (.aload_n 0, 1) := by decide +kernel
theorem dX11_union_74 : decode cX11_union 74 = .ok (.iload_n 3, 1) := by decide +kernel
theorem dX11_union_75 : decode cX11_union 75 = .ok (.invokevirtual 149, 3) := by decide +kernel
theorem dX11_union_78 : decode cX11_union 78 = .ok (.iload 4, 2) := by decide +kernel
theorem dX11_union_80 : decode cX11_union 80 = .ok (.ireturn, 1) := by decide +kernel
theorem dX11_clearWide_0 : decode cX11_clearWide 0 = .ok (.iconst 0, 1) := by decide +kernel
theorem dX11_clearWide_1 : decode cX11_clearWide 1 = .ok (.istore_n 1, 1) := by decide +kernel
theorem dX11_clearWide_2 : decode cX11_clearWide 2 = .ok (.iload_n 1, 1) := by decide +kernel
theorem dX11_clearWide_3 : decode cX11_clearWide 3 = .ok (.sipush 256, 3) := by decide +kernel
theorem dX11_clearWide_6 : decode cX11_clearWide 6 = .ok (.if_icmp .ge 16, 3) := by decide +kernel
theorem dX11_clearWide_9 : decode cX11_clearWide 9 = .ok (.aload_n 0, 1) := by decide +kernel
theorem dX11_clearWide_10 : decode cX11_clearWide 10 = .ok (.getfield 102, 3) := by decide +kernel
theorem dX11_clearWide_13 : decode cX11_clearWide 13 = .ok (.iload_n 1, 1) := by decide +kernel
theorem dX11_clearWide_14 : decode cX11_clearWide 14 = .ok (.lconst 0, 1) := by decide +kernel
theorem dX11_clearWide_15 : decode cX11_clearWide 15 = .ok (.lastore, 1) := by decide +kernel
theorem dX11_clearWide_16 : decode cX11_clearWide 16 = .ok (.iinc 1 1, 3) := by decide +kernel
theorem dX11_clearWide_19 : decode cX11_clearWide 19 = .ok (.goto (-17), 3) := by decide +kernel
theorem dX11_clearWide_22 : decode cX11_clearWide 22 = .ok (.return_, 1) := by decide +kernel
theorem dX11_wideUnion_0 : decode cX11_wideUnion 0 = .ok (.aload_n 0, 1) := by decide +kernel
theorem dX11_wideUnion_1 : decode cX11_wideUnion 1 = .ok (.getfield 102, 3) := by decide +kernel
theorem dX11_wideUnion_4 : decode cX11_wideUnion 4 = .ok (.iconst 4, 1) := by decide +kernel
theorem dX11_wideUnion_5 : decode cX11_wideUnion 5 = .ok (.iload_n 1, 1) := by decide +kernel
theorem dX11_wideUnion_6 : decode cX11_wideUnion 6 = .ok (.imul, 1) := by decide +kernel
theorem dX11_wideUnion_7 : decode cX11_wideUnion 7 = .ok (.laload, 1) := by decide +kernel
theorem dX11_wideUnion_8 : decode cX11_wideUnion 8 = .ok (.aload_n 0, 1) := by decide +kernel
theorem dX11_wideUnion_9 : decode cX11_wideUnion 9 = .ok (.getfield 102, 3) := by decide +kernel
theorem dX11_wideUnion_12 : decode cX11_wideUnion 12 = .ok (.iconst 4, 1) := by decide +kernel
theorem dX11_wideUnion_13 : decode cX11_wideUnion 13 = .ok (.iload_n 1, 1) := by decide +kernel
theorem dX11_wideUnion_14 : decode cX11_wideUnion 14 = .ok (.imul, 1) := by decide +kernel
theorem dX11_wideUnion_15 : decode cX11_wideUnion 15 = .ok (.iconst 1, 1) := by decide +kernel
theorem dX11_wideUnion_16 : decode cX11_wideUnion 16 = .ok (.iadd, 1) := by decide +kernel
theorem dX11_wideUnion_17 : decode cX11_wideUnion 17 = .ok (.laload, 1) := by decide +kernel
theorem dX11_wideUnion_18 : decode cX11_wideUnion 18 = .ok (.lor, 1) := by decide +kernel
theorem dX11_wideUnion_19 : decode cX11_wideUnion 19 = .ok (.aload_n 0, 1) := by decide +kernel
theorem dX11_wideUnion_20 : decode cX11_wideUnion 20 = .ok (.getfield 102, 3) := by decide +kernel
theorem dX11_wideUnion_23 : decode cX11_wideUnion 23 = .ok (.iconst 4, 1) := by decide +kernel
theorem dX11_wideUnion_24 : decode cX11_wideUnion 24 = .ok (.iload_n 1, 1) := by decide +kernel
theorem dX11_wideUnion_25 : decode cX11_wideUnion 25 = .ok (.imul, 1) := by decide +kernel
theorem dX11_wideUnion_26 : decode cX11_wideUnion 26 = .ok (.iconst 2, 1) := by decide +kernel
theorem dX11_wideUnion_27 : decode cX11_wideUnion 27 = .ok (.iadd, 1) := by decide +kernel
theorem dX11_wideUnion_28 : decode cX11_wideUnion 28 = .ok (.laload, 1) := by decide +kernel
theorem dX11_wideUnion_29 : decode cX11_wideUnion 29 = .ok (.lor, 1) := by decide +kernel
theorem dX11_wideUnion_30 : decode cX11_wideUnion 30 = .ok (.aload_n 0, 1) := by decide +kernel
theorem dX11_wideUnion_31 : decode cX11_wideUnion 31 = .ok (.getfield 102, 3) := by decide +kernel
theorem dX11_wideUnion_34 : decode cX11_wideUnion 34 = .ok (.iconst 4, 1) := by decide +kernel
theorem dX11_wideUnion_35 : decode cX11_wideUnion 35 = .ok (.iload_n 1, 1) := by decide +kernel
theorem dX11_wideUnion_36 : decode cX11_wideUnion 36 = .ok (.imul, 1) := by decide +kernel
theorem dX11_wideUnion_37 : decode cX11_wideUnion 37 = .ok (.iconst 3, 1) := by decide +kernel
theorem dX11_wideUnion_38 : decode cX11_wideUnion 38 = .ok (.iadd, 1) := by decide +kernel
theorem dX11_wideUnion_39 : decode cX11_wideUnion 39 = .ok (.laload, 1) := by decide +kernel
theorem dX11_wideUnion_40 : decode cX11_wideUnion 40 = .ok (.lor, 1) := by decide +kernel
theorem dX11_wideUnion_41 : decode cX11_wideUnion 41 = .ok (.lreturn, 1) := by decide +kernel
theorem dX11_wideEssential_0 : decode cX11_wideEssential 0 = .ok (.ldc2_w 307, 3) := by decide +kernel
theorem dX11_wideEssential_3 : decode cX11_wideEssential 3 = .ok (.lstore_n 1, 1) := by decide +kernel
theorem dX11_wideEssential_4 : decode cX11_wideEssential 4 = .ok (.lconst 0, 1) := by decide +kernel
theorem dX11_wideEssential_5 : decode cX11_wideEssential 5 = .ok (.lstore_n 3, 1) := by decide +kernel
theorem dX11_wideEssential_6 : decode cX11_wideEssential 6 = .ok (.lload_n 1, 1) := by decide +kernel
theorem dX11_wideEssential_7 : decode cX11_wideEssential 7 = .ok (.lload_n 3, 1) := by decide +kernel
theorem dX11_wideEssential_8 : decode cX11_wideEssential 8 = .ok (.lcmp, 1) := by decide +kernel
theorem dX11_wideEssential_9 : decode cX11_wideEssential 9 = .ok (.ifCond .eq 86, 3) := by decide +kernel
theorem dX11_wideEssential_12 : decode cX11_wideEssential 12 = .ok (.lload_n 1, 1) := by decide +kernel
theorem dX11_wideEssential_13 : decode cX11_wideEssential 13 = .ok (.lstore_n 3, 1) := by decide +kernel
theorem dX11_wideEssential_14 : decode cX11_wideEssential 14 = .ok (.lconst 0, 1) := by decide +kernel
theorem dX11_wideEssential_15 : decode cX11_wideEssential 15 = .ok (.lstore 5, 2) := by decide +kernel
theorem dX11_wideEssential_17 : decode cX11_wideEssential 17 = .ok (.lconst 0, 1) := by decide +kernel
theorem dX11_wideEssential_18 : decode cX11_wideEssential 18 = .ok (.lstore 7, 2) := by decide +kernel
theorem dX11_wideEssential_20 : decode cX11_wideEssential 20 = .ok (.iconst 0, 1) := by decide +kernel
theorem dX11_wideEssential_21 : decode cX11_wideEssential 21 = .ok (.istore 9, 2) := by decide +kernel
theorem dX11_wideEssential_23 : decode cX11_wideEssential 23 = .ok (.iload 9, 2) := by decide +kernel
theorem dX11_wideEssential_25 : decode cX11_wideEssential 25 = .ok (.bipush 64, 2) := by decide +kernel
theorem dX11_wideEssential_27 : decode cX11_wideEssential 27 = .ok (.if_icmp .ge 57, 3) := by decide +kernel
theorem dX11_wideEssential_30 : decode cX11_wideEssential 30 = .ok (.lload_n 1, 1) := by decide +kernel
theorem dX11_wideEssential_31 : decode cX11_wideEssential 31 = .ok (.iload 9, 2) := by decide +kernel
theorem dX11_wideEssential_33 : decode cX11_wideEssential 33 = .ok (.lshr, 1) := by decide +kernel
theorem dX11_wideEssential_34 : decode cX11_wideEssential 34 = .ok (.lconst 1, 1) := by decide +kernel
theorem dX11_wideEssential_35 : decode cX11_wideEssential 35 = .ok (.land, 1) := by decide +kernel
theorem dX11_wideEssential_36 : decode cX11_wideEssential 36 = .ok (.lconst 1, 1) := by decide +kernel
theorem dX11_wideEssential_37 : decode cX11_wideEssential 37 = .ok (.lcmp, 1) := by decide +kernel
theorem dX11_wideEssential_38 : decode cX11_wideEssential 38 = .ok (.ifCond .ne 40, 3) := by decide +kernel
theorem dX11_wideEssential_41 : decode cX11_wideEssential 41 = .ok (.lload 5, 2) := by decide +kernel
theorem dX11_wideEssential_43 : decode cX11_wideEssential 43 = .ok (.aload_n 0, 1) := by decide +kernel
theorem dX11_wideEssential_44 : decode cX11_wideEssential 44 = .ok (.iload 9, 2) := by decide +kernel
theorem dX11_wideEssential_46 : decode cX11_wideEssential 46 = .ok (.invokevirtual 309, 3) := by decide +kernel
theorem dX11_wideEssential_49 : decode cX11_wideEssential 49 = .ok (.lor, 1) := by decide +kernel
theorem dX11_wideEssential_50 : decode cX11_wideEssential 50 = .ok (.lstore 5, 2) := by decide +kernel
theorem dX11_wideEssential_52 : decode cX11_wideEssential 52 = .ok (.lload 7, 2) := by decide +kernel
theorem dX11_wideEssential_54 : decode cX11_wideEssential 54 = .ok (.aload_n 0, 1) := by decide +kernel
theorem dX11_wideEssential_55 : decode cX11_wideEssential 55 = .ok (.iload 9, 2) := by decide +kernel
theorem dX11_wideEssential_57 : decode cX11_wideEssential 57 = .ok (.invokevirtual 309, 3) := by decide +kernel
theorem dX11_wideEssential_60 : decode cX11_wideEssential 60 = .ok (.lload_n 1, 1) := by decide +kernel
theorem dX11_wideEssential_61 : decode cX11_wideEssential 61 = .ok (.land, 1) := by decide +kernel
theorem dX11_wideEssential_62 : decode cX11_wideEssential 62 = .ok (.lconst 0, 1) := by decide +kernel
theorem dX11_wideEssential_63 : decode cX11_wideEssential 63 = .ok (.lcmp, 1) := by decide +kernel
theorem dX11_wideEssential_64 : decode cX11_wideEssential 64 = .ok (.ifCond .eq 10, 3) := by decide +kernel
theorem dX11_wideEssential_67 : decode cX11_wideEssential 67 = .ok (.lconst 1, 1) := by decide +kernel
theorem dX11_wideEssential_68 : decode cX11_wideEssential 68 = .ok (.iload 9, 2) := by decide +kernel
theorem dX11_wideEssential_70 : decode cX11_wideEssential 70 = .ok (.lshl, 1) := by decide +kernel
theorem dX11_wideEssential_71 : decode cX11_wideEssential 71 = .ok (.goto 4, 3) := by decide +kernel
theorem dX11_wideEssential_74 : decode cX11_wideEssential 74 = .ok (.lconst 0, 1) := by decide +kernel
theorem dX11_wideEssential_75 : decode cX11_wideEssential 75 = .ok (.lor, 1) := by decide +kernel
theorem dX11_wideEssential_76 : decode cX11_wideEssential 76 = .ok (.lstore 7, 2) := by decide +kernel
theorem dX11_wideEssential_78 : decode cX11_wideEssential 78 = .ok (.iinc 9 1, 3) := by decide +kernel
theorem dX11_wideEssential_81 : decode cX11_wideEssential 81 = .ok (.goto (-58), 3) := by decide +kernel
theorem dX11_wideEssential_84 : decode cX11_wideEssential 84 = .ok (.lload_n 1, 1) := by decide +kernel
theorem dX11_wideEssential_85 : decode cX11_wideEssential 85 = .ok (.lload 5, 2) := by decide +kernel
theorem dX11_wideEssential_87 : decode cX11_wideEssential 87 = .ok (.lload 7, 2) := by decide +kernel
theorem dX11_wideEssential_89 : decode cX11_wideEssential 89 = .ok (.land, 1) := by decide +kernel
theorem dX11_wideEssential_90 : decode cX11_wideEssential 90 = .ok (.land, 1) := by decide +kernel
theorem dX11_wideEssential_91 : decode cX11_wideEssential 91 = .ok (.lstore_n 1, 1) := by decide +kernel
theorem dX11_wideEssential_92 : decode cX11_wideEssential 92 = .ok (.goto (-86), 3) := by decide +kernel
theorem dX11_wideEssential_95 : decode cX11_wideEssential 95 = .ok (.lload_n 1, 1) := by decide +kernel
theorem dX11_wideEssential_96 : decode cX11_wideEssential 96 = .ok (.lreturn, 1) := by decide +kernel
theorem dX11_storeWide_0 : decode cX11_storeWide 0 = .ok (.aload_n 0, 1) := by decide +kernel
theorem dX11_storeWide_1 : decode cX11_storeWide 1 = .ok (.aload_n 0, 1) := by decide +kernel
theorem dX11_storeWide_2 : decode cX11_storeWide 2 = .ok (.invokevirtual 313, 3) := by decide +kernel
theorem dX11_storeWide_5 : decode cX11_storeWide 5 = .ok (.invokevirtual 238, 3) := by decide +kernel
theorem dX11_storeWide_8 : decode cX11_storeWide 8 = .ok (.aload_n 0, 1) := by decide +kernel
theorem dX11_storeWide_9 : decode cX11_storeWide 9 = .ok (.getfield 235, 3) := by decide +kernel
theorem dX11_storeWide_12 : decode cX11_storeWide 12 = .ok (.bipush 8, 2) := by decide +kernel
theorem dX11_storeWide_14 : decode cX11_storeWide 14 = .ok (.if_icmp .le 6, 3) := by decide +kernel
theorem dX11_storeWide_17 : decode cX11_storeWide 17 = .ok (.bipush (-3), 2) := by decide +kernel
theorem dX11_storeWide_19 : decode cX11_storeWide 19 = .ok (.ireturn, 1) := by decide +kernel
theorem dX11_storeWide_20 : decode cX11_storeWide 20 = .ok (.aload_n 0, 1) := by decide +kernel
theorem dX11_storeWide_21 : decode cX11_storeWide 21 = .ok (.invokevirtual 159, 3) := by decide +kernel
theorem dX11_storeWide_24 : decode cX11_storeWide 24 = .ok (.iconst 0, 1) := by decide +kernel
theorem dX11_storeWide_25 : decode cX11_storeWide 25 = .ok (.istore_n 2, 1) := by decide +kernel
theorem dX11_storeWide_26 : decode cX11_storeWide 26 = .ok (.iload_n 2, 1) := by decide +kernel
theorem dX11_storeWide_27 : decode cX11_storeWide 27 = .ok (.aload_n 0, 1) := by decide +kernel
theorem dX11_storeWide_28 : decode cX11_storeWide 28 = .ok (.getfield 235, 3) := by decide +kernel
theorem dX11_storeWide_31 : decode cX11_storeWide 31 = .ok (.if_icmp .ge 82, 3) := by decide +kernel
theorem dX11_storeWide_34 : decode cX11_storeWide 34 = .ok (.iconst 0, 1) := by decide +kernel
theorem dX11_storeWide_35 : decode cX11_storeWide 35 = .ok (.istore_n 3, 1) := by decide +kernel
theorem dX11_storeWide_36 : decode cX11_storeWide 36 = .ok (.iload_n 3, 1) := by decide +kernel
theorem dX11_storeWide_37 : decode cX11_storeWide 37 = .ok (.iconst 4, 1) := by decide +kernel
theorem dX11_storeWide_38 : decode cX11_storeWide 38 = .ok (.if_icmp .ge 69, 3) := by decide +kernel
theorem dX11_storeWide_41 : decode cX11_storeWide 41 = .ok (.iconst 0, 1) := by decide +kernel
theorem dX11_storeWide_42 : decode cX11_storeWide 42 = .ok (.istore 4, 2) := by decide +kernel
theorem dX11_storeWide_44 : decode cX11_storeWide 44 = .ok (.iload 4, 2) := by decide +kernel
theorem dX11_storeWide_46 : decode cX11_storeWide 46 = .ok (.aload_n 0, 1) := by decide +kernel
theorem dX11_storeWide_47 : decode cX11_storeWide 47 = .ok (.getfield 235, 3) := by decide +kernel
theorem dX11_storeWide_50 : decode cX11_storeWide 50 = .ok (.if_icmp .ge 51, 3) := by decide +kernel
theorem dX11_storeWide_53 : decode cX11_storeWide 53 = .ok (.aload_n 0, 1) := by decide +kernel
theorem dX11_storeWide_54 : decode cX11_storeWide 54 = .ok (.getfield 15, 3) := by decide +kernel
theorem dX11_storeWide_57 : decode cX11_storeWide 57 = .ok (.iconst 4, 1) := by decide +kernel
theorem dX11_storeWide_58 : decode cX11_storeWide 58 = .ok (.iload_n 2, 1) := by decide +kernel
theorem dX11_storeWide_59 : decode cX11_storeWide 59 = .ok (.imul, 1) := by decide +kernel
theorem dX11_storeWide_60 : decode cX11_storeWide 60 = .ok (.iload_n 3, 1) := by decide +kernel
theorem dX11_storeWide_61 : decode cX11_storeWide 61 = .ok (.iadd, 1) := by decide +kernel
theorem dX11_storeWide_62 : decode cX11_storeWide 62 = .ok (.dup2, 1) := by decide +kernel
theorem dX11_storeWide_63 : decode cX11_storeWide 63 = .ok (.iaload, 1) := by decide +kernel
theorem dX11_storeWide_64 : decode cX11_storeWide 64 = .ok (.aload_n 0, 1) := by decide +kernel
theorem dX11_storeWide_65 : decode cX11_storeWide 65 = .ok (.getfield 102, 3) := by decide +kernel
theorem dX11_storeWide_68 : decode cX11_storeWide 68 = .ok (.iconst 4, 1) := by decide +kernel
theorem dX11_storeWide_69 : decode cX11_storeWide 69 = .ok (.aload_n 0, 1) := by decide +kernel
theorem dX11_storeWide_70 : decode cX11_storeWide 70 = .ok (.getfield 43, 3) := by decide +kernel
theorem dX11_storeWide_73 : decode cX11_storeWide 73 = .ok (.iload_n 2, 1) := by decide +kernel
theorem dX11_storeWide_74 : decode cX11_storeWide 74 = .ok (.iaload, 1) := by decide +kernel
theorem dX11_storeWide_75 : decode cX11_storeWide 75 = .ok (.imul, 1) := by decide +kernel
theorem dX11_storeWide_76 : decode cX11_storeWide 76 = .ok (.iload_n 3, 1) := by decide +kernel
theorem dX11_storeWide_77 : decode cX11_storeWide 77 = .ok (.iadd, 1) := by decide +kernel
theorem dX11_storeWide_78 : decode cX11_storeWide 78 = .ok (.laload, 1) := by decide +kernel
theorem dX11_storeWide_79 : decode cX11_storeWide 79 = .ok (.aload_n 0, 1) := by decide +kernel
theorem dX11_storeWide_80 : decode cX11_storeWide 80 = .ok (.getfield 43, 3) := by decide +kernel
theorem dX11_storeWide_83 : decode cX11_storeWide 83 = .ok (.iload 4, 2) := by decide +kernel
theorem dX11_storeWide_85 : decode cX11_storeWide 85 = .ok (.iaload, 1) := by decide +kernel
theorem dX11_storeWide_86 : decode cX11_storeWide 86 = .ok (.lshr, 1) := by decide +kernel
theorem dX11_storeWide_87 : decode cX11_storeWide 87 = .ok (.lconst 1, 1) := by decide +kernel
theorem dX11_storeWide_88 : decode cX11_storeWide 88 = .ok (.land, 1) := by decide +kernel
theorem dX11_storeWide_89 : decode cX11_storeWide 89 = .ok (.l2i, 1) := by decide +kernel
theorem dX11_storeWide_90 : decode cX11_storeWide 90 = .ok (.iload 4, 2) := by decide +kernel
theorem dX11_storeWide_92 : decode cX11_storeWide 92 = .ok (.ishl, 1) := by decide +kernel
theorem dX11_storeWide_93 : decode cX11_storeWide 93 = .ok (.ior, 1) := by decide +kernel
theorem dX11_storeWide_94 : decode cX11_storeWide 94 = .ok (.iastore, 1) := by decide +kernel
theorem dX11_storeWide_95 : decode cX11_storeWide 95 = .ok (.iinc 4 1, 3) := by decide +kernel
theorem dX11_storeWide_98 : decode cX11_storeWide 98 = .ok (.goto (-54), 3) := by decide +kernel
theorem dX11_storeWide_101 : decode cX11_storeWide 101 = .ok (.iinc 3 1, 3) := by decide +kernel
theorem dX11_storeWide_104 : decode cX11_storeWide 104 = .ok (.goto (-68), 3) := by decide +kernel
theorem dX11_storeWide_107 : decode cX11_storeWide 107 = .ok (.iinc 2 1, 3) := by decide +kernel
theorem dX11_storeWide_110 : decode cX11_storeWide 110 = .ok (.goto (-84), 3) := by decide +kernel
theorem dX11_storeWide_113 : decode cX11_storeWide 113 = .ok (.aload_n 0, 1) := by decide +kernel
theorem dX11_storeWide_114 : decode cX11_storeWide 114 = .ok (.iload_n 1, 1) := by decide +kernel
theorem dX11_storeWide_115 : decode cX11_storeWide 115 = .ok (.invokevirtual 149, 3) := by decide +kernel
theorem dX11_storeWide_118 : decode cX11_storeWide 118 = .ok (.aload_n 0, 1) := by decide +kernel
theorem dX11_storeWide_119 : decode cX11_storeWide 119 = .ok (.getfield 235, 3) := by decide +kernel
theorem dX11_storeWide_122 : decode cX11_storeWide 122 = .ok (.ireturn, 1) := by decide +kernel
theorem dX11_intersect_0 : decode cX11_intersect 0 = .ok (.iload_n 1, 1) := by decide +kernel
theorem dX11_intersect_1 : decode cX11_intersect 1 = .ok (.invokestatic 135, 3) := by decide +kernel
theorem dX11_intersect_4 : decode cX11_intersect 4 = .ok (.ifCond .eq 17, 3) := by decide +kernel
theorem dX11_intersect_7 : decode cX11_intersect 7 = .ok (.iload_n 2, 1) := by decide +kernel
theorem dX11_intersect_8 : decode cX11_intersect 8 = .ok (.invokestatic 135, 3) := by decide +kernel
theorem dX11_intersect_11 : decode cX11_intersect 11 = .ok (.ifCond .eq 10, 3) := by decide +kernel
theorem dX11_intersect_14 : decode cX11_intersect 14 = .ok (.iload_n 3, 1) := by decide +kernel
theorem dX11_intersect_15 : decode cX11_intersect 15 = .ok (.invokestatic 135, 3) := by decide +kernel
theorem dX11_intersect_18 : decode cX11_intersect 18 = .ok (.ifCond .ne 6, 3) := by decide +kernel
theorem dX11_intersect_21 : decode cX11_intersect 21 = .ok (.bipush (-2), 2) := by decide +kernel
theorem dX11_intersect_23 : decode cX11_intersect 23 = .ok (.ireturn, 1) := by decide +kernel
theorem dX11_intersect_24 : decode cX11_intersect 24 = .ok (.aload_n 0, 1) := by decide +kernel
theorem dX11_intersect_25 : decode cX11_intersect 25 = .ok (.invokevirtual 317, 3) := by decide +kernel
theorem dX11_intersect_28 : decode cX11_intersect 28 = .ok (.iconst 0, 1) := by decide +kernel
theorem dX11_intersect_29 : decode cX11_intersect 29 = .ok (.istore 4, 2) := by decide +kernel
theorem dX11_intersect_31 : decode cX11_intersect 31 = .ok (.iload 4, 2) := by decide +kernel
theorem dX11_intersect_33 : decode cX11_intersect 33 = .ok (.bipush 64, 2) := by decide +kernel
theorem dX11_intersect_35 : decode cX11_intersect 35 = .ok (.if_icmp .ge 107, 3) := by decide +kernel
theorem dX11_intersect_38 : decode cX11_intersect 38 = .ok (.iconst 0, 1) := by decide +kernel
theorem dX11_intersect_39 : decode cX11_intersect 39 = .ok (.istore 5, 2) := by decide +kernel
theorem dX11_intersect_41 : decode cX11_intersect 41 = .ok (.iload 5, 2) := by decide +kernel
theorem dX11_intersect_43 : decode cX11_intersect 43 = .ok (.iconst 4, 1) := by decide +kernel
theorem dX11_intersect_44 : decode cX11_intersect 44 = .ok (.if_icmp .ge 92, 3) := by decide +kernel
theorem dX11_intersect_47 : decode cX11_intersect 47 = .ok (.aload_n 0, 1) := by decide +kernel
theorem dX11_intersect_48 : decode cX11_intersect 48 = .ok (.iload_n 1, 1) := by decide +kernel
theorem dX11_intersect_49 : decode cX11_intersect 49 = .ok (.iload 4, 2) := by decide +kernel
theorem dX11_intersect_51 : decode cX11_intersect 51 = .ok (.bipush 8, 2) := by decide +kernel
theorem dX11_intersect_53 : decode cX11_intersect 53 = .ok (.idiv, 1) := by decide +kernel
theorem dX11_intersect_54 : decode cX11_intersect 54 = .ok (.iload 5, 2) := by decide +kernel
theorem dX11_intersect_56 : decode cX11_intersect 56 = .ok (.invokevirtual 152, 3) := by decide +kernel
theorem dX11_intersect_59 : decode cX11_intersect 59 = .ok (.istore 6, 2) := by decide +kernel
theorem dX11_intersect_61 : decode cX11_intersect 61 = .ok (.aload_n 0, 1) := by decide +kernel
theorem dX11_intersect_62 : decode cX11_intersect 62 = .ok (.iload_n 2, 1) := by decide +kernel
theorem dX11_intersect_63 : decode cX11_intersect 63 = .ok (.iload 4, 2) := by decide +kernel
theorem dX11_intersect_65 : decode cX11_intersect 65 = .ok (.bipush 8, 2) := by decide +kernel
theorem dX11_intersect_67 : decode cX11_intersect 67 = .ok (.irem, 1) := by decide +kernel
theorem dX11_intersect_68 : decode cX11_intersect 68 = .ok (.iload 5, 2) := by decide +kernel
theorem dX11_intersect_70 : decode cX11_intersect 70 = .ok (.invokevirtual 152, 3) := by decide +kernel
theorem dX11_intersect_73 : decode cX11_intersect 73 = .ok (.i2l, 1) := by decide +kernel
theorem dX11_intersect_74 : decode cX11_intersect 74 = .ok (.lstore 7, 2) := by decide +kernel
theorem dX11_intersect_76 : decode cX11_intersect 76 = .ok (.iconst 0, 1) := by decide +kernel
theorem dX11_intersect_77 : decode cX11_intersect 77 = .ok (.istore 9, 2) := by decide +kernel
theorem dX11_intersect_79 : decode cX11_intersect 79 = .ok (.iload 9, 2) := by decide +kernel
theorem dX11_intersect_81 : decode cX11_intersect 81 = .ok (.bipush 8, 2) := by decide +kernel
theorem dX11_intersect_83 : decode cX11_intersect 83 = .ok (.if_icmp .ge 47, 3) := by decide +kernel
theorem dX11_intersect_86 : decode cX11_intersect 86 = .ok (.aload_n 0, 1) := by decide +kernel
theorem dX11_intersect_87 : decode cX11_intersect 87 = .ok (.getfield 102, 3) := by decide +kernel
theorem dX11_intersect_90 : decode cX11_intersect 90 = .ok (.iconst 4, 1) := by decide +kernel
theorem dX11_intersect_91 : decode cX11_intersect 91 = .ok (.iload 4, 2) := by decide +kernel
theorem dX11_intersect_93 : decode cX11_intersect 93 = .ok (.imul, 1) := by decide +kernel
theorem dX11_intersect_94 : decode cX11_intersect 94 = .ok (.iload 5, 2) := by decide +kernel
theorem dX11_intersect_96 : decode cX11_intersect 96 = .ok (.iadd, 1) := by decide +kernel
theorem dX11_intersect_97 : decode cX11_intersect 97 = .ok (.dup2, 1) := by decide +kernel
theorem dX11_intersect_98 : decode cX11_intersect 98 = .ok (.laload, 1) := by decide +kernel
theorem dX11_intersect_99 : decode cX11_intersect 99 = .ok (.iload 6, 2) := by decide +kernel
theorem dX11_intersect_101 : decode cX11_intersect 101 = .ok (.iload 9, 2) := by decide +kernel
theorem dX11_intersect_103 : decode cX11_intersect 103 = .ok (.ishr, 1) := by decide +kernel
theorem dX11_intersect_104 : decode cX11_intersect 104 = .ok (.iconst 1, 1) := by decide +kernel
theorem dX11_intersect_105 : decode cX11_intersect 105 = .ok (.iand, 1) := by decide +kernel
theorem dX11_intersect_106 : decode cX11_intersect 106 = .ok (.iconst 1, 1) := by decide +kernel
theorem dX11_intersect_107 : decode cX11_intersect 107 = .ok (.if_icmp .ne 14, 3) := by decide +kernel
theorem dX11_intersect_110 : decode cX11_intersect 110 = .ok (.lload 7, 2) := by decide +kernel
theorem dX11_intersect_112 : decode cX11_intersect 112 = .ok (.bipush 8, 2) := by decide +kernel
theorem dX11_intersect_114 : decode cX11_intersect 114 = .ok (.iload 9, 2) := by decide +kernel
theorem dX11_intersect_116 : decode cX11_intersect 116 = .ok (.imul, 1) := by decide +kernel
theorem dX11_intersect_117 : decode cX11_intersect 117 = .ok (.lshl, 1) := by decide +kernel
theorem dX11_intersect_118 : decode cX11_intersect 118 = .ok (.goto 4, 3) := by decide +kernel
theorem dX11_intersect_121 : decode cX11_intersect 121 = .ok (.lconst 0, 1) := by decide +kernel
theorem dX11_intersect_122 : decode cX11_intersect 122 = .ok (.lor, 1) := by decide +kernel
theorem dX11_intersect_123 : decode cX11_intersect 123 = .ok (.lastore, 1) := by decide +kernel
theorem dX11_intersect_124 : decode cX11_intersect 124 = .ok (.iinc 9 1, 3) := by decide +kernel
theorem dX11_intersect_127 : decode cX11_intersect 127 = .ok (.goto (-48), 3) := by decide +kernel
theorem dX11_intersect_130 : decode cX11_intersect 130 = .ok (.iinc 5 1, 3) := by decide +kernel
theorem dX11_intersect_133 : decode cX11_intersect 133 = .ok (.goto (-92), 3) := by decide +kernel
theorem dX11_intersect_136 : decode cX11_intersect 136 = .ok (.iinc 4 1, 3) := by decide +kernel
theorem dX11_intersect_139 : decode cX11_intersect 139 = .ok (.goto (-108), 3) := by decide +kernel
theorem dX11_intersect_142 : decode cX11_intersect 142 = .ok (.aload_n 0, 1) := by decide +kernel
theorem dX11_intersect_143 : decode cX11_intersect 143 = .ok (.iload_n 3, 1) := by decide +kernel
theorem dX11_intersect_144 : decode cX11_intersect 144 = .ok (.invokevirtual 320, 3) := by decide +kernel
theorem dX11_intersect_147 : decode cX11_intersect 147 = .ok (.ireturn, 1) := by decide +kernel
theorem dX11_reverse_0 : decode cX11_reverse 0 = .ok (.iload_n 1, 1) := by decide +kernel
theorem dX11_reverse_1 : decode cX11_reverse 1 = .ok (.invokestatic 135, 3) := by decide +kernel
theorem dX11_reverse_4 : decode cX11_reverse 4 = .ok (.ifCond .eq 10, 3) := by decide +kernel
theorem dX11_reverse_7 : decode cX11_reverse 7 = .ok (.iload_n 2, 1) := by decide +kernel
theorem dX11_reverse_8 : decode cX11_reverse 8 = .ok (.invokestatic 135, 3) := by decide +kernel
theorem dX11_reverse_11 : decode cX11_reverse 11 = .ok (.ifCond .ne 6, 3) := by decide +kernel
theorem dX11_reverse_14 : decode cX11_reverse 14 = .ok (.bipush (-2), 2) := by decide +kernel
theorem dX11_reverse_16 : decode cX11_reverse 16 = .ok (.ireturn, 1) := by decide +kernel
theorem dX11_reverse_17 : decode cX11_reverse 17 = .ok (.aload_n 0, 1) := by decide +kernel
theorem dX11_reverse_18 : decode cX11_reverse 18 = .ok (.invokevirtual 159, 3) := by decide +kernel
theorem dX11_reverse_21 : decode cX11_reverse 21 = .ok (.iconst 0, 1) := by decide +kernel
theorem dX11_reverse_22 : decode cX11_reverse 22 = .ok (.istore_n 3, 1) := by decide +kernel
theorem dX11_reverse_23 : decode cX11_reverse 23 = .ok (.iload_n 3, 1) := by decide +kernel
theorem dX11_reverse_24 : decode cX11_reverse 24 = .ok (.sipush 256, 3) := by decide +kernel
theorem dX11_reverse_27 : decode cX11_reverse 27 = .ok (.if_icmp .ge 59, 3) := by decide +kernel
theorem dX11_reverse_30 : decode cX11_reverse 30 = .ok (.iload_n 3, 1) := by decide +kernel
theorem dX11_reverse_31 : decode cX11_reverse 31 = .ok (.bipush 32, 2) := by decide +kernel
theorem dX11_reverse_33 : decode cX11_reverse 33 = .ok (.idiv, 1) := by decide +kernel
theorem dX11_reverse_34 : decode cX11_reverse 34 = .ok (.istore 4, 2) := by decide +kernel
theorem dX11_reverse_36 : decode cX11_reverse 36 = .ok (.iload_n 3, 1) := by decide +kernel
theorem dX11_reverse_37 : decode cX11_reverse 37 = .ok (.bipush 8, 2) := by decide +kernel
theorem dX11_reverse_39 : decode cX11_reverse 39 = .ok (.idiv, 1) := by decide +kernel
theorem dX11_reverse_40 : decode cX11_reverse 40 = .ok (.iconst 4, 1) := by decide +kernel
theorem dX11_reverse_41 : decode cX11_reverse 41 = .ok (.irem, 1) := by decide +kernel
theorem dX11_reverse_42 : decode cX11_reverse 42 = .ok (.istore 5, 2) := by decide +kernel
theorem dX11_reverse_44 : decode cX11_reverse 44 = .ok (.aload_n 0, 1) := by decide +kernel
theorem dX11_reverse_45 : decode cX11_reverse 45 = .ok (.getfield 15, 3) := by decide +kernel
theorem dX11_reverse_48 : decode cX11_reverse 48 = .ok (.iconst 4, 1) := by decide +kernel
theorem dX11_reverse_49 : decode cX11_reverse 49 = .ok (.iload_n 3, 1) := by decide +kernel
theorem dX11_reverse_50 : decode cX11_reverse 50 = .ok (.bipush 8, 2) := by decide +kernel
theorem dX11_reverse_52 : decode cX11_reverse 52 = .ok (.irem, 1) := by decide +kernel
theorem dX11_reverse_53 : decode cX11_reverse 53 = .ok (.imul, 1) := by decide +kernel
theorem dX11_reverse_54 : decode cX11_reverse 54 = .ok (.iload 5, 2) := by decide +kernel
theorem dX11_reverse_56 : decode cX11_reverse 56 = .ok (.iadd, 1) := by decide +kernel
theorem dX11_reverse_57 : decode cX11_reverse 57 = .ok (.dup2, 1) := by decide +kernel
theorem dX11_reverse_58 : decode cX11_reverse 58 = .ok (.iaload, 1) := by decide +kernel
theorem dX11_reverse_59 : decode cX11_reverse 59 = .ok (.aload_n 0, 1) := by decide +kernel
theorem dX11_reverse_60 : decode cX11_reverse 60 = .ok (.iload_n 1, 1) := by decide +kernel
theorem dX11_reverse_61 : decode cX11_reverse 61 = .ok (.iload 4, 2) := by decide +kernel
theorem dX11_reverse_63 : decode cX11_reverse 63 = .ok (.iload 5, 2) := by decide +kernel
theorem dX11_reverse_65 : decode cX11_reverse 65 = .ok (.invokevirtual 152, 3) := by decide +kernel
theorem dX11_reverse_68 : decode cX11_reverse 68 = .ok (.iload_n 3, 1) := by decide +kernel
theorem dX11_reverse_69 : decode cX11_reverse 69 = .ok (.bipush 8, 2) := by decide +kernel
theorem dX11_reverse_71 : decode cX11_reverse 71 = .ok (.irem, 1) := by decide +kernel
theorem dX11_reverse_72 : decode cX11_reverse 72 = .ok (.ishr, 1) := by decide +kernel
theorem dX11_reverse_73 : decode cX11_reverse 73 = .ok (.iconst 1, 1) := by decide +kernel
theorem dX11_reverse_74 : decode cX11_reverse 74 = .ok (.iand, 1) := by decide +kernel
theorem dX11_reverse_75 : decode cX11_reverse 75 = .ok (.iload 4, 2) := by decide +kernel
theorem dX11_reverse_77 : decode cX11_reverse 77 = .ok (.ishl, 1) := by decide +kernel
theorem dX11_reverse_78 : decode cX11_reverse 78 = .ok (.ior, 1) := by decide +kernel
theorem dX11_reverse_79 : decode cX11_reverse 79 = .ok (.iastore, 1) := by decide +kernel
theorem dX11_reverse_80 : decode cX11_reverse 80 = .ok (.iinc 3 1, 3) := by decide +kernel
theorem dX11_reverse_83 : decode cX11_reverse 83 = .ok (.goto (-60), 3) := by decide +kernel
theorem dX11_reverse_86 : decode cX11_reverse 86 = .ok (.aload_n 0, 1) := by decide +kernel
theorem dX11_reverse_87 : decode cX11_reverse 87 = .ok (.iload_n 2, 1) := by decide +kernel
theorem dX11_reverse_88 : decode cX11_reverse 88 = .ok (.invokevirtual 149, 3) := by decide +kernel
theorem dX11_reverse_91 : decode cX11_reverse 91 = .ok (.aload_n 0, 1) := by decide +kernel
theorem dX11_reverse_92 : decode cX11_reverse 92 = .ok (.iload_n 2, 1) := by decide +kernel
theorem dX11_reverse_93 : decode cX11_reverse 93 = .ok (.invokevirtual 128, 3) := by decide +kernel
theorem dX11_reverse_96 : decode cX11_reverse 96 = .ok (.ireturn, 1) := by decide +kernel
theorem dX11_relabel_0 : decode cX11_relabel 0 = .ok (.iload_n 1, 1) := by decide +kernel
theorem dX11_relabel_1 : decode cX11_relabel 1 = .ok (.invokestatic 135, 3) := by decide +kernel
theorem dX11_relabel_4 : decode cX11_relabel 4 = .ok (.ifCond .eq 25, 3) := by decide +kernel
theorem dX11_relabel_7 : decode cX11_relabel 7 = .ok (.iload_n 2, 1) := by decide +kernel
theorem dX11_relabel_8 : decode cX11_relabel 8 = .ok (.invokestatic 142, 3) := by decide +kernel
theorem dX11_relabel_11 : decode cX11_relabel 11 = .ok (.ifCond .eq 18, 3) := by decide +kernel
theorem dX11_relabel_14 : decode cX11_relabel 14 = .ok (.iload_n 3, 1) := by decide +kernel
theorem dX11_relabel_15 : decode cX11_relabel 15 = .ok (.invokestatic 142, 3) := by decide +kernel
theorem dX11_relabel_18 : decode cX11_relabel 18 = .ok (.ifCond .eq 11, 3) := by decide +kernel
theorem dX11_relabel_21 : decode cX11_relabel 21 = .ok (.iload 4, 2) := by decide +kernel
theorem dX11_relabel_23 : decode cX11_relabel 23 = .ok (.invokestatic 135, 3) := by decide +kernel
theorem dX11_relabel_26 : decode cX11_relabel 26 = .ok (.ifCond .ne 6, 3) := by decide +kernel
theorem dX11_relabel_29 : decode cX11_relabel 29 = .ok (.bipush (-2), 2) := by decide +kernel
theorem dX11_relabel_31 : decode cX11_relabel 31 = .ok (.ireturn, 1) := by decide +kernel
theorem dX11_relabel_32 : decode cX11_relabel 32 = .ok (.aload_n 0, 1) := by decide +kernel
theorem dX11_relabel_33 : decode cX11_relabel 33 = .ok (.invokevirtual 159, 3) := by decide +kernel
theorem dX11_relabel_36 : decode cX11_relabel 36 = .ok (.iconst 0, 1) := by decide +kernel
theorem dX11_relabel_37 : decode cX11_relabel 37 = .ok (.istore 5, 2) := by decide +kernel
theorem dX11_relabel_39 : decode cX11_relabel 39 = .ok (.iload 5, 2) := by decide +kernel
theorem dX11_relabel_41 : decode cX11_relabel 41 = .ok (.bipush 32, 2) := by decide +kernel
theorem dX11_relabel_43 : decode cX11_relabel 43 = .ok (.if_icmp .ge 57, 3) := by decide +kernel
theorem dX11_relabel_46 : decode cX11_relabel 46 = .ok (.iload 5, 2) := by decide +kernel
theorem dX11_relabel_48 : decode cX11_relabel 48 = .ok (.iconst 4, 1) := by decide +kernel
theorem dX11_relabel_49 : decode cX11_relabel 49 = .ok (.irem, 1) := by decide +kernel
theorem dX11_relabel_50 : decode cX11_relabel 50 = .ok (.iload_n 2, 1) := by decide +kernel
theorem dX11_relabel_51 : decode cX11_relabel 51 = .ok (.if_icmp .ne 7, 3) := by decide +kernel
theorem dX11_relabel_54 : decode cX11_relabel 54 = .ok (.iload_n 3, 1) := by decide +kernel
theorem dX11_relabel_55 : decode cX11_relabel 55 = .ok (.goto 7, 3) := by decide +kernel
theorem dX11_relabel_58 : decode cX11_relabel 58 = .ok (.iload 5, 2) := by decide +kernel
theorem dX11_relabel_60 : decode cX11_relabel 60 = .ok (.iconst 4, 1) := by decide +kernel
theorem dX11_relabel_61 : decode cX11_relabel 61 = .ok (.irem, 1) := by decide +kernel
theorem dX11_relabel_62 : decode cX11_relabel 62 = .ok (.istore 6, 2) := by decide +kernel
theorem dX11_relabel_64 : decode cX11_relabel 64 = .ok (.aload_n 0, 1) := by decide +kernel
theorem dX11_relabel_65 : decode cX11_relabel 65 = .ok (.getfield 15, 3) := by decide +kernel
theorem dX11_relabel_68 : decode cX11_relabel 68 = .ok (.iload 5, 2) := by decide +kernel
theorem dX11_relabel_70 : decode cX11_relabel 70 = .ok (.iload 5, 2) := by decide +kernel
theorem dX11_relabel_72 : decode cX11_relabel 72 = .ok (.iconst 4, 1) := by decide +kernel
theorem dX11_relabel_73 : decode cX11_relabel 73 = .ok (.irem, 1) := by decide +kernel
theorem dX11_relabel_74 : decode cX11_relabel 74 = .ok (.isub, 1) := by decide +kernel
theorem dX11_relabel_75 : decode cX11_relabel 75 = .ok (.iload 6, 2) := by decide +kernel
theorem dX11_relabel_77 : decode cX11_relabel 77 = .ok (.iadd, 1) := by decide +kernel
theorem dX11_relabel_78 : decode cX11_relabel 78 = .ok (.dup2, 1) := by decide +kernel
theorem dX11_relabel_79 : decode cX11_relabel 79 = .ok (.iaload, 1) := by decide +kernel
theorem dX11_relabel_80 : decode cX11_relabel 80 = .ok (.aload_n 0, 1) := by decide +kernel
theorem dX11_relabel_81 : decode cX11_relabel 81 = .ok (.getfield 9, 3) := by decide +kernel
theorem dX11_relabel_84 : decode cX11_relabel 84 = .ok (.bipush 32, 2) := by decide +kernel
theorem dX11_relabel_86 : decode cX11_relabel 86 = .ok (.iload_n 1, 1) := by decide +kernel
theorem dX11_relabel_87 : decode cX11_relabel 87 = .ok (.imul, 1) := by decide +kernel
theorem dX11_relabel_88 : decode cX11_relabel 88 = .ok (.iload 5, 2) := by decide +kernel
theorem dX11_relabel_90 : decode cX11_relabel 90 = .ok (.iadd, 1) := by decide +kernel
theorem dX11_relabel_91 : decode cX11_relabel 91 = .ok (.iaload, 1) := by decide +kernel
theorem dX11_relabel_92 : decode cX11_relabel 92 = .ok (.ior, 1) := by decide +kernel
theorem dX11_relabel_93 : decode cX11_relabel 93 = .ok (.iastore, 1) := by decide +kernel
theorem dX11_relabel_94 : decode cX11_relabel 94 = .ok (.iinc 5 1, 3) := by decide +kernel
theorem dX11_relabel_97 : decode cX11_relabel 97 = .ok (.goto (-58), 3) := by decide +kernel
theorem dX11_relabel_100 : decode cX11_relabel 100 = .ok (.aload_n 0, 1) := by decide +kernel
theorem dX11_relabel_101 : decode cX11_relabel 101 = .ok (.iload 4, 2) := by decide +kernel
theorem dX11_relabel_103 : decode cX11_relabel 103 = .ok (.invokevirtual 149, 3) := by decide +kernel
theorem dX11_relabel_106 : decode cX11_relabel 106 = .ok (.aload_n 0, 1) := by decide +kernel
theorem dX11_relabel_107 : decode cX11_relabel 107 = .ok (.iload 4, 2) := by decide +kernel
theorem dX11_relabel_109 : decode cX11_relabel 109 = .ok (.invokevirtual 128, 3) := by decide +kernel
theorem dX11_relabel_112 : decode cX11_relabel 112 = .ok (.ireturn, 1) := by decide +kernel
theorem dX11_border_0 : decode cX11_border 0 = .ok (.iload_n 1, 1) := by decide +kernel
theorem dX11_border_1 : decode cX11_border 1 = .ok (.iconst 1, 1) := by decide +kernel
theorem dX11_border_2 : decode cX11_border 2 = .ok (.iadd, 1) := by decide +kernel
theorem dX11_border_3 : decode cX11_border 3 = .ok (.aload_n 0, 1) := by decide +kernel
theorem dX11_border_4 : decode cX11_border 4 = .ok (.getfield 167, 3) := by decide +kernel
theorem dX11_border_7 : decode cX11_border 7 = .ok (.invokestatic 323, 3) := by decide +kernel
theorem dX11_border_10 : decode cX11_border 10 = .ok (.istore_n 3, 1) := by decide +kernel
theorem dX11_border_11 : decode cX11_border 11 = .ok (.iload_n 3, 1) := by decide +kernel
theorem dX11_border_12 : decode cX11_border 12 = .ok (.ifCond .le 87, 3) := by decide +kernel
theorem dX11_border_15 : decode cX11_border 15 = .ok (.aload_n 0, 1) := by decide +kernel
theorem dX11_border_16 : decode cX11_border 16 = .ok (.getfield 33, 3) := by decide +kernel
theorem dX11_border_19 : decode cX11_border 19 = .ok (.iload_n 3, 1) := by decide +kernel
theorem dX11_border_20 : decode cX11_border 20 = .ok (.iconst 1, 1) := by decide +kernel
theorem dX11_border_21 : decode cX11_border 21 = .ok (.isub, 1) := by decide +kernel
theorem dX11_border_22 : decode cX11_border 22 = .ok (.iaload, 1) := by decide +kernel
theorem dX11_border_23 : decode cX11_border 23 = .ok (.iload_n 2, 1) := by decide +kernel
theorem dX11_border_24 : decode cX11_border 24 = .ok (.if_icmp .ne 7, 3) := by decide +kernel
theorem dX11_border_27 : decode cX11_border 27 = .ok (.iconst 1, 1) := by decide +kernel
theorem dX11_border_28 : decode cX11_border 28 = .ok (.goto 4, 3) := by decide +kernel
theorem dX11_border_31 : decode cX11_border 31 = .ok (.iconst 0, 1) := by decide +kernel
theorem dX11_border_32 : decode cX11_border 32 = .ok (.istore 4, 2) := by decide +kernel
theorem dX11_border_34 : decode cX11_border 34 = .ok (.iconst 0, 1) := by decide +kernel
theorem dX11_border_35 : decode cX11_border 35 = .ok (.istore 5, 2) := by decide +kernel
theorem dX11_border_37 : decode cX11_border 37 = .ok (.iload 5, 2) := by decide +kernel
theorem dX11_border_39 : decode cX11_border 39 = .ok (.iload_n 3, 1) := by decide +kernel
theorem dX11_border_40 : decode cX11_border 40 = .ok (.iconst 1, 1) := by decide +kernel
theorem dX11_border_41 : decode cX11_border 41 = .ok (.isub, 1) := by decide +kernel
theorem dX11_border_42 : decode cX11_border 42 = .ok (.if_icmp .ge 44, 3) := by decide +kernel
theorem dX11_border_45 : decode cX11_border 45 = .ok (.iload 4, 2) := by decide +kernel
theorem dX11_border_47 : decode cX11_border 47 = .ok (.ifCond .eq 30, 3) := by decide +kernel
theorem dX11_border_50 : decode cX11_border 50 = .ok (.aload_n 0, 1) := by decide +kernel
theorem dX11_border_51 : decode cX11_border 51 = .ok (.getfield 33, 3) := by decide +kernel
theorem dX11_border_54 : decode cX11_border 54 = .ok (.iload 5, 2) := by decide +kernel
theorem dX11_border_56 : decode cX11_border 56 = .ok (.iaload, 1) := by decide +kernel
theorem dX11_border_57 : decode cX11_border 57 = .ok (.aload_n 0, 1) := by decide +kernel
theorem dX11_border_58 : decode cX11_border 58 = .ok (.getfield 33, 3) := by decide +kernel
theorem dX11_border_61 : decode cX11_border 61 = .ok (.iload_n 1, 1) := by decide +kernel
theorem dX11_border_62 : decode cX11_border 62 = .ok (.iload_n 3, 1) := by decide +kernel
theorem dX11_border_63 : decode cX11_border 63 = .ok (.isub, 1) := by decide +kernel
theorem dX11_border_64 : decode cX11_border 64 = .ok (.iconst 1, 1) := by decide +kernel
theorem dX11_border_65 : decode cX11_border 65 = .ok (.iadd, 1) := by decide +kernel
theorem dX11_border_66 : decode cX11_border 66 = .ok (.iload 5, 2) := by decide +kernel
theorem dX11_border_68 : decode cX11_border 68 = .ok (.iadd, 1) := by decide +kernel
theorem dX11_border_69 : decode cX11_border 69 = .ok (.iaload, 1) := by decide +kernel
theorem dX11_border_70 : decode cX11_border 70 = .ok (.if_icmp .ne 7, 3) := by decide +kernel
theorem dX11_border_73 : decode cX11_border 73 = .ok (.iconst 1, 1) := by decide +kernel
theorem dX11_border_74 : decode cX11_border 74 = .ok (.goto 4, 3) := by decide +kernel
theorem dX11_border_77 : decode cX11_border 77 = .ok (.iconst 0, 1) := by decide +kernel
theorem dX11_border_78 : decode cX11_border 78 = .ok (.istore 4, 2) := by decide +kernel
theorem dX11_border_80 : decode cX11_border 80 = .ok (.iinc 5 1, 3) := by decide +kernel
theorem dX11_border_83 : decode cX11_border 83 = .ok (.goto (-46), 3) := by decide +kernel
theorem dX11_border_86 : decode cX11_border 86 = .ok (.iload 4, 2) := by decide +kernel
theorem dX11_border_88 : decode cX11_border 88 = .ok (.ifCond .eq 5, 3) := by decide +kernel
theorem dX11_border_91 : decode cX11_border 91 = .ok (.iload_n 3, 1) := by decide +kernel
theorem dX11_border_92 : decode cX11_border 92 = .ok (.ireturn, 1) := by decide +kernel
theorem dX11_border_93 : decode cX11_border 93 = .ok (.iinc 3 (-1), 3) := by decide +kernel
theorem dX11_border_96 : decode cX11_border 96 = .ok (.goto (-85), 3) := by decide +kernel
theorem dX11_border_99 : decode cX11_border 99 = .ok (.iconst 0, 1) := by decide +kernel
theorem dX11_border_100 : decode cX11_border 100 = .ok (.ireturn, 1) := by decide +kernel
theorem dX11_forbid_0 : decode cX11_forbid 0 = .ok (.iload_n 1, 1) := by decide +kernel
theorem dX11_forbid_1 : decode cX11_forbid 1 = .ok (.invokestatic 135, 3) := by decide +kernel
theorem dX11_forbid_4 : decode cX11_forbid 4 = .ok (.ifCond .eq 10, 3) := by decide +kernel
theorem dX11_forbid_7 : decode cX11_forbid 7 = .ok (.iload_n 2, 1) := by decide +kernel
theorem dX11_forbid_8 : decode cX11_forbid 8 = .ok (.invokestatic 135, 3) := by decide +kernel
theorem dX11_forbid_11 : decode cX11_forbid 11 = .ok (.ifCond .ne 6, 3) := by decide +kernel
theorem dX11_forbid_14 : decode cX11_forbid 14 = .ok (.bipush (-2), 2) := by decide +kernel
theorem dX11_forbid_16 : decode cX11_forbid 16 = .ok (.ireturn, 1) := by decide +kernel
theorem dX11_forbid_17 : decode cX11_forbid 17 = .ok (.aload_n 0, 1) := by decide +kernel
theorem dX11_forbid_18 : decode cX11_forbid 18 = .ok (.invokevirtual 207, 3) := by decide +kernel
theorem dX11_forbid_21 : decode cX11_forbid 21 = .ok (.istore_n 3, 1) := by decide +kernel
theorem dX11_forbid_22 : decode cX11_forbid 22 = .ok (.iload_n 3, 1) := by decide +kernel
theorem dX11_forbid_23 : decode cX11_forbid 23 = .ok (.iconst (-1), 1) := by decide +kernel
theorem dX11_forbid_24 : decode cX11_forbid 24 = .ok (.if_icmp .eq 8, 3) := by decide +kernel
theorem dX11_forbid_27 : decode cX11_forbid 27 = .ok (.bipush (-100), 2) := by decide +kernel
theorem dX11_forbid_29 : decode cX11_forbid 29 = .ok (.iload_n 3, 1) := by decide +kernel
theorem dX11_forbid_30 : decode cX11_forbid 30 = .ok (.isub, 1) := by decide +kernel
theorem dX11_forbid_31 : decode cX11_forbid 31 = .ok (.ireturn, 1) := by decide +kernel
theorem dX11_forbid_32 : decode cX11_forbid 32 = .ok (.aload_n 0, 1) := by decide +kernel
theorem dX11_forbid_33 : decode cX11_forbid 33 = .ok (.getfield 167, 3) := by decide +kernel
theorem dX11_forbid_36 : decode cX11_forbid 36 = .ok (.iconst 1, 1) := by decide +kernel
theorem dX11_forbid_37 : decode cX11_forbid 37 = .ok (.bipush 6, 2) := by decide +kernel
theorem dX11_forbid_39 : decode cX11_forbid 39 = .ok (.invokestatic 118, 3) := by decide +kernel
theorem dX11_forbid_42 : decode cX11_forbid 42 = .ok (.ifCond .ne 6, 3) := by decide +kernel
theorem dX11_forbid_45 : decode cX11_forbid 45 = .ok (.bipush (-2), 2) := by decide +kernel
theorem dX11_forbid_47 : decode cX11_forbid 47 = .ok (.ireturn, 1) := by decide +kernel
theorem dX11_forbid_48 : decode cX11_forbid 48 = .ok (.aload_n 0, 1) := by decide +kernel
theorem dX11_forbid_49 : decode cX11_forbid 49 = .ok (.invokevirtual 317, 3) := by decide +kernel
theorem dX11_forbid_52 : decode cX11_forbid 52 = .ok (.iconst 0, 1) := by decide +kernel
theorem dX11_forbid_53 : decode cX11_forbid 53 = .ok (.istore 4, 2) := by decide +kernel
theorem dX11_forbid_55 : decode cX11_forbid 55 = .ok (.iload 4, 2) := by decide +kernel
theorem dX11_forbid_57 : decode cX11_forbid 57 = .ok (.bipush 8, 2) := by decide +kernel
theorem dX11_forbid_59 : decode cX11_forbid 59 = .ok (.if_icmp .ge 142, 3) := by decide +kernel
theorem dX11_forbid_62 : decode cX11_forbid 62 = .ok (.iconst 0, 1) := by decide +kernel
theorem dX11_forbid_63 : decode cX11_forbid 63 = .ok (.istore 5, 2) := by decide +kernel
theorem dX11_forbid_65 : decode cX11_forbid 65 = .ok (.iload 5, 2) := by decide +kernel
theorem dX11_forbid_67 : decode cX11_forbid 67 = .ok (.aload_n 0, 1) := by decide +kernel
theorem dX11_forbid_68 : decode cX11_forbid 68 = .ok (.getfield 167, 3) := by decide +kernel
theorem dX11_forbid_71 : decode cX11_forbid 71 = .ok (.if_icmp .ge 124, 3) := by decide +kernel
theorem dX11_forbid_74 : decode cX11_forbid 74 = .ok (.iconst 0, 1) := by decide +kernel
theorem dX11_forbid_75 : decode cX11_forbid 75 = .ok (.istore 6, 2) := by decide +kernel
theorem dX11_forbid_77 : decode cX11_forbid 77 = .ok (.iload 6, 2) := by decide +kernel
theorem dX11_forbid_79 : decode cX11_forbid 79 = .ok (.iconst 4, 1) := by decide +kernel
theorem dX11_forbid_80 : decode cX11_forbid 80 = .ok (.if_icmp .ge 109, 3) := by decide +kernel
theorem dX11_forbid_83 : decode cX11_forbid 83 = .ok (.aload_n 0, 1) := by decide +kernel
theorem dX11_forbid_84 : decode cX11_forbid 84 = .ok (.iload 5, 2) := by decide +kernel
theorem dX11_forbid_86 : decode cX11_forbid 86 = .ok (.iload 6, 2) := by decide +kernel
theorem dX11_forbid_88 : decode cX11_forbid 88 = .ok (.invokevirtual 328, 3) := by decide +kernel
theorem dX11_forbid_91 : decode cX11_forbid 91 = .ok (.istore 7, 2) := by decide +kernel
theorem dX11_forbid_93 : decode cX11_forbid 93 = .ok (.iload 7, 2) := by decide +kernel
theorem dX11_forbid_95 : decode cX11_forbid 95 = .ok (.aload_n 0, 1) := by decide +kernel
theorem dX11_forbid_96 : decode cX11_forbid 96 = .ok (.getfield 167, 3) := by decide +kernel
theorem dX11_forbid_99 : decode cX11_forbid 99 = .ok (.if_icmp .ge 15, 3) := by decide +kernel
theorem dX11_forbid_102 : decode cX11_forbid 102 = .ok (.aload_n 0, 1) := by decide +kernel
theorem dX11_forbid_103 : decode cX11_forbid 103 = .ok (.iload_n 1, 1) := by decide +kernel
theorem dX11_forbid_104 : decode cX11_forbid 104 = .ok (.iload 4, 2) := by decide +kernel
theorem dX11_forbid_106 : decode cX11_forbid 106 = .ok (.iload 6, 2) := by decide +kernel
theorem dX11_forbid_108 : decode cX11_forbid 108 = .ok (.invokevirtual 152, 3) := by decide +kernel
theorem dX11_forbid_111 : decode cX11_forbid 111 = .ok (.goto 4, 3) := by decide +kernel
theorem dX11_forbid_114 : decode cX11_forbid 114 = .ok (.iconst 0, 1) := by decide +kernel
theorem dX11_forbid_115 : decode cX11_forbid 115 = .ok (.istore 8, 2) := by decide +kernel
theorem dX11_forbid_117 : decode cX11_forbid 117 = .ok (.iconst 0, 1) := by decide +kernel
theorem dX11_forbid_118 : decode cX11_forbid 118 = .ok (.istore 9, 2) := by decide +kernel
theorem dX11_forbid_120 : decode cX11_forbid 120 = .ok (.iload 9, 2) := by decide +kernel
theorem dX11_forbid_122 : decode cX11_forbid 122 = .ok (.bipush 8, 2) := by decide +kernel
theorem dX11_forbid_124 : decode cX11_forbid 124 = .ok (.if_icmp .ge 59, 3) := by decide +kernel
theorem dX11_forbid_127 : decode cX11_forbid 127 = .ok (.aload_n 0, 1) := by decide +kernel
theorem dX11_forbid_128 : decode cX11_forbid 128 = .ok (.getfield 102, 3) := by decide +kernel
theorem dX11_forbid_131 : decode cX11_forbid 131 = .ok (.iconst 4, 1) := by decide +kernel
theorem dX11_forbid_132 : decode cX11_forbid 132 = .ok (.aload_n 0, 1) := by decide +kernel
theorem dX11_forbid_133 : decode cX11_forbid 133 = .ok (.getfield 167, 3) := by decide +kernel
theorem dX11_forbid_136 : decode cX11_forbid 136 = .ok (.iload 4, 2) := by decide +kernel
theorem dX11_forbid_138 : decode cX11_forbid 138 = .ok (.imul, 1) := by decide +kernel
theorem dX11_forbid_139 : decode cX11_forbid 139 = .ok (.iload 5, 2) := by decide +kernel
theorem dX11_forbid_141 : decode cX11_forbid 141 = .ok (.iadd, 1) := by decide +kernel
theorem dX11_forbid_142 : decode cX11_forbid 142 = .ok (.imul, 1) := by decide +kernel
theorem dX11_forbid_143 : decode cX11_forbid 143 = .ok (.iload 6, 2) := by decide +kernel
theorem dX11_forbid_145 : decode cX11_forbid 145 = .ok (.iadd, 1) := by decide +kernel
theorem dX11_forbid_146 : decode cX11_forbid 146 = .ok (.dup2, 1) := by decide +kernel
theorem dX11_forbid_147 : decode cX11_forbid 147 = .ok (.laload, 1) := by decide +kernel
theorem dX11_forbid_148 : decode cX11_forbid 148 = .ok (.iload 8, 2) := by decide +kernel
theorem dX11_forbid_150 : decode cX11_forbid 150 = .ok (.iload 9, 2) := by decide +kernel
theorem dX11_forbid_152 : decode cX11_forbid 152 = .ok (.ishr, 1) := by decide +kernel
theorem dX11_forbid_153 : decode cX11_forbid 153 = .ok (.iconst 1, 1) := by decide +kernel
theorem dX11_forbid_154 : decode cX11_forbid 154 = .ok (.iand, 1) := by decide +kernel
theorem dX11_forbid_155 : decode cX11_forbid 155 = .ok (.iconst 1, 1) := by decide +kernel
theorem dX11_forbid_156 : decode cX11_forbid 156 = .ok (.if_icmp .ne 18, 3) := by decide +kernel
theorem dX11_forbid_159 : decode cX11_forbid 159 = .ok (.lconst 1, 1) := by decide +kernel
theorem dX11_forbid_160 : decode cX11_forbid 160 = .ok (.aload_n 0, 1) := by decide +kernel
theorem dX11_forbid_161 : decode cX11_forbid 161 = .ok (.getfield 167, 3) := by decide +kernel
theorem dX11_forbid_164 : decode cX11_forbid 164 = .ok (.iload 9, 2) := by decide +kernel
theorem dX11_forbid_166 : decode cX11_forbid 166 = .ok (.imul, 1) := by decide +kernel
theorem dX11_forbid_167 : decode cX11_forbid 167 = .ok (.iload 7, 2) := by decide +kernel
theorem dX11_forbid_169 : decode cX11_forbid 169 = .ok (.iadd, 1) := by decide +kernel
theorem dX11_forbid_170 : decode cX11_forbid 170 = .ok (.lshl, 1) := by decide +kernel
theorem dX11_forbid_171 : decode cX11_forbid 171 = .ok (.goto 4, 3) := by decide +kernel
theorem dX11_forbid_174 : decode cX11_forbid 174 = .ok (.lconst 0, 1) := by decide +kernel
theorem dX11_forbid_175 : decode cX11_forbid 175 = .ok (.lor, 1) := by decide +kernel
theorem dX11_forbid_176 : decode cX11_forbid 176 = .ok (.lastore, 1) := by decide +kernel
theorem dX11_forbid_177 : decode cX11_forbid 177 = .ok (.iinc 9 1, 3) := by decide +kernel
theorem dX11_forbid_180 : decode cX11_forbid 180 = .ok (.goto (-60), 3) := by decide +kernel
theorem dX11_forbid_183 : decode cX11_forbid 183 = .ok (.iinc 6 1, 3) := by decide +kernel
theorem dX11_forbid_186 : decode cX11_forbid 186 = .ok (.goto (-109), 3) := by decide +kernel
theorem dX11_forbid_189 : decode cX11_forbid 189 = .ok (.iinc 5 1, 3) := by decide +kernel
theorem dX11_forbid_192 : decode cX11_forbid 192 = .ok (.goto (-127), 3) := by decide +kernel
theorem dX11_forbid_195 : decode cX11_forbid 195 = .ok (.iinc 4 1, 3) := by decide +kernel
theorem dX11_forbid_198 : decode cX11_forbid 198 = .ok (.goto (-143), 3) := by decide +kernel
theorem dX11_forbid_201 : decode cX11_forbid 201 = .ok (.aload_n 0, 1) := by decide +kernel
theorem dX11_forbid_202 : decode cX11_forbid 202 = .ok (.iload_n 2, 1) := by decide +kernel
theorem dX11_forbid_203 : decode cX11_forbid 203 = .ok (.invokevirtual 320, 3) := by decide +kernel
theorem dX11_forbid_206 : decode cX11_forbid 206 = .ok (.ireturn, 1) := by decide +kernel
theorem dX11_undo_0 : decode cX11_undo 0 = .ok (.aload_n 0, 1) := by decide +kernel
theorem dX11_undo_1 : decode cX11_undo 1 = .ok (.getfield 131, 3) := by decide +kernel
theorem dX11_undo_4 : decode cX11_undo 4 = .ok (.ifCond .ne 6, 3) := by decide +kernel
theorem dX11_undo_7 : decode cX11_undo 7 = .ok (.bipush (-6), 2) := by decide +kernel
theorem dX11_undo_9 : decode cX11_undo 9 = .ok (.ireturn, 1) := by decide +kernel
theorem dX11_undo_10 : decode cX11_undo 10 = .ok (.aload_n 0, 1) := by decide +kernel
theorem dX11_undo_11 : decode cX11_undo 11 = .ok (.dup, 1) := by decide +kernel
theorem dX11_undo_12 : decode cX11_undo 12 = .ok (.getfield 131, 3) := by decide +kernel
theorem dX11_undo_15 : decode cX11_undo 15 = .ok (.iconst 1, 1) := by decide +kernel
theorem dX11_undo_16 : decode cX11_undo 16 = .ok (.isub, 1) := by decide +kernel
theorem dX11_undo_17 : decode cX11_undo 17 = .ok (.putfield 131, 3) := by decide +kernel
theorem dX11_undo_20 : decode cX11_undo 20 = .ok (.iconst 0, 1) := by decide +kernel
theorem dX11_undo_21 : decode cX11_undo 21 = .ok (.istore_n 1, 1) := by decide +kernel
theorem dX11_undo_22 : decode cX11_undo 22 = .ok (.iload_n 1, 1) := by decide +kernel
theorem dX11_undo_23 : decode cX11_undo 23 = .ok (.bipush 32, 2) := by decide +kernel
theorem dX11_undo_25 : decode cX11_undo 25 = .ok (.if_icmp .ge 42, 3) := by decide +kernel
theorem dX11_undo_28 : decode cX11_undo 28 = .ok (.aload_n 0, 1) := by decide +kernel
theorem dX11_undo_29 : decode cX11_undo 29 = .ok (.getfield 9, 3) := by decide +kernel
theorem dX11_undo_32 : decode cX11_undo 32 = .ok (.bipush 32, 2) := by decide +kernel
theorem dX11_undo_34 : decode cX11_undo 34 = .ok (.aload_n 0, 1) := by decide +kernel
theorem dX11_undo_35 : decode cX11_undo 35 = .ok (.getfield 21, 3) := by decide +kernel
theorem dX11_undo_38 : decode cX11_undo 38 = .ok (.aload_n 0, 1) := by decide +kernel
theorem dX11_undo_39 : decode cX11_undo 39 = .ok (.getfield 131, 3) := by decide +kernel
theorem dX11_undo_42 : decode cX11_undo 42 = .ok (.iaload, 1) := by decide +kernel
theorem dX11_undo_43 : decode cX11_undo 43 = .ok (.imul, 1) := by decide +kernel
theorem dX11_undo_44 : decode cX11_undo 44 = .ok (.iload_n 1, 1) := by decide +kernel
theorem dX11_undo_45 : decode cX11_undo 45 = .ok (.iadd, 1) := by decide +kernel
theorem dX11_undo_46 : decode cX11_undo 46 = .ok (.aload_n 0, 1) := by decide +kernel
theorem dX11_undo_47 : decode cX11_undo 47 = .ok (.getfield 18, 3) := by decide +kernel
theorem dX11_undo_50 : decode cX11_undo 50 = .ok (.bipush 32, 2) := by decide +kernel
theorem dX11_undo_52 : decode cX11_undo 52 = .ok (.aload_n 0, 1) := by decide +kernel
theorem dX11_undo_53 : decode cX11_undo 53 = .ok (.getfield 131, 3) := by decide +kernel
theorem dX11_undo_56 : decode cX11_undo 56 = .ok (.imul, 1) := by decide +kernel
theorem dX11_undo_57 : decode cX11_undo 57 = .ok (.iload_n 1, 1) := by decide +kernel
theorem dX11_undo_58 : decode cX11_undo 58 = .ok (.iadd, 1) := by decide +kernel
theorem dX11_undo_59 : decode cX11_undo 59 = .ok (.iaload, 1) := by decide +kernel
theorem dX11_undo_60 : decode cX11_undo 60 = .ok (.iastore, 1) := by decide +kernel
theorem dX11_undo_61 : decode cX11_undo 61 = .ok (.iinc 1 1, 3) := by decide +kernel
theorem dX11_undo_64 : decode cX11_undo 64 = .ok (.goto (-42), 3) := by decide +kernel
theorem dX11_undo_67 : decode cX11_undo 67 = .ok (.aload_n 0, 1) := by decide +kernel
theorem dX11_undo_68 : decode cX11_undo 68 = .ok (.getfield 21, 3) := by decide +kernel
theorem dX11_undo_71 : decode cX11_undo 71 = .ok (.aload_n 0, 1) := by decide +kernel
theorem dX11_undo_72 : decode cX11_undo 72 = .ok (.getfield 131, 3) := by decide +kernel
theorem dX11_undo_75 : decode cX11_undo 75 = .ok (.iaload, 1) := by decide +kernel
theorem dX11_undo_76 : decode cX11_undo 76 = .ok (.ireturn, 1) := by decide +kernel
theorem dX11_save_0 : decode cX11_save 0 = .ok (.iconst 0, 1) := by decide +kernel
theorem dX11_save_1 : decode cX11_save 1 = .ok (.istore_n 1, 1) := by decide +kernel
theorem dX11_save_2 : decode cX11_save 2 = .ok (.iload_n 1, 1) := by decide +kernel
theorem dX11_save_3 : decode cX11_save 3 = .ok (.sipush 192, 3) := by decide +kernel
theorem dX11_save_6 : decode cX11_save 6 = .ok (.if_icmp .ge 21, 3) := by decide +kernel
theorem dX11_save_9 : decode cX11_save 9 = .ok (.aload_n 0, 1) := by decide +kernel
theorem dX11_save_10 : decode cX11_save 10 = .ok (.getfield 24, 3) := by decide +kernel
theorem dX11_save_13 : decode cX11_save 13 = .ok (.iload_n 1, 1) := by decide +kernel
theorem dX11_save_14 : decode cX11_save 14 = .ok (.aload_n 0, 1) := by decide +kernel
theorem dX11_save_15 : decode cX11_save 15 = .ok (.getfield 9, 3) := by decide +kernel
theorem dX11_save_18 : decode cX11_save 18 = .ok (.iload_n 1, 1) := by decide +kernel
theorem dX11_save_19 : decode cX11_save 19 = .ok (.iaload, 1) := by decide +kernel
theorem dX11_save_20 : decode cX11_save 20 = .ok (.iastore, 1) := by decide +kernel
theorem dX11_save_21 : decode cX11_save 21 = .ok (.iinc 1 1, 3) := by decide +kernel
theorem dX11_save_24 : decode cX11_save 24 = .ok (.goto (-22), 3) := by decide +kernel
theorem dX11_save_27 : decode cX11_save 27 = .ok (.aload_n 0, 1) := by decide +kernel
theorem dX11_save_28 : decode cX11_save 28 = .ok (.iconst 1, 1) := by decide +kernel
theorem dX11_save_29 : decode cX11_save 29 = .ok (.putfield 331, 3) := by decide +kernel
theorem dX11_save_32 : decode cX11_save 32 = .ok (.aload_n 0, 1) := by decide +kernel
theorem dX11_save_33 : decode cX11_save 33 = .ok (.invokevirtual 335, 3) := by decide +kernel
theorem dX11_save_36 : decode cX11_save 36 = .ok (.ireturn, 1) := by decide +kernel
theorem dX11_restore_0 : decode cX11_restore 0 = .ok (.aload_n 0, 1) := by decide +kernel
theorem dX11_restore_1 : decode cX11_restore 1 = .ok (.getfield 331, 3) := by decide +kernel
theorem dX11_restore_4 : decode cX11_restore 4 = .ok (.ifCond .ne 6, 3) := by decide +kernel
theorem dX11_restore_7 : decode cX11_restore 7 = .ok (.bipush (-6), 2) := by decide +kernel
theorem dX11_restore_9 : decode cX11_restore 9 = .ok (.ireturn, 1) := by decide +kernel
theorem dX11_restore_10 : decode cX11_restore 10 = .ok (.iconst 0, 1) := by decide +kernel
theorem dX11_restore_11 : decode cX11_restore 11 = .ok (.istore_n 1, 1) := by decide +kernel
theorem dX11_restore_12 : decode cX11_restore 12 = .ok (.iload_n 1, 1) := by decide +kernel
theorem dX11_restore_13 : decode cX11_restore 13 = .ok (.sipush 192, 3) := by decide +kernel
theorem dX11_restore_16 : decode cX11_restore 16 = .ok (.if_icmp .ge 21, 3) := by decide +kernel
theorem dX11_restore_19 : decode cX11_restore 19 = .ok (.aload_n 0, 1) := by decide +kernel
theorem dX11_restore_20 : decode cX11_restore 20 = .ok (.getfield 9, 3) := by decide +kernel
theorem dX11_restore_23 : decode cX11_restore 23 = .ok (.iload_n 1, 1) := by decide +kernel
theorem dX11_restore_24 : decode cX11_restore 24 = .ok (.aload_n 0, 1) := by decide +kernel
theorem dX11_restore_25 : decode cX11_restore 25 = .ok (.getfield 24, 3) := by decide +kernel
theorem dX11_restore_28 : decode cX11_restore 28 = .ok (.iload_n 1, 1) := by decide +kernel
theorem dX11_restore_29 : decode cX11_restore 29 = .ok (.iaload, 1) := by decide +kernel
theorem dX11_restore_30 : decode cX11_restore 30 = .ok (.iastore, 1) := by decide +kernel
theorem dX11_restore_31 : decode cX11_restore 31 = .ok (.iinc 1 1, 3) := by decide +kernel
theorem dX11_restore_34 : decode cX11_restore 34 = .ok (.goto (-22), 3) := by decide +kernel
theorem dX11_restore_37 : decode cX11_restore 37 = .ok (.aload_n 0, 1) := by decide +kernel
theorem dX11_restore_38 : decode cX11_restore 38 = .ok (.iconst 0, 1) := by decide +kernel
theorem dX11_restore_39 : decode cX11_restore 39 = .ok (.putfield 131, 3) := by decide +kernel
theorem dX11_restore_42 : decode cX11_restore 42 = .ok (.aload_n 0, 1) := by decide +kernel
theorem dX11_restore_43 : decode cX11_restore 43 = .ok (.invokevirtual 335, 3) := by decide +kernel
theorem dX11_restore_46 : decode cX11_restore 46 = .ok (.ireturn, 1) := by decide +kernel
theorem dX11_isArray_0 : decode cX11_isArray 0 = .ok (.iload_n 0, 1) := by decide +kernel
theorem dX11_isArray_1 : decode cX11_isArray 1 = .ok (.iconst 0, 1) := by decide +kernel
theorem dX11_isArray_2 : decode cX11_isArray 2 = .ok (.iconst 3, 1) := by decide +kernel
theorem dX11_isArray_3 : decode cX11_isArray 3 = .ok (.invokestatic 118, 3) := by decide +kernel
theorem dX11_isArray_6 : decode cX11_isArray 6 = .ok (.ireturn, 1) := by decide +kernel
theorem dX11_isIndex_0 : decode cX11_isIndex 0 = .ok (.iload_n 2, 1) := by decide +kernel
theorem dX11_isIndex_1 : decode cX11_isIndex 1 = .ok (.iconst 0, 1) := by decide +kernel
theorem dX11_isIndex_2 : decode cX11_isIndex 2 = .ok (.aload_n 0, 1) := by decide +kernel
theorem dX11_isIndex_3 : decode cX11_isIndex 3 = .ok (.getfield 108, 3) := by decide +kernel
theorem dX11_isIndex_6 : decode cX11_isIndex 6 = .ok (.iload_n 1, 1) := by decide +kernel
theorem dX11_isIndex_7 : decode cX11_isIndex 7 = .ok (.iaload, 1) := by decide +kernel
theorem dX11_isIndex_8 : decode cX11_isIndex 8 = .ok (.iconst 1, 1) := by decide +kernel
theorem dX11_isIndex_9 : decode cX11_isIndex 9 = .ok (.isub, 1) := by decide +kernel
theorem dX11_isIndex_10 : decode cX11_isIndex 10 = .ok (.invokestatic 118, 3) := by decide +kernel
theorem dX11_isIndex_13 : decode cX11_isIndex 13 = .ok (.ireturn, 1) := by decide +kernel
theorem dX11_createArray_0 : decode cX11_createArray 0 = .ok (.iload_n 1, 1) := by decide +kernel
theorem dX11_createArray_1 : decode cX11_createArray 1 = .ok (.invokestatic 338, 3) := by decide +kernel
theorem dX11_createArray_4 : decode cX11_createArray 4 = .ok (.ifCond .eq 18, 3) := by decide +kernel
theorem dX11_createArray_7 : decode cX11_createArray 7 = .ok (.iload_n 2, 1) := by decide +kernel
theorem dX11_createArray_8 : decode cX11_createArray 8 = .ok (.iconst 0, 1) := by decide +kernel
theorem dX11_createArray_9 : decode cX11_createArray 9 = .ok (.iconst 2, 1) := by decide +kernel
theorem dX11_createArray_10 : decode cX11_createArray 10 = .ok (.invokestatic 118, 3) := by decide +kernel
theorem dX11_createArray_13 : decode cX11_createArray 13 = .ok (.ifCond .eq 9, 3) := by decide +kernel
theorem dX11_createArray_16 : decode cX11_createArray 16 = .ok (.iload_n 3, 1) := by decide +kernel
theorem dX11_createArray_17 : decode cX11_createArray 17 = .ok (.bipush 30, 2) := by decide +kernel
theorem dX11_createArray_19 : decode cX11_createArray 19 = .ok (.if_icmp .le 6, 3) := by decide +kernel
theorem dX11_createArray_22 : decode cX11_createArray 22 = .ok (.bipush (-2), 2) := by decide +kernel
theorem dX11_createArray_24 : decode cX11_createArray 24 = .ok (.ireturn, 1) := by decide +kernel
theorem dX11_createArray_25 : decode cX11_createArray 25 = .ok (.iload_n 3, 1) := by decide +kernel
theorem dX11_createArray_26 : decode cX11_createArray 26 = .ok (.ifCond .ge 6, 3) := by decide +kernel
theorem dX11_createArray_29 : decode cX11_createArray 29 = .ok (.bipush (-14), 2) := by decide +kernel
theorem dX11_createArray_31 : decode cX11_createArray 31 = .ok (.ireturn, 1) := by decide +kernel
theorem dX11_createArray_32 : decode cX11_createArray 32 = .ok (.aload_n 0, 1) := by decide +kernel
theorem dX11_createArray_33 : decode cX11_createArray 33 = .ok (.getfield 105, 3) := by decide +kernel
theorem dX11_createArray_36 : decode cX11_createArray 36 = .ok (.iload_n 1, 1) := by decide +kernel
theorem dX11_createArray_37 : decode cX11_createArray 37 = .ok (.iload_n 2, 1) := by decide +kernel
theorem dX11_createArray_38 : decode cX11_createArray 38 = .ok (.iastore, 1) := by decide +kernel
theorem dX11_createArray_39 : decode cX11_createArray 39 = .ok (.aload_n 0, 1) := by decide +kernel
theorem dX11_createArray_40 : decode cX11_createArray 40 = .ok (.getfield 108, 3) := by decide +kernel
theorem dX11_createArray_43 : decode cX11_createArray 43 = .ok (.iload_n 1, 1) := by decide +kernel
theorem dX11_createArray_44 : decode cX11_createArray 44 = .ok (.iload_n 3, 1) := by decide +kernel
theorem dX11_createArray_45 : decode cX11_createArray 45 = .ok (.iastore, 1) := by decide +kernel
theorem dX11_createArray_46 : decode cX11_createArray 46 = .ok (.iconst 0, 1) := by decide +kernel
theorem dX11_createArray_47 : decode cX11_createArray 47 = .ok (.istore 4, 2) := by decide +kernel
theorem dX11_createArray_49 : decode cX11_createArray 49 = .ok (.iload 4, 2) := by decide +kernel
theorem dX11_createArray_51 : decode cX11_createArray 51 = .ok (.bipush 30, 2) := by decide +kernel
theorem dX11_createArray_53 : decode cX11_createArray 53 = .ok (.if_icmp .ge 35, 3) := by decide +kernel
theorem dX11_createArray_56 : decode cX11_createArray 56 = .ok (.aload_n 0, 1) := by decide +kernel
theorem dX11_createArray_57 : decode cX11_createArray 57 = .ok (.getfield 111, 3) := by decide +kernel
theorem dX11_createArray_60 : decode cX11_createArray 60 = .ok (.bipush 30, 2) := by decide +kernel
theorem dX11_createArray_62 : decode cX11_createArray 62 = .ok (.iload_n 1, 1) := by decide +kernel
theorem dX11_createArray_63 : decode cX11_createArray 63 = .ok (.imul, 1) := by decide +kernel
theorem dX11_createArray_64 : decode cX11_createArray 64 = .ok (.iload 4, 2) := by decide +kernel
theorem dX11_createArray_66 : decode cX11_createArray 66 = .ok (.iadd, 1) := by decide +kernel
theorem dX11_createArray_67 : decode cX11_createArray 67 = .ok (.iconst 0, 1) := by decide +kernel
theorem dX11_createArray_68 : decode cX11_createArray 68 = .ok (.iastore, 1) := by decide +kernel
theorem dX11_createArray_69 : decode cX11_createArray 69 = .ok (.aload_n 0, 1) := by decide +kernel
theorem dX11_createArray_70 : decode cX11_createArray 70 = .ok (.getfield 114, 3) := by decide +kernel
theorem dX11_createArray_73 : decode cX11_createArray 73 = .ok (.bipush 30, 2) := by decide +kernel
theorem dX11_createArray_75 : decode cX11_createArray 75 = .ok (.iload_n 1, 1) := by decide +kernel
theorem dX11_createArray_76 : decode cX11_createArray 76 = .ok (.imul, 1) := by decide +kernel
theorem dX11_createArray_77 : decode cX11_createArray 77 = .ok (.iload 4, 2) := by decide +kernel
theorem dX11_createArray_79 : decode cX11_createArray 79 = .ok (.iadd, 1) := by decide +kernel
theorem dX11_createArray_80 : decode cX11_createArray 80 = .ok (.fconst 0, 1) := by decide +kernel
theorem dX11_createArray_81 : decode cX11_createArray 81 = .ok (.fastore, 1) := by decide +kernel
theorem dX11_createArray_82 : decode cX11_createArray 82 = .ok (.iinc 4 1, 3) := by decide +kernel
theorem dX11_createArray_85 : decode cX11_createArray 85 = .ok (.goto (-36), 3) := by decide +kernel
theorem dX11_createArray_88 : decode cX11_createArray 88 = .ok (.iconst 1, 1) := by decide +kernel
theorem dX11_createArray_89 : decode cX11_createArray 89 = .ok (.ireturn, 1) := by decide +kernel
theorem dX11_setElement_0 : decode cX11_setElement 0 = .ok (.iload_n 1, 1) := by decide +kernel
theorem dX11_setElement_1 : decode cX11_setElement 1 = .ok (.invokestatic 338, 3) := by decide +kernel
theorem dX11_setElement_4 : decode cX11_setElement 4 = .ok (.ifCond .eq 16, 3) := by decide +kernel
theorem dX11_setElement_7 : decode cX11_setElement 7 = .ok (.iload_n 3, 1) := by decide +kernel
theorem dX11_setElement_8 : decode cX11_setElement 8 = .ok (.sipush (-9999), 3) := by decide +kernel
theorem dX11_setElement_11 : decode cX11_setElement 11 = .ok (.sipush 9999, 3) := by decide +kernel
theorem dX11_setElement_14 : decode cX11_setElement 14 = .ok (.invokestatic 118, 3) := by decide +kernel
theorem dX11_setElement_17 : decode cX11_setElement 17 = .ok (.ifCond .ne 6, 3) := by decide +kernel
theorem dX11_setElement_20 : decode cX11_setElement 20 = .ok (.bipush (-2), 2) := by decide +kernel
theorem dX11_setElement_22 : decode cX11_setElement 22 = .ok (.ireturn, 1) := by decide +kernel
theorem dX11_setElement_23 : decode cX11_setElement 23 = .ok (.aload_n 0, 1) := by decide +kernel
theorem dX11_setElement_24 : decode cX11_setElement 24 = .ok (.getfield 105, 3) := by decide +kernel
theorem dX11_setElement_27 : decode cX11_setElement 27 = .ok (.iload_n 1, 1) := by decide +kernel
theorem dX11_setElement_28 : decode cX11_setElement 28 = .ok (.iaload, 1) := by decide +kernel
theorem dX11_setElement_29 : decode cX11_setElement 29 = .ok (.iconst (-1), 1) := by decide +kernel
theorem dX11_setElement_30 : decode cX11_setElement 30 = .ok (.if_icmp .ne 6, 3) := by decide +kernel
theorem dX11_setElement_33 : decode cX11_setElement 33 = .ok (.bipush (-11), 2) := by decide +kernel
theorem dX11_setElement_35 : decode cX11_setElement 35 = .ok (.ireturn, 1) := by decide +kernel
theorem dX11_setElement_36 : decode cX11_setElement 36 = .ok (.aload_n 0, 1) := by decide +kernel
theorem dX11_setElement_37 : decode cX11_setElement 37 = .ok (.iload_n 1, 1) := by decide +kernel
theorem dX11_setElement_38 : decode cX11_setElement 38 = .ok (.iload_n 2, 1) := by decide +kernel
theorem dX11_setElement_39 : decode cX11_setElement 39 = .ok (.invokevirtual 341, 3) := by decide +kernel
theorem dX11_setElement_42 : decode cX11_setElement 42 = .ok (.ifCond .ne 6, 3) := by decide +kernel
theorem dX11_setElement_45 : decode cX11_setElement 45 = .ok (.bipush (-13), 2) := by decide +kernel
theorem dX11_setElement_47 : decode cX11_setElement 47 = .ok (.ireturn, 1) := by decide +kernel
theorem dX11_setElement_48 : decode cX11_setElement 48 = .ok (.aload_n 0, 1) := by decide +kernel
theorem dX11_setElement_49 : decode cX11_setElement 49 = .ok (.getfield 111, 3) := by decide +kernel
theorem dX11_setElement_52 : decode cX11_setElement 52 = .ok (.bipush 30, 2) := by decide +kernel
theorem dX11_setElement_54 : decode cX11_setElement 54 = .ok (.iload_n 1, 1) := by decide +kernel
theorem dX11_setElement_55 : decode cX11_setElement 55 = .ok (.imul, 1) := by decide +kernel
theorem dX11_setElement_56 : decode cX11_setElement 56 = .ok (.iload_n 2, 1) := by decide +kernel
theorem dX11_setElement_57 : decode cX11_setElement 57 = .ok (.iadd, 1) := by decide +kernel
theorem dX11_setElement_58 : decode cX11_setElement 58 = .ok (.aload_n 0, 1) := by decide +kernel
theorem dX11_setElement_59 : decode cX11_setElement 59 = .ok (.getfield 105, 3) := by decide +kernel
theorem dX11_setElement_62 : decode cX11_setElement 62 = .ok (.iload_n 1, 1) := by decide +kernel
theorem dX11_setElement_63 : decode cX11_setElement 63 = .ok (.iaload, 1) := by decide +kernel
theorem dX11_setElement_64 : decode cX11_setElement 64 = .ok (.ifCond .ne 8, 3) := by decide +kernel
theorem dX11_setElement_67 : decode cX11_setElement 67 = .ok (.iload_n 3, 1) := by decide +kernel
theorem dX11_setElement_68 : decode cX11_setElement 68 = .ok (.i2b, 1) := by decide +kernel
theorem dX11_setElement_69 : decode cX11_setElement 69 = .ok (.goto 5, 3) := by decide +kernel
theorem dX11_setElement_72 : decode cX11_setElement 72 = .ok (.iload_n 3, 1) := by decide +kernel
theorem dX11_setElement_73 : decode cX11_setElement 73 = .ok (.i2c, 1) := by decide +kernel
theorem dX11_setElement_74 : decode cX11_setElement 74 = .ok (.iastore, 1) := by decide +kernel
theorem dX11_setElement_75 : decode cX11_setElement 75 = .ok (.aload_n 0, 1) := by decide +kernel
theorem dX11_setElement_76 : decode cX11_setElement 76 = .ok (.getfield 114, 3) := by decide +kernel
theorem dX11_setElement_79 : decode cX11_setElement 79 = .ok (.bipush 30, 2) := by decide +kernel
theorem dX11_setElement_81 : decode cX11_setElement 81 = .ok (.iload_n 1, 1) := by decide +kernel
theorem dX11_setElement_82 : decode cX11_setElement 82 = .ok (.imul, 1) := by decide +kernel
theorem dX11_setElement_83 : decode cX11_setElement 83 = .ok (.iload_n 2, 1) := by decide +kernel
theorem dX11_setElement_84 : decode cX11_setElement 84 = .ok (.iadd, 1) := by decide +kernel
theorem dX11_setElement_85 : decode cX11_setElement 85 = .ok (.iload_n 3, 1) := by decide +kernel
theorem dX11_setElement_86 : decode cX11_setElement 86 = .ok (.i2f, 1) := by decide +kernel
theorem dX11_setElement_87 : decode cX11_setElement 87 = .ok (.ldc_w 344, 3) := by decide +kernel
theorem dX11_setElement_90 : decode cX11_setElement 90 = .ok (.fdiv, 1) := by decide +kernel
theorem dX11_setElement_91 : decode cX11_setElement 91 = .ok (.fastore, 1) := by decide +kernel
theorem dX11_setElement_92 : decode cX11_setElement 92 = .ok (.iconst 1, 1) := by decide +kernel
theorem dX11_setElement_93 : decode cX11_setElement 93 = .ok (.ireturn, 1) := by decide +kernel
theorem dX11_setNaN_0 : decode cX11_setNaN 0 = .ok (.iload_n 1, 1) := by decide +kernel
theorem dX11_setNaN_1 : decode cX11_setNaN 1 = .ok (.invokestatic 338, 3) := by decide +kernel
theorem dX11_setNaN_4 : decode cX11_setNaN 4 = .ok (.ifCond .ne 6, 3) := by decide +kernel
theorem dX11_setNaN_7 : decode cX11_setNaN 7 = .ok (.bipush (-2), 2) := by decide +kernel
theorem dX11_setNaN_9 : decode cX11_setNaN 9 = .ok (.ireturn, 1) := by decide +kernel
theorem dX11_setNaN_10 : decode cX11_setNaN 10 = .ok (.aload_n 0, 1) := by decide +kernel
theorem dX11_setNaN_11 : decode cX11_setNaN 11 = .ok (.getfield 105, 3) := by decide +kernel
theorem dX11_setNaN_14 : decode cX11_setNaN 14 = .ok (.iload_n 1, 1) := by decide +kernel
theorem dX11_setNaN_15 : decode cX11_setNaN 15 = .ok (.iaload, 1) := by decide +kernel
theorem dX11_setNaN_16 : decode cX11_setNaN 16 = .ok (.iconst (-1), 1) := by decide +kernel
theorem dX11_setNaN_17 : decode cX11_setNaN 17 = .ok (.if_icmp .ne 6, 3) := by decide +kernel
theorem dX11_setNaN_20 : decode cX11_setNaN 20 = .ok (.bipush (-11), 2) := by decide +kernel
theorem dX11_setNaN_22 : decode cX11_setNaN 22 = .ok (.ireturn, 1) := by decide +kernel
theorem dX11_setNaN_23 : decode cX11_setNaN 23 = .ok (.aload_n 0, 1) := by decide +kernel
theorem dX11_setNaN_24 : decode cX11_setNaN 24 = .ok (.getfield 105, 3) := by decide +kernel
theorem dX11_setNaN_27 : decode cX11_setNaN 27 = .ok (.iload_n 1, 1) := by decide +kernel
theorem dX11_setNaN_28 : decode cX11_setNaN 28 = .ok (.iaload, 1) := by decide +kernel
theorem dX11_setNaN_29 : decode cX11_setNaN 29 = .ok (.iconst 2, 1) := by decide +kernel
theorem dX11_setNaN_30 : decode cX11_setNaN 30 = .ok (.if_icmp .eq 6, 3) := by decide +kernel
theorem dX11_setNaN_33 : decode cX11_setNaN 33 = .ok (.bipush (-12), 2) := by decide +kernel
theorem dX11_setNaN_35 : decode cX11_setNaN 35 = .ok (.ireturn, 1) := by decide +kernel
theorem dX11_setNaN_36 : decode cX11_setNaN 36 = .ok (.aload_n 0, 1) := by decide +kernel
theorem dX11_setNaN_37 : decode cX11_setNaN 37 = .ok (.iload_n 1, 1) := by decide +kernel
theorem dX11_setNaN_38 : decode cX11_setNaN 38 = .ok (.iload_n 2, 1) := by decide +kernel
theorem dX11_setNaN_39 : decode cX11_setNaN 39 = .ok (.invokevirtual 341, 3) := by decide +kernel
theorem dX11_setNaN_42 : decode cX11_setNaN 42 = .ok (.ifCond .ne 6, 3) := by decide +kernel
theorem dX11_setNaN_45 : decode cX11_setNaN 45 = .ok (.bipush (-13), 2) := by decide +kernel
theorem dX11_setNaN_47 : decode cX11_setNaN 47 = .ok (.ireturn, 1) := by decide +kernel
theorem dX11_setNaN_48 : decode cX11_setNaN 48 = .ok (.aload_n 0, 1) := by decide +kernel
theorem dX11_setNaN_49 : decode cX11_setNaN 49 = .ok (.getfield 114, 3) := by decide +kernel
theorem dX11_setNaN_52 : decode cX11_setNaN 52 = .ok (.bipush 30, 2) := by decide +kernel
theorem dX11_setNaN_54 : decode cX11_setNaN 54 = .ok (.iload_n 1, 1) := by decide +kernel
theorem dX11_setNaN_55 : decode cX11_setNaN 55 = .ok (.imul, 1) := by decide +kernel
theorem dX11_setNaN_56 : decode cX11_setNaN 56 = .ok (.iload_n 2, 1) := by decide +kernel
theorem dX11_setNaN_57 : decode cX11_setNaN 57 = .ok (.iadd, 1) := by decide +kernel
theorem dX11_setNaN_58 : decode cX11_setNaN 58 = .ok (.ldc_w 347, 3) := by decide +kernel
theorem dX11_setNaN_61 : decode cX11_setNaN 61 = .ok (.fastore, 1) := by decide +kernel
theorem dX11_setNaN_62 : decode cX11_setNaN 62 = .ok (.iconst 1, 1) := by decide +kernel
theorem dX11_setNaN_63 : decode cX11_setNaN 63 = .ok (.ireturn, 1) := by decide +kernel
theorem dX11_compareElements_0 : decode cX11_compareElements 0 = .ok (.iload_n 1, 1) := by decide +kernel
theorem dX11_compareElements_1 : decode cX11_compareElements 1 = .ok (.invokestatic 338, 3) := by decide +kernel
theorem dX11_compareElements_4 : decode cX11_compareElements 4 = .ok (.ifCond .ne 6, 3) := by decide +kernel
theorem dX11_compareElements_7 : decode cX11_compareElements 7 = .ok (.bipush (-2), 2) := by decide +kernel
theorem dX11_compareElements_9 : decode cX11_compareElements 9 = .ok (.ireturn, 1) := by decide +kernel
theorem dX11_compareElements_10 : decode cX11_compareElements 10 = .ok (.aload_n 0, 1) := by decide +kernel
theorem dX11_compareElements_11 : decode cX11_compareElements 11 = .ok (.getfield 105, 3) := by decide +kernel
theorem dX11_compareElements_14 : decode cX11_compareElements 14 = .ok (.iload_n 1, 1) := by decide +kernel
theorem dX11_compareElements_15 : decode cX11_compareElements 15 = .ok (.iaload, 1) := by decide +kernel
theorem dX11_compareElements_16 : decode cX11_compareElements 16 = .ok (.iconst (-1), 1) := by decide +kernel
theorem dX11_compareElements_17 : decode cX11_compareElements 17 = .ok (.if_icmp .ne 6, 3) := by decide +kernel
theorem dX11_compareElements_20 : decode cX11_compareElements 20 = .ok (.bipush (-11), 2) := by decide +kernel
theorem dX11_compareElements_22 : decode cX11_compareElements 22 = .ok (.ireturn, 1) := by decide +kernel
theorem dX11_compareElements_23 : decode cX11_compareElements 23 = .ok (.aload_n 0, 1) := by decide +kernel
theorem dX11_compareElements_24 : decode cX11_compareElements 24 = .ok (.iload_n 1, 1) := by decide +kernel
theorem dX11_compareElements_25 : decode cX11_compareElements 25 = .ok (.iload_n 2, 1) := by decide +kernel
theorem dX11_compareElements_26 : decode cX11_compareElements 26 = .ok (.invokevirtual 341, 3) := by decide +kernel
theorem dX11_compareElements_29 : decode cX11_compareElements 29 = .ok (.ifCond .eq 12, 3) := by decide +kernel
theorem dX11_compareElements_32 : decode cX11_compareElements 32 = .ok (.aload_n 0, 1) := by decide +kernel
theorem dX11_compareElements_33 : decode cX11_compareElements 33 = .ok (.iload_n 1, 1) := by decide +kernel
theorem dX11_compareElements_34 : decode cX11_compareElements 34 = .ok (.iload_n 3, 1) := by decide +kernel
theorem dX11_compareElements_35 : decode cX11_compareElements 35 = .ok (.invokevirtual 341, 3) := by decide +kernel
theorem dX11_compareElements_38 : decode cX11_compareElements 38 = .ok (.ifCond .ne 6, 3) := by decide +kernel
theorem dX11_compareElements_41 : decode cX11_compareElements 41 = .ok (.bipush (-13), 2) := by decide +kernel
theorem dX11_compareElements_43 : decode cX11_compareElements 43 = .ok (.ireturn, 1) := by decide +kernel
theorem dX11_compareElements_44 : decode cX11_compareElements 44 = .ok (.aload_n 0, 1) := by decide +kernel
theorem dX11_compareElements_45 : decode cX11_compareElements 45 = .ok (.getfield 105, 3) := by decide +kernel
theorem dX11_compareElements_48 : decode cX11_compareElements 48 = .ok (.iload_n 1, 1) := by decide +kernel
theorem dX11_compareElements_49 : decode cX11_compareElements 49 = .ok (.iaload, 1) := by decide +kernel
theorem dX11_compareElements_50 : decode cX11_compareElements 50 = .ok (.iconst 2, 1) := by decide +kernel
theorem dX11_compareElements_51 : decode cX11_compareElements 51 = .ok (.if_icmp .ne 17, 3) := by decide +kernel
theorem dX11_compareElements_54 : decode cX11_compareElements 54 = .ok (.aload_n 0, 1) := by decide +kernel
theorem dX11_compareElements_55 : decode cX11_compareElements 55 = .ok (.getfield 114, 3) := by decide +kernel
theorem dX11_compareElements_58 : decode cX11_compareElements 58 = .ok (.bipush 30, 2) := by decide +kernel
theorem dX11_compareElements_60 : decode cX11_compareElements 60 = .ok (.iload_n 1, 1) := by decide +kernel
theorem dX11_compareElements_61 : decode cX11_compareElements 61 = .ok (.imul, 1) := by decide +kernel
theorem dX11_compareElements_62 : decode cX11_compareElements 62 = .ok (.iload_n 2, 1) := by decide +kernel
theorem dX11_compareElements_63 : decode cX11_compareElements 63 = .ok (.iadd, 1) := by decide +kernel
theorem dX11_compareElements_64 : decode cX11_compareElements 64 = .ok (.faload, 1) := by decide +kernel
theorem dX11_compareElements_65 : decode cX11_compareElements 65 = .ok (.goto 15, 3) := by decide +kernel
theorem dX11_compareElements_68 : decode cX11_compareElements 68 = .ok (.aload_n 0, 1) := by decide +kernel
theorem dX11_compareElements_69 : decode cX11_compareElements 69 = .ok (.getfield 111, 3) := by decide +kernel
theorem dX11_compareElements_72 : decode cX11_compareElements 72 = .ok (.bipush 30, 2) := by decide +kernel
theorem dX11_compareElements_74 : decode cX11_compareElements 74 = .ok (.iload_n 1, 1) := by decide +kernel
theorem dX11_compareElements_75 : decode cX11_compareElements 75 = .ok (.imul, 1) := by decide +kernel
theorem dX11_compareElements_76 : decode cX11_compareElements 76 = .ok (.iload_n 2, 1) := by decide +kernel
theorem dX11_compareElements_77 : decode cX11_compareElements 77 = .ok (.iadd, 1) := by decide +kernel
theorem dX11_compareElements_78 : decode cX11_compareElements 78 = .ok (.iaload, 1) := by decide +kernel
theorem dX11_compareElements_79 : decode cX11_compareElements 79 = .ok (.i2f, 1) := by decide +kernel
theorem dX11_compareElements_80 : decode cX11_compareElements 80 = .ok (.fstore 4, 2) := by decide +kernel
theorem dX11_compareElements_82 : decode cX11_compareElements 82 = .ok (.aload_n 0, 1) := by decide +kernel
theorem dX11_compareElements_83 : decode cX11_compareElements 83 = .ok (.getfield 105, 3) := by decide +kernel
theorem dX11_compareElements_86 : decode cX11_compareElements 86 = .ok (.iload_n 1, 1) := by decide +kernel
theorem dX11_compareElements_87 : decode cX11_compareElements 87 = .ok (.iaload, 1) := by decide +kernel
theorem dX11_compareElements_88 : decode cX11_compareElements 88 = .ok (.iconst 2, 1) := by decide +kernel
theorem dX11_compareElements_89 : decode cX11_compareElements 89 = .ok (.if_icmp .ne 17, 3) := by decide +kernel
theorem dX11_compareElements_92 : decode cX11_compareElements 92 = .ok (.aload_n 0, 1) := by decide +kernel
theorem dX11_compareElements_93 : decode cX11_compareElements 93 = .ok (.getfield 114, 3) := by decide +kernel
theorem dX11_compareElements_96 : decode cX11_compareElements 96 = .ok (.bipush 30, 2) := by decide +kernel
theorem dX11_compareElements_98 : decode cX11_compareElements 98 = .ok (.iload_n 1, 1) := by decide +kernel
theorem dX11_compareElements_99 : decode cX11_compareElements 99 = .ok (.imul, 1) := by decide +kernel
theorem dX11_compareElements_100 : decode cX11_compareElements 100 = .ok (.iload_n 3, 1) := by decide +kernel
theorem dX11_compareElements_101 : decode cX11_compareElements 101 = .ok (.iadd, 1) := by decide +kernel
theorem dX11_compareElements_102 : decode cX11_compareElements 102 = .ok (.faload, 1) := by decide +kernel
theorem dX11_compareElements_103 : decode cX11_compareElements 103 = .ok (.goto 15, 3) := by decide +kernel
theorem dX11_compareElements_106 : decode cX11_compareElements 106 = .ok (.aload_n 0, 1) := by decide +kernel
theorem dX11_compareElements_107 : decode cX11_compareElements 107 = .ok (.getfield 111, 3) := by decide +kernel
theorem dX11_compareElements_110 : decode cX11_compareElements 110 = .ok (.bipush 30, 2) := by decide +kernel
theorem dX11_compareElements_112 : decode cX11_compareElements 112 = .ok (.iload_n 1, 1) := by decide +kernel
theorem dX11_compareElements_113 : decode cX11_compareElements 113 = .ok (.imul, 1) := by decide +kernel
theorem dX11_compareElements_114 : decode cX11_compareElements 114 = .ok (.iload_n 3, 1) := by decide +kernel
theorem dX11_compareElements_115 : decode cX11_compareElements 115 = .ok (.iadd, 1) := by decide +kernel
theorem dX11_compareElements_116 : decode cX11_compareElements 116 = .ok (.iaload, 1) := by decide +kernel
theorem dX11_compareElements_117 : decode cX11_compareElements 117 = .ok (.i2f, 1) := by decide +kernel
theorem dX11_compareElements_118 : decode cX11_compareElements 118 = .ok (.fstore 5, 2) := by decide +kernel
theorem dX11_compareElements_120 : decode cX11_compareElements 120 = .ok (.fload 4, 2) := by decide +kernel
theorem dX11_compareElements_122 : decode cX11_compareElements 122 = .ok (.fload 5, 2) := by decide +kernel
theorem dX11_compareElements_124 : decode cX11_compareElements 124 = .ok (.fcmp .g, 1) := by decide +kernel
theorem dX11_compareElements_125 : decode cX11_compareElements 125 = .ok (.ifCond .ge 7, 3) := by decide +kernel
theorem dX11_compareElements_128 : decode cX11_compareElements 128 = .ok (.iconst 0, 1) := by decide +kernel
theorem dX11_compareElements_129 : decode cX11_compareElements 129 = .ok (.goto 28, 3) := by decide +kernel
theorem dX11_compareElements_132 : decode cX11_compareElements 132 = .ok (.fload 4, 2) := by decide +kernel
theorem dX11_compareElements_134 : decode cX11_compareElements 134 = .ok (.fload 5, 2) := by decide +kernel
theorem dX11_compareElements_136 : decode cX11_compareElements 136 = .ok (.fcmp .l, 1) := by decide +kernel
theorem dX11_compareElements_137 : decode cX11_compareElements 137 = .ok (.ifCond .ne 7, 3) := by decide +kernel
theorem dX11_compareElements_140 : decode cX11_compareElements 140 = .ok (.iconst 1, 1) := by decide +kernel
theorem dX11_compareElements_141 : decode cX11_compareElements 141 = .ok (.goto 16, 3) := by decide +kernel
theorem dX11_compareElements_144 : decode cX11_compareElements 144 = .ok (.fload 4, 2) := by decide +kernel
theorem dX11_compareElements_146 : decode cX11_compareElements 146 = .ok (.fload 5, 2) := by decide +kernel
theorem dX11_compareElements_148 : decode cX11_compareElements 148 = .ok (.fcmp .l, 1) := by decide +kernel
theorem dX11_compareElements_149 : decode cX11_compareElements 149 = .ok (.ifCond .le 7, 3) := by decide +kernel
theorem dX11_compareElements_152 : decode cX11_compareElements 152 = .ok (.iconst 2, 1) := by decide +kernel
theorem dX11_compareElements_153 : decode cX11_compareElements 153 = .ok (.goto 4, 3) := by decide +kernel
theorem dX11_compareElements_156 : decode cX11_compareElements 156 = .ok (.iconst 3, 1) := by decide +kernel
theorem dX11_compareElements_157 : decode cX11_compareElements 157 = .ok (.ireturn, 1) := by decide +kernel
theorem dX11_holds_0 : decode cX11_holds 0 = .ok (.aload_n 0, 1) := by decide +kernel
theorem dX11_holds_1 : decode cX11_holds 1 = .ok (.getfield 105, 3) := by decide +kernel
theorem dX11_holds_4 : decode cX11_holds 4 = .ok (.iload_n 1, 1) := by decide +kernel
theorem dX11_holds_5 : decode cX11_holds 5 = .ok (.iaload, 1) := by decide +kernel
theorem dX11_holds_6 : decode cX11_holds 6 = .ok (.lookupswitch 72 #[(0, 26), (1, 49)], 26) := by decide +kernel
theorem dX11_holds_32 : decode cX11_holds 32 = .ok (.aload_n 0, 1) := by decide +kernel
theorem dX11_holds_33 : decode cX11_holds 33 = .ok (.getfield 111, 3) := by decide +kernel
theorem dX11_holds_36 : decode cX11_holds 36 = .ok (.bipush 30, 2) := by decide +kernel
theorem dX11_holds_38 : decode cX11_holds 38 = .ok (.iload_n 1, 1) := by decide +kernel
theorem dX11_holds_39 : decode cX11_holds 39 = .ok (.imul, 1) := by decide +kernel
theorem dX11_holds_40 : decode cX11_holds 40 = .ok (.iload_n 2, 1) := by decide +kernel
theorem dX11_holds_41 : decode cX11_holds 41 = .ok (.iadd, 1) := by decide +kernel
theorem dX11_holds_42 : decode cX11_holds 42 = .ok (.iaload, 1) := by decide +kernel
theorem dX11_holds_43 : decode cX11_holds 43 = .ok (.lload_n 3, 1) := by decide +kernel
theorem dX11_holds_44 : decode cX11_holds 44 = .ok (.l2i, 1) := by decide +kernel
theorem dX11_holds_45 : decode cX11_holds 45 = .ok (.i2b, 1) := by decide +kernel
theorem dX11_holds_46 : decode cX11_holds 46 = .ok (.if_icmp .ne 7, 3) := by decide +kernel
theorem dX11_holds_49 : decode cX11_holds 49 = .ok (.iconst 1, 1) := by decide +kernel
theorem dX11_holds_50 : decode cX11_holds 50 = .ok (.goto 4, 3) := by decide +kernel
theorem dX11_holds_53 : decode cX11_holds 53 = .ok (.iconst 0, 1) := by decide +kernel
theorem dX11_holds_54 : decode cX11_holds 54 = .ok (.ireturn, 1) := by decide +kernel
theorem dX11_holds_55 : decode cX11_holds 55 = .ok (.aload_n 0, 1) := by decide +kernel
theorem dX11_holds_56 : decode cX11_holds 56 = .ok (.getfield 111, 3) := by decide +kernel
theorem dX11_holds_59 : decode cX11_holds 59 = .ok (.bipush 30, 2) := by decide +kernel
theorem dX11_holds_61 : decode cX11_holds 61 = .ok (.iload_n 1, 1) := by decide +kernel
theorem dX11_holds_62 : decode cX11_holds 62 = .ok (.imul, 1) := by decide +kernel
theorem dX11_holds_63 : decode cX11_holds 63 = .ok (.iload_n 2, 1) := by decide +kernel
theorem dX11_holds_64 : decode cX11_holds 64 = .ok (.iadd, 1) := by decide +kernel
theorem dX11_holds_65 : decode cX11_holds 65 = .ok (.iaload, 1) := by decide +kernel
theorem dX11_holds_66 : decode cX11_holds 66 = .ok (.lload_n 3, 1) := by decide +kernel
theorem dX11_holds_67 : decode cX11_holds 67 = .ok (.l2i, 1) := by decide +kernel
theorem dX11_holds_68 : decode cX11_holds 68 = .ok (.i2c, 1) := by decide +kernel
theorem dX11_holds_69 : decode cX11_holds 69 = .ok (.if_icmp .ne 7, 3) := by decide +kernel
theorem dX11_holds_72 : decode cX11_holds 72 = .ok (.iconst 1, 1) := by decide +kernel
theorem dX11_holds_73 : decode cX11_holds 73 = .ok (.goto 4, 3) := by decide +kernel
theorem dX11_holds_76 : decode cX11_holds 76 = .ok (.iconst 0, 1) := by decide +kernel
theorem dX11_holds_77 : decode cX11_holds 77 = .ok (.ireturn, 1) := by decide +kernel
theorem dX11_holds_78 : decode cX11_holds 78 = .ok (.aload_n 0, 1) := by decide +kernel
theorem dX11_holds_79 : decode cX11_holds 79 = .ok (.getfield 114, 3) := by decide +kernel
theorem dX11_holds_82 : decode cX11_holds 82 = .ok (.bipush 30, 2) := by decide +kernel
theorem dX11_holds_84 : decode cX11_holds 84 = .ok (.iload_n 1, 1) := by decide +kernel
theorem dX11_holds_85 : decode cX11_holds 85 = .ok (.imul, 1) := by decide +kernel
theorem dX11_holds_86 : decode cX11_holds 86 = .ok (.iload_n 2, 1) := by decide +kernel
theorem dX11_holds_87 : decode cX11_holds 87 = .ok (.iadd, 1) := by decide +kernel
theorem dX11_holds_88 : decode cX11_holds 88 = .ok (.faload, 1) := by decide +kernel
theorem dX11_holds_89 : decode cX11_holds 89 = .ok (.lload_n 3, 1) := by decide +kernel
theorem dX11_holds_90 : decode cX11_holds 90 = .ok (.l2f, 1) := by decide +kernel
theorem dX11_holds_91 : decode cX11_holds 91 = .ok (.fcmp .l, 1) := by decide +kernel
theorem dX11_holds_92 : decode cX11_holds 92 = .ok (.ifCond .ne 7, 3) := by decide +kernel
theorem dX11_holds_95 : decode cX11_holds 95 = .ok (.iconst 1, 1) := by decide +kernel
theorem dX11_holds_96 : decode cX11_holds 96 = .ok (.goto 4, 3) := by decide +kernel
theorem dX11_holds_99 : decode cX11_holds 99 = .ok (.iconst 0, 1) := by decide +kernel
theorem dX11_holds_100 : decode cX11_holds 100 = .ok (.ireturn, 1) := by decide +kernel
theorem dX11_checkCounts_0 : decode cX11_checkCounts 0 = .ok (.iload_n 1, 1) := by decide +kernel
theorem dX11_checkCounts_1 : decode cX11_checkCounts 1 = .ok (.invokestatic 338, 3) := by decide +kernel
theorem dX11_checkCounts_4 : decode cX11_checkCounts 4 = .ok (.ifCond .eq 10, 3) := by decide +kernel
theorem dX11_checkCounts_7 : decode cX11_checkCounts 7 = .ok (.iload_n 2, 1) := by decide +kernel
theorem dX11_checkCounts_8 : decode cX11_checkCounts 8 = .ok (.invokestatic 135, 3) := by decide +kernel
theorem dX11_checkCounts_11 : decode cX11_checkCounts 11 = .ok (.ifCond .ne 6, 3) := by decide +kernel
theorem dX11_checkCounts_14 : decode cX11_checkCounts 14 = .ok (.bipush (-2), 2) := by decide +kernel
theorem dX11_checkCounts_16 : decode cX11_checkCounts 16 = .ok (.ireturn, 1) := by decide +kernel
theorem dX11_checkCounts_17 : decode cX11_checkCounts 17 = .ok (.aload_n 0, 1) := by decide +kernel
theorem dX11_checkCounts_18 : decode cX11_checkCounts 18 = .ok (.getfield 105, 3) := by decide +kernel
theorem dX11_checkCounts_21 : decode cX11_checkCounts 21 = .ok (.iload_n 1, 1) := by decide +kernel
theorem dX11_checkCounts_22 : decode cX11_checkCounts 22 = .ok (.iaload, 1) := by decide +kernel
theorem dX11_checkCounts_23 : decode cX11_checkCounts 23 = .ok (.iconst (-1), 1) := by decide +kernel
theorem dX11_checkCounts_24 : decode cX11_checkCounts 24 = .ok (.if_icmp .ne 6, 3) := by decide +kernel
theorem dX11_checkCounts_27 : decode cX11_checkCounts 27 = .ok (.bipush (-11), 2) := by decide +kernel
theorem dX11_checkCounts_29 : decode cX11_checkCounts 29 = .ok (.ireturn, 1) := by decide +kernel
theorem dX11_checkCounts_30 : decode cX11_checkCounts 30 = .ok (.aload_n 0, 1) := by decide +kernel
theorem dX11_checkCounts_31 : decode cX11_checkCounts 31 = .ok (.iload_n 2, 1) := by decide +kernel
theorem dX11_checkCounts_32 : decode cX11_checkCounts 32 = .ok (.invokevirtual 201, 3) := by decide +kernel
theorem dX11_checkCounts_35 : decode cX11_checkCounts 35 = .ok (.aload_n 0, 1) := by decide +kernel
theorem dX11_checkCounts_36 : decode cX11_checkCounts 36 = .ok (.bipush 30, 2) := by decide +kernel
theorem dX11_checkCounts_38 : decode cX11_checkCounts 38 = .ok (.invokevirtual 204, 3) := by decide +kernel
theorem dX11_checkCounts_41 : decode cX11_checkCounts 41 = .ok (.iconst 0, 1) := by decide +kernel
theorem dX11_checkCounts_42 : decode cX11_checkCounts 42 = .ok (.istore_n 3, 1) := by decide +kernel
theorem dX11_checkCounts_43 : decode cX11_checkCounts 43 = .ok (.iload_n 3, 1) := by decide +kernel
theorem dX11_checkCounts_44 : decode cX11_checkCounts 44 = .ok (.aload_n 0, 1) := by decide +kernel
theorem dX11_checkCounts_45 : decode cX11_checkCounts 45 = .ok (.getfield 108, 3) := by decide +kernel
theorem dX11_checkCounts_48 : decode cX11_checkCounts 48 = .ok (.iload_n 1, 1) := by decide +kernel
theorem dX11_checkCounts_49 : decode cX11_checkCounts 49 = .ok (.iaload, 1) := by decide +kernel
theorem dX11_checkCounts_50 : decode cX11_checkCounts 50 = .ok (.if_icmp .ge 35, 3) := by decide +kernel
theorem dX11_checkCounts_53 : decode cX11_checkCounts 53 = .ok (.aload_n 0, 1) := by decide +kernel
theorem dX11_checkCounts_54 : decode cX11_checkCounts 54 = .ok (.iload_n 1, 1) := by decide +kernel
theorem dX11_checkCounts_55 : decode cX11_checkCounts 55 = .ok (.iload_n 3, 1) := by decide +kernel
theorem dX11_checkCounts_56 : decode cX11_checkCounts 56 = .ok (.aload_n 0, 1) := by decide +kernel
theorem dX11_checkCounts_57 : decode cX11_checkCounts 57 = .ok (.getfield 39, 3) := by decide +kernel
theorem dX11_checkCounts_60 : decode cX11_checkCounts 60 = .ok (.sipush 256, 3) := by decide +kernel
theorem dX11_checkCounts_63 : decode cX11_checkCounts 63 = .ok (.iload_n 3, 1) := by decide +kernel
theorem dX11_checkCounts_64 : decode cX11_checkCounts 64 = .ok (.imul, 1) := by decide +kernel
theorem dX11_checkCounts_65 : decode cX11_checkCounts 65 = .ok (.aload_n 0, 1) := by decide +kernel
theorem dX11_checkCounts_66 : decode cX11_checkCounts 66 = .ok (.getfield 193, 3) := by decide +kernel
theorem dX11_checkCounts_69 : decode cX11_checkCounts 69 = .ok (.iadd, 1) := by decide +kernel
theorem dX11_checkCounts_70 : decode cX11_checkCounts 70 = .ok (.laload, 1) := by decide +kernel
theorem dX11_checkCounts_71 : decode cX11_checkCounts 71 = .ok (.invokevirtual 348, 3) := by decide +kernel
theorem dX11_checkCounts_74 : decode cX11_checkCounts 74 = .ok (.ifCond .ne 5, 3) := by decide +kernel
theorem dX11_checkCounts_77 : decode cX11_checkCounts 77 = .ok (.iload_n 3, 1) := by decide +kernel
theorem dX11_checkCounts_78 : decode cX11_checkCounts 78 = .ok (.ireturn, 1) := by decide +kernel
theorem dX11_checkCounts_79 : decode cX11_checkCounts 79 = .ok (.iinc 3 1, 3) := by decide +kernel
theorem dX11_checkCounts_82 : decode cX11_checkCounts 82 = .ok (.goto (-39), 3) := by decide +kernel
theorem dX11_checkCounts_85 : decode cX11_checkCounts 85 = .ok (.iconst (-1), 1) := by decide +kernel
theorem dX11_checkCounts_86 : decode cX11_checkCounts 86 = .ok (.ireturn, 1) := by decide +kernel
theorem dJ6_numberOfTrailingZeros_0f7a4_0 : decode cJ6_numberOfTrailingZeros_0f7a4 0 = .ok (.iload_n 0, 1) := by decide +kernel
theorem dJ6_numberOfTrailingZeros_0f7a4_1 : decode cJ6_numberOfTrailingZeros_0f7a4 1 = .ok (.iconst (-1), 1) := by decide +kernel
theorem dJ6_numberOfTrailingZeros_0f7a4_2 : decode cJ6_numberOfTrailingZeros_0f7a4 2 = .ok (.ixor, 1) := by decide +kernel
theorem dJ6_numberOfTrailingZeros_0f7a4_3 : decode cJ6_numberOfTrailingZeros_0f7a4 3 = .ok (.iload_n 0, 1) := by decide +kernel
theorem dJ6_numberOfTrailingZeros_0f7a4_4 : decode cJ6_numberOfTrailingZeros_0f7a4 4 = .ok (.iconst 1, 1) := by decide +kernel
theorem dJ6_numberOfTrailingZeros_0f7a4_5 : decode cJ6_numberOfTrailingZeros_0f7a4 5 = .ok (.isub, 1) := by decide +kernel
theorem dJ6_numberOfTrailingZeros_0f7a4_6 : decode cJ6_numberOfTrailingZeros_0f7a4 6 = .ok (.iand, 1) := by decide +kernel
theorem dJ6_numberOfTrailingZeros_0f7a4_7 : decode cJ6_numberOfTrailingZeros_0f7a4 7 = .ok (.istore_n 0, 1) := by decide +kernel
theorem dJ6_numberOfTrailingZeros_0f7a4_8 : decode cJ6_numberOfTrailingZeros_0f7a4 8 = .ok (.iload_n 0, 1) := by decide +kernel
theorem dJ6_numberOfTrailingZeros_0f7a4_9 : decode cJ6_numberOfTrailingZeros_0f7a4 9 = .ok (.ifCond .gt 8, 3) := by decide +kernel
theorem dJ6_numberOfTrailingZeros_0f7a4_12 : decode cJ6_numberOfTrailingZeros_0f7a4 12 = .ok (.iload_n 0, 1) := by decide +kernel
theorem dJ6_numberOfTrailingZeros_0f7a4_13 : decode cJ6_numberOfTrailingZeros_0f7a4 13 = .ok (.bipush 32, 2) := by decide +kernel
theorem dJ6_numberOfTrailingZeros_0f7a4_15 : decode cJ6_numberOfTrailingZeros_0f7a4 15 = .ok (.iand, 1) := by decide +kernel
theorem dJ6_numberOfTrailingZeros_0f7a4_16 : decode cJ6_numberOfTrailingZeros_0f7a4 16 = .ok (.ireturn, 1) := by decide +kernel
theorem dJ6_numberOfTrailingZeros_0f7a4_17 : decode cJ6_numberOfTrailingZeros_0f7a4 17 = .ok (.iconst 1, 1) := by decide +kernel
theorem dJ6_numberOfTrailingZeros_0f7a4_18 : decode cJ6_numberOfTrailingZeros_0f7a4 18 = .ok (.istore_n 1, 1) := by decide +kernel
theorem dJ6_numberOfTrailingZeros_0f7a4_19 : decode cJ6_numberOfTrailingZeros_0f7a4 19 = .ok (.iload_n 0, 1) := by decide +kernel
theorem dJ6_numberOfTrailingZeros_0f7a4_20 : decode cJ6_numberOfTrailingZeros_0f7a4 20 = .ok (.ldc_w 264, 3) := by decide +kernel
theorem dJ6_numberOfTrailingZeros_0f7a4_23 : decode cJ6_numberOfTrailingZeros_0f7a4 23 = .ok (.if_icmp .le 11, 3) := by decide +kernel
theorem dJ6_numberOfTrailingZeros_0f7a4_26 : decode cJ6_numberOfTrailingZeros_0f7a4 26 = .ok (.iinc 1 16, 3) := by decide +kernel
theorem dJ6_numberOfTrailingZeros_0f7a4_29 : decode cJ6_numberOfTrailingZeros_0f7a4 29 = .ok (.iload_n 0, 1) := by decide +kernel
theorem dJ6_numberOfTrailingZeros_0f7a4_30 : decode cJ6_numberOfTrailingZeros_0f7a4 30 = .ok (.bipush 16, 2) := by decide +kernel
theorem dJ6_numberOfTrailingZeros_0f7a4_32 : decode cJ6_numberOfTrailingZeros_0f7a4 32 = .ok (.iushr, 1) := by decide +kernel
theorem dJ6_numberOfTrailingZeros_0f7a4_33 : decode cJ6_numberOfTrailingZeros_0f7a4 33 = .ok (.istore_n 0, 1) := by decide +kernel
theorem dJ6_numberOfTrailingZeros_0f7a4_34 : decode cJ6_numberOfTrailingZeros_0f7a4 34 = .ok (.iload_n 0, 1) := by decide +kernel
theorem dJ6_numberOfTrailingZeros_0f7a4_35 : decode cJ6_numberOfTrailingZeros_0f7a4 35 = .ok (.sipush 256, 3) := by decide +kernel
theorem dJ6_numberOfTrailingZeros_0f7a4_38 : decode cJ6_numberOfTrailingZeros_0f7a4 38 = .ok (.if_icmp .le 11, 3) := by decide +kernel
theorem dJ6_numberOfTrailingZeros_0f7a4_41 : decode cJ6_numberOfTrailingZeros_0f7a4 41 = .ok (.iinc 1 8, 3) := by decide +kernel
theorem dJ6_numberOfTrailingZeros_0f7a4_44 : decode cJ6_numberOfTrailingZeros_0f7a4 44 = .ok (.iload_n 0, 1) := by decide +kernel
theorem dJ6_numberOfTrailingZeros_0f7a4_45 : decode cJ6_numberOfTrailingZeros_0f7a4 45 = .ok (.bipush 8, 2) := by decide +kernel
theorem dJ6_numberOfTrailingZeros_0f7a4_47 : decode cJ6_numberOfTrailingZeros_0f7a4 47 = .ok (.iushr, 1) := by decide +kernel
theorem dJ6_numberOfTrailingZeros_0f7a4_48 : decode cJ6_numberOfTrailingZeros_0f7a4 48 = .ok (.istore_n 0, 1) := by decide +kernel
theorem dJ6_numberOfTrailingZeros_0f7a4_49 : decode cJ6_numberOfTrailingZeros_0f7a4 49 = .ok (.iload_n 0, 1) := by decide +kernel
theorem dJ6_numberOfTrailingZeros_0f7a4_50 : decode cJ6_numberOfTrailingZeros_0f7a4 50 = .ok (.bipush 16, 2) := by decide +kernel
theorem dJ6_numberOfTrailingZeros_0f7a4_52 : decode cJ6_numberOfTrailingZeros_0f7a4 52 = .ok (.if_icmp .le 10, 3) := by decide +kernel
theorem dJ6_numberOfTrailingZeros_0f7a4_55 : decode cJ6_numberOfTrailingZeros_0f7a4 55 = .ok (.iinc 1 4, 3) := by decide +kernel
theorem dJ6_numberOfTrailingZeros_0f7a4_58 : decode cJ6_numberOfTrailingZeros_0f7a4 58 = .ok (.iload_n 0, 1) := by decide +kernel
theorem dJ6_numberOfTrailingZeros_0f7a4_59 : decode cJ6_numberOfTrailingZeros_0f7a4 59 = .ok (.iconst 4, 1) := by decide +kernel
theorem dJ6_numberOfTrailingZeros_0f7a4_60 : decode cJ6_numberOfTrailingZeros_0f7a4 60 = .ok (.iushr, 1) := by decide +kernel
theorem dJ6_numberOfTrailingZeros_0f7a4_61 : decode cJ6_numberOfTrailingZeros_0f7a4 61 = .ok (.istore_n 0, 1) := by decide +kernel
theorem dJ6_numberOfTrailingZeros_0f7a4_62 : decode cJ6_numberOfTrailingZeros_0f7a4 62 = .ok (.iload_n 0, 1) := by decide +kernel
theorem dJ6_numberOfTrailingZeros_0f7a4_63 : decode cJ6_numberOfTrailingZeros_0f7a4 63 = .ok (.iconst 4, 1) := by decide +kernel
theorem dJ6_numberOfTrailingZeros_0f7a4_64 : decode cJ6_numberOfTrailingZeros_0f7a4 64 = .ok (.if_icmp .le 10, 3) := by decide +kernel
theorem dJ6_numberOfTrailingZeros_0f7a4_67 : decode cJ6_numberOfTrailingZeros_0f7a4 67 = .ok (.iinc 1 2, 3) := by decide +kernel
theorem dJ6_numberOfTrailingZeros_0f7a4_70 : decode cJ6_numberOfTrailingZeros_0f7a4 70 = .ok (.iload_n 0, 1) := by decide +kernel
theorem dJ6_numberOfTrailingZeros_0f7a4_71 : decode cJ6_numberOfTrailingZeros_0f7a4 71 = .ok (.iconst 2, 1) := by decide +kernel
theorem dJ6_numberOfTrailingZeros_0f7a4_72 : decode cJ6_numberOfTrailingZeros_0f7a4 72 = .ok (.iushr, 1) := by decide +kernel
theorem dJ6_numberOfTrailingZeros_0f7a4_73 : decode cJ6_numberOfTrailingZeros_0f7a4 73 = .ok (.istore_n 0, 1) := by decide +kernel
theorem dJ6_numberOfTrailingZeros_0f7a4_74 : decode cJ6_numberOfTrailingZeros_0f7a4 74 = .ok (.iload_n 1, 1) := by decide +kernel
theorem dJ6_numberOfTrailingZeros_0f7a4_75 : decode cJ6_numberOfTrailingZeros_0f7a4 75 = .ok (.iload_n 0, 1) := by decide +kernel
theorem dJ6_numberOfTrailingZeros_0f7a4_76 : decode cJ6_numberOfTrailingZeros_0f7a4 76 = .ok (.iconst 1, 1) := by decide +kernel
theorem dJ6_numberOfTrailingZeros_0f7a4_77 : decode cJ6_numberOfTrailingZeros_0f7a4 77 = .ok (.iushr, 1) := by decide +kernel
theorem dJ6_numberOfTrailingZeros_0f7a4_78 : decode cJ6_numberOfTrailingZeros_0f7a4 78 = .ok (.iadd, 1) := by decide +kernel
theorem dJ6_numberOfTrailingZeros_0f7a4_79 : decode cJ6_numberOfTrailingZeros_0f7a4 79 = .ok (.ireturn, 1) := by decide +kernel
theorem dJ6_bitCount_0f7a4_0 : decode cJ6_bitCount_0f7a4 0 = .ok (.iload_n 0, 1) := by decide +kernel
theorem dJ6_bitCount_0f7a4_1 : decode cJ6_bitCount_0f7a4 1 = .ok (.iload_n 0, 1) := by decide +kernel
theorem dJ6_bitCount_0f7a4_2 : decode cJ6_bitCount_0f7a4 2 = .ok (.iconst 1, 1) := by decide +kernel
theorem dJ6_bitCount_0f7a4_3 : decode cJ6_bitCount_0f7a4 3 = .ok (.iushr, 1) := by decide +kernel
theorem dJ6_bitCount_0f7a4_4 : decode cJ6_bitCount_0f7a4 4 = .ok (.ldc_w 265, 3) := by decide +kernel
theorem dJ6_bitCount_0f7a4_7 : decode cJ6_bitCount_0f7a4 7 = .ok (.iand, 1) := by decide +kernel
theorem dJ6_bitCount_0f7a4_8 : decode cJ6_bitCount_0f7a4 8 = .ok (.isub, 1) := by decide +kernel
theorem dJ6_bitCount_0f7a4_9 : decode cJ6_bitCount_0f7a4 9 = .ok (.istore_n 0, 1) := by decide +kernel
theorem dJ6_bitCount_0f7a4_10 : decode cJ6_bitCount_0f7a4 10 = .ok (.iload_n 0, 1) := by decide +kernel
theorem dJ6_bitCount_0f7a4_11 : decode cJ6_bitCount_0f7a4 11 = .ok (.ldc_w 266, 3) := by decide +kernel
theorem dJ6_bitCount_0f7a4_14 : decode cJ6_bitCount_0f7a4 14 = .ok (.iand, 1) := by decide +kernel
theorem dJ6_bitCount_0f7a4_15 : decode cJ6_bitCount_0f7a4 15 = .ok (.iload_n 0, 1) := by decide +kernel
theorem dJ6_bitCount_0f7a4_16 : decode cJ6_bitCount_0f7a4 16 = .ok (.iconst 2, 1) := by decide +kernel
theorem dJ6_bitCount_0f7a4_17 : decode cJ6_bitCount_0f7a4 17 = .ok (.iushr, 1) := by decide +kernel
theorem dJ6_bitCount_0f7a4_18 : decode cJ6_bitCount_0f7a4 18 = .ok (.ldc_w 266, 3) := by decide +kernel
theorem dJ6_bitCount_0f7a4_21 : decode cJ6_bitCount_0f7a4 21 = .ok (.iand, 1) := by decide +kernel
theorem dJ6_bitCount_0f7a4_22 : decode cJ6_bitCount_0f7a4 22 = .ok (.iadd, 1) := by decide +kernel
theorem dJ6_bitCount_0f7a4_23 : decode cJ6_bitCount_0f7a4 23 = .ok (.istore_n 0, 1) := by decide +kernel
theorem dJ6_bitCount_0f7a4_24 : decode cJ6_bitCount_0f7a4 24 = .ok (.iload_n 0, 1) := by decide +kernel
theorem dJ6_bitCount_0f7a4_25 : decode cJ6_bitCount_0f7a4 25 = .ok (.iload_n 0, 1) := by decide +kernel
theorem dJ6_bitCount_0f7a4_26 : decode cJ6_bitCount_0f7a4 26 = .ok (.iconst 4, 1) := by decide +kernel
theorem dJ6_bitCount_0f7a4_27 : decode cJ6_bitCount_0f7a4 27 = .ok (.iushr, 1) := by decide +kernel
theorem dJ6_bitCount_0f7a4_28 : decode cJ6_bitCount_0f7a4 28 = .ok (.iadd, 1) := by decide +kernel
theorem dJ6_bitCount_0f7a4_29 : decode cJ6_bitCount_0f7a4 29 = .ok (.ldc_w 267, 3) := by decide +kernel
theorem dJ6_bitCount_0f7a4_32 : decode cJ6_bitCount_0f7a4 32 = .ok (.iand, 1) := by decide +kernel
theorem dJ6_bitCount_0f7a4_33 : decode cJ6_bitCount_0f7a4 33 = .ok (.istore_n 0, 1) := by decide +kernel
theorem dJ6_bitCount_0f7a4_34 : decode cJ6_bitCount_0f7a4 34 = .ok (.iload_n 0, 1) := by decide +kernel
theorem dJ6_bitCount_0f7a4_35 : decode cJ6_bitCount_0f7a4 35 = .ok (.iload_n 0, 1) := by decide +kernel
theorem dJ6_bitCount_0f7a4_36 : decode cJ6_bitCount_0f7a4 36 = .ok (.bipush 8, 2) := by decide +kernel
theorem dJ6_bitCount_0f7a4_38 : decode cJ6_bitCount_0f7a4 38 = .ok (.iushr, 1) := by decide +kernel
theorem dJ6_bitCount_0f7a4_39 : decode cJ6_bitCount_0f7a4 39 = .ok (.iadd, 1) := by decide +kernel
theorem dJ6_bitCount_0f7a4_40 : decode cJ6_bitCount_0f7a4 40 = .ok (.istore_n 0, 1) := by decide +kernel
theorem dJ6_bitCount_0f7a4_41 : decode cJ6_bitCount_0f7a4 41 = .ok (.iload_n 0, 1) := by decide +kernel
theorem dJ6_bitCount_0f7a4_42 : decode cJ6_bitCount_0f7a4 42 = .ok (.iload_n 0, 1) := by decide +kernel
theorem dJ6_bitCount_0f7a4_43 : decode cJ6_bitCount_0f7a4 43 = .ok (.bipush 16, 2) := by decide +kernel
theorem dJ6_bitCount_0f7a4_45 : decode cJ6_bitCount_0f7a4 45 = .ok (.iushr, 1) := by decide +kernel
theorem dJ6_bitCount_0f7a4_46 : decode cJ6_bitCount_0f7a4 46 = .ok (.iadd, 1) := by decide +kernel
theorem dJ6_bitCount_0f7a4_47 : decode cJ6_bitCount_0f7a4 47 = .ok (.istore_n 0, 1) := by decide +kernel
theorem dJ6_bitCount_0f7a4_48 : decode cJ6_bitCount_0f7a4 48 = .ok (.iload_n 0, 1) := by decide +kernel
theorem dJ6_bitCount_0f7a4_49 : decode cJ6_bitCount_0f7a4 49 = .ok (.bipush 63, 2) := by decide +kernel
theorem dJ6_bitCount_0f7a4_51 : decode cJ6_bitCount_0f7a4 51 = .ok (.iand, 1) := by decide +kernel
theorem dJ6_bitCount_0f7a4_52 : decode cJ6_bitCount_0f7a4 52 = .ok (.ireturn, 1) := by decide +kernel
theorem dJ13_bitCount_95d88_0 : decode cJ13_bitCount_95d88 0 = .ok (.lload_n 0, 1) := by decide +kernel
theorem dJ13_bitCount_95d88_1 : decode cJ13_bitCount_95d88 1 = .ok (.lload_n 0, 1) := by decide +kernel
theorem dJ13_bitCount_95d88_2 : decode cJ13_bitCount_95d88 2 = .ok (.iconst 1, 1) := by decide +kernel
theorem dJ13_bitCount_95d88_3 : decode cJ13_bitCount_95d88 3 = .ok (.lushr, 1) := by decide +kernel
theorem dJ13_bitCount_95d88_4 : decode cJ13_bitCount_95d88 4 = .ok (.ldc2_w 314, 3) := by decide +kernel
theorem dJ13_bitCount_95d88_7 : decode cJ13_bitCount_95d88 7 = .ok (.land, 1) := by decide +kernel
theorem dJ13_bitCount_95d88_8 : decode cJ13_bitCount_95d88 8 = .ok (.lsub, 1) := by decide +kernel
theorem dJ13_bitCount_95d88_9 : decode cJ13_bitCount_95d88 9 = .ok (.lstore_n 0, 1) := by decide +kernel
theorem dJ13_bitCount_95d88_10 : decode cJ13_bitCount_95d88 10 = .ok (.lload_n 0, 1) := by decide +kernel
theorem dJ13_bitCount_95d88_11 : decode cJ13_bitCount_95d88 11 = .ok (.ldc2_w 316, 3) := by decide +kernel
theorem dJ13_bitCount_95d88_14 : decode cJ13_bitCount_95d88 14 = .ok (.land, 1) := by decide +kernel
theorem dJ13_bitCount_95d88_15 : decode cJ13_bitCount_95d88 15 = .ok (.lload_n 0, 1) := by decide +kernel
theorem dJ13_bitCount_95d88_16 : decode cJ13_bitCount_95d88 16 = .ok (.iconst 2, 1) := by decide +kernel
theorem dJ13_bitCount_95d88_17 : decode cJ13_bitCount_95d88 17 = .ok (.lushr, 1) := by decide +kernel
theorem dJ13_bitCount_95d88_18 : decode cJ13_bitCount_95d88 18 = .ok (.ldc2_w 316, 3) := by decide +kernel
theorem dJ13_bitCount_95d88_21 : decode cJ13_bitCount_95d88 21 = .ok (.land, 1) := by decide +kernel
theorem dJ13_bitCount_95d88_22 : decode cJ13_bitCount_95d88 22 = .ok (.ladd, 1) := by decide +kernel
theorem dJ13_bitCount_95d88_23 : decode cJ13_bitCount_95d88 23 = .ok (.lstore_n 0, 1) := by decide +kernel
theorem dJ13_bitCount_95d88_24 : decode cJ13_bitCount_95d88 24 = .ok (.lload_n 0, 1) := by decide +kernel
theorem dJ13_bitCount_95d88_25 : decode cJ13_bitCount_95d88 25 = .ok (.lload_n 0, 1) := by decide +kernel
theorem dJ13_bitCount_95d88_26 : decode cJ13_bitCount_95d88 26 = .ok (.iconst 4, 1) := by decide +kernel
theorem dJ13_bitCount_95d88_27 : decode cJ13_bitCount_95d88 27 = .ok (.lushr, 1) := by decide +kernel
theorem dJ13_bitCount_95d88_28 : decode cJ13_bitCount_95d88 28 = .ok (.ladd, 1) := by decide +kernel
theorem dJ13_bitCount_95d88_29 : decode cJ13_bitCount_95d88 29 = .ok (.ldc2_w 318, 3) := by decide +kernel
theorem dJ13_bitCount_95d88_32 : decode cJ13_bitCount_95d88 32 = .ok (.land, 1) := by decide +kernel
theorem dJ13_bitCount_95d88_33 : decode cJ13_bitCount_95d88 33 = .ok (.lstore_n 0, 1) := by decide +kernel
theorem dJ13_bitCount_95d88_34 : decode cJ13_bitCount_95d88 34 = .ok (.lload_n 0, 1) := by decide +kernel
theorem dJ13_bitCount_95d88_35 : decode cJ13_bitCount_95d88 35 = .ok (.lload_n 0, 1) := by decide +kernel
theorem dJ13_bitCount_95d88_36 : decode cJ13_bitCount_95d88 36 = .ok (.bipush 8, 2) := by decide +kernel
theorem dJ13_bitCount_95d88_38 : decode cJ13_bitCount_95d88 38 = .ok (.lushr, 1) := by decide +kernel
theorem dJ13_bitCount_95d88_39 : decode cJ13_bitCount_95d88 39 = .ok (.ladd, 1) := by decide +kernel
theorem dJ13_bitCount_95d88_40 : decode cJ13_bitCount_95d88 40 = .ok (.lstore_n 0, 1) := by decide +kernel
theorem dJ13_bitCount_95d88_41 : decode cJ13_bitCount_95d88 41 = .ok (.lload_n 0, 1) := by decide +kernel
theorem dJ13_bitCount_95d88_42 : decode cJ13_bitCount_95d88 42 = .ok (.lload_n 0, 1) := by decide +kernel
theorem dJ13_bitCount_95d88_43 : decode cJ13_bitCount_95d88 43 = .ok (.bipush 16, 2) := by decide +kernel
theorem dJ13_bitCount_95d88_45 : decode cJ13_bitCount_95d88 45 = .ok (.lushr, 1) := by decide +kernel
theorem dJ13_bitCount_95d88_46 : decode cJ13_bitCount_95d88 46 = .ok (.ladd, 1) := by decide +kernel
theorem dJ13_bitCount_95d88_47 : decode cJ13_bitCount_95d88 47 = .ok (.lstore_n 0, 1) := by decide +kernel
theorem dJ13_bitCount_95d88_48 : decode cJ13_bitCount_95d88 48 = .ok (.lload_n 0, 1) := by decide +kernel
theorem dJ13_bitCount_95d88_49 : decode cJ13_bitCount_95d88 49 = .ok (.lload_n 0, 1) := by decide +kernel
theorem dJ13_bitCount_95d88_50 : decode cJ13_bitCount_95d88 50 = .ok (.bipush 32, 2) := by decide +kernel
theorem dJ13_bitCount_95d88_52 : decode cJ13_bitCount_95d88 52 = .ok (.lushr, 1) := by decide +kernel
theorem dJ13_bitCount_95d88_53 : decode cJ13_bitCount_95d88 53 = .ok (.ladd, 1) := by decide +kernel
theorem dJ13_bitCount_95d88_54 : decode cJ13_bitCount_95d88 54 = .ok (.lstore_n 0, 1) := by decide +kernel
theorem dJ13_bitCount_95d88_55 : decode cJ13_bitCount_95d88 55 = .ok (.lload_n 0, 1) := by decide +kernel
theorem dJ13_bitCount_95d88_56 : decode cJ13_bitCount_95d88 56 = .ok (.l2i, 1) := by decide +kernel
theorem dJ13_bitCount_95d88_57 : decode cJ13_bitCount_95d88 57 = .ok (.bipush 127, 2) := by decide +kernel
theorem dJ13_bitCount_95d88_59 : decode cJ13_bitCount_95d88 59 = .ok (.iand, 1) := by decide +kernel
theorem dJ13_bitCount_95d88_60 : decode cJ13_bitCount_95d88 60 = .ok (.ireturn, 1) := by decide +kernel
theorem dJ9_max_7cf53_0 : decode cJ9_max_7cf53 0 = .ok (.iload_n 0, 1) := by decide +kernel
theorem dJ9_max_7cf53_1 : decode cJ9_max_7cf53 1 = .ok (.iload_n 1, 1) := by decide +kernel
theorem dJ9_max_7cf53_2 : decode cJ9_max_7cf53 2 = .ok (.if_icmp .lt 7, 3) := by decide +kernel
theorem dJ9_max_7cf53_5 : decode cJ9_max_7cf53 5 = .ok (.iload_n 0, 1) := by decide +kernel
theorem dJ9_max_7cf53_6 : decode cJ9_max_7cf53 6 = .ok (.goto 4, 3) := by decide +kernel
theorem dJ9_max_7cf53_9 : decode cJ9_max_7cf53 9 = .ok (.iload_n 1, 1) := by decide +kernel
theorem dJ9_max_7cf53_10 : decode cJ9_max_7cf53 10 = .ok (.ireturn, 1) := by decide +kernel
theorem dJ9_min_7cf53_0 : decode cJ9_min_7cf53 0 = .ok (.iload_n 0, 1) := by decide +kernel
theorem dJ9_min_7cf53_1 : decode cJ9_min_7cf53 1 = .ok (.iload_n 1, 1) := by decide +kernel
theorem dJ9_min_7cf53_2 : decode cJ9_min_7cf53 2 = .ok (.if_icmp .gt 7, 3) := by decide +kernel
theorem dJ9_min_7cf53_5 : decode cJ9_min_7cf53 5 = .ok (.iload_n 0, 1) := by decide +kernel
theorem dJ9_min_7cf53_6 : decode cJ9_min_7cf53 6 = .ok (.goto 4, 3) := by decide +kernel
theorem dJ9_min_7cf53_9 : decode cJ9_min_7cf53 9 = .ok (.iload_n 1, 1) := by decide +kernel
theorem dJ9_min_7cf53_10 : decode cJ9_min_7cf53 10 = .ok (.ireturn, 1) := by decide +kernel
theorem dJ7_fill_d0a16_0 : decode cJ7_fill_d0a16 0 = .ok (.iconst 0, 1) := by decide +kernel
theorem dJ7_fill_d0a16_1 : decode cJ7_fill_d0a16 1 = .ok (.istore_n 3, 1) := by decide +kernel
theorem dJ7_fill_d0a16_2 : decode cJ7_fill_d0a16 2 = .ok (.aload_n 0, 1) := by decide +kernel
theorem dJ7_fill_d0a16_3 : decode cJ7_fill_d0a16 3 = .ok (.arraylength, 1) := by decide +kernel
theorem dJ7_fill_d0a16_4 : decode cJ7_fill_d0a16 4 = .ok (.istore 4, 2) := by decide +kernel
theorem dJ7_fill_d0a16_6 : decode cJ7_fill_d0a16 6 = .ok (.iload_n 3, 1) := by decide +kernel
theorem dJ7_fill_d0a16_7 : decode cJ7_fill_d0a16 7 = .ok (.iload 4, 2) := by decide +kernel
theorem dJ7_fill_d0a16_9 : decode cJ7_fill_d0a16 9 = .ok (.if_icmp .ge 13, 3) := by decide +kernel
theorem dJ7_fill_d0a16_12 : decode cJ7_fill_d0a16 12 = .ok (.aload_n 0, 1) := by decide +kernel
theorem dJ7_fill_d0a16_13 : decode cJ7_fill_d0a16 13 = .ok (.iload_n 3, 1) := by decide +kernel
theorem dJ7_fill_d0a16_14 : decode cJ7_fill_d0a16 14 = .ok (.lload_n 1, 1) := by decide +kernel
theorem dJ7_fill_d0a16_15 : decode cJ7_fill_d0a16 15 = .ok (.lastore, 1) := by decide +kernel
theorem dJ7_fill_d0a16_16 : decode cJ7_fill_d0a16 16 = .ok (.iinc 3 1, 3) := by decide +kernel
theorem dJ7_fill_d0a16_19 : decode cJ7_fill_d0a16 19 = .ok (.goto (-13), 3) := by decide +kernel
theorem dJ7_fill_d0a16_22 : decode cJ7_fill_d0a16 22 = .ok (.return_, 1) := by decide +kernel
theorem dJ7_fill_53178_0 : decode cJ7_fill_53178 0 = .ok (.iconst 0, 1) := by decide +kernel
theorem dJ7_fill_53178_1 : decode cJ7_fill_53178 1 = .ok (.istore_n 2, 1) := by decide +kernel
theorem dJ7_fill_53178_2 : decode cJ7_fill_53178 2 = .ok (.aload_n 0, 1) := by decide +kernel
theorem dJ7_fill_53178_3 : decode cJ7_fill_53178 3 = .ok (.arraylength, 1) := by decide +kernel
theorem dJ7_fill_53178_4 : decode cJ7_fill_53178 4 = .ok (.istore_n 3, 1) := by decide +kernel
theorem dJ7_fill_53178_5 : decode cJ7_fill_53178 5 = .ok (.iload_n 2, 1) := by decide +kernel
theorem dJ7_fill_53178_6 : decode cJ7_fill_53178 6 = .ok (.iload_n 3, 1) := by decide +kernel
theorem dJ7_fill_53178_7 : decode cJ7_fill_53178 7 = .ok (.if_icmp .ge 13, 3) := by decide +kernel
theorem dJ7_fill_53178_10 : decode cJ7_fill_53178 10 = .ok (.aload_n 0, 1) := by decide +kernel
theorem dJ7_fill_53178_11 : decode cJ7_fill_53178 11 = .ok (.iload_n 2, 1) := by decide +kernel
theorem dJ7_fill_53178_12 : decode cJ7_fill_53178 12 = .ok (.iload_n 1, 1) := by decide +kernel
theorem dJ7_fill_53178_13 : decode cJ7_fill_53178 13 = .ok (.iastore, 1) := by decide +kernel
theorem dJ7_fill_53178_14 : decode cJ7_fill_53178 14 = .ok (.iinc 2 1, 3) := by decide +kernel
theorem dJ7_fill_53178_17 : decode cJ7_fill_53178 17 = .ok (.goto (-12), 3) := by decide +kernel
theorem dJ7_fill_53178_20 : decode cJ7_fill_53178 20 = .ok (.return_, 1) := by decide +kernel
theorem dJ7_copyOf_c38d5_0 : decode cJ7_copyOf_c38d5 0 = .ok (.iload_n 1, 1) := by decide +kernel
theorem dJ7_copyOf_c38d5_1 : decode cJ7_copyOf_c38d5 1 = .ok (.aload_n 0, 1) := by decide +kernel
theorem dJ7_copyOf_c38d5_2 : decode cJ7_copyOf_c38d5 2 = .ok (.arraylength, 1) := by decide +kernel
theorem dJ7_copyOf_c38d5_3 : decode cJ7_copyOf_c38d5 3 = .ok (.if_icmp .ne 11, 3) := by decide +kernel
theorem dJ7_copyOf_c38d5_6 : decode cJ7_copyOf_c38d5 6 = .ok (.aload_n 0, 1) := by decide +kernel
theorem dJ7_copyOf_c38d5_7 : decode cJ7_copyOf_c38d5 7 = .ok (.invokevirtual 319, 3) := by decide +kernel
theorem dJ7_copyOf_c38d5_10 : decode cJ7_copyOf_c38d5 10 = .ok (.checkcast 320, 3) := by decide +kernel
theorem dJ7_copyOf_c38d5_13 : decode cJ7_copyOf_c38d5 13 = .ok (.areturn, 1) := by decide +kernel
theorem dJ7_copyOf_c38d5_14 : decode cJ7_copyOf_c38d5 14 = .ok (.iload_n 1, 1) := by decide +kernel
theorem dJ7_copyOf_c38d5_15 : decode cJ7_copyOf_c38d5 15 = .ok (.newarray .long, 2) := by decide +kernel
theorem dJ7_copyOf_c38d5_17 : decode cJ7_copyOf_c38d5 17 = .ok (.astore_n 2, 1) := by decide +kernel
theorem dJ7_copyOf_c38d5_18 : decode cJ7_copyOf_c38d5 18 = .ok (.aload_n 0, 1) := by decide +kernel
theorem dJ7_copyOf_c38d5_19 : decode cJ7_copyOf_c38d5 19 = .ok (.iconst 0, 1) := by decide +kernel
theorem dJ7_copyOf_c38d5_20 : decode cJ7_copyOf_c38d5 20 = .ok (.aload_n 2, 1) := by decide +kernel
theorem dJ7_copyOf_c38d5_21 : decode cJ7_copyOf_c38d5 21 = .ok (.iconst 0, 1) := by decide +kernel
theorem dJ7_copyOf_c38d5_22 : decode cJ7_copyOf_c38d5 22 = .ok (.aload_n 0, 1) := by decide +kernel
theorem dJ7_copyOf_c38d5_23 : decode cJ7_copyOf_c38d5 23 = .ok (.arraylength, 1) := by decide +kernel
theorem dJ7_copyOf_c38d5_24 : decode cJ7_copyOf_c38d5 24 = .ok (.iload_n 1, 1) := by decide +kernel
theorem dJ7_copyOf_c38d5_25 : decode cJ7_copyOf_c38d5 25 = .ok (.invokestatic 304, 3) := by decide +kernel
theorem dJ7_copyOf_c38d5_28 : decode cJ7_copyOf_c38d5 28 = .ok (.invokestatic 150, 3) := by decide +kernel
theorem dJ7_copyOf_c38d5_31 : decode cJ7_copyOf_c38d5 31 = .ok (.aload_n 2, 1) := by decide +kernel
theorem dJ7_copyOf_c38d5_32 : decode cJ7_copyOf_c38d5 32 = .ok (.areturn, 1) := by decide +kernel
