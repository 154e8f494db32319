theorem dX11_handed_214 : decode cX11_handed 214 = .ok (.goto (-153), 3) := by decide +kernel
theorem dX11_handed_217 : decode cX11_handed 217 = .ok (.iconst 0, 1) := by decide +kernel
theorem dX11_handed_218 : decode cX11_handed 218 = .ok (.istore 4, 2) := by decide +kernel
theorem dX11_handed_220 : decode cX11_handed 220 = .ok (.iconst 1, 1) := by decide +kernel
theorem dX11_handed_221 : decode cX11_handed 221 = .ok (.istore 5, 2) := by decide +kernel
theorem dX11_handed_223 : decode cX11_handed 223 = .ok (.iload 5, 2) := by decide +kernel
theorem dX11_handed_225 : decode cX11_handed 225 = .ok (.iload_n 2, 1) := by decide +kernel
theorem dX11_handed_226 : decode cX11_handed 226 = .ok (.if_icmp .gt 81, 3) := by decide +kernel
theorem dX11_handed_229 : decode cX11_handed 229 = .ok (.iconst 0, 1) := by decide +kernel
theorem dX11_handed_230 : decode cX11_handed 230 = .ok (.istore 6, 2) := by decide +kernel
theorem dX11_handed_232 : decode cX11_handed 232 = .ok (.aload_n 0, 1) := by decide +kernel
theorem dX11_handed_233 : decode cX11_handed 233 = .ok (.getfield 35, 3) := by decide +kernel
theorem dX11_handed_236 : decode cX11_handed 236 = .ok (.iload 6, 2) := by decide +kernel
theorem dX11_handed_238 : decode cX11_handed 238 = .ok (.iaload, 1) := by decide +kernel
theorem dX11_handed_239 : decode cX11_handed 239 = .ok (.aload_n 0, 1) := by decide +kernel
theorem dX11_handed_240 : decode cX11_handed 240 = .ok (.getfield 28, 3) := by decide +kernel
theorem dX11_handed_243 : decode cX11_handed 243 = .ok (.iload 5, 2) := by decide +kernel
theorem dX11_handed_245 : decode cX11_handed 245 = .ok (.iaload, 1) := by decide +kernel
theorem dX11_handed_246 : decode cX11_handed 246 = .ok (.if_icmp .ne 45, 3) := by decide +kernel
theorem dX11_handed_249 : decode cX11_handed 249 = .ok (.iload 4, 2) := by decide +kernel
theorem dX11_handed_251 : decode cX11_handed 251 = .ok (.iload 6, 2) := by decide +kernel
theorem dX11_handed_253 : decode cX11_handed 253 = .ok (.ixor, 1) := by decide +kernel
theorem dX11_handed_254 : decode cX11_handed 254 = .ok (.invokestatic 108, 3) := by decide +kernel
theorem dX11_handed_257 : decode cX11_handed 257 = .ok (.aload_n 0, 1) := by decide +kernel
theorem dX11_handed_258 : decode cX11_handed 258 = .ok (.getfield 50, 3) := by decide +kernel
theorem dX11_handed_261 : decode cX11_handed 261 = .ok (.sipush 2048, 3) := by decide +kernel
theorem dX11_handed_264 : decode cX11_handed 264 = .ok (.iload 5, 2) := by decide +kernel
theorem dX11_handed_266 : decode cX11_handed 266 = .ok (.imul, 1) := by decide +kernel
theorem dX11_handed_267 : decode cX11_handed 267 = .ok (.iload 6, 2) := by decide +kernel
theorem dX11_handed_269 : decode cX11_handed 269 = .ok (.iadd, 1) := by decide +kernel
theorem dX11_handed_270 : decode cX11_handed 270 = .ok (.iaload, 1) := by decide +kernel
theorem dX11_handed_271 : decode cX11_handed 271 = .ok (.iadd, 1) := by decide +kernel
theorem dX11_handed_272 : decode cX11_handed 272 = .ok (.aload_n 0, 1) := by decide +kernel
theorem dX11_handed_273 : decode cX11_handed 273 = .ok (.getfield 50, 3) := by decide +kernel
theorem dX11_handed_276 : decode cX11_handed 276 = .ok (.sipush 2048, 3) := by decide +kernel
theorem dX11_handed_279 : decode cX11_handed 279 = .ok (.iload 5, 2) := by decide +kernel
theorem dX11_handed_281 : decode cX11_handed 281 = .ok (.iconst 1, 1) := by decide +kernel
theorem dX11_handed_282 : decode cX11_handed 282 = .ok (.isub, 1) := by decide +kernel
theorem dX11_handed_283 : decode cX11_handed 283 = .ok (.imul, 1) := by decide +kernel
theorem dX11_handed_284 : decode cX11_handed 284 = .ok (.iload 4, 2) := by decide +kernel
theorem dX11_handed_286 : decode cX11_handed 286 = .ok (.iadd, 1) := by decide +kernel
theorem dX11_handed_287 : decode cX11_handed 287 = .ok (.iaload, 1) := by decide +kernel
theorem dX11_handed_288 : decode cX11_handed 288 = .ok (.if_icmp .eq 9, 3) := by decide +kernel
theorem dX11_handed_291 : decode cX11_handed 291 = .ok (.iinc 6 1, 3) := by decide +kernel
theorem dX11_handed_294 : decode cX11_handed 294 = .ok (.goto (-62), 3) := by decide +kernel
theorem dX11_handed_297 : decode cX11_handed 297 = .ok (.iload 6, 2) := by decide +kernel
theorem dX11_handed_299 : decode cX11_handed 299 = .ok (.istore 4, 2) := by decide +kernel
theorem dX11_handed_301 : decode cX11_handed 301 = .ok (.iinc 5 1, 3) := by decide +kernel
theorem dX11_handed_304 : decode cX11_handed 304 = .ok (.goto (-81), 3) := by decide +kernel
theorem dX11_handed_307 : decode cX11_handed 307 = .ok (.iload_n 2, 1) := by decide +kernel
theorem dX11_handed_308 : decode cX11_handed 308 = .ok (.ifCond .ne 12, 3) := by decide +kernel
theorem dX11_handed_311 : decode cX11_handed 311 = .ok (.aload_n 0, 1) := by decide +kernel
theorem dX11_handed_312 : decode cX11_handed 312 = .ok (.getfield 50, 3) := by decide +kernel
theorem dX11_handed_315 : decode cX11_handed 315 = .ok (.iconst 0, 1) := by decide +kernel
theorem dX11_handed_316 : decode cX11_handed 316 = .ok (.iaload, 1) := by decide +kernel
theorem dX11_handed_317 : decode cX11_handed 317 = .ok (.goto 5, 3) := by decide +kernel
theorem dX11_handed_320 : decode cX11_handed 320 = .ok (.iload 4, 2) := by decide +kernel
theorem dX11_handed_322 : decode cX11_handed 322 = .ok (.ireturn, 1) := by decide +kernel
set_option maxRecDepth 20000 in
theorem ggX11_findLate_X11_has : GoodIn wsX11_findLate wsX11_has := goodIn_r _ [8] (by decide +kernel) (by decide +kernel)
set_option maxRecDepth 20000 in
theorem gX11_findLate_X11_has : GoodIn wsX11_findLate (va_wsS RX11 89 yX11_has wsX11_has) := goodIn_app (goodIn_of _ (by decide +kernel)) ggX11_findLate_X11_has
set_option maxRecDepth 20000 in
theorem ggX11_findLate_X11_ones : GoodIn wsX11_findLate wsX11_ones := goodIn_r _ [11] (by decide +kernel) (by decide +kernel)
set_option maxRecDepth 20000 in
theorem gX11_findLate_X11_ones : GoodIn wsX11_findLate (va_wsS RX11 108 yX11_ones wsX11_ones) := goodIn_app (goodIn_of _ (by decide +kernel)) ggX11_findLate_X11_ones
theorem dX11_findLate_0 : decode cX11_findLate 0 = .ok (.iconst 1, 1) := by decide +kernel
theorem dX11_findLate_1 : decode cX11_findLate 1 = .ok (.iload_n 2, 1) := by decide +kernel
theorem dX11_findLate_2 : decode cX11_findLate 2 = .ok (.ishl, 1) := by decide +kernel
theorem dX11_findLate_3 : decode cX11_findLate 3 = .ok (.iconst 1, 1) := by decide +kernel
theorem dX11_findLate_4 : decode cX11_findLate 4 = .ok (.isub, 1) := by decide +kernel
theorem dX11_findLate_5 : decode cX11_findLate 5 = .ok (.istore_n 3, 1) := by decide +kernel
theorem dX11_findLate_6 : decode cX11_findLate 6 = .ok (.iconst 0, 1) := by decide +kernel
theorem dX11_findLate_7 : decode cX11_findLate 7 = .ok (.istore 4, 2) := by decide +kernel
theorem dX11_findLate_9 : decode cX11_findLate 9 = .ok (.iload 4, 2) := by decide +kernel
theorem dX11_findLate_11 : decode cX11_findLate 11 = .ok (.iload_n 3, 1) := by decide +kernel
theorem dX11_findLate_12 : decode cX11_findLate 12 = .ok (.if_icmp .gt 35, 3) := by decide +kernel
theorem dX11_findLate_15 : decode cX11_findLate 15 = .ok (.aload_n 0, 1) := by decide +kernel
theorem dX11_findLate_16 : decode cX11_findLate 16 = .ok (.getfield 56, 3) := by decide +kernel
theorem dX11_findLate_19 : decode cX11_findLate 19 = .ok (.bipush 32, 2) := by decide +kernel
theorem dX11_findLate_21 : decode cX11_findLate 21 = .ok (.iload_n 1, 1) := by decide +kernel
theorem dX11_findLate_22 : decode cX11_findLate 22 = .ok (.iconst 1, 1) := by decide +kernel
theorem dX11_findLate_23 : decode cX11_findLate 23 = .ok (.iadd, 1) := by decide +kernel
theorem dX11_findLate_24 : decode cX11_findLate 24 = .ok (.imul, 1) := by decide +kernel
theorem dX11_findLate_25 : decode cX11_findLate 25 = .ok (.iload 4, 2) := by decide +kernel
theorem dX11_findLate_27 : decode cX11_findLate 27 = .ok (.iadd, 1) := by decide +kernel
theorem dX11_findLate_28 : decode cX11_findLate 28 = .ok (.iload 4, 2) := by decide +kernel
theorem dX11_findLate_30 : decode cX11_findLate 30 = .ok (.iload_n 3, 1) := by decide +kernel
theorem dX11_findLate_31 : decode cX11_findLate 31 = .ok (.if_icmp .ne 7, 3) := by decide +kernel
theorem dX11_findLate_34 : decode cX11_findLate 34 = .ok (.iconst 0, 1) := by decide +kernel
theorem dX11_findLate_35 : decode cX11_findLate 35 = .ok (.goto 5, 3) := by decide +kernel
theorem dX11_findLate_38 : decode cX11_findLate 38 = .ok (.ldc 203, 2) := by decide +kernel
theorem dX11_findLate_40 : decode cX11_findLate 40 = .ok (.iastore, 1) := by decide +kernel
theorem dX11_findLate_41 : decode cX11_findLate 41 = .ok (.iinc 4 1, 3) := by decide +kernel
theorem dX11_findLate_44 : decode cX11_findLate 44 = .ok (.goto (-35), 3) := by decide +kernel
theorem dX11_findLate_47 : decode cX11_findLate 47 = .ok (.iload_n 1, 1) := by decide +kernel
theorem dX11_findLate_48 : decode cX11_findLate 48 = .ok (.istore 4, 2) := by decide +kernel
theorem dX11_findLate_50 : decode cX11_findLate 50 = .ok (.iload 4, 2) := by decide +kernel
theorem dX11_findLate_52 : decode cX11_findLate 52 = .ok (.ifCond .le 219, 3) := by decide +kernel
theorem dX11_findLate_55 : decode cX11_findLate 55 = .ok (.iconst 0, 1) := by decide +kernel
theorem dX11_findLate_56 : decode cX11_findLate 56 = .ok (.istore 5, 2) := by decide +kernel
theorem dX11_findLate_58 : decode cX11_findLate 58 = .ok (.iload 5, 2) := by decide +kernel
theorem dX11_findLate_60 : decode cX11_findLate 60 = .ok (.iload_n 3, 1) := by decide +kernel
theorem dX11_findLate_61 : decode cX11_findLate 61 = .ok (.if_icmp .gt 204, 3) := by decide +kernel
theorem dX11_findLate_64 : decode cX11_findLate 64 = .ok (.ldc 203, 2) := by decide +kernel
theorem dX11_findLate_66 : decode cX11_findLate 66 = .ok (.istore 6, 2) := by decide +kernel
theorem dX11_findLate_68 : decode cX11_findLate 68 = .ok (.iload 5, 2) := by decide +kernel
theorem dX11_findLate_70 : decode cX11_findLate 70 = .ok (.istore 7, 2) := by decide +kernel
theorem dX11_findLate_72 : decode cX11_findLate 72 = .ok (.iload 7, 2) := by decide +kernel
theorem dX11_findLate_74 : decode cX11_findLate 74 = .ok (.iload_n 3, 1) := by decide +kernel
theorem dX11_findLate_75 : decode cX11_findLate 75 = .ok (.if_icmp .gt 169, 3) := by decide +kernel
theorem dX11_findLate_78 : decode cX11_findLate 78 = .ok (.iload 5, 2) := by decide +kernel
theorem dX11_findLate_80 : decode cX11_findLate 80 = .ok (.iload 7, 2) := by decide +kernel
theorem dX11_findLate_82 : decode cX11_findLate 82 = .ok (.iconst (-1), 1) := by decide +kernel
theorem dX11_findLate_83 : decode cX11_findLate 83 = .ok (.ixor, 1) := by decide +kernel
theorem dX11_findLate_84 : decode cX11_findLate 84 = .ok (.iand, 1) := by decide +kernel
theorem dX11_findLate_85 : decode cX11_findLate 85 = .ok (.ifCond .ne 24, 3) := by decide +kernel
theorem dX11_findLate_88 : decode cX11_findLate 88 = .ok (.aload_n 0, 1) := by decide +kernel
theorem dX11_findLate_89 : decode cX11_findLate 89 = .ok (.getfield 53, 3) := by decide +kernel
theorem dX11_findLate_92 : decode cX11_findLate 92 = .ok (.iload 7, 2) := by decide +kernel
theorem dX11_findLate_94 : decode cX11_findLate 94 = .ok (.laload, 1) := by decide +kernel
theorem dX11_findLate_95 : decode cX11_findLate 95 = .ok (.iload 4, 2) := by decide +kernel
theorem dX11_findLate_97 : decode cX11_findLate 97 = .ok (.lshr, 1) := by decide +kernel
theorem dX11_findLate_98 : decode cX11_findLate 98 = .ok (.lconst 1, 1) := by decide +kernel
theorem dX11_findLate_99 : decode cX11_findLate 99 = .ok (.land, 1) := by decide +kernel
theorem dX11_findLate_100 : decode cX11_findLate 100 = .ok (.lconst 1, 1) := by decide +kernel
theorem dX11_findLate_101 : decode cX11_findLate 101 = .ok (.lcmp, 1) := by decide +kernel
theorem dX11_findLate_102 : decode cX11_findLate 102 = .ok (.ifCond .ne 7, 3) := by decide +kernel
theorem dX11_findLate_105 : decode cX11_findLate 105 = .ok (.iconst 1, 1) := by decide +kernel
theorem dX11_findLate_106 : decode cX11_findLate 106 = .ok (.goto 4, 3) := by decide +kernel
theorem dX11_findLate_109 : decode cX11_findLate 109 = .ok (.iconst 0, 1) := by decide +kernel
theorem dX11_findLate_110 : decode cX11_findLate 110 = .ok (.istore 8, 2) := by decide +kernel
theorem dX11_findLate_112 : decode cX11_findLate 112 = .ok (.iconst 0, 1) := by decide +kernel
theorem dX11_findLate_113 : decode cX11_findLate 113 = .ok (.istore 9, 2) := by decide +kernel
theorem dX11_findLate_115 : decode cX11_findLate 115 = .ok (.iload 9, 2) := by decide +kernel
theorem dX11_findLate_117 : decode cX11_findLate 117 = .ok (.iload_n 2, 1) := by decide +kernel
theorem dX11_findLate_118 : decode cX11_findLate 118 = .ok (.if_icmp .ge 63, 3) := by decide +kernel
theorem dX11_findLate_121 : decode cX11_findLate 121 = .ok (.iload 8, 2) := by decide +kernel
theorem dX11_findLate_123 : decode cX11_findLate 123 = .ok (.ifCond .eq 58, 3) := by decide +kernel
theorem dX11_findLate_126 : decode cX11_findLate 126 = .ok (.aload_n 0, 1) := by decide +kernel
theorem dX11_findLate_127 : decode cX11_findLate 127 = .ok (.getfield 59, 3) := by decide +kernel
theorem dX11_findLate_130 : decode cX11_findLate 130 = .ok (.iload 9, 2) := by decide +kernel
theorem dX11_findLate_132 : decode cX11_findLate 132 = .ok (.iaload, 1) := by decide +kernel
theorem dX11_findLate_133 : decode cX11_findLate 133 = .ok (.ifCond .eq 35, 3) := by decide +kernel
theorem dX11_findLate_136 : decode cX11_findLate 136 = .ok (.iload 7, 2) := by decide +kernel
theorem dX11_findLate_138 : decode cX11_findLate 138 = .ok (.iload 5, 2) := by decide +kernel
theorem dX11_findLate_140 : decode cX11_findLate 140 = .ok (.iconst (-1), 1) := by decide +kernel
theorem dX11_findLate_141 : decode cX11_findLate 141 = .ok (.ixor, 1) := by decide +kernel
theorem dX11_findLate_142 : decode cX11_findLate 142 = .ok (.iand, 1) := by decide +kernel
theorem dX11_findLate_143 : decode cX11_findLate 143 = .ok (.iload 9, 2) := by decide +kernel
theorem dX11_findLate_145 : decode cX11_findLate 145 = .ok (.invokestatic 89, 3) := by decide +kernel
theorem dX11_findLate_148 : decode cX11_findLate 148 = .ok (.aload_n 0, 1) := by decide +kernel
theorem dX11_findLate_149 : decode cX11_findLate 149 = .ok (.getfield 59, 3) := by decide +kernel
theorem dX11_findLate_152 : decode cX11_findLate 152 = .ok (.iload 9, 2) := by decide +kernel
theorem dX11_findLate_154 : decode cX11_findLate 154 = .ok (.iaload, 1) := by decide +kernel
theorem dX11_findLate_155 : decode cX11_findLate 155 = .ok (.iload 4, 2) := by decide +kernel
theorem dX11_findLate_157 : decode cX11_findLate 157 = .ok (.if_icmp .ne 7, 3) := by decide +kernel
theorem dX11_findLate_160 : decode cX11_findLate 160 = .ok (.iconst 1, 1) := by decide +kernel
theorem dX11_findLate_161 : decode cX11_findLate 161 = .ok (.goto 4, 3) := by decide +kernel
theorem dX11_findLate_164 : decode cX11_findLate 164 = .ok (.iconst 0, 1) := by decide +kernel
theorem dX11_findLate_165 : decode cX11_findLate 165 = .ok (.if_icmp .ne 7, 3) := by decide +kernel
theorem dX11_findLate_168 : decode cX11_findLate 168 = .ok (.iconst 1, 1) := by decide +kernel
theorem dX11_findLate_169 : decode cX11_findLate 169 = .ok (.goto 4, 3) := by decide +kernel
theorem dX11_findLate_172 : decode cX11_findLate 172 = .ok (.iconst 0, 1) := by decide +kernel
theorem dX11_findLate_173 : decode cX11_findLate 173 = .ok (.istore 8, 2) := by decide +kernel
theorem dX11_findLate_175 : decode cX11_findLate 175 = .ok (.iinc 9 1, 3) := by decide +kernel
theorem dX11_findLate_178 : decode cX11_findLate 178 = .ok (.goto (-63), 3) := by decide +kernel
theorem dX11_findLate_181 : decode cX11_findLate 181 = .ok (.iload 8, 2) := by decide +kernel
theorem dX11_findLate_183 : decode cX11_findLate 183 = .ok (.ifCond .eq 35, 3) := by decide +kernel
theorem dX11_findLate_186 : decode cX11_findLate 186 = .ok (.iload 4, 2) := by decide +kernel
theorem dX11_findLate_188 : decode cX11_findLate 188 = .ok (.iload 7, 2) := by decide +kernel
theorem dX11_findLate_190 : decode cX11_findLate 190 = .ok (.iload 5, 2) := by decide +kernel
theorem dX11_findLate_192 : decode cX11_findLate 192 = .ok (.iconst (-1), 1) := by decide +kernel
theorem dX11_findLate_193 : decode cX11_findLate 193 = .ok (.ixor, 1) := by decide +kernel
theorem dX11_findLate_194 : decode cX11_findLate 194 = .ok (.iand, 1) := by decide +kernel
theorem dX11_findLate_195 : decode cX11_findLate 195 = .ok (.invokestatic 108, 3) := by decide +kernel
theorem dX11_findLate_198 : decode cX11_findLate 198 = .ok (.imul, 1) := by decide +kernel
theorem dX11_findLate_199 : decode cX11_findLate 199 = .ok (.aload_n 0, 1) := by decide +kernel
theorem dX11_findLate_200 : decode cX11_findLate 200 = .ok (.getfield 56, 3) := by decide +kernel
theorem dX11_findLate_203 : decode cX11_findLate 203 = .ok (.bipush 32, 2) := by decide +kernel
theorem dX11_findLate_205 : decode cX11_findLate 205 = .ok (.iload 4, 2) := by decide +kernel
theorem dX11_findLate_207 : decode cX11_findLate 207 = .ok (.iconst 1, 1) := by decide +kernel
theorem dX11_findLate_208 : decode cX11_findLate 208 = .ok (.iadd, 1) := by decide +kernel
theorem dX11_findLate_209 : decode cX11_findLate 209 = .ok (.imul, 1) := by decide +kernel
theorem dX11_findLate_210 : decode cX11_findLate 210 = .ok (.iload 7, 2) := by decide +kernel
theorem dX11_findLate_212 : decode cX11_findLate 212 = .ok (.iadd, 1) := by decide +kernel
theorem dX11_findLate_213 : decode cX11_findLate 213 = .ok (.iaload, 1) := by decide +kernel
theorem dX11_findLate_214 : decode cX11_findLate 214 = .ok (.iadd, 1) := by decide +kernel
theorem dX11_findLate_215 : decode cX11_findLate 215 = .ok (.goto 5, 3) := by decide +kernel
theorem dX11_findLate_218 : decode cX11_findLate 218 = .ok (.ldc 203, 2) := by decide +kernel
theorem dX11_findLate_220 : decode cX11_findLate 220 = .ok (.istore 9, 2) := by decide +kernel
theorem dX11_findLate_222 : decode cX11_findLate 222 = .ok (.iload 9, 2) := by decide +kernel
theorem dX11_findLate_224 : decode cX11_findLate 224 = .ok (.iload 6, 2) := by decide +kernel
theorem dX11_findLate_226 : decode cX11_findLate 226 = .ok (.if_icmp .le 8, 3) := by decide +kernel
theorem dX11_findLate_229 : decode cX11_findLate 229 = .ok (.iload 9, 2) := by decide +kernel
theorem dX11_findLate_231 : decode cX11_findLate 231 = .ok (.goto 5, 3) := by decide +kernel
theorem dX11_findLate_234 : decode cX11_findLate 234 = .ok (.iload 6, 2) := by decide +kernel
theorem dX11_findLate_236 : decode cX11_findLate 236 = .ok (.istore 6, 2) := by decide +kernel
theorem dX11_findLate_238 : decode cX11_findLate 238 = .ok (.iinc 7 1, 3) := by decide +kernel
theorem dX11_findLate_241 : decode cX11_findLate 241 = .ok (.goto (-169), 3) := by decide +kernel
theorem dX11_findLate_244 : decode cX11_findLate 244 = .ok (.aload_n 0, 1) := by decide +kernel
theorem dX11_findLate_245 : decode cX11_findLate 245 = .ok (.getfield 56, 3) := by decide +kernel
theorem dX11_findLate_248 : decode cX11_findLate 248 = .ok (.bipush 32, 2) := by decide +kernel
theorem dX11_findLate_250 : decode cX11_findLate 250 = .ok (.iload 4, 2) := by decide +kernel
theorem dX11_findLate_252 : decode cX11_findLate 252 = .ok (.imul, 1) := by decide +kernel
theorem dX11_findLate_253 : decode cX11_findLate 253 = .ok (.iload 5, 2) := by decide +kernel
theorem dX11_findLate_255 : decode cX11_findLate 255 = .ok (.iadd, 1) := by decide +kernel
theorem dX11_findLate_256 : decode cX11_findLate 256 = .ok (.iload 6, 2) := by decide +kernel
theorem dX11_findLate_258 : decode cX11_findLate 258 = .ok (.iastore, 1) := by decide +kernel
theorem dX11_findLate_259 : decode cX11_findLate 259 = .ok (.iinc 5 1, 3) := by decide +kernel
theorem dX11_findLate_262 : decode cX11_findLate 262 = .ok (.goto (-204), 3) := by decide +kernel
theorem dX11_findLate_265 : decode cX11_findLate 265 = .ok (.iinc 4 (-1), 3) := by decide +kernel
theorem dX11_findLate_268 : decode cX11_findLate 268 = .ok (.goto (-218), 3) := by decide +kernel
theorem dX11_findLate_271 : decode cX11_findLate 271 = .ok (.aload_n 0, 1) := by decide +kernel
theorem dX11_findLate_272 : decode cX11_findLate 272 = .ok (.getfield 56, 3) := by decide +kernel
theorem dX11_findLate_275 : decode cX11_findLate 275 = .ok (.bipush 32, 2) := by decide +kernel
theorem dX11_findLate_277 : decode cX11_findLate 277 = .ok (.iaload, 1) := by decide +kernel
theorem dX11_findLate_278 : decode cX11_findLate 278 = .ok (.ireturn, 1) := by decide +kernel
set_option maxRecDepth 20000 in
theorem ggX11_late_X11_in : GoodIn wsX11_late wsX11_in := goodIn_r _ [11] (by decide +kernel) (by decide +kernel)
set_option maxRecDepth 20000 in
theorem gX11_late_X11_in : GoodIn wsX11_late (va_wsS RX11 81 yX11_in wsX11_in) := goodIn_app (goodIn_of _ (by decide +kernel)) ggX11_late_X11_in
set_option maxRecDepth 20000 in
theorem ggX11_late_X11_layDues : GoodIn wsX11_late wsX11_layDues := goodIn_r _ [15, 6, 4, 16, 17, 10, 18, 56, 57, 58, 59, 60, 61, 62, 63, 64, 65, 66, 67, 68, 69, 70, 71, 72, 73, 74, 75, 76, 77, 78, 79, 80, 81, 82, 83, 84, 85] (by decide +kernel) (by decide +kernel)
set_option maxRecDepth 20000 in
theorem gX11_late_X11_layDues : GoodIn wsX11_late (wsV RX11 166 RX11 yX11_layDues wsX11_layDues) := goodIn_app (goodIn_of _ (by decide +kernel)) ggX11_late_X11_layDues
set_option maxRecDepth 20000 in
theorem ggX11_late_X11_farBy : GoodIn wsX11_late wsX11_farBy := goodIn_r _ [22, 6, 23, 24, 25, 10, 26, 27, 4, 28, 29, 30, 16, 17, 18, 31, 32, 33, 34, 35, 36, 37, 38, 39, 40, 41, 42, 43, 56, 57, 58, 59, 60, 61, 62, 63, 64, 65, 66, 67, 68, 69, 70, 71, 72, 73, 74, 75, 76, 77, 78, 79, 80, 81, 82, 83, 84, 85] (by decide +kernel) (by decide +kernel)
set_option maxRecDepth 20000 in
theorem gX11_late_X11_farBy : GoodIn wsX11_late (wsV RX11 177 RX11 yX11_farBy wsX11_farBy) := goodIn_app (goodIn_of _ (by decide +kernel)) ggX11_late_X11_farBy
set_option maxRecDepth 20000 in
theorem ggX11_late_X11_ones : GoodIn wsX11_late wsX11_ones := goodIn_r _ [46] (by decide +kernel) (by decide +kernel)
set_option maxRecDepth 20000 in
theorem gX11_late_X11_ones : GoodIn wsX11_late (va_wsS RX11 108 yX11_ones wsX11_ones) := goodIn_app (goodIn_of _ (by decide +kernel)) ggX11_late_X11_ones
set_option maxRecDepth 20000 in
theorem ggX11_late_X11_has : GoodIn wsX11_late wsX11_has := goodIn_r _ [18] (by decide +kernel) (by decide +kernel)
set_option maxRecDepth 20000 in
theorem gX11_late_X11_has : GoodIn wsX11_late (va_wsS RX11 89 yX11_has wsX11_has) := goodIn_app (goodIn_of _ (by decide +kernel)) ggX11_late_X11_has
set_option maxRecDepth 20000 in
theorem ggX11_late_X11_atOf : GoodIn wsX11_late wsX11_atOf := goodIn_r _ [49, 16, 17, 10, 18] (by decide +kernel) (by decide +kernel)
set_option maxRecDepth 20000 in
theorem gX11_late_X11_atOf : GoodIn wsX11_late (va_wsS RX11 158 yX11_atOf wsX11_atOf) := goodIn_app (goodIn_of _ (by decide +kernel)) ggX11_late_X11_atOf
set_option maxRecDepth 20000 in
theorem ggX11_late_X11_lay : GoodIn wsX11_late wsX11_lay := goodIn_r _ [26, 27, 4, 28, 29, 30, 16, 17, 10, 18, 31, 32, 33, 34, 56, 57, 58, 59, 60, 61, 62, 63, 64, 65, 66, 67, 68, 69, 70, 71, 72, 73, 74, 75, 76, 77, 78, 79, 80, 81, 82, 83, 84, 85] (by decide +kernel) (by decide +kernel)
set_option maxRecDepth 20000 in
theorem gX11_late_X11_lay : GoodIn wsX11_late (wsV RX11 97 RX11 yX11_lay wsX11_lay) := goodIn_app (goodIn_of _ (by decide +kernel)) ggX11_late_X11_lay
set_option maxRecDepth 20000 in
theorem ggX11_late_X11_laySums : GoodIn wsX11_late wsX11_laySums := goodIn_r _ [38, 39, 27, 29, 56, 57, 58, 59, 60, 61, 62, 63, 64, 65, 66, 67, 68, 69, 70, 71, 72, 73, 74, 75, 76, 77, 78, 79, 80, 81, 82, 83, 84, 85] (by decide +kernel) (by decide +kernel)
set_option maxRecDepth 20000 in
theorem gX11_late_X11_laySums : GoodIn wsX11_late (wsV RX11 171 RX11 yX11_laySums wsX11_laySums) := goodIn_app (goodIn_of _ (by decide +kernel)) ggX11_late_X11_laySums
set_option maxRecDepth 20000 in
theorem ggX11_late_X11_isPaid : GoodIn wsX11_late wsX11_isPaid := goodIn_r _ [43, 39, 56, 57, 58, 59, 60, 61, 62, 63, 64, 65, 66, 67, 68, 69, 70, 71, 72, 73, 74, 75, 76, 77, 78, 79, 80, 81, 82, 83, 84, 85] (by decide +kernel) (by decide +kernel)
set_option maxRecDepth 20000 in
theorem gX11_late_X11_isPaid : GoodIn wsX11_late (wsV RX11 174 RX11 yX11_isPaid wsX11_isPaid) := goodIn_app (goodIn_of _ (by decide +kernel)) ggX11_late_X11_isPaid
set_option maxRecDepth 20000 in
theorem ggX11_late_X11_findLate : GoodIn wsX11_late wsX11_findLate := goodIn_r _ [53, 54, 55, 5, 7, 16, 17, 10, 18, 44, 45, 46, 56, 57, 58, 59, 60, 61, 62, 63, 64, 65, 66, 67, 68, 69, 70, 71, 72, 73, 74, 75, 76, 77, 78, 79, 80, 81, 82, 83, 84, 85] (by decide +kernel) (by decide +kernel)
set_option maxRecDepth 20000 in
theorem gX11_late_X11_findLate : GoodIn wsX11_late (wsV RX11 204 RX11 yX11_findLate wsX11_findLate) := goodIn_app (goodIn_of _ (by decide +kernel)) ggX11_late_X11_findLate
theorem dX11_late_0 : decode cX11_late 0 = .ok (.iload_n 1, 1) := by decide +kernel
theorem dX11_late_1 : decode cX11_late 1 = .ok (.i2l, 1) := by decide +kernel
theorem dX11_late_2 : decode cX11_late 2 = .ok (.lconst 1, 1) := by decide +kernel
theorem dX11_late_3 : decode cX11_late 3 = .ok (.ldc2_w 164, 3) := by decide +kernel
theorem dX11_late_6 : decode cX11_late 6 = .ok (.invokestatic 81, 3) := by decide +kernel
theorem dX11_late_9 : decode cX11_late 9 = .ok (.ifCond .eq 17, 3) := by decide +kernel
theorem dX11_late_12 : decode cX11_late 12 = .ok (.iload_n 2, 1) := by decide +kernel
theorem dX11_late_13 : decode cX11_late 13 = .ok (.i2l, 1) := by decide +kernel
theorem dX11_late_14 : decode cX11_late 14 = .ok (.ldc2_w 197, 3) := by decide +kernel
theorem dX11_late_17 : decode cX11_late 17 = .ok (.ldc2_w 195, 3) := by decide +kernel
theorem dX11_late_20 : decode cX11_late 20 = .ok (.invokestatic 81, 3) := by decide +kernel
theorem dX11_late_23 : decode cX11_late 23 = .ok (.ifCond .ne 5, 3) := by decide +kernel
theorem dX11_late_26 : decode cX11_late 26 = .ok (.iconst (-1), 1) := by decide +kernel
theorem dX11_late_27 : decode cX11_late 27 = .ok (.ireturn, 1) := by decide +kernel
theorem dX11_late_28 : decode cX11_late 28 = .ok (.aload_n 0, 1) := by decide +kernel
theorem dX11_late_29 : decode cX11_late 29 = .ok (.invokevirtual 166, 3) := by decide +kernel
theorem dX11_late_32 : decode cX11_late 32 = .ok (.aload_n 0, 1) := by decide +kernel
theorem dX11_late_33 : decode cX11_late 33 = .ok (.aload_n 0, 1) := by decide +kernel
theorem dX11_late_34 : decode cX11_late 34 = .ok (.getfield 7, 3) := by decide +kernel
theorem dX11_late_37 : decode cX11_late 37 = .ok (.bipush 26, 2) := by decide +kernel
theorem dX11_late_39 : decode cX11_late 39 = .ok (.iaload, 1) := by decide +kernel
theorem dX11_late_40 : decode cX11_late 40 = .ok (.invokevirtual 177, 3) := by decide +kernel
theorem dX11_late_43 : decode cX11_late 43 = .ok (.iload_n 1, 1) := by decide +kernel
theorem dX11_late_44 : decode cX11_late 44 = .ok (.if_icmp .ge 6, 3) := by decide +kernel
theorem dX11_late_47 : decode cX11_late 47 = .ok (.bipush (-2), 2) := by decide +kernel
theorem dX11_late_49 : decode cX11_late 49 = .ok (.ireturn, 1) := by decide +kernel
theorem dX11_late_50 : decode cX11_late 50 = .ok (.aload_n 0, 1) := by decide +kernel
theorem dX11_late_51 : decode cX11_late 51 = .ok (.getfield 7, 3) := by decide +kernel
theorem dX11_late_54 : decode cX11_late 54 = .ok (.bipush 26, 2) := by decide +kernel
theorem dX11_late_56 : decode cX11_late 56 = .ok (.iaload, 1) := by decide +kernel
theorem dX11_late_57 : decode cX11_late 57 = .ok (.invokestatic 108, 3) := by decide +kernel
theorem dX11_late_60 : decode cX11_late 60 = .ok (.istore_n 3, 1) := by decide +kernel
theorem dX11_late_61 : decode cX11_late 61 = .ok (.iconst 0, 1) := by decide +kernel
theorem dX11_late_62 : decode cX11_late 62 = .ok (.istore 4, 2) := by decide +kernel
theorem dX11_late_64 : decode cX11_late 64 = .ok (.iload 4, 2) := by decide +kernel
theorem dX11_late_66 : decode cX11_late 66 = .ok (.iconst 1, 1) := by decide +kernel
theorem dX11_late_67 : decode cX11_late 67 = .ok (.iload_n 3, 1) := by decide +kernel
theorem dX11_late_68 : decode cX11_late 68 = .ok (.ishl, 1) := by decide +kernel
theorem dX11_late_69 : decode cX11_late 69 = .ok (.if_icmp .ge 125, 3) := by decide +kernel
theorem dX11_late_72 : decode cX11_late 72 = .ok (.iconst 0, 1) := by decide +kernel
theorem dX11_late_73 : decode cX11_late 73 = .ok (.istore 5, 2) := by decide +kernel
theorem dX11_late_75 : decode cX11_late 75 = .ok (.iconst 0, 1) := by decide +kernel
theorem dX11_late_76 : decode cX11_late 76 = .ok (.istore 6, 2) := by decide +kernel
theorem dX11_late_78 : decode cX11_late 78 = .ok (.iload 6, 2) := by decide +kernel
theorem dX11_late_80 : decode cX11_late 80 = .ok (.iload_n 3, 1) := by decide +kernel
theorem dX11_late_81 : decode cX11_late 81 = .ok (.if_icmp .ge 42, 3) := by decide +kernel
theorem dX11_late_84 : decode cX11_late 84 = .ok (.iload 5, 2) := by decide +kernel
theorem dX11_late_86 : decode cX11_late 86 = .ok (.iload 4, 2) := by decide +kernel
theorem dX11_late_88 : decode cX11_late 88 = .ok (.iload 6, 2) := by decide +kernel
theorem dX11_late_90 : decode cX11_late 90 = .ok (.invokestatic 89, 3) := by decide +kernel
theorem dX11_late_93 : decode cX11_late 93 = .ok (.ifCond .eq 20, 3) := by decide +kernel
theorem dX11_late_96 : decode cX11_late 96 = .ok (.iconst 1, 1) := by decide +kernel
theorem dX11_late_97 : decode cX11_late 97 = .ok (.aload_n 0, 1) := by decide +kernel
theorem dX11_late_98 : decode cX11_late 98 = .ok (.getfield 7, 3) := by decide +kernel
theorem dX11_late_101 : decode cX11_late 101 = .ok (.bipush 26, 2) := by decide +kernel
theorem dX11_late_103 : decode cX11_late 103 = .ok (.iaload, 1) := by decide +kernel
theorem dX11_late_104 : decode cX11_late 104 = .ok (.iload 6, 2) := by decide +kernel
theorem dX11_late_106 : decode cX11_late 106 = .ok (.invokestatic 158, 3) := by decide +kernel
theorem dX11_late_109 : decode cX11_late 109 = .ok (.ishl, 1) := by decide +kernel
theorem dX11_late_110 : decode cX11_late 110 = .ok (.goto 4, 3) := by decide +kernel
theorem dX11_late_113 : decode cX11_late 113 = .ok (.iconst 0, 1) := by decide +kernel
theorem dX11_late_114 : decode cX11_late 114 = .ok (.ior, 1) := by decide +kernel
theorem dX11_late_115 : decode cX11_late 115 = .ok (.istore 5, 2) := by decide +kernel
theorem dX11_late_117 : decode cX11_late 117 = .ok (.iinc 6 1, 3) := by decide +kernel
theorem dX11_late_120 : decode cX11_late 120 = .ok (.goto (-42), 3) := by decide +kernel
theorem dX11_late_123 : decode cX11_late 123 = .ok (.aload_n 0, 1) := by decide +kernel
theorem dX11_late_124 : decode cX11_late 124 = .ok (.iload 5, 2) := by decide +kernel
theorem dX11_late_126 : decode cX11_late 126 = .ok (.invokevirtual 97, 3) := by decide +kernel
theorem dX11_late_129 : decode cX11_late 129 = .ok (.aload_n 0, 1) := by decide +kernel
theorem dX11_late_130 : decode cX11_late 130 = .ok (.invokevirtual 171, 3) := by decide +kernel
theorem dX11_late_133 : decode cX11_late 133 = .ok (.aload_n 0, 1) := by decide +kernel
theorem dX11_late_134 : decode cX11_late 134 = .ok (.getfield 53, 3) := by decide +kernel
theorem dX11_late_137 : decode cX11_late 137 = .ok (.iload 4, 2) := by decide +kernel
theorem dX11_late_139 : decode cX11_late 139 = .ok (.lconst 0, 1) := by decide +kernel
theorem dX11_late_140 : decode cX11_late 140 = .ok (.lastore, 1) := by decide +kernel
theorem dX11_late_141 : decode cX11_late 141 = .ok (.iconst 1, 1) := by decide +kernel
theorem dX11_late_142 : decode cX11_late 142 = .ok (.istore 6, 2) := by decide +kernel
theorem dX11_late_144 : decode cX11_late 144 = .ok (.iload 6, 2) := by decide +kernel
theorem dX11_late_146 : decode cX11_late 146 = .ok (.iload_n 1, 1) := by decide +kernel
theorem dX11_late_147 : decode cX11_late 147 = .ok (.if_icmp .gt 41, 3) := by decide +kernel
theorem dX11_late_150 : decode cX11_late 150 = .ok (.aload_n 0, 1) := by decide +kernel
theorem dX11_late_151 : decode cX11_late 151 = .ok (.getfield 53, 3) := by decide +kernel
theorem dX11_late_154 : decode cX11_late 154 = .ok (.iload 4, 2) := by decide +kernel
theorem dX11_late_156 : decode cX11_late 156 = .ok (.dup2, 1) := by decide +kernel
theorem dX11_late_157 : decode cX11_late 157 = .ok (.laload, 1) := by decide +kernel
theorem dX11_late_158 : decode cX11_late 158 = .ok (.aload_n 0, 1) := by decide +kernel
theorem dX11_late_159 : decode cX11_late 159 = .ok (.aload_n 0, 1) := by decide +kernel
theorem dX11_late_160 : decode cX11_late 160 = .ok (.getfield 28, 3) := by decide +kernel
theorem dX11_late_163 : decode cX11_late 163 = .ok (.iload 6, 2) := by decide +kernel
theorem dX11_late_165 : decode cX11_late 165 = .ok (.iaload, 1) := by decide +kernel
theorem dX11_late_166 : decode cX11_late 166 = .ok (.invokevirtual 174, 3) := by decide +kernel
theorem dX11_late_169 : decode cX11_late 169 = .ok (.ifCond .eq 10, 3) := by decide +kernel
theorem dX11_late_172 : decode cX11_late 172 = .ok (.lconst 1, 1) := by decide +kernel
theorem dX11_late_173 : decode cX11_late 173 = .ok (.iload 6, 2) := by decide +kernel
theorem dX11_late_175 : decode cX11_late 175 = .ok (.lshl, 1) := by decide +kernel
theorem dX11_late_176 : decode cX11_late 176 = .ok (.goto 4, 3) := by decide +kernel
theorem dX11_late_179 : decode cX11_late 179 = .ok (.lconst 0, 1) := by decide +kernel
theorem dX11_late_180 : decode cX11_late 180 = .ok (.lor, 1) := by decide +kernel
theorem dX11_late_181 : decode cX11_late 181 = .ok (.lastore, 1) := by decide +kernel
theorem dX11_late_182 : decode cX11_late 182 = .ok (.iinc 6 1, 3) := by decide +kernel
theorem dX11_late_185 : decode cX11_late 185 = .ok (.goto (-41), 3) := by decide +kernel
theorem dX11_late_188 : decode cX11_late 188 = .ok (.iinc 4 1, 3) := by decide +kernel
theorem dX11_late_191 : decode cX11_late 191 = .ok (.goto (-127), 3) := by decide +kernel
theorem dX11_late_194 : decode cX11_late 194 = .ok (.iconst 0, 1) := by decide +kernel
theorem dX11_late_195 : decode cX11_late 195 = .ok (.istore 4, 2) := by decide +kernel
theorem dX11_late_197 : decode cX11_late 197 = .ok (.iload 4, 2) := by decide +kernel
theorem dX11_late_199 : decode cX11_late 199 = .ok (.iconst 5, 1) := by decide +kernel
theorem dX11_late_200 : decode cX11_late 200 = .ok (.if_icmp .ge 17, 3) := by decide +kernel
theorem dX11_late_203 : decode cX11_late 203 = .ok (.aload_n 0, 1) := by decide +kernel
theorem dX11_late_204 : decode cX11_late 204 = .ok (.getfield 59, 3) := by decide +kernel
theorem dX11_late_207 : decode cX11_late 207 = .ok (.iload 4, 2) := by decide +kernel
theorem dX11_late_209 : decode cX11_late 209 = .ok (.iconst 0, 1) := by decide +kernel
theorem dX11_late_210 : decode cX11_late 210 = .ok (.iastore, 1) := by decide +kernel
theorem dX11_late_211 : decode cX11_late 211 = .ok (.iinc 4 1, 3) := by decide +kernel
theorem dX11_late_214 : decode cX11_late 214 = .ok (.goto (-17), 3) := by decide +kernel
theorem dX11_late_217 : decode cX11_late 217 = .ok (.aload_n 0, 1) := by decide +kernel
theorem dX11_late_218 : decode cX11_late 218 = .ok (.iload_n 1, 1) := by decide +kernel
theorem dX11_late_219 : decode cX11_late 219 = .ok (.iload_n 3, 1) := by decide +kernel
theorem dX11_late_220 : decode cX11_late 220 = .ok (.invokevirtual 204, 3) := by decide +kernel
theorem dX11_late_223 : decode cX11_late 223 = .ok (.istore 4, 2) := by decide +kernel
theorem dX11_late_225 : decode cX11_late 225 = .ok (.iload_n 2, 1) := by decide +kernel
theorem dX11_late_226 : decode cX11_late 226 = .ok (.ifCond .lt 8, 3) := by decide +kernel
theorem dX11_late_229 : decode cX11_late 229 = .ok (.iload_n 2, 1) := by decide +kernel
theorem dX11_late_230 : decode cX11_late 230 = .ok (.iload_n 3, 1) := by decide +kernel
theorem dX11_late_231 : decode cX11_late 231 = .ok (.if_icmp .lt 15, 3) := by decide +kernel
theorem dX11_late_234 : decode cX11_late 234 = .ok (.iload_n 2, 1) := by decide +kernel
theorem dX11_late_235 : decode cX11_late 235 = .ok (.ifCond .ge 8, 3) := by decide +kernel
theorem dX11_late_238 : decode cX11_late 238 = .ok (.iload 4, 2) := by decide +kernel
theorem dX11_late_240 : decode cX11_late 240 = .ok (.goto 5, 3) := by decide +kernel
theorem dX11_late_243 : decode cX11_late 243 = .ok (.bipush (-4), 2) := by decide +kernel
theorem dX11_late_245 : decode cX11_late 245 = .ok (.ireturn, 1) := by decide +kernel
theorem dX11_late_246 : decode cX11_late 246 = .ok (.iconst 0, 1) := by decide +kernel
theorem dX11_late_247 : decode cX11_late 247 = .ok (.istore 5, 2) := by decide +kernel
theorem dX11_late_249 : decode cX11_late 249 = .ok (.iload 5, 2) := by decide +kernel
theorem dX11_late_251 : decode cX11_late 251 = .ok (.iload_n 2, 1) := by decide +kernel
theorem dX11_late_252 : decode cX11_late 252 = .ok (.if_icmp .gt 42, 3) := by decide +kernel
theorem dX11_late_255 : decode cX11_late 255 = .ok (.aload_n 0, 1) := by decide +kernel
theorem dX11_late_256 : decode cX11_late 256 = .ok (.getfield 59, 3) := by decide +kernel
theorem dX11_late_259 : decode cX11_late 259 = .ok (.iload 5, 2) := by decide +kernel
theorem dX11_late_261 : decode cX11_late 261 = .ok (.iconst 1, 1) := by decide +kernel
theorem dX11_late_262 : decode cX11_late 262 = .ok (.iastore, 1) := by decide +kernel
theorem dX11_late_263 : decode cX11_late 263 = .ok (.aload_n 0, 1) := by decide +kernel
theorem dX11_late_264 : decode cX11_late 264 = .ok (.iload_n 1, 1) := by decide +kernel
theorem dX11_late_265 : decode cX11_late 265 = .ok (.iload_n 3, 1) := by decide +kernel
theorem dX11_late_266 : decode cX11_late 266 = .ok (.invokevirtual 204, 3) := by decide +kernel
theorem dX11_late_269 : decode cX11_late 269 = .ok (.iload 4, 2) := by decide +kernel
theorem dX11_late_271 : decode cX11_late 271 = .ok (.if_icmp .eq 17, 3) := by decide +kernel
theorem dX11_late_274 : decode cX11_late 274 = .ok (.aload_n 0, 1) := by decide +kernel
theorem dX11_late_275 : decode cX11_late 275 = .ok (.getfield 59, 3) := by decide +kernel
theorem dX11_late_278 : decode cX11_late 278 = .ok (.iload 5, 2) := by decide +kernel
theorem dX11_late_280 : decode cX11_late 280 = .ok (.dup2, 1) := by decide +kernel
theorem dX11_late_281 : decode cX11_late 281 = .ok (.iaload, 1) := by decide +kernel
theorem dX11_late_282 : decode cX11_late 282 = .ok (.iconst 1, 1) := by decide +kernel
theorem dX11_late_283 : decode cX11_late 283 = .ok (.iadd, 1) := by decide +kernel
theorem dX11_late_284 : decode cX11_late 284 = .ok (.iastore, 1) := by decide +kernel
theorem dX11_late_285 : decode cX11_late 285 = .ok (.goto (-22), 3) := by decide +kernel
theorem dX11_late_288 : decode cX11_late 288 = .ok (.iinc 5 1, 3) := by decide +kernel
theorem dX11_late_291 : decode cX11_late 291 = .ok (.goto (-42), 3) := by decide +kernel
theorem dX11_late_294 : decode cX11_late 294 = .ok (.aload_n 0, 1) := by decide +kernel
theorem dX11_late_295 : decode cX11_late 295 = .ok (.getfield 59, 3) := by decide +kernel
theorem dX11_late_298 : decode cX11_late 298 = .ok (.iload_n 2, 1) := by decide +kernel
theorem dX11_late_299 : decode cX11_late 299 = .ok (.iaload, 1) := by decide +kernel
theorem dX11_late_300 : decode cX11_late 300 = .ok (.ireturn, 1) := by decide +kernel
theorem dX11_image_0 : decode cX11_image 0 = .ok (.iconst 0, 1) := by decide +kernel
theorem dX11_image_1 : decode cX11_image 1 = .ok (.istore_n 1, 1) := by decide +kernel
theorem dX11_image_2 : decode cX11_image 2 = .ok (.iload_n 1, 1) := by decide +kernel
theorem dX11_image_3 : decode cX11_image 3 = .ok (.bipush 30, 2) := by decide +kernel
theorem dX11_image_5 : decode cX11_image 5 = .ok (.if_icmp .ge 24, 3) := by decide +kernel
theorem dX11_image_8 : decode cX11_image 8 = .ok (.aload_n 0, 1) := by decide +kernel
theorem dX11_image_9 : decode cX11_image 9 = .ok (.getfield 7, 3) := by decide +kernel
theorem dX11_image_12 : decode cX11_image 12 = .ok (.bipush 30, 2) := by decide +kernel
theorem dX11_image_14 : decode cX11_image 14 = .ok (.iload_n 1, 1) := by decide +kernel
theorem dX11_image_15 : decode cX11_image 15 = .ok (.iadd, 1) := by decide +kernel
theorem dX11_image_16 : decode cX11_image 16 = .ok (.aload_n 0, 1) := by decide +kernel
theorem dX11_image_17 : decode cX11_image 17 = .ok (.getfield 7, 3) := by decide +kernel
theorem dX11_image_20 : decode cX11_image 20 = .ok (.iload_n 1, 1) := by decide +kernel
theorem dX11_image_21 : decode cX11_image 21 = .ok (.iaload, 1) := by decide +kernel
theorem dX11_image_22 : decode cX11_image 22 = .ok (.iastore, 1) := by decide +kernel
theorem dX11_image_23 : decode cX11_image 23 = .ok (.iinc 1 1, 3) := by decide +kernel
theorem dX11_image_26 : decode cX11_image 26 = .ok (.goto (-24), 3) := by decide +kernel
theorem dX11_image_29 : decode cX11_image 29 = .ok (.aload_n 0, 1) := by decide +kernel
theorem dX11_image_30 : decode cX11_image 30 = .ok (.iconst 1, 1) := by decide +kernel
theorem dX11_image_31 : decode cX11_image 31 = .ok (.putfield 207, 3) := by decide +kernel
theorem dX11_image_34 : decode cX11_image 34 = .ok (.iconst 1, 1) := by decide +kernel
theorem dX11_image_35 : decode cX11_image 35 = .ok (.ireturn, 1) := by decide +kernel
theorem dX11_restore_0 : decode cX11_restore 0 = .ok (.aload_n 0, 1) := by decide +kernel
theorem dX11_restore_1 : decode cX11_restore 1 = .ok (.getfield 207, 3) := by decide +kernel
theorem dX11_restore_4 : decode cX11_restore 4 = .ok (.ifCond .ne 6, 3) := by decide +kernel
theorem dX11_restore_7 : decode cX11_restore 7 = .ok (.bipush (-4), 2) := by decide +kernel
theorem dX11_restore_9 : decode cX11_restore 9 = .ok (.ireturn, 1) := by decide +kernel
theorem dX11_restore_10 : decode cX11_restore 10 = .ok (.iconst 0, 1) := by decide +kernel
theorem dX11_restore_11 : decode cX11_restore 11 = .ok (.istore_n 1, 1) := by decide +kernel
theorem dX11_restore_12 : decode cX11_restore 12 = .ok (.iload_n 1, 1) := by decide +kernel
theorem dX11_restore_13 : decode cX11_restore 13 = .ok (.bipush 30, 2) := by decide +kernel
theorem dX11_restore_15 : decode cX11_restore 15 = .ok (.if_icmp .ge 24, 3) := by decide +kernel
theorem dX11_restore_18 : decode cX11_restore 18 = .ok (.aload_n 0, 1) := by decide +kernel
theorem dX11_restore_19 : decode cX11_restore 19 = .ok (.getfield 7, 3) := by decide +kernel
theorem dX11_restore_22 : decode cX11_restore 22 = .ok (.iload_n 1, 1) := by decide +kernel
theorem dX11_restore_23 : decode cX11_restore 23 = .ok (.aload_n 0, 1) := by decide +kernel
theorem dX11_restore_24 : decode cX11_restore 24 = .ok (.getfield 7, 3) := by decide +kernel
theorem dX11_restore_27 : decode cX11_restore 27 = .ok (.bipush 30, 2) := by decide +kernel
theorem dX11_restore_29 : decode cX11_restore 29 = .ok (.iload_n 1, 1) := by decide +kernel
theorem dX11_restore_30 : decode cX11_restore 30 = .ok (.iadd, 1) := by decide +kernel
theorem dX11_restore_31 : decode cX11_restore 31 = .ok (.iaload, 1) := by decide +kernel
theorem dX11_restore_32 : decode cX11_restore 32 = .ok (.iastore, 1) := by decide +kernel
theorem dX11_restore_33 : decode cX11_restore 33 = .ok (.iinc 1 1, 3) := by decide +kernel
theorem dX11_restore_36 : decode cX11_restore 36 = .ok (.goto (-24), 3) := by decide +kernel
theorem dX11_restore_39 : decode cX11_restore 39 = .ok (.iconst 1, 1) := by decide +kernel
theorem dX11_restore_40 : decode cX11_restore 40 = .ok (.ireturn, 1) := by decide +kernel
set_option maxRecDepth 20000 in
theorem ggX11_isSheet_X11_in : GoodIn wsX11_isSheet wsX11_in := goodIn_r _ [5] (by decide +kernel) (by decide +kernel)
set_option maxRecDepth 20000 in
theorem gX11_isSheet_X11_in : GoodIn wsX11_isSheet (va_wsS RX11 81 yX11_in wsX11_in) := goodIn_app (goodIn_of _ (by decide +kernel)) ggX11_isSheet_X11_in
theorem dX11_isSheet_0 : decode cX11_isSheet 0 = .ok (.iload_n 0, 1) := by decide +kernel
theorem dX11_isSheet_1 : decode cX11_isSheet 1 = .ok (.i2l, 1) := by decide +kernel
theorem dX11_isSheet_2 : decode cX11_isSheet 2 = .ok (.lconst 0, 1) := by decide +kernel
theorem dX11_isSheet_3 : decode cX11_isSheet 3 = .ok (.ldc2_w 100, 3) := by decide +kernel
theorem dX11_isSheet_6 : decode cX11_isSheet 6 = .ok (.invokestatic 81, 3) := by decide +kernel
theorem dX11_isSheet_9 : decode cX11_isSheet 9 = .ok (.ireturn, 1) := by decide +kernel
theorem dX11_bars_0 : decode cX11_bars 0 = .ok (.aload_n 0, 1) := by decide +kernel
theorem dX11_bars_1 : decode cX11_bars 1 = .ok (.getfield 62, 3) := by decide +kernel
theorem dX11_bars_4 : decode cX11_bars 4 = .ok (.iload_n 1, 1) := by decide +kernel
theorem dX11_bars_5 : decode cX11_bars 5 = .ok (.iaload, 1) := by decide +kernel
theorem dX11_bars_6 : decode cX11_bars 6 = .ok (.ifCond .ge 8, 3) := by decide +kernel
theorem dX11_bars_9 : decode cX11_bars 9 = .ok (.bipush (-11), 2) := by decide +kernel
theorem dX11_bars_11 : decode cX11_bars 11 = .ok (.goto 50, 3) := by decide +kernel
theorem dX11_bars_14 : decode cX11_bars 14 = .ok (.aload_n 0, 1) := by decide +kernel
theorem dX11_bars_15 : decode cX11_bars 15 = .ok (.getfield 62, 3) := by decide +kernel
theorem dX11_bars_18 : decode cX11_bars 18 = .ok (.iload_n 1, 1) := by decide +kernel
theorem dX11_bars_19 : decode cX11_bars 19 = .ok (.iaload, 1) := by decide +kernel
theorem dX11_bars_20 : decode cX11_bars 20 = .ok (.iload_n 2, 1) := by decide +kernel
theorem dX11_bars_21 : decode cX11_bars 21 = .ok (.if_icmp .eq 8, 3) := by decide +kernel
theorem dX11_bars_24 : decode cX11_bars 24 = .ok (.bipush (-12), 2) := by decide +kernel
theorem dX11_bars_26 : decode cX11_bars 26 = .ok (.goto 35, 3) := by decide +kernel
theorem dX11_bars_29 : decode cX11_bars 29 = .ok (.iload_n 3, 1) := by decide +kernel
theorem dX11_bars_30 : decode cX11_bars 30 = .ok (.ifCond .lt 25, 3) := by decide +kernel
theorem dX11_bars_33 : decode cX11_bars 33 = .ok (.iload 4, 2) := by decide +kernel
theorem dX11_bars_35 : decode cX11_bars 35 = .ok (.ifCond .lt 20, 3) := by decide +kernel
theorem dX11_bars_38 : decode cX11_bars 38 = .ok (.iload_n 3, 1) := by decide +kernel
theorem dX11_bars_39 : decode cX11_bars 39 = .ok (.i2l, 1) := by decide +kernel
theorem dX11_bars_40 : decode cX11_bars 40 = .ok (.iload 4, 2) := by decide +kernel
theorem dX11_bars_42 : decode cX11_bars 42 = .ok (.i2l, 1) := by decide +kernel
theorem dX11_bars_43 : decode cX11_bars 43 = .ok (.ladd, 1) := by decide +kernel
theorem dX11_bars_44 : decode cX11_bars 44 = .ok (.aload_n 0, 1) := by decide +kernel
theorem dX11_bars_45 : decode cX11_bars 45 = .ok (.getfield 65, 3) := by decide +kernel
theorem dX11_bars_48 : decode cX11_bars 48 = .ok (.iload_n 1, 1) := by decide +kernel
theorem dX11_bars_49 : decode cX11_bars 49 = .ok (.iaload, 1) := by decide +kernel
theorem dX11_bars_50 : decode cX11_bars 50 = .ok (.i2l, 1) := by decide +kernel
theorem dX11_bars_51 : decode cX11_bars 51 = .ok (.lcmp, 1) := by decide +kernel
theorem dX11_bars_52 : decode cX11_bars 52 = .ok (.ifCond .le 8, 3) := by decide +kernel
theorem dX11_bars_55 : decode cX11_bars 55 = .ok (.bipush (-13), 2) := by decide +kernel
theorem dX11_bars_57 : decode cX11_bars 57 = .ok (.goto 4, 3) := by decide +kernel
theorem dX11_bars_60 : decode cX11_bars 60 = .ok (.iconst 0, 1) := by decide +kernel
theorem dX11_bars_61 : decode cX11_bars 61 = .ok (.ireturn, 1) := by decide +kernel
theorem dX11_cutTo_0 : decode cX11_cutTo 0 = .ok (.iload_n 0, 1) := by decide +kernel
theorem dX11_cutTo_1 : decode cX11_cutTo 1 = .ok (.ifCond .ne 10, 3) := by decide +kernel
theorem dX11_cutTo_4 : decode cX11_cutTo 4 = .ok (.lload_n 1, 1) := by decide +kernel
theorem dX11_cutTo_5 : decode cX11_cutTo 5 = .ok (.l2i, 1) := by decide +kernel
theorem dX11_cutTo_6 : decode cX11_cutTo 6 = .ok (.i2b, 1) := by decide +kernel
theorem dX11_cutTo_7 : decode cX11_cutTo 7 = .ok (.i2l, 1) := by decide +kernel
theorem dX11_cutTo_8 : decode cX11_cutTo 8 = .ok (.goto 15, 3) := by decide +kernel
theorem dX11_cutTo_11 : decode cX11_cutTo 11 = .ok (.iload_n 0, 1) := by decide +kernel
theorem dX11_cutTo_12 : decode cX11_cutTo 12 = .ok (.iconst 1, 1) := by decide +kernel
theorem dX11_cutTo_13 : decode cX11_cutTo 13 = .ok (.if_icmp .ne 9, 3) := by decide +kernel
theorem dX11_cutTo_16 : decode cX11_cutTo 16 = .ok (.lload_n 1, 1) := by decide +kernel
theorem dX11_cutTo_17 : decode cX11_cutTo 17 = .ok (.l2i, 1) := by decide +kernel
theorem dX11_cutTo_18 : decode cX11_cutTo 18 = .ok (.i2l, 1) := by decide +kernel
theorem dX11_cutTo_19 : decode cX11_cutTo 19 = .ok (.goto 4, 3) := by decide +kernel
theorem dX11_cutTo_22 : decode cX11_cutTo 22 = .ok (.lload_n 1, 1) := by decide +kernel
theorem dX11_cutTo_23 : decode cX11_cutTo 23 = .ok (.lreturn, 1) := by decide +kernel
theorem dX11_holds_0 : decode cX11_holds 0 = .ok (.iconst 0, 1) := by decide +kernel
theorem dX11_holds_1 : decode cX11_holds 1 = .ok (.istore_n 3, 1) := by decide +kernel
theorem dX11_holds_2 : decode cX11_holds 2 = .ok (.iload_n 3, 1) := by decide +kernel
theorem dX11_holds_3 : decode cX11_holds 3 = .ok (.aload_n 0, 1) := by decide +kernel
theorem dX11_holds_4 : decode cX11_holds 4 = .ok (.getfield 85, 3) := by decide +kernel
theorem dX11_holds_7 : decode cX11_holds 7 = .ok (.if_icmp .ge 16, 3) := by decide +kernel
theorem dX11_holds_10 : decode cX11_holds 10 = .ok (.aload_n 0, 1) := by decide +kernel
theorem dX11_holds_11 : decode cX11_holds 11 = .ok (.getfield 74, 3) := by decide +kernel
theorem dX11_holds_14 : decode cX11_holds 14 = .ok (.iload_n 3, 1) := by decide +kernel
theorem dX11_holds_15 : decode cX11_holds 15 = .ok (.iconst 0, 1) := by decide +kernel
theorem dX11_holds_16 : decode cX11_holds 16 = .ok (.bastore, 1) := by decide +kernel
theorem dX11_holds_17 : decode cX11_holds 17 = .ok (.iinc 3 1, 3) := by decide +kernel
theorem dX11_holds_20 : decode cX11_holds 20 = .ok (.goto (-18), 3) := by decide +kernel
theorem dX11_holds_23 : decode cX11_holds 23 = .ok (.iconst 0, 1) := by decide +kernel
theorem dX11_holds_24 : decode cX11_holds 24 = .ok (.istore_n 3, 1) := by decide +kernel
theorem dX11_holds_25 : decode cX11_holds 25 = .ok (.iload_n 3, 1) := by decide +kernel
theorem dX11_holds_26 : decode cX11_holds 26 = .ok (.iload_n 2, 1) := by decide +kernel
theorem dX11_holds_27 : decode cX11_holds 27 = .ok (.if_icmp .ge 76, 3) := by decide +kernel
theorem dX11_holds_30 : decode cX11_holds 30 = .ok (.iconst 0, 1) := by decide +kernel
theorem dX11_holds_31 : decode cX11_holds 31 = .ok (.istore 4, 2) := by decide +kernel
theorem dX11_holds_33 : decode cX11_holds 33 = .ok (.iload 4, 2) := by decide +kernel
theorem dX11_holds_35 : decode cX11_holds 35 = .ok (.aload_n 0, 1) := by decide +kernel
theorem dX11_holds_36 : decode cX11_holds 36 = .ok (.getfield 85, 3) := by decide +kernel
theorem dX11_holds_39 : decode cX11_holds 39 = .ok (.if_icmp .ge 39, 3) := by decide +kernel
theorem dX11_holds_42 : decode cX11_holds 42 = .ok (.aload_n 0, 1) := by decide +kernel
theorem dX11_holds_43 : decode cX11_holds 43 = .ok (.getfield 74, 3) := by decide +kernel
theorem dX11_holds_46 : decode cX11_holds 46 = .ok (.iload 4, 2) := by decide +kernel
theorem dX11_holds_48 : decode cX11_holds 48 = .ok (.baload, 1) := by decide +kernel
theorem dX11_holds_49 : decode cX11_holds 49 = .ok (.ifCond .ne 23, 3) := by decide +kernel
theorem dX11_holds_52 : decode cX11_holds 52 = .ok (.aload_n 0, 1) := by decide +kernel
theorem dX11_holds_53 : decode cX11_holds 53 = .ok (.getfield 22, 3) := by decide +kernel
theorem dX11_holds_56 : decode cX11_holds 56 = .ok (.iload 4, 2) := by decide +kernel
theorem dX11_holds_58 : decode cX11_holds 58 = .ok (.iaload, 1) := by decide +kernel
theorem dX11_holds_59 : decode cX11_holds 59 = .ok (.i2l, 1) := by decide +kernel
theorem dX11_holds_60 : decode cX11_holds 60 = .ok (.aload_n 0, 1) := by decide +kernel
theorem dX11_holds_61 : decode cX11_holds 61 = .ok (.getfield 68, 3) := by decide +kernel
theorem dX11_holds_64 : decode cX11_holds 64 = .ok (.iload_n 1, 1) := by decide +kernel
theorem dX11_holds_65 : decode cX11_holds 65 = .ok (.iload_n 3, 1) := by decide +kernel
theorem dX11_holds_66 : decode cX11_holds 66 = .ok (.iadd, 1) := by decide +kernel
theorem dX11_holds_67 : decode cX11_holds 67 = .ok (.laload, 1) := by decide +kernel
theorem dX11_holds_68 : decode cX11_holds 68 = .ok (.lcmp, 1) := by decide +kernel
theorem dX11_holds_69 : decode cX11_holds 69 = .ok (.ifCond .eq 9, 3) := by decide +kernel
theorem dX11_holds_72 : decode cX11_holds 72 = .ok (.iinc 4 1, 3) := by decide +kernel
theorem dX11_holds_75 : decode cX11_holds 75 = .ok (.goto (-42), 3) := by decide +kernel
theorem dX11_holds_78 : decode cX11_holds 78 = .ok (.iload 4, 2) := by decide +kernel
theorem dX11_holds_80 : decode cX11_holds 80 = .ok (.aload_n 0, 1) := by decide +kernel
theorem dX11_holds_81 : decode cX11_holds 81 = .ok (.getfield 85, 3) := by decide +kernel
theorem dX11_holds_84 : decode cX11_holds 84 = .ok (.if_icmp .ne 5, 3) := by decide +kernel
theorem dX11_holds_87 : decode cX11_holds 87 = .ok (.iconst 0, 1) := by decide +kernel
theorem dX11_holds_88 : decode cX11_holds 88 = .ok (.ireturn, 1) := by decide +kernel
theorem dX11_holds_89 : decode cX11_holds 89 = .ok (.aload_n 0, 1) := by decide +kernel
theorem dX11_holds_90 : decode cX11_holds 90 = .ok (.getfield 74, 3) := by decide +kernel
theorem dX11_holds_93 : decode cX11_holds 93 = .ok (.iload 4, 2) := by decide +kernel
theorem dX11_holds_95 : decode cX11_holds 95 = .ok (.iconst 1, 1) := by decide +kernel
theorem dX11_holds_96 : decode cX11_holds 96 = .ok (.bastore, 1) := by decide +kernel
theorem dX11_holds_97 : decode cX11_holds 97 = .ok (.iinc 3 1, 3) := by decide +kernel
theorem dX11_holds_100 : decode cX11_holds 100 = .ok (.goto (-75), 3) := by decide +kernel
theorem dX11_holds_103 : decode cX11_holds 103 = .ok (.iconst 1, 1) := by decide +kernel
theorem dX11_holds_104 : decode cX11_holds 104 = .ok (.ireturn, 1) := by decide +kernel
set_option maxRecDepth 20000 in
theorem ggX11_seen_X11_in : GoodIn wsX11_seen wsX11_in := goodIn_r _ [11] (by decide +kernel) (by decide +kernel)
set_option maxRecDepth 20000 in
theorem gX11_seen_X11_in : GoodIn wsX11_seen (va_wsS RX11 81 yX11_in wsX11_in) := goodIn_app (goodIn_of _ (by decide +kernel)) ggX11_seen_X11_in
set_option maxRecDepth 20000 in
theorem ggX11_seen_X11_isSheet : GoodIn wsX11_seen wsX11_isSheet := goodIn_r _ [14, 1, 8, 9, 10, 11] (by decide +kernel) (by decide +kernel)
set_option maxRecDepth 20000 in
theorem gX11_seen_X11_isSheet : GoodIn wsX11_seen (va_wsS RX11 211 yX11_isSheet wsX11_isSheet) := goodIn_app (goodIn_of _ (by decide +kernel)) ggX11_seen_X11_isSheet
set_option maxRecDepth 20000 in
theorem ggX11_seen_X11_bars : GoodIn wsX11_seen wsX11_bars := goodIn_r _ [18, 19, 20, 58, 59, 60, 61, 62, 63, 64, 65, 66, 67, 68, 69, 70, 71, 72, 73, 74, 75, 76, 77, 78, 79, 80, 81, 82, 83, 84, 85, 86, 87] (by decide +kernel) (by decide +kernel)
set_option maxRecDepth 20000 in
theorem gX11_seen_X11_bars : GoodIn wsX11_seen (wsV RX11 214 RX11 yX11_bars wsX11_bars) := goodIn_app (goodIn_of _ (by decide +kernel)) ggX11_seen_X11_bars
set_option maxRecDepth 20000 in
theorem ggX11_seen_X11_notches : GoodIn wsX11_seen wsX11_notches := goodIn_r _ [24, 25, 58, 59, 60, 61, 62, 63, 64, 65, 66, 67, 68, 69, 70, 71, 72, 73, 74, 75, 76, 77, 78, 79, 80, 81, 82, 83, 84, 85, 86, 87] (by decide +kernel) (by decide +kernel)
set_option maxRecDepth 20000 in
theorem gX11_seen_X11_notches : GoodIn wsX11_seen (wsV RX11 77 RX11 yX11_notches wsX11_notches) := goodIn_app (goodIn_of _ (by decide +kernel)) ggX11_seen_X11_notches
set_option maxRecDepth 20000 in
theorem ggX11_seen_X11_begin : GoodIn wsX11_seen wsX11_begin := goodIn_r _ [29, 30, 7, 58, 59, 60, 61, 62, 63, 64, 65, 66, 67, 68, 69, 70, 71, 72, 73, 74, 75, 76, 77, 78, 79, 80, 81, 82, 83, 84, 85, 86, 87] (by decide +kernel) (by decide +kernel)
set_option maxRecDepth 20000 in
theorem gX11_seen_X11_begin : GoodIn wsX11_seen (wsV RX11 186 RX11 yX11_begin wsX11_begin) := goodIn_app (goodIn_of _ (by decide +kernel)) ggX11_seen_X11_begin
set_option maxRecDepth 20000 in
theorem ggX11_seen_X11_lay : GoodIn wsX11_seen wsX11_lay := goodIn_r _ [34, 35, 25, 36, 37, 38, 39, 40, 10, 41, 42, 43, 44, 45, 58, 59, 60, 61, 62, 63, 64, 65, 66, 67, 68, 69, 70, 71, 72, 73, 74, 75, 76, 77, 78, 79, 80, 81, 82, 83, 84, 85, 86, 87] (by decide +kernel) (by decide +kernel)
set_option maxRecDepth 20000 in
theorem gX11_seen_X11_lay : GoodIn wsX11_seen (wsV RX11 97 RX11 yX11_lay wsX11_lay) := goodIn_app (goodIn_of _ (by decide +kernel)) ggX11_seen_X11_lay
set_option maxRecDepth 20000 in
theorem ggX11_seen_X11_holds : GoodIn wsX11_seen wsX11_holds := goodIn_r _ [49, 35, 50, 37, 5, 58, 59, 60, 61, 62, 63, 64, 65, 66, 67, 68, 69, 70, 71, 72, 73, 74, 75, 76, 77, 78, 79, 80, 81, 82, 83, 84, 85, 86, 87] (by decide +kernel) (by decide +kernel)
set_option maxRecDepth 20000 in
theorem gX11_seen_X11_holds : GoodIn wsX11_seen (wsV RX11 218 RX11 yX11_holds wsX11_holds) := goodIn_app (goodIn_of _ (by decide +kernel)) ggX11_seen_X11_holds
set_option maxRecDepth 20000 in
theorem ggX11_seen_X11_goesOn : GoodIn wsX11_seen wsX11_goesOn := goodIn_r _ [54, 30, 7, 58, 59, 60, 61, 62, 63, 64, 65, 66, 67, 68, 69, 70, 71, 72, 73, 74, 75, 76, 77, 78, 79, 80, 81, 82, 83, 84, 85, 86, 87] (by decide +kernel) (by decide +kernel)
set_option maxRecDepth 20000 in
theorem gX11_seen_X11_goesOn : GoodIn wsX11_seen (wsV RX11 192 RX11 yX11_goesOn wsX11_goesOn) := goodIn_app (goodIn_of _ (by decide +kernel)) ggX11_seen_X11_goesOn
set_option maxRecDepth 20000 in
theorem ggX11_seen_X11_atOf : GoodIn wsX11_seen wsX11_atOf := goodIn_r _ [57, 39, 40, 10, 41] (by decide +kernel) (by decide +kernel)
set_option maxRecDepth 20000 in
theorem gX11_seen_X11_atOf : GoodIn wsX11_seen (va_wsS RX11 158 yX11_atOf wsX11_atOf) := goodIn_app (goodIn_of _ (by decide +kernel)) ggX11_seen_X11_atOf
theorem dX11_seen_0 : decode cX11_seen 0 = .ok (.iload_n 1, 1) := by decide +kernel
theorem dX11_seen_1 : decode cX11_seen 1 = .ok (.i2l, 1) := by decide +kernel
theorem dX11_seen_2 : decode cX11_seen 2 = .ok (.lconst 0, 1) := by decide +kernel
theorem dX11_seen_3 : decode cX11_seen 3 = .ok (.ldc2_w 100, 3) := by decide +kernel
theorem dX11_seen_6 : decode cX11_seen 6 = .ok (.invokestatic 81, 3) := by decide +kernel
theorem dX11_seen_9 : decode cX11_seen 9 = .ok (.ifCond .eq 50, 3) := by decide +kernel
theorem dX11_seen_12 : decode cX11_seen 12 = .ok (.iload_n 2, 1) := by decide +kernel
theorem dX11_seen_13 : decode cX11_seen 13 = .ok (.invokestatic 211, 3) := by decide +kernel
theorem dX11_seen_16 : decode cX11_seen 16 = .ok (.ifCond .eq 43, 3) := by decide +kernel
theorem dX11_seen_19 : decode cX11_seen 19 = .ok (.iload_n 3, 1) := by decide +kernel
theorem dX11_seen_20 : decode cX11_seen 20 = .ok (.i2l, 1) := by decide +kernel
theorem dX11_seen_21 : decode cX11_seen 21 = .ok (.lconst 0, 1) := by decide +kernel
theorem dX11_seen_22 : decode cX11_seen 22 = .ok (.ldc2_w 156, 3) := by decide +kernel
theorem dX11_seen_25 : decode cX11_seen 25 = .ok (.invokestatic 81, 3) := by decide +kernel
theorem dX11_seen_28 : decode cX11_seen 28 = .ok (.ifCond .eq 31, 3) := by decide +kernel
theorem dX11_seen_31 : decode cX11_seen 31 = .ok (.iload 5, 2) := by decide +kernel
theorem dX11_seen_33 : decode cX11_seen 33 = .ok (.i2l, 1) := by decide +kernel
theorem dX11_seen_34 : decode cX11_seen 34 = .ok (.lconst 1, 1) := by decide +kernel
theorem dX11_seen_35 : decode cX11_seen 35 = .ok (.ldc2_w 112, 3) := by decide +kernel
theorem dX11_seen_38 : decode cX11_seen 38 = .ok (.invokestatic 81, 3) := by decide +kernel
theorem dX11_seen_41 : decode cX11_seen 41 = .ok (.ifCond .eq 18, 3) := by decide +kernel
theorem dX11_seen_44 : decode cX11_seen 44 = .ok (.iload 6, 2) := by decide +kernel
theorem dX11_seen_46 : decode cX11_seen 46 = .ok (.i2l, 1) := by decide +kernel
theorem dX11_seen_47 : decode cX11_seen 47 = .ok (.ldc2_w 197, 3) := by decide +kernel
theorem dX11_seen_50 : decode cX11_seen 50 = .ok (.ldc2_w 156, 3) := by decide +kernel
theorem dX11_seen_53 : decode cX11_seen 53 = .ok (.invokestatic 81, 3) := by decide +kernel
theorem dX11_seen_56 : decode cX11_seen 56 = .ok (.ifCond .ne 5, 3) := by decide +kernel
theorem dX11_seen_59 : decode cX11_seen 59 = .ok (.iconst (-1), 1) := by decide +kernel
theorem dX11_seen_60 : decode cX11_seen 60 = .ok (.ireturn, 1) := by decide +kernel
theorem dX11_seen_61 : decode cX11_seen 61 = .ok (.aload_n 0, 1) := by decide +kernel
theorem dX11_seen_62 : decode cX11_seen 62 = .ok (.iload_n 2, 1) := by decide +kernel
theorem dX11_seen_63 : decode cX11_seen 63 = .ok (.iload_n 3, 1) := by decide +kernel
theorem dX11_seen_64 : decode cX11_seen 64 = .ok (.iload 4, 2) := by decide +kernel
theorem dX11_seen_66 : decode cX11_seen 66 = .ok (.iload 5, 2) := by decide +kernel
theorem dX11_seen_68 : decode cX11_seen 68 = .ok (.invokevirtual 214, 3) := by decide +kernel
theorem dX11_seen_71 : decode cX11_seen 71 = .ok (.istore 7, 2) := by decide +kernel
theorem dX11_seen_73 : decode cX11_seen 73 = .ok (.iload 7, 2) := by decide +kernel
theorem dX11_seen_75 : decode cX11_seen 75 = .ok (.ifCond .eq 6, 3) := by decide +kernel
theorem dX11_seen_78 : decode cX11_seen 78 = .ok (.iload 7, 2) := by decide +kernel
theorem dX11_seen_80 : decode cX11_seen 80 = .ok (.ireturn, 1) := by decide +kernel
theorem dX11_seen_81 : decode cX11_seen 81 = .ok (.iconst 0, 1) := by decide +kernel
theorem dX11_seen_82 : decode cX11_seen 82 = .ok (.istore 8, 2) := by decide +kernel
theorem dX11_seen_84 : decode cX11_seen 84 = .ok (.iload 8, 2) := by decide +kernel
theorem dX11_seen_86 : decode cX11_seen 86 = .ok (.iload 5, 2) := by decide +kernel
theorem dX11_seen_88 : decode cX11_seen 88 = .ok (.if_icmp .ge 37, 3) := by decide +kernel
theorem dX11_seen_91 : decode cX11_seen 91 = .ok (.aload_n 0, 1) := by decide +kernel
theorem dX11_seen_92 : decode cX11_seen 92 = .ok (.getfield 68, 3) := by decide +kernel
theorem dX11_seen_95 : decode cX11_seen 95 = .ok (.bipush 24, 2) := by decide +kernel
theorem dX11_seen_97 : decode cX11_seen 97 = .ok (.iload_n 2, 1) := by decide +kernel
theorem dX11_seen_98 : decode cX11_seen 98 = .ok (.imul, 1) := by decide +kernel
theorem dX11_seen_99 : decode cX11_seen 99 = .ok (.iload 4, 2) := by decide +kernel
theorem dX11_seen_101 : decode cX11_seen 101 = .ok (.iadd, 1) := by decide +kernel
theorem dX11_seen_102 : decode cX11_seen 102 = .ok (.iload 8, 2) := by decide +kernel
theorem dX11_seen_104 : decode cX11_seen 104 = .ok (.iadd, 1) := by decide +kernel
theorem dX11_seen_105 : decode cX11_seen 105 = .ok (.laload, 1) := by decide +kernel
theorem dX11_seen_106 : decode cX11_seen 106 = .ok (.lconst 1, 1) := by decide +kernel
theorem dX11_seen_107 : decode cX11_seen 107 = .ok (.ldc2_w 169, 3) := by decide +kernel
theorem dX11_seen_110 : decode cX11_seen 110 = .ok (.invokestatic 81, 3) := by decide +kernel
theorem dX11_seen_113 : decode cX11_seen 113 = .ok (.ifCond .ne 6, 3) := by decide +kernel
theorem dX11_seen_116 : decode cX11_seen 116 = .ok (.bipush (-2), 2) := by decide +kernel
theorem dX11_seen_118 : decode cX11_seen 118 = .ok (.ireturn, 1) := by decide +kernel
theorem dX11_seen_119 : decode cX11_seen 119 = .ok (.iinc 8 1, 3) := by decide +kernel
theorem dX11_seen_122 : decode cX11_seen 122 = .ok (.goto (-38), 3) := by decide +kernel
theorem dX11_seen_125 : decode cX11_seen 125 = .ok (.iconst 0, 1) := by decide +kernel
theorem dX11_seen_126 : decode cX11_seen 126 = .ok (.istore 8, 2) := by decide +kernel
theorem dX11_seen_128 : decode cX11_seen 128 = .ok (.iconst 0, 1) := by decide +kernel
theorem dX11_seen_129 : decode cX11_seen 129 = .ok (.istore 9, 2) := by decide +kernel
theorem dX11_seen_131 : decode cX11_seen 131 = .ok (.aload_n 0, 1) := by decide +kernel
theorem dX11_seen_132 : decode cX11_seen 132 = .ok (.invokevirtual 77, 3) := by decide +kernel
theorem dX11_seen_135 : decode cX11_seen 135 = .ok (.iload_n 1, 1) := by decide +kernel
theorem dX11_seen_136 : decode cX11_seen 136 = .ok (.if_icmp .lt 7, 3) := by decide +kernel
theorem dX11_seen_139 : decode cX11_seen 139 = .ok (.iconst 1, 1) := by decide +kernel
theorem dX11_seen_140 : decode cX11_seen 140 = .ok (.goto 4, 3) := by decide +kernel
theorem dX11_seen_143 : decode cX11_seen 143 = .ok (.iconst 0, 1) := by decide +kernel
theorem dX11_seen_144 : decode cX11_seen 144 = .ok (.istore 10, 2) := by decide +kernel
theorem dX11_seen_146 : decode cX11_seen 146 = .ok (.aload_n 0, 1) := by decide +kernel
theorem dX11_seen_147 : decode cX11_seen 147 = .ok (.iload_n 1, 1) := by decide +kernel
theorem dX11_seen_148 : decode cX11_seen 148 = .ok (.invokevirtual 186, 3) := by decide +kernel
theorem dX11_seen_151 : decode cX11_seen 151 = .ok (.iload 10, 2) := by decide +kernel
theorem dX11_seen_153 : decode cX11_seen 153 = .ok (.ifCond .eq 60, 3) := by decide +kernel
theorem dX11_seen_156 : decode cX11_seen 156 = .ok (.aload_n 0, 1) := by decide +kernel
theorem dX11_seen_157 : decode cX11_seen 157 = .ok (.aload_n 0, 1) := by decide +kernel
theorem dX11_seen_158 : decode cX11_seen 158 = .ok (.getfield 183, 3) := by decide +kernel
theorem dX11_seen_161 : decode cX11_seen 161 = .ok (.invokevirtual 97, 3) := by decide +kernel
theorem dX11_seen_164 : decode cX11_seen 164 = .ok (.aload_n 0, 1) := by decide +kernel
theorem dX11_seen_165 : decode cX11_seen 165 = .ok (.bipush 24, 2) := by decide +kernel
theorem dX11_seen_167 : decode cX11_seen 167 = .ok (.iload_n 2, 1) := by decide +kernel
theorem dX11_seen_168 : decode cX11_seen 168 = .ok (.imul, 1) := by decide +kernel
theorem dX11_seen_169 : decode cX11_seen 169 = .ok (.iload 4, 2) := by decide +kernel
theorem dX11_seen_171 : decode cX11_seen 171 = .ok (.iadd, 1) := by decide +kernel
theorem dX11_seen_172 : decode cX11_seen 172 = .ok (.iload 5, 2) := by decide +kernel
theorem dX11_seen_174 : decode cX11_seen 174 = .ok (.invokevirtual 218, 3) := by decide +kernel
theorem dX11_seen_177 : decode cX11_seen 177 = .ok (.ifCond .eq 22, 3) := by decide +kernel
theorem dX11_seen_180 : decode cX11_seen 180 = .ok (.iload 8, 2) := by decide +kernel
theorem dX11_seen_182 : decode cX11_seen 182 = .ok (.ifCond .ne 10, 3) := by decide +kernel
theorem dX11_seen_185 : decode cX11_seen 185 = .ok (.aload_n 0, 1) := by decide +kernel
theorem dX11_seen_186 : decode cX11_seen 186 = .ok (.getfield 183, 3) := by decide +kernel
theorem dX11_seen_189 : decode cX11_seen 189 = .ok (.goto 5, 3) := by decide +kernel
theorem dX11_seen_192 : decode cX11_seen 192 = .ok (.iload 9, 2) := by decide +kernel
theorem dX11_seen_194 : decode cX11_seen 194 = .ok (.istore 9, 2) := by decide +kernel
theorem dX11_seen_196 : decode cX11_seen 196 = .ok (.iinc 8 1, 3) := by decide +kernel
theorem dX11_seen_199 : decode cX11_seen 199 = .ok (.aload_n 0, 1) := by decide +kernel
theorem dX11_seen_200 : decode cX11_seen 200 = .ok (.iload_n 1, 1) := by decide +kernel
theorem dX11_seen_201 : decode cX11_seen 201 = .ok (.aload_n 0, 1) := by decide +kernel
theorem dX11_seen_202 : decode cX11_seen 202 = .ok (.invokevirtual 77, 3) := by decide +kernel
theorem dX11_seen_205 : decode cX11_seen 205 = .ok (.invokevirtual 192, 3) := by decide +kernel
theorem dX11_seen_208 : decode cX11_seen 208 = .ok (.istore 10, 2) := by decide +kernel
theorem dX11_seen_210 : decode cX11_seen 210 = .ok (.goto (-59), 3) := by decide +kernel
theorem dX11_seen_213 : decode cX11_seen 213 = .ok (.iload 6, 2) := by decide +kernel
theorem dX11_seen_215 : decode cX11_seen 215 = .ok (.ifCond .ge 8, 3) := by decide +kernel
theorem dX11_seen_218 : decode cX11_seen 218 = .ok (.iload 8, 2) := by decide +kernel
theorem dX11_seen_220 : decode cX11_seen 220 = .ok (.goto 26, 3) := by decide +kernel
theorem dX11_seen_223 : decode cX11_seen 223 = .ok (.iload 8, 2) := by decide +kernel
theorem dX11_seen_225 : decode cX11_seen 225 = .ok (.ifCond .eq 9, 3) := by decide +kernel
theorem dX11_seen_228 : decode cX11_seen 228 = .ok (.iload 6, 2) := by decide +kernel
theorem dX11_seen_230 : decode cX11_seen 230 = .ok (.iload_n 1, 1) := by decide +kernel
theorem dX11_seen_231 : decode cX11_seen 231 = .ok (.if_icmp .lt 8, 3) := by decide +kernel
theorem dX11_seen_234 : decode cX11_seen 234 = .ok (.bipush (-4), 2) := by decide +kernel
theorem dX11_seen_236 : decode cX11_seen 236 = .ok (.goto 10, 3) := by decide +kernel
theorem dX11_seen_239 : decode cX11_seen 239 = .ok (.iload 9, 2) := by decide +kernel
theorem dX11_seen_241 : decode cX11_seen 241 = .ok (.iload 6, 2) := by decide +kernel
theorem dX11_seen_243 : decode cX11_seen 243 = .ok (.invokestatic 158, 3) := by decide +kernel
theorem dX11_seen_246 : decode cX11_seen 246 = .ok (.ireturn, 1) := by decide +kernel
set_option maxRecDepth 20000 in
theorem ggX11_film_X11_isSheet : GoodIn wsX11_film wsX11_isSheet := goodIn_r _ [8, 9, 10, 11, 7, 12] (by decide +kernel) (by decide +kernel)
set_option maxRecDepth 20000 in
theorem gX11_film_X11_isSheet : GoodIn wsX11_film (va_wsS RX11 211 yX11_isSheet wsX11_isSheet) := goodIn_app (goodIn_of _ (by decide +kernel)) ggX11_film_X11_isSheet
set_option maxRecDepth 20000 in
theorem ggX11_film_X11_in : GoodIn wsX11_film wsX11_in := goodIn_r _ [12] (by decide +kernel) (by decide +kernel)
set_option maxRecDepth 20000 in
theorem gX11_film_X11_in : GoodIn wsX11_film (va_wsS RX11 81 yX11_in wsX11_in) := goodIn_app (goodIn_of _ (by decide +kernel)) ggX11_film_X11_in
set_option maxRecDepth 20000 in
theorem ggX11_film_X11_layNow : GoodIn wsX11_film wsX11_layNow := goodIn_r _ [16, 17, 18, 19, 20, 7, 21, 2, 22, 4, 23, 24, 25, 26, 27, 28, 29, 30, 40, 41, 42, 43, 44, 45, 46, 47, 48, 49, 50, 51, 52, 53, 54, 55, 56, 57, 58, 59, 60, 61, 62, 63, 64, 65, 66, 67, 68, 69] (by decide +kernel) (by decide +kernel)
set_option maxRecDepth 20000 in
theorem gX11_film_X11_layNow : GoodIn wsX11_film (wsV RX11 150 RX11 yX11_layNow wsX11_layNow) := goodIn_app (goodIn_of _ (by decide +kernel)) ggX11_film_X11_layNow
set_option maxRecDepth 20000 in
theorem ggX11_film_X11_bars : GoodIn wsX11_film wsX11_bars := goodIn_r _ [34, 35, 36, 40, 41, 42, 43, 44, 45, 46, 47, 48, 49, 50, 51, 52, 53, 54, 55, 56, 57, 58, 59, 60, 61, 62, 63, 64, 65, 66, 67, 68, 69] (by decide +kernel) (by decide +kernel)
set_option maxRecDepth 20000 in
theorem gX11_film_X11_bars : GoodIn wsX11_film (wsV RX11 214 RX11 yX11_bars wsX11_bars) := goodIn_app (goodIn_of _ (by decide +kernel)) ggX11_film_X11_bars
set_option maxRecDepth 20000 in
theorem ggX11_film_X11_cutTo : GoodIn wsX11_film wsX11_cutTo := goodIn_r _ [39] (by decide +kernel) (by decide +kernel)
set_option maxRecDepth 20000 in
theorem gX11_film_X11_cutTo : GoodIn wsX11_film (va_wsS RX11 221 yX11_cutTo wsX11_cutTo) := goodIn_app (goodIn_of _ (by decide +kernel)) ggX11_film_X11_cutTo
theorem dX11_film_0 : decode cX11_film 0 = .ok (.iload_n 1, 1) := by decide +kernel
theorem dX11_film_1 : decode cX11_film 1 = .ok (.invokestatic 211, 3) := by decide +kernel
theorem dX11_film_4 : decode cX11_film 4 = .ok (.ifCond .eq 15, 3) := by decide +kernel
theorem dX11_film_7 : decode cX11_film 7 = .ok (.iload_n 2, 1) := by decide +kernel
theorem dX11_film_8 : decode cX11_film 8 = .ok (.i2l, 1) := by decide +kernel
theorem dX11_film_9 : decode cX11_film 9 = .ok (.lconst 0, 1) := by decide +kernel
theorem dX11_film_10 : decode cX11_film 10 = .ok (.ldc2_w 156, 3) := by decide +kernel
theorem dX11_film_13 : decode cX11_film 13 = .ok (.invokestatic 81, 3) := by decide +kernel
theorem dX11_film_16 : decode cX11_film 16 = .ok (.ifCond .ne 5, 3) := by decide +kernel
theorem dX11_film_19 : decode cX11_film 19 = .ok (.iconst (-1), 1) := by decide +kernel
theorem dX11_film_20 : decode cX11_film 20 = .ok (.ireturn, 1) := by decide +kernel
theorem dX11_film_21 : decode cX11_film 21 = .ok (.aload_n 0, 1) := by decide +kernel
theorem dX11_film_22 : decode cX11_film 22 = .ok (.invokevirtual 150, 3) := by decide +kernel
theorem dX11_film_25 : decode cX11_film 25 = .ok (.aload_n 0, 1) := by decide +kernel
theorem dX11_film_26 : decode cX11_film 26 = .ok (.iload_n 1, 1) := by decide +kernel
theorem dX11_film_27 : decode cX11_film 27 = .ok (.iload_n 2, 1) := by decide +kernel
theorem dX11_film_28 : decode cX11_film 28 = .ok (.iload_n 3, 1) := by decide +kernel
theorem dX11_film_29 : decode cX11_film 29 = .ok (.aload_n 0, 1) := by decide +kernel
theorem dX11_film_30 : decode cX11_film 30 = .ok (.getfield 85, 3) := by decide +kernel
theorem dX11_film_33 : decode cX11_film 33 = .ok (.invokevirtual 214, 3) := by decide +kernel
theorem dX11_film_36 : decode cX11_film 36 = .ok (.istore 4, 2) := by decide +kernel
theorem dX11_film_38 : decode cX11_film 38 = .ok (.iload 4, 2) := by decide +kernel
theorem dX11_film_40 : decode cX11_film 40 = .ok (.ifCond .eq 6, 3) := by decide +kernel
theorem dX11_film_43 : decode cX11_film 43 = .ok (.iload 4, 2) := by decide +kernel
theorem dX11_film_45 : decode cX11_film 45 = .ok (.ireturn, 1) := by decide +kernel
theorem dX11_film_46 : decode cX11_film 46 = .ok (.iconst 0, 1) := by decide +kernel
theorem dX11_film_47 : decode cX11_film 47 = .ok (.istore 5, 2) := by decide +kernel
theorem dX11_film_49 : decode cX11_film 49 = .ok (.iload 5, 2) := by decide +kernel
theorem dX11_film_51 : decode cX11_film 51 = .ok (.aload_n 0, 1) := by decide +kernel
theorem dX11_film_52 : decode cX11_film 52 = .ok (.getfield 85, 3) := by decide +kernel
theorem dX11_film_55 : decode cX11_film 55 = .ok (.if_icmp .ge 35, 3) := by decide +kernel
theorem dX11_film_58 : decode cX11_film 58 = .ok (.aload_n 0, 1) := by decide +kernel
theorem dX11_film_59 : decode cX11_film 59 = .ok (.getfield 68, 3) := by decide +kernel
theorem dX11_film_62 : decode cX11_film 62 = .ok (.bipush 24, 2) := by decide +kernel
theorem dX11_film_64 : decode cX11_film 64 = .ok (.iload_n 1, 1) := by decide +kernel
theorem dX11_film_65 : decode cX11_film 65 = .ok (.imul, 1) := by decide +kernel
theorem dX11_film_66 : decode cX11_film 66 = .ok (.iload_n 3, 1) := by decide +kernel
theorem dX11_film_67 : decode cX11_film 67 = .ok (.iadd, 1) := by decide +kernel
theorem dX11_film_68 : decode cX11_film 68 = .ok (.iload 5, 2) := by decide +kernel
theorem dX11_film_70 : decode cX11_film 70 = .ok (.iadd, 1) := by decide +kernel
theorem dX11_film_71 : decode cX11_film 71 = .ok (.iload_n 2, 1) := by decide +kernel
theorem dX11_film_72 : decode cX11_film 72 = .ok (.aload_n 0, 1) := by decide +kernel
theorem dX11_film_73 : decode cX11_film 73 = .ok (.getfield 22, 3) := by decide +kernel
theorem dX11_film_76 : decode cX11_film 76 = .ok (.iload 5, 2) := by decide +kernel
theorem dX11_film_78 : decode cX11_film 78 = .ok (.iaload, 1) := by decide +kernel
theorem dX11_film_79 : decode cX11_film 79 = .ok (.i2l, 1) := by decide +kernel
theorem dX11_film_80 : decode cX11_film 80 = .ok (.invokestatic 221, 3) := by decide +kernel
theorem dX11_film_83 : decode cX11_film 83 = .ok (.lastore, 1) := by decide +kernel
theorem dX11_film_84 : decode cX11_film 84 = .ok (.iinc 5 1, 3) := by decide +kernel
theorem dX11_film_87 : decode cX11_film 87 = .ok (.goto (-38), 3) := by decide +kernel
theorem dX11_film_90 : decode cX11_film 90 = .ok (.aload_n 0, 1) := by decide +kernel
theorem dX11_film_91 : decode cX11_film 91 = .ok (.getfield 85, 3) := by decide +kernel
theorem dX11_film_94 : decode cX11_film 94 = .ok (.ireturn, 1) := by decide +kernel
set_option maxRecDepth 20000 in
theorem ggX11_sheet_X11_isSheet : GoodIn wsX11_sheet wsX11_isSheet := goodIn_r _ [8, 9, 10, 11, 7, 12] (by decide +kernel) (by decide +kernel)
set_option maxRecDepth 20000 in
theorem gX11_sheet_X11_isSheet : GoodIn wsX11_sheet (va_wsS RX11 211 yX11_isSheet wsX11_isSheet) := goodIn_app (goodIn_of _ (by decide +kernel)) ggX11_sheet_X11_isSheet
set_option maxRecDepth 20000 in
theorem ggX11_sheet_X11_in : GoodIn wsX11_sheet wsX11_in := goodIn_r _ [12] (by decide +kernel) (by decide +kernel)
set_option maxRecDepth 20000 in
theorem gX11_sheet_X11_in : GoodIn wsX11_sheet (va_wsS RX11 81 yX11_in wsX11_in) := goodIn_app (goodIn_of _ (by decide +kernel)) ggX11_sheet_X11_in
theorem dX11_sheet_0 : decode cX11_sheet 0 = .ok (.iload_n 1, 1) := by decide +kernel
theorem dX11_sheet_1 : decode cX11_sheet 1 = .ok (.invokestatic 211, 3) := by decide +kernel
theorem dX11_sheet_4 : decode cX11_sheet 4 = .ok (.ifCond .eq 21, 3) := by decide +kernel
theorem dX11_sheet_7 : decode cX11_sheet 7 = .ok (.iload_n 2, 1) := by decide +kernel
theorem dX11_sheet_8 : decode cX11_sheet 8 = .ok (.i2l, 1) := by decide +kernel
theorem dX11_sheet_9 : decode cX11_sheet 9 = .ok (.lconst 0, 1) := by decide +kernel
theorem dX11_sheet_10 : decode cX11_sheet 10 = .ok (.ldc2_w 156, 3) := by decide +kernel
theorem dX11_sheet_13 : decode cX11_sheet 13 = .ok (.invokestatic 81, 3) := by decide +kernel
theorem dX11_sheet_16 : decode cX11_sheet 16 = .ok (.ifCond .eq 9, 3) := by decide +kernel
theorem dX11_sheet_19 : decode cX11_sheet 19 = .ok (.iload_n 3, 1) := by decide +kernel
theorem dX11_sheet_20 : decode cX11_sheet 20 = .ok (.bipush 24, 2) := by decide +kernel
theorem dX11_sheet_22 : decode cX11_sheet 22 = .ok (.if_icmp .le 5, 3) := by decide +kernel
theorem dX11_sheet_25 : decode cX11_sheet 25 = .ok (.iconst (-1), 1) := by decide +kernel
theorem dX11_sheet_26 : decode cX11_sheet 26 = .ok (.ireturn, 1) := by decide +kernel
theorem dX11_sheet_27 : decode cX11_sheet 27 = .ok (.iload_n 3, 1) := by decide +kernel
theorem dX11_sheet_28 : decode cX11_sheet 28 = .ok (.ifCond .ge 6, 3) := by decide +kernel
theorem dX11_sheet_31 : decode cX11_sheet 31 = .ok (.bipush (-14), 2) := by decide +kernel
theorem dX11_sheet_33 : decode cX11_sheet 33 = .ok (.ireturn, 1) := by decide +kernel
theorem dX11_sheet_34 : decode cX11_sheet 34 = .ok (.aload_n 0, 1) := by decide +kernel
theorem dX11_sheet_35 : decode cX11_sheet 35 = .ok (.getfield 62, 3) := by decide +kernel
theorem dX11_sheet_38 : decode cX11_sheet 38 = .ok (.iload_n 1, 1) := by decide +kernel
theorem dX11_sheet_39 : decode cX11_sheet 39 = .ok (.iload_n 2, 1) := by decide +kernel
theorem dX11_sheet_40 : decode cX11_sheet 40 = .ok (.iastore, 1) := by decide +kernel
theorem dX11_sheet_41 : decode cX11_sheet 41 = .ok (.aload_n 0, 1) := by decide +kernel
theorem dX11_sheet_42 : decode cX11_sheet 42 = .ok (.getfield 65, 3) := by decide +kernel
theorem dX11_sheet_45 : decode cX11_sheet 45 = .ok (.iload_n 1, 1) := by decide +kernel
theorem dX11_sheet_46 : decode cX11_sheet 46 = .ok (.iload_n 3, 1) := by decide +kernel
theorem dX11_sheet_47 : decode cX11_sheet 47 = .ok (.iastore, 1) := by decide +kernel
theorem dX11_sheet_48 : decode cX11_sheet 48 = .ok (.iconst 0, 1) := by decide +kernel
theorem dX11_sheet_49 : decode cX11_sheet 49 = .ok (.istore 4, 2) := by decide +kernel
theorem dX11_sheet_51 : decode cX11_sheet 51 = .ok (.iload 4, 2) := by decide +kernel
theorem dX11_sheet_53 : decode cX11_sheet 53 = .ok (.bipush 24, 2) := by decide +kernel
theorem dX11_sheet_55 : decode cX11_sheet 55 = .ok (.if_icmp .ge 22, 3) := by decide +kernel
theorem dX11_sheet_58 : decode cX11_sheet 58 = .ok (.aload_n 0, 1) := by decide +kernel
theorem dX11_sheet_59 : decode cX11_sheet 59 = .ok (.getfield 68, 3) := by decide +kernel
theorem dX11_sheet_62 : decode cX11_sheet 62 = .ok (.bipush 24, 2) := by decide +kernel
theorem dX11_sheet_64 : decode cX11_sheet 64 = .ok (.iload_n 1, 1) := by decide +kernel
theorem dX11_sheet_65 : decode cX11_sheet 65 = .ok (.imul, 1) := by decide +kernel
theorem dX11_sheet_66 : decode cX11_sheet 66 = .ok (.iload 4, 2) := by decide +kernel
theorem dX11_sheet_68 : decode cX11_sheet 68 = .ok (.iadd, 1) := by decide +kernel
theorem dX11_sheet_69 : decode cX11_sheet 69 = .ok (.lconst 0, 1) := by decide +kernel
theorem dX11_sheet_70 : decode cX11_sheet 70 = .ok (.lastore, 1) := by decide +kernel
theorem dX11_sheet_71 : decode cX11_sheet 71 = .ok (.iinc 4 1, 3) := by decide +kernel
theorem dX11_sheet_74 : decode cX11_sheet 74 = .ok (.goto (-23), 3) := by decide +kernel
theorem dX11_sheet_77 : decode cX11_sheet 77 = .ok (.iload_n 3, 1) := by decide +kernel
theorem dX11_sheet_78 : decode cX11_sheet 78 = .ok (.ireturn, 1) := by decide +kernel
set_option maxRecDepth 20000 in
theorem ggX11_drop_X11_isSheet : GoodIn wsX11_drop wsX11_isSheet := goodIn_r _ [6, 7, 8, 9, 5, 10] (by decide +kernel) (by decide +kernel)
set_option maxRecDepth 20000 in
theorem gX11_drop_X11_isSheet : GoodIn wsX11_drop (va_wsS RX11 211 yX11_isSheet wsX11_isSheet) := goodIn_app (goodIn_of _ (by decide +kernel)) ggX11_drop_X11_isSheet
theorem dX11_drop_0 : decode cX11_drop 0 = .ok (.iload_n 1, 1) := by decide +kernel
theorem dX11_drop_1 : decode cX11_drop 1 = .ok (.invokestatic 211, 3) := by decide +kernel
theorem dX11_drop_4 : decode cX11_drop 4 = .ok (.ifCond .ne 5, 3) := by decide +kernel
theorem dX11_drop_7 : decode cX11_drop 7 = .ok (.iconst (-1), 1) := by decide +kernel
theorem dX11_drop_8 : decode cX11_drop 8 = .ok (.ireturn, 1) := by decide +kernel
theorem dX11_drop_9 : decode cX11_drop 9 = .ok (.aload_n 0, 1) := by decide +kernel
theorem dX11_drop_10 : decode cX11_drop 10 = .ok (.getfield 62, 3) := by decide +kernel
theorem dX11_drop_13 : decode cX11_drop 13 = .ok (.iload_n 1, 1) := by decide +kernel
theorem dX11_drop_14 : decode cX11_drop 14 = .ok (.iaload, 1) := by decide +kernel
theorem dX11_drop_15 : decode cX11_drop 15 = .ok (.ifCond .ge 6, 3) := by decide +kernel
theorem dX11_drop_18 : decode cX11_drop 18 = .ok (.bipush (-11), 2) := by decide +kernel
theorem dX11_drop_20 : decode cX11_drop 20 = .ok (.ireturn, 1) := by decide +kernel
theorem dX11_drop_21 : decode cX11_drop 21 = .ok (.aload_n 0, 1) := by decide +kernel
theorem dX11_drop_22 : decode cX11_drop 22 = .ok (.getfield 62, 3) := by decide +kernel
theorem dX11_drop_25 : decode cX11_drop 25 = .ok (.iload_n 1, 1) := by decide +kernel
theorem dX11_drop_26 : decode cX11_drop 26 = .ok (.iconst (-1), 1) := by decide +kernel
theorem dX11_drop_27 : decode cX11_drop 27 = .ok (.iastore, 1) := by decide +kernel
theorem dX11_drop_28 : decode cX11_drop 28 = .ok (.aload_n 0, 1) := by decide +kernel
theorem dX11_drop_29 : decode cX11_drop 29 = .ok (.getfield 65, 3) := by decide +kernel
theorem dX11_drop_32 : decode cX11_drop 32 = .ok (.iload_n 1, 1) := by decide +kernel
theorem dX11_drop_33 : decode cX11_drop 33 = .ok (.iaload, 1) := by decide +kernel
theorem dX11_drop_34 : decode cX11_drop 34 = .ok (.ireturn, 1) := by decide +kernel
set_option maxRecDepth 20000 in
theorem ggX11_item_X11_isSheet : GoodIn wsX11_item wsX11_isSheet := goodIn_r _ [6, 7, 8, 9, 5, 10] (by decide +kernel) (by decide +kernel)
set_option maxRecDepth 20000 in
theorem gX11_item_X11_isSheet : GoodIn wsX11_item (va_wsS RX11 211 yX11_isSheet wsX11_isSheet) := goodIn_app (goodIn_of _ (by decide +kernel)) ggX11_item_X11_isSheet
set_option maxRecDepth 20000 in
theorem ggX11_item_X11_in : GoodIn wsX11_item wsX11_in := goodIn_r _ [10] (by decide +kernel) (by decide +kernel)
set_option maxRecDepth 20000 in
theorem gX11_item_X11_in : GoodIn wsX11_item (va_wsS RX11 81 yX11_in wsX11_in) := goodIn_app (goodIn_of _ (by decide +kernel)) ggX11_item_X11_in
set_option maxRecDepth 20000 in
theorem ggX11_item_X11_bars : GoodIn wsX11_item wsX11_bars := goodIn_r _ [14, 15, 16, 20, 21, 22, 23, 24, 25, 26, 27, 28, 29, 30, 31, 32, 33, 34, 35, 36, 37, 38, 39, 40, 41, 42, 43, 44, 45, 46, 47, 48, 49] (by decide +kernel) (by decide +kernel)
set_option maxRecDepth 20000 in
theorem gX11_item_X11_bars : GoodIn wsX11_item (wsV RX11 214 RX11 yX11_bars wsX11_bars) := goodIn_app (goodIn_of _ (by decide +kernel)) ggX11_item_X11_bars
set_option maxRecDepth 20000 in
theorem ggX11_item_X11_cutTo : GoodIn wsX11_item wsX11_cutTo := goodIn_r _ [19] (by decide +kernel) (by decide +kernel)
set_option maxRecDepth 20000 in
theorem gX11_item_X11_cutTo : GoodIn wsX11_item (va_wsS RX11 221 yX11_cutTo wsX11_cutTo) := goodIn_app (goodIn_of _ (by decide +kernel)) ggX11_item_X11_cutTo
theorem dX11_item_0 : decode cX11_item 0 = .ok (.iload_n 1, 1) := by decide +kernel
theorem dX11_item_1 : decode cX11_item 1 = .ok (.invokestatic 211, 3) := by decide +kernel
theorem dX11_item_4 : decode cX11_item 4 = .ok (.ifCond .eq 15, 3) := by decide +kernel
theorem dX11_item_7 : decode cX11_item 7 = .ok (.iload_n 2, 1) := by decide +kernel
theorem dX11_item_8 : decode cX11_item 8 = .ok (.i2l, 1) := by decide +kernel
theorem dX11_item_9 : decode cX11_item 9 = .ok (.lconst 0, 1) := by decide +kernel
theorem dX11_item_10 : decode cX11_item 10 = .ok (.ldc2_w 156, 3) := by decide +kernel
theorem dX11_item_13 : decode cX11_item 13 = .ok (.invokestatic 81, 3) := by decide +kernel
theorem dX11_item_16 : decode cX11_item 16 = .ok (.ifCond .ne 5, 3) := by decide +kernel
theorem dX11_item_19 : decode cX11_item 19 = .ok (.iconst (-1), 1) := by decide +kernel
theorem dX11_item_20 : decode cX11_item 20 = .ok (.ireturn, 1) := by decide +kernel
theorem dX11_item_21 : decode cX11_item 21 = .ok (.aload_n 0, 1) := by decide +kernel
theorem dX11_item_22 : decode cX11_item 22 = .ok (.iload_n 1, 1) := by decide +kernel
theorem dX11_item_23 : decode cX11_item 23 = .ok (.iload_n 2, 1) := by decide +kernel
theorem dX11_item_24 : decode cX11_item 24 = .ok (.iload_n 3, 1) := by decide +kernel
theorem dX11_item_25 : decode cX11_item 25 = .ok (.iconst 1, 1) := by decide +kernel
theorem dX11_item_26 : decode cX11_item 26 = .ok (.invokevirtual 214, 3) := by decide +kernel
theorem dX11_item_29 : decode cX11_item 29 = .ok (.istore 6, 2) := by decide +kernel
theorem dX11_item_31 : decode cX11_item 31 = .ok (.iload 6, 2) := by decide +kernel
theorem dX11_item_33 : decode cX11_item 33 = .ok (.ifCond .eq 6, 3) := by decide +kernel
theorem dX11_item_36 : decode cX11_item 36 = .ok (.iload 6, 2) := by decide +kernel
theorem dX11_item_38 : decode cX11_item 38 = .ok (.ireturn, 1) := by decide +kernel
theorem dX11_item_39 : decode cX11_item 39 = .ok (.aload_n 0, 1) := by decide +kernel
theorem dX11_item_40 : decode cX11_item 40 = .ok (.getfield 68, 3) := by decide +kernel
theorem dX11_item_43 : decode cX11_item 43 = .ok (.bipush 24, 2) := by decide +kernel
theorem dX11_item_45 : decode cX11_item 45 = .ok (.iload_n 1, 1) := by decide +kernel
theorem dX11_item_46 : decode cX11_item 46 = .ok (.imul, 1) := by decide +kernel
theorem dX11_item_47 : decode cX11_item 47 = .ok (.iload_n 3, 1) := by decide +kernel
theorem dX11_item_48 : decode cX11_item 48 = .ok (.iadd, 1) := by decide +kernel
theorem dX11_item_49 : decode cX11_item 49 = .ok (.iload_n 2, 1) := by decide +kernel
theorem dX11_item_50 : decode cX11_item 50 = .ok (.lload 4, 2) := by decide +kernel
theorem dX11_item_52 : decode cX11_item 52 = .ok (.invokestatic 221, 3) := by decide +kernel
theorem dX11_item_55 : decode cX11_item 55 = .ok (.lastore, 1) := by decide +kernel
theorem dX11_item_56 : decode cX11_item 56 = .ok (.iconst 1, 1) := by decide +kernel
theorem dX11_item_57 : decode cX11_item 57 = .ok (.ireturn, 1) := by decide +kernel
set_option maxRecDepth 20000 in
theorem ggX11_copy_X11_isSheet : GoodIn wsX11_copy wsX11_isSheet := goodIn_r _ [7, 8, 9, 10, 6, 11] (by decide +kernel) (by decide +kernel)
set_option maxRecDepth 20000 in
theorem gX11_copy_X11_isSheet : GoodIn wsX11_copy (va_wsS RX11 211 yX11_isSheet wsX11_isSheet) := goodIn_app (goodIn_of _ (by decide +kernel)) ggX11_copy_X11_isSheet
set_option maxRecDepth 20000 in
theorem ggX11_copy_X11_bars : GoodIn wsX11_copy wsX11_bars := goodIn_r _ [15, 1, 16, 17, 18, 19, 20, 21, 22, 23, 24, 25, 26, 27, 28, 29, 30, 31, 32, 33, 34, 35, 36, 37, 38, 39, 40, 41, 42, 43, 44, 45, 46] (by decide +kernel) (by decide +kernel)
set_option maxRecDepth 20000 in
theorem gX11_copy_X11_bars : GoodIn wsX11_copy (wsV RX11 214 RX11 yX11_bars wsX11_bars) := goodIn_app (goodIn_of _ (by decide +kernel)) ggX11_copy_X11_bars
theorem dX11_copy_0 : decode cX11_copy 0 = .ok (.iload_n 1, 1) := by decide +kernel
theorem dX11_copy_1 : decode cX11_copy 1 = .ok (.invokestatic 211, 3) := by decide +kernel
theorem dX11_copy_4 : decode cX11_copy 4 = .ok (.ifCond .eq 10, 3) := by decide +kernel
theorem dX11_copy_7 : decode cX11_copy 7 = .ok (.iload_n 3, 1) := by decide +kernel
theorem dX11_copy_8 : decode cX11_copy 8 = .ok (.invokestatic 211, 3) := by decide +kernel
theorem dX11_copy_11 : decode cX11_copy 11 = .ok (.ifCond .ne 5, 3) := by decide +kernel
theorem dX11_copy_14 : decode cX11_copy 14 = .ok (.iconst (-1), 1) := by decide +kernel
theorem dX11_copy_15 : decode cX11_copy 15 = .ok (.ireturn, 1) := by decide +kernel
theorem dX11_copy_16 : decode cX11_copy 16 = .ok (.aload_n 0, 1) := by decide +kernel
theorem dX11_copy_17 : decode cX11_copy 17 = .ok (.getfield 62, 3) := by decide +kernel
theorem dX11_copy_20 : decode cX11_copy 20 = .ok (.iload_n 1, 1) := by decide +kernel
theorem dX11_copy_21 : decode cX11_copy 21 = .ok (.iaload, 1) := by decide +kernel
theorem dX11_copy_22 : decode cX11_copy 22 = .ok (.ifCond .lt 12, 3) := by decide +kernel
theorem dX11_copy_25 : decode cX11_copy 25 = .ok (.aload_n 0, 1) := by decide +kernel
theorem dX11_copy_26 : decode cX11_copy 26 = .ok (.getfield 62, 3) := by decide +kernel
theorem dX11_copy_29 : decode cX11_copy 29 = .ok (.iload_n 3, 1) := by decide +kernel
theorem dX11_copy_30 : decode cX11_copy 30 = .ok (.iaload, 1) := by decide +kernel
theorem dX11_copy_31 : decode cX11_copy 31 = .ok (.ifCond .ge 6, 3) := by decide +kernel
theorem dX11_copy_34 : decode cX11_copy 34 = .ok (.bipush (-11), 2) := by decide +kernel
theorem dX11_copy_36 : decode cX11_copy 36 = .ok (.ireturn, 1) := by decide +kernel
theorem dX11_copy_37 : decode cX11_copy 37 = .ok (.aload_n 0, 1) := by decide +kernel
theorem dX11_copy_38 : decode cX11_copy 38 = .ok (.iload_n 1, 1) := by decide +kernel
theorem dX11_copy_39 : decode cX11_copy 39 = .ok (.aload_n 0, 1) := by decide +kernel
theorem dX11_copy_40 : decode cX11_copy 40 = .ok (.getfield 62, 3) := by decide +kernel
theorem dX11_copy_43 : decode cX11_copy 43 = .ok (.iload_n 3, 1) := by decide +kernel
theorem dX11_copy_44 : decode cX11_copy 44 = .ok (.iaload, 1) := by decide +kernel
theorem dX11_copy_45 : decode cX11_copy 45 = .ok (.iload_n 2, 1) := by decide +kernel
theorem dX11_copy_46 : decode cX11_copy 46 = .ok (.iload 5, 2) := by decide +kernel
theorem dX11_copy_48 : decode cX11_copy 48 = .ok (.invokevirtual 214, 3) := by decide +kernel
theorem dX11_copy_51 : decode cX11_copy 51 = .ok (.istore 6, 2) := by decide +kernel
theorem dX11_copy_53 : decode cX11_copy 53 = .ok (.iload 6, 2) := by decide +kernel
theorem dX11_copy_55 : decode cX11_copy 55 = .ok (.ifCond .ne 21, 3) := by decide +kernel
theorem dX11_copy_58 : decode cX11_copy 58 = .ok (.aload_n 0, 1) := by decide +kernel
theorem dX11_copy_59 : decode cX11_copy 59 = .ok (.iload_n 3, 1) := by decide +kernel
theorem dX11_copy_60 : decode cX11_copy 60 = .ok (.aload_n 0, 1) := by decide +kernel
theorem dX11_copy_61 : decode cX11_copy 61 = .ok (.getfield 62, 3) := by decide +kernel
theorem dX11_copy_64 : decode cX11_copy 64 = .ok (.iload_n 1, 1) := by decide +kernel
theorem dX11_copy_65 : decode cX11_copy 65 = .ok (.iaload, 1) := by decide +kernel
theorem dX11_copy_66 : decode cX11_copy 66 = .ok (.iload 4, 2) := by decide +kernel
theorem dX11_copy_68 : decode cX11_copy 68 = .ok (.iload 5, 2) := by decide +kernel
theorem dX11_copy_70 : decode cX11_copy 70 = .ok (.invokevirtual 214, 3) := by decide +kernel
theorem dX11_copy_73 : decode cX11_copy 73 = .ok (.goto 5, 3) := by decide +kernel
theorem dX11_copy_76 : decode cX11_copy 76 = .ok (.iload 6, 2) := by decide +kernel
theorem dX11_copy_78 : decode cX11_copy 78 = .ok (.istore 6, 2) := by decide +kernel
theorem dX11_copy_80 : decode cX11_copy 80 = .ok (.iload 6, 2) := by decide +kernel
theorem dX11_copy_82 : decode cX11_copy 82 = .ok (.ifCond .eq 6, 3) := by decide +kernel
theorem dX11_copy_85 : decode cX11_copy 85 = .ok (.iload 6, 2) := by decide +kernel
theorem dX11_copy_87 : decode cX11_copy 87 = .ok (.ireturn, 1) := by decide +kernel
theorem dX11_copy_88 : decode cX11_copy 88 = .ok (.iconst 0, 1) := by decide +kernel
theorem dX11_copy_89 : decode cX11_copy 89 = .ok (.istore 7, 2) := by decide +kernel
theorem dX11_copy_91 : decode cX11_copy 91 = .ok (.iload 7, 2) := by decide +kernel
theorem dX11_copy_93 : decode cX11_copy 93 = .ok (.iload 5, 2) := by decide +kernel
theorem dX11_copy_95 : decode cX11_copy 95 = .ok (.if_icmp .ge 30, 3) := by decide +kernel
theorem dX11_copy_98 : decode cX11_copy 98 = .ok (.aload_n 0, 1) := by decide +kernel
theorem dX11_copy_99 : decode cX11_copy 99 = .ok (.getfield 71, 3) := by decide +kernel
theorem dX11_copy_102 : decode cX11_copy 102 = .ok (.iload 7, 2) := by decide +kernel
theorem dX11_copy_104 : decode cX11_copy 104 = .ok (.aload_n 0, 1) := by decide +kernel
theorem dX11_copy_105 : decode cX11_copy 105 = .ok (.getfield 68, 3) := by decide +kernel
theorem dX11_copy_108 : decode cX11_copy 108 = .ok (.bipush 24, 2) := by decide +kernel
theorem dX11_copy_110 : decode cX11_copy 110 = .ok (.iload_n 1, 1) := by decide +kernel
theorem dX11_copy_111 : decode cX11_copy 111 = .ok (.imul, 1) := by decide +kernel
theorem dX11_copy_112 : decode cX11_copy 112 = .ok (.iload_n 2, 1) := by decide +kernel
theorem dX11_copy_113 : decode cX11_copy 113 = .ok (.iadd, 1) := by decide +kernel
theorem dX11_copy_114 : decode cX11_copy 114 = .ok (.iload 7, 2) := by decide +kernel
theorem dX11_copy_116 : decode cX11_copy 116 = .ok (.iadd, 1) := by decide +kernel
theorem dX11_copy_117 : decode cX11_copy 117 = .ok (.laload, 1) := by decide +kernel
theorem dX11_copy_118 : decode cX11_copy 118 = .ok (.lastore, 1) := by decide +kernel
theorem dX11_copy_119 : decode cX11_copy 119 = .ok (.iinc 7 1, 3) := by decide +kernel
theorem dX11_copy_122 : decode cX11_copy 122 = .ok (.goto (-31), 3) := by decide +kernel
theorem dX11_copy_125 : decode cX11_copy 125 = .ok (.iconst 0, 1) := by decide +kernel
theorem dX11_copy_126 : decode cX11_copy 126 = .ok (.istore 7, 2) := by decide +kernel
theorem dX11_copy_128 : decode cX11_copy 128 = .ok (.iload 7, 2) := by decide +kernel
theorem dX11_copy_130 : decode cX11_copy 130 = .ok (.iload 5, 2) := by decide +kernel
theorem dX11_copy_132 : decode cX11_copy 132 = .ok (.if_icmp .ge 31, 3) := by decide +kernel
theorem dX11_copy_135 : decode cX11_copy 135 = .ok (.aload_n 0, 1) := by decide +kernel
theorem dX11_copy_136 : decode cX11_copy 136 = .ok (.getfield 68, 3) := by decide +kernel
theorem dX11_copy_139 : decode cX11_copy 139 = .ok (.bipush 24, 2) := by decide +kernel
theorem dX11_copy_141 : decode cX11_copy 141 = .ok (.iload_n 3, 1) := by decide +kernel
theorem dX11_copy_142 : decode cX11_copy 142 = .ok (.imul, 1) := by decide +kernel
theorem dX11_copy_143 : decode cX11_copy 143 = .ok (.iload 4, 2) := by decide +kernel
theorem dX11_copy_145 : decode cX11_copy 145 = .ok (.iadd, 1) := by decide +kernel
theorem dX11_copy_146 : decode cX11_copy 146 = .ok (.iload 7, 2) := by decide +kernel
theorem dX11_copy_148 : decode cX11_copy 148 = .ok (.iadd, 1) := by decide +kernel
theorem dX11_copy_149 : decode cX11_copy 149 = .ok (.aload_n 0, 1) := by decide +kernel
theorem dX11_copy_150 : decode cX11_copy 150 = .ok (.getfield 71, 3) := by decide +kernel
theorem dX11_copy_153 : decode cX11_copy 153 = .ok (.iload 7, 2) := by decide +kernel
theorem dX11_copy_155 : decode cX11_copy 155 = .ok (.laload, 1) := by decide +kernel
theorem dX11_copy_156 : decode cX11_copy 156 = .ok (.lastore, 1) := by decide +kernel
theorem dX11_copy_157 : decode cX11_copy 157 = .ok (.iinc 7 1, 3) := by decide +kernel
theorem dX11_copy_160 : decode cX11_copy 160 = .ok (.goto (-32), 3) := by decide +kernel
theorem dX11_copy_163 : decode cX11_copy 163 = .ok (.iload 5, 2) := by decide +kernel
theorem dX11_copy_165 : decode cX11_copy 165 = .ok (.ireturn, 1) := by decide +kernel
theorem dJ11_isValidCodePoint_9a6ad_0 : decode cJ11_isValidCodePoint_9a6ad 0 = .ok (.iload_n 0, 1) := by decide +kernel
theorem dJ11_isValidCodePoint_9a6ad_1 : decode cJ11_isValidCodePoint_9a6ad 1 = .ok (.bipush 16, 2) := by decide +kernel
theorem dJ11_isValidCodePoint_9a6ad_3 : decode cJ11_isValidCodePoint_9a6ad 3 = .ok (.iushr, 1) := by decide +kernel
theorem dJ11_isValidCodePoint_9a6ad_4 : decode cJ11_isValidCodePoint_9a6ad 4 = .ok (.istore_n 1, 1) := by decide +kernel
theorem dJ11_isValidCodePoint_9a6ad_5 : decode cJ11_isValidCodePoint_9a6ad 5 = .ok (.iload_n 1, 1) := by decide +kernel
theorem dJ11_isValidCodePoint_9a6ad_6 : decode cJ11_isValidCodePoint_9a6ad 6 = .ok (.bipush 17, 2) := by decide +kernel
theorem dJ11_isValidCodePoint_9a6ad_8 : decode cJ11_isValidCodePoint_9a6ad 8 = .ok (.if_icmp .ge 7, 3) := by decide +kernel
theorem dJ11_isValidCodePoint_9a6ad_11 : decode cJ11_isValidCodePoint_9a6ad 11 = .ok (.iconst 1, 1) := by decide +kernel
theorem dJ11_isValidCodePoint_9a6ad_12 : decode cJ11_isValidCodePoint_9a6ad 12 = .ok (.goto 4, 3) := by decide +kernel
theorem dJ11_isValidCodePoint_9a6ad_15 : decode cJ11_isValidCodePoint_9a6ad 15 = .ok (.iconst 0, 1) := by decide +kernel
theorem dJ11_isValidCodePoint_9a6ad_16 : decode cJ11_isValidCodePoint_9a6ad 16 = .ok (.ireturn, 1) := by decide +kernel
theorem dJ11_highSurrogate_5068e_0 : decode cJ11_highSurrogate_5068e 0 = .ok (.iload_n 0, 1) := by decide +kernel
theorem dJ11_highSurrogate_5068e_1 : decode cJ11_highSurrogate_5068e 1 = .ok (.bipush 10, 2) := by decide +kernel
theorem dJ11_highSurrogate_5068e_3 : decode cJ11_highSurrogate_5068e 3 = .ok (.iushr, 1) := by decide +kernel
theorem dJ11_highSurrogate_5068e_4 : decode cJ11_highSurrogate_5068e 4 = .ok (.ldc 110, 2) := by decide +kernel
theorem dJ11_highSurrogate_5068e_6 : decode cJ11_highSurrogate_5068e 6 = .ok (.iadd, 1) := by decide +kernel
theorem dJ11_highSurrogate_5068e_7 : decode cJ11_highSurrogate_5068e 7 = .ok (.i2c, 1) := by decide +kernel
theorem dJ11_highSurrogate_5068e_8 : decode cJ11_highSurrogate_5068e 8 = .ok (.ireturn, 1) := by decide +kernel
theorem dJ11_lowSurrogate_5068e_0 : decode cJ11_lowSurrogate_5068e 0 = .ok (.iload_n 0, 1) := by decide +kernel
theorem dJ11_lowSurrogate_5068e_1 : decode cJ11_lowSurrogate_5068e 1 = .ok (.sipush 1023, 3) := by decide +kernel
theorem dJ11_lowSurrogate_5068e_4 : decode cJ11_lowSurrogate_5068e 4 = .ok (.iand, 1) := by decide +kernel
theorem dJ11_lowSurrogate_5068e_5 : decode cJ11_lowSurrogate_5068e 5 = .ok (.ldc 76, 2) := by decide +kernel
theorem dJ11_lowSurrogate_5068e_7 : decode cJ11_lowSurrogate_5068e 7 = .ok (.iadd, 1) := by decide +kernel
theorem dJ11_lowSurrogate_5068e_8 : decode cJ11_lowSurrogate_5068e 8 = .ok (.i2c, 1) := by decide +kernel
theorem dJ11_lowSurrogate_5068e_9 : decode cJ11_lowSurrogate_5068e 9 = .ok (.ireturn, 1) := by decide +kernel
theorem dJ6_bitCount_0f7a4_0 : decode cJ6_bitCount_0f7a4 0 = .ok (.iload_n 0, 1) := by decide +kernel
theorem dJ6_bitCount_0f7a4_1 : decode cJ6_bitCount_0f7a4 1 = .ok (.iload_n 0, 1) := by decide +kernel
theorem dJ6_bitCount_0f7a4_2 : decode cJ6_bitCount_0f7a4 2 = .ok (.iconst 1, 1) := by decide +kernel
theorem dJ6_bitCount_0f7a4_3 : decode cJ6_bitCount_0f7a4 3 = .ok (.iushr, 1) := by decide +kernel
theorem dJ6_bitCount_0f7a4_4 : decode cJ6_bitCount_0f7a4 4 = .ok (.ldc_w 265, 3) := by decide +kernel
theorem dJ6_bitCount_0f7a4_7 : decode cJ6_bitCount_0f7a4 7 = .ok (.iand, 1) := by decide +kernel
theorem dJ6_bitCount_0f7a4_8 : decode cJ6_bitCount_0f7a4 8 = .ok (.isub, 1) := by decide +kernel
theorem dJ6_bitCount_0f7a4_9 : decode cJ6_bitCount_0f7a4 9 = .ok (.istore_n 0, 1) := by decide +kernel
theorem dJ6_bitCount_0f7a4_10 : decode cJ6_bitCount_0f7a4 10 = .ok (.iload_n 0, 1) := by decide +kernel
theorem dJ6_bitCount_0f7a4_11 : decode cJ6_bitCount_0f7a4 11 = .ok (.ldc_w 266, 3) := by decide +kernel
theorem dJ6_bitCount_0f7a4_14 : decode cJ6_bitCount_0f7a4 14 = .ok (.iand, 1) := by decide +kernel
theorem dJ6_bitCount_0f7a4_15 : decode cJ6_bitCount_0f7a4 15 = .ok (.iload_n 0, 1) := by decide +kernel
theorem dJ6_bitCount_0f7a4_16 : decode cJ6_bitCount_0f7a4 16 = .ok (.iconst 2, 1) := by decide +kernel
theorem dJ6_bitCount_0f7a4_17 : decode cJ6_bitCount_0f7a4 17 = .ok (.iushr, 1) := by decide +kernel
theorem dJ6_bitCount_0f7a4_18 : decode cJ6_bitCount_0f7a4 18 = .ok (.ldc_w 266, 3) := by decide +kernel
theorem dJ6_bitCount_0f7a4_21 : decode cJ6_bitCount_0f7a4 21 = .ok (.iand, 1) := by decide +kernel
theorem dJ6_bitCount_0f7a4_22 : decode cJ6_bitCount_0f7a4 22 = .ok (.iadd, 1) := by decide +kernel
theorem dJ6_bitCount_0f7a4_23 : decode cJ6_bitCount_0f7a4 23 = .ok (.istore_n 0, 1) := by decide +kernel
theorem dJ6_bitCount_0f7a4_24 : decode cJ6_bitCount_0f7a4 24 = .ok (.iload_n 0, 1) := by decide +kernel
theorem dJ6_bitCount_0f7a4_25 : decode cJ6_bitCount_0f7a4 25 = .ok (.iload_n 0, 1) := by decide +kernel
theorem dJ6_bitCount_0f7a4_26 : decode cJ6_bitCount_0f7a4 26 = .ok (.iconst 4, 1) := by decide +kernel
theorem dJ6_bitCount_0f7a4_27 : decode cJ6_bitCount_0f7a4 27 = .ok (.iushr, 1) := by decide +kernel
theorem dJ6_bitCount_0f7a4_28 : decode cJ6_bitCount_0f7a4 28 = .ok (.iadd, 1) := by decide +kernel
theorem dJ6_bitCount_0f7a4_29 : decode cJ6_bitCount_0f7a4 29 = .ok (.ldc_w 267, 3) := by decide +kernel
theorem dJ6_bitCount_0f7a4_32 : decode cJ6_bitCount_0f7a4 32 = .ok (.iand, 1) := by decide +kernel
theorem dJ6_bitCount_0f7a4_33 : decode cJ6_bitCount_0f7a4 33 = .ok (.istore_n 0, 1) := by decide +kernel
theorem dJ6_bitCount_0f7a4_34 : decode cJ6_bitCount_0f7a4 34 = .ok (.iload_n 0, 1) := by decide +kernel
theorem dJ6_bitCount_0f7a4_35 : decode cJ6_bitCount_0f7a4 35 = .ok (.iload_n 0, 1) := by decide +kernel
theorem dJ6_bitCount_0f7a4_36 : decode cJ6_bitCount_0f7a4 36 = .ok (.bipush 8, 2) := by decide +kernel
theorem dJ6_bitCount_0f7a4_38 : decode cJ6_bitCount_0f7a4 38 = .ok (.iushr, 1) := by decide +kernel
theorem dJ6_bitCount_0f7a4_39 : decode cJ6_bitCount_0f7a4 39 = .ok (.iadd, 1) := by decide +kernel
theorem dJ6_bitCount_0f7a4_40 : decode cJ6_bitCount_0f7a4 40 = .ok (.istore_n 0, 1) := by decide +kernel
theorem dJ6_bitCount_0f7a4_41 : decode cJ6_bitCount_0f7a4 41 = .ok (.iload_n 0, 1) := by decide +kernel
theorem dJ6_bitCount_0f7a4_42 : decode cJ6_bitCount_0f7a4 42 = .ok (.iload_n 0, 1) := by decide +kernel
theorem dJ6_bitCount_0f7a4_43 : decode cJ6_bitCount_0f7a4 43 = .ok (.bipush 16, 2) := by decide +kernel
theorem dJ6_bitCount_0f7a4_45 : decode cJ6_bitCount_0f7a4 45 = .ok (.iushr, 1) := by decide +kernel
theorem dJ6_bitCount_0f7a4_46 : decode cJ6_bitCount_0f7a4 46 = .ok (.iadd, 1) := by decide +kernel
theorem dJ6_bitCount_0f7a4_47 : decode cJ6_bitCount_0f7a4 47 = .ok (.istore_n 0, 1) := by decide +kernel
theorem dJ6_bitCount_0f7a4_48 : decode cJ6_bitCount_0f7a4 48 = .ok (.iload_n 0, 1) := by decide +kernel
theorem dJ6_bitCount_0f7a4_49 : decode cJ6_bitCount_0f7a4 49 = .ok (.bipush 63, 2) := by decide +kernel
theorem dJ6_bitCount_0f7a4_51 : decode cJ6_bitCount_0f7a4 51 = .ok (.iand, 1) := by decide +kernel
theorem dJ6_bitCount_0f7a4_52 : decode cJ6_bitCount_0f7a4 52 = .ok (.ireturn, 1) := by decide +kernel
theorem dJ9_max_7cf53_0 : decode cJ9_max_7cf53 0 = .ok (.iload_n 0, 1) := by decide +kernel
theorem dJ9_max_7cf53_1 : decode cJ9_max_7cf53 1 = .ok (.iload_n 1, 1) := by decide +kernel
theorem dJ9_max_7cf53_2 : decode cJ9_max_7cf53 2 = .ok (.if_icmp .lt 7, 3) := by decide +kernel
theorem dJ9_max_7cf53_5 : decode cJ9_max_7cf53 5 = .ok (.iload_n 0, 1) := by decide +kernel
theorem dJ9_max_7cf53_6 : decode cJ9_max_7cf53 6 = .ok (.goto 4, 3) := by decide +kernel
theorem dJ9_max_7cf53_9 : decode cJ9_max_7cf53 9 = .ok (.iload_n 1, 1) := by decide +kernel
theorem dJ9_max_7cf53_10 : decode cJ9_max_7cf53 10 = .ok (.ireturn, 1) := by decide +kernel
theorem dJ9_max_f86c9_0 : decode cJ9_max_f86c9 0 = .ok (.lload_n 0, 1) := by decide +kernel
theorem dJ9_max_f86c9_1 : decode cJ9_max_f86c9 1 = .ok (.lload_n 2, 1) := by decide +kernel
theorem dJ9_max_f86c9_2 : decode cJ9_max_f86c9 2 = .ok (.lcmp, 1) := by decide +kernel
theorem dJ9_max_f86c9_3 : decode cJ9_max_f86c9 3 = .ok (.ifCond .lt 7, 3) := by decide +kernel
theorem dJ9_max_f86c9_6 : decode cJ9_max_f86c9 6 = .ok (.lload_n 0, 1) := by decide +kernel
theorem dJ9_max_f86c9_7 : decode cJ9_max_f86c9 7 = .ok (.goto 4, 3) := by decide +kernel
theorem dJ9_max_f86c9_10 : decode cJ9_max_f86c9 10 = .ok (.lload_n 2, 1) := by decide +kernel
theorem dJ9_max_f86c9_11 : decode cJ9_max_f86c9 11 = .ok (.lreturn, 1) := by decide +kernel
theorem dJ9_min_7cf53_0 : decode cJ9_min_7cf53 0 = .ok (.iload_n 0, 1) := by decide +kernel
theorem dJ9_min_7cf53_1 : decode cJ9_min_7cf53 1 = .ok (.iload_n 1, 1) := by decide +kernel
theorem dJ9_min_7cf53_2 : decode cJ9_min_7cf53 2 = .ok (.if_icmp .gt 7, 3) := by decide +kernel
theorem dJ9_min_7cf53_5 : decode cJ9_min_7cf53 5 = .ok (.iload_n 0, 1) := by decide +kernel
theorem dJ9_min_7cf53_6 : decode cJ9_min_7cf53 6 = .ok (.goto 4, 3) := by decide +kernel
theorem dJ9_min_7cf53_9 : decode cJ9_min_7cf53 9 = .ok (.iload_n 1, 1) := by decide +kernel
theorem dJ9_min_7cf53_10 : decode cJ9_min_7cf53 10 = .ok (.ireturn, 1) := by decide +kernel
set_option maxRecDepth 20000 in
theorem ggJ0_length_8abf5_J0_coder_7d493 : GoodIn wsJ0_length_8abf5 wsJ0_coder_7d493 := goodIn_r _ [6, 7, 8] (by decide +kernel) (by decide +kernel)
set_option maxRecDepth 20000 in
theorem gJ0_length_8abf5_J0_coder_7d493 : GoodIn wsJ0_length_8abf5 (wsV RJ0 335 RJ0 yJ0_coder_7d493 wsJ0_coder_7d493) := goodIn_app (goodIn_of _ (by decide +kernel)) ggJ0_length_8abf5_J0_coder_7d493
theorem dJ0_length_8abf5_0 : decode cJ0_length_8abf5 0 = .ok (.aload_n 0, 1) := by decide +kernel
theorem dJ0_length_8abf5_1 : decode cJ0_length_8abf5 1 = .ok (.getfield 9, 3) := by decide +kernel
theorem dJ0_length_8abf5_4 : decode cJ0_length_8abf5 4 = .ok (.arraylength, 1) := by decide +kernel
theorem dJ0_length_8abf5_5 : decode cJ0_length_8abf5 5 = .ok (.aload_n 0, 1) := by decide +kernel
theorem dJ0_length_8abf5_6 : decode cJ0_length_8abf5 6 = .ok (.invokevirtual 335, 3) := by decide +kernel
theorem dJ0_length_8abf5_9 : decode cJ0_length_8abf5 9 = .ok (.ishr, 1) := by decide +kernel
theorem dJ0_length_8abf5_10 : decode cJ0_length_8abf5 10 = .ok (.ireturn, 1) := by decide +kernel
set_option maxRecDepth 20000 in
theorem ggJ0_indexOf_0f7a4_J0_indexOf_7cf53 : GoodIn wsJ0_indexOf_0f7a4 wsJ0_indexOf_7cf53 := goodIn_r _ [5, 6, 7, 8, 9, 4, 10, 11, 12, 13, 14, 15, 16, 17, 18, 19, 20, 21, 22, 23, 24, 25, 26, 27, 28, 29, 30, 31, 32, 33, 34, 35, 36, 37, 38, 39, 40, 41, 42, 43, 44, 45, 46, 47, 48, 49, 50, 51, 52, 53, 54, 55, 56, 57, 58, 59, 60, 61, 62, 63, 64, 65, 66, 67, 68, 69, 70, 71, 72, 73, 74, 75, 76, 77, 78, 79, 80, 81, 82, 83, 84, 85] (by decide +kernel) (by decide +kernel)
set_option maxRecDepth 20000 in
theorem gJ0_indexOf_0f7a4_J0_indexOf_7cf53 : GoodIn wsJ0_indexOf_0f7a4 (wsV RJ0 633 RJ0 yJ0_indexOf_7cf53 wsJ0_indexOf_7cf53) := goodIn_app (goodIn_of _ (by decide +kernel)) ggJ0_indexOf_0f7a4_J0_indexOf_7cf53
theorem dJ0_indexOf_0f7a4_0 : decode cJ0_indexOf_0f7a4 0 = .ok (.aload_n 0, 1) := by decide +kernel
theorem dJ0_indexOf_0f7a4_1 : decode cJ0_indexOf_0f7a4 1 = .ok (.iload_n 1, 1) := by decide +kernel
theorem dJ0_indexOf_0f7a4_2 : decode cJ0_indexOf_0f7a4 2 = .ok (.iconst 0, 1) := by decide +kernel
theorem dJ0_indexOf_0f7a4_3 : decode cJ0_indexOf_0f7a4 3 = .ok (.invokevirtual 633, 3) := by decide +kernel
theorem dJ0_indexOf_0f7a4_6 : decode cJ0_indexOf_0f7a4 6 = .ok (.ireturn, 1) := by decide +kernel
set_option maxRecDepth 20000 in
theorem ggJ0_indexOf_7cf53_J0_isLatin1_aae02 : GoodIn wsJ0_indexOf_7cf53 wsJ0_isLatin1_aae02 := goodIn_r _ [6, 7, 8] (by decide +kernel) (by decide +kernel)
set_option maxRecDepth 20000 in
theorem gJ0_indexOf_7cf53_J0_isLatin1_aae02 : GoodIn wsJ0_indexOf_7cf53 (wsV RJ0 492 RJ0 yJ0_isLatin1_aae02 wsJ0_isLatin1_aae02) := goodIn_app (goodIn_of _ (by decide +kernel)) ggJ0_indexOf_7cf53_J0_isLatin1_aae02
set_option maxRecDepth 20000 in
theorem ggJ0_indexOf_7cf53_J0_length_8abf5 : GoodIn wsJ0_indexOf_7cf53 wsJ0_length_8abf5 := goodIn_r _ [12, 1, 13, 14, 15, 5, 16, 7, 8] (by decide +kernel) (by decide +kernel)
set_option maxRecDepth 20000 in
theorem gJ0_indexOf_7cf53_J0_length_8abf5 : GoodIn wsJ0_indexOf_7cf53 (wsV RJ0 505 RJ0 yJ0_length_8abf5 wsJ0_length_8abf5) := goodIn_app (goodIn_of _ (by decide +kernel)) ggJ0_indexOf_7cf53_J0_length_8abf5
set_option maxRecDepth 20000 in
theorem ggJ0_indexOf_7cf53_J1_indexOf_4cfef : GoodIn wsJ0_indexOf_7cf53 wsJ1_indexOf_4cfef := goodIn_r _ [20, 21, 22, 23, 24, 25, 26, 27, 28, 29, 19, 30, 31, 32, 33] (by decide +kernel) (by decide +kernel)
set_option maxRecDepth 20000 in
theorem gJ0_indexOf_7cf53_J1_indexOf_4cfef : GoodIn wsJ0_indexOf_7cf53 (va_wsS RJ0 637 yJ1_indexOf_4cfef wsJ1_indexOf_4cfef) := goodIn_app (goodIn_of _ (by decide +kernel)) ggJ0_indexOf_7cf53_J1_indexOf_4cfef
set_option maxRecDepth 20000 in
theorem ggJ0_indexOf_7cf53_J2_indexOf_4cfef : GoodIn wsJ0_indexOf_7cf53 wsJ2_indexOf_4cfef := goodIn_r _ [37, 38, 22, 23, 24, 39, 26, 27, 40, 41, 42, 36, 43, 44, 45, 46, 47, 48, 49, 50, 51, 5, 52, 53, 54, 55, 56, 57, 58, 59, 60, 61, 62, 63, 64, 65, 66, 67, 68, 69, 70, 71, 72, 73, 74, 75, 76, 77, 78, 79, 80, 81] (by decide +kernel) (by decide +kernel)
set_option maxRecDepth 20000 in
theorem gJ0_indexOf_7cf53_J2_indexOf_4cfef : GoodIn wsJ0_indexOf_7cf53 (va_wsS RJ0 640 yJ2_indexOf_4cfef wsJ2_indexOf_4cfef) := goodIn_app (goodIn_of _ (by decide +kernel)) ggJ0_indexOf_7cf53_J2_indexOf_4cfef
theorem dJ0_indexOf_7cf53_0 : decode cJ0_indexOf_7cf53 0 = .ok (.aload_n 0, 1) := by decide +kernel
theorem dJ0_indexOf_7cf53_1 : decode cJ0_indexOf_7cf53 1 = .ok (.invokevirtual 492, 3) := by decide +kernel
theorem dJ0_indexOf_7cf53_4 : decode cJ0_indexOf_7cf53 4 = .ok (.ifCond .eq 19, 3) := by decide +kernel
theorem dJ0_indexOf_7cf53_7 : decode cJ0_indexOf_7cf53 7 = .ok (.aload_n 0, 1) := by decide +kernel
theorem dJ0_indexOf_7cf53_8 : decode cJ0_indexOf_7cf53 8 = .ok (.getfield 9, 3) := by decide +kernel
theorem dJ0_indexOf_7cf53_11 : decode cJ0_indexOf_7cf53 11 = .ok (.iload_n 1, 1) := by decide +kernel
theorem dJ0_indexOf_7cf53_12 : decode cJ0_indexOf_7cf53 12 = .ok (.iload_n 2, 1) := by decide +kernel
theorem dJ0_indexOf_7cf53_13 : decode cJ0_indexOf_7cf53 13 = .ok (.aload_n 0, 1) := by decide +kernel
theorem dJ0_indexOf_7cf53_14 : decode cJ0_indexOf_7cf53 14 = .ok (.invokevirtual 505, 3) := by decide +kernel
theorem dJ0_indexOf_7cf53_17 : decode cJ0_indexOf_7cf53 17 = .ok (.invokestatic 637, 3) := by decide +kernel
theorem dJ0_indexOf_7cf53_20 : decode cJ0_indexOf_7cf53 20 = .ok (.goto 16, 3) := by decide +kernel
theorem dJ0_indexOf_7cf53_23 : decode cJ0_indexOf_7cf53 23 = .ok (.aload_n 0, 1) := by decide +kernel
theorem dJ0_indexOf_7cf53_24 : decode cJ0_indexOf_7cf53 24 = .ok (.getfield 9, 3) := by decide +kernel
theorem dJ0_indexOf_7cf53_27 : decode cJ0_indexOf_7cf53 27 = .ok (.iload_n 1, 1) := by decide +kernel
theorem dJ0_indexOf_7cf53_28 : decode cJ0_indexOf_7cf53 28 = .ok (.iload_n 2, 1) := by decide +kernel
theorem dJ0_indexOf_7cf53_29 : decode cJ0_indexOf_7cf53 29 = .ok (.aload_n 0, 1) := by decide +kernel
theorem dJ0_indexOf_7cf53_30 : decode cJ0_indexOf_7cf53 30 = .ok (.invokevirtual 505, 3) := by decide +kernel
theorem dJ0_indexOf_7cf53_33 : decode cJ0_indexOf_7cf53 33 = .ok (.invokestatic 640, 3) := by decide +kernel
theorem dJ0_indexOf_7cf53_36 : decode cJ0_indexOf_7cf53 36 = .ok (.ireturn, 1) := by decide +kernel
theorem dJ0_coder_7d493_0 : decode cJ0_coder_7d493 0 = .ok (.getstatic 38, 3) := by decide +kernel
theorem dJ0_coder_7d493_3 : decode cJ0_coder_7d493 3 = .ok (.ifCond .eq 10, 3) := by decide +kernel
theorem dJ0_coder_7d493_6 : decode cJ0_coder_7d493 6 = .ok (.aload_n 0, 1) := by decide +kernel
theorem dJ0_coder_7d493_7 : decode cJ0_coder_7d493 7 = .ok (.getfield 15, 3) := by decide +kernel
theorem dJ0_coder_7d493_10 : decode cJ0_coder_7d493 10 = .ok (.goto 4, 3) := by decide +kernel
theorem dJ0_coder_7d493_13 : decode cJ0_coder_7d493 13 = .ok (.iconst 1, 1) := by decide +kernel
theorem dJ0_coder_7d493_14 : decode cJ0_coder_7d493 14 = .ok (.ireturn, 1) := by decide +kernel
theorem dJ0_isLatin1_aae02_0 : decode cJ0_isLatin1_aae02 0 = .ok (.getstatic 38, 3) := by decide +kernel
theorem dJ0_isLatin1_aae02_3 : decode cJ0_isLatin1_aae02 3 = .ok (.ifCond .eq 14, 3) := by decide +kernel
theorem dJ0_isLatin1_aae02_6 : decode cJ0_isLatin1_aae02 6 = .ok (.aload_n 0, 1) := by decide +kernel
theorem dJ0_isLatin1_aae02_7 : decode cJ0_isLatin1_aae02 7 = .ok (.getfield 15, 3) := by decide +kernel
theorem dJ0_isLatin1_aae02_10 : decode cJ0_isLatin1_aae02 10 = .ok (.ifCond .ne 7, 3) := by decide +kernel
theorem dJ0_isLatin1_aae02_13 : decode cJ0_isLatin1_aae02 13 = .ok (.iconst 1, 1) := by decide +kernel
theorem dJ0_isLatin1_aae02_14 : decode cJ0_isLatin1_aae02 14 = .ok (.goto 4, 3) := by decide +kernel
theorem dJ0_isLatin1_aae02_17 : decode cJ0_isLatin1_aae02 17 = .ok (.iconst 0, 1) := by decide +kernel
theorem dJ0_isLatin1_aae02_18 : decode cJ0_isLatin1_aae02 18 = .ok (.ireturn, 1) := by decide +kernel
set_option maxRecDepth 20000 in
theorem ggJ0_checkBoundsBeginEnd_23922_J3_checkFromToIndex_8c36e : GoodIn wsJ0_checkBoundsBeginEnd_23922 wsJ3_checkFromToIndex_8c36e := goodIn_r _ [5] (by decide +kernel) (by decide +kernel)
set_option maxRecDepth 20000 in
theorem gJ0_checkBoundsBeginEnd_23922_J3_checkFromToIndex_8c36e : GoodIn wsJ0_checkBoundsBeginEnd_23922 (va_wsS RJ0 1062 yJ3_checkFromToIndex_8c36e wsJ3_checkFromToIndex_8c36e) := goodIn_app (goodIn_of _ (by decide +kernel)) ggJ0_checkBoundsBeginEnd_23922_J3_checkFromToIndex_8c36e
theorem dJ0_checkBoundsBeginEnd_23922_0 : decode cJ0_checkBoundsBeginEnd_23922 0 = .ok (.iload_n 0, 1) := by decide +kernel
theorem dJ0_checkBoundsBeginEnd_23922_1 : decode cJ0_checkBoundsBeginEnd_23922 1 = .ok (.iload_n 1, 1) := by decide +kernel
theorem dJ0_checkBoundsBeginEnd_23922_2 : decode cJ0_checkBoundsBeginEnd_23922 2 = .ok (.iload_n 2, 1) := by decide +kernel
theorem dJ0_checkBoundsBeginEnd_23922_3 : decode cJ0_checkBoundsBeginEnd_23922 3 = .ok (.getstatic 1053, 3) := by decide +kernel
theorem dJ0_checkBoundsBeginEnd_23922_6 : decode cJ0_checkBoundsBeginEnd_23922 6 = .ok (.invokestatic 1062, 3) := by decide +kernel
theorem dJ0_checkBoundsBeginEnd_23922_9 : decode cJ0_checkBoundsBeginEnd_23922 9 = .ok (.pop, 1) := by decide +kernel
theorem dJ0_checkBoundsBeginEnd_23922_10 : decode cJ0_checkBoundsBeginEnd_23922 10 = .ok (.return_, 1) := by decide +kernel
theorem dJ1_canEncode_9a6ad_0 : decode cJ1_canEncode_9a6ad 0 = .ok (.iload_n 0, 1) := by decide +kernel
theorem dJ1_canEncode_9a6ad_1 : decode cJ1_canEncode_9a6ad 1 = .ok (.ifCond .lt 14, 3) := by decide +kernel
theorem dJ1_canEncode_9a6ad_4 : decode cJ1_canEncode_9a6ad 4 = .ok (.iload_n 0, 1) := by decide +kernel
theorem dJ1_canEncode_9a6ad_5 : decode cJ1_canEncode_9a6ad 5 = .ok (.sipush 255, 3) := by decide +kernel
theorem dJ1_canEncode_9a6ad_8 : decode cJ1_canEncode_9a6ad 8 = .ok (.if_icmp .gt 7, 3) := by decide +kernel
theorem dJ1_canEncode_9a6ad_11 : decode cJ1_canEncode_9a6ad 11 = .ok (.iconst 1, 1) := by decide +kernel
theorem dJ1_canEncode_9a6ad_12 : decode cJ1_canEncode_9a6ad 12 = .ok (.goto 4, 3) := by decide +kernel
theorem dJ1_canEncode_9a6ad_15 : decode cJ1_canEncode_9a6ad 15 = .ok (.iconst 0, 1) := by decide +kernel
theorem dJ1_canEncode_9a6ad_16 : decode cJ1_canEncode_9a6ad 16 = .ok (.ireturn, 1) := by decide +kernel
set_option maxRecDepth 20000 in
theorem ggJ1_indexOf_4cfef_J1_canEncode_9a6ad : GoodIn wsJ1_indexOf_4cfef wsJ1_canEncode_9a6ad := goodIn_r _ [11] (by decide +kernel) (by decide +kernel)
set_option maxRecDepth 20000 in
theorem gJ1_indexOf_4cfef_J1_canEncode_9a6ad : GoodIn wsJ1_indexOf_4cfef (va_wsS RJ1 88 yJ1_canEncode_9a6ad wsJ1_canEncode_9a6ad) := goodIn_app (goodIn_of _ (by decide +kernel)) ggJ1_indexOf_4cfef_J1_canEncode_9a6ad
set_option maxRecDepth 20000 in
theorem ggJ1_indexOf_4cfef_J1_indexOfChar_4cfef : GoodIn wsJ1_indexOf_4cfef wsJ1_indexOfChar_4cfef := goodIn_r _ [14] (by decide +kernel) (by decide +kernel)
set_option maxRecDepth 20000 in
theorem gJ1_indexOf_4cfef_J1_indexOfChar_4cfef : GoodIn wsJ1_indexOf_4cfef (va_wsS RJ1 95 yJ1_indexOfChar_4cfef wsJ1_indexOfChar_4cfef) := goodIn_app (goodIn_of _ (by decide +kernel)) ggJ1_indexOf_4cfef_J1_indexOfChar_4cfef
theorem dJ1_indexOf_4cfef_0 : decode cJ1_indexOf_4cfef 0 = .ok (.iload_n 1, 1) := by decide +kernel
theorem dJ1_indexOf_4cfef_1 : decode cJ1_indexOf_4cfef 1 = .ok (.invokestatic 88, 3) := by decide +kernel
theorem dJ1_indexOf_4cfef_4 : decode cJ1_indexOf_4cfef 4 = .ok (.ifCond .ne 5, 3) := by decide +kernel
theorem dJ1_indexOf_4cfef_7 : decode cJ1_indexOf_4cfef 7 = .ok (.iconst (-1), 1) := by decide +kernel
theorem dJ1_indexOf_4cfef_8 : decode cJ1_indexOf_4cfef 8 = .ok (.ireturn, 1) := by decide +kernel
theorem dJ1_indexOf_4cfef_9 : decode cJ1_indexOf_4cfef 9 = .ok (.iload_n 2, 1) := by decide +kernel
theorem dJ1_indexOf_4cfef_10 : decode cJ1_indexOf_4cfef 10 = .ok (.iconst 0, 1) := by decide +kernel
theorem dJ1_indexOf_4cfef_11 : decode cJ1_indexOf_4cfef 11 = .ok (.invokestatic 92, 3) := by decide +kernel
theorem dJ1_indexOf_4cfef_14 : decode cJ1_indexOf_4cfef 14 = .ok (.istore_n 2, 1) := by decide +kernel
theorem dJ1_indexOf_4cfef_15 : decode cJ1_indexOf_4cfef 15 = .ok (.iload_n 3, 1) := by decide +kernel
theorem dJ1_indexOf_4cfef_16 : decode cJ1_indexOf_4cfef 16 = .ok (.aload_n 0, 1) := by decide +kernel
theorem dJ1_indexOf_4cfef_17 : decode cJ1_indexOf_4cfef 17 = .ok (.arraylength, 1) := by decide +kernel
theorem dJ1_indexOf_4cfef_18 : decode cJ1_indexOf_4cfef 18 = .ok (.invokestatic 38, 3) := by decide +kernel
theorem dJ1_indexOf_4cfef_21 : decode cJ1_indexOf_4cfef 21 = .ok (.istore_n 3, 1) := by decide +kernel
theorem dJ1_indexOf_4cfef_22 : decode cJ1_indexOf_4cfef 22 = .ok (.iload_n 2, 1) := by decide +kernel
theorem dJ1_indexOf_4cfef_23 : decode cJ1_indexOf_4cfef 23 = .ok (.iload_n 3, 1) := by decide +kernel
theorem dJ1_indexOf_4cfef_24 : decode cJ1_indexOf_4cfef 24 = .ok (.if_icmp .lt 5, 3) := by decide +kernel
theorem dJ1_indexOf_4cfef_27 : decode cJ1_indexOf_4cfef 27 = .ok (.iconst (-1), 1) := by decide +kernel
theorem dJ1_indexOf_4cfef_28 : decode cJ1_indexOf_4cfef 28 = .ok (.ireturn, 1) := by decide +kernel
theorem dJ1_indexOf_4cfef_29 : decode cJ1_indexOf_4cfef 29 = .ok (.aload_n 0, 1) := by decide +kernel
theorem dJ1_indexOf_4cfef_30 : decode cJ1_indexOf_4cfef 30 = .ok (.iload_n 1, 1) := by decide +kernel
theorem dJ1_indexOf_4cfef_31 : decode cJ1_indexOf_4cfef 31 = .ok (.iload_n 2, 1) := by decide +kernel
theorem dJ1_indexOf_4cfef_32 : decode cJ1_indexOf_4cfef 32 = .ok (.iload_n 3, 1) := by decide +kernel
theorem dJ1_indexOf_4cfef_33 : decode cJ1_indexOf_4cfef 33 = .ok (.invokestatic 95, 3) := by decide +kernel
theorem dJ1_indexOf_4cfef_36 : decode cJ1_indexOf_4cfef 36 = .ok (.ireturn, 1) := by decide +kernel
theorem dJ1_indexOfChar_4cfef_0 : decode cJ1_indexOfChar_4cfef 0 = .ok (.iload_n 1, 1) := by decide +kernel
theorem dJ1_indexOfChar_4cfef_1 : decode cJ1_indexOfChar_4cfef 1 = .ok (.i2b, 1) := by decide +kernel
theorem dJ1_indexOfChar_4cfef_2 : decode cJ1_indexOfChar_4cfef 2 = .ok (.istore 4, 2) := by decide +kernel
theorem dJ1_indexOfChar_4cfef_4 : decode cJ1_indexOfChar_4cfef 4 = .ok (.iload_n 2, 1) := by decide +kernel
theorem dJ1_indexOfChar_4cfef_5 : decode cJ1_indexOfChar_4cfef 5 = .ok (.istore 5, 2) := by decide +kernel
theorem dJ1_indexOfChar_4cfef_7 : decode cJ1_indexOfChar_4cfef 7 = .ok (.iload 5, 2) := by decide +kernel
theorem dJ1_indexOfChar_4cfef_9 : decode cJ1_indexOfChar_4cfef 9 = .ok (.iload_n 3, 1) := by decide +kernel
theorem dJ1_indexOfChar_4cfef_10 : decode cJ1_indexOfChar_4cfef 10 = .ok (.if_icmp .ge 21, 3) := by decide +kernel
theorem dJ1_indexOfChar_4cfef_13 : decode cJ1_indexOfChar_4cfef 13 = .ok (.aload_n 0, 1) := by decide +kernel
theorem dJ1_indexOfChar_4cfef_14 : decode cJ1_indexOfChar_4cfef 14 = .ok (.iload 5, 2) := by decide +kernel
theorem dJ1_indexOfChar_4cfef_16 : decode cJ1_indexOfChar_4cfef 16 = .ok (.baload, 1) := by decide +kernel
theorem dJ1_indexOfChar_4cfef_17 : decode cJ1_indexOfChar_4cfef 17 = .ok (.iload 4, 2) := by decide +kernel
theorem dJ1_indexOfChar_4cfef_19 : decode cJ1_indexOfChar_4cfef 19 = .ok (.if_icmp .ne 6, 3) := by decide +kernel
theorem dJ1_indexOfChar_4cfef_22 : decode cJ1_indexOfChar_4cfef 22 = .ok (.iload 5, 2) := by decide +kernel
theorem dJ1_indexOfChar_4cfef_24 : decode cJ1_indexOfChar_4cfef 24 = .ok (.ireturn, 1) := by decide +kernel
theorem dJ1_indexOfChar_4cfef_25 : decode cJ1_indexOfChar_4cfef 25 = .ok (.iinc 5 1, 3) := by decide +kernel
theorem dJ1_indexOfChar_4cfef_28 : decode cJ1_indexOfChar_4cfef 28 = .ok (.goto (-21), 3) := by decide +kernel
theorem dJ1_indexOfChar_4cfef_31 : decode cJ1_indexOfChar_4cfef 31 = .ok (.iconst (-1), 1) := by decide +kernel
theorem dJ1_indexOfChar_4cfef_32 : decode cJ1_indexOfChar_4cfef 32 = .ok (.ireturn, 1) := by decide +kernel
set_option maxRecDepth 20000 in
theorem ggJ2_getChar_3b067_J2_length_9d52b : GoodIn wsJ2_getChar_3b067 wsJ2_length_9d52b := goodIn_r _ [7] (by decide +kernel) (by decide +kernel)
set_option maxRecDepth 20000 in
theorem gJ2_getChar_3b067_J2_length_9d52b : GoodIn wsJ2_getChar_3b067 (va_wsS RJ2 48 yJ2_length_9d52b wsJ2_length_9d52b) := goodIn_app (goodIn_of _ (by decide +kernel)) ggJ2_getChar_3b067_J2_length_9d52b
theorem dJ2_getChar_3b067_0 : decode cJ2_getChar_3b067 0 = .ok (.getstatic 44, 3) := by decide +kernel
theorem dJ2_getChar_3b067_3 : decode cJ2_getChar_3b067 3 = .ok (.ifCond .ne 25, 3) := by decide +kernel
theorem dJ2_getChar_3b067_6 : decode cJ2_getChar_3b067 6 = .ok (.iload_n 1, 1) := by decide +kernel
theorem dJ2_getChar_3b067_7 : decode cJ2_getChar_3b067 7 = .ok (.ifCond .lt 11, 3) := by decide +kernel
theorem dJ2_getChar_3b067_10 : decode cJ2_getChar_3b067 10 = .ok (.iload_n 1, 1) := by decide +kernel
theorem dJ2_getChar_3b067_11 : decode cJ2_getChar_3b067 11 = .ok (.aload_n 0, 1) := by decide +kernel
theorem dJ2_getChar_3b067_12 : decode cJ2_getChar_3b067 12 = .ok (.invokestatic 48, 3) := by decide +kernel
theorem dJ2_getChar_3b067_15 : decode cJ2_getChar_3b067 15 = .ok (.if_icmp .lt 13, 3) := by decide +kernel
theorem dJ2_getChar_3b067_18 : decode cJ2_getChar_3b067 18 = .ok (.new 52, 3) := by decide +kernel
theorem dJ2_getChar_3b067_21 : decode cJ2_getChar_3b067 21 = .ok (.dup, 1) := by decide +kernel
theorem dJ2_getChar_3b067_22 : decode cJ2_getChar_3b067 22 = .ok (.ldc 54, 2) := by decide +kernel
theorem dJ2_getChar_3b067_24 : decode cJ2_getChar_3b067 24 = .ok (.invokespecial 56, 3) := by decide +kernel
theorem dJ2_getChar_3b067_27 : decode cJ2_getChar_3b067 27 = .ok (.athrow, 1) := by decide +kernel
theorem dJ2_getChar_3b067_28 : decode cJ2_getChar_3b067 28 = .ok (.iload_n 1, 1) := by decide +kernel
theorem dJ2_getChar_3b067_29 : decode cJ2_getChar_3b067 29 = .ok (.iconst 1, 1) := by decide +kernel
theorem dJ2_getChar_3b067_30 : decode cJ2_getChar_3b067 30 = .ok (.ishl, 1) := by decide +kernel
theorem dJ2_getChar_3b067_31 : decode cJ2_getChar_3b067 31 = .ok (.istore_n 1, 1) := by decide +kernel
theorem dJ2_getChar_3b067_32 : decode cJ2_getChar_3b067 32 = .ok (.aload_n 0, 1) := by decide +kernel
theorem dJ2_getChar_3b067_33 : decode cJ2_getChar_3b067 33 = .ok (.iload_n 1, 1) := by decide +kernel
theorem dJ2_getChar_3b067_34 : decode cJ2_getChar_3b067 34 = .ok (.iinc 1 1, 3) := by decide +kernel
theorem dJ2_getChar_3b067_37 : decode cJ2_getChar_3b067 37 = .ok (.baload, 1) := by decide +kernel
theorem dJ2_getChar_3b067_38 : decode cJ2_getChar_3b067 38 = .ok (.sipush 255, 3) := by decide +kernel
theorem dJ2_getChar_3b067_41 : decode cJ2_getChar_3b067 41 = .ok (.iand, 1) := by decide +kernel
theorem dJ2_getChar_3b067_42 : decode cJ2_getChar_3b067 42 = .ok (.getstatic 59, 3) := by decide +kernel
theorem dJ2_getChar_3b067_45 : decode cJ2_getChar_3b067 45 = .ok (.ishl, 1) := by decide +kernel
theorem dJ2_getChar_3b067_46 : decode cJ2_getChar_3b067 46 = .ok (.aload_n 0, 1) := by decide +kernel
theorem dJ2_getChar_3b067_47 : decode cJ2_getChar_3b067 47 = .ok (.iload_n 1, 1) := by decide +kernel
theorem dJ2_getChar_3b067_48 : decode cJ2_getChar_3b067 48 = .ok (.baload, 1) := by decide +kernel
theorem dJ2_getChar_3b067_49 : decode cJ2_getChar_3b067 49 = .ok (.sipush 255, 3) := by decide +kernel
theorem dJ2_getChar_3b067_52 : decode cJ2_getChar_3b067 52 = .ok (.iand, 1) := by decide +kernel
theorem dJ2_getChar_3b067_53 : decode cJ2_getChar_3b067 53 = .ok (.getstatic 63, 3) := by decide +kernel
theorem dJ2_getChar_3b067_56 : decode cJ2_getChar_3b067 56 = .ok (.ishl, 1) := by decide +kernel
theorem dJ2_getChar_3b067_57 : decode cJ2_getChar_3b067 57 = .ok (.ior, 1) := by decide +kernel
theorem dJ2_getChar_3b067_58 : decode cJ2_getChar_3b067 58 = .ok (.i2c, 1) := by decide +kernel
theorem dJ2_getChar_3b067_59 : decode cJ2_getChar_3b067 59 = .ok (.ireturn, 1) := by decide +kernel
theorem dJ2_length_9d52b_0 : decode cJ2_length_9d52b 0 = .ok (.aload_n 0, 1) := by decide +kernel
theorem dJ2_length_9d52b_1 : decode cJ2_length_9d52b 1 = .ok (.arraylength, 1) := by decide +kernel
theorem dJ2_length_9d52b_2 : decode cJ2_length_9d52b 2 = .ok (.iconst 1, 1) := by decide +kernel
theorem dJ2_length_9d52b_3 : decode cJ2_length_9d52b 3 = .ok (.ishr, 1) := by decide +kernel
theorem dJ2_length_9d52b_4 : decode cJ2_length_9d52b 4 = .ok (.ireturn, 1) := by decide +kernel
set_option maxRecDepth 20000 in
theorem ggJ2_indexOf_4cfef_J2_indexOfChar_4cfef : GoodIn wsJ2_indexOf_4cfef wsJ2_indexOfChar_4cfef := goodIn_r _ [12, 13, 14, 11, 15, 16, 17, 18, 19, 20, 21, 22, 23, 24, 25, 26, 27, 28, 29, 30, 31, 32, 33, 34, 35, 36] (by decide +kernel) (by decide +kernel)
set_option maxRecDepth 20000 in
theorem gJ2_indexOf_4cfef_J2_indexOfChar_4cfef : GoodIn wsJ2_indexOf_4cfef (va_wsS RJ2 228 yJ2_indexOfChar_4cfef wsJ2_indexOfChar_4cfef) := goodIn_app (goodIn_of _ (by decide +kernel)) ggJ2_indexOf_4cfef_J2_indexOfChar_4cfef
set_option maxRecDepth 20000 in
theorem ggJ2_indexOf_4cfef_J2_indexOfSupplementary_4cfef : GoodIn wsJ2_indexOf_4cfef wsJ2_indexOfSupplementary_4cfef := goodIn_r _ [39, 40, 41, 42, 43, 44, 45, 46, 47, 48, 49, 50, 51, 13, 14, 11, 15, 16, 17, 18, 19, 20, 21, 22, 23, 24, 25, 26, 27, 31, 32, 33, 34, 35, 36] (by decide +kernel) (by decide +kernel)
set_option maxRecDepth 20000 in
theorem gJ2_indexOf_4cfef_J2_indexOfSupplementary_4cfef : GoodIn wsJ2_indexOf_4cfef (va_wsS RJ2 232 yJ2_indexOfSupplementary_4cfef wsJ2_indexOfSupplementary_4cfef) := goodIn_app (goodIn_of _ (by decide +kernel)) ggJ2_indexOf_4cfef_J2_indexOfSupplementary_4cfef
theorem dJ2_indexOf_4cfef_0 : decode cJ2_indexOf_4cfef 0 = .ok (.iload_n 2, 1) := by decide +kernel
theorem dJ2_indexOf_4cfef_1 : decode cJ2_indexOf_4cfef 1 = .ok (.iconst 0, 1) := by decide +kernel
theorem dJ2_indexOf_4cfef_2 : decode cJ2_indexOf_4cfef 2 = .ok (.invokestatic 224, 3) := by decide +kernel
theorem dJ2_indexOf_4cfef_5 : decode cJ2_indexOf_4cfef 5 = .ok (.istore_n 2, 1) := by decide +kernel
theorem dJ2_indexOf_4cfef_6 : decode cJ2_indexOf_4cfef 6 = .ok (.iload_n 3, 1) := by decide +kernel
theorem dJ2_indexOf_4cfef_7 : decode cJ2_indexOf_4cfef 7 = .ok (.aload_n 0, 1) := by decide +kernel
theorem dJ2_indexOf_4cfef_8 : decode cJ2_indexOf_4cfef 8 = .ok (.arraylength, 1) := by decide +kernel
theorem dJ2_indexOf_4cfef_9 : decode cJ2_indexOf_4cfef 9 = .ok (.iconst 1, 1) := by decide +kernel
theorem dJ2_indexOf_4cfef_10 : decode cJ2_indexOf_4cfef 10 = .ok (.ishr, 1) := by decide +kernel
theorem dJ2_indexOf_4cfef_11 : decode cJ2_indexOf_4cfef 11 = .ok (.invokestatic 183, 3) := by decide +kernel
theorem dJ2_indexOf_4cfef_14 : decode cJ2_indexOf_4cfef 14 = .ok (.istore_n 3, 1) := by decide +kernel
theorem dJ2_indexOf_4cfef_15 : decode cJ2_indexOf_4cfef 15 = .ok (.iload_n 2, 1) := by decide +kernel
theorem dJ2_indexOf_4cfef_16 : decode cJ2_indexOf_4cfef 16 = .ok (.iload_n 3, 1) := by decide +kernel
theorem dJ2_indexOf_4cfef_17 : decode cJ2_indexOf_4cfef 17 = .ok (.if_icmp .lt 5, 3) := by decide +kernel
theorem dJ2_indexOf_4cfef_20 : decode cJ2_indexOf_4cfef 20 = .ok (.iconst (-1), 1) := by decide +kernel
theorem dJ2_indexOf_4cfef_21 : decode cJ2_indexOf_4cfef 21 = .ok (.ireturn, 1) := by decide +kernel
theorem dJ2_indexOf_4cfef_22 : decode cJ2_indexOf_4cfef 22 = .ok (.iload_n 1, 1) := by decide +kernel
theorem dJ2_indexOf_4cfef_23 : decode cJ2_indexOf_4cfef 23 = .ok (.ldc 227, 2) := by decide +kernel
theorem dJ2_indexOf_4cfef_25 : decode cJ2_indexOf_4cfef 25 = .ok (.if_icmp .ge 11, 3) := by decide +kernel
theorem dJ2_indexOf_4cfef_28 : decode cJ2_indexOf_4cfef 28 = .ok (.aload_n 0, 1) := by decide +kernel
theorem dJ2_indexOf_4cfef_29 : decode cJ2_indexOf_4cfef 29 = .ok (.iload_n 1, 1) := by decide +kernel
theorem dJ2_indexOf_4cfef_30 : decode cJ2_indexOf_4cfef 30 = .ok (.iload_n 2, 1) := by decide +kernel
theorem dJ2_indexOf_4cfef_31 : decode cJ2_indexOf_4cfef 31 = .ok (.iload_n 3, 1) := by decide +kernel
theorem dJ2_indexOf_4cfef_32 : decode cJ2_indexOf_4cfef 32 = .ok (.invokestatic 228, 3) := by decide +kernel
theorem dJ2_indexOf_4cfef_35 : decode cJ2_indexOf_4cfef 35 = .ok (.ireturn, 1) := by decide +kernel
theorem dJ2_indexOf_4cfef_36 : decode cJ2_indexOf_4cfef 36 = .ok (.aload_n 0, 1) := by decide +kernel
theorem dJ2_indexOf_4cfef_37 : decode cJ2_indexOf_4cfef 37 = .ok (.iload_n 1, 1) := by decide +kernel
theorem dJ2_indexOf_4cfef_38 : decode cJ2_indexOf_4cfef 38 = .ok (.iload_n 2, 1) := by decide +kernel
theorem dJ2_indexOf_4cfef_39 : decode cJ2_indexOf_4cfef 39 = .ok (.iload_n 3, 1) := by decide +kernel
theorem dJ2_indexOf_4cfef_40 : decode cJ2_indexOf_4cfef 40 = .ok (.invokestatic 232, 3) := by decide +kernel
theorem dJ2_indexOf_4cfef_43 : decode cJ2_indexOf_4cfef 43 = .ok (.ireturn, 1) := by decide +kernel
set_option maxRecDepth 20000 in
theorem ggJ2_indexOfChar_4cfef_J2_checkBoundsBeginEnd_d044e : GoodIn wsJ2_indexOfChar_4cfef wsJ2_checkBoundsBeginEnd_d044e := goodIn_r _ [4, 5, 6, 3, 7, 8, 9, 10, 11, 12, 13, 14, 15, 16] (by decide +kernel) (by decide +kernel)
set_option maxRecDepth 20000 in
theorem gJ2_indexOfChar_4cfef_J2_checkBoundsBeginEnd_d044e : GoodIn wsJ2_indexOfChar_4cfef (va_wsS RJ2 96 yJ2_checkBoundsBeginEnd_d044e wsJ2_checkBoundsBeginEnd_d044e) := goodIn_app (goodIn_of _ (by decide +kernel)) ggJ2_indexOfChar_4cfef_J2_checkBoundsBeginEnd_d044e
set_option maxRecDepth 20000 in
theorem ggJ2_indexOfChar_4cfef_J2_indexOfCharUnsafe_4cfef : GoodIn wsJ2_indexOfChar_4cfef wsJ2_indexOfCharUnsafe_4cfef := goodIn_r _ [19, 20, 21, 3, 22, 23, 24, 25, 5, 6, 7] (by decide +kernel) (by decide +kernel)
set_option maxRecDepth 20000 in
theorem gJ2_indexOfChar_4cfef_J2_indexOfCharUnsafe_4cfef : GoodIn wsJ2_indexOfChar_4cfef (va_wsS RJ2 244 yJ2_indexOfCharUnsafe_4cfef wsJ2_indexOfCharUnsafe_4cfef) := goodIn_app (goodIn_of _ (by decide +kernel)) ggJ2_indexOfChar_4cfef_J2_indexOfCharUnsafe_4cfef
theorem dJ2_indexOfChar_4cfef_0 : decode cJ2_indexOfChar_4cfef 0 = .ok (.iload_n 2, 1) := by decide +kernel
theorem dJ2_indexOfChar_4cfef_1 : decode cJ2_indexOfChar_4cfef 1 = .ok (.iload_n 3, 1) := by decide +kernel
theorem dJ2_indexOfChar_4cfef_2 : decode cJ2_indexOfChar_4cfef 2 = .ok (.aload_n 0, 1) := by decide +kernel
theorem dJ2_indexOfChar_4cfef_3 : decode cJ2_indexOfChar_4cfef 3 = .ok (.invokestatic 96, 3) := by decide +kernel
theorem dJ2_indexOfChar_4cfef_6 : decode cJ2_indexOfChar_4cfef 6 = .ok (.aload_n 0, 1) := by decide +kernel
theorem dJ2_indexOfChar_4cfef_7 : decode cJ2_indexOfChar_4cfef 7 = .ok (.iload_n 1, 1) := by decide +kernel
theorem dJ2_indexOfChar_4cfef_8 : decode cJ2_indexOfChar_4cfef 8 = .ok (.iload_n 2, 1) := by decide +kernel
theorem dJ2_indexOfChar_4cfef_9 : decode cJ2_indexOfChar_4cfef 9 = .ok (.iload_n 3, 1) := by decide +kernel
theorem dJ2_indexOfChar_4cfef_10 : decode cJ2_indexOfChar_4cfef 10 = .ok (.invokestatic 244, 3) := by decide +kernel
theorem dJ2_indexOfChar_4cfef_13 : decode cJ2_indexOfChar_4cfef 13 = .ok (.ireturn, 1) := by decide +kernel
set_option maxRecDepth 20000 in
theorem ggJ2_indexOfCharUnsafe_4cfef_J2_getChar_3b067 : GoodIn wsJ2_indexOfCharUnsafe_4cfef wsJ2_getChar_3b067 := goodIn_r _ [4, 5, 6, 7, 8, 9, 3, 10] (by decide +kernel) (by decide +kernel)
set_option maxRecDepth 20000 in
theorem gJ2_indexOfCharUnsafe_4cfef_J2_getChar_3b067 : GoodIn wsJ2_indexOfCharUnsafe_4cfef (va_wsS RJ2 71 yJ2_getChar_3b067 wsJ2_getChar_3b067) := goodIn_app (goodIn_of _ (by decide +kernel)) ggJ2_indexOfCharUnsafe_4cfef_J2_getChar_3b067
theorem dJ2_indexOfCharUnsafe_4cfef_0 : decode cJ2_indexOfCharUnsafe_4cfef 0 = .ok (.iload_n 2, 1) := by decide +kernel
theorem dJ2_indexOfCharUnsafe_4cfef_1 : decode cJ2_indexOfCharUnsafe_4cfef 1 = .ok (.istore 4, 2) := by decide +kernel
theorem dJ2_indexOfCharUnsafe_4cfef_3 : decode cJ2_indexOfCharUnsafe_4cfef 3 = .ok (.iload 4, 2) := by decide +kernel
theorem dJ2_indexOfCharUnsafe_4cfef_5 : decode cJ2_indexOfCharUnsafe_4cfef 5 = .ok (.iload_n 3, 1) := by decide +kernel
theorem dJ2_indexOfCharUnsafe_4cfef_6 : decode cJ2_indexOfCharUnsafe_4cfef 6 = .ok (.if_icmp .ge 22, 3) := by decide +kernel
theorem dJ2_indexOfCharUnsafe_4cfef_9 : decode cJ2_indexOfCharUnsafe_4cfef 9 = .ok (.aload_n 0, 1) := by decide +kernel
theorem dJ2_indexOfCharUnsafe_4cfef_10 : decode cJ2_indexOfCharUnsafe_4cfef 10 = .ok (.iload 4, 2) := by decide +kernel
theorem dJ2_indexOfCharUnsafe_4cfef_12 : decode cJ2_indexOfCharUnsafe_4cfef 12 = .ok (.invokestatic 71, 3) := by decide +kernel
theorem dJ2_indexOfCharUnsafe_4cfef_15 : decode cJ2_indexOfCharUnsafe_4cfef 15 = .ok (.iload_n 1, 1) := by decide +kernel
theorem dJ2_indexOfCharUnsafe_4cfef_16 : decode cJ2_indexOfCharUnsafe_4cfef 16 = .ok (.if_icmp .ne 6, 3) := by decide +kernel
theorem dJ2_indexOfCharUnsafe_4cfef_19 : decode cJ2_indexOfCharUnsafe_4cfef 19 = .ok (.iload 4, 2) := by decide +kernel
theorem dJ2_indexOfCharUnsafe_4cfef_21 : decode cJ2_indexOfCharUnsafe_4cfef 21 = .ok (.ireturn, 1) := by decide +kernel
theorem dJ2_indexOfCharUnsafe_4cfef_22 : decode cJ2_indexOfCharUnsafe_4cfef 22 = .ok (.iinc 4 1, 3) := by decide +kernel
theorem dJ2_indexOfCharUnsafe_4cfef_25 : decode cJ2_indexOfCharUnsafe_4cfef 25 = .ok (.goto (-22), 3) := by decide +kernel
theorem dJ2_indexOfCharUnsafe_4cfef_28 : decode cJ2_indexOfCharUnsafe_4cfef 28 = .ok (.iconst (-1), 1) := by decide +kernel
theorem dJ2_indexOfCharUnsafe_4cfef_29 : decode cJ2_indexOfCharUnsafe_4cfef 29 = .ok (.ireturn, 1) := by decide +kernel
set_option maxRecDepth 20000 in
theorem ggJ2_indexOfSupplementary_4cfef_J11_isValidCodePoint_9a6ad : GoodIn wsJ2_indexOfSupplementary_4cfef wsJ11_isValidCodePoint_9a6ad := goodIn_r _ [4] (by decide +kernel) (by decide +kernel)
set_option maxRecDepth 20000 in
theorem gJ2_indexOfSupplementary_4cfef_J11_isValidCodePoint_9a6ad : GoodIn wsJ2_indexOfSupplementary_4cfef (va_wsS RJ2 164 yJ11_isValidCodePoint_9a6ad wsJ11_isValidCodePoint_9a6ad) := goodIn_app (goodIn_of _ (by decide +kernel)) ggJ2_indexOfSupplementary_4cfef_J11_isValidCodePoint_9a6ad
set_option maxRecDepth 20000 in
theorem ggJ2_indexOfSupplementary_4cfef_J11_highSurrogate_5068e : GoodIn wsJ2_indexOfSupplementary_4cfef wsJ11_highSurrogate_5068e := goodIn_r _ [7, 8] (by decide +kernel) (by decide +kernel)
set_option maxRecDepth 20000 in
theorem gJ2_indexOfSupplementary_4cfef_J11_highSurrogate_5068e : GoodIn wsJ2_indexOfSupplementary_4cfef (va_wsS RJ2 157 yJ11_highSurrogate_5068e wsJ11_highSurrogate_5068e) := goodIn_app (goodIn_of _ (by decide +kernel)) ggJ2_indexOfSupplementary_4cfef_J11_highSurrogate_5068e
set_option maxRecDepth 20000 in
theorem ggJ2_indexOfSupplementary_4cfef_J11_lowSurrogate_5068e : GoodIn wsJ2_indexOfSupplementary_4cfef wsJ11_lowSurrogate_5068e := goodIn_r _ [11, 12] (by decide +kernel) (by decide +kernel)
set_option maxRecDepth 20000 in
theorem gJ2_indexOfSupplementary_4cfef_J11_lowSurrogate_5068e : GoodIn wsJ2_indexOfSupplementary_4cfef (va_wsS RJ2 161 yJ11_lowSurrogate_5068e wsJ11_lowSurrogate_5068e) := goodIn_app (goodIn_of _ (by decide +kernel)) ggJ2_indexOfSupplementary_4cfef_J11_lowSurrogate_5068e
set_option maxRecDepth 20000 in
theorem ggJ2_indexOfSupplementary_4cfef_J2_checkBoundsBeginEnd_d044e : GoodIn wsJ2_indexOfSupplementary_4cfef wsJ2_checkBoundsBeginEnd_d044e := goodIn_r _ [16, 17, 18, 15, 19, 20, 21, 22, 23, 24, 25, 26, 27, 28] (by decide +kernel) (by decide +kernel)
set_option maxRecDepth 20000 in
theorem gJ2_indexOfSupplementary_4cfef_J2_checkBoundsBeginEnd_d044e : GoodIn wsJ2_indexOfSupplementary_4cfef (va_wsS RJ2 96 yJ2_checkBoundsBeginEnd_d044e wsJ2_checkBoundsBeginEnd_d044e) := goodIn_app (goodIn_of _ (by decide +kernel)) ggJ2_indexOfSupplementary_4cfef_J2_checkBoundsBeginEnd_d044e
set_option maxRecDepth 20000 in
theorem ggJ2_indexOfSupplementary_4cfef_J2_getChar_3b067 : GoodIn wsJ2_indexOfSupplementary_4cfef wsJ2_getChar_3b067 := goodIn_r _ [31, 32, 33, 34, 17, 18, 15, 19] (by decide +kernel) (by decide +kernel)
set_option maxRecDepth 20000 in
theorem gJ2_indexOfSupplementary_4cfef_J2_getChar_3b067 : GoodIn wsJ2_indexOfSupplementary_4cfef (va_wsS RJ2 71 yJ2_getChar_3b067 wsJ2_getChar_3b067) := goodIn_app (goodIn_of _ (by decide +kernel)) ggJ2_indexOfSupplementary_4cfef_J2_getChar_3b067
theorem dJ2_indexOfSupplementary_4cfef_0 : decode cJ2_indexOfSupplementary_4cfef 0 = .ok (.iload_n 1, 1) := by decide +kernel
theorem dJ2_indexOfSupplementary_4cfef_1 : decode cJ2_indexOfSupplementary_4cfef 1 = .ok (.invokestatic 164, 3) := by decide +kernel
theorem dJ2_indexOfSupplementary_4cfef_4 : decode cJ2_indexOfSupplementary_4cfef 4 = .ok (.ifCond .eq 65, 3) := by decide +kernel
theorem dJ2_indexOfSupplementary_4cfef_7 : decode cJ2_indexOfSupplementary_4cfef 7 = .ok (.iload_n 1, 1) := by decide +kernel
theorem dJ2_indexOfSupplementary_4cfef_8 : decode cJ2_indexOfSupplementary_4cfef 8 = .ok (.invokestatic 157, 3) := by decide +kernel
theorem dJ2_indexOfSupplementary_4cfef_11 : decode cJ2_indexOfSupplementary_4cfef 11 = .ok (.istore 4, 2) := by decide +kernel
theorem dJ2_indexOfSupplementary_4cfef_13 : decode cJ2_indexOfSupplementary_4cfef 13 = .ok (.iload_n 1, 1) := by decide +kernel
theorem dJ2_indexOfSupplementary_4cfef_14 : decode cJ2_indexOfSupplementary_4cfef 14 = .ok (.invokestatic 161, 3) := by decide +kernel
theorem dJ2_indexOfSupplementary_4cfef_17 : decode cJ2_indexOfSupplementary_4cfef 17 = .ok (.istore 5, 2) := by decide +kernel
theorem dJ2_indexOfSupplementary_4cfef_19 : decode cJ2_indexOfSupplementary_4cfef 19 = .ok (.iload_n 2, 1) := by decide +kernel
theorem dJ2_indexOfSupplementary_4cfef_20 : decode cJ2_indexOfSupplementary_4cfef 20 = .ok (.iload_n 3, 1) := by decide +kernel
theorem dJ2_indexOfSupplementary_4cfef_21 : decode cJ2_indexOfSupplementary_4cfef 21 = .ok (.aload_n 0, 1) := by decide +kernel
theorem dJ2_indexOfSupplementary_4cfef_22 : decode cJ2_indexOfSupplementary_4cfef 22 = .ok (.invokestatic 96, 3) := by decide +kernel
theorem dJ2_indexOfSupplementary_4cfef_25 : decode cJ2_indexOfSupplementary_4cfef 25 = .ok (.iload_n 2, 1) := by decide +kernel
theorem dJ2_indexOfSupplementary_4cfef_26 : decode cJ2_indexOfSupplementary_4cfef 26 = .ok (.istore 6, 2) := by decide +kernel
theorem dJ2_indexOfSupplementary_4cfef_28 : decode cJ2_indexOfSupplementary_4cfef 28 = .ok (.iload 6, 2) := by decide +kernel
theorem dJ2_indexOfSupplementary_4cfef_30 : decode cJ2_indexOfSupplementary_4cfef 30 = .ok (.iload_n 3, 1) := by decide +kernel
theorem dJ2_indexOfSupplementary_4cfef_31 : decode cJ2_indexOfSupplementary_4cfef 31 = .ok (.iconst 1, 1) := by decide +kernel
theorem dJ2_indexOfSupplementary_4cfef_32 : decode cJ2_indexOfSupplementary_4cfef 32 = .ok (.isub, 1) := by decide +kernel
theorem dJ2_indexOfSupplementary_4cfef_33 : decode cJ2_indexOfSupplementary_4cfef 33 = .ok (.if_icmp .ge 36, 3) := by decide +kernel
theorem dJ2_indexOfSupplementary_4cfef_36 : decode cJ2_indexOfSupplementary_4cfef 36 = .ok (.aload_n 0, 1) := by decide +kernel
theorem dJ2_indexOfSupplementary_4cfef_37 : decode cJ2_indexOfSupplementary_4cfef 37 = .ok (.iload 6, 2) := by decide +kernel
theorem dJ2_indexOfSupplementary_4cfef_39 : decode cJ2_indexOfSupplementary_4cfef 39 = .ok (.invokestatic 71, 3) := by decide +kernel
theorem dJ2_indexOfSupplementary_4cfef_42 : decode cJ2_indexOfSupplementary_4cfef 42 = .ok (.iload 4, 2) := by decide +kernel
theorem dJ2_indexOfSupplementary_4cfef_44 : decode cJ2_indexOfSupplementary_4cfef 44 = .ok (.if_icmp .ne 19, 3) := by decide +kernel
theorem dJ2_indexOfSupplementary_4cfef_47 : decode cJ2_indexOfSupplementary_4cfef 47 = .ok (.aload_n 0, 1) := by decide +kernel
theorem dJ2_indexOfSupplementary_4cfef_48 : decode cJ2_indexOfSupplementary_4cfef 48 = .ok (.iload 6, 2) := by decide +kernel
theorem dJ2_indexOfSupplementary_4cfef_50 : decode cJ2_indexOfSupplementary_4cfef 50 = .ok (.iconst 1, 1) := by decide +kernel
theorem dJ2_indexOfSupplementary_4cfef_51 : decode cJ2_indexOfSupplementary_4cfef 51 = .ok (.iadd, 1) := by decide +kernel
theorem dJ2_indexOfSupplementary_4cfef_52 : decode cJ2_indexOfSupplementary_4cfef 52 = .ok (.invokestatic 71, 3) := by decide +kernel
theorem dJ2_indexOfSupplementary_4cfef_55 : decode cJ2_indexOfSupplementary_4cfef 55 = .ok (.iload 5, 2) := by decide +kernel
theorem dJ2_indexOfSupplementary_4cfef_57 : decode cJ2_indexOfSupplementary_4cfef 57 = .ok (.if_icmp .ne 6, 3) := by decide +kernel
theorem dJ2_indexOfSupplementary_4cfef_60 : decode cJ2_indexOfSupplementary_4cfef 60 = .ok (.iload 6, 2) := by decide +kernel
theorem dJ2_indexOfSupplementary_4cfef_62 : decode cJ2_indexOfSupplementary_4cfef 62 = .ok (.ireturn, 1) := by decide +kernel
theorem dJ2_indexOfSupplementary_4cfef_63 : decode cJ2_indexOfSupplementary_4cfef 63 = .ok (.iinc 6 1, 3) := by decide +kernel
theorem dJ2_indexOfSupplementary_4cfef_66 : decode cJ2_indexOfSupplementary_4cfef 66 = .ok (.goto (-38), 3) := by decide +kernel
theorem dJ2_indexOfSupplementary_4cfef_69 : decode cJ2_indexOfSupplementary_4cfef 69 = .ok (.iconst (-1), 1) := by decide +kernel
theorem dJ2_indexOfSupplementary_4cfef_70 : decode cJ2_indexOfSupplementary_4cfef 70 = .ok (.ireturn, 1) := by decide +kernel
set_option maxRecDepth 20000 in
theorem ggJ2_checkBoundsBeginEnd_d044e_J2_length_9d52b : GoodIn wsJ2_checkBoundsBeginEnd_d044e wsJ2_length_9d52b := goodIn_r _ [4] (by decide +kernel) (by decide +kernel)
set_option maxRecDepth 20000 in
theorem gJ2_checkBoundsBeginEnd_d044e_J2_length_9d52b : GoodIn wsJ2_checkBoundsBeginEnd_d044e (va_wsS RJ2 48 yJ2_length_9d52b wsJ2_length_9d52b) := goodIn_app (goodIn_of _ (by decide +kernel)) ggJ2_checkBoundsBeginEnd_d044e_J2_length_9d52b
set_option maxRecDepth 20000 in
theorem ggJ2_checkBoundsBeginEnd_d044e_J0_checkBoundsBeginEnd_23922 : GoodIn wsJ2_checkBoundsBeginEnd_d044e wsJ0_checkBoundsBeginEnd_23922 := goodIn_r _ [8, 9, 10, 11, 12, 13] (by decide +kernel) (by decide +kernel)
set_option maxRecDepth 20000 in
theorem gJ2_checkBoundsBeginEnd_d044e_J0_checkBoundsBeginEnd_23922 : GoodIn wsJ2_checkBoundsBeginEnd_d044e (va_wsS RJ2 241 yJ0_checkBoundsBeginEnd_23922 wsJ0_checkBoundsBeginEnd_23922) := goodIn_app (goodIn_of _ (by decide +kernel)) ggJ2_checkBoundsBeginEnd_d044e_J0_checkBoundsBeginEnd_23922
theorem dJ2_checkBoundsBeginEnd_d044e_0 : decode cJ2_checkBoundsBeginEnd_d044e 0 = .ok (.iload_n 0, 1) := by decide +kernel
theorem dJ2_checkBoundsBeginEnd_d044e_1 : decode cJ2_checkBoundsBeginEnd_d044e 1 = .ok (.iload_n 1, 1) := by decide +kernel
theorem dJ2_checkBoundsBeginEnd_d044e_2 : decode cJ2_checkBoundsBeginEnd_d044e 2 = .ok (.aload_n 2, 1) := by decide +kernel
theorem dJ2_checkBoundsBeginEnd_d044e_3 : decode cJ2_checkBoundsBeginEnd_d044e 3 = .ok (.invokestatic 48, 3) := by decide +kernel
theorem dJ2_checkBoundsBeginEnd_d044e_6 : decode cJ2_checkBoundsBeginEnd_d044e 6 = .ok (.invokestatic 241, 3) := by decide +kernel
theorem dJ2_checkBoundsBeginEnd_d044e_9 : decode cJ2_checkBoundsBeginEnd_d044e 9 = .ok (.return_, 1) := by decide +kernel
theorem dJ3_checkFromToIndex_8c36e_0 : decode cJ3_checkFromToIndex_8c36e 0 = .ok (.iload_n 0, 1) := by decide +kernel
theorem dJ3_checkFromToIndex_8c36e_1 : decode cJ3_checkFromToIndex_8c36e 1 = .ok (.ifCond .lt 13, 3) := by decide +kernel
theorem dJ3_checkFromToIndex_8c36e_4 : decode cJ3_checkFromToIndex_8c36e 4 = .ok (.iload_n 0, 1) := by decide +kernel
theorem dJ3_checkFromToIndex_8c36e_5 : decode cJ3_checkFromToIndex_8c36e 5 = .ok (.iload_n 1, 1) := by decide +kernel
theorem dJ3_checkFromToIndex_8c36e_6 : decode cJ3_checkFromToIndex_8c36e 6 = .ok (.if_icmp .gt 8, 3) := by decide +kernel
theorem dJ3_checkFromToIndex_8c36e_9 : decode cJ3_checkFromToIndex_8c36e 9 = .ok (.iload_n 1, 1) := by decide +kernel
theorem dJ3_checkFromToIndex_8c36e_10 : decode cJ3_checkFromToIndex_8c36e 10 = .ok (.iload_n 2, 1) := by decide +kernel
theorem dJ3_checkFromToIndex_8c36e_11 : decode cJ3_checkFromToIndex_8c36e 11 = .ok (.if_icmp .le 11, 3) := by decide +kernel
theorem dJ3_checkFromToIndex_8c36e_14 : decode cJ3_checkFromToIndex_8c36e 14 = .ok (.aload_n 3, 1) := by decide +kernel
theorem dJ3_checkFromToIndex_8c36e_15 : decode cJ3_checkFromToIndex_8c36e 15 = .ok (.iload_n 0, 1) := by decide +kernel
theorem dJ3_checkFromToIndex_8c36e_16 : decode cJ3_checkFromToIndex_8c36e 16 = .ok (.iload_n 1, 1) := by decide +kernel
theorem dJ3_checkFromToIndex_8c36e_17 : decode cJ3_checkFromToIndex_8c36e 17 = .ok (.iload_n 2, 1) := by decide +kernel
theorem dJ3_checkFromToIndex_8c36e_18 : decode cJ3_checkFromToIndex_8c36e 18 = .ok (.invokestatic 99, 3) := by decide +kernel
theorem dJ3_checkFromToIndex_8c36e_21 : decode cJ3_checkFromToIndex_8c36e 21 = .ok (.athrow, 1) := by decide +kernel
theorem dJ3_checkFromToIndex_8c36e_22 : decode cJ3_checkFromToIndex_8c36e 22 = .ok (.iload_n 0, 1) := by decide +kernel
theorem dJ3_checkFromToIndex_8c36e_23 : decode cJ3_checkFromToIndex_8c36e 23 = .ok (.ireturn, 1) := by decide +kernel
