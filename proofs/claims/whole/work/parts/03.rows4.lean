theorem dX7_bestCost_70 : decode cX7_bestCost 70 = .ok (.iload_n 3, 1) := by decide +kernel
theorem dX7_bestCost_71 : decode cX7_bestCost 71 = .ok (.aload_n 0, 1) := by decide +kernel
theorem dX7_bestCost_72 : decode cX7_bestCost 72 = .ok (.getfield 135, 3) := by decide +kernel
theorem dX7_bestCost_75 : decode cX7_bestCost 75 = .ok (.if_icmp .ge 26, 3) := by decide +kernel
theorem dX7_bestCost_78 : decode cX7_bestCost 78 = .ok (.aload_n 0, 1) := by decide +kernel
theorem dX7_bestCost_79 : decode cX7_bestCost 79 = .ok (.getfield 47, 3) := by decide +kernel
theorem dX7_bestCost_82 : decode cX7_bestCost 82 = .ok (.bipush 24, 2) := by decide +kernel
theorem dX7_bestCost_84 : decode cX7_bestCost 84 = .ok (.iload_n 1, 1) := by decide +kernel
theorem dX7_bestCost_85 : decode cX7_bestCost 85 = .ok (.imul, 1) := by decide +kernel
theorem dX7_bestCost_86 : decode cX7_bestCost 86 = .ok (.iload_n 3, 1) := by decide +kernel
theorem dX7_bestCost_87 : decode cX7_bestCost 87 = .ok (.iadd, 1) := by decide +kernel
theorem dX7_bestCost_88 : decode cX7_bestCost 88 = .ok (.aload_n 0, 1) := by decide +kernel
theorem dX7_bestCost_89 : decode cX7_bestCost 89 = .ok (.iload_n 1, 1) := by decide +kernel
theorem dX7_bestCost_90 : decode cX7_bestCost 90 = .ok (.iload_n 3, 1) := by decide +kernel
theorem dX7_bestCost_91 : decode cX7_bestCost 91 = .ok (.invokevirtual 142, 3) := by decide +kernel
theorem dX7_bestCost_94 : decode cX7_bestCost 94 = .ok (.iastore, 1) := by decide +kernel
theorem dX7_bestCost_95 : decode cX7_bestCost 95 = .ok (.iinc 3 1, 3) := by decide +kernel
theorem dX7_bestCost_98 : decode cX7_bestCost 98 = .ok (.goto (-28), 3) := by decide +kernel
theorem dX7_bestCost_101 : decode cX7_bestCost 101 = .ok (.iinc 1 1, 3) := by decide +kernel
theorem dX7_bestCost_104 : decode cX7_bestCost 104 = .ok (.goto (-102), 3) := by decide +kernel
theorem dX7_bestCost_107 : decode cX7_bestCost 107 = .ok (.iconst 0, 1) := by decide +kernel
theorem dX7_bestCost_108 : decode cX7_bestCost 108 = .ok (.istore_n 1, 1) := by decide +kernel
theorem dX7_bestCost_109 : decode cX7_bestCost 109 = .ok (.iload_n 1, 1) := by decide +kernel
theorem dX7_bestCost_110 : decode cX7_bestCost 110 = .ok (.aload_n 0, 1) := by decide +kernel
theorem dX7_bestCost_111 : decode cX7_bestCost 111 = .ok (.getfield 50, 3) := by decide +kernel
theorem dX7_bestCost_114 : decode cX7_bestCost 114 = .ok (.if_icmp .ge 210, 3) := by decide +kernel
theorem dX7_bestCost_117 : decode cX7_bestCost 117 = .ok (.iconst 0, 1) := by decide +kernel
theorem dX7_bestCost_118 : decode cX7_bestCost 118 = .ok (.istore_n 2, 1) := by decide +kernel
theorem dX7_bestCost_119 : decode cX7_bestCost 119 = .ok (.iload_n 2, 1) := by decide +kernel
theorem dX7_bestCost_120 : decode cX7_bestCost 120 = .ok (.aload_n 0, 1) := by decide +kernel
theorem dX7_bestCost_121 : decode cX7_bestCost 121 = .ok (.getfield 135, 3) := by decide +kernel
theorem dX7_bestCost_124 : decode cX7_bestCost 124 = .ok (.if_icmp .ge 103, 3) := by decide +kernel
theorem dX7_bestCost_127 : decode cX7_bestCost 127 = .ok (.aload_n 0, 1) := by decide +kernel
theorem dX7_bestCost_128 : decode cX7_bestCost 128 = .ok (.getfield 44, 3) := by decide +kernel
theorem dX7_bestCost_131 : decode cX7_bestCost 131 = .ok (.iload_n 2, 1) := by decide +kernel
theorem dX7_bestCost_132 : decode cX7_bestCost 132 = .ok (.ldc 141, 2) := by decide +kernel
theorem dX7_bestCost_134 : decode cX7_bestCost 134 = .ok (.iastore, 1) := by decide +kernel
theorem dX7_bestCost_135 : decode cX7_bestCost 135 = .ok (.iconst 0, 1) := by decide +kernel
theorem dX7_bestCost_136 : decode cX7_bestCost 136 = .ok (.istore_n 3, 1) := by decide +kernel
theorem dX7_bestCost_137 : decode cX7_bestCost 137 = .ok (.iload_n 3, 1) := by decide +kernel
theorem dX7_bestCost_138 : decode cX7_bestCost 138 = .ok (.aload_n 0, 1) := by decide +kernel
theorem dX7_bestCost_139 : decode cX7_bestCost 139 = .ok (.getfield 135, 3) := by decide +kernel
theorem dX7_bestCost_142 : decode cX7_bestCost 142 = .ok (.if_icmp .ge 57, 3) := by decide +kernel
theorem dX7_bestCost_145 : decode cX7_bestCost 145 = .ok (.aload_n 0, 1) := by decide +kernel
theorem dX7_bestCost_146 : decode cX7_bestCost 146 = .ok (.getfield 41, 3) := by decide +kernel
theorem dX7_bestCost_149 : decode cX7_bestCost 149 = .ok (.iload_n 3, 1) := by decide +kernel
theorem dX7_bestCost_150 : decode cX7_bestCost 150 = .ok (.iaload, 1) := by decide +kernel
theorem dX7_bestCost_151 : decode cX7_bestCost 151 = .ok (.aload_n 0, 1) := by decide +kernel
theorem dX7_bestCost_152 : decode cX7_bestCost 152 = .ok (.getfield 47, 3) := by decide +kernel
theorem dX7_bestCost_155 : decode cX7_bestCost 155 = .ok (.bipush 24, 2) := by decide +kernel
theorem dX7_bestCost_157 : decode cX7_bestCost 157 = .ok (.iload_n 3, 1) := by decide +kernel
theorem dX7_bestCost_158 : decode cX7_bestCost 158 = .ok (.imul, 1) := by decide +kernel
theorem dX7_bestCost_159 : decode cX7_bestCost 159 = .ok (.iload_n 2, 1) := by decide +kernel
theorem dX7_bestCost_160 : decode cX7_bestCost 160 = .ok (.iadd, 1) := by decide +kernel
theorem dX7_bestCost_161 : decode cX7_bestCost 161 = .ok (.iaload, 1) := by decide +kernel
theorem dX7_bestCost_162 : decode cX7_bestCost 162 = .ok (.iadd, 1) := by decide +kernel
theorem dX7_bestCost_163 : decode cX7_bestCost 163 = .ok (.istore 4, 2) := by decide +kernel
theorem dX7_bestCost_165 : decode cX7_bestCost 165 = .ok (.aload_n 0, 1) := by decide +kernel
theorem dX7_bestCost_166 : decode cX7_bestCost 166 = .ok (.getfield 44, 3) := by decide +kernel
theorem dX7_bestCost_169 : decode cX7_bestCost 169 = .ok (.iload_n 2, 1) := by decide +kernel
theorem dX7_bestCost_170 : decode cX7_bestCost 170 = .ok (.iload 4, 2) := by decide +kernel
theorem dX7_bestCost_172 : decode cX7_bestCost 172 = .ok (.aload_n 0, 1) := by decide +kernel
theorem dX7_bestCost_173 : decode cX7_bestCost 173 = .ok (.getfield 44, 3) := by decide +kernel
theorem dX7_bestCost_176 : decode cX7_bestCost 176 = .ok (.iload_n 2, 1) := by decide +kernel
theorem dX7_bestCost_177 : decode cX7_bestCost 177 = .ok (.iaload, 1) := by decide +kernel
theorem dX7_bestCost_178 : decode cX7_bestCost 178 = .ok (.if_icmp .ge 8, 3) := by decide +kernel
theorem dX7_bestCost_181 : decode cX7_bestCost 181 = .ok (.iload 4, 2) := by decide +kernel
theorem dX7_bestCost_183 : decode cX7_bestCost 183 = .ok (.goto 9, 3) := by decide +kernel
theorem dX7_bestCost_186 : decode cX7_bestCost 186 = .ok (.aload_n 0, 1) := by decide +kernel
theorem dX7_bestCost_187 : decode cX7_bestCost 187 = .ok (.getfield 44, 3) := by decide +kernel
theorem dX7_bestCost_190 : decode cX7_bestCost 190 = .ok (.iload_n 2, 1) := by decide +kernel
theorem dX7_bestCost_191 : decode cX7_bestCost 191 = .ok (.iaload, 1) := by decide +kernel
theorem dX7_bestCost_192 : decode cX7_bestCost 192 = .ok (.iastore, 1) := by decide +kernel
theorem dX7_bestCost_193 : decode cX7_bestCost 193 = .ok (.iinc 3 1, 3) := by decide +kernel
theorem dX7_bestCost_196 : decode cX7_bestCost 196 = .ok (.goto (-59), 3) := by decide +kernel
theorem dX7_bestCost_199 : decode cX7_bestCost 199 = .ok (.aload_n 0, 1) := by decide +kernel
theorem dX7_bestCost_200 : decode cX7_bestCost 200 = .ok (.getfield 44, 3) := by decide +kernel
theorem dX7_bestCost_203 : decode cX7_bestCost 203 = .ok (.iload_n 2, 1) := by decide +kernel
theorem dX7_bestCost_204 : decode cX7_bestCost 204 = .ok (.dup2, 1) := by decide +kernel
theorem dX7_bestCost_205 : decode cX7_bestCost 205 = .ok (.iaload, 1) := by decide +kernel
theorem dX7_bestCost_206 : decode cX7_bestCost 206 = .ok (.aload_n 0, 1) := by decide +kernel
theorem dX7_bestCost_207 : decode cX7_bestCost 207 = .ok (.iload_n 2, 1) := by decide +kernel
theorem dX7_bestCost_208 : decode cX7_bestCost 208 = .ok (.aload_n 0, 1) := by decide +kernel
theorem dX7_bestCost_209 : decode cX7_bestCost 209 = .ok (.getfield 32, 3) := by decide +kernel
theorem dX7_bestCost_212 : decode cX7_bestCost 212 = .ok (.iload_n 1, 1) := by decide +kernel
theorem dX7_bestCost_213 : decode cX7_bestCost 213 = .ok (.iaload, 1) := by decide +kernel
theorem dX7_bestCost_214 : decode cX7_bestCost 214 = .ok (.invokevirtual 138, 3) := by decide +kernel
theorem dX7_bestCost_217 : decode cX7_bestCost 217 = .ok (.iconst 1, 1) := by decide +kernel
theorem dX7_bestCost_218 : decode cX7_bestCost 218 = .ok (.iadd, 1) := by decide +kernel
theorem dX7_bestCost_219 : decode cX7_bestCost 219 = .ok (.iadd, 1) := by decide +kernel
theorem dX7_bestCost_220 : decode cX7_bestCost 220 = .ok (.iastore, 1) := by decide +kernel
theorem dX7_bestCost_221 : decode cX7_bestCost 221 = .ok (.iinc 2 1, 3) := by decide +kernel
theorem dX7_bestCost_224 : decode cX7_bestCost 224 = .ok (.goto (-105), 3) := by decide +kernel
theorem dX7_bestCost_227 : decode cX7_bestCost 227 = .ok (.iconst 0, 1) := by decide +kernel
theorem dX7_bestCost_228 : decode cX7_bestCost 228 = .ok (.istore_n 2, 1) := by decide +kernel
theorem dX7_bestCost_229 : decode cX7_bestCost 229 = .ok (.iload_n 2, 1) := by decide +kernel
theorem dX7_bestCost_230 : decode cX7_bestCost 230 = .ok (.aload_n 0, 1) := by decide +kernel
theorem dX7_bestCost_231 : decode cX7_bestCost 231 = .ok (.getfield 135, 3) := by decide +kernel
theorem dX7_bestCost_234 : decode cX7_bestCost 234 = .ok (.if_icmp .ge 84, 3) := by decide +kernel
theorem dX7_bestCost_237 : decode cX7_bestCost 237 = .ok (.aload_n 0, 1) := by decide +kernel
theorem dX7_bestCost_238 : decode cX7_bestCost 238 = .ok (.getfield 41, 3) := by decide +kernel
theorem dX7_bestCost_241 : decode cX7_bestCost 241 = .ok (.iload_n 2, 1) := by decide +kernel
theorem dX7_bestCost_242 : decode cX7_bestCost 242 = .ok (.ldc 141, 2) := by decide +kernel
theorem dX7_bestCost_244 : decode cX7_bestCost 244 = .ok (.iastore, 1) := by decide +kernel
theorem dX7_bestCost_245 : decode cX7_bestCost 245 = .ok (.iconst 0, 1) := by decide +kernel
theorem dX7_bestCost_246 : decode cX7_bestCost 246 = .ok (.istore_n 3, 1) := by decide +kernel
theorem dX7_bestCost_247 : decode cX7_bestCost 247 = .ok (.iload_n 3, 1) := by decide +kernel
theorem dX7_bestCost_248 : decode cX7_bestCost 248 = .ok (.aload_n 0, 1) := by decide +kernel
theorem dX7_bestCost_249 : decode cX7_bestCost 249 = .ok (.getfield 135, 3) := by decide +kernel
theorem dX7_bestCost_252 : decode cX7_bestCost 252 = .ok (.if_icmp .ge 60, 3) := by decide +kernel
theorem dX7_bestCost_255 : decode cX7_bestCost 255 = .ok (.aload_n 0, 1) := by decide +kernel
theorem dX7_bestCost_256 : decode cX7_bestCost 256 = .ok (.getfield 41, 3) := by decide +kernel
theorem dX7_bestCost_259 : decode cX7_bestCost 259 = .ok (.iload_n 2, 1) := by decide +kernel
theorem dX7_bestCost_260 : decode cX7_bestCost 260 = .ok (.aload_n 0, 1) := by decide +kernel
theorem dX7_bestCost_261 : decode cX7_bestCost 261 = .ok (.getfield 44, 3) := by decide +kernel
theorem dX7_bestCost_264 : decode cX7_bestCost 264 = .ok (.iload_n 3, 1) := by decide +kernel
theorem dX7_bestCost_265 : decode cX7_bestCost 265 = .ok (.iaload, 1) := by decide +kernel
theorem dX7_bestCost_266 : decode cX7_bestCost 266 = .ok (.aload_n 0, 1) := by decide +kernel
theorem dX7_bestCost_267 : decode cX7_bestCost 267 = .ok (.getfield 41, 3) := by decide +kernel
theorem dX7_bestCost_270 : decode cX7_bestCost 270 = .ok (.iload_n 2, 1) := by decide +kernel
theorem dX7_bestCost_271 : decode cX7_bestCost 271 = .ok (.iaload, 1) := by decide +kernel
theorem dX7_bestCost_272 : decode cX7_bestCost 272 = .ok (.if_icmp .ge 27, 3) := by decide +kernel
theorem dX7_bestCost_275 : decode cX7_bestCost 275 = .ok (.aload_n 0, 1) := by decide +kernel
theorem dX7_bestCost_276 : decode cX7_bestCost 276 = .ok (.iload_n 3, 1) := by decide +kernel
theorem dX7_bestCost_277 : decode cX7_bestCost 277 = .ok (.iload_n 2, 1) := by decide +kernel
theorem dX7_bestCost_278 : decode cX7_bestCost 278 = .ok (.aload_n 0, 1) := by decide +kernel
theorem dX7_bestCost_279 : decode cX7_bestCost 279 = .ok (.getfield 32, 3) := by decide +kernel
theorem dX7_bestCost_282 : decode cX7_bestCost 282 = .ok (.iload_n 1, 1) := by decide +kernel
theorem dX7_bestCost_283 : decode cX7_bestCost 283 = .ok (.iaload, 1) := by decide +kernel
theorem dX7_bestCost_284 : decode cX7_bestCost 284 = .ok (.invokevirtual 145, 3) := by decide +kernel
theorem dX7_bestCost_287 : decode cX7_bestCost 287 = .ok (.ifCond .eq 12, 3) := by decide +kernel
theorem dX7_bestCost_290 : decode cX7_bestCost 290 = .ok (.aload_n 0, 1) := by decide +kernel
theorem dX7_bestCost_291 : decode cX7_bestCost 291 = .ok (.getfield 44, 3) := by decide +kernel
theorem dX7_bestCost_294 : decode cX7_bestCost 294 = .ok (.iload_n 3, 1) := by decide +kernel
theorem dX7_bestCost_295 : decode cX7_bestCost 295 = .ok (.iaload, 1) := by decide +kernel
theorem dX7_bestCost_296 : decode cX7_bestCost 296 = .ok (.goto 9, 3) := by decide +kernel
theorem dX7_bestCost_299 : decode cX7_bestCost 299 = .ok (.aload_n 0, 1) := by decide +kernel
theorem dX7_bestCost_300 : decode cX7_bestCost 300 = .ok (.getfield 41, 3) := by decide +kernel
theorem dX7_bestCost_303 : decode cX7_bestCost 303 = .ok (.iload_n 2, 1) := by decide +kernel
theorem dX7_bestCost_304 : decode cX7_bestCost 304 = .ok (.iaload, 1) := by decide +kernel
theorem dX7_bestCost_305 : decode cX7_bestCost 305 = .ok (.iastore, 1) := by decide +kernel
theorem dX7_bestCost_306 : decode cX7_bestCost 306 = .ok (.iinc 3 1, 3) := by decide +kernel
theorem dX7_bestCost_309 : decode cX7_bestCost 309 = .ok (.goto (-62), 3) := by decide +kernel
theorem dX7_bestCost_312 : decode cX7_bestCost 312 = .ok (.iinc 2 1, 3) := by decide +kernel
theorem dX7_bestCost_315 : decode cX7_bestCost 315 = .ok (.goto (-86), 3) := by decide +kernel
theorem dX7_bestCost_318 : decode cX7_bestCost 318 = .ok (.iinc 1 1, 3) := by decide +kernel
theorem dX7_bestCost_321 : decode cX7_bestCost 321 = .ok (.goto (-212), 3) := by decide +kernel
theorem dX7_bestCost_324 : decode cX7_bestCost 324 = .ok (.aload_n 0, 1) := by decide +kernel
theorem dX7_bestCost_325 : decode cX7_bestCost 325 = .ok (.getfield 41, 3) := by decide +kernel
theorem dX7_bestCost_328 : decode cX7_bestCost 328 = .ok (.iconst 0, 1) := by decide +kernel
theorem dX7_bestCost_329 : decode cX7_bestCost 329 = .ok (.iaload, 1) := by decide +kernel
theorem dX7_bestCost_330 : decode cX7_bestCost 330 = .ok (.istore_n 1, 1) := by decide +kernel
theorem dX7_bestCost_331 : decode cX7_bestCost 331 = .ok (.iconst 1, 1) := by decide +kernel
theorem dX7_bestCost_332 : decode cX7_bestCost 332 = .ok (.istore_n 2, 1) := by decide +kernel
theorem dX7_bestCost_333 : decode cX7_bestCost 333 = .ok (.iload_n 2, 1) := by decide +kernel
theorem dX7_bestCost_334 : decode cX7_bestCost 334 = .ok (.aload_n 0, 1) := by decide +kernel
theorem dX7_bestCost_335 : decode cX7_bestCost 335 = .ok (.getfield 135, 3) := by decide +kernel
theorem dX7_bestCost_338 : decode cX7_bestCost 338 = .ok (.if_icmp .ge 30, 3) := by decide +kernel
theorem dX7_bestCost_341 : decode cX7_bestCost 341 = .ok (.aload_n 0, 1) := by decide +kernel
theorem dX7_bestCost_342 : decode cX7_bestCost 342 = .ok (.getfield 41, 3) := by decide +kernel
theorem dX7_bestCost_345 : decode cX7_bestCost 345 = .ok (.iload_n 2, 1) := by decide +kernel
theorem dX7_bestCost_346 : decode cX7_bestCost 346 = .ok (.iaload, 1) := by decide +kernel
theorem dX7_bestCost_347 : decode cX7_bestCost 347 = .ok (.iload_n 1, 1) := by decide +kernel
theorem dX7_bestCost_348 : decode cX7_bestCost 348 = .ok (.if_icmp .ge 12, 3) := by decide +kernel
theorem dX7_bestCost_351 : decode cX7_bestCost 351 = .ok (.aload_n 0, 1) := by decide +kernel
theorem dX7_bestCost_352 : decode cX7_bestCost 352 = .ok (.getfield 41, 3) := by decide +kernel
theorem dX7_bestCost_355 : decode cX7_bestCost 355 = .ok (.iload_n 2, 1) := by decide +kernel
theorem dX7_bestCost_356 : decode cX7_bestCost 356 = .ok (.iaload, 1) := by decide +kernel
theorem dX7_bestCost_357 : decode cX7_bestCost 357 = .ok (.goto 4, 3) := by decide +kernel
theorem dX7_bestCost_360 : decode cX7_bestCost 360 = .ok (.iload_n 1, 1) := by decide +kernel
theorem dX7_bestCost_361 : decode cX7_bestCost 361 = .ok (.istore_n 1, 1) := by decide +kernel
theorem dX7_bestCost_362 : decode cX7_bestCost 362 = .ok (.iinc 2 1, 3) := by decide +kernel
theorem dX7_bestCost_365 : decode cX7_bestCost 365 = .ok (.goto (-32), 3) := by decide +kernel
theorem dX7_bestCost_368 : decode cX7_bestCost 368 = .ok (.iload_n 1, 1) := by decide +kernel
theorem dX7_bestCost_369 : decode cX7_bestCost 369 = .ok (.ireturn, 1) := by decide +kernel
set_option maxRecDepth 20000 in
theorem ggX7_serve_X7_in : GoodIn wsX7_serve wsX7_in := goodIn_r _ [7] (by decide +kernel) (by decide +kernel)
set_option maxRecDepth 20000 in
theorem gX7_serve_X7_in : GoodIn wsX7_serve (va_wsS RX7 66 yX7_in wsX7_in) := goodIn_app (goodIn_of _ (by decide +kernel)) ggX7_serve_X7_in
set_option maxRecDepth 20000 in
theorem ggX7_serve_X7_frontCost : GoodIn wsX7_serve wsX7_frontCost := goodIn_r _ [11, 2, 12, 13, 14, 43, 44, 45, 46, 47, 48, 49, 50, 51, 52, 53, 54, 55, 56, 57, 58, 59, 60] (by decide +kernel) (by decide +kernel)
set_option maxRecDepth 20000 in
theorem gX7_serve_X7_frontCost : GoodIn wsX7_serve (wsV RX7 148 RX7 yX7_frontCost wsX7_frontCost) := goodIn_app (goodIn_of _ (by decide +kernel)) ggX7_serve_X7_frontCost
set_option maxRecDepth 20000 in
theorem ggX7_serve_X7_ordersOf : GoodIn wsX7_serve wsX7_ordersOf := goodIn_r _ [18, 1, 2, 3, 43, 44, 45, 46, 47, 48, 49, 50, 51, 52, 53, 54, 55, 56, 57, 58, 59, 60] (by decide +kernel) (by decide +kernel)
set_option maxRecDepth 20000 in
theorem gX7_serve_X7_ordersOf : GoodIn wsX7_serve (wsV RX7 151 RX7 yX7_ordersOf wsX7_ordersOf) := goodIn_app (goodIn_of _ (by decide +kernel)) ggX7_serve_X7_ordersOf
set_option maxRecDepth 20000 in
theorem ggX7_serve_X7_staysCost : GoodIn wsX7_serve wsX7_staysCost := goodIn_r _ [22, 13, 14, 23, 24, 25, 6, 26, 3, 43, 44, 45, 46, 47, 48, 49, 50, 51, 52, 53, 54, 55, 56, 57, 58, 59, 60] (by decide +kernel) (by decide +kernel)
set_option maxRecDepth 20000 in
theorem gX7_serve_X7_staysCost : GoodIn wsX7_serve (wsV RX7 154 RX7 yX7_staysCost wsX7_staysCost) := goodIn_app (goodIn_of _ (by decide +kernel)) ggX7_serve_X7_staysCost
set_option maxRecDepth 20000 in
theorem ggX7_serve_X7_bestCost : GoodIn wsX7_serve wsX7_bestCost := goodIn_r _ [30, 1, 2, 3, 31, 32, 33, 13, 34, 14, 35, 36, 37, 6, 38, 23, 24, 25, 26, 39, 40, 41, 42, 43, 44, 45, 46, 47, 48, 49, 50, 51, 52, 53, 54, 55, 56, 57, 58, 59, 60] (by decide +kernel) (by decide +kernel)
set_option maxRecDepth 20000 in
theorem gX7_serve_X7_bestCost : GoodIn wsX7_serve (wsV RX7 157 RX7 yX7_bestCost wsX7_bestCost) := goodIn_app (goodIn_of _ (by decide +kernel)) ggX7_serve_X7_bestCost
theorem dX7_serve_0 : decode cX7_serve 0 = .ok (.iload_n 1, 1) := by decide +kernel
theorem dX7_serve_1 : decode cX7_serve 1 = .ok (.iconst 0, 1) := by decide +kernel
theorem dX7_serve_2 : decode cX7_serve 2 = .ok (.iconst 3, 1) := by decide +kernel
theorem dX7_serve_3 : decode cX7_serve 3 = .ok (.invokestatic 66, 3) := by decide +kernel
theorem dX7_serve_6 : decode cX7_serve 6 = .ok (.ifCond .ne 5, 3) := by decide +kernel
theorem dX7_serve_9 : decode cX7_serve 9 = .ok (.iconst (-1), 1) := by decide +kernel
theorem dX7_serve_10 : decode cX7_serve 10 = .ok (.ireturn, 1) := by decide +kernel
theorem dX7_serve_11 : decode cX7_serve 11 = .ok (.iload_n 1, 1) := by decide +kernel
theorem dX7_serve_12 : decode cX7_serve 12 = .ok (.ifCond .ne 8, 3) := by decide +kernel
theorem dX7_serve_15 : decode cX7_serve 15 = .ok (.aload_n 0, 1) := by decide +kernel
theorem dX7_serve_16 : decode cX7_serve 16 = .ok (.invokevirtual 148, 3) := by decide +kernel
theorem dX7_serve_19 : decode cX7_serve 19 = .ok (.ireturn, 1) := by decide +kernel
theorem dX7_serve_20 : decode cX7_serve 20 = .ok (.aload_n 0, 1) := by decide +kernel
theorem dX7_serve_21 : decode cX7_serve 21 = .ok (.invokevirtual 151, 3) := by decide +kernel
theorem dX7_serve_24 : decode cX7_serve 24 = .ok (.iconst (-1), 1) := by decide +kernel
theorem dX7_serve_25 : decode cX7_serve 25 = .ok (.istore_n 2, 1) := by decide +kernel
theorem dX7_serve_26 : decode cX7_serve 26 = .ok (.iconst 0, 1) := by decide +kernel
theorem dX7_serve_27 : decode cX7_serve 27 = .ok (.istore_n 3, 1) := by decide +kernel
theorem dX7_serve_28 : decode cX7_serve 28 = .ok (.iconst 0, 1) := by decide +kernel
theorem dX7_serve_29 : decode cX7_serve 29 = .ok (.istore 4, 2) := by decide +kernel
theorem dX7_serve_31 : decode cX7_serve 31 = .ok (.iload 4, 2) := by decide +kernel
theorem dX7_serve_33 : decode cX7_serve 33 = .ok (.aload_n 0, 1) := by decide +kernel
theorem dX7_serve_34 : decode cX7_serve 34 = .ok (.getfield 135, 3) := by decide +kernel
theorem dX7_serve_37 : decode cX7_serve 37 = .ok (.if_icmp .ge 96, 3) := by decide +kernel
theorem dX7_serve_40 : decode cX7_serve 40 = .ok (.aload_n 0, 1) := by decide +kernel
theorem dX7_serve_41 : decode cX7_serve 41 = .ok (.iload 4, 2) := by decide +kernel
theorem dX7_serve_43 : decode cX7_serve 43 = .ok (.invokevirtual 154, 3) := by decide +kernel
theorem dX7_serve_46 : decode cX7_serve 46 = .ok (.istore 5, 2) := by decide +kernel
theorem dX7_serve_48 : decode cX7_serve 48 = .ok (.iconst 1, 1) := by decide +kernel
theorem dX7_serve_49 : decode cX7_serve 49 = .ok (.istore 6, 2) := by decide +kernel
theorem dX7_serve_51 : decode cX7_serve 51 = .ok (.iconst 0, 1) := by decide +kernel
theorem dX7_serve_52 : decode cX7_serve 52 = .ok (.istore 7, 2) := by decide +kernel
theorem dX7_serve_54 : decode cX7_serve 54 = .ok (.iload 7, 2) := by decide +kernel
theorem dX7_serve_56 : decode cX7_serve 56 = .ok (.aload_n 0, 1) := by decide +kernel
theorem dX7_serve_57 : decode cX7_serve 57 = .ok (.getfield 29, 3) := by decide +kernel
theorem dX7_serve_60 : decode cX7_serve 60 = .ok (.if_icmp .ge 38, 3) := by decide +kernel
theorem dX7_serve_63 : decode cX7_serve 63 = .ok (.iload 6, 2) := by decide +kernel
theorem dX7_serve_65 : decode cX7_serve 65 = .ok (.ifCond .eq 24, 3) := by decide +kernel
theorem dX7_serve_68 : decode cX7_serve 68 = .ok (.aload_n 0, 1) := by decide +kernel
theorem dX7_serve_69 : decode cX7_serve 69 = .ok (.getfield 38, 3) := by decide +kernel
theorem dX7_serve_72 : decode cX7_serve 72 = .ok (.iconst 4, 1) := by decide +kernel
theorem dX7_serve_73 : decode cX7_serve 73 = .ok (.iload 4, 2) := by decide +kernel
theorem dX7_serve_75 : decode cX7_serve 75 = .ok (.imul, 1) := by decide +kernel
theorem dX7_serve_76 : decode cX7_serve 76 = .ok (.iload 7, 2) := by decide +kernel
theorem dX7_serve_78 : decode cX7_serve 78 = .ok (.iadd, 1) := by decide +kernel
theorem dX7_serve_79 : decode cX7_serve 79 = .ok (.iaload, 1) := by decide +kernel
theorem dX7_serve_80 : decode cX7_serve 80 = .ok (.iload 7, 2) := by decide +kernel
theorem dX7_serve_82 : decode cX7_serve 82 = .ok (.if_icmp .ne 7, 3) := by decide +kernel
theorem dX7_serve_85 : decode cX7_serve 85 = .ok (.iconst 1, 1) := by decide +kernel
theorem dX7_serve_86 : decode cX7_serve 86 = .ok (.goto 4, 3) := by decide +kernel
theorem dX7_serve_89 : decode cX7_serve 89 = .ok (.iconst 0, 1) := by decide +kernel
theorem dX7_serve_90 : decode cX7_serve 90 = .ok (.istore 6, 2) := by decide +kernel
theorem dX7_serve_92 : decode cX7_serve 92 = .ok (.iinc 7 1, 3) := by decide +kernel
theorem dX7_serve_95 : decode cX7_serve 95 = .ok (.goto (-41), 3) := by decide +kernel
theorem dX7_serve_98 : decode cX7_serve 98 = .ok (.iload 6, 2) := by decide +kernel
theorem dX7_serve_100 : decode cX7_serve 100 = .ok (.ifCond .eq 8, 3) := by decide +kernel
theorem dX7_serve_103 : decode cX7_serve 103 = .ok (.iload 5, 2) := by decide +kernel
theorem dX7_serve_105 : decode cX7_serve 105 = .ok (.goto 4, 3) := by decide +kernel
theorem dX7_serve_108 : decode cX7_serve 108 = .ok (.iload_n 3, 1) := by decide +kernel
theorem dX7_serve_109 : decode cX7_serve 109 = .ok (.istore_n 3, 1) := by decide +kernel
theorem dX7_serve_110 : decode cX7_serve 110 = .ok (.iload_n 2, 1) := by decide +kernel
theorem dX7_serve_111 : decode cX7_serve 111 = .ok (.ifCond .lt 9, 3) := by decide +kernel
theorem dX7_serve_114 : decode cX7_serve 114 = .ok (.iload 5, 2) := by decide +kernel
theorem dX7_serve_116 : decode cX7_serve 116 = .ok (.iload_n 2, 1) := by decide +kernel
theorem dX7_serve_117 : decode cX7_serve 117 = .ok (.if_icmp .ge 8, 3) := by decide +kernel
theorem dX7_serve_120 : decode cX7_serve 120 = .ok (.iload 5, 2) := by decide +kernel
theorem dX7_serve_122 : decode cX7_serve 122 = .ok (.goto 4, 3) := by decide +kernel
theorem dX7_serve_125 : decode cX7_serve 125 = .ok (.iload_n 2, 1) := by decide +kernel
theorem dX7_serve_126 : decode cX7_serve 126 = .ok (.istore_n 2, 1) := by decide +kernel
theorem dX7_serve_127 : decode cX7_serve 127 = .ok (.iinc 4 1, 3) := by decide +kernel
theorem dX7_serve_130 : decode cX7_serve 130 = .ok (.goto (-99), 3) := by decide +kernel
theorem dX7_serve_133 : decode cX7_serve 133 = .ok (.iload_n 1, 1) := by decide +kernel
theorem dX7_serve_134 : decode cX7_serve 134 = .ok (.iconst 1, 1) := by decide +kernel
theorem dX7_serve_135 : decode cX7_serve 135 = .ok (.if_icmp .ne 7, 3) := by decide +kernel
theorem dX7_serve_138 : decode cX7_serve 138 = .ok (.iload_n 3, 1) := by decide +kernel
theorem dX7_serve_139 : decode cX7_serve 139 = .ok (.goto 16, 3) := by decide +kernel
theorem dX7_serve_142 : decode cX7_serve 142 = .ok (.iload_n 1, 1) := by decide +kernel
theorem dX7_serve_143 : decode cX7_serve 143 = .ok (.iconst 2, 1) := by decide +kernel
theorem dX7_serve_144 : decode cX7_serve 144 = .ok (.if_icmp .ne 7, 3) := by decide +kernel
theorem dX7_serve_147 : decode cX7_serve 147 = .ok (.iload_n 2, 1) := by decide +kernel
theorem dX7_serve_148 : decode cX7_serve 148 = .ok (.goto 7, 3) := by decide +kernel
theorem dX7_serve_151 : decode cX7_serve 151 = .ok (.aload_n 0, 1) := by decide +kernel
theorem dX7_serve_152 : decode cX7_serve 152 = .ok (.invokevirtual 157, 3) := by decide +kernel
theorem dX7_serve_155 : decode cX7_serve 155 = .ok (.ireturn, 1) := by decide +kernel
set_option maxRecDepth 20000 in
theorem ggX7_at_X7_in : GoodIn wsX7_at wsX7_in := goodIn_r _ [6] (by decide +kernel) (by decide +kernel)
set_option maxRecDepth 20000 in
theorem gX7_at_X7_in : GoodIn wsX7_at (va_wsS RX7 66 yX7_in wsX7_in) := goodIn_app (goodIn_of _ (by decide +kernel)) ggX7_at_X7_in
set_option maxRecDepth 20000 in
theorem ggX7_at_X7_frontCost : GoodIn wsX7_at wsX7_frontCost := goodIn_r _ [10, 1, 2, 11, 12, 13, 14, 15, 16, 17, 18, 19, 20, 21, 22, 23, 24, 25, 26, 27, 28, 29, 30] (by decide +kernel) (by decide +kernel)
set_option maxRecDepth 20000 in
theorem gX7_at_X7_frontCost : GoodIn wsX7_at (wsV RX7 148 RX7 yX7_frontCost wsX7_frontCost) := goodIn_app (goodIn_of _ (by decide +kernel)) ggX7_at_X7_frontCost
theorem dX7_at_0 : decode cX7_at 0 = .ok (.iload_n 1, 1) := by decide +kernel
theorem dX7_at_1 : decode cX7_at 1 = .ok (.iconst 1, 1) := by decide +kernel
theorem dX7_at_2 : decode cX7_at 2 = .ok (.aload_n 0, 1) := by decide +kernel
theorem dX7_at_3 : decode cX7_at 3 = .ok (.getfield 29, 3) := by decide +kernel
theorem dX7_at_6 : decode cX7_at 6 = .ok (.invokestatic 66, 3) := by decide +kernel
theorem dX7_at_9 : decode cX7_at 9 = .ok (.ifCond .ne 5, 3) := by decide +kernel
theorem dX7_at_12 : decode cX7_at 12 = .ok (.iconst (-1), 1) := by decide +kernel
theorem dX7_at_13 : decode cX7_at 13 = .ok (.ireturn, 1) := by decide +kernel
theorem dX7_at_14 : decode cX7_at 14 = .ok (.aload_n 0, 1) := by decide +kernel
theorem dX7_at_15 : decode cX7_at 15 = .ok (.invokevirtual 148, 3) := by decide +kernel
theorem dX7_at_18 : decode cX7_at 18 = .ok (.istore_n 2, 1) := by decide +kernel
theorem dX7_at_19 : decode cX7_at 19 = .ok (.aload_n 0, 1) := by decide +kernel
theorem dX7_at_20 : decode cX7_at 20 = .ok (.getfield 35, 3) := by decide +kernel
theorem dX7_at_23 : decode cX7_at 23 = .ok (.iload_n 1, 1) := by decide +kernel
theorem dX7_at_24 : decode cX7_at 24 = .ok (.iconst 1, 1) := by decide +kernel
theorem dX7_at_25 : decode cX7_at 25 = .ok (.isub, 1) := by decide +kernel
theorem dX7_at_26 : decode cX7_at 26 = .ok (.iaload, 1) := by decide +kernel
theorem dX7_at_27 : decode cX7_at 27 = .ok (.ireturn, 1) := by decide +kernel
theorem dX7_count_0 : decode cX7_count 0 = .ok (.iload_n 1, 1) := by decide +kernel
theorem dX7_count_1 : decode cX7_count 1 = .ok (.tableswitch 51 0 3 #[31, 36, 41, 46], 31) := by decide +kernel
theorem dX7_count_32 : decode cX7_count 32 = .ok (.aload_n 0, 1) := by decide +kernel
theorem dX7_count_33 : decode cX7_count 33 = .ok (.getfield 19, 3) := by decide +kernel
theorem dX7_count_36 : decode cX7_count 36 = .ok (.ireturn, 1) := by decide +kernel
theorem dX7_count_37 : decode cX7_count 37 = .ok (.aload_n 0, 1) := by decide +kernel
theorem dX7_count_38 : decode cX7_count 38 = .ok (.getfield 53, 3) := by decide +kernel
theorem dX7_count_41 : decode cX7_count 41 = .ok (.ireturn, 1) := by decide +kernel
theorem dX7_count_42 : decode cX7_count 42 = .ok (.aload_n 0, 1) := by decide +kernel
theorem dX7_count_43 : decode cX7_count 43 = .ok (.getfield 29, 3) := by decide +kernel
theorem dX7_count_46 : decode cX7_count 46 = .ok (.ireturn, 1) := by decide +kernel
theorem dX7_count_47 : decode cX7_count 47 = .ok (.aload_n 0, 1) := by decide +kernel
theorem dX7_count_48 : decode cX7_count 48 = .ok (.getfield 50, 3) := by decide +kernel
theorem dX7_count_51 : decode cX7_count 51 = .ok (.ireturn, 1) := by decide +kernel
theorem dX7_count_52 : decode cX7_count 52 = .ok (.iconst (-1), 1) := by decide +kernel
theorem dX7_count_53 : decode cX7_count 53 = .ok (.ireturn, 1) := by decide +kernel
theorem dX7_trace_0 : decode cX7_trace 0 = .ok (.aload_n 0, 1) := by decide +kernel
theorem dX7_trace_1 : decode cX7_trace 1 = .ok (.getfield 73, 3) := by decide +kernel
theorem dX7_trace_4 : decode cX7_trace 4 = .ok (.lreturn, 1) := by decide +kernel
theorem dJ9_max_f86c9_0 : decode cJ9_max_f86c9 0 = .ok (.lload_n 0, 1) := by decide +kernel
theorem dJ9_max_f86c9_1 : decode cJ9_max_f86c9 1 = .ok (.lload_n 2, 1) := by decide +kernel
theorem dJ9_max_f86c9_2 : decode cJ9_max_f86c9 2 = .ok (.lcmp, 1) := by decide +kernel
theorem dJ9_max_f86c9_3 : decode cJ9_max_f86c9 3 = .ok (.ifCond .lt 7, 3) := by decide +kernel
theorem dJ9_max_f86c9_6 : decode cJ9_max_f86c9 6 = .ok (.lload_n 0, 1) := by decide +kernel
theorem dJ9_max_f86c9_7 : decode cJ9_max_f86c9 7 = .ok (.goto 4, 3) := by decide +kernel
theorem dJ9_max_f86c9_10 : decode cJ9_max_f86c9 10 = .ok (.lload_n 2, 1) := by decide +kernel
theorem dJ9_max_f86c9_11 : decode cJ9_max_f86c9 11 = .ok (.lreturn, 1) := by decide +kernel
theorem dJ9_min_7cf53_0 : decode cJ9_min_7cf53 0 = .ok (.iload_n 0, 1) := by decide +kernel
theorem dJ9_min_7cf53_1 : decode cJ9_min_7cf53 1 = .ok (.iload_n 1, 1) := by decide +kernel
theorem dJ9_min_7cf53_2 : decode cJ9_min_7cf53 2 = .ok (.if_icmp .gt 7, 3) := by decide +kernel
theorem dJ9_min_7cf53_5 : decode cJ9_min_7cf53 5 = .ok (.iload_n 0, 1) := by decide +kernel
theorem dJ9_min_7cf53_6 : decode cJ9_min_7cf53 6 = .ok (.goto 4, 3) := by decide +kernel
theorem dJ9_min_7cf53_9 : decode cJ9_min_7cf53 9 = .ok (.iload_n 1, 1) := by decide +kernel
theorem dJ9_min_7cf53_10 : decode cJ9_min_7cf53 10 = .ok (.ireturn, 1) := by decide +kernel
theorem dJ9_min_f86c9_0 : decode cJ9_min_f86c9 0 = .ok (.lload_n 0, 1) := by decide +kernel
theorem dJ9_min_f86c9_1 : decode cJ9_min_f86c9 1 = .ok (.lload_n 2, 1) := by decide +kernel
theorem dJ9_min_f86c9_2 : decode cJ9_min_f86c9 2 = .ok (.lcmp, 1) := by decide +kernel
theorem dJ9_min_f86c9_3 : decode cJ9_min_f86c9 3 = .ok (.ifCond .gt 7, 3) := by decide +kernel
theorem dJ9_min_f86c9_6 : decode cJ9_min_f86c9 6 = .ok (.lload_n 0, 1) := by decide +kernel
theorem dJ9_min_f86c9_7 : decode cJ9_min_f86c9 7 = .ok (.goto 4, 3) := by decide +kernel
theorem dJ9_min_f86c9_10 : decode cJ9_min_f86c9 10 = .ok (.lload_n 2, 1) := by decide +kernel
theorem dJ9_min_f86c9_11 : decode cJ9_min_f86c9 11 = .ok (.lreturn, 1) := by decide +kernel
set_option maxRecDepth 20000 in
theorem ggL_law_X6_init : GoodIn wsL_law wsX6_init := goodIn_r _ [8, 9, 10, 11, 12, 13, 14, 15, 16, 17, 18, 19, 20, 21, 22, 23, 24, 25, 26, 27, 28, 29, 30, 31, 32, 33, 34, 35, 36, 37, 38, 39, 40, 41, 42, 43, 44, 45, 46, 47, 48, 49, 50, 51, 52, 53, 54, 55, 56, 57, 58, 59, 60, 61, 62, 63, 64, 65, 66, 67, 68, 593, 594, 595, 571, 572, 573, 574, 596, 597, 598, 599, 600, 601, 602, 603, 604, 605, 606, 607, 608, 609, 610, 611, 612] (by decide +kernel) (by decide +kernel)
set_option maxRecDepth 20000 in
theorem gL_law_X6_init : GoodIn wsL_law (wsX6_init) := ggL_law_X6_init
set_option maxRecDepth 20000 in
theorem ggL_law_X7_init : GoodIn wsL_law wsX7_init := goodIn_r _ [71, 72, 10, 11, 73, 74, 75, 76, 34, 77, 78, 79, 80, 81, 82, 83, 84, 85, 86, 575, 576, 577, 578, 579, 580, 581, 582, 583, 584, 585, 586, 587, 588, 589, 590, 591, 592] (by decide +kernel) (by decide +kernel)
set_option maxRecDepth 20000 in
theorem gL_law_X7_init : GoodIn wsL_law (wsX7_init) := ggL_law_X7_init
set_option maxRecDepth 20000 in
theorem ggL_law_X6_offer : GoodIn wsL_law wsX6_offer := goodIn_r _ [90, 15, 91, 31, 32, 92, 93, 94, 95, 96, 97, 98, 99, 2, 100, 101, 37, 38, 39, 10, 11, 40, 41, 102, 103, 104, 105, 106, 107, 108, 109, 110, 111, 112, 113, 114, 14, 115, 33, 35, 116, 117, 118, 119, 120, 121, 122, 123, 124, 125, 126, 127, 128, 129, 130, 131, 132, 133, 134, 135, 136, 137, 138, 139, 140, 141, 142, 571, 572, 573, 574, 604, 605, 610, 611, 612, 606, 607, 608, 609, 593, 594, 595] (by decide +kernel) (by decide +kernel)
set_option maxRecDepth 20000 in
theorem gL_law_X6_offer : GoodIn wsL_law (wsV RL 13 RX6 yX6_offer wsX6_offer) := goodIn_app (goodIn_of _ (by decide +kernel)) ggL_law_X6_offer
set_option maxRecDepth 20000 in
theorem ggL_law_X7_offer : GoodIn wsL_law wsX7_offer := goodIn_r _ [146, 147, 73, 148, 74, 75, 76, 149, 150, 5, 151, 152, 153, 154, 155, 156, 157, 158, 159, 160, 161, 162, 163, 575, 576, 577, 578, 579, 580, 581, 582, 583, 584, 585, 586, 587, 588, 589, 590, 591, 592] (by decide +kernel) (by decide +kernel)
set_option maxRecDepth 20000 in
theorem gL_law_X7_offer : GoodIn wsL_law (wsV RL 17 RX7 yX7_offer wsX7_offer) := goodIn_app (goodIn_of _ (by decide +kernel)) ggL_law_X7_offer
set_option maxRecDepth 20000 in
theorem ggL_law_X6_ends : GoodIn wsL_law wsX6_ends := goodIn_r _ [167, 15, 19, 98, 99, 2, 100, 168, 169, 170, 18, 171, 46, 47, 571, 572, 573, 574, 593, 594, 595, 596, 597] (by decide +kernel) (by decide +kernel)
set_option maxRecDepth 20000 in
theorem gL_law_X6_ends : GoodIn wsL_law (wsV RL 18 RX6 yX6_ends wsX6_ends) := goodIn_app (goodIn_of _ (by decide +kernel)) ggL_law_X6_ends
set_option maxRecDepth 20000 in
theorem ggL_law_X7_ends : GoodIn wsL_law wsX7_ends := goodIn_r _ [175, 76, 77, 78, 149, 150, 5, 151, 575, 576, 577, 578, 579, 580, 581, 582, 583, 584, 585, 586, 587, 588, 589, 590, 591, 592] (by decide +kernel) (by decide +kernel)
set_option maxRecDepth 20000 in
theorem gL_law_X7_ends : GoodIn wsL_law (wsV RL 22 RX7 yX7_ends wsX7_ends) := goodIn_app (goodIn_of _ (by decide +kernel)) ggL_law_X7_ends
set_option maxRecDepth 20000 in
theorem ggL_law_X6_rent : GoodIn wsL_law wsX6_rent := goodIn_r _ [179, 24, 15, 98, 99, 2, 100, 180, 181, 182, 183, 184, 97, 185, 186, 187, 128, 188, 94, 189, 190, 132, 191, 32, 192, 193, 194, 195, 196, 117, 118, 119, 120, 121, 110, 122, 123, 124, 125, 126, 127, 129, 130, 105, 131, 133, 134, 40, 197, 136, 137, 571, 572, 573, 574, 593, 594, 595, 606, 607, 608, 609, 610, 611, 612, 604, 605] (by decide +kernel) (by decide +kernel)
set_option maxRecDepth 20000 in
theorem gL_law_X6_rent : GoodIn wsL_law (wsV RL 23 RX6 yX6_rent wsX6_rent) := goodIn_app (goodIn_of _ (by decide +kernel)) ggL_law_X6_rent
set_option maxRecDepth 20000 in
theorem ggL_law_X7_rent : GoodIn wsL_law wsX7_rent := goodIn_r _ [201, 202, 147, 203, 204, 149, 150, 5, 151, 160, 161, 162, 163, 73, 148, 74, 575, 576, 577, 578, 579, 580, 581, 582, 583, 584, 585, 586, 587, 588, 589, 590, 591, 592] (by decide +kernel) (by decide +kernel)
set_option maxRecDepth 20000 in
theorem gL_law_X7_rent : GoodIn wsL_law (wsV RL 26 RX7 yX7_rent wsX7_rent) := goodIn_app (goodIn_of _ (by decide +kernel)) ggL_law_X7_rent
set_option maxRecDepth 20000 in
theorem ggL_law_X6_cost : GoodIn wsL_law wsX6_cost := goodIn_r _ [208, 15, 209, 210, 211, 14, 212, 29, 99, 2, 100, 213, 214, 215, 216, 217, 218, 219, 220, 35, 33, 571, 572, 573, 574, 593, 594, 595, 606, 607, 608, 609, 604, 605, 610, 611, 612] (by decide +kernel) (by decide +kernel)
set_option maxRecDepth 20000 in
theorem gL_law_X6_cost : GoodIn wsL_law (wsV RL 27 RX6 yX6_cost wsX6_cost) := goodIn_app (goodIn_of _ (by decide +kernel)) ggL_law_X6_cost
set_option maxRecDepth 20000 in
theorem ggL_law_X7_cost : GoodIn wsL_law wsX7_cost := goodIn_r _ [224, 225, 226, 227, 5, 228, 76, 149, 150, 151, 229, 230, 231, 232, 233, 234, 235, 236, 75, 156, 157, 158, 159, 160, 161, 162, 163, 73, 147, 148, 74, 575, 576, 577, 578, 579, 580, 581, 582, 583, 584, 585, 586, 587, 588, 589, 590, 591, 592] (by decide +kernel) (by decide +kernel)
set_option maxRecDepth 20000 in
theorem gL_law_X7_cost : GoodIn wsL_law (wsV RL 31 RX7 yX7_cost wsX7_cost) := goodIn_app (goodIn_of _ (by decide +kernel)) ggL_law_X7_cost
set_option maxRecDepth 20000 in
theorem ggL_law_X6_known : GoodIn wsL_law wsX6_known := goodIn_r _ [240, 15, 213, 214, 215, 14, 216, 29, 99, 2, 100, 138, 139, 140, 141, 33, 35, 142, 123, 124, 125, 571, 572, 573, 574, 593, 594, 595, 606, 607, 608, 609, 604, 605, 610, 611, 612] (by decide +kernel) (by decide +kernel)
set_option maxRecDepth 20000 in
theorem gL_law_X6_known : GoodIn wsL_law (wsV RL 32 RX6 yX6_known wsX6_known) := goodIn_app (goodIn_of _ (by decide +kernel)) ggL_law_X6_known
set_option maxRecDepth 20000 in
theorem ggL_law_X7_known : GoodIn wsL_law wsX7_known := goodIn_r _ [244, 229, 230, 231, 5, 232, 76, 149, 150, 151, 152, 153, 154, 155, 75, 156, 157, 158, 159, 160, 161, 162, 163, 73, 147, 148, 74, 575, 576, 577, 578, 579, 580, 581, 582, 583, 584, 585, 586, 587, 588, 589, 590, 591, 592] (by decide +kernel) (by decide +kernel)
set_option maxRecDepth 20000 in
theorem gL_law_X7_known : GoodIn wsL_law (wsV RL 35 RX7 yX7_known wsX7_known) := goodIn_app (goodIn_of _ (by decide +kernel)) ggL_law_X7_known
set_option maxRecDepth 20000 in
theorem ggL_law_X6_ratio : GoodIn wsL_law wsX6_ratio := goodIn_r _ [248, 15, 209, 210, 211, 14, 212, 29, 99, 2, 100, 213, 214, 215, 216, 98, 249, 250, 251, 252, 253, 254, 255, 256, 257, 218, 219, 220, 35, 33, 258, 139, 140, 141, 142, 123, 124, 125, 259, 260, 261, 262, 263, 264, 265, 266, 267, 268, 269, 270, 571, 572, 573, 574, 593, 594, 595, 606, 607, 608, 609, 604, 605, 610, 611, 612] (by decide +kernel) (by decide +kernel)
set_option maxRecDepth 20000 in
theorem gL_law_X6_ratio : GoodIn wsL_law (wsV RL 36 RX6 yX6_ratio wsX6_ratio) := goodIn_app (goodIn_of _ (by decide +kernel)) ggL_law_X6_ratio
set_option maxRecDepth 20000 in
theorem ggL_law_X7_ratio : GoodIn wsL_law wsX7_ratio := goodIn_r _ [274, 225, 226, 227, 5, 228, 76, 149, 150, 151, 229, 230, 231, 232, 275, 276, 277, 278, 233, 234, 235, 236, 75, 156, 157, 158, 159, 160, 161, 162, 163, 73, 147, 148, 74, 152, 153, 154, 155, 279, 280, 281, 575, 576, 577, 578, 579, 580, 581, 582, 583, 584, 585, 586, 587, 588, 589, 590, 591, 592] (by decide +kernel) (by decide +kernel)
set_option maxRecDepth 20000 in
theorem gL_law_X7_ratio : GoodIn wsL_law (wsV RL 40 RX7 yX7_ratio wsX7_ratio) := goodIn_app (goodIn_of _ (by decide +kernel)) ggL_law_X7_ratio
set_option maxRecDepth 20000 in
theorem ggL_law_X6_sure : GoodIn wsL_law wsX6_sure := goodIn_r _ [285, 15, 286, 287, 288, 14, 289, 29, 290, 250, 251, 252, 253, 254, 255, 256, 257, 218, 219, 220, 35, 33, 258, 139, 140, 141, 142, 123, 124, 125, 571, 572, 573, 574, 593, 594, 595, 606, 607, 608, 609, 604, 605, 610, 611, 612] (by decide +kernel) (by decide +kernel)
set_option maxRecDepth 20000 in
theorem gL_law_X6_sure : GoodIn wsL_law (wsV RL 41 RX6 yX6_sure wsX6_sure) := goodIn_app (goodIn_of _ (by decide +kernel)) ggL_law_X6_sure
set_option maxRecDepth 20000 in
theorem ggL_law_X7_sure : GoodIn wsL_law wsX7_sure := goodIn_r _ [294, 295, 296, 297, 5, 298, 76, 275, 276, 277, 278, 233, 234, 235, 236, 75, 156, 157, 158, 159, 160, 161, 162, 163, 73, 147, 148, 74, 152, 153, 154, 155, 575, 576, 577, 578, 579, 580, 581, 582, 583, 584, 585, 586, 587, 588, 589, 590, 591, 592] (by decide +kernel) (by decide +kernel)
set_option maxRecDepth 20000 in
theorem gL_law_X7_sure : GoodIn wsL_law (wsV RL 45 RX7 yX7_sure wsX7_sure) := goodIn_app (goodIn_of _ (by decide +kernel)) ggL_law_X7_sure
set_option maxRecDepth 20000 in
theorem ggL_law_X6_share : GoodIn wsL_law wsX6_share := goodIn_r _ [302, 15, 19, 98, 99, 2, 100, 209, 210, 211, 14, 212, 29, 213, 214, 215, 216, 303, 304, 18, 305, 571, 572, 573, 574, 596, 597, 593, 594, 595] (by decide +kernel) (by decide +kernel)
set_option maxRecDepth 20000 in
theorem gL_law_X6_share : GoodIn wsL_law (wsV RL 46 RX6 yX6_share wsX6_share) := goodIn_app (goodIn_of _ (by decide +kernel)) ggL_law_X6_share
set_option maxRecDepth 20000 in
theorem ggL_law_X7_share : GoodIn wsL_law wsX7_share := goodIn_r _ [309, 77, 78, 149, 150, 5, 151, 225, 226, 227, 228, 76, 229, 230, 231, 232, 575, 576, 577, 578, 579, 580, 581, 582, 583, 584, 585, 586, 587, 588, 589, 590, 591, 592] (by decide +kernel) (by decide +kernel)
set_option maxRecDepth 20000 in
theorem gL_law_X7_share : GoodIn wsL_law (wsV RL 49 RX7 yX7_share wsX7_share) := goodIn_app (goodIn_of _ (by decide +kernel)) ggL_law_X7_share
set_option maxRecDepth 20000 in
theorem ggL_law_X6_mean : GoodIn wsL_law wsX6_mean := goodIn_r _ [313, 15, 314, 19, 315, 213, 214, 215, 14, 216, 29, 99, 2, 100, 98, 316, 317, 18, 318, 319, 320, 321, 322, 46, 323, 218, 219, 220, 35, 33, 138, 139, 140, 141, 142, 123, 124, 125, 324, 263, 264, 265, 266, 267, 268, 269, 270, 571, 572, 573, 574, 596, 597, 593, 594, 595, 606, 607, 608, 609, 604, 605, 610, 611, 612] (by decide +kernel) (by decide +kernel)
set_option maxRecDepth 20000 in
theorem gL_law_X6_mean : GoodIn wsL_law (wsV RL 50 RX6 yX6_mean wsX6_mean) := goodIn_app (goodIn_of _ (by decide +kernel)) ggL_law_X6_mean
set_option maxRecDepth 20000 in
theorem ggL_law_X7_mean : GoodIn wsL_law wsX7_mean := goodIn_r _ [328, 329, 330, 229, 230, 231, 5, 232, 76, 149, 150, 151, 331, 332, 333, 334, 77, 335, 336, 337, 338, 233, 234, 235, 236, 75, 156, 157, 158, 159, 160, 161, 162, 163, 73, 147, 148, 74, 152, 153, 154, 155, 279, 280, 281, 575, 576, 577, 578, 579, 580, 581, 582, 583, 584, 585, 586, 587, 588, 589, 590, 591, 592] (by decide +kernel) (by decide +kernel)
set_option maxRecDepth 20000 in
theorem gL_law_X7_mean : GoodIn wsL_law (wsV RL 54 RX7 yX7_mean wsX7_mean) := goodIn_app (goodIn_of _ (by decide +kernel)) ggL_law_X7_mean
set_option maxRecDepth 20000 in
theorem ggL_law_X6_bound : GoodIn wsL_law wsX6_bound := goodIn_r _ [342, 19, 15, 98, 99, 2, 100, 316, 317, 18, 318, 343, 344, 345, 346, 347, 348, 349, 124, 350, 351, 320, 321, 322, 46, 323, 218, 219, 14, 220, 35, 33, 352, 139, 140, 141, 142, 123, 125, 353, 354, 268, 269, 270, 355, 356, 357, 358, 359, 360, 361, 362, 363, 364, 365, 47, 366, 571, 572, 573, 574, 596, 597, 593, 594, 595, 606, 607, 608, 609, 604, 605, 610, 611, 612] (by decide +kernel) (by decide +kernel)
set_option maxRecDepth 20000 in
theorem gL_law_X6_bound : GoodIn wsL_law (wsV RL 55 RX6 yX6_bound wsX6_bound) := goodIn_app (goodIn_of _ (by decide +kernel)) ggL_law_X6_bound
set_option maxRecDepth 20000 in
theorem ggL_law_X7_bound : GoodIn wsL_law wsX7_bound := goodIn_r _ [370, 149, 150, 5, 151, 371, 372, 373, 374, 76, 375, 331, 332, 333, 334, 77, 152, 153, 154, 155, 75, 156, 157, 158, 159, 160, 161, 162, 163, 73, 147, 148, 74, 335, 336, 337, 338, 233, 234, 235, 236, 376, 377, 378, 379, 78, 329, 380, 575, 576, 577, 578, 579, 580, 581, 582, 583, 584, 585, 586, 587, 588, 589, 590, 591, 592] (by decide +kernel) (by decide +kernel)
set_option maxRecDepth 20000 in
theorem gL_law_X7_bound : GoodIn wsL_law (wsV RL 58 RX7 yX7_bound wsX7_bound) := goodIn_app (goodIn_of _ (by decide +kernel)) ggL_law_X7_bound
set_option maxRecDepth 20000 in
theorem ggL_law_X6_guess : GoodIn wsL_law wsX6_guess := goodIn_r _ [384, 15, 213, 214, 215, 14, 216, 29, 99, 2, 100, 98, 385, 386, 387, 388, 35, 389, 390, 360, 124, 361, 391, 287, 288, 289, 290, 250, 251, 252, 253, 254, 255, 256, 257, 218, 219, 220, 33, 258, 139, 140, 141, 142, 123, 125, 353, 354, 268, 269, 270, 571, 572, 573, 574, 593, 594, 595, 606, 607, 608, 609, 604, 605, 610, 611, 612] (by decide +kernel) (by decide +kernel)
set_option maxRecDepth 20000 in
theorem gL_law_X6_guess : GoodIn wsL_law (wsV RL 59 RX6 yX6_guess wsX6_guess) := goodIn_app (goodIn_of _ (by decide +kernel)) ggL_law_X6_guess
set_option maxRecDepth 20000 in
theorem ggL_law_X7_guess : GoodIn wsL_law wsX7_guess := goodIn_r _ [395, 229, 230, 231, 5, 232, 76, 149, 150, 151, 396, 397, 398, 399, 400, 401, 402, 75, 295, 296, 297, 298, 275, 276, 277, 278, 233, 234, 235, 236, 156, 157, 158, 159, 160, 161, 162, 163, 73, 147, 148, 74, 152, 153, 154, 155, 575, 576, 577, 578, 579, 580, 581, 582, 583, 584, 585, 586, 587, 588, 589, 590, 591, 592] (by decide +kernel) (by decide +kernel)
set_option maxRecDepth 20000 in
theorem gL_law_X7_guess : GoodIn wsL_law (wsV RL 62 RX7 yX7_guess wsX7_guess) := goodIn_app (goodIn_of _ (by decide +kernel)) ggL_law_X7_guess
set_option maxRecDepth 20000 in
theorem ggL_law_X6_trust : GoodIn wsL_law wsX6_trust := goodIn_r _ [406, 15, 213, 214, 215, 14, 216, 29, 99, 2, 100, 98, 385, 386, 387, 388, 35, 389, 390, 360, 124, 361, 391, 287, 288, 289, 290, 250, 251, 252, 253, 254, 255, 256, 257, 218, 219, 220, 33, 258, 139, 140, 141, 142, 123, 125, 353, 354, 268, 269, 270, 249, 259, 260, 261, 262, 263, 264, 265, 266, 267, 571, 572, 573, 574, 593, 594, 595, 606, 607, 608, 609, 604, 605, 610, 611, 612] (by decide +kernel) (by decide +kernel)
set_option maxRecDepth 20000 in
theorem gL_law_X6_trust : GoodIn wsL_law (wsV RL 63 RX6 yX6_trust wsX6_trust) := goodIn_app (goodIn_of _ (by decide +kernel)) ggL_law_X6_trust
set_option maxRecDepth 20000 in
theorem ggL_law_X7_trust : GoodIn wsL_law wsX7_trust := goodIn_r _ [410, 229, 230, 231, 5, 232, 76, 149, 150, 151, 396, 397, 398, 399, 400, 401, 402, 75, 295, 296, 297, 298, 275, 276, 277, 278, 233, 234, 235, 236, 156, 157, 158, 159, 160, 161, 162, 163, 73, 147, 148, 74, 152, 153, 154, 155, 411, 272, 273, 274, 225, 226, 227, 228, 279, 280, 281, 575, 576, 577, 578, 579, 580, 581, 582, 583, 584, 585, 586, 587, 588, 589, 590, 591, 592] (by decide +kernel) (by decide +kernel)
set_option maxRecDepth 20000 in
theorem gL_law_X7_trust : GoodIn wsL_law (wsV RL 67 RX7 yX7_trust wsX7_trust) := goodIn_app (goodIn_of _ (by decide +kernel)) ggL_law_X7_trust
set_option maxRecDepth 20000 in
theorem ggL_law_X6_list : GoodIn wsL_law wsX6_list := goodIn_r _ [415, 23, 98, 99, 2, 100, 416, 417, 418, 22, 419, 55, 56, 57, 58, 59, 60, 61, 53, 62, 63, 64, 65, 66, 67, 68, 571, 572, 573, 574, 598, 599, 600, 601, 602, 603] (by decide +kernel) (by decide +kernel)
set_option maxRecDepth 20000 in
theorem gL_law_X6_list : GoodIn wsL_law (wsV RL 68 RX6 yX6_list wsX6_list) := goodIn_app (goodIn_of _ (by decide +kernel)) ggL_law_X6_list
set_option maxRecDepth 20000 in
theorem ggL_law_X7_list : GoodIn wsL_law wsX7_list := goodIn_r _ [423, 79, 86, 149, 150, 5, 151, 575, 576, 577, 578, 579, 580, 581, 582, 583, 584, 585, 586, 587, 588, 589, 590, 591, 592] (by decide +kernel) (by decide +kernel)
set_option maxRecDepth 20000 in
theorem gL_law_X7_list : GoodIn wsL_law (wsV RL 71 RX7 yX7_list wsX7_list) := goodIn_app (goodIn_of _ (by decide +kernel)) ggL_law_X7_list
set_option maxRecDepth 20000 in
theorem ggL_law_X6_request : GoodIn wsL_law wsX6_request := goodIn_r _ [427, 23, 98, 99, 2, 100, 571, 572, 573, 574, 598, 599, 600, 601, 602, 603] (by decide +kernel) (by decide +kernel)
set_option maxRecDepth 20000 in
theorem gL_law_X6_request : GoodIn wsL_law (wsV RL 72 RX6 yX6_request wsX6_request) := goodIn_app (goodIn_of _ (by decide +kernel)) ggL_law_X6_request
set_option maxRecDepth 20000 in
theorem ggL_law_X7_request : GoodIn wsL_law wsX7_request := goodIn_r _ [431, 79, 86, 80, 149, 150, 5, 151, 575, 576, 577, 578, 579, 580, 581, 582, 583, 584, 585, 586, 587, 588, 589, 590, 591, 592] (by decide +kernel) (by decide +kernel)
set_option maxRecDepth 20000 in
theorem gL_law_X7_request : GoodIn wsL_law (wsV RL 75 RX7 yX7_request wsX7_request) := goodIn_app (goodIn_of _ (by decide +kernel)) ggL_law_X7_request
set_option maxRecDepth 20000 in
theorem ggL_law_X6_drop : GoodIn wsL_law wsX6_drop := goodIn_r _ [435, 23, 571, 572, 573, 574, 598, 599, 600, 601, 602, 603] (by decide +kernel) (by decide +kernel)
set_option maxRecDepth 20000 in
theorem gL_law_X6_drop : GoodIn wsL_law (wsV RL 76 RX6 yX6_drop wsX6_drop) := goodIn_app (goodIn_of _ (by decide +kernel)) ggL_law_X6_drop
set_option maxRecDepth 20000 in
theorem ggL_law_X7_drop : GoodIn wsL_law wsX7_drop := goodIn_r _ [439, 86, 575, 576, 577, 578, 579, 580, 581, 582, 583, 584, 585, 586, 587, 588, 589, 590, 591, 592] (by decide +kernel) (by decide +kernel)
set_option maxRecDepth 20000 in
theorem gL_law_X7_drop : GoodIn wsL_law (wsV RL 79 RX7 yX7_drop wsX7_drop) := goodIn_app (goodIn_of _ (by decide +kernel)) ggL_law_X7_drop
set_option maxRecDepth 20000 in
theorem ggL_law_X6_serve : GoodIn wsL_law wsX6_serve := goodIn_r _ [443, 23, 444, 445, 446, 22, 447, 56, 52, 448, 449, 450, 451, 55, 452, 453, 454, 455, 66, 67, 68, 456, 457, 458, 459, 460, 461, 462, 463, 464, 465, 466, 467, 468, 469, 470, 471, 472, 61, 53, 473, 123, 124, 125, 474, 475, 476, 477, 478, 54, 479, 480, 481, 482, 483, 484, 485, 486, 487, 488, 489, 490, 491, 492, 493, 494, 571, 572, 573, 574, 598, 599, 600, 601, 602, 603] (by decide +kernel) (by decide +kernel)
set_option maxRecDepth 20000 in
theorem gL_law_X6_serve : GoodIn wsL_law (wsV RL 80 RX6 yX6_serve wsX6_serve) := goodIn_app (goodIn_of _ (by decide +kernel)) ggL_law_X6_serve
set_option maxRecDepth 20000 in
theorem ggL_law_X7_serve : GoodIn wsL_law wsX7_serve := goodIn_r _ [498, 499, 79, 82, 149, 150, 5, 151, 500, 501, 502, 503, 81, 86, 80, 504, 505, 506, 507, 508, 509, 510, 511, 512, 513, 514, 515, 516, 517, 518, 519, 83, 520, 85, 84, 521, 522, 523, 524, 525, 526, 527, 528, 575, 576, 577, 578, 579, 580, 581, 582, 583, 584, 585, 586, 587, 588, 589, 590, 591, 592] (by decide +kernel) (by decide +kernel)
set_option maxRecDepth 20000 in
theorem gL_law_X7_serve : GoodIn wsL_law (wsV RL 83 RX7 yX7_serve wsX7_serve) := goodIn_app (goodIn_of _ (by decide +kernel)) ggL_law_X7_serve
set_option maxRecDepth 20000 in
theorem ggL_law_X6_at : GoodIn wsL_law wsX6_at := goodIn_r _ [532, 23, 98, 99, 2, 100, 533, 534, 535, 22, 536, 56, 52, 448, 449, 450, 451, 55, 456, 457, 458, 459, 452, 453, 454, 455, 66, 67, 68, 460, 461, 462, 537, 571, 572, 573, 574, 598, 599, 600, 601, 602, 603] (by decide +kernel) (by decide +kernel)
set_option maxRecDepth 20000 in
theorem gL_law_X6_at : GoodIn wsL_law (wsV RL 84 RX6 yX6_at wsX6_at) := goodIn_app (goodIn_of _ (by decide +kernel)) ggL_law_X6_at
set_option maxRecDepth 20000 in
theorem ggL_law_X7_at : GoodIn wsL_law wsX7_at := goodIn_r _ [541, 79, 81, 149, 150, 5, 151, 500, 501, 502, 503, 86, 80, 575, 576, 577, 578, 579, 580, 581, 582, 583, 584, 585, 586, 587, 588, 589, 590, 591, 592] (by decide +kernel) (by decide +kernel)
set_option maxRecDepth 20000 in
theorem gL_law_X7_at : GoodIn wsL_law (wsV RL 87 RX7 yX7_at wsX7_at) := goodIn_app (goodIn_of _ (by decide +kernel)) ggL_law_X7_at
set_option maxRecDepth 20000 in
theorem ggL_law_X6_count : GoodIn wsL_law wsX6_count := goodIn_r _ [545, 15, 23, 546, 547, 548, 549, 550, 97, 551, 552, 553, 554, 555, 32, 556, 557, 94, 558, 571, 572, 573, 574, 593, 594, 595, 598, 599, 600, 601, 602, 603] (by decide +kernel) (by decide +kernel)
set_option maxRecDepth 20000 in
theorem gL_law_X6_count : GoodIn wsL_law (wsV RL 88 RX6 yX6_count wsX6_count) := goodIn_app (goodIn_of _ (by decide +kernel)) ggL_law_X6_count
set_option maxRecDepth 20000 in
theorem ggL_law_X7_count : GoodIn wsL_law wsX7_count := goodIn_r _ [562, 76, 147, 79, 86, 575, 576, 577, 578, 579, 580, 581, 582, 583, 584, 585, 586, 587, 588, 589, 590, 591, 592] (by decide +kernel) (by decide +kernel)
set_option maxRecDepth 20000 in
theorem gL_law_X7_count : GoodIn wsL_law (wsV RL 91 RX7 yX7_count wsX7_count) := goodIn_app (goodIn_of _ (by decide +kernel)) ggL_law_X7_count
set_option maxRecDepth 20000 in
theorem ggL_law_X6_trace : GoodIn wsL_law wsX6_trace := goodIn_r _ [566, 24, 571, 572, 573, 574] (by decide +kernel) (by decide +kernel)
set_option maxRecDepth 20000 in
theorem gL_law_X6_trace : GoodIn wsL_law (wsV RL 92 RX6 yX6_trace wsX6_trace) := goodIn_app (goodIn_of _ (by decide +kernel)) ggL_law_X6_trace
set_option maxRecDepth 20000 in
theorem ggL_law_X7_trace : GoodIn wsL_law wsX7_trace := goodIn_r _ [570, 202, 575, 576, 577, 578, 579, 580, 581, 582, 583, 584, 585, 586, 587, 588, 589, 590, 591, 592] (by decide +kernel) (by decide +kernel)
set_option maxRecDepth 20000 in
theorem gL_law_X7_trace : GoodIn wsL_law (wsV RL 96 RX7 yX7_trace wsX7_trace) := goodIn_app (goodIn_of _ (by decide +kernel)) ggL_law_X7_trace
theorem dL_law_0 : decode cL_law 0 = .ok (.new 7, 3) := by decide +kernel
theorem dL_law_3 : decode cL_law 3 = .ok (.dup, 1) := by decide +kernel
theorem dL_law_4 : decode cL_law 4 = .ok (.invokespecial 9, 3) := by decide +kernel
theorem dL_law_7 : decode cL_law 7 = .ok (.astore_n 1, 1) := by decide +kernel
theorem dL_law_8 : decode cL_law 8 = .ok (.new 10, 3) := by decide +kernel
theorem dL_law_11 : decode cL_law 11 = .ok (.dup, 1) := by decide +kernel
theorem dL_law_12 : decode cL_law 12 = .ok (.invokespecial 12, 3) := by decide +kernel
theorem dL_law_15 : decode cL_law 15 = .ok (.astore_n 2, 1) := by decide +kernel
theorem dL_law_16 : decode cL_law 16 = .ok (.iconst 0, 1) := by decide +kernel
theorem dL_law_17 : decode cL_law 17 = .ok (.istore_n 3, 1) := by decide +kernel
theorem dL_law_18 : decode cL_law 18 = .ok (.iload_n 3, 1) := by decide +kernel
theorem dL_law_19 : decode cL_law 19 = .ok (.aload_n 0, 1) := by decide +kernel
theorem dL_law_20 : decode cL_law 20 = .ok (.arraylength, 1) := by decide +kernel
theorem dL_law_21 : decode cL_law 21 = .ok (.bipush 6, 2) := by decide +kernel
theorem dL_law_23 : decode cL_law 23 = .ok (.isub, 1) := by decide +kernel
theorem dL_law_24 : decode cL_law 24 = .ok (.if_icmp .gt 655, 3) := by decide +kernel
theorem dL_law_27 : decode cL_law 27 = .ok (.aload_n 0, 1) := by decide +kernel
theorem dL_law_28 : decode cL_law 28 = .ok (.iload_n 3, 1) := by decide +kernel
theorem dL_law_29 : decode cL_law 29 = .ok (.iaload, 1) := by decide +kernel
theorem dL_law_30 : decode cL_law 30 = .ok (.bipush 31, 2) := by decide +kernel
theorem dL_law_32 : decode cL_law 32 = .ok (.iand, 1) := by decide +kernel
theorem dL_law_33 : decode cL_law 33 = .ok (.tableswitch 640 0 18 #[91, 154, 177, 200, 233, 256, 299, 312, 355, 389, 412, 445, 498, 521, 544, 557, 580, 603, 626], 91) := by decide +kernel
theorem dL_law_124 : decode cL_law 124 = .ok (.aload_n 1, 1) := by decide +kernel
theorem dL_law_125 : decode cL_law 125 = .ok (.aload_n 0, 1) := by decide +kernel
theorem dL_law_126 : decode cL_law 126 = .ok (.iload_n 3, 1) := by decide +kernel
theorem dL_law_127 : decode cL_law 127 = .ok (.iconst 1, 1) := by decide +kernel
theorem dL_law_128 : decode cL_law 128 = .ok (.iadd, 1) := by decide +kernel
theorem dL_law_129 : decode cL_law 129 = .ok (.iaload, 1) := by decide +kernel
theorem dL_law_130 : decode cL_law 130 = .ok (.aload_n 0, 1) := by decide +kernel
theorem dL_law_131 : decode cL_law 131 = .ok (.iload_n 3, 1) := by decide +kernel
theorem dL_law_132 : decode cL_law 132 = .ok (.iconst 2, 1) := by decide +kernel
theorem dL_law_133 : decode cL_law 133 = .ok (.iadd, 1) := by decide +kernel
theorem dL_law_134 : decode cL_law 134 = .ok (.iaload, 1) := by decide +kernel
theorem dL_law_135 : decode cL_law 135 = .ok (.aload_n 0, 1) := by decide +kernel
theorem dL_law_136 : decode cL_law 136 = .ok (.iload_n 3, 1) := by decide +kernel
theorem dL_law_137 : decode cL_law 137 = .ok (.iconst 3, 1) := by decide +kernel
theorem dL_law_138 : decode cL_law 138 = .ok (.iadd, 1) := by decide +kernel
theorem dL_law_139 : decode cL_law 139 = .ok (.iaload, 1) := by decide +kernel
theorem dL_law_140 : decode cL_law 140 = .ok (.aload_n 0, 1) := by decide +kernel
theorem dL_law_141 : decode cL_law 141 = .ok (.iload_n 3, 1) := by decide +kernel
theorem dL_law_142 : decode cL_law 142 = .ok (.iconst 4, 1) := by decide +kernel
theorem dL_law_143 : decode cL_law 143 = .ok (.iadd, 1) := by decide +kernel
theorem dL_law_144 : decode cL_law 144 = .ok (.iaload, 1) := by decide +kernel
theorem dL_law_145 : decode cL_law 145 = .ok (.aload_n 0, 1) := by decide +kernel
theorem dL_law_146 : decode cL_law 146 = .ok (.iload_n 3, 1) := by decide +kernel
theorem dL_law_147 : decode cL_law 147 = .ok (.iconst 5, 1) := by decide +kernel
theorem dL_law_148 : decode cL_law 148 = .ok (.iadd, 1) := by decide +kernel
theorem dL_law_149 : decode cL_law 149 = .ok (.iaload, 1) := by decide +kernel
theorem dL_law_150 : decode cL_law 150 = .ok (.invokevirtual 13, 3) := by decide +kernel
theorem dL_law_153 : decode cL_law 153 = .ok (.aload_n 2, 1) := by decide +kernel
theorem dL_law_154 : decode cL_law 154 = .ok (.aload_n 0, 1) := by decide +kernel
theorem dL_law_155 : decode cL_law 155 = .ok (.iload_n 3, 1) := by decide +kernel
theorem dL_law_156 : decode cL_law 156 = .ok (.iconst 1, 1) := by decide +kernel
theorem dL_law_157 : decode cL_law 157 = .ok (.iadd, 1) := by decide +kernel
theorem dL_law_158 : decode cL_law 158 = .ok (.iaload, 1) := by decide +kernel
theorem dL_law_159 : decode cL_law 159 = .ok (.aload_n 0, 1) := by decide +kernel
theorem dL_law_160 : decode cL_law 160 = .ok (.iload_n 3, 1) := by decide +kernel
theorem dL_law_161 : decode cL_law 161 = .ok (.iconst 2, 1) := by decide +kernel
theorem dL_law_162 : decode cL_law 162 = .ok (.iadd, 1) := by decide +kernel
theorem dL_law_163 : decode cL_law 163 = .ok (.iaload, 1) := by decide +kernel
theorem dL_law_164 : decode cL_law 164 = .ok (.aload_n 0, 1) := by decide +kernel
theorem dL_law_165 : decode cL_law 165 = .ok (.iload_n 3, 1) := by decide +kernel
theorem dL_law_166 : decode cL_law 166 = .ok (.iconst 3, 1) := by decide +kernel
theorem dL_law_167 : decode cL_law 167 = .ok (.iadd, 1) := by decide +kernel
theorem dL_law_168 : decode cL_law 168 = .ok (.iaload, 1) := by decide +kernel
theorem dL_law_169 : decode cL_law 169 = .ok (.aload_n 0, 1) := by decide +kernel
theorem dL_law_170 : decode cL_law 170 = .ok (.iload_n 3, 1) := by decide +kernel
theorem dL_law_171 : decode cL_law 171 = .ok (.iconst 4, 1) := by decide +kernel
theorem dL_law_172 : decode cL_law 172 = .ok (.iadd, 1) := by decide +kernel
theorem dL_law_173 : decode cL_law 173 = .ok (.iaload, 1) := by decide +kernel
theorem dL_law_174 : decode cL_law 174 = .ok (.aload_n 0, 1) := by decide +kernel
theorem dL_law_175 : decode cL_law 175 = .ok (.iload_n 3, 1) := by decide +kernel
theorem dL_law_176 : decode cL_law 176 = .ok (.iconst 5, 1) := by decide +kernel
theorem dL_law_177 : decode cL_law 177 = .ok (.iadd, 1) := by decide +kernel
theorem dL_law_178 : decode cL_law 178 = .ok (.iaload, 1) := by decide +kernel
theorem dL_law_179 : decode cL_law 179 = .ok (.invokevirtual 17, 3) := by decide +kernel
theorem dL_law_182 : decode cL_law 182 = .ok (.if_icmp .eq 491, 3) := by decide +kernel
theorem dL_law_185 : decode cL_law 185 = .ok (.iconst 0, 1) := by decide +kernel
theorem dL_law_186 : decode cL_law 186 = .ok (.ireturn, 1) := by decide +kernel
theorem dL_law_187 : decode cL_law 187 = .ok (.aload_n 1, 1) := by decide +kernel
theorem dL_law_188 : decode cL_law 188 = .ok (.aload_n 0, 1) := by decide +kernel
theorem dL_law_189 : decode cL_law 189 = .ok (.iload_n 3, 1) := by decide +kernel
theorem dL_law_190 : decode cL_law 190 = .ok (.iconst 1, 1) := by decide +kernel
theorem dL_law_191 : decode cL_law 191 = .ok (.iadd, 1) := by decide +kernel
theorem dL_law_192 : decode cL_law 192 = .ok (.iaload, 1) := by decide +kernel
theorem dL_law_193 : decode cL_law 193 = .ok (.invokevirtual 18, 3) := by decide +kernel
theorem dL_law_196 : decode cL_law 196 = .ok (.aload_n 2, 1) := by decide +kernel
theorem dL_law_197 : decode cL_law 197 = .ok (.aload_n 0, 1) := by decide +kernel
theorem dL_law_198 : decode cL_law 198 = .ok (.iload_n 3, 1) := by decide +kernel
theorem dL_law_199 : decode cL_law 199 = .ok (.iconst 1, 1) := by decide +kernel
theorem dL_law_200 : decode cL_law 200 = .ok (.iadd, 1) := by decide +kernel
theorem dL_law_201 : decode cL_law 201 = .ok (.iaload, 1) := by decide +kernel
theorem dL_law_202 : decode cL_law 202 = .ok (.invokevirtual 22, 3) := by decide +kernel
theorem dL_law_205 : decode cL_law 205 = .ok (.if_icmp .eq 468, 3) := by decide +kernel
theorem dL_law_208 : decode cL_law 208 = .ok (.iconst 0, 1) := by decide +kernel
theorem dL_law_209 : decode cL_law 209 = .ok (.ireturn, 1) := by decide +kernel
theorem dL_law_210 : decode cL_law 210 = .ok (.aload_n 1, 1) := by decide +kernel
theorem dL_law_211 : decode cL_law 211 = .ok (.aload_n 0, 1) := by decide +kernel
theorem dL_law_212 : decode cL_law 212 = .ok (.iload_n 3, 1) := by decide +kernel
theorem dL_law_213 : decode cL_law 213 = .ok (.iconst 1, 1) := by decide +kernel
theorem dL_law_214 : decode cL_law 214 = .ok (.iadd, 1) := by decide +kernel
theorem dL_law_215 : decode cL_law 215 = .ok (.iaload, 1) := by decide +kernel
theorem dL_law_216 : decode cL_law 216 = .ok (.invokevirtual 23, 3) := by decide +kernel
theorem dL_law_219 : decode cL_law 219 = .ok (.aload_n 2, 1) := by decide +kernel
theorem dL_law_220 : decode cL_law 220 = .ok (.aload_n 0, 1) := by decide +kernel
theorem dL_law_221 : decode cL_law 221 = .ok (.iload_n 3, 1) := by decide +kernel
theorem dL_law_222 : decode cL_law 222 = .ok (.iconst 1, 1) := by decide +kernel
theorem dL_law_223 : decode cL_law 223 = .ok (.iadd, 1) := by decide +kernel
theorem dL_law_224 : decode cL_law 224 = .ok (.iaload, 1) := by decide +kernel
theorem dL_law_225 : decode cL_law 225 = .ok (.invokevirtual 26, 3) := by decide +kernel
theorem dL_law_228 : decode cL_law 228 = .ok (.if_icmp .eq 445, 3) := by decide +kernel
theorem dL_law_231 : decode cL_law 231 = .ok (.iconst 0, 1) := by decide +kernel
theorem dL_law_232 : decode cL_law 232 = .ok (.ireturn, 1) := by decide +kernel
theorem dL_law_233 : decode cL_law 233 = .ok (.aload_n 1, 1) := by decide +kernel
theorem dL_law_234 : decode cL_law 234 = .ok (.aload_n 0, 1) := by decide +kernel
theorem dL_law_235 : decode cL_law 235 = .ok (.iload_n 3, 1) := by decide +kernel
theorem dL_law_236 : decode cL_law 236 = .ok (.iconst 1, 1) := by decide +kernel
theorem dL_law_237 : decode cL_law 237 = .ok (.iadd, 1) := by decide +kernel
theorem dL_law_238 : decode cL_law 238 = .ok (.iaload, 1) := by decide +kernel
theorem dL_law_239 : decode cL_law 239 = .ok (.aload_n 0, 1) := by decide +kernel
theorem dL_law_240 : decode cL_law 240 = .ok (.iload_n 3, 1) := by decide +kernel
theorem dL_law_241 : decode cL_law 241 = .ok (.iconst 2, 1) := by decide +kernel
theorem dL_law_242 : decode cL_law 242 = .ok (.iadd, 1) := by decide +kernel
theorem dL_law_243 : decode cL_law 243 = .ok (.iaload, 1) := by decide +kernel
theorem dL_law_244 : decode cL_law 244 = .ok (.invokevirtual 27, 3) := by decide +kernel
theorem dL_law_247 : decode cL_law 247 = .ok (.aload_n 2, 1) := by decide +kernel
theorem dL_law_248 : decode cL_law 248 = .ok (.aload_n 0, 1) := by decide +kernel
theorem dL_law_249 : decode cL_law 249 = .ok (.iload_n 3, 1) := by decide +kernel
theorem dL_law_250 : decode cL_law 250 = .ok (.iconst 1, 1) := by decide +kernel
theorem dL_law_251 : decode cL_law 251 = .ok (.iadd, 1) := by decide +kernel
theorem dL_law_252 : decode cL_law 252 = .ok (.iaload, 1) := by decide +kernel
theorem dL_law_253 : decode cL_law 253 = .ok (.aload_n 0, 1) := by decide +kernel
theorem dL_law_254 : decode cL_law 254 = .ok (.iload_n 3, 1) := by decide +kernel
theorem dL_law_255 : decode cL_law 255 = .ok (.iconst 2, 1) := by decide +kernel
theorem dL_law_256 : decode cL_law 256 = .ok (.iadd, 1) := by decide +kernel
theorem dL_law_257 : decode cL_law 257 = .ok (.iaload, 1) := by decide +kernel
theorem dL_law_258 : decode cL_law 258 = .ok (.invokevirtual 31, 3) := by decide +kernel
theorem dL_law_261 : decode cL_law 261 = .ok (.if_icmp .eq 412, 3) := by decide +kernel
theorem dL_law_264 : decode cL_law 264 = .ok (.iconst 0, 1) := by decide +kernel
theorem dL_law_265 : decode cL_law 265 = .ok (.ireturn, 1) := by decide +kernel
theorem dL_law_266 : decode cL_law 266 = .ok (.aload_n 1, 1) := by decide +kernel
theorem dL_law_267 : decode cL_law 267 = .ok (.aload_n 0, 1) := by decide +kernel
theorem dL_law_268 : decode cL_law 268 = .ok (.iload_n 3, 1) := by decide +kernel
theorem dL_law_269 : decode cL_law 269 = .ok (.iconst 1, 1) := by decide +kernel
theorem dL_law_270 : decode cL_law 270 = .ok (.iadd, 1) := by decide +kernel
theorem dL_law_271 : decode cL_law 271 = .ok (.iaload, 1) := by decide +kernel
theorem dL_law_272 : decode cL_law 272 = .ok (.invokevirtual 32, 3) := by decide +kernel
theorem dL_law_275 : decode cL_law 275 = .ok (.aload_n 2, 1) := by decide +kernel
theorem dL_law_276 : decode cL_law 276 = .ok (.aload_n 0, 1) := by decide +kernel
theorem dL_law_277 : decode cL_law 277 = .ok (.iload_n 3, 1) := by decide +kernel
theorem dL_law_278 : decode cL_law 278 = .ok (.iconst 1, 1) := by decide +kernel
theorem dL_law_279 : decode cL_law 279 = .ok (.iadd, 1) := by decide +kernel
theorem dL_law_280 : decode cL_law 280 = .ok (.iaload, 1) := by decide +kernel
theorem dL_law_281 : decode cL_law 281 = .ok (.invokevirtual 35, 3) := by decide +kernel
theorem dL_law_284 : decode cL_law 284 = .ok (.if_icmp .eq 389, 3) := by decide +kernel
theorem dL_law_287 : decode cL_law 287 = .ok (.iconst 0, 1) := by decide +kernel
theorem dL_law_288 : decode cL_law 288 = .ok (.ireturn, 1) := by decide +kernel
theorem dL_law_289 : decode cL_law 289 = .ok (.aload_n 1, 1) := by decide +kernel
theorem dL_law_290 : decode cL_law 290 = .ok (.aload_n 0, 1) := by decide +kernel
theorem dL_law_291 : decode cL_law 291 = .ok (.iload_n 3, 1) := by decide +kernel
theorem dL_law_292 : decode cL_law 292 = .ok (.iconst 1, 1) := by decide +kernel
theorem dL_law_293 : decode cL_law 293 = .ok (.iadd, 1) := by decide +kernel
theorem dL_law_294 : decode cL_law 294 = .ok (.iaload, 1) := by decide +kernel
theorem dL_law_295 : decode cL_law 295 = .ok (.aload_n 0, 1) := by decide +kernel
theorem dL_law_296 : decode cL_law 296 = .ok (.iload_n 3, 1) := by decide +kernel
theorem dL_law_297 : decode cL_law 297 = .ok (.iconst 2, 1) := by decide +kernel
theorem dL_law_298 : decode cL_law 298 = .ok (.iadd, 1) := by decide +kernel
theorem dL_law_299 : decode cL_law 299 = .ok (.iaload, 1) := by decide +kernel
theorem dL_law_300 : decode cL_law 300 = .ok (.aload_n 0, 1) := by decide +kernel
theorem dL_law_301 : decode cL_law 301 = .ok (.iload_n 3, 1) := by decide +kernel
theorem dL_law_302 : decode cL_law 302 = .ok (.iconst 3, 1) := by decide +kernel
theorem dL_law_303 : decode cL_law 303 = .ok (.iadd, 1) := by decide +kernel
theorem dL_law_304 : decode cL_law 304 = .ok (.iaload, 1) := by decide +kernel
theorem dL_law_305 : decode cL_law 305 = .ok (.invokevirtual 36, 3) := by decide +kernel
theorem dL_law_308 : decode cL_law 308 = .ok (.aload_n 2, 1) := by decide +kernel
theorem dL_law_309 : decode cL_law 309 = .ok (.aload_n 0, 1) := by decide +kernel
theorem dL_law_310 : decode cL_law 310 = .ok (.iload_n 3, 1) := by decide +kernel
theorem dL_law_311 : decode cL_law 311 = .ok (.iconst 1, 1) := by decide +kernel
theorem dL_law_312 : decode cL_law 312 = .ok (.iadd, 1) := by decide +kernel
theorem dL_law_313 : decode cL_law 313 = .ok (.iaload, 1) := by decide +kernel
theorem dL_law_314 : decode cL_law 314 = .ok (.aload_n 0, 1) := by decide +kernel
theorem dL_law_315 : decode cL_law 315 = .ok (.iload_n 3, 1) := by decide +kernel
theorem dL_law_316 : decode cL_law 316 = .ok (.iconst 2, 1) := by decide +kernel
theorem dL_law_317 : decode cL_law 317 = .ok (.iadd, 1) := by decide +kernel
theorem dL_law_318 : decode cL_law 318 = .ok (.iaload, 1) := by decide +kernel
theorem dL_law_319 : decode cL_law 319 = .ok (.aload_n 0, 1) := by decide +kernel
theorem dL_law_320 : decode cL_law 320 = .ok (.iload_n 3, 1) := by decide +kernel
theorem dL_law_321 : decode cL_law 321 = .ok (.iconst 3, 1) := by decide +kernel
theorem dL_law_322 : decode cL_law 322 = .ok (.iadd, 1) := by decide +kernel
theorem dL_law_323 : decode cL_law 323 = .ok (.iaload, 1) := by decide +kernel
theorem dL_law_324 : decode cL_law 324 = .ok (.invokevirtual 40, 3) := by decide +kernel
theorem dL_law_327 : decode cL_law 327 = .ok (.if_icmp .eq 346, 3) := by decide +kernel
theorem dL_law_330 : decode cL_law 330 = .ok (.iconst 0, 1) := by decide +kernel
theorem dL_law_331 : decode cL_law 331 = .ok (.ireturn, 1) := by decide +kernel
theorem dL_law_332 : decode cL_law 332 = .ok (.aload_n 1, 1) := by decide +kernel
theorem dL_law_333 : decode cL_law 333 = .ok (.invokevirtual 41, 3) := by decide +kernel
theorem dL_law_336 : decode cL_law 336 = .ok (.aload_n 2, 1) := by decide +kernel
theorem dL_law_337 : decode cL_law 337 = .ok (.invokevirtual 45, 3) := by decide +kernel
theorem dL_law_340 : decode cL_law 340 = .ok (.if_icmp .eq 333, 3) := by decide +kernel
theorem dL_law_343 : decode cL_law 343 = .ok (.iconst 0, 1) := by decide +kernel
theorem dL_law_344 : decode cL_law 344 = .ok (.ireturn, 1) := by decide +kernel
theorem dL_law_345 : decode cL_law 345 = .ok (.aload_n 1, 1) := by decide +kernel
theorem dL_law_346 : decode cL_law 346 = .ok (.aload_n 0, 1) := by decide +kernel
theorem dL_law_347 : decode cL_law 347 = .ok (.iload_n 3, 1) := by decide +kernel
theorem dL_law_348 : decode cL_law 348 = .ok (.iconst 1, 1) := by decide +kernel
theorem dL_law_349 : decode cL_law 349 = .ok (.iadd, 1) := by decide +kernel
theorem dL_law_350 : decode cL_law 350 = .ok (.iaload, 1) := by decide +kernel
theorem dL_law_351 : decode cL_law 351 = .ok (.aload_n 0, 1) := by decide +kernel
theorem dL_law_352 : decode cL_law 352 = .ok (.iload_n 3, 1) := by decide +kernel
theorem dL_law_353 : decode cL_law 353 = .ok (.iconst 2, 1) := by decide +kernel
theorem dL_law_354 : decode cL_law 354 = .ok (.iadd, 1) := by decide +kernel
theorem dL_law_355 : decode cL_law 355 = .ok (.iaload, 1) := by decide +kernel
theorem dL_law_356 : decode cL_law 356 = .ok (.aload_n 0, 1) := by decide +kernel
theorem dL_law_357 : decode cL_law 357 = .ok (.iload_n 3, 1) := by decide +kernel
theorem dL_law_358 : decode cL_law 358 = .ok (.iconst 3, 1) := by decide +kernel
theorem dL_law_359 : decode cL_law 359 = .ok (.iadd, 1) := by decide +kernel
theorem dL_law_360 : decode cL_law 360 = .ok (.iaload, 1) := by decide +kernel
theorem dL_law_361 : decode cL_law 361 = .ok (.invokevirtual 46, 3) := by decide +kernel
theorem dL_law_364 : decode cL_law 364 = .ok (.aload_n 2, 1) := by decide +kernel
theorem dL_law_365 : decode cL_law 365 = .ok (.aload_n 0, 1) := by decide +kernel
theorem dL_law_366 : decode cL_law 366 = .ok (.iload_n 3, 1) := by decide +kernel
theorem dL_law_367 : decode cL_law 367 = .ok (.iconst 1, 1) := by decide +kernel
theorem dL_law_368 : decode cL_law 368 = .ok (.iadd, 1) := by decide +kernel
theorem dL_law_369 : decode cL_law 369 = .ok (.iaload, 1) := by decide +kernel
theorem dL_law_370 : decode cL_law 370 = .ok (.aload_n 0, 1) := by decide +kernel
theorem dL_law_371 : decode cL_law 371 = .ok (.iload_n 3, 1) := by decide +kernel
theorem dL_law_372 : decode cL_law 372 = .ok (.iconst 2, 1) := by decide +kernel
theorem dL_law_373 : decode cL_law 373 = .ok (.iadd, 1) := by decide +kernel
theorem dL_law_374 : decode cL_law 374 = .ok (.iaload, 1) := by decide +kernel
theorem dL_law_375 : decode cL_law 375 = .ok (.aload_n 0, 1) := by decide +kernel
theorem dL_law_376 : decode cL_law 376 = .ok (.iload_n 3, 1) := by decide +kernel
theorem dL_law_377 : decode cL_law 377 = .ok (.iconst 3, 1) := by decide +kernel
theorem dL_law_378 : decode cL_law 378 = .ok (.iadd, 1) := by decide +kernel
theorem dL_law_379 : decode cL_law 379 = .ok (.iaload, 1) := by decide +kernel
theorem dL_law_380 : decode cL_law 380 = .ok (.invokevirtual 49, 3) := by decide +kernel
theorem dL_law_383 : decode cL_law 383 = .ok (.if_icmp .eq 290, 3) := by decide +kernel
theorem dL_law_386 : decode cL_law 386 = .ok (.iconst 0, 1) := by decide +kernel
theorem dL_law_387 : decode cL_law 387 = .ok (.ireturn, 1) := by decide +kernel
theorem dL_law_388 : decode cL_law 388 = .ok (.aload_n 1, 1) := by decide +kernel
theorem dL_law_389 : decode cL_law 389 = .ok (.aload_n 0, 1) := by decide +kernel
theorem dL_law_390 : decode cL_law 390 = .ok (.iload_n 3, 1) := by decide +kernel
theorem dL_law_391 : decode cL_law 391 = .ok (.iconst 1, 1) := by decide +kernel
theorem dL_law_392 : decode cL_law 392 = .ok (.iadd, 1) := by decide +kernel
theorem dL_law_393 : decode cL_law 393 = .ok (.iaload, 1) := by decide +kernel
theorem dL_law_394 : decode cL_law 394 = .ok (.aload_n 0, 1) := by decide +kernel
theorem dL_law_395 : decode cL_law 395 = .ok (.iload_n 3, 1) := by decide +kernel
theorem dL_law_396 : decode cL_law 396 = .ok (.iconst 2, 1) := by decide +kernel
theorem dL_law_397 : decode cL_law 397 = .ok (.iadd, 1) := by decide +kernel
theorem dL_law_398 : decode cL_law 398 = .ok (.iaload, 1) := by decide +kernel
theorem dL_law_399 : decode cL_law 399 = .ok (.invokevirtual 50, 3) := by decide +kernel
theorem dL_law_402 : decode cL_law 402 = .ok (.aload_n 2, 1) := by decide +kernel
theorem dL_law_403 : decode cL_law 403 = .ok (.aload_n 0, 1) := by decide +kernel
theorem dL_law_404 : decode cL_law 404 = .ok (.iload_n 3, 1) := by decide +kernel
theorem dL_law_405 : decode cL_law 405 = .ok (.iconst 1, 1) := by decide +kernel
theorem dL_law_406 : decode cL_law 406 = .ok (.iadd, 1) := by decide +kernel
theorem dL_law_407 : decode cL_law 407 = .ok (.iaload, 1) := by decide +kernel
theorem dL_law_408 : decode cL_law 408 = .ok (.aload_n 0, 1) := by decide +kernel
theorem dL_law_409 : decode cL_law 409 = .ok (.iload_n 3, 1) := by decide +kernel
theorem dL_law_410 : decode cL_law 410 = .ok (.iconst 2, 1) := by decide +kernel
theorem dL_law_411 : decode cL_law 411 = .ok (.iadd, 1) := by decide +kernel
theorem dL_law_412 : decode cL_law 412 = .ok (.iaload, 1) := by decide +kernel
theorem dL_law_413 : decode cL_law 413 = .ok (.invokevirtual 54, 3) := by decide +kernel
theorem dL_law_416 : decode cL_law 416 = .ok (.lcmp, 1) := by decide +kernel
theorem dL_law_417 : decode cL_law 417 = .ok (.ifCond .eq 256, 3) := by decide +kernel
theorem dL_law_420 : decode cL_law 420 = .ok (.iconst 0, 1) := by decide +kernel
theorem dL_law_421 : decode cL_law 421 = .ok (.ireturn, 1) := by decide +kernel
theorem dL_law_422 : decode cL_law 422 = .ok (.aload_n 1, 1) := by decide +kernel
theorem dL_law_423 : decode cL_law 423 = .ok (.aload_n 0, 1) := by decide +kernel
theorem dL_law_424 : decode cL_law 424 = .ok (.iload_n 3, 1) := by decide +kernel
theorem dL_law_425 : decode cL_law 425 = .ok (.iconst 1, 1) := by decide +kernel
theorem dL_law_426 : decode cL_law 426 = .ok (.iadd, 1) := by decide +kernel
theorem dL_law_427 : decode cL_law 427 = .ok (.iaload, 1) := by decide +kernel
theorem dL_law_428 : decode cL_law 428 = .ok (.invokevirtual 55, 3) := by decide +kernel
theorem dL_law_431 : decode cL_law 431 = .ok (.aload_n 2, 1) := by decide +kernel
theorem dL_law_432 : decode cL_law 432 = .ok (.aload_n 0, 1) := by decide +kernel
theorem dL_law_433 : decode cL_law 433 = .ok (.iload_n 3, 1) := by decide +kernel
theorem dL_law_434 : decode cL_law 434 = .ok (.iconst 1, 1) := by decide +kernel
theorem dL_law_435 : decode cL_law 435 = .ok (.iadd, 1) := by decide +kernel
theorem dL_law_436 : decode cL_law 436 = .ok (.iaload, 1) := by decide +kernel
theorem dL_law_437 : decode cL_law 437 = .ok (.invokevirtual 58, 3) := by decide +kernel
theorem dL_law_440 : decode cL_law 440 = .ok (.if_icmp .eq 233, 3) := by decide +kernel
theorem dL_law_443 : decode cL_law 443 = .ok (.iconst 0, 1) := by decide +kernel
theorem dL_law_444 : decode cL_law 444 = .ok (.ireturn, 1) := by decide +kernel
theorem dL_law_445 : decode cL_law 445 = .ok (.aload_n 1, 1) := by decide +kernel
theorem dL_law_446 : decode cL_law 446 = .ok (.aload_n 0, 1) := by decide +kernel
theorem dL_law_447 : decode cL_law 447 = .ok (.iload_n 3, 1) := by decide +kernel
theorem dL_law_448 : decode cL_law 448 = .ok (.iconst 1, 1) := by decide +kernel
theorem dL_law_449 : decode cL_law 449 = .ok (.iadd, 1) := by decide +kernel
theorem dL_law_450 : decode cL_law 450 = .ok (.iaload, 1) := by decide +kernel
theorem dL_law_451 : decode cL_law 451 = .ok (.aload_n 0, 1) := by decide +kernel
theorem dL_law_452 : decode cL_law 452 = .ok (.iload_n 3, 1) := by decide +kernel
theorem dL_law_453 : decode cL_law 453 = .ok (.iconst 2, 1) := by decide +kernel
theorem dL_law_454 : decode cL_law 454 = .ok (.iadd, 1) := by decide +kernel
theorem dL_law_455 : decode cL_law 455 = .ok (.iaload, 1) := by decide +kernel
theorem dL_law_456 : decode cL_law 456 = .ok (.invokevirtual 59, 3) := by decide +kernel
theorem dL_law_459 : decode cL_law 459 = .ok (.aload_n 2, 1) := by decide +kernel
theorem dL_law_460 : decode cL_law 460 = .ok (.aload_n 0, 1) := by decide +kernel
theorem dL_law_461 : decode cL_law 461 = .ok (.iload_n 3, 1) := by decide +kernel
theorem dL_law_462 : decode cL_law 462 = .ok (.iconst 1, 1) := by decide +kernel
theorem dL_law_463 : decode cL_law 463 = .ok (.iadd, 1) := by decide +kernel
theorem dL_law_464 : decode cL_law 464 = .ok (.iaload, 1) := by decide +kernel
theorem dL_law_465 : decode cL_law 465 = .ok (.aload_n 0, 1) := by decide +kernel
theorem dL_law_466 : decode cL_law 466 = .ok (.iload_n 3, 1) := by decide +kernel
theorem dL_law_467 : decode cL_law 467 = .ok (.iconst 2, 1) := by decide +kernel
theorem dL_law_468 : decode cL_law 468 = .ok (.iadd, 1) := by decide +kernel
theorem dL_law_469 : decode cL_law 469 = .ok (.iaload, 1) := by decide +kernel
theorem dL_law_470 : decode cL_law 470 = .ok (.invokevirtual 62, 3) := by decide +kernel
theorem dL_law_473 : decode cL_law 473 = .ok (.if_icmp .eq 200, 3) := by decide +kernel
theorem dL_law_476 : decode cL_law 476 = .ok (.iconst 0, 1) := by decide +kernel
theorem dL_law_477 : decode cL_law 477 = .ok (.ireturn, 1) := by decide +kernel
theorem dL_law_478 : decode cL_law 478 = .ok (.aload_n 1, 1) := by decide +kernel
theorem dL_law_479 : decode cL_law 479 = .ok (.aload_n 0, 1) := by decide +kernel
theorem dL_law_480 : decode cL_law 480 = .ok (.iload_n 3, 1) := by decide +kernel
theorem dL_law_481 : decode cL_law 481 = .ok (.iconst 1, 1) := by decide +kernel
theorem dL_law_482 : decode cL_law 482 = .ok (.iadd, 1) := by decide +kernel
theorem dL_law_483 : decode cL_law 483 = .ok (.iaload, 1) := by decide +kernel
theorem dL_law_484 : decode cL_law 484 = .ok (.aload_n 0, 1) := by decide +kernel
theorem dL_law_485 : decode cL_law 485 = .ok (.iload_n 3, 1) := by decide +kernel
theorem dL_law_486 : decode cL_law 486 = .ok (.iconst 2, 1) := by decide +kernel
theorem dL_law_487 : decode cL_law 487 = .ok (.iadd, 1) := by decide +kernel
theorem dL_law_488 : decode cL_law 488 = .ok (.iaload, 1) := by decide +kernel
theorem dL_law_489 : decode cL_law 489 = .ok (.aload_n 0, 1) := by decide +kernel
theorem dL_law_490 : decode cL_law 490 = .ok (.iload_n 3, 1) := by decide +kernel
theorem dL_law_491 : decode cL_law 491 = .ok (.iconst 3, 1) := by decide +kernel
theorem dL_law_492 : decode cL_law 492 = .ok (.iadd, 1) := by decide +kernel
theorem dL_law_493 : decode cL_law 493 = .ok (.iaload, 1) := by decide +kernel
theorem dL_law_494 : decode cL_law 494 = .ok (.aload_n 0, 1) := by decide +kernel
theorem dL_law_495 : decode cL_law 495 = .ok (.iload_n 3, 1) := by decide +kernel
theorem dL_law_496 : decode cL_law 496 = .ok (.iconst 4, 1) := by decide +kernel
theorem dL_law_497 : decode cL_law 497 = .ok (.iadd, 1) := by decide +kernel
theorem dL_law_498 : decode cL_law 498 = .ok (.iaload, 1) := by decide +kernel
theorem dL_law_499 : decode cL_law 499 = .ok (.invokevirtual 63, 3) := by decide +kernel
theorem dL_law_502 : decode cL_law 502 = .ok (.aload_n 2, 1) := by decide +kernel
theorem dL_law_503 : decode cL_law 503 = .ok (.aload_n 0, 1) := by decide +kernel
theorem dL_law_504 : decode cL_law 504 = .ok (.iload_n 3, 1) := by decide +kernel
theorem dL_law_505 : decode cL_law 505 = .ok (.iconst 1, 1) := by decide +kernel
theorem dL_law_506 : decode cL_law 506 = .ok (.iadd, 1) := by decide +kernel
theorem dL_law_507 : decode cL_law 507 = .ok (.iaload, 1) := by decide +kernel
theorem dL_law_508 : decode cL_law 508 = .ok (.aload_n 0, 1) := by decide +kernel
theorem dL_law_509 : decode cL_law 509 = .ok (.iload_n 3, 1) := by decide +kernel
theorem dL_law_510 : decode cL_law 510 = .ok (.iconst 2, 1) := by decide +kernel
theorem dL_law_511 : decode cL_law 511 = .ok (.iadd, 1) := by decide +kernel
theorem dL_law_512 : decode cL_law 512 = .ok (.iaload, 1) := by decide +kernel
theorem dL_law_513 : decode cL_law 513 = .ok (.aload_n 0, 1) := by decide +kernel
theorem dL_law_514 : decode cL_law 514 = .ok (.iload_n 3, 1) := by decide +kernel
theorem dL_law_515 : decode cL_law 515 = .ok (.iconst 3, 1) := by decide +kernel
theorem dL_law_516 : decode cL_law 516 = .ok (.iadd, 1) := by decide +kernel
theorem dL_law_517 : decode cL_law 517 = .ok (.iaload, 1) := by decide +kernel
theorem dL_law_518 : decode cL_law 518 = .ok (.aload_n 0, 1) := by decide +kernel
theorem dL_law_519 : decode cL_law 519 = .ok (.iload_n 3, 1) := by decide +kernel
theorem dL_law_520 : decode cL_law 520 = .ok (.iconst 4, 1) := by decide +kernel
theorem dL_law_521 : decode cL_law 521 = .ok (.iadd, 1) := by decide +kernel
theorem dL_law_522 : decode cL_law 522 = .ok (.iaload, 1) := by decide +kernel
theorem dL_law_523 : decode cL_law 523 = .ok (.invokevirtual 67, 3) := by decide +kernel
theorem dL_law_526 : decode cL_law 526 = .ok (.if_icmp .eq 147, 3) := by decide +kernel
theorem dL_law_529 : decode cL_law 529 = .ok (.iconst 0, 1) := by decide +kernel
theorem dL_law_530 : decode cL_law 530 = .ok (.ireturn, 1) := by decide +kernel
theorem dL_law_531 : decode cL_law 531 = .ok (.aload_n 1, 1) := by decide +kernel
theorem dL_law_532 : decode cL_law 532 = .ok (.aload_n 0, 1) := by decide +kernel
theorem dL_law_533 : decode cL_law 533 = .ok (.iload_n 3, 1) := by decide +kernel
theorem dL_law_534 : decode cL_law 534 = .ok (.iconst 1, 1) := by decide +kernel
theorem dL_law_535 : decode cL_law 535 = .ok (.iadd, 1) := by decide +kernel
theorem dL_law_536 : decode cL_law 536 = .ok (.iaload, 1) := by decide +kernel
theorem dL_law_537 : decode cL_law 537 = .ok (.invokevirtual 68, 3) := by decide +kernel
theorem dL_law_540 : decode cL_law 540 = .ok (.aload_n 2, 1) := by decide +kernel
theorem dL_law_541 : decode cL_law 541 = .ok (.aload_n 0, 1) := by decide +kernel
theorem dL_law_542 : decode cL_law 542 = .ok (.iload_n 3, 1) := by decide +kernel
theorem dL_law_543 : decode cL_law 543 = .ok (.iconst 1, 1) := by decide +kernel
theorem dL_law_544 : decode cL_law 544 = .ok (.iadd, 1) := by decide +kernel
theorem dL_law_545 : decode cL_law 545 = .ok (.iaload, 1) := by decide +kernel
theorem dL_law_546 : decode cL_law 546 = .ok (.invokevirtual 71, 3) := by decide +kernel
theorem dL_law_549 : decode cL_law 549 = .ok (.if_icmp .eq 124, 3) := by decide +kernel
theorem dL_law_552 : decode cL_law 552 = .ok (.iconst 0, 1) := by decide +kernel
theorem dL_law_553 : decode cL_law 553 = .ok (.ireturn, 1) := by decide +kernel
theorem dL_law_554 : decode cL_law 554 = .ok (.aload_n 1, 1) := by decide +kernel
theorem dL_law_555 : decode cL_law 555 = .ok (.aload_n 0, 1) := by decide +kernel
theorem dL_law_556 : decode cL_law 556 = .ok (.iload_n 3, 1) := by decide +kernel
theorem dL_law_557 : decode cL_law 557 = .ok (.iconst 1, 1) := by decide +kernel
theorem dL_law_558 : decode cL_law 558 = .ok (.iadd, 1) := by decide +kernel
theorem dL_law_559 : decode cL_law 559 = .ok (.iaload, 1) := by decide +kernel
theorem dL_law_560 : decode cL_law 560 = .ok (.invokevirtual 72, 3) := by decide +kernel
theorem dL_law_563 : decode cL_law 563 = .ok (.aload_n 2, 1) := by decide +kernel
theorem dL_law_564 : decode cL_law 564 = .ok (.aload_n 0, 1) := by decide +kernel
theorem dL_law_565 : decode cL_law 565 = .ok (.iload_n 3, 1) := by decide +kernel
theorem dL_law_566 : decode cL_law 566 = .ok (.iconst 1, 1) := by decide +kernel
theorem dL_law_567 : decode cL_law 567 = .ok (.iadd, 1) := by decide +kernel
theorem dL_law_568 : decode cL_law 568 = .ok (.iaload, 1) := by decide +kernel
theorem dL_law_569 : decode cL_law 569 = .ok (.invokevirtual 75, 3) := by decide +kernel
theorem dL_law_572 : decode cL_law 572 = .ok (.if_icmp .eq 101, 3) := by decide +kernel
theorem dL_law_575 : decode cL_law 575 = .ok (.iconst 0, 1) := by decide +kernel
theorem dL_law_576 : decode cL_law 576 = .ok (.ireturn, 1) := by decide +kernel
theorem dL_law_577 : decode cL_law 577 = .ok (.aload_n 1, 1) := by decide +kernel
theorem dL_law_578 : decode cL_law 578 = .ok (.invokevirtual 76, 3) := by decide +kernel
