theorem dX11_init_230 : decode cX11_init 230 = .ok (.dup, 1) := by decide +kernel
theorem dX11_init_231 : decode cX11_init 231 = .ok (.iconst 5, 1) := by decide +kernel
theorem dX11_init_232 : decode cX11_init 232 = .ok (.iconst (-1), 1) := by decide +kernel
theorem dX11_init_233 : decode cX11_init 233 = .ok (.iastore, 1) := by decide +kernel
theorem dX11_init_234 : decode cX11_init 234 = .ok (.putfield 70, 3) := by decide +kernel
theorem dX11_init_237 : decode cX11_init 237 = .ok (.aload_n 0, 1) := by decide +kernel
theorem dX11_init_238 : decode cX11_init 238 = .ok (.bipush 6, 2) := by decide +kernel
theorem dX11_init_240 : decode cX11_init 240 = .ok (.newarray .int, 2) := by decide +kernel
theorem dX11_init_242 : decode cX11_init 242 = .ok (.dup, 1) := by decide +kernel
theorem dX11_init_243 : decode cX11_init 243 = .ok (.iconst 0, 1) := by decide +kernel
theorem dX11_init_244 : decode cX11_init 244 = .ok (.iconst (-1), 1) := by decide +kernel
theorem dX11_init_245 : decode cX11_init 245 = .ok (.iastore, 1) := by decide +kernel
theorem dX11_init_246 : decode cX11_init 246 = .ok (.dup, 1) := by decide +kernel
theorem dX11_init_247 : decode cX11_init 247 = .ok (.iconst 1, 1) := by decide +kernel
theorem dX11_init_248 : decode cX11_init 248 = .ok (.iconst (-1), 1) := by decide +kernel
theorem dX11_init_249 : decode cX11_init 249 = .ok (.iastore, 1) := by decide +kernel
theorem dX11_init_250 : decode cX11_init 250 = .ok (.dup, 1) := by decide +kernel
theorem dX11_init_251 : decode cX11_init 251 = .ok (.iconst 2, 1) := by decide +kernel
theorem dX11_init_252 : decode cX11_init 252 = .ok (.iconst (-1), 1) := by decide +kernel
theorem dX11_init_253 : decode cX11_init 253 = .ok (.iastore, 1) := by decide +kernel
theorem dX11_init_254 : decode cX11_init 254 = .ok (.dup, 1) := by decide +kernel
theorem dX11_init_255 : decode cX11_init 255 = .ok (.iconst 3, 1) := by decide +kernel
theorem dX11_init_256 : decode cX11_init 256 = .ok (.iconst (-1), 1) := by decide +kernel
theorem dX11_init_257 : decode cX11_init 257 = .ok (.iastore, 1) := by decide +kernel
theorem dX11_init_258 : decode cX11_init 258 = .ok (.dup, 1) := by decide +kernel
theorem dX11_init_259 : decode cX11_init 259 = .ok (.iconst 4, 1) := by decide +kernel
theorem dX11_init_260 : decode cX11_init 260 = .ok (.iconst (-1), 1) := by decide +kernel
theorem dX11_init_261 : decode cX11_init 261 = .ok (.iastore, 1) := by decide +kernel
theorem dX11_init_262 : decode cX11_init 262 = .ok (.dup, 1) := by decide +kernel
theorem dX11_init_263 : decode cX11_init 263 = .ok (.iconst 5, 1) := by decide +kernel
theorem dX11_init_264 : decode cX11_init 264 = .ok (.iconst (-1), 1) := by decide +kernel
theorem dX11_init_265 : decode cX11_init 265 = .ok (.iastore, 1) := by decide +kernel
theorem dX11_init_266 : decode cX11_init 266 = .ok (.putfield 73, 3) := by decide +kernel
theorem dX11_init_269 : decode cX11_init 269 = .ok (.aload_n 0, 1) := by decide +kernel
theorem dX11_init_270 : decode cX11_init 270 = .ok (.bipush 6, 2) := by decide +kernel
theorem dX11_init_272 : decode cX11_init 272 = .ok (.newarray .boolean, 2) := by decide +kernel
theorem dX11_init_274 : decode cX11_init 274 = .ok (.putfield 76, 3) := by decide +kernel
theorem dX11_init_277 : decode cX11_init 277 = .ok (.aload_n 0, 1) := by decide +kernel
theorem dX11_init_278 : decode cX11_init 278 = .ok (.bipush 6, 2) := by decide +kernel
theorem dX11_init_280 : decode cX11_init 280 = .ok (.newarray .boolean, 2) := by decide +kernel
theorem dX11_init_282 : decode cX11_init 282 = .ok (.putfield 79, 3) := by decide +kernel
theorem dX11_init_285 : decode cX11_init 285 = .ok (.aload_n 0, 1) := by decide +kernel
theorem dX11_init_286 : decode cX11_init 286 = .ok (.bipush 6, 2) := by decide +kernel
theorem dX11_init_288 : decode cX11_init 288 = .ok (.newarray .int, 2) := by decide +kernel
theorem dX11_init_290 : decode cX11_init 290 = .ok (.putfield 82, 3) := by decide +kernel
theorem dX11_init_293 : decode cX11_init 293 = .ok (.aload_n 0, 1) := by decide +kernel
theorem dX11_init_294 : decode cX11_init 294 = .ok (.bipush 6, 2) := by decide +kernel
theorem dX11_init_296 : decode cX11_init 296 = .ok (.newarray .int, 2) := by decide +kernel
theorem dX11_init_298 : decode cX11_init 298 = .ok (.putfield 85, 3) := by decide +kernel
theorem dX11_init_301 : decode cX11_init 301 = .ok (.aload_n 0, 1) := by decide +kernel
theorem dX11_init_302 : decode cX11_init 302 = .ok (.bipush 6, 2) := by decide +kernel
theorem dX11_init_304 : decode cX11_init 304 = .ok (.newarray .int, 2) := by decide +kernel
theorem dX11_init_306 : decode cX11_init 306 = .ok (.putfield 88, 3) := by decide +kernel
theorem dX11_init_309 : decode cX11_init 309 = .ok (.aload_n 0, 1) := by decide +kernel
theorem dX11_init_310 : decode cX11_init 310 = .ok (.bipush 6, 2) := by decide +kernel
theorem dX11_init_312 : decode cX11_init 312 = .ok (.newarray .int, 2) := by decide +kernel
theorem dX11_init_314 : decode cX11_init 314 = .ok (.putfield 91, 3) := by decide +kernel
theorem dX11_init_317 : decode cX11_init 317 = .ok (.aload_n 0, 1) := by decide +kernel
theorem dX11_init_318 : decode cX11_init 318 = .ok (.bipush 18, 2) := by decide +kernel
theorem dX11_init_320 : decode cX11_init 320 = .ok (.newarray .int, 2) := by decide +kernel
theorem dX11_init_322 : decode cX11_init 322 = .ok (.putfield 94, 3) := by decide +kernel
theorem dX11_init_325 : decode cX11_init 325 = .ok (.aload_n 0, 1) := by decide +kernel
theorem dX11_init_326 : decode cX11_init 326 = .ok (.bipush 18, 2) := by decide +kernel
theorem dX11_init_328 : decode cX11_init 328 = .ok (.newarray .int, 2) := by decide +kernel
theorem dX11_init_330 : decode cX11_init 330 = .ok (.putfield 97, 3) := by decide +kernel
theorem dX11_init_333 : decode cX11_init 333 = .ok (.aload_n 0, 1) := by decide +kernel
theorem dX11_init_334 : decode cX11_init 334 = .ok (.sipush 240, 3) := by decide +kernel
theorem dX11_init_337 : decode cX11_init 337 = .ok (.newarray .int, 2) := by decide +kernel
theorem dX11_init_339 : decode cX11_init 339 = .ok (.putfield 100, 3) := by decide +kernel
theorem dX11_init_342 : decode cX11_init 342 = .ok (.return_, 1) := by decide +kernel
theorem dX11_copy_0 : decode cX11_copy 0 = .ok (.aload_n 0, 1) := by decide +kernel
theorem dX11_copy_1 : decode cX11_copy 1 = .ok (.iconst 0, 1) := by decide +kernel
theorem dX11_copy_2 : decode cX11_copy 2 = .ok (.aload_n 1, 1) := by decide +kernel
theorem dX11_copy_3 : decode cX11_copy 3 = .ok (.iconst 0, 1) := by decide +kernel
theorem dX11_copy_4 : decode cX11_copy 4 = .ok (.aload_n 0, 1) := by decide +kernel
theorem dX11_copy_5 : decode cX11_copy 5 = .ok (.arraylength, 1) := by decide +kernel
theorem dX11_copy_6 : decode cX11_copy 6 = .ok (.invokestatic 103, 3) := by decide +kernel
theorem dX11_copy_9 : decode cX11_copy 9 = .ok (.return_, 1) := by decide +kernel
theorem dX11_copy__0 : decode cX11_copy_ 0 = .ok (.aload_n 0, 1) := by decide +kernel
theorem dX11_copy__1 : decode cX11_copy_ 1 = .ok (.iconst 0, 1) := by decide +kernel
theorem dX11_copy__2 : decode cX11_copy_ 2 = .ok (.aload_n 1, 1) := by decide +kernel
theorem dX11_copy__3 : decode cX11_copy_ 3 = .ok (.iconst 0, 1) := by decide +kernel
theorem dX11_copy__4 : decode cX11_copy_ 4 = .ok (.aload_n 0, 1) := by decide +kernel
theorem dX11_copy__5 : decode cX11_copy_ 5 = .ok (.arraylength, 1) := by decide +kernel
theorem dX11_copy__6 : decode cX11_copy_ 6 = .ok (.invokestatic 103, 3) := by decide +kernel
theorem dX11_copy__9 : decode cX11_copy_ 9 = .ok (.return_, 1) := by decide +kernel
theorem dX11_become_0 : decode cX11_become 0 = .ok (.aload_n 0, 1) := by decide +kernel
theorem dX11_become_1 : decode cX11_become 1 = .ok (.aload_n 1, 1) := by decide +kernel
theorem dX11_become_2 : decode cX11_become 2 = .ok (.getfield 109, 3) := by decide +kernel
theorem dX11_become_5 : decode cX11_become 5 = .ok (.putfield 109, 3) := by decide +kernel
theorem dX11_become_8 : decode cX11_become 8 = .ok (.aload_n 0, 1) := by decide +kernel
theorem dX11_become_9 : decode cX11_become 9 = .ok (.aload_n 1, 1) := by decide +kernel
theorem dX11_become_10 : decode cX11_become 10 = .ok (.getfield 113, 3) := by decide +kernel
theorem dX11_become_13 : decode cX11_become 13 = .ok (.putfield 113, 3) := by decide +kernel
theorem dX11_become_16 : decode cX11_become 16 = .ok (.aload_n 0, 1) := by decide +kernel
theorem dX11_become_17 : decode cX11_become 17 = .ok (.aload_n 1, 1) := by decide +kernel
theorem dX11_become_18 : decode cX11_become 18 = .ok (.getfield 116, 3) := by decide +kernel
theorem dX11_become_21 : decode cX11_become 21 = .ok (.putfield 116, 3) := by decide +kernel
theorem dX11_become_24 : decode cX11_become 24 = .ok (.aload_n 0, 1) := by decide +kernel
theorem dX11_become_25 : decode cX11_become 25 = .ok (.aload_n 1, 1) := by decide +kernel
theorem dX11_become_26 : decode cX11_become 26 = .ok (.getfield 119, 3) := by decide +kernel
theorem dX11_become_29 : decode cX11_become 29 = .ok (.putfield 119, 3) := by decide +kernel
theorem dX11_become_32 : decode cX11_become 32 = .ok (.aload_n 0, 1) := by decide +kernel
theorem dX11_become_33 : decode cX11_become 33 = .ok (.aload_n 1, 1) := by decide +kernel
theorem dX11_become_34 : decode cX11_become 34 = .ok (.getfield 122, 3) := by decide +kernel
theorem dX11_become_37 : decode cX11_become 37 = .ok (.putfield 122, 3) := by decide +kernel
theorem dX11_become_40 : decode cX11_become 40 = .ok (.aload_n 0, 1) := by decide +kernel
theorem dX11_become_41 : decode cX11_become 41 = .ok (.aload_n 1, 1) := by decide +kernel
theorem dX11_become_42 : decode cX11_become 42 = .ok (.getfield 125, 3) := by decide +kernel
theorem dX11_become_45 : decode cX11_become 45 = .ok (.putfield 125, 3) := by decide +kernel
theorem dX11_become_48 : decode cX11_become 48 = .ok (.aload_n 1, 1) := by decide +kernel
theorem dX11_become_49 : decode cX11_become 49 = .ok (.getfield 9, 3) := by decide +kernel
theorem dX11_become_52 : decode cX11_become 52 = .ok (.aload_n 0, 1) := by decide +kernel
theorem dX11_become_53 : decode cX11_become 53 = .ok (.getfield 9, 3) := by decide +kernel
theorem dX11_become_56 : decode cX11_become 56 = .ok (.invokestatic 128, 3) := by decide +kernel
theorem dX11_become_59 : decode cX11_become 59 = .ok (.aload_n 1, 1) := by decide +kernel
theorem dX11_become_60 : decode cX11_become 60 = .ok (.getfield 15, 3) := by decide +kernel
theorem dX11_become_63 : decode cX11_become 63 = .ok (.aload_n 0, 1) := by decide +kernel
theorem dX11_become_64 : decode cX11_become 64 = .ok (.getfield 15, 3) := by decide +kernel
theorem dX11_become_67 : decode cX11_become 67 = .ok (.invokestatic 128, 3) := by decide +kernel
theorem dX11_become_70 : decode cX11_become 70 = .ok (.aload_n 1, 1) := by decide +kernel
theorem dX11_become_71 : decode cX11_become 71 = .ok (.getfield 18, 3) := by decide +kernel
theorem dX11_become_74 : decode cX11_become 74 = .ok (.aload_n 0, 1) := by decide +kernel
theorem dX11_become_75 : decode cX11_become 75 = .ok (.getfield 18, 3) := by decide +kernel
theorem dX11_become_78 : decode cX11_become 78 = .ok (.invokestatic 128, 3) := by decide +kernel
theorem dX11_become_81 : decode cX11_become 81 = .ok (.aload_n 1, 1) := by decide +kernel
theorem dX11_become_82 : decode cX11_become 82 = .ok (.getfield 21, 3) := by decide +kernel
theorem dX11_become_85 : decode cX11_become 85 = .ok (.aload_n 0, 1) := by decide +kernel
theorem dX11_become_86 : decode cX11_become 86 = .ok (.getfield 21, 3) := by decide +kernel
theorem dX11_become_89 : decode cX11_become 89 = .ok (.invokestatic 128, 3) := by decide +kernel
theorem dX11_become_92 : decode cX11_become 92 = .ok (.aload_n 1, 1) := by decide +kernel
theorem dX11_become_93 : decode cX11_become 93 = .ok (.getfield 24, 3) := by decide +kernel
theorem dX11_become_96 : decode cX11_become 96 = .ok (.aload_n 0, 1) := by decide +kernel
theorem dX11_become_97 : decode cX11_become 97 = .ok (.getfield 24, 3) := by decide +kernel
theorem dX11_become_100 : decode cX11_become 100 = .ok (.invokestatic 128, 3) := by decide +kernel
theorem dX11_become_103 : decode cX11_become 103 = .ok (.aload_n 1, 1) := by decide +kernel
theorem dX11_become_104 : decode cX11_become 104 = .ok (.getfield 27, 3) := by decide +kernel
theorem dX11_become_107 : decode cX11_become 107 = .ok (.aload_n 0, 1) := by decide +kernel
theorem dX11_become_108 : decode cX11_become 108 = .ok (.getfield 27, 3) := by decide +kernel
theorem dX11_become_111 : decode cX11_become 111 = .ok (.invokestatic 128, 3) := by decide +kernel
theorem dX11_become_114 : decode cX11_become 114 = .ok (.aload_n 1, 1) := by decide +kernel
theorem dX11_become_115 : decode cX11_become 115 = .ok (.getfield 30, 3) := by decide +kernel
theorem dX11_become_118 : decode cX11_become 118 = .ok (.aload_n 0, 1) := by decide +kernel
theorem dX11_become_119 : decode cX11_become 119 = .ok (.getfield 30, 3) := by decide +kernel
theorem dX11_become_122 : decode cX11_become 122 = .ok (.invokestatic 128, 3) := by decide +kernel
theorem dX11_become_125 : decode cX11_become 125 = .ok (.aload_n 1, 1) := by decide +kernel
theorem dX11_become_126 : decode cX11_become 126 = .ok (.getfield 33, 3) := by decide +kernel
theorem dX11_become_129 : decode cX11_become 129 = .ok (.aload_n 0, 1) := by decide +kernel
theorem dX11_become_130 : decode cX11_become 130 = .ok (.getfield 33, 3) := by decide +kernel
theorem dX11_become_133 : decode cX11_become 133 = .ok (.invokestatic 132, 3) := by decide +kernel
theorem dX11_become_136 : decode cX11_become 136 = .ok (.aload_n 1, 1) := by decide +kernel
theorem dX11_become_137 : decode cX11_become 137 = .ok (.getfield 37, 3) := by decide +kernel
theorem dX11_become_140 : decode cX11_become 140 = .ok (.aload_n 0, 1) := by decide +kernel
theorem dX11_become_141 : decode cX11_become 141 = .ok (.getfield 37, 3) := by decide +kernel
theorem dX11_become_144 : decode cX11_become 144 = .ok (.invokestatic 128, 3) := by decide +kernel
theorem dX11_become_147 : decode cX11_become 147 = .ok (.aload_n 1, 1) := by decide +kernel
theorem dX11_become_148 : decode cX11_become 148 = .ok (.getfield 40, 3) := by decide +kernel
theorem dX11_become_151 : decode cX11_become 151 = .ok (.aload_n 0, 1) := by decide +kernel
theorem dX11_become_152 : decode cX11_become 152 = .ok (.getfield 40, 3) := by decide +kernel
theorem dX11_become_155 : decode cX11_become 155 = .ok (.invokestatic 128, 3) := by decide +kernel
theorem dX11_become_158 : decode cX11_become 158 = .ok (.aload_n 1, 1) := by decide +kernel
theorem dX11_become_159 : decode cX11_become 159 = .ok (.getfield 43, 3) := by decide +kernel
theorem dX11_become_162 : decode cX11_become 162 = .ok (.aload_n 0, 1) := by decide +kernel
theorem dX11_become_163 : decode cX11_become 163 = .ok (.getfield 43, 3) := by decide +kernel
theorem dX11_become_166 : decode cX11_become 166 = .ok (.invokestatic 128, 3) := by decide +kernel
theorem dX11_become_169 : decode cX11_become 169 = .ok (.aload_n 1, 1) := by decide +kernel
theorem dX11_become_170 : decode cX11_become 170 = .ok (.getfield 46, 3) := by decide +kernel
theorem dX11_become_173 : decode cX11_become 173 = .ok (.aload_n 0, 1) := by decide +kernel
theorem dX11_become_174 : decode cX11_become 174 = .ok (.getfield 46, 3) := by decide +kernel
theorem dX11_become_177 : decode cX11_become 177 = .ok (.invokestatic 128, 3) := by decide +kernel
theorem dX11_become_180 : decode cX11_become 180 = .ok (.aload_n 1, 1) := by decide +kernel
theorem dX11_become_181 : decode cX11_become 181 = .ok (.getfield 49, 3) := by decide +kernel
theorem dX11_become_184 : decode cX11_become 184 = .ok (.aload_n 0, 1) := by decide +kernel
theorem dX11_become_185 : decode cX11_become 185 = .ok (.getfield 49, 3) := by decide +kernel
theorem dX11_become_188 : decode cX11_become 188 = .ok (.invokestatic 128, 3) := by decide +kernel
theorem dX11_become_191 : decode cX11_become 191 = .ok (.aload_n 1, 1) := by decide +kernel
theorem dX11_become_192 : decode cX11_become 192 = .ok (.getfield 52, 3) := by decide +kernel
theorem dX11_become_195 : decode cX11_become 195 = .ok (.aload_n 0, 1) := by decide +kernel
theorem dX11_become_196 : decode cX11_become 196 = .ok (.getfield 52, 3) := by decide +kernel
theorem dX11_become_199 : decode cX11_become 199 = .ok (.invokestatic 128, 3) := by decide +kernel
theorem dX11_become_202 : decode cX11_become 202 = .ok (.aload_n 1, 1) := by decide +kernel
theorem dX11_become_203 : decode cX11_become 203 = .ok (.getfield 55, 3) := by decide +kernel
theorem dX11_become_206 : decode cX11_become 206 = .ok (.aload_n 0, 1) := by decide +kernel
theorem dX11_become_207 : decode cX11_become 207 = .ok (.getfield 55, 3) := by decide +kernel
theorem dX11_become_210 : decode cX11_become 210 = .ok (.invokestatic 128, 3) := by decide +kernel
theorem dX11_become_213 : decode cX11_become 213 = .ok (.aload_n 1, 1) := by decide +kernel
theorem dX11_become_214 : decode cX11_become 214 = .ok (.getfield 58, 3) := by decide +kernel
theorem dX11_become_217 : decode cX11_become 217 = .ok (.aload_n 0, 1) := by decide +kernel
theorem dX11_become_218 : decode cX11_become 218 = .ok (.getfield 58, 3) := by decide +kernel
theorem dX11_become_221 : decode cX11_become 221 = .ok (.invokestatic 128, 3) := by decide +kernel
theorem dX11_become_224 : decode cX11_become 224 = .ok (.aload_n 1, 1) := by decide +kernel
theorem dX11_become_225 : decode cX11_become 225 = .ok (.getfield 61, 3) := by decide +kernel
theorem dX11_become_228 : decode cX11_become 228 = .ok (.aload_n 0, 1) := by decide +kernel
theorem dX11_become_229 : decode cX11_become 229 = .ok (.getfield 61, 3) := by decide +kernel
theorem dX11_become_232 : decode cX11_become 232 = .ok (.invokestatic 128, 3) := by decide +kernel
theorem dX11_become_235 : decode cX11_become 235 = .ok (.aload_n 1, 1) := by decide +kernel
theorem dX11_become_236 : decode cX11_become 236 = .ok (.getfield 64, 3) := by decide +kernel
theorem dX11_become_239 : decode cX11_become 239 = .ok (.aload_n 0, 1) := by decide +kernel
theorem dX11_become_240 : decode cX11_become 240 = .ok (.getfield 64, 3) := by decide +kernel
theorem dX11_become_243 : decode cX11_become 243 = .ok (.invokestatic 128, 3) := by decide +kernel
theorem dX11_become_246 : decode cX11_become 246 = .ok (.aload_n 1, 1) := by decide +kernel
theorem dX11_become_247 : decode cX11_become 247 = .ok (.getfield 67, 3) := by decide +kernel
theorem dX11_become_250 : decode cX11_become 250 = .ok (.aload_n 0, 1) := by decide +kernel
theorem dX11_become_251 : decode cX11_become 251 = .ok (.getfield 67, 3) := by decide +kernel
theorem dX11_become_254 : decode cX11_become 254 = .ok (.invokestatic 128, 3) := by decide +kernel
theorem dX11_become_257 : decode cX11_become 257 = .ok (.aload_n 1, 1) := by decide +kernel
theorem dX11_become_258 : decode cX11_become 258 = .ok (.getfield 70, 3) := by decide +kernel
theorem dX11_become_261 : decode cX11_become 261 = .ok (.aload_n 0, 1) := by decide +kernel
theorem dX11_become_262 : decode cX11_become 262 = .ok (.getfield 70, 3) := by decide +kernel
theorem dX11_become_265 : decode cX11_become 265 = .ok (.invokestatic 128, 3) := by decide +kernel
theorem dX11_become_268 : decode cX11_become 268 = .ok (.aload_n 1, 1) := by decide +kernel
theorem dX11_become_269 : decode cX11_become 269 = .ok (.getfield 73, 3) := by decide +kernel
theorem dX11_become_272 : decode cX11_become 272 = .ok (.aload_n 0, 1) := by decide +kernel
theorem dX11_become_273 : decode cX11_become 273 = .ok (.getfield 73, 3) := by decide +kernel
theorem dX11_become_276 : decode cX11_become 276 = .ok (.invokestatic 128, 3) := by decide +kernel
theorem dX11_become_279 : decode cX11_become 279 = .ok (.aload_n 1, 1) := by decide +kernel
theorem dX11_become_280 : decode cX11_become 280 = .ok (.getfield 76, 3) := by decide +kernel
theorem dX11_become_283 : decode cX11_become 283 = .ok (.aload_n 0, 1) := by decide +kernel
theorem dX11_become_284 : decode cX11_become 284 = .ok (.getfield 76, 3) := by decide +kernel
theorem dX11_become_287 : decode cX11_become 287 = .ok (.invokestatic 132, 3) := by decide +kernel
theorem dX11_become_290 : decode cX11_become 290 = .ok (.aload_n 1, 1) := by decide +kernel
theorem dX11_become_291 : decode cX11_become 291 = .ok (.getfield 79, 3) := by decide +kernel
theorem dX11_become_294 : decode cX11_become 294 = .ok (.aload_n 0, 1) := by decide +kernel
theorem dX11_become_295 : decode cX11_become 295 = .ok (.getfield 79, 3) := by decide +kernel
theorem dX11_become_298 : decode cX11_become 298 = .ok (.invokestatic 132, 3) := by decide +kernel
theorem dX11_become_301 : decode cX11_become 301 = .ok (.aload_n 1, 1) := by decide +kernel
theorem dX11_become_302 : decode cX11_become 302 = .ok (.getfield 82, 3) := by decide +kernel
theorem dX11_become_305 : decode cX11_become 305 = .ok (.aload_n 0, 1) := by decide +kernel
theorem dX11_become_306 : decode cX11_become 306 = .ok (.getfield 82, 3) := by decide +kernel
theorem dX11_become_309 : decode cX11_become 309 = .ok (.invokestatic 128, 3) := by decide +kernel
theorem dX11_become_312 : decode cX11_become 312 = .ok (.aload_n 1, 1) := by decide +kernel
theorem dX11_become_313 : decode cX11_become 313 = .ok (.getfield 85, 3) := by decide +kernel
theorem dX11_become_316 : decode cX11_become 316 = .ok (.aload_n 0, 1) := by decide +kernel
theorem dX11_become_317 : decode cX11_become 317 = .ok (.getfield 85, 3) := by decide +kernel
theorem dX11_become_320 : decode cX11_become 320 = .ok (.invokestatic 128, 3) := by decide +kernel
theorem dX11_become_323 : decode cX11_become 323 = .ok (.aload_n 1, 1) := by decide +kernel
theorem dX11_become_324 : decode cX11_become 324 = .ok (.getfield 88, 3) := by decide +kernel
theorem dX11_become_327 : decode cX11_become 327 = .ok (.aload_n 0, 1) := by decide +kernel
theorem dX11_become_328 : decode cX11_become 328 = .ok (.getfield 88, 3) := by decide +kernel
theorem dX11_become_331 : decode cX11_become 331 = .ok (.invokestatic 128, 3) := by decide +kernel
theorem dX11_become_334 : decode cX11_become 334 = .ok (.aload_n 1, 1) := by decide +kernel
theorem dX11_become_335 : decode cX11_become 335 = .ok (.getfield 91, 3) := by decide +kernel
theorem dX11_become_338 : decode cX11_become 338 = .ok (.aload_n 0, 1) := by decide +kernel
theorem dX11_become_339 : decode cX11_become 339 = .ok (.getfield 91, 3) := by decide +kernel
theorem dX11_become_342 : decode cX11_become 342 = .ok (.invokestatic 128, 3) := by decide +kernel
theorem dX11_become_345 : decode cX11_become 345 = .ok (.aload_n 1, 1) := by decide +kernel
theorem dX11_become_346 : decode cX11_become 346 = .ok (.getfield 94, 3) := by decide +kernel
theorem dX11_become_349 : decode cX11_become 349 = .ok (.aload_n 0, 1) := by decide +kernel
theorem dX11_become_350 : decode cX11_become 350 = .ok (.getfield 94, 3) := by decide +kernel
theorem dX11_become_353 : decode cX11_become 353 = .ok (.invokestatic 128, 3) := by decide +kernel
theorem dX11_become_356 : decode cX11_become 356 = .ok (.aload_n 1, 1) := by decide +kernel
theorem dX11_become_357 : decode cX11_become 357 = .ok (.getfield 97, 3) := by decide +kernel
theorem dX11_become_360 : decode cX11_become 360 = .ok (.aload_n 0, 1) := by decide +kernel
theorem dX11_become_361 : decode cX11_become 361 = .ok (.getfield 97, 3) := by decide +kernel
theorem dX11_become_364 : decode cX11_become 364 = .ok (.invokestatic 128, 3) := by decide +kernel
theorem dX11_become_367 : decode cX11_become 367 = .ok (.aload_n 1, 1) := by decide +kernel
theorem dX11_become_368 : decode cX11_become 368 = .ok (.getfield 100, 3) := by decide +kernel
theorem dX11_become_371 : decode cX11_become 371 = .ok (.aload_n 0, 1) := by decide +kernel
theorem dX11_become_372 : decode cX11_become 372 = .ok (.getfield 100, 3) := by decide +kernel
theorem dX11_become_375 : decode cX11_become 375 = .ok (.invokestatic 128, 3) := by decide +kernel
theorem dX11_become_378 : decode cX11_become 378 = .ok (.return_, 1) := by decide +kernel
theorem dX11_isKnot_0 : decode cX11_isKnot 0 = .ok (.iconst 0, 1) := by decide +kernel
theorem dX11_isKnot_1 : decode cX11_isKnot 1 = .ok (.istore_n 3, 1) := by decide +kernel
theorem dX11_isKnot_2 : decode cX11_isKnot 2 = .ok (.iconst 0, 1) := by decide +kernel
theorem dX11_isKnot_3 : decode cX11_isKnot 3 = .ok (.istore 4, 2) := by decide +kernel
theorem dX11_isKnot_5 : decode cX11_isKnot 5 = .ok (.iload 4, 2) := by decide +kernel
theorem dX11_isKnot_7 : decode cX11_isKnot 7 = .ok (.aload_n 0, 1) := by decide +kernel
theorem dX11_isKnot_8 : decode cX11_isKnot 8 = .ok (.getfield 21, 3) := by decide +kernel
theorem dX11_isKnot_11 : decode cX11_isKnot 11 = .ok (.iload_n 1, 1) := by decide +kernel
theorem dX11_isKnot_12 : decode cX11_isKnot 12 = .ok (.iaload, 1) := by decide +kernel
theorem dX11_isKnot_13 : decode cX11_isKnot 13 = .ok (.if_icmp .ge 35, 3) := by decide +kernel
theorem dX11_isKnot_16 : decode cX11_isKnot 16 = .ok (.iload_n 3, 1) := by decide +kernel
theorem dX11_isKnot_17 : decode cX11_isKnot 17 = .ok (.ifCond .ne 19, 3) := by decide +kernel
theorem dX11_isKnot_20 : decode cX11_isKnot 20 = .ok (.aload_n 0, 1) := by decide +kernel
theorem dX11_isKnot_21 : decode cX11_isKnot 21 = .ok (.getfield 24, 3) := by decide +kernel
theorem dX11_isKnot_24 : decode cX11_isKnot 24 = .ok (.bipush 8, 2) := by decide +kernel
theorem dX11_isKnot_26 : decode cX11_isKnot 26 = .ok (.iload_n 1, 1) := by decide +kernel
theorem dX11_isKnot_27 : decode cX11_isKnot 27 = .ok (.imul, 1) := by decide +kernel
theorem dX11_isKnot_28 : decode cX11_isKnot 28 = .ok (.iload 4, 2) := by decide +kernel
theorem dX11_isKnot_30 : decode cX11_isKnot 30 = .ok (.iadd, 1) := by decide +kernel
theorem dX11_isKnot_31 : decode cX11_isKnot 31 = .ok (.iaload, 1) := by decide +kernel
theorem dX11_isKnot_32 : decode cX11_isKnot 32 = .ok (.iload_n 2, 1) := by decide +kernel
theorem dX11_isKnot_33 : decode cX11_isKnot 33 = .ok (.if_icmp .ne 7, 3) := by decide +kernel
theorem dX11_isKnot_36 : decode cX11_isKnot 36 = .ok (.iconst 1, 1) := by decide +kernel
theorem dX11_isKnot_37 : decode cX11_isKnot 37 = .ok (.goto 4, 3) := by decide +kernel
theorem dX11_isKnot_40 : decode cX11_isKnot 40 = .ok (.iconst 0, 1) := by decide +kernel
theorem dX11_isKnot_41 : decode cX11_isKnot 41 = .ok (.istore_n 3, 1) := by decide +kernel
theorem dX11_isKnot_42 : decode cX11_isKnot 42 = .ok (.iinc 4 1, 3) := by decide +kernel
theorem dX11_isKnot_45 : decode cX11_isKnot 45 = .ok (.goto (-40), 3) := by decide +kernel
theorem dX11_isKnot_48 : decode cX11_isKnot 48 = .ok (.iload_n 3, 1) := by decide +kernel
theorem dX11_isKnot_49 : decode cX11_isKnot 49 = .ok (.ireturn, 1) := by decide +kernel
theorem dX11_place_0 : decode cX11_place 0 = .ok (.iconst 0, 1) := by decide +kernel
theorem dX11_place_1 : decode cX11_place 1 = .ok (.istore_n 3, 1) := by decide +kernel
theorem dX11_place_2 : decode cX11_place 2 = .ok (.iconst 0, 1) := by decide +kernel
theorem dX11_place_3 : decode cX11_place 3 = .ok (.istore 4, 2) := by decide +kernel
theorem dX11_place_5 : decode cX11_place 5 = .ok (.iload 4, 2) := by decide +kernel
theorem dX11_place_7 : decode cX11_place 7 = .ok (.aload_n 0, 1) := by decide +kernel
theorem dX11_place_8 : decode cX11_place 8 = .ok (.getfield 15, 3) := by decide +kernel
theorem dX11_place_11 : decode cX11_place 11 = .ok (.iload_n 1, 1) := by decide +kernel
theorem dX11_place_12 : decode cX11_place 12 = .ok (.iaload, 1) := by decide +kernel
theorem dX11_place_13 : decode cX11_place 13 = .ok (.if_icmp .ge 39, 3) := by decide +kernel
theorem dX11_place_16 : decode cX11_place 16 = .ok (.aload_n 0, 1) := by decide +kernel
theorem dX11_place_17 : decode cX11_place 17 = .ok (.iload_n 1, 1) := by decide +kernel
theorem dX11_place_18 : decode cX11_place 18 = .ok (.iload 4, 2) := by decide +kernel
theorem dX11_place_20 : decode cX11_place 20 = .ok (.invokevirtual 135, 3) := by decide +kernel
theorem dX11_place_23 : decode cX11_place 23 = .ok (.ifCond .eq 11, 3) := by decide +kernel
theorem dX11_place_26 : decode cX11_place 26 = .ok (.iload 4, 2) := by decide +kernel
theorem dX11_place_28 : decode cX11_place 28 = .ok (.iconst 1, 1) := by decide +kernel
theorem dX11_place_29 : decode cX11_place 29 = .ok (.iadd, 1) := by decide +kernel
theorem dX11_place_30 : decode cX11_place 30 = .ok (.istore_n 3, 1) := by decide +kernel
theorem dX11_place_31 : decode cX11_place 31 = .ok (.goto 15, 3) := by decide +kernel
theorem dX11_place_34 : decode cX11_place 34 = .ok (.iload 4, 2) := by decide +kernel
theorem dX11_place_36 : decode cX11_place 36 = .ok (.iconst 1, 1) := by decide +kernel
theorem dX11_place_37 : decode cX11_place 37 = .ok (.iadd, 1) := by decide +kernel
theorem dX11_place_38 : decode cX11_place 38 = .ok (.iload_n 3, 1) := by decide +kernel
theorem dX11_place_39 : decode cX11_place 39 = .ok (.isub, 1) := by decide +kernel
theorem dX11_place_40 : decode cX11_place 40 = .ok (.iload_n 2, 1) := by decide +kernel
theorem dX11_place_41 : decode cX11_place 41 = .ok (.if_icmp .ne 5, 3) := by decide +kernel
theorem dX11_place_44 : decode cX11_place 44 = .ok (.iload_n 3, 1) := by decide +kernel
theorem dX11_place_45 : decode cX11_place 45 = .ok (.ireturn, 1) := by decide +kernel
theorem dX11_place_46 : decode cX11_place 46 = .ok (.iinc 4 1, 3) := by decide +kernel
theorem dX11_place_49 : decode cX11_place 49 = .ok (.goto (-44), 3) := by decide +kernel
theorem dX11_place_52 : decode cX11_place 52 = .ok (.iconst (-1), 1) := by decide +kernel
theorem dX11_place_53 : decode cX11_place 53 = .ok (.ireturn, 1) := by decide +kernel
theorem dX11_clear_0 : decode cX11_clear 0 = .ok (.iconst 0, 1) := by decide +kernel
theorem dX11_clear_1 : decode cX11_clear 1 = .ok (.istore_n 2, 1) := by decide +kernel
theorem dX11_clear_2 : decode cX11_clear 2 = .ok (.iconst 0, 1) := by decide +kernel
theorem dX11_clear_3 : decode cX11_clear 3 = .ok (.istore_n 3, 1) := by decide +kernel
theorem dX11_clear_4 : decode cX11_clear 4 = .ok (.iconst 0, 1) := by decide +kernel
theorem dX11_clear_5 : decode cX11_clear 5 = .ok (.istore 4, 2) := by decide +kernel
theorem dX11_clear_7 : decode cX11_clear 7 = .ok (.iload 4, 2) := by decide +kernel
theorem dX11_clear_9 : decode cX11_clear 9 = .ok (.aload_n 0, 1) := by decide +kernel
theorem dX11_clear_10 : decode cX11_clear 10 = .ok (.getfield 15, 3) := by decide +kernel
theorem dX11_clear_13 : decode cX11_clear 13 = .ok (.iload_n 1, 1) := by decide +kernel
theorem dX11_clear_14 : decode cX11_clear 14 = .ok (.iaload, 1) := by decide +kernel
theorem dX11_clear_15 : decode cX11_clear 15 = .ok (.if_icmp .ge 38, 3) := by decide +kernel
theorem dX11_clear_18 : decode cX11_clear 18 = .ok (.aload_n 0, 1) := by decide +kernel
theorem dX11_clear_19 : decode cX11_clear 19 = .ok (.iload_n 1, 1) := by decide +kernel
theorem dX11_clear_20 : decode cX11_clear 20 = .ok (.iload 4, 2) := by decide +kernel
theorem dX11_clear_22 : decode cX11_clear 22 = .ok (.invokevirtual 135, 3) := by decide +kernel
theorem dX11_clear_25 : decode cX11_clear 25 = .ok (.ifCond .eq 11, 3) := by decide +kernel
theorem dX11_clear_28 : decode cX11_clear 28 = .ok (.iload 4, 2) := by decide +kernel
theorem dX11_clear_30 : decode cX11_clear 30 = .ok (.iconst 1, 1) := by decide +kernel
theorem dX11_clear_31 : decode cX11_clear 31 = .ok (.iadd, 1) := by decide +kernel
theorem dX11_clear_32 : decode cX11_clear 32 = .ok (.istore_n 3, 1) := by decide +kernel
theorem dX11_clear_33 : decode cX11_clear 33 = .ok (.goto 14, 3) := by decide +kernel
theorem dX11_clear_36 : decode cX11_clear 36 = .ok (.iload_n 2, 1) := by decide +kernel
theorem dX11_clear_37 : decode cX11_clear 37 = .ok (.iload 4, 2) := by decide +kernel
theorem dX11_clear_39 : decode cX11_clear 39 = .ok (.iconst 1, 1) := by decide +kernel
theorem dX11_clear_40 : decode cX11_clear 40 = .ok (.iadd, 1) := by decide +kernel
theorem dX11_clear_41 : decode cX11_clear 41 = .ok (.iload_n 3, 1) := by decide +kernel
theorem dX11_clear_42 : decode cX11_clear 42 = .ok (.isub, 1) := by decide +kernel
theorem dX11_clear_43 : decode cX11_clear 43 = .ok (.invokestatic 139, 3) := by decide +kernel
theorem dX11_clear_46 : decode cX11_clear 46 = .ok (.istore_n 2, 1) := by decide +kernel
theorem dX11_clear_47 : decode cX11_clear 47 = .ok (.iinc 4 1, 3) := by decide +kernel
theorem dX11_clear_50 : decode cX11_clear 50 = .ok (.goto (-43), 3) := by decide +kernel
theorem dX11_clear_53 : decode cX11_clear 53 = .ok (.iload_n 2, 1) := by decide +kernel
theorem dX11_clear_54 : decode cX11_clear 54 = .ok (.ireturn, 1) := by decide +kernel
theorem dX11_find_0 : decode cX11_find 0 = .ok (.iconst (-1), 1) := by decide +kernel
theorem dX11_find_1 : decode cX11_find 1 = .ok (.istore_n 3, 1) := by decide +kernel
theorem dX11_find_2 : decode cX11_find 2 = .ok (.iconst 0, 1) := by decide +kernel
theorem dX11_find_3 : decode cX11_find 3 = .ok (.istore 4, 2) := by decide +kernel
theorem dX11_find_5 : decode cX11_find 5 = .ok (.iload 4, 2) := by decide +kernel
theorem dX11_find_7 : decode cX11_find 7 = .ok (.aload_n 0, 1) := by decide +kernel
theorem dX11_find_8 : decode cX11_find 8 = .ok (.getfield 113, 3) := by decide +kernel
theorem dX11_find_11 : decode cX11_find 11 = .ok (.if_icmp .ge 55, 3) := by decide +kernel
theorem dX11_find_14 : decode cX11_find 14 = .ok (.aload_n 0, 1) := by decide +kernel
theorem dX11_find_15 : decode cX11_find 15 = .ok (.getfield 9, 3) := by decide +kernel
theorem dX11_find_18 : decode cX11_find 18 = .ok (.iload 4, 2) := by decide +kernel
theorem dX11_find_20 : decode cX11_find 20 = .ok (.iaload, 1) := by decide +kernel
theorem dX11_find_21 : decode cX11_find 21 = .ok (.iload_n 1, 1) := by decide +kernel
theorem dX11_find_22 : decode cX11_find 22 = .ok (.if_icmp .ne 38, 3) := by decide +kernel
theorem dX11_find_25 : decode cX11_find 25 = .ok (.iload_n 3, 1) := by decide +kernel
theorem dX11_find_26 : decode cX11_find 26 = .ok (.iconst (-1), 1) := by decide +kernel
theorem dX11_find_27 : decode cX11_find 27 = .ok (.if_icmp .eq 19, 3) := by decide +kernel
theorem dX11_find_30 : decode cX11_find 30 = .ok (.aload_n 0, 1) := by decide +kernel
theorem dX11_find_31 : decode cX11_find 31 = .ok (.getfield 15, 3) := by decide +kernel
theorem dX11_find_34 : decode cX11_find 34 = .ok (.iload 4, 2) := by decide +kernel
theorem dX11_find_36 : decode cX11_find 36 = .ok (.iaload, 1) := by decide +kernel
theorem dX11_find_37 : decode cX11_find 37 = .ok (.aload_n 0, 1) := by decide +kernel
theorem dX11_find_38 : decode cX11_find 38 = .ok (.getfield 15, 3) := by decide +kernel
theorem dX11_find_41 : decode cX11_find 41 = .ok (.iload_n 3, 1) := by decide +kernel
theorem dX11_find_42 : decode cX11_find 42 = .ok (.iaload, 1) := by decide +kernel
theorem dX11_find_43 : decode cX11_find 43 = .ok (.if_icmp .ge 17, 3) := by decide +kernel
theorem dX11_find_46 : decode cX11_find 46 = .ok (.aload_n 0, 1) := by decide +kernel
theorem dX11_find_47 : decode cX11_find 47 = .ok (.iload 4, 2) := by decide +kernel
theorem dX11_find_49 : decode cX11_find 49 = .ok (.iload_n 2, 1) := by decide +kernel
theorem dX11_find_50 : decode cX11_find 50 = .ok (.invokevirtual 145, 3) := by decide +kernel
theorem dX11_find_53 : decode cX11_find 53 = .ok (.iconst (-1), 1) := by decide +kernel
theorem dX11_find_54 : decode cX11_find 54 = .ok (.if_icmp .eq 6, 3) := by decide +kernel
theorem dX11_find_57 : decode cX11_find 57 = .ok (.iload 4, 2) := by decide +kernel
theorem dX11_find_59 : decode cX11_find 59 = .ok (.istore_n 3, 1) := by decide +kernel
theorem dX11_find_60 : decode cX11_find 60 = .ok (.iinc 4 1, 3) := by decide +kernel
theorem dX11_find_63 : decode cX11_find 63 = .ok (.goto (-58), 3) := by decide +kernel
theorem dX11_find_66 : decode cX11_find 66 = .ok (.iload_n 3, 1) := by decide +kernel
theorem dX11_find_67 : decode cX11_find 67 = .ok (.ireturn, 1) := by decide +kernel
theorem dX11_add_0 : decode cX11_add 0 = .ok (.aload_n 0, 1) := by decide +kernel
theorem dX11_add_1 : decode cX11_add 1 = .ok (.getfield 9, 3) := by decide +kernel
theorem dX11_add_4 : decode cX11_add 4 = .ok (.aload_n 0, 1) := by decide +kernel
theorem dX11_add_5 : decode cX11_add 5 = .ok (.getfield 113, 3) := by decide +kernel
theorem dX11_add_8 : decode cX11_add 8 = .ok (.iload_n 1, 1) := by decide +kernel
theorem dX11_add_9 : decode cX11_add 9 = .ok (.iastore, 1) := by decide +kernel
theorem dX11_add_10 : decode cX11_add 10 = .ok (.aload_n 0, 1) := by decide +kernel
theorem dX11_add_11 : decode cX11_add 11 = .ok (.getfield 15, 3) := by decide +kernel
theorem dX11_add_14 : decode cX11_add 14 = .ok (.aload_n 0, 1) := by decide +kernel
theorem dX11_add_15 : decode cX11_add 15 = .ok (.getfield 113, 3) := by decide +kernel
theorem dX11_add_18 : decode cX11_add 18 = .ok (.iload_n 2, 1) := by decide +kernel
theorem dX11_add_19 : decode cX11_add 19 = .ok (.iastore, 1) := by decide +kernel
theorem dX11_add_20 : decode cX11_add 20 = .ok (.aload_n 0, 1) := by decide +kernel
theorem dX11_add_21 : decode cX11_add 21 = .ok (.getfield 18, 3) := by decide +kernel
theorem dX11_add_24 : decode cX11_add 24 = .ok (.aload_n 0, 1) := by decide +kernel
theorem dX11_add_25 : decode cX11_add 25 = .ok (.getfield 113, 3) := by decide +kernel
theorem dX11_add_28 : decode cX11_add 28 = .ok (.iload_n 3, 1) := by decide +kernel
theorem dX11_add_29 : decode cX11_add 29 = .ok (.iastore, 1) := by decide +kernel
theorem dX11_add_30 : decode cX11_add 30 = .ok (.aload_n 0, 1) := by decide +kernel
theorem dX11_add_31 : decode cX11_add 31 = .ok (.getfield 21, 3) := by decide +kernel
theorem dX11_add_34 : decode cX11_add 34 = .ok (.aload_n 0, 1) := by decide +kernel
theorem dX11_add_35 : decode cX11_add 35 = .ok (.getfield 113, 3) := by decide +kernel
theorem dX11_add_38 : decode cX11_add 38 = .ok (.iconst 0, 1) := by decide +kernel
theorem dX11_add_39 : decode cX11_add 39 = .ok (.iastore, 1) := by decide +kernel
theorem dX11_add_40 : decode cX11_add 40 = .ok (.aload_n 0, 1) := by decide +kernel
theorem dX11_add_41 : decode cX11_add 41 = .ok (.dup, 1) := by decide +kernel
theorem dX11_add_42 : decode cX11_add 42 = .ok (.getfield 113, 3) := by decide +kernel
theorem dX11_add_45 : decode cX11_add 45 = .ok (.iconst 1, 1) := by decide +kernel
theorem dX11_add_46 : decode cX11_add 46 = .ok (.iadd, 1) := by decide +kernel
theorem dX11_add_47 : decode cX11_add 47 = .ok (.putfield 113, 3) := by decide +kernel
theorem dX11_add_50 : decode cX11_add 50 = .ok (.aload_n 0, 1) := by decide +kernel
theorem dX11_add_51 : decode cX11_add 51 = .ok (.getfield 113, 3) := by decide +kernel
theorem dX11_add_54 : decode cX11_add 54 = .ok (.iconst 1, 1) := by decide +kernel
theorem dX11_add_55 : decode cX11_add 55 = .ok (.isub, 1) := by decide +kernel
theorem dX11_add_56 : decode cX11_add 56 = .ok (.ireturn, 1) := by decide +kernel
theorem dX11_addKnot_0 : decode cX11_addKnot 0 = .ok (.aload_n 0, 1) := by decide +kernel
theorem dX11_addKnot_1 : decode cX11_addKnot 1 = .ok (.getfield 24, 3) := by decide +kernel
theorem dX11_addKnot_4 : decode cX11_addKnot 4 = .ok (.bipush 8, 2) := by decide +kernel
theorem dX11_addKnot_6 : decode cX11_addKnot 6 = .ok (.iload_n 1, 1) := by decide +kernel
theorem dX11_addKnot_7 : decode cX11_addKnot 7 = .ok (.imul, 1) := by decide +kernel
theorem dX11_addKnot_8 : decode cX11_addKnot 8 = .ok (.aload_n 0, 1) := by decide +kernel
theorem dX11_addKnot_9 : decode cX11_addKnot 9 = .ok (.getfield 21, 3) := by decide +kernel
theorem dX11_addKnot_12 : decode cX11_addKnot 12 = .ok (.iload_n 1, 1) := by decide +kernel
theorem dX11_addKnot_13 : decode cX11_addKnot 13 = .ok (.iaload, 1) := by decide +kernel
theorem dX11_addKnot_14 : decode cX11_addKnot 14 = .ok (.iadd, 1) := by decide +kernel
theorem dX11_addKnot_15 : decode cX11_addKnot 15 = .ok (.iload_n 2, 1) := by decide +kernel
theorem dX11_addKnot_16 : decode cX11_addKnot 16 = .ok (.iastore, 1) := by decide +kernel
theorem dX11_addKnot_17 : decode cX11_addKnot 17 = .ok (.aload_n 0, 1) := by decide +kernel
theorem dX11_addKnot_18 : decode cX11_addKnot 18 = .ok (.getfield 21, 3) := by decide +kernel
theorem dX11_addKnot_21 : decode cX11_addKnot 21 = .ok (.iload_n 1, 1) := by decide +kernel
theorem dX11_addKnot_22 : decode cX11_addKnot 22 = .ok (.dup2, 1) := by decide +kernel
theorem dX11_addKnot_23 : decode cX11_addKnot 23 = .ok (.iaload, 1) := by decide +kernel
theorem dX11_addKnot_24 : decode cX11_addKnot 24 = .ok (.iconst 1, 1) := by decide +kernel
theorem dX11_addKnot_25 : decode cX11_addKnot 25 = .ok (.iadd, 1) := by decide +kernel
theorem dX11_addKnot_26 : decode cX11_addKnot 26 = .ok (.iastore, 1) := by decide +kernel
theorem dX11_addKnot_27 : decode cX11_addKnot 27 = .ok (.return_, 1) := by decide +kernel
theorem dX11_cutOut_0 : decode cX11_cutOut 0 = .ok (.aload_n 0, 1) := by decide +kernel
theorem dX11_cutOut_1 : decode cX11_cutOut 1 = .ok (.getfield 15, 3) := by decide +kernel
theorem dX11_cutOut_4 : decode cX11_cutOut 4 = .ok (.iload_n 1, 1) := by decide +kernel
theorem dX11_cutOut_5 : decode cX11_cutOut 5 = .ok (.iaload, 1) := by decide +kernel
theorem dX11_cutOut_6 : decode cX11_cutOut 6 = .ok (.iload_n 2, 1) := by decide +kernel
theorem dX11_cutOut_7 : decode cX11_cutOut 7 = .ok (.isub, 1) := by decide +kernel
theorem dX11_cutOut_8 : decode cX11_cutOut 8 = .ok (.iload_n 3, 1) := by decide +kernel
theorem dX11_cutOut_9 : decode cX11_cutOut 9 = .ok (.isub, 1) := by decide +kernel
theorem dX11_cutOut_10 : decode cX11_cutOut 10 = .ok (.istore 4, 2) := by decide +kernel
theorem dX11_cutOut_12 : decode cX11_cutOut 12 = .ok (.iload 4, 2) := by decide +kernel
theorem dX11_cutOut_14 : decode cX11_cutOut 14 = .ok (.bipush 10, 2) := by decide +kernel
theorem dX11_cutOut_16 : decode cX11_cutOut 16 = .ok (.if_icmp .lt 95, 3) := by decide +kernel
theorem dX11_cutOut_19 : decode cX11_cutOut 19 = .ok (.aload_n 0, 1) := by decide +kernel
theorem dX11_cutOut_20 : decode cX11_cutOut 20 = .ok (.getfield 113, 3) := by decide +kernel
theorem dX11_cutOut_23 : decode cX11_cutOut 23 = .ok (.bipush 60, 2) := by decide +kernel
theorem dX11_cutOut_25 : decode cX11_cutOut 25 = .ok (.if_icmp .ge 86, 3) := by decide +kernel
theorem dX11_cutOut_28 : decode cX11_cutOut 28 = .ok (.aload_n 0, 1) := by decide +kernel
theorem dX11_cutOut_29 : decode cX11_cutOut 29 = .ok (.aload_n 0, 1) := by decide +kernel
theorem dX11_cutOut_30 : decode cX11_cutOut 30 = .ok (.getfield 9, 3) := by decide +kernel
theorem dX11_cutOut_33 : decode cX11_cutOut 33 = .ok (.iload_n 1, 1) := by decide +kernel
theorem dX11_cutOut_34 : decode cX11_cutOut 34 = .ok (.iaload, 1) := by decide +kernel
theorem dX11_cutOut_35 : decode cX11_cutOut 35 = .ok (.iload 4, 2) := by decide +kernel
theorem dX11_cutOut_37 : decode cX11_cutOut 37 = .ok (.aload_n 0, 1) := by decide +kernel
theorem dX11_cutOut_38 : decode cX11_cutOut 38 = .ok (.getfield 18, 3) := by decide +kernel
theorem dX11_cutOut_41 : decode cX11_cutOut 41 = .ok (.iload_n 1, 1) := by decide +kernel
theorem dX11_cutOut_42 : decode cX11_cutOut 42 = .ok (.iaload, 1) := by decide +kernel
theorem dX11_cutOut_43 : decode cX11_cutOut 43 = .ok (.invokevirtual 148, 3) := by decide +kernel
theorem dX11_cutOut_46 : decode cX11_cutOut 46 = .ok (.istore 5, 2) := by decide +kernel
theorem dX11_cutOut_48 : decode cX11_cutOut 48 = .ok (.iconst 0, 1) := by decide +kernel
theorem dX11_cutOut_49 : decode cX11_cutOut 49 = .ok (.istore 6, 2) := by decide +kernel
theorem dX11_cutOut_51 : decode cX11_cutOut 51 = .ok (.iload 6, 2) := by decide +kernel
theorem dX11_cutOut_53 : decode cX11_cutOut 53 = .ok (.aload_n 0, 1) := by decide +kernel
theorem dX11_cutOut_54 : decode cX11_cutOut 54 = .ok (.getfield 21, 3) := by decide +kernel
theorem dX11_cutOut_57 : decode cX11_cutOut 57 = .ok (.iload_n 1, 1) := by decide +kernel
theorem dX11_cutOut_58 : decode cX11_cutOut 58 = .ok (.iaload, 1) := by decide +kernel
theorem dX11_cutOut_59 : decode cX11_cutOut 59 = .ok (.if_icmp .ge 49, 3) := by decide +kernel
theorem dX11_cutOut_62 : decode cX11_cutOut 62 = .ok (.aload_n 0, 1) := by decide +kernel
theorem dX11_cutOut_63 : decode cX11_cutOut 63 = .ok (.getfield 24, 3) := by decide +kernel
theorem dX11_cutOut_66 : decode cX11_cutOut 66 = .ok (.bipush 8, 2) := by decide +kernel
theorem dX11_cutOut_68 : decode cX11_cutOut 68 = .ok (.iload_n 1, 1) := by decide +kernel
theorem dX11_cutOut_69 : decode cX11_cutOut 69 = .ok (.imul, 1) := by decide +kernel
theorem dX11_cutOut_70 : decode cX11_cutOut 70 = .ok (.iload 6, 2) := by decide +kernel
theorem dX11_cutOut_72 : decode cX11_cutOut 72 = .ok (.iadd, 1) := by decide +kernel
theorem dX11_cutOut_73 : decode cX11_cutOut 73 = .ok (.iaload, 1) := by decide +kernel
theorem dX11_cutOut_74 : decode cX11_cutOut 74 = .ok (.iload_n 2, 1) := by decide +kernel
theorem dX11_cutOut_75 : decode cX11_cutOut 75 = .ok (.iload_n 3, 1) := by decide +kernel
theorem dX11_cutOut_76 : decode cX11_cutOut 76 = .ok (.iadd, 1) := by decide +kernel
theorem dX11_cutOut_77 : decode cX11_cutOut 77 = .ok (.if_icmp .lt 25, 3) := by decide +kernel
theorem dX11_cutOut_80 : decode cX11_cutOut 80 = .ok (.aload_n 0, 1) := by decide +kernel
theorem dX11_cutOut_81 : decode cX11_cutOut 81 = .ok (.iload 5, 2) := by decide +kernel
theorem dX11_cutOut_83 : decode cX11_cutOut 83 = .ok (.aload_n 0, 1) := by decide +kernel
theorem dX11_cutOut_84 : decode cX11_cutOut 84 = .ok (.getfield 24, 3) := by decide +kernel
theorem dX11_cutOut_87 : decode cX11_cutOut 87 = .ok (.bipush 8, 2) := by decide +kernel
theorem dX11_cutOut_89 : decode cX11_cutOut 89 = .ok (.iload_n 1, 1) := by decide +kernel
theorem dX11_cutOut_90 : decode cX11_cutOut 90 = .ok (.imul, 1) := by decide +kernel
theorem dX11_cutOut_91 : decode cX11_cutOut 91 = .ok (.iload 6, 2) := by decide +kernel
theorem dX11_cutOut_93 : decode cX11_cutOut 93 = .ok (.iadd, 1) := by decide +kernel
theorem dX11_cutOut_94 : decode cX11_cutOut 94 = .ok (.iaload, 1) := by decide +kernel
theorem dX11_cutOut_95 : decode cX11_cutOut 95 = .ok (.iload_n 2, 1) := by decide +kernel
theorem dX11_cutOut_96 : decode cX11_cutOut 96 = .ok (.isub, 1) := by decide +kernel
theorem dX11_cutOut_97 : decode cX11_cutOut 97 = .ok (.iload_n 3, 1) := by decide +kernel
theorem dX11_cutOut_98 : decode cX11_cutOut 98 = .ok (.isub, 1) := by decide +kernel
theorem dX11_cutOut_99 : decode cX11_cutOut 99 = .ok (.invokevirtual 152, 3) := by decide +kernel
theorem dX11_cutOut_102 : decode cX11_cutOut 102 = .ok (.iinc 6 1, 3) := by decide +kernel
theorem dX11_cutOut_105 : decode cX11_cutOut 105 = .ok (.goto (-54), 3) := by decide +kernel
theorem dX11_cutOut_108 : decode cX11_cutOut 108 = .ok (.goto 14, 3) := by decide +kernel
theorem dX11_cutOut_111 : decode cX11_cutOut 111 = .ok (.aload_n 0, 1) := by decide +kernel
theorem dX11_cutOut_112 : decode cX11_cutOut 112 = .ok (.dup, 1) := by decide +kernel
theorem dX11_cutOut_113 : decode cX11_cutOut 113 = .ok (.getfield 125, 3) := by decide +kernel
theorem dX11_cutOut_116 : decode cX11_cutOut 116 = .ok (.iload 4, 2) := by decide +kernel
theorem dX11_cutOut_118 : decode cX11_cutOut 118 = .ok (.iadd, 1) := by decide +kernel
theorem dX11_cutOut_119 : decode cX11_cutOut 119 = .ok (.putfield 125, 3) := by decide +kernel
theorem dX11_cutOut_122 : decode cX11_cutOut 122 = .ok (.aload_n 0, 1) := by decide +kernel
theorem dX11_cutOut_123 : decode cX11_cutOut 123 = .ok (.getfield 15, 3) := by decide +kernel
theorem dX11_cutOut_126 : decode cX11_cutOut 126 = .ok (.iload_n 1, 1) := by decide +kernel
theorem dX11_cutOut_127 : decode cX11_cutOut 127 = .ok (.iload_n 2, 1) := by decide +kernel
theorem dX11_cutOut_128 : decode cX11_cutOut 128 = .ok (.iastore, 1) := by decide +kernel
theorem dX11_cutOut_129 : decode cX11_cutOut 129 = .ok (.iload_n 2, 1) := by decide +kernel
theorem dX11_cutOut_130 : decode cX11_cutOut 130 = .ok (.bipush 10, 2) := by decide +kernel
theorem dX11_cutOut_132 : decode cX11_cutOut 132 = .ok (.if_icmp .ge 20, 3) := by decide +kernel
theorem dX11_cutOut_135 : decode cX11_cutOut 135 = .ok (.aload_n 0, 1) := by decide +kernel
theorem dX11_cutOut_136 : decode cX11_cutOut 136 = .ok (.dup, 1) := by decide +kernel
theorem dX11_cutOut_137 : decode cX11_cutOut 137 = .ok (.getfield 125, 3) := by decide +kernel
theorem dX11_cutOut_140 : decode cX11_cutOut 140 = .ok (.iload_n 2, 1) := by decide +kernel
theorem dX11_cutOut_141 : decode cX11_cutOut 141 = .ok (.iadd, 1) := by decide +kernel
theorem dX11_cutOut_142 : decode cX11_cutOut 142 = .ok (.putfield 125, 3) := by decide +kernel
theorem dX11_cutOut_145 : decode cX11_cutOut 145 = .ok (.aload_n 0, 1) := by decide +kernel
theorem dX11_cutOut_146 : decode cX11_cutOut 146 = .ok (.getfield 15, 3) := by decide +kernel
theorem dX11_cutOut_149 : decode cX11_cutOut 149 = .ok (.iload_n 1, 1) := by decide +kernel
theorem dX11_cutOut_150 : decode cX11_cutOut 150 = .ok (.iconst 0, 1) := by decide +kernel
theorem dX11_cutOut_151 : decode cX11_cutOut 151 = .ok (.iastore, 1) := by decide +kernel
theorem dX11_cutOut_152 : decode cX11_cutOut 152 = .ok (.iconst 0, 1) := by decide +kernel
theorem dX11_cutOut_153 : decode cX11_cutOut 153 = .ok (.istore 5, 2) := by decide +kernel
theorem dX11_cutOut_155 : decode cX11_cutOut 155 = .ok (.iconst 0, 1) := by decide +kernel
theorem dX11_cutOut_156 : decode cX11_cutOut 156 = .ok (.istore 6, 2) := by decide +kernel
theorem dX11_cutOut_158 : decode cX11_cutOut 158 = .ok (.iload 6, 2) := by decide +kernel
theorem dX11_cutOut_160 : decode cX11_cutOut 160 = .ok (.aload_n 0, 1) := by decide +kernel
theorem dX11_cutOut_161 : decode cX11_cutOut 161 = .ok (.getfield 21, 3) := by decide +kernel
theorem dX11_cutOut_164 : decode cX11_cutOut 164 = .ok (.iload_n 1, 1) := by decide +kernel
theorem dX11_cutOut_165 : decode cX11_cutOut 165 = .ok (.iaload, 1) := by decide +kernel
theorem dX11_cutOut_166 : decode cX11_cutOut 166 = .ok (.if_icmp .ge 54, 3) := by decide +kernel
theorem dX11_cutOut_169 : decode cX11_cutOut 169 = .ok (.aload_n 0, 1) := by decide +kernel
theorem dX11_cutOut_170 : decode cX11_cutOut 170 = .ok (.getfield 24, 3) := by decide +kernel
theorem dX11_cutOut_173 : decode cX11_cutOut 173 = .ok (.bipush 8, 2) := by decide +kernel
theorem dX11_cutOut_175 : decode cX11_cutOut 175 = .ok (.iload_n 1, 1) := by decide +kernel
theorem dX11_cutOut_176 : decode cX11_cutOut 176 = .ok (.imul, 1) := by decide +kernel
theorem dX11_cutOut_177 : decode cX11_cutOut 177 = .ok (.iload 6, 2) := by decide +kernel
theorem dX11_cutOut_179 : decode cX11_cutOut 179 = .ok (.iadd, 1) := by decide +kernel
theorem dX11_cutOut_180 : decode cX11_cutOut 180 = .ok (.iaload, 1) := by decide +kernel
theorem dX11_cutOut_181 : decode cX11_cutOut 181 = .ok (.istore 7, 2) := by decide +kernel
theorem dX11_cutOut_183 : decode cX11_cutOut 183 = .ok (.iload 7, 2) := by decide +kernel
theorem dX11_cutOut_185 : decode cX11_cutOut 185 = .ok (.aload_n 0, 1) := by decide +kernel
theorem dX11_cutOut_186 : decode cX11_cutOut 186 = .ok (.getfield 15, 3) := by decide +kernel
theorem dX11_cutOut_189 : decode cX11_cutOut 189 = .ok (.iload_n 1, 1) := by decide +kernel
theorem dX11_cutOut_190 : decode cX11_cutOut 190 = .ok (.iaload, 1) := by decide +kernel
theorem dX11_cutOut_191 : decode cX11_cutOut 191 = .ok (.if_icmp .lt 6, 3) := by decide +kernel
theorem dX11_cutOut_194 : decode cX11_cutOut 194 = .ok (.goto 20, 3) := by decide +kernel
theorem dX11_cutOut_197 : decode cX11_cutOut 197 = .ok (.aload_n 0, 1) := by decide +kernel
theorem dX11_cutOut_198 : decode cX11_cutOut 198 = .ok (.getfield 24, 3) := by decide +kernel
theorem dX11_cutOut_201 : decode cX11_cutOut 201 = .ok (.bipush 8, 2) := by decide +kernel
theorem dX11_cutOut_203 : decode cX11_cutOut 203 = .ok (.iload_n 1, 1) := by decide +kernel
theorem dX11_cutOut_204 : decode cX11_cutOut 204 = .ok (.imul, 1) := by decide +kernel
theorem dX11_cutOut_205 : decode cX11_cutOut 205 = .ok (.iload 5, 2) := by decide +kernel
theorem dX11_cutOut_207 : decode cX11_cutOut 207 = .ok (.iadd, 1) := by decide +kernel
theorem dX11_cutOut_208 : decode cX11_cutOut 208 = .ok (.iload 7, 2) := by decide +kernel
theorem dX11_cutOut_210 : decode cX11_cutOut 210 = .ok (.iastore, 1) := by decide +kernel
theorem dX11_cutOut_211 : decode cX11_cutOut 211 = .ok (.iinc 5 1, 3) := by decide +kernel
theorem dX11_cutOut_214 : decode cX11_cutOut 214 = .ok (.iinc 6 1, 3) := by decide +kernel
theorem dX11_cutOut_217 : decode cX11_cutOut 217 = .ok (.goto (-59), 3) := by decide +kernel
theorem dX11_cutOut_220 : decode cX11_cutOut 220 = .ok (.aload_n 0, 1) := by decide +kernel
theorem dX11_cutOut_221 : decode cX11_cutOut 221 = .ok (.getfield 21, 3) := by decide +kernel
theorem dX11_cutOut_224 : decode cX11_cutOut 224 = .ok (.iload_n 1, 1) := by decide +kernel
theorem dX11_cutOut_225 : decode cX11_cutOut 225 = .ok (.iload 5, 2) := by decide +kernel
theorem dX11_cutOut_227 : decode cX11_cutOut 227 = .ok (.iastore, 1) := by decide +kernel
theorem dX11_cutOut_228 : decode cX11_cutOut 228 = .ok (.return_, 1) := by decide +kernel
theorem dX11_free_0 : decode cX11_free 0 = .ok (.aload_n 0, 1) := by decide +kernel
theorem dX11_free_1 : decode cX11_free 1 = .ok (.getfield 27, 3) := by decide +kernel
theorem dX11_free_4 : decode cX11_free 4 = .ok (.iload_n 1, 1) := by decide +kernel
theorem dX11_free_5 : decode cX11_free 5 = .ok (.iaload, 1) := by decide +kernel
theorem dX11_free_6 : decode cX11_free 6 = .ok (.istore_n 2, 1) := by decide +kernel
theorem dX11_free_7 : decode cX11_free 7 = .ok (.iconst 0, 1) := by decide +kernel
theorem dX11_free_8 : decode cX11_free 8 = .ok (.istore_n 3, 1) := by decide +kernel
theorem dX11_free_9 : decode cX11_free 9 = .ok (.iload_n 3, 1) := by decide +kernel
theorem dX11_free_10 : decode cX11_free 10 = .ok (.aload_n 0, 1) := by decide +kernel
theorem dX11_free_11 : decode cX11_free 11 = .ok (.getfield 116, 3) := by decide +kernel
theorem dX11_free_14 : decode cX11_free 14 = .ok (.if_icmp .ge 22, 3) := by decide +kernel
theorem dX11_free_17 : decode cX11_free 17 = .ok (.iload_n 2, 1) := by decide +kernel
theorem dX11_free_18 : decode cX11_free 18 = .ok (.aload_n 0, 1) := by decide +kernel
theorem dX11_free_19 : decode cX11_free 19 = .ok (.getfield 67, 3) := by decide +kernel
theorem dX11_free_22 : decode cX11_free 22 = .ok (.iload_n 3, 1) := by decide +kernel
theorem dX11_free_23 : decode cX11_free 23 = .ok (.iaload, 1) := by decide +kernel
theorem dX11_free_24 : decode cX11_free 24 = .ok (.iload_n 1, 1) := by decide +kernel
theorem dX11_free_25 : decode cX11_free 25 = .ok (.ishr, 1) := by decide +kernel
theorem dX11_free_26 : decode cX11_free 26 = .ok (.iconst 1, 1) := by decide +kernel
theorem dX11_free_27 : decode cX11_free 27 = .ok (.iand, 1) := by decide +kernel
theorem dX11_free_28 : decode cX11_free 28 = .ok (.isub, 1) := by decide +kernel
theorem dX11_free_29 : decode cX11_free 29 = .ok (.istore_n 2, 1) := by decide +kernel
theorem dX11_free_30 : decode cX11_free 30 = .ok (.iinc 3 1, 3) := by decide +kernel
theorem dX11_free_33 : decode cX11_free 33 = .ok (.goto (-24), 3) := by decide +kernel
theorem dX11_free_36 : decode cX11_free 36 = .ok (.iload_n 2, 1) := by decide +kernel
theorem dX11_free_37 : decode cX11_free 37 = .ok (.ireturn, 1) := by decide +kernel
theorem dX11_waiting_0 : decode cX11_waiting 0 = .ok (.iconst 0, 1) := by decide +kernel
theorem dX11_waiting_1 : decode cX11_waiting 1 = .ok (.istore_n 2, 1) := by decide +kernel
theorem dX11_waiting_2 : decode cX11_waiting 2 = .ok (.iconst 0, 1) := by decide +kernel
theorem dX11_waiting_3 : decode cX11_waiting 3 = .ok (.istore_n 3, 1) := by decide +kernel
theorem dX11_waiting_4 : decode cX11_waiting 4 = .ok (.iload_n 3, 1) := by decide +kernel
theorem dX11_waiting_5 : decode cX11_waiting 5 = .ok (.aload_n 0, 1) := by decide +kernel
theorem dX11_waiting_6 : decode cX11_waiting 6 = .ok (.getfield 116, 3) := by decide +kernel
theorem dX11_waiting_9 : decode cX11_waiting 9 = .ok (.if_icmp .ge 42, 3) := by decide +kernel
theorem dX11_waiting_12 : decode cX11_waiting 12 = .ok (.iload_n 2, 1) := by decide +kernel
theorem dX11_waiting_13 : decode cX11_waiting 13 = .ok (.aload_n 0, 1) := by decide +kernel
theorem dX11_waiting_14 : decode cX11_waiting 14 = .ok (.getfield 70, 3) := by decide +kernel
theorem dX11_waiting_17 : decode cX11_waiting 17 = .ok (.iload_n 3, 1) := by decide +kernel
theorem dX11_waiting_18 : decode cX11_waiting 18 = .ok (.iaload, 1) := by decide +kernel
theorem dX11_waiting_19 : decode cX11_waiting 19 = .ok (.iconst (-1), 1) := by decide +kernel
theorem dX11_waiting_20 : decode cX11_waiting 20 = .ok (.if_icmp .eq 22, 3) := by decide +kernel
theorem dX11_waiting_23 : decode cX11_waiting 23 = .ok (.iload_n 1, 1) := by decide +kernel
theorem dX11_waiting_24 : decode cX11_waiting 24 = .ok (.iconst (-1), 1) := by decide +kernel
theorem dX11_waiting_25 : decode cX11_waiting 25 = .ok (.if_icmp .eq 13, 3) := by decide +kernel
theorem dX11_waiting_28 : decode cX11_waiting 28 = .ok (.aload_n 0, 1) := by decide +kernel
theorem dX11_waiting_29 : decode cX11_waiting 29 = .ok (.getfield 70, 3) := by decide +kernel
theorem dX11_waiting_32 : decode cX11_waiting 32 = .ok (.iload_n 3, 1) := by decide +kernel
theorem dX11_waiting_33 : decode cX11_waiting 33 = .ok (.iaload, 1) := by decide +kernel
theorem dX11_waiting_34 : decode cX11_waiting 34 = .ok (.iload_n 1, 1) := by decide +kernel
theorem dX11_waiting_35 : decode cX11_waiting 35 = .ok (.if_icmp .ne 7, 3) := by decide +kernel
theorem dX11_waiting_38 : decode cX11_waiting 38 = .ok (.iconst 1, 1) := by decide +kernel
theorem dX11_waiting_39 : decode cX11_waiting 39 = .ok (.goto 4, 3) := by decide +kernel
theorem dX11_waiting_42 : decode cX11_waiting 42 = .ok (.iconst 0, 1) := by decide +kernel
theorem dX11_waiting_43 : decode cX11_waiting 43 = .ok (.iadd, 1) := by decide +kernel
theorem dX11_waiting_44 : decode cX11_waiting 44 = .ok (.istore_n 2, 1) := by decide +kernel
theorem dX11_waiting_45 : decode cX11_waiting 45 = .ok (.iinc 3 1, 3) := by decide +kernel
theorem dX11_waiting_48 : decode cX11_waiting 48 = .ok (.goto (-44), 3) := by decide +kernel
theorem dX11_waiting_51 : decode cX11_waiting 51 = .ok (.iload_n 2, 1) := by decide +kernel
theorem dX11_waiting_52 : decode cX11_waiting 52 = .ok (.ireturn, 1) := by decide +kernel
theorem dX11_await_0 : decode cX11_await 0 = .ok (.aload_n 0, 1) := by decide +kernel
theorem dX11_await_1 : decode cX11_await 1 = .ok (.getfield 70, 3) := by decide +kernel
theorem dX11_await_4 : decode cX11_await 4 = .ok (.iload_n 1, 1) := by decide +kernel
theorem dX11_await_5 : decode cX11_await 5 = .ok (.iload_n 2, 1) := by decide +kernel
theorem dX11_await_6 : decode cX11_await 6 = .ok (.iastore, 1) := by decide +kernel
theorem dX11_await_7 : decode cX11_await 7 = .ok (.aload_n 0, 1) := by decide +kernel
theorem dX11_await_8 : decode cX11_await 8 = .ok (.getfield 73, 3) := by decide +kernel
theorem dX11_await_11 : decode cX11_await 11 = .ok (.iload_n 1, 1) := by decide +kernel
theorem dX11_await_12 : decode cX11_await 12 = .ok (.aload_n 0, 1) := by decide +kernel
theorem dX11_await_13 : decode cX11_await 13 = .ok (.getfield 109, 3) := by decide +kernel
theorem dX11_await_16 : decode cX11_await 16 = .ok (.iastore, 1) := by decide +kernel
theorem dX11_await_17 : decode cX11_await 17 = .ok (.aload_n 0, 1) := by decide +kernel
theorem dX11_await_18 : decode cX11_await 18 = .ok (.getfield 76, 3) := by decide +kernel
theorem dX11_await_21 : decode cX11_await 21 = .ok (.iload_n 1, 1) := by decide +kernel
theorem dX11_await_22 : decode cX11_await 22 = .ok (.iload_n 3, 1) := by decide +kernel
theorem dX11_await_23 : decode cX11_await 23 = .ok (.bastore, 1) := by decide +kernel
theorem dX11_await_24 : decode cX11_await 24 = .ok (.return_, 1) := by decide +kernel
theorem dX11_get_0 : decode cX11_get 0 = .ok (.aload_n 0, 1) := by decide +kernel
theorem dX11_get_1 : decode cX11_get 1 = .ok (.getfield 67, 3) := by decide +kernel
theorem dX11_get_4 : decode cX11_get 4 = .ok (.iload_n 1, 1) := by decide +kernel
theorem dX11_get_5 : decode cX11_get 5 = .ok (.dup2, 1) := by decide +kernel
theorem dX11_get_6 : decode cX11_get 6 = .ok (.iaload, 1) := by decide +kernel
theorem dX11_get_7 : decode cX11_get 7 = .ok (.iconst 1, 1) := by decide +kernel
theorem dX11_get_8 : decode cX11_get 8 = .ok (.aload_n 0, 1) := by decide +kernel
theorem dX11_get_9 : decode cX11_get 9 = .ok (.getfield 70, 3) := by decide +kernel
theorem dX11_get_12 : decode cX11_get 12 = .ok (.iload_n 1, 1) := by decide +kernel
theorem dX11_get_13 : decode cX11_get 13 = .ok (.iaload, 1) := by decide +kernel
theorem dX11_get_14 : decode cX11_get 14 = .ok (.ishl, 1) := by decide +kernel
theorem dX11_get_15 : decode cX11_get 15 = .ok (.ior, 1) := by decide +kernel
theorem dX11_get_16 : decode cX11_get 16 = .ok (.iastore, 1) := by decide +kernel
theorem dX11_get_17 : decode cX11_get 17 = .ok (.aload_n 0, 1) := by decide +kernel
theorem dX11_get_18 : decode cX11_get 18 = .ok (.getfield 70, 3) := by decide +kernel
theorem dX11_get_21 : decode cX11_get 21 = .ok (.iload_n 1, 1) := by decide +kernel
theorem dX11_get_22 : decode cX11_get 22 = .ok (.iconst (-1), 1) := by decide +kernel
theorem dX11_get_23 : decode cX11_get 23 = .ok (.iastore, 1) := by decide +kernel
theorem dX11_get_24 : decode cX11_get 24 = .ok (.aload_n 0, 1) := by decide +kernel
theorem dX11_get_25 : decode cX11_get 25 = .ok (.getfield 73, 3) := by decide +kernel
theorem dX11_get_28 : decode cX11_get 28 = .ok (.iload_n 1, 1) := by decide +kernel
theorem dX11_get_29 : decode cX11_get 29 = .ok (.iconst (-1), 1) := by decide +kernel
theorem dX11_get_30 : decode cX11_get 30 = .ok (.iastore, 1) := by decide +kernel
theorem dX11_get_31 : decode cX11_get 31 = .ok (.aload_n 0, 1) := by decide +kernel
theorem dX11_get_32 : decode cX11_get 32 = .ok (.getfield 76, 3) := by decide +kernel
theorem dX11_get_35 : decode cX11_get 35 = .ok (.iload_n 1, 1) := by decide +kernel
theorem dX11_get_36 : decode cX11_get 36 = .ok (.iconst 0, 1) := by decide +kernel
theorem dX11_get_37 : decode cX11_get 37 = .ok (.bastore, 1) := by decide +kernel
theorem dX11_get_38 : decode cX11_get 38 = .ok (.return_, 1) := by decide +kernel
theorem dX11_giveOut_0 : decode cX11_giveOut 0 = .ok (.bipush 6, 2) := by decide +kernel
theorem dX11_giveOut_2 : decode cX11_giveOut 2 = .ok (.newarray .boolean, 2) := by decide +kernel
theorem dX11_giveOut_4 : decode cX11_giveOut 4 = .ok (.astore_n 1, 1) := by decide +kernel
theorem dX11_giveOut_5 : decode cX11_giveOut 5 = .ok (.iconst 0, 1) := by decide +kernel
theorem dX11_giveOut_6 : decode cX11_giveOut 6 = .ok (.istore_n 2, 1) := by decide +kernel
theorem dX11_giveOut_7 : decode cX11_giveOut 7 = .ok (.iload_n 2, 1) := by decide +kernel
theorem dX11_giveOut_8 : decode cX11_giveOut 8 = .ok (.aload_n 0, 1) := by decide +kernel
theorem dX11_giveOut_9 : decode cX11_giveOut 9 = .ok (.getfield 116, 3) := by decide +kernel
theorem dX11_giveOut_12 : decode cX11_giveOut 12 = .ok (.if_icmp .ge 99, 3) := by decide +kernel
theorem dX11_giveOut_15 : decode cX11_giveOut 15 = .ok (.iconst (-1), 1) := by decide +kernel
theorem dX11_giveOut_16 : decode cX11_giveOut 16 = .ok (.istore_n 3, 1) := by decide +kernel
theorem dX11_giveOut_17 : decode cX11_giveOut 17 = .ok (.iconst 0, 1) := by decide +kernel
theorem dX11_giveOut_18 : decode cX11_giveOut 18 = .ok (.istore 4, 2) := by decide +kernel
theorem dX11_giveOut_20 : decode cX11_giveOut 20 = .ok (.iload 4, 2) := by decide +kernel
theorem dX11_giveOut_22 : decode cX11_giveOut 22 = .ok (.aload_n 0, 1) := by decide +kernel
theorem dX11_giveOut_23 : decode cX11_giveOut 23 = .ok (.getfield 116, 3) := by decide +kernel
theorem dX11_giveOut_26 : decode cX11_giveOut 26 = .ok (.if_icmp .ge 51, 3) := by decide +kernel
theorem dX11_giveOut_29 : decode cX11_giveOut 29 = .ok (.aload_n 0, 1) := by decide +kernel
theorem dX11_giveOut_30 : decode cX11_giveOut 30 = .ok (.getfield 70, 3) := by decide +kernel
theorem dX11_giveOut_33 : decode cX11_giveOut 33 = .ok (.iload 4, 2) := by decide +kernel
theorem dX11_giveOut_35 : decode cX11_giveOut 35 = .ok (.iaload, 1) := by decide +kernel
theorem dX11_giveOut_36 : decode cX11_giveOut 36 = .ok (.iconst (-1), 1) := by decide +kernel
theorem dX11_giveOut_37 : decode cX11_giveOut 37 = .ok (.if_icmp .eq 34, 3) := by decide +kernel
theorem dX11_giveOut_40 : decode cX11_giveOut 40 = .ok (.aload_n 1, 1) := by decide +kernel
theorem dX11_giveOut_41 : decode cX11_giveOut 41 = .ok (.iload 4, 2) := by decide +kernel
theorem dX11_giveOut_43 : decode cX11_giveOut 43 = .ok (.baload, 1) := by decide +kernel
theorem dX11_giveOut_44 : decode cX11_giveOut 44 = .ok (.ifCond .ne 27, 3) := by decide +kernel
theorem dX11_giveOut_47 : decode cX11_giveOut 47 = .ok (.iload_n 3, 1) := by decide +kernel
theorem dX11_giveOut_48 : decode cX11_giveOut 48 = .ok (.iconst (-1), 1) := by decide +kernel
theorem dX11_giveOut_49 : decode cX11_giveOut 49 = .ok (.if_icmp .eq 19, 3) := by decide +kernel
theorem dX11_giveOut_52 : decode cX11_giveOut 52 = .ok (.aload_n 0, 1) := by decide +kernel
theorem dX11_giveOut_53 : decode cX11_giveOut 53 = .ok (.getfield 73, 3) := by decide +kernel
theorem dX11_giveOut_56 : decode cX11_giveOut 56 = .ok (.iload 4, 2) := by decide +kernel
theorem dX11_giveOut_58 : decode cX11_giveOut 58 = .ok (.iaload, 1) := by decide +kernel
theorem dX11_giveOut_59 : decode cX11_giveOut 59 = .ok (.aload_n 0, 1) := by decide +kernel
theorem dX11_giveOut_60 : decode cX11_giveOut 60 = .ok (.getfield 73, 3) := by decide +kernel
theorem dX11_giveOut_63 : decode cX11_giveOut 63 = .ok (.iload_n 3, 1) := by decide +kernel
theorem dX11_giveOut_64 : decode cX11_giveOut 64 = .ok (.iaload, 1) := by decide +kernel
theorem dX11_giveOut_65 : decode cX11_giveOut 65 = .ok (.if_icmp .ge 6, 3) := by decide +kernel
theorem dX11_giveOut_68 : decode cX11_giveOut 68 = .ok (.iload 4, 2) := by decide +kernel
theorem dX11_giveOut_70 : decode cX11_giveOut 70 = .ok (.istore_n 3, 1) := by decide +kernel
theorem dX11_giveOut_71 : decode cX11_giveOut 71 = .ok (.iinc 4 1, 3) := by decide +kernel
theorem dX11_giveOut_74 : decode cX11_giveOut 74 = .ok (.goto (-54), 3) := by decide +kernel
theorem dX11_giveOut_77 : decode cX11_giveOut 77 = .ok (.iload_n 3, 1) := by decide +kernel
theorem dX11_giveOut_78 : decode cX11_giveOut 78 = .ok (.iconst (-1), 1) := by decide +kernel
theorem dX11_giveOut_79 : decode cX11_giveOut 79 = .ok (.if_icmp .ne 4, 3) := by decide +kernel
theorem dX11_giveOut_82 : decode cX11_giveOut 82 = .ok (.return_, 1) := by decide +kernel
theorem dX11_giveOut_83 : decode cX11_giveOut 83 = .ok (.aload_n 1, 1) := by decide +kernel
theorem dX11_giveOut_84 : decode cX11_giveOut 84 = .ok (.iload_n 3, 1) := by decide +kernel
theorem dX11_giveOut_85 : decode cX11_giveOut 85 = .ok (.iconst 1, 1) := by decide +kernel
theorem dX11_giveOut_86 : decode cX11_giveOut 86 = .ok (.bastore, 1) := by decide +kernel
theorem dX11_giveOut_87 : decode cX11_giveOut 87 = .ok (.aload_n 0, 1) := by decide +kernel
theorem dX11_giveOut_88 : decode cX11_giveOut 88 = .ok (.aload_n 0, 1) := by decide +kernel
theorem dX11_giveOut_89 : decode cX11_giveOut 89 = .ok (.getfield 70, 3) := by decide +kernel
theorem dX11_giveOut_92 : decode cX11_giveOut 92 = .ok (.iload_n 3, 1) := by decide +kernel
theorem dX11_giveOut_93 : decode cX11_giveOut 93 = .ok (.iaload, 1) := by decide +kernel
theorem dX11_giveOut_94 : decode cX11_giveOut 94 = .ok (.invokevirtual 156, 3) := by decide +kernel
theorem dX11_giveOut_97 : decode cX11_giveOut 97 = .ok (.ifCond .le 8, 3) := by decide +kernel
theorem dX11_giveOut_100 : decode cX11_giveOut 100 = .ok (.aload_n 0, 1) := by decide +kernel
theorem dX11_giveOut_101 : decode cX11_giveOut 101 = .ok (.iload_n 3, 1) := by decide +kernel
theorem dX11_giveOut_102 : decode cX11_giveOut 102 = .ok (.invokevirtual 160, 3) := by decide +kernel
theorem dX11_giveOut_105 : decode cX11_giveOut 105 = .ok (.iinc 2 1, 3) := by decide +kernel
theorem dX11_giveOut_108 : decode cX11_giveOut 108 = .ok (.goto (-101), 3) := by decide +kernel
theorem dX11_giveOut_111 : decode cX11_giveOut 111 = .ok (.return_, 1) := by decide +kernel
theorem dX11_stuck_0 : decode cX11_stuck 0 = .ok (.iconst 0, 1) := by decide +kernel
theorem dX11_stuck_1 : decode cX11_stuck 1 = .ok (.istore_n 1, 1) := by decide +kernel
theorem dX11_stuck_2 : decode cX11_stuck 2 = .ok (.iconst 0, 1) := by decide +kernel
theorem dX11_stuck_3 : decode cX11_stuck 3 = .ok (.istore_n 2, 1) := by decide +kernel
theorem dX11_stuck_4 : decode cX11_stuck 4 = .ok (.iload_n 2, 1) := by decide +kernel
theorem dX11_stuck_5 : decode cX11_stuck 5 = .ok (.aload_n 0, 1) := by decide +kernel
theorem dX11_stuck_6 : decode cX11_stuck 6 = .ok (.getfield 116, 3) := by decide +kernel
theorem dX11_stuck_9 : decode cX11_stuck 9 = .ok (.if_icmp .ge 34, 3) := by decide +kernel
theorem dX11_stuck_12 : decode cX11_stuck 12 = .ok (.aload_n 0, 1) := by decide +kernel
theorem dX11_stuck_13 : decode cX11_stuck 13 = .ok (.getfield 33, 3) := by decide +kernel
theorem dX11_stuck_16 : decode cX11_stuck 16 = .ok (.iload_n 2, 1) := by decide +kernel
theorem dX11_stuck_17 : decode cX11_stuck 17 = .ok (.baload, 1) := by decide +kernel
theorem dX11_stuck_18 : decode cX11_stuck 18 = .ok (.ifCond .eq 19, 3) := by decide +kernel
theorem dX11_stuck_21 : decode cX11_stuck 21 = .ok (.aload_n 0, 1) := by decide +kernel
theorem dX11_stuck_22 : decode cX11_stuck 22 = .ok (.getfield 70, 3) := by decide +kernel
theorem dX11_stuck_25 : decode cX11_stuck 25 = .ok (.iload_n 2, 1) := by decide +kernel
theorem dX11_stuck_26 : decode cX11_stuck 26 = .ok (.iaload, 1) := by decide +kernel
theorem dX11_stuck_27 : decode cX11_stuck 27 = .ok (.iconst (-1), 1) := by decide +kernel
theorem dX11_stuck_28 : decode cX11_stuck 28 = .ok (.if_icmp .eq 9, 3) := by decide +kernel
theorem dX11_stuck_31 : decode cX11_stuck 31 = .ok (.iload_n 1, 1) := by decide +kernel
theorem dX11_stuck_32 : decode cX11_stuck 32 = .ok (.iconst 1, 1) := by decide +kernel
theorem dX11_stuck_33 : decode cX11_stuck 33 = .ok (.iload_n 2, 1) := by decide +kernel
theorem dX11_stuck_34 : decode cX11_stuck 34 = .ok (.ishl, 1) := by decide +kernel
theorem dX11_stuck_35 : decode cX11_stuck 35 = .ok (.ior, 1) := by decide +kernel
theorem dX11_stuck_36 : decode cX11_stuck 36 = .ok (.istore_n 1, 1) := by decide +kernel
theorem dX11_stuck_37 : decode cX11_stuck 37 = .ok (.iinc 2 1, 3) := by decide +kernel
theorem dX11_stuck_40 : decode cX11_stuck 40 = .ok (.goto (-36), 3) := by decide +kernel
theorem dX11_stuck_43 : decode cX11_stuck 43 = .ok (.iconst 1, 1) := by decide +kernel
theorem dX11_stuck_44 : decode cX11_stuck 44 = .ok (.istore_n 2, 1) := by decide +kernel
theorem dX11_stuck_45 : decode cX11_stuck 45 = .ok (.iload_n 2, 1) := by decide +kernel
theorem dX11_stuck_46 : decode cX11_stuck 46 = .ok (.ifCond .eq 71, 3) := by decide +kernel
theorem dX11_stuck_49 : decode cX11_stuck 49 = .ok (.iconst 0, 1) := by decide +kernel
theorem dX11_stuck_50 : decode cX11_stuck 50 = .ok (.istore_n 2, 1) := by decide +kernel
theorem dX11_stuck_51 : decode cX11_stuck 51 = .ok (.iconst 0, 1) := by decide +kernel
theorem dX11_stuck_52 : decode cX11_stuck 52 = .ok (.istore_n 3, 1) := by decide +kernel
theorem dX11_stuck_53 : decode cX11_stuck 53 = .ok (.iload_n 3, 1) := by decide +kernel
theorem dX11_stuck_54 : decode cX11_stuck 54 = .ok (.aload_n 0, 1) := by decide +kernel
theorem dX11_stuck_55 : decode cX11_stuck 55 = .ok (.getfield 116, 3) := by decide +kernel
theorem dX11_stuck_58 : decode cX11_stuck 58 = .ok (.if_icmp .ge 56, 3) := by decide +kernel
theorem dX11_stuck_61 : decode cX11_stuck 61 = .ok (.iload_n 1, 1) := by decide +kernel
theorem dX11_stuck_62 : decode cX11_stuck 62 = .ok (.iload_n 3, 1) := by decide +kernel
theorem dX11_stuck_63 : decode cX11_stuck 63 = .ok (.ishr, 1) := by decide +kernel
theorem dX11_stuck_64 : decode cX11_stuck 64 = .ok (.iconst 1, 1) := by decide +kernel
theorem dX11_stuck_65 : decode cX11_stuck 65 = .ok (.iand, 1) := by decide +kernel
theorem dX11_stuck_66 : decode cX11_stuck 66 = .ok (.ifCond .eq 42, 3) := by decide +kernel
theorem dX11_stuck_69 : decode cX11_stuck 69 = .ok (.aload_n 0, 1) := by decide +kernel
theorem dX11_stuck_70 : decode cX11_stuck 70 = .ok (.getfield 27, 3) := by decide +kernel
theorem dX11_stuck_73 : decode cX11_stuck 73 = .ok (.aload_n 0, 1) := by decide +kernel
theorem dX11_stuck_74 : decode cX11_stuck 74 = .ok (.getfield 70, 3) := by decide +kernel
theorem dX11_stuck_77 : decode cX11_stuck 77 = .ok (.iload_n 3, 1) := by decide +kernel
theorem dX11_stuck_78 : decode cX11_stuck 78 = .ok (.iaload, 1) := by decide +kernel
theorem dX11_stuck_79 : decode cX11_stuck 79 = .ok (.iaload, 1) := by decide +kernel
theorem dX11_stuck_80 : decode cX11_stuck 80 = .ok (.aload_n 0, 1) := by decide +kernel
theorem dX11_stuck_81 : decode cX11_stuck 81 = .ok (.iload_n 1, 1) := by decide +kernel
theorem dX11_stuck_82 : decode cX11_stuck 82 = .ok (.aload_n 0, 1) := by decide +kernel
theorem dX11_stuck_83 : decode cX11_stuck 83 = .ok (.getfield 70, 3) := by decide +kernel
theorem dX11_stuck_86 : decode cX11_stuck 86 = .ok (.iload_n 3, 1) := by decide +kernel
theorem dX11_stuck_87 : decode cX11_stuck 87 = .ok (.iaload, 1) := by decide +kernel
theorem dX11_stuck_88 : decode cX11_stuck 88 = .ok (.invokevirtual 164, 3) := by decide +kernel
theorem dX11_stuck_91 : decode cX11_stuck 91 = .ok (.isub, 1) := by decide +kernel
theorem dX11_stuck_92 : decode cX11_stuck 92 = .ok (.ifCond .gt 6, 3) := by decide +kernel
theorem dX11_stuck_95 : decode cX11_stuck 95 = .ok (.goto 13, 3) := by decide +kernel
theorem dX11_stuck_98 : decode cX11_stuck 98 = .ok (.iload_n 1, 1) := by decide +kernel
theorem dX11_stuck_99 : decode cX11_stuck 99 = .ok (.iconst 1, 1) := by decide +kernel
theorem dX11_stuck_100 : decode cX11_stuck 100 = .ok (.iload_n 3, 1) := by decide +kernel
theorem dX11_stuck_101 : decode cX11_stuck 101 = .ok (.ishl, 1) := by decide +kernel
theorem dX11_stuck_102 : decode cX11_stuck 102 = .ok (.iconst (-1), 1) := by decide +kernel
theorem dX11_stuck_103 : decode cX11_stuck 103 = .ok (.ixor, 1) := by decide +kernel
theorem dX11_stuck_104 : decode cX11_stuck 104 = .ok (.iand, 1) := by decide +kernel
theorem dX11_stuck_105 : decode cX11_stuck 105 = .ok (.istore_n 1, 1) := by decide +kernel
theorem dX11_stuck_106 : decode cX11_stuck 106 = .ok (.iconst 1, 1) := by decide +kernel
theorem dX11_stuck_107 : decode cX11_stuck 107 = .ok (.istore_n 2, 1) := by decide +kernel
theorem dX11_stuck_108 : decode cX11_stuck 108 = .ok (.iinc 3 1, 3) := by decide +kernel
theorem dX11_stuck_111 : decode cX11_stuck 111 = .ok (.goto (-58), 3) := by decide +kernel
theorem dX11_stuck_114 : decode cX11_stuck 114 = .ok (.goto (-69), 3) := by decide +kernel
theorem dX11_stuck_117 : decode cX11_stuck 117 = .ok (.iload_n 1, 1) := by decide +kernel
theorem dX11_stuck_118 : decode cX11_stuck 118 = .ok (.ireturn, 1) := by decide +kernel
theorem dX11_heldBy_0 : decode cX11_heldBy 0 = .ok (.iconst 0, 1) := by decide +kernel
theorem dX11_heldBy_1 : decode cX11_heldBy 1 = .ok (.istore_n 3, 1) := by decide +kernel
theorem dX11_heldBy_2 : decode cX11_heldBy 2 = .ok (.iconst 0, 1) := by decide +kernel
theorem dX11_heldBy_3 : decode cX11_heldBy 3 = .ok (.istore 4, 2) := by decide +kernel
theorem dX11_heldBy_5 : decode cX11_heldBy 5 = .ok (.iload 4, 2) := by decide +kernel
theorem dX11_heldBy_7 : decode cX11_heldBy 7 = .ok (.aload_n 0, 1) := by decide +kernel
theorem dX11_heldBy_8 : decode cX11_heldBy 8 = .ok (.getfield 116, 3) := by decide +kernel
theorem dX11_heldBy_11 : decode cX11_heldBy 11 = .ok (.if_icmp .ge 37, 3) := by decide +kernel
theorem dX11_heldBy_14 : decode cX11_heldBy 14 = .ok (.iload_n 3, 1) := by decide +kernel
theorem dX11_heldBy_15 : decode cX11_heldBy 15 = .ok (.iload_n 1, 1) := by decide +kernel
theorem dX11_heldBy_16 : decode cX11_heldBy 16 = .ok (.iload 4, 2) := by decide +kernel
theorem dX11_heldBy_18 : decode cX11_heldBy 18 = .ok (.ishr, 1) := by decide +kernel
theorem dX11_heldBy_19 : decode cX11_heldBy 19 = .ok (.iconst 1, 1) := by decide +kernel
theorem dX11_heldBy_20 : decode cX11_heldBy 20 = .ok (.iand, 1) := by decide +kernel
theorem dX11_heldBy_21 : decode cX11_heldBy 21 = .ok (.iconst 1, 1) := by decide +kernel
theorem dX11_heldBy_22 : decode cX11_heldBy 22 = .ok (.if_icmp .ne 17, 3) := by decide +kernel
theorem dX11_heldBy_25 : decode cX11_heldBy 25 = .ok (.aload_n 0, 1) := by decide +kernel
theorem dX11_heldBy_26 : decode cX11_heldBy 26 = .ok (.getfield 67, 3) := by decide +kernel
theorem dX11_heldBy_29 : decode cX11_heldBy 29 = .ok (.iload 4, 2) := by decide +kernel
theorem dX11_heldBy_31 : decode cX11_heldBy 31 = .ok (.iaload, 1) := by decide +kernel
theorem dX11_heldBy_32 : decode cX11_heldBy 32 = .ok (.iload_n 2, 1) := by decide +kernel
theorem dX11_heldBy_33 : decode cX11_heldBy 33 = .ok (.ishr, 1) := by decide +kernel
theorem dX11_heldBy_34 : decode cX11_heldBy 34 = .ok (.iconst 1, 1) := by decide +kernel
theorem dX11_heldBy_35 : decode cX11_heldBy 35 = .ok (.iand, 1) := by decide +kernel
theorem dX11_heldBy_36 : decode cX11_heldBy 36 = .ok (.goto 4, 3) := by decide +kernel
theorem dX11_heldBy_39 : decode cX11_heldBy 39 = .ok (.iconst 0, 1) := by decide +kernel
theorem dX11_heldBy_40 : decode cX11_heldBy 40 = .ok (.iadd, 1) := by decide +kernel
theorem dX11_heldBy_41 : decode cX11_heldBy 41 = .ok (.istore_n 3, 1) := by decide +kernel
theorem dX11_heldBy_42 : decode cX11_heldBy 42 = .ok (.iinc 4 1, 3) := by decide +kernel
theorem dX11_heldBy_45 : decode cX11_heldBy 45 = .ok (.goto (-40), 3) := by decide +kernel
theorem dX11_heldBy_48 : decode cX11_heldBy 48 = .ok (.iload_n 3, 1) := by decide +kernel
theorem dX11_heldBy_49 : decode cX11_heldBy 49 = .ok (.ireturn, 1) := by decide +kernel
theorem dX11_pass_0 : decode cX11_pass 0 = .ok (.aload_n 0, 1) := by decide +kernel
theorem dX11_pass_1 : decode cX11_pass 1 = .ok (.dup, 1) := by decide +kernel
theorem dX11_pass_2 : decode cX11_pass 2 = .ok (.getfield 109, 3) := by decide +kernel
theorem dX11_pass_5 : decode cX11_pass 5 = .ok (.iconst 1, 1) := by decide +kernel
theorem dX11_pass_6 : decode cX11_pass 6 = .ok (.iadd, 1) := by decide +kernel
theorem dX11_pass_7 : decode cX11_pass 7 = .ok (.putfield 109, 3) := by decide +kernel
theorem dX11_pass_10 : decode cX11_pass 10 = .ok (.aload_n 0, 1) := by decide +kernel
theorem dX11_pass_11 : decode cX11_pass 11 = .ok (.invokevirtual 167, 3) := by decide +kernel
theorem dX11_pass_14 : decode cX11_pass 14 = .ok (.iconst 0, 1) := by decide +kernel
theorem dX11_pass_15 : decode cX11_pass 15 = .ok (.istore_n 1, 1) := by decide +kernel
theorem dX11_pass_16 : decode cX11_pass 16 = .ok (.iload_n 1, 1) := by decide +kernel
theorem dX11_pass_17 : decode cX11_pass 17 = .ok (.aload_n 0, 1) := by decide +kernel
theorem dX11_pass_18 : decode cX11_pass 18 = .ok (.getfield 116, 3) := by decide +kernel
theorem dX11_pass_21 : decode cX11_pass 21 = .ok (.if_icmp .ge 42, 3) := by decide +kernel
theorem dX11_pass_24 : decode cX11_pass 24 = .ok (.aload_n 0, 1) := by decide +kernel
theorem dX11_pass_25 : decode cX11_pass 25 = .ok (.getfield 33, 3) := by decide +kernel
theorem dX11_pass_28 : decode cX11_pass 28 = .ok (.iload_n 1, 1) := by decide +kernel
theorem dX11_pass_29 : decode cX11_pass 29 = .ok (.baload, 1) := by decide +kernel
theorem dX11_pass_30 : decode cX11_pass 30 = .ok (.ifCond .eq 27, 3) := by decide +kernel
theorem dX11_pass_33 : decode cX11_pass 33 = .ok (.aload_n 0, 1) := by decide +kernel
theorem dX11_pass_34 : decode cX11_pass 34 = .ok (.getfield 70, 3) := by decide +kernel
theorem dX11_pass_37 : decode cX11_pass 37 = .ok (.iload_n 1, 1) := by decide +kernel
theorem dX11_pass_38 : decode cX11_pass 38 = .ok (.iaload, 1) := by decide +kernel
theorem dX11_pass_39 : decode cX11_pass 39 = .ok (.iconst (-1), 1) := by decide +kernel
theorem dX11_pass_40 : decode cX11_pass 40 = .ok (.if_icmp .eq 12, 3) := by decide +kernel
theorem dX11_pass_43 : decode cX11_pass 43 = .ok (.aload_n 0, 1) := by decide +kernel
theorem dX11_pass_44 : decode cX11_pass 44 = .ok (.getfield 76, 3) := by decide +kernel
theorem dX11_pass_47 : decode cX11_pass 47 = .ok (.iload_n 1, 1) := by decide +kernel
theorem dX11_pass_48 : decode cX11_pass 48 = .ok (.baload, 1) := by decide +kernel
theorem dX11_pass_49 : decode cX11_pass 49 = .ok (.ifCond .ne 8, 3) := by decide +kernel
theorem dX11_pass_52 : decode cX11_pass 52 = .ok (.aload_n 0, 1) := by decide +kernel
theorem dX11_pass_53 : decode cX11_pass 53 = .ok (.iload_n 1, 1) := by decide +kernel
theorem dX11_pass_54 : decode cX11_pass 54 = .ok (.invokevirtual 170, 3) := by decide +kernel
theorem dX11_pass_57 : decode cX11_pass 57 = .ok (.iinc 1 1, 3) := by decide +kernel
theorem dX11_pass_60 : decode cX11_pass 60 = .ok (.goto (-44), 3) := by decide +kernel
theorem dX11_pass_63 : decode cX11_pass 63 = .ok (.iconst 0, 1) := by decide +kernel
theorem dX11_pass_64 : decode cX11_pass 64 = .ok (.istore_n 1, 1) := by decide +kernel
theorem dX11_pass_65 : decode cX11_pass 65 = .ok (.iload_n 1, 1) := by decide +kernel
theorem dX11_pass_66 : decode cX11_pass 66 = .ok (.aload_n 0, 1) := by decide +kernel
theorem dX11_pass_67 : decode cX11_pass 67 = .ok (.getfield 113, 3) := by decide +kernel
theorem dX11_pass_70 : decode cX11_pass 70 = .ok (.if_icmp .ge 48, 3) := by decide +kernel
theorem dX11_pass_73 : decode cX11_pass 73 = .ok (.aload_n 0, 1) := by decide +kernel
theorem dX11_pass_74 : decode cX11_pass 74 = .ok (.getfield 109, 3) := by decide +kernel
theorem dX11_pass_77 : decode cX11_pass 77 = .ok (.iconst 5, 1) := by decide +kernel
theorem dX11_pass_78 : decode cX11_pass 78 = .ok (.irem, 1) := by decide +kernel
theorem dX11_pass_79 : decode cX11_pass 79 = .ok (.ifCond .ne 39, 3) := by decide +kernel
theorem dX11_pass_82 : decode cX11_pass 82 = .ok (.aload_n 0, 1) := by decide +kernel
theorem dX11_pass_83 : decode cX11_pass 83 = .ok (.getfield 15, 3) := by decide +kernel
theorem dX11_pass_86 : decode cX11_pass 86 = .ok (.iload_n 1, 1) := by decide +kernel
theorem dX11_pass_87 : decode cX11_pass 87 = .ok (.iaload, 1) := by decide +kernel
theorem dX11_pass_88 : decode cX11_pass 88 = .ok (.ifCond .le 24, 3) := by decide +kernel
theorem dX11_pass_91 : decode cX11_pass 91 = .ok (.aload_n 0, 1) := by decide +kernel
theorem dX11_pass_92 : decode cX11_pass 92 = .ok (.getfield 18, 3) := by decide +kernel
theorem dX11_pass_95 : decode cX11_pass 95 = .ok (.iload_n 1, 1) := by decide +kernel
theorem dX11_pass_96 : decode cX11_pass 96 = .ok (.dup2, 1) := by decide +kernel
theorem dX11_pass_97 : decode cX11_pass 97 = .ok (.iaload, 1) := by decide +kernel
theorem dX11_pass_98 : decode cX11_pass 98 = .ok (.bipush 15, 2) := by decide +kernel
theorem dX11_pass_100 : decode cX11_pass 100 = .ok (.aload_n 0, 1) := by decide +kernel
theorem dX11_pass_101 : decode cX11_pass 101 = .ok (.getfield 18, 3) := by decide +kernel
theorem dX11_pass_104 : decode cX11_pass 104 = .ok (.iload_n 1, 1) := by decide +kernel
theorem dX11_pass_105 : decode cX11_pass 105 = .ok (.iaload, 1) := by decide +kernel
theorem dX11_pass_106 : decode cX11_pass 106 = .ok (.isub, 1) := by decide +kernel
theorem dX11_pass_107 : decode cX11_pass 107 = .ok (.invokestatic 173, 3) := by decide +kernel
theorem dX11_pass_110 : decode cX11_pass 110 = .ok (.iadd, 1) := by decide +kernel
theorem dX11_pass_111 : decode cX11_pass 111 = .ok (.iastore, 1) := by decide +kernel
theorem dX11_pass_112 : decode cX11_pass 112 = .ok (.iinc 1 1, 3) := by decide +kernel
theorem dX11_pass_115 : decode cX11_pass 115 = .ok (.goto (-50), 3) := by decide +kernel
theorem dX11_pass_118 : decode cX11_pass 118 = .ok (.return_, 1) := by decide +kernel
theorem dX11_act_0 : decode cX11_act 0 = .ok (.iconst 4, 1) := by decide +kernel
theorem dX11_act_1 : decode cX11_act 1 = .ok (.bipush 60, 2) := by decide +kernel
theorem dX11_act_3 : decode cX11_act 3 = .ok (.iload_n 1, 1) := by decide +kernel
theorem dX11_act_4 : decode cX11_act 4 = .ok (.imul, 1) := by decide +kernel
theorem dX11_act_5 : decode cX11_act 5 = .ok (.aload_n 0, 1) := by decide +kernel
theorem dX11_act_6 : decode cX11_act 6 = .ok (.getfield 46, 3) := by decide +kernel
theorem dX11_act_9 : decode cX11_act 9 = .ok (.iload_n 1, 1) := by decide +kernel
theorem dX11_act_10 : decode cX11_act 10 = .ok (.iaload, 1) := by decide +kernel
theorem dX11_act_11 : decode cX11_act 11 = .ok (.iadd, 1) := by decide +kernel
theorem dX11_act_12 : decode cX11_act 12 = .ok (.imul, 1) := by decide +kernel
theorem dX11_act_13 : decode cX11_act 13 = .ok (.istore_n 2, 1) := by decide +kernel
theorem dX11_act_14 : decode cX11_act 14 = .ok (.aload_n 0, 1) := by decide +kernel
theorem dX11_act_15 : decode cX11_act 15 = .ok (.getfield 43, 3) := by decide +kernel
theorem dX11_act_18 : decode cX11_act 18 = .ok (.iload_n 2, 1) := by decide +kernel
theorem dX11_act_19 : decode cX11_act 19 = .ok (.iaload, 1) := by decide +kernel
theorem dX11_act_20 : decode cX11_act 20 = .ok (.istore_n 3, 1) := by decide +kernel
theorem dX11_act_21 : decode cX11_act 21 = .ok (.aload_n 0, 1) := by decide +kernel
theorem dX11_act_22 : decode cX11_act 22 = .ok (.getfield 43, 3) := by decide +kernel
theorem dX11_act_25 : decode cX11_act 25 = .ok (.iload_n 2, 1) := by decide +kernel
theorem dX11_act_26 : decode cX11_act 26 = .ok (.iconst 1, 1) := by decide +kernel
theorem dX11_act_27 : decode cX11_act 27 = .ok (.iadd, 1) := by decide +kernel
theorem dX11_act_28 : decode cX11_act 28 = .ok (.iaload, 1) := by decide +kernel
theorem dX11_act_29 : decode cX11_act 29 = .ok (.istore 4, 2) := by decide +kernel
theorem dX11_act_31 : decode cX11_act 31 = .ok (.iload_n 3, 1) := by decide +kernel
theorem dX11_act_32 : decode cX11_act 32 = .ok (.ifCond .ne 51, 3) := by decide +kernel
theorem dX11_act_35 : decode cX11_act 35 = .ok (.aload_n 0, 1) := by decide +kernel
theorem dX11_act_36 : decode cX11_act 36 = .ok (.getfield 67, 3) := by decide +kernel
theorem dX11_act_39 : decode cX11_act 39 = .ok (.iload_n 1, 1) := by decide +kernel
theorem dX11_act_40 : decode cX11_act 40 = .ok (.iaload, 1) := by decide +kernel
theorem dX11_act_41 : decode cX11_act 41 = .ok (.iload 4, 2) := by decide +kernel
theorem dX11_act_43 : decode cX11_act 43 = .ok (.ishr, 1) := by decide +kernel
theorem dX11_act_44 : decode cX11_act 44 = .ok (.iconst 1, 1) := by decide +kernel
theorem dX11_act_45 : decode cX11_act 45 = .ok (.iand, 1) := by decide +kernel
theorem dX11_act_46 : decode cX11_act 46 = .ok (.iconst 1, 1) := by decide +kernel
theorem dX11_act_47 : decode cX11_act 47 = .ok (.if_icmp .ne 7, 3) := by decide +kernel
theorem dX11_act_50 : decode cX11_act 50 = .ok (.iconst 1, 1) := by decide +kernel
theorem dX11_act_51 : decode cX11_act 51 = .ok (.goto 4, 3) := by decide +kernel
theorem dX11_act_54 : decode cX11_act 54 = .ok (.iconst 0, 1) := by decide +kernel
theorem dX11_act_55 : decode cX11_act 55 = .ok (.istore 5, 2) := by decide +kernel
theorem dX11_act_57 : decode cX11_act 57 = .ok (.iload 5, 2) := by decide +kernel
theorem dX11_act_59 : decode cX11_act 59 = .ok (.ifCond .ne 117, 3) := by decide +kernel
theorem dX11_act_62 : decode cX11_act 62 = .ok (.aload_n 0, 1) := by decide +kernel
theorem dX11_act_63 : decode cX11_act 63 = .ok (.getfield 70, 3) := by decide +kernel
theorem dX11_act_66 : decode cX11_act 66 = .ok (.iload_n 1, 1) := by decide +kernel
theorem dX11_act_67 : decode cX11_act 67 = .ok (.iaload, 1) := by decide +kernel
theorem dX11_act_68 : decode cX11_act 68 = .ok (.iconst (-1), 1) := by decide +kernel
theorem dX11_act_69 : decode cX11_act 69 = .ok (.if_icmp .ne 107, 3) := by decide +kernel
theorem dX11_act_72 : decode cX11_act 72 = .ok (.aload_n 0, 1) := by decide +kernel
theorem dX11_act_73 : decode cX11_act 73 = .ok (.iload_n 1, 1) := by decide +kernel
theorem dX11_act_74 : decode cX11_act 74 = .ok (.iload 4, 2) := by decide +kernel
theorem dX11_act_76 : decode cX11_act 76 = .ok (.iconst 0, 1) := by decide +kernel
theorem dX11_act_77 : decode cX11_act 77 = .ok (.invokevirtual 178, 3) := by decide +kernel
theorem dX11_act_80 : decode cX11_act 80 = .ok (.goto 96, 3) := by decide +kernel
theorem dX11_act_83 : decode cX11_act 83 = .ok (.iload_n 3, 1) := by decide +kernel
theorem dX11_act_84 : decode cX11_act 84 = .ok (.iconst 1, 1) := by decide +kernel
theorem dX11_act_85 : decode cX11_act 85 = .ok (.if_icmp .ne 24, 3) := by decide +kernel
theorem dX11_act_88 : decode cX11_act 88 = .ok (.aload_n 0, 1) := by decide +kernel
theorem dX11_act_89 : decode cX11_act 89 = .ok (.getfield 67, 3) := by decide +kernel
theorem dX11_act_92 : decode cX11_act 92 = .ok (.iload_n 1, 1) := by decide +kernel
theorem dX11_act_93 : decode cX11_act 93 = .ok (.dup2, 1) := by decide +kernel
theorem dX11_act_94 : decode cX11_act 94 = .ok (.iaload, 1) := by decide +kernel
theorem dX11_act_95 : decode cX11_act 95 = .ok (.iconst 1, 1) := by decide +kernel
theorem dX11_act_96 : decode cX11_act 96 = .ok (.iload 4, 2) := by decide +kernel
theorem dX11_act_98 : decode cX11_act 98 = .ok (.ishl, 1) := by decide +kernel
theorem dX11_act_99 : decode cX11_act 99 = .ok (.iconst (-1), 1) := by decide +kernel
theorem dX11_act_100 : decode cX11_act 100 = .ok (.ixor, 1) := by decide +kernel
theorem dX11_act_101 : decode cX11_act 101 = .ok (.iand, 1) := by decide +kernel
theorem dX11_act_102 : decode cX11_act 102 = .ok (.iastore, 1) := by decide +kernel
theorem dX11_act_103 : decode cX11_act 103 = .ok (.iconst 1, 1) := by decide +kernel
theorem dX11_act_104 : decode cX11_act 104 = .ok (.istore 5, 2) := by decide +kernel
theorem dX11_act_106 : decode cX11_act 106 = .ok (.goto 70, 3) := by decide +kernel
theorem dX11_act_109 : decode cX11_act 109 = .ok (.iload_n 3, 1) := by decide +kernel
theorem dX11_act_110 : decode cX11_act 110 = .ok (.iconst 2, 1) := by decide +kernel
theorem dX11_act_111 : decode cX11_act 111 = .ok (.if_icmp .ne 23, 3) := by decide +kernel
theorem dX11_act_114 : decode cX11_act 114 = .ok (.aload_n 0, 1) := by decide +kernel
theorem dX11_act_115 : decode cX11_act 115 = .ok (.iload_n 1, 1) := by decide +kernel
theorem dX11_act_116 : decode cX11_act 116 = .ok (.iload 4, 2) := by decide +kernel
theorem dX11_act_118 : decode cX11_act 118 = .ok (.aload_n 0, 1) := by decide +kernel
theorem dX11_act_119 : decode cX11_act 119 = .ok (.getfield 43, 3) := by decide +kernel
theorem dX11_act_122 : decode cX11_act 122 = .ok (.iload_n 2, 1) := by decide +kernel
theorem dX11_act_123 : decode cX11_act 123 = .ok (.iconst 2, 1) := by decide +kernel
theorem dX11_act_124 : decode cX11_act 124 = .ok (.iadd, 1) := by decide +kernel
theorem dX11_act_125 : decode cX11_act 125 = .ok (.iaload, 1) := by decide +kernel
theorem dX11_act_126 : decode cX11_act 126 = .ok (.invokevirtual 182, 3) := by decide +kernel
theorem dX11_act_129 : decode cX11_act 129 = .ok (.istore 5, 2) := by decide +kernel
theorem dX11_act_131 : decode cX11_act 131 = .ok (.goto 45, 3) := by decide +kernel
theorem dX11_act_134 : decode cX11_act 134 = .ok (.iload_n 3, 1) := by decide +kernel
theorem dX11_act_135 : decode cX11_act 135 = .ok (.iconst 5, 1) := by decide +kernel
theorem dX11_act_136 : decode cX11_act 136 = .ok (.if_icmp .ne 14, 3) := by decide +kernel
theorem dX11_act_139 : decode cX11_act 139 = .ok (.aload_n 0, 1) := by decide +kernel
theorem dX11_act_140 : decode cX11_act 140 = .ok (.iload_n 1, 1) := by decide +kernel
theorem dX11_act_141 : decode cX11_act 141 = .ok (.iload_n 2, 1) := by decide +kernel
theorem dX11_act_142 : decode cX11_act 142 = .ok (.invokevirtual 186, 3) := by decide +kernel
theorem dX11_act_145 : decode cX11_act 145 = .ok (.istore 5, 2) := by decide +kernel
theorem dX11_act_147 : decode cX11_act 147 = .ok (.goto 29, 3) := by decide +kernel
theorem dX11_act_150 : decode cX11_act 150 = .ok (.iload_n 3, 1) := by decide +kernel
theorem dX11_act_151 : decode cX11_act 151 = .ok (.bipush 7, 2) := by decide +kernel
theorem dX11_act_153 : decode cX11_act 153 = .ok (.if_icmp .ne 13, 3) := by decide +kernel
theorem dX11_act_156 : decode cX11_act 156 = .ok (.aload_n 0, 1) := by decide +kernel
theorem dX11_act_157 : decode cX11_act 157 = .ok (.iload_n 1, 1) := by decide +kernel
theorem dX11_act_158 : decode cX11_act 158 = .ok (.invokevirtual 189, 3) := by decide +kernel
theorem dX11_act_161 : decode cX11_act 161 = .ok (.istore 5, 2) := by decide +kernel
theorem dX11_act_163 : decode cX11_act 163 = .ok (.goto 13, 3) := by decide +kernel
theorem dX11_act_166 : decode cX11_act 166 = .ok (.aload_n 0, 1) := by decide +kernel
theorem dX11_act_167 : decode cX11_act 167 = .ok (.iload_n 1, 1) := by decide +kernel
theorem dX11_act_168 : decode cX11_act 168 = .ok (.iload_n 3, 1) := by decide +kernel
theorem dX11_act_169 : decode cX11_act 169 = .ok (.iload 4, 2) := by decide +kernel
theorem dX11_act_171 : decode cX11_act 171 = .ok (.invokevirtual 193, 3) := by decide +kernel
theorem dX11_act_174 : decode cX11_act 174 = .ok (.istore 5, 2) := by decide +kernel
theorem dX11_act_176 : decode cX11_act 176 = .ok (.iload 5, 2) := by decide +kernel
theorem dX11_act_178 : decode cX11_act 178 = .ok (.ifCond .ne 4, 3) := by decide +kernel
theorem dX11_act_181 : decode cX11_act 181 = .ok (.return_, 1) := by decide +kernel
theorem dX11_act_182 : decode cX11_act 182 = .ok (.aload_n 0, 1) := by decide +kernel
theorem dX11_act_183 : decode cX11_act 183 = .ok (.getfield 46, 3) := by decide +kernel
theorem dX11_act_186 : decode cX11_act 186 = .ok (.iload_n 1, 1) := by decide +kernel
theorem dX11_act_187 : decode cX11_act 187 = .ok (.dup2, 1) := by decide +kernel
theorem dX11_act_188 : decode cX11_act 188 = .ok (.iaload, 1) := by decide +kernel
theorem dX11_act_189 : decode cX11_act 189 = .ok (.iconst 1, 1) := by decide +kernel
theorem dX11_act_190 : decode cX11_act 190 = .ok (.iadd, 1) := by decide +kernel
theorem dX11_act_191 : decode cX11_act 191 = .ok (.iastore, 1) := by decide +kernel
theorem dX11_act_192 : decode cX11_act 192 = .ok (.aload_n 0, 1) := by decide +kernel
theorem dX11_act_193 : decode cX11_act 193 = .ok (.getfield 52, 3) := by decide +kernel
theorem dX11_act_196 : decode cX11_act 196 = .ok (.iload_n 1, 1) := by decide +kernel
theorem dX11_act_197 : decode cX11_act 197 = .ok (.iconst 0, 1) := by decide +kernel
theorem dX11_act_198 : decode cX11_act 198 = .ok (.iastore, 1) := by decide +kernel
theorem dX11_act_199 : decode cX11_act 199 = .ok (.aload_n 0, 1) := by decide +kernel
theorem dX11_act_200 : decode cX11_act 200 = .ok (.getfield 46, 3) := by decide +kernel
theorem dX11_act_203 : decode cX11_act 203 = .ok (.iload_n 1, 1) := by decide +kernel
theorem dX11_act_204 : decode cX11_act 204 = .ok (.iaload, 1) := by decide +kernel
theorem dX11_act_205 : decode cX11_act 205 = .ok (.aload_n 0, 1) := by decide +kernel
theorem dX11_act_206 : decode cX11_act 206 = .ok (.getfield 40, 3) := by decide +kernel
theorem dX11_act_209 : decode cX11_act 209 = .ok (.iload_n 1, 1) := by decide +kernel
theorem dX11_act_210 : decode cX11_act 210 = .ok (.iaload, 1) := by decide +kernel
theorem dX11_act_211 : decode cX11_act 211 = .ok (.if_icmp .ne 8, 3) := by decide +kernel
theorem dX11_act_214 : decode cX11_act 214 = .ok (.aload_n 0, 1) := by decide +kernel
theorem dX11_act_215 : decode cX11_act 215 = .ok (.iload_n 1, 1) := by decide +kernel
theorem dX11_act_216 : decode cX11_act 216 = .ok (.invokevirtual 196, 3) := by decide +kernel
theorem dX11_act_219 : decode cX11_act 219 = .ok (.return_, 1) := by decide +kernel
theorem dX11_cut_0 : decode cX11_cut 0 = .ok (.aload_n 0, 1) := by decide +kernel
theorem dX11_cut_1 : decode cX11_cut 1 = .ok (.iload_n 2, 1) := by decide +kernel
theorem dX11_cut_2 : decode cX11_cut 2 = .ok (.iload_n 3, 1) := by decide +kernel
theorem dX11_cut_3 : decode cX11_cut 3 = .ok (.invokevirtual 199, 3) := by decide +kernel
theorem dX11_cut_6 : decode cX11_cut 6 = .ok (.istore 4, 2) := by decide +kernel
theorem dX11_cut_8 : decode cX11_cut 8 = .ok (.iload 4, 2) := by decide +kernel
theorem dX11_cut_10 : decode cX11_cut 10 = .ok (.iconst (-1), 1) := by decide +kernel
theorem dX11_cut_11 : decode cX11_cut 11 = .ok (.if_icmp .ne 5, 3) := by decide +kernel
theorem dX11_cut_14 : decode cX11_cut 14 = .ok (.iconst 0, 1) := by decide +kernel
theorem dX11_cut_15 : decode cX11_cut 15 = .ok (.ireturn, 1) := by decide +kernel
theorem dX11_cut_16 : decode cX11_cut 16 = .ok (.aload_n 0, 1) := by decide +kernel
theorem dX11_cut_17 : decode cX11_cut 17 = .ok (.getfield 79, 3) := by decide +kernel
theorem dX11_cut_20 : decode cX11_cut 20 = .ok (.iload_n 1, 1) := by decide +kernel
theorem dX11_cut_21 : decode cX11_cut 21 = .ok (.iconst 1, 1) := by decide +kernel
theorem dX11_cut_22 : decode cX11_cut 22 = .ok (.bastore, 1) := by decide +kernel
theorem dX11_cut_23 : decode cX11_cut 23 = .ok (.aload_n 0, 1) := by decide +kernel
theorem dX11_cut_24 : decode cX11_cut 24 = .ok (.getfield 82, 3) := by decide +kernel
theorem dX11_cut_27 : decode cX11_cut 27 = .ok (.iload_n 1, 1) := by decide +kernel
theorem dX11_cut_28 : decode cX11_cut 28 = .ok (.iload_n 2, 1) := by decide +kernel
theorem dX11_cut_29 : decode cX11_cut 29 = .ok (.iastore, 1) := by decide +kernel
theorem dX11_cut_30 : decode cX11_cut 30 = .ok (.aload_n 0, 1) := by decide +kernel
theorem dX11_cut_31 : decode cX11_cut 31 = .ok (.getfield 85, 3) := by decide +kernel
theorem dX11_cut_34 : decode cX11_cut 34 = .ok (.iload_n 1, 1) := by decide +kernel
theorem dX11_cut_35 : decode cX11_cut 35 = .ok (.aload_n 0, 1) := by decide +kernel
theorem dX11_cut_36 : decode cX11_cut 36 = .ok (.getfield 18, 3) := by decide +kernel
theorem dX11_cut_39 : decode cX11_cut 39 = .ok (.iload 4, 2) := by decide +kernel
theorem dX11_cut_41 : decode cX11_cut 41 = .ok (.iaload, 1) := by decide +kernel
theorem dX11_cut_42 : decode cX11_cut 42 = .ok (.iastore, 1) := by decide +kernel
theorem dX11_cut_43 : decode cX11_cut 43 = .ok (.aload_n 0, 1) := by decide +kernel
theorem dX11_cut_44 : decode cX11_cut 44 = .ok (.getfield 88, 3) := by decide +kernel
theorem dX11_cut_47 : decode cX11_cut 47 = .ok (.iload_n 1, 1) := by decide +kernel
theorem dX11_cut_48 : decode cX11_cut 48 = .ok (.bipush 20, 2) := by decide +kernel
theorem dX11_cut_50 : decode cX11_cut 50 = .ok (.iastore, 1) := by decide +kernel
theorem dX11_cut_51 : decode cX11_cut 51 = .ok (.aload_n 0, 1) := by decide +kernel
theorem dX11_cut_52 : decode cX11_cut 52 = .ok (.getfield 91, 3) := by decide +kernel
theorem dX11_cut_55 : decode cX11_cut 55 = .ok (.iload_n 1, 1) := by decide +kernel
theorem dX11_cut_56 : decode cX11_cut 56 = .ok (.iconst 0, 1) := by decide +kernel
theorem dX11_cut_57 : decode cX11_cut 57 = .ok (.iastore, 1) := by decide +kernel
theorem dX11_cut_58 : decode cX11_cut 58 = .ok (.iconst 0, 1) := by decide +kernel
theorem dX11_cut_59 : decode cX11_cut 59 = .ok (.istore 5, 2) := by decide +kernel
theorem dX11_cut_61 : decode cX11_cut 61 = .ok (.iload 5, 2) := by decide +kernel
theorem dX11_cut_63 : decode cX11_cut 63 = .ok (.iconst 3, 1) := by decide +kernel
theorem dX11_cut_64 : decode cX11_cut 64 = .ok (.if_icmp .ge 33, 3) := by decide +kernel
theorem dX11_cut_67 : decode cX11_cut 67 = .ok (.aload_n 0, 1) := by decide +kernel
theorem dX11_cut_68 : decode cX11_cut 68 = .ok (.getfield 94, 3) := by decide +kernel
theorem dX11_cut_71 : decode cX11_cut 71 = .ok (.iconst 3, 1) := by decide +kernel
theorem dX11_cut_72 : decode cX11_cut 72 = .ok (.iload_n 1, 1) := by decide +kernel
theorem dX11_cut_73 : decode cX11_cut 73 = .ok (.imul, 1) := by decide +kernel
theorem dX11_cut_74 : decode cX11_cut 74 = .ok (.iload 5, 2) := by decide +kernel
theorem dX11_cut_76 : decode cX11_cut 76 = .ok (.iadd, 1) := by decide +kernel
theorem dX11_cut_77 : decode cX11_cut 77 = .ok (.iconst 0, 1) := by decide +kernel
theorem dX11_cut_78 : decode cX11_cut 78 = .ok (.iastore, 1) := by decide +kernel
theorem dX11_cut_79 : decode cX11_cut 79 = .ok (.aload_n 0, 1) := by decide +kernel
theorem dX11_cut_80 : decode cX11_cut 80 = .ok (.getfield 97, 3) := by decide +kernel
theorem dX11_cut_83 : decode cX11_cut 83 = .ok (.iconst 3, 1) := by decide +kernel
theorem dX11_cut_84 : decode cX11_cut 84 = .ok (.iload_n 1, 1) := by decide +kernel
theorem dX11_cut_85 : decode cX11_cut 85 = .ok (.imul, 1) := by decide +kernel
theorem dX11_cut_86 : decode cX11_cut 86 = .ok (.iload 5, 2) := by decide +kernel
theorem dX11_cut_88 : decode cX11_cut 88 = .ok (.iadd, 1) := by decide +kernel
theorem dX11_cut_89 : decode cX11_cut 89 = .ok (.iconst 0, 1) := by decide +kernel
theorem dX11_cut_90 : decode cX11_cut 90 = .ok (.iastore, 1) := by decide +kernel
theorem dX11_cut_91 : decode cX11_cut 91 = .ok (.iinc 5 1, 3) := by decide +kernel
theorem dX11_cut_94 : decode cX11_cut 94 = .ok (.goto (-33), 3) := by decide +kernel
theorem dX11_cut_97 : decode cX11_cut 97 = .ok (.aload_n 0, 1) := by decide +kernel
theorem dX11_cut_98 : decode cX11_cut 98 = .ok (.getfield 49, 3) := by decide +kernel
theorem dX11_cut_101 : decode cX11_cut 101 = .ok (.iload_n 1, 1) := by decide +kernel
theorem dX11_cut_102 : decode cX11_cut 102 = .ok (.aload_n 0, 1) := by decide +kernel
theorem dX11_cut_103 : decode cX11_cut 103 = .ok (.getfield 46, 3) := by decide +kernel
theorem dX11_cut_106 : decode cX11_cut 106 = .ok (.iload_n 1, 1) := by decide +kernel
theorem dX11_cut_107 : decode cX11_cut 107 = .ok (.iaload, 1) := by decide +kernel
theorem dX11_cut_108 : decode cX11_cut 108 = .ok (.iastore, 1) := by decide +kernel
theorem dX11_cut_109 : decode cX11_cut 109 = .ok (.aload_n 0, 1) := by decide +kernel
theorem dX11_cut_110 : decode cX11_cut 110 = .ok (.iload 4, 2) := by decide +kernel
theorem dX11_cut_112 : decode cX11_cut 112 = .ok (.aload_n 0, 1) := by decide +kernel
theorem dX11_cut_113 : decode cX11_cut 113 = .ok (.iload 4, 2) := by decide +kernel
theorem dX11_cut_115 : decode cX11_cut 115 = .ok (.iload_n 3, 1) := by decide +kernel
theorem dX11_cut_116 : decode cX11_cut 116 = .ok (.invokevirtual 145, 3) := by decide +kernel
theorem dX11_cut_119 : decode cX11_cut 119 = .ok (.iload_n 3, 1) := by decide +kernel
theorem dX11_cut_120 : decode cX11_cut 120 = .ok (.invokevirtual 202, 3) := by decide +kernel
theorem dX11_cut_123 : decode cX11_cut 123 = .ok (.iconst 1, 1) := by decide +kernel
theorem dX11_cut_124 : decode cX11_cut 124 = .ok (.ireturn, 1) := by decide +kernel
theorem dX11_warm_0 : decode cX11_warm 0 = .ok (.aload_n 0, 1) := by decide +kernel
theorem dX11_warm_1 : decode cX11_warm 1 = .ok (.getfield 88, 3) := by decide +kernel
theorem dX11_warm_4 : decode cX11_warm 4 = .ok (.iload_n 1, 1) := by decide +kernel
theorem dX11_warm_5 : decode cX11_warm 5 = .ok (.bipush 20, 2) := by decide +kernel
theorem dX11_warm_7 : decode cX11_warm 7 = .ok (.sipush 200, 3) := by decide +kernel
theorem dX11_warm_10 : decode cX11_warm 10 = .ok (.aload_n 0, 1) := by decide +kernel
theorem dX11_warm_11 : decode cX11_warm 11 = .ok (.getfield 88, 3) := by decide +kernel
theorem dX11_warm_14 : decode cX11_warm 14 = .ok (.iload_n 1, 1) := by decide +kernel
theorem dX11_warm_15 : decode cX11_warm 15 = .ok (.iaload, 1) := by decide +kernel
theorem dX11_warm_16 : decode cX11_warm 16 = .ok (.iload_n 2, 1) := by decide +kernel
theorem dX11_warm_17 : decode cX11_warm 17 = .ok (.iadd, 1) := by decide +kernel
theorem dX11_warm_18 : decode cX11_warm 18 = .ok (.invokestatic 206, 3) := by decide +kernel
theorem dX11_warm_21 : decode cX11_warm 21 = .ok (.invokestatic 139, 3) := by decide +kernel
theorem dX11_warm_24 : decode cX11_warm 24 = .ok (.iastore, 1) := by decide +kernel
theorem dX11_warm_25 : decode cX11_warm 25 = .ok (.return_, 1) := by decide +kernel
theorem dX11_moisten_0 : decode cX11_moisten 0 = .ok (.aload_n 0, 1) := by decide +kernel
theorem dX11_moisten_1 : decode cX11_moisten 1 = .ok (.getfield 85, 3) := by decide +kernel
theorem dX11_moisten_4 : decode cX11_moisten 4 = .ok (.iload_n 1, 1) := by decide +kernel
theorem dX11_moisten_5 : decode cX11_moisten 5 = .ok (.iconst 0, 1) := by decide +kernel
theorem dX11_moisten_6 : decode cX11_moisten 6 = .ok (.bipush 100, 2) := by decide +kernel
theorem dX11_moisten_8 : decode cX11_moisten 8 = .ok (.aload_n 0, 1) := by decide +kernel
theorem dX11_moisten_9 : decode cX11_moisten 9 = .ok (.getfield 85, 3) := by decide +kernel
theorem dX11_moisten_12 : decode cX11_moisten 12 = .ok (.iload_n 1, 1) := by decide +kernel
theorem dX11_moisten_13 : decode cX11_moisten 13 = .ok (.iaload, 1) := by decide +kernel
theorem dX11_moisten_14 : decode cX11_moisten 14 = .ok (.iload_n 2, 1) := by decide +kernel
theorem dX11_moisten_15 : decode cX11_moisten 15 = .ok (.iadd, 1) := by decide +kernel
theorem dX11_moisten_16 : decode cX11_moisten 16 = .ok (.invokestatic 206, 3) := by decide +kernel
theorem dX11_moisten_19 : decode cX11_moisten 19 = .ok (.invokestatic 139, 3) := by decide +kernel
theorem dX11_moisten_22 : decode cX11_moisten 22 = .ok (.iastore, 1) := by decide +kernel
theorem dX11_moisten_23 : decode cX11_moisten 23 = .ok (.return_, 1) := by decide +kernel
theorem dX11_treat_0 : decode cX11_treat 0 = .ok (.aload_n 0, 1) := by decide +kernel
theorem dX11_treat_1 : decode cX11_treat 1 = .ok (.iload_n 1, 1) := by decide +kernel
theorem dX11_treat_2 : decode cX11_treat 2 = .ok (.iload_n 2, 1) := by decide +kernel
theorem dX11_treat_3 : decode cX11_treat 3 = .ok (.iconst 3, 1) := by decide +kernel
theorem dX11_treat_4 : decode cX11_treat 4 = .ok (.if_icmp .ne 8, 3) := by decide +kernel
theorem dX11_treat_7 : decode cX11_treat 7 = .ok (.bipush (-10), 2) := by decide +kernel
theorem dX11_treat_9 : decode cX11_treat 9 = .ok (.goto 15, 3) := by decide +kernel
theorem dX11_treat_12 : decode cX11_treat 12 = .ok (.iload_n 2, 1) := by decide +kernel
theorem dX11_treat_13 : decode cX11_treat 13 = .ok (.iconst 4, 1) := by decide +kernel
theorem dX11_treat_14 : decode cX11_treat 14 = .ok (.if_icmp .ne 8, 3) := by decide +kernel
theorem dX11_treat_17 : decode cX11_treat 17 = .ok (.bipush 25, 2) := by decide +kernel
theorem dX11_treat_19 : decode cX11_treat 19 = .ok (.goto 5, 3) := by decide +kernel
theorem dX11_treat_22 : decode cX11_treat 22 = .ok (.bipush (-15), 2) := by decide +kernel
theorem dX11_treat_24 : decode cX11_treat 24 = .ok (.invokevirtual 209, 3) := by decide +kernel
theorem dX11_treat_27 : decode cX11_treat 27 = .ok (.aload_n 0, 1) := by decide +kernel
theorem dX11_treat_28 : decode cX11_treat 28 = .ok (.iload_n 1, 1) := by decide +kernel
theorem dX11_treat_29 : decode cX11_treat 29 = .ok (.iload_n 2, 1) := by decide +kernel
theorem dX11_treat_30 : decode cX11_treat 30 = .ok (.iconst 3, 1) := by decide +kernel
theorem dX11_treat_31 : decode cX11_treat 31 = .ok (.if_icmp .ne 8, 3) := by decide +kernel
theorem dX11_treat_34 : decode cX11_treat 34 = .ok (.bipush 8, 2) := by decide +kernel
theorem dX11_treat_36 : decode cX11_treat 36 = .ok (.goto 15, 3) := by decide +kernel
theorem dX11_treat_39 : decode cX11_treat 39 = .ok (.iload_n 2, 1) := by decide +kernel
theorem dX11_treat_40 : decode cX11_treat 40 = .ok (.iconst 4, 1) := by decide +kernel
theorem dX11_treat_41 : decode cX11_treat 41 = .ok (.if_icmp .ne 8, 3) := by decide +kernel
theorem dX11_treat_44 : decode cX11_treat 44 = .ok (.bipush (-3), 2) := by decide +kernel
theorem dX11_treat_46 : decode cX11_treat 46 = .ok (.goto 5, 3) := by decide +kernel
theorem dX11_treat_49 : decode cX11_treat 49 = .ok (.bipush (-4), 2) := by decide +kernel
theorem dX11_treat_51 : decode cX11_treat 51 = .ok (.invokevirtual 212, 3) := by decide +kernel
theorem dX11_treat_54 : decode cX11_treat 54 = .ok (.iload_n 2, 1) := by decide +kernel
theorem dX11_treat_55 : decode cX11_treat 55 = .ok (.iconst 4, 1) := by decide +kernel
theorem dX11_treat_56 : decode cX11_treat 56 = .ok (.if_icmp .ne 32, 3) := by decide +kernel
theorem dX11_treat_59 : decode cX11_treat 59 = .ok (.aload_n 0, 1) := by decide +kernel
theorem dX11_treat_60 : decode cX11_treat 60 = .ok (.getfield 88, 3) := by decide +kernel
theorem dX11_treat_63 : decode cX11_treat 63 = .ok (.iload_n 1, 1) := by decide +kernel
theorem dX11_treat_64 : decode cX11_treat 64 = .ok (.iaload, 1) := by decide +kernel
theorem dX11_treat_65 : decode cX11_treat 65 = .ok (.sipush 150, 3) := by decide +kernel
theorem dX11_treat_68 : decode cX11_treat 68 = .ok (.if_icmp .le 20, 3) := by decide +kernel
theorem dX11_treat_71 : decode cX11_treat 71 = .ok (.aload_n 0, 1) := by decide +kernel
theorem dX11_treat_72 : decode cX11_treat 72 = .ok (.getfield 85, 3) := by decide +kernel
theorem dX11_treat_75 : decode cX11_treat 75 = .ok (.iload_n 1, 1) := by decide +kernel
theorem dX11_treat_76 : decode cX11_treat 76 = .ok (.iaload, 1) := by decide +kernel
theorem dX11_treat_77 : decode cX11_treat 77 = .ok (.bipush 10, 2) := by decide +kernel
theorem dX11_treat_79 : decode cX11_treat 79 = .ok (.if_icmp .ge 9, 3) := by decide +kernel
theorem dX11_treat_82 : decode cX11_treat 82 = .ok (.aload_n 0, 1) := by decide +kernel
theorem dX11_treat_83 : decode cX11_treat 83 = .ok (.iload_n 1, 1) := by decide +kernel
theorem dX11_treat_84 : decode cX11_treat 84 = .ok (.invokevirtual 215, 3) := by decide +kernel
theorem dX11_treat_87 : decode cX11_treat 87 = .ok (.ireturn, 1) := by decide +kernel
theorem dX11_treat_88 : decode cX11_treat 88 = .ok (.aload_n 0, 1) := by decide +kernel
theorem dX11_treat_89 : decode cX11_treat 89 = .ok (.getfield 52, 3) := by decide +kernel
theorem dX11_treat_92 : decode cX11_treat 92 = .ok (.iload_n 1, 1) := by decide +kernel
theorem dX11_treat_93 : decode cX11_treat 93 = .ok (.dup2, 1) := by decide +kernel
theorem dX11_treat_94 : decode cX11_treat 94 = .ok (.iaload, 1) := by decide +kernel
theorem dX11_treat_95 : decode cX11_treat 95 = .ok (.iconst 1, 1) := by decide +kernel
theorem dX11_treat_96 : decode cX11_treat 96 = .ok (.iadd, 1) := by decide +kernel
theorem dX11_treat_97 : decode cX11_treat 97 = .ok (.iastore, 1) := by decide +kernel
theorem dX11_treat_98 : decode cX11_treat 98 = .ok (.aload_n 0, 1) := by decide +kernel
theorem dX11_treat_99 : decode cX11_treat 99 = .ok (.getfield 52, 3) := by decide +kernel
theorem dX11_treat_102 : decode cX11_treat 102 = .ok (.iload_n 1, 1) := by decide +kernel
theorem dX11_treat_103 : decode cX11_treat 103 = .ok (.iaload, 1) := by decide +kernel
theorem dX11_treat_104 : decode cX11_treat 104 = .ok (.iload_n 3, 1) := by decide +kernel
theorem dX11_treat_105 : decode cX11_treat 105 = .ok (.if_icmp .ne 7, 3) := by decide +kernel
theorem dX11_treat_108 : decode cX11_treat 108 = .ok (.iconst 1, 1) := by decide +kernel
theorem dX11_treat_109 : decode cX11_treat 109 = .ok (.goto 4, 3) := by decide +kernel
theorem dX11_treat_112 : decode cX11_treat 112 = .ok (.iconst 0, 1) := by decide +kernel
theorem dX11_treat_113 : decode cX11_treat 113 = .ok (.ireturn, 1) := by decide +kernel
theorem dX11_bend_0 : decode cX11_bend 0 = .ok (.iconst 1, 1) := by decide +kernel
theorem dX11_bend_1 : decode cX11_bend 1 = .ok (.istore_n 3, 1) := by decide +kernel
theorem dX11_bend_2 : decode cX11_bend 2 = .ok (.iconst 0, 1) := by decide +kernel
theorem dX11_bend_3 : decode cX11_bend 3 = .ok (.istore 4, 2) := by decide +kernel
theorem dX11_bend_5 : decode cX11_bend 5 = .ok (.iload 4, 2) := by decide +kernel
theorem dX11_bend_7 : decode cX11_bend 7 = .ok (.iconst 3, 1) := by decide +kernel
theorem dX11_bend_8 : decode cX11_bend 8 = .ok (.if_icmp .ge 66, 3) := by decide +kernel
theorem dX11_bend_11 : decode cX11_bend 11 = .ok (.aload_n 0, 1) := by decide +kernel
theorem dX11_bend_12 : decode cX11_bend 12 = .ok (.getfield 97, 3) := by decide +kernel
theorem dX11_bend_15 : decode cX11_bend 15 = .ok (.iconst 3, 1) := by decide +kernel
theorem dX11_bend_16 : decode cX11_bend 16 = .ok (.iload_n 1, 1) := by decide +kernel
theorem dX11_bend_17 : decode cX11_bend 17 = .ok (.imul, 1) := by decide +kernel
theorem dX11_bend_18 : decode cX11_bend 18 = .ok (.iload 4, 2) := by decide +kernel
theorem dX11_bend_20 : decode cX11_bend 20 = .ok (.iadd, 1) := by decide +kernel
theorem dX11_bend_21 : decode cX11_bend 21 = .ok (.aload_n 0, 1) := by decide +kernel
theorem dX11_bend_22 : decode cX11_bend 22 = .ok (.getfield 43, 3) := by decide +kernel
theorem dX11_bend_25 : decode cX11_bend 25 = .ok (.iload_n 2, 1) := by decide +kernel
theorem dX11_bend_26 : decode cX11_bend 26 = .ok (.iconst 1, 1) := by decide +kernel
theorem dX11_bend_27 : decode cX11_bend 27 = .ok (.iadd, 1) := by decide +kernel
theorem dX11_bend_28 : decode cX11_bend 28 = .ok (.iload 4, 2) := by decide +kernel
theorem dX11_bend_30 : decode cX11_bend 30 = .ok (.iadd, 1) := by decide +kernel
theorem dX11_bend_31 : decode cX11_bend 31 = .ok (.iaload, 1) := by decide +kernel
theorem dX11_bend_32 : decode cX11_bend 32 = .ok (.iastore, 1) := by decide +kernel
theorem dX11_bend_33 : decode cX11_bend 33 = .ok (.iload_n 3, 1) := by decide +kernel
theorem dX11_bend_34 : decode cX11_bend 34 = .ok (.ifCond .eq 32, 3) := by decide +kernel
theorem dX11_bend_37 : decode cX11_bend 37 = .ok (.aload_n 0, 1) := by decide +kernel
theorem dX11_bend_38 : decode cX11_bend 38 = .ok (.getfield 94, 3) := by decide +kernel
theorem dX11_bend_41 : decode cX11_bend 41 = .ok (.iconst 3, 1) := by decide +kernel
theorem dX11_bend_42 : decode cX11_bend 42 = .ok (.iload_n 1, 1) := by decide +kernel
theorem dX11_bend_43 : decode cX11_bend 43 = .ok (.imul, 1) := by decide +kernel
theorem dX11_bend_44 : decode cX11_bend 44 = .ok (.iload 4, 2) := by decide +kernel
theorem dX11_bend_46 : decode cX11_bend 46 = .ok (.iadd, 1) := by decide +kernel
theorem dX11_bend_47 : decode cX11_bend 47 = .ok (.iaload, 1) := by decide +kernel
theorem dX11_bend_48 : decode cX11_bend 48 = .ok (.aload_n 0, 1) := by decide +kernel
theorem dX11_bend_49 : decode cX11_bend 49 = .ok (.getfield 97, 3) := by decide +kernel
theorem dX11_bend_52 : decode cX11_bend 52 = .ok (.iconst 3, 1) := by decide +kernel
theorem dX11_bend_53 : decode cX11_bend 53 = .ok (.iload_n 1, 1) := by decide +kernel
theorem dX11_bend_54 : decode cX11_bend 54 = .ok (.imul, 1) := by decide +kernel
theorem dX11_bend_55 : decode cX11_bend 55 = .ok (.iload 4, 2) := by decide +kernel
theorem dX11_bend_57 : decode cX11_bend 57 = .ok (.iadd, 1) := by decide +kernel
theorem dX11_bend_58 : decode cX11_bend 58 = .ok (.iaload, 1) := by decide +kernel
theorem dX11_bend_59 : decode cX11_bend 59 = .ok (.if_icmp .ne 7, 3) := by decide +kernel
theorem dX11_bend_62 : decode cX11_bend 62 = .ok (.iconst 1, 1) := by decide +kernel
theorem dX11_bend_63 : decode cX11_bend 63 = .ok (.goto 4, 3) := by decide +kernel
theorem dX11_bend_66 : decode cX11_bend 66 = .ok (.iconst 0, 1) := by decide +kernel
theorem dX11_bend_67 : decode cX11_bend 67 = .ok (.istore_n 3, 1) := by decide +kernel
theorem dX11_bend_68 : decode cX11_bend 68 = .ok (.iinc 4 1, 3) := by decide +kernel
theorem dX11_bend_71 : decode cX11_bend 71 = .ok (.goto (-66), 3) := by decide +kernel
theorem dX11_bend_74 : decode cX11_bend 74 = .ok (.aload_n 0, 1) := by decide +kernel
theorem dX11_bend_75 : decode cX11_bend 75 = .ok (.getfield 88, 3) := by decide +kernel
theorem dX11_bend_78 : decode cX11_bend 78 = .ok (.iload_n 1, 1) := by decide +kernel
theorem dX11_bend_79 : decode cX11_bend 79 = .ok (.iaload, 1) := by decide +kernel
theorem dX11_bend_80 : decode cX11_bend 80 = .ok (.aload_n 0, 1) := by decide +kernel
theorem dX11_bend_81 : decode cX11_bend 81 = .ok (.getfield 85, 3) := by decide +kernel
theorem dX11_bend_84 : decode cX11_bend 84 = .ok (.iload_n 1, 1) := by decide +kernel
theorem dX11_bend_85 : decode cX11_bend 85 = .ok (.iaload, 1) := by decide +kernel
theorem dX11_bend_86 : decode cX11_bend 86 = .ok (.bipush 20, 2) := by decide +kernel
theorem dX11_bend_88 : decode cX11_bend 88 = .ok (.iadd, 1) := by decide +kernel
theorem dX11_bend_89 : decode cX11_bend 89 = .ok (.imul, 1) := by decide +kernel
theorem dX11_bend_90 : decode cX11_bend 90 = .ok (.bipush 100, 2) := by decide +kernel
theorem dX11_bend_92 : decode cX11_bend 92 = .ok (.getstatic 218, 3) := by decide +kernel
theorem dX11_bend_95 : decode cX11_bend 95 = .ok (.aload_n 0, 1) := by decide +kernel
theorem dX11_bend_96 : decode cX11_bend 96 = .ok (.getfield 82, 3) := by decide +kernel
theorem dX11_bend_99 : decode cX11_bend 99 = .ok (.iload_n 1, 1) := by decide +kernel
theorem dX11_bend_100 : decode cX11_bend 100 = .ok (.iaload, 1) := by decide +kernel
theorem dX11_bend_101 : decode cX11_bend 101 = .ok (.iaload, 1) := by decide +kernel
theorem dX11_bend_102 : decode cX11_bend 102 = .ok (.imul, 1) := by decide +kernel
theorem dX11_bend_103 : decode cX11_bend 103 = .ok (.idiv, 1) := by decide +kernel
theorem dX11_bend_104 : decode cX11_bend 104 = .ok (.istore 4, 2) := by decide +kernel
theorem dX11_bend_106 : decode cX11_bend 106 = .ok (.iload 4, 2) := by decide +kernel
theorem dX11_bend_108 : decode cX11_bend 108 = .ok (.ifCond .ne 33, 3) := by decide +kernel
theorem dX11_bend_111 : decode cX11_bend 111 = .ok (.iload_n 3, 1) := by decide +kernel
theorem dX11_bend_112 : decode cX11_bend 112 = .ok (.ifCond .ne 29, 3) := by decide +kernel
theorem dX11_bend_115 : decode cX11_bend 115 = .ok (.aload_n 0, 1) := by decide +kernel
theorem dX11_bend_116 : decode cX11_bend 116 = .ok (.getfield 91, 3) := by decide +kernel
theorem dX11_bend_119 : decode cX11_bend 119 = .ok (.iload_n 1, 1) := by decide +kernel
theorem dX11_bend_120 : decode cX11_bend 120 = .ok (.dup2, 1) := by decide +kernel
theorem dX11_bend_121 : decode cX11_bend 121 = .ok (.iaload, 1) := by decide +kernel
theorem dX11_bend_122 : decode cX11_bend 122 = .ok (.iconst 1, 1) := by decide +kernel
theorem dX11_bend_123 : decode cX11_bend 123 = .ok (.iadd, 1) := by decide +kernel
theorem dX11_bend_124 : decode cX11_bend 124 = .ok (.iastore, 1) := by decide +kernel
theorem dX11_bend_125 : decode cX11_bend 125 = .ok (.aload_n 0, 1) := by decide +kernel
theorem dX11_bend_126 : decode cX11_bend 126 = .ok (.getfield 91, 3) := by decide +kernel
theorem dX11_bend_129 : decode cX11_bend 129 = .ok (.iload_n 1, 1) := by decide +kernel
theorem dX11_bend_130 : decode cX11_bend 130 = .ok (.iaload, 1) := by decide +kernel
theorem dX11_bend_131 : decode cX11_bend 131 = .ok (.iconst 3, 1) := by decide +kernel
theorem dX11_bend_132 : decode cX11_bend 132 = .ok (.if_icmp .ne 9, 3) := by decide +kernel
theorem dX11_bend_135 : decode cX11_bend 135 = .ok (.aload_n 0, 1) := by decide +kernel
theorem dX11_bend_136 : decode cX11_bend 136 = .ok (.iload_n 1, 1) := by decide +kernel
theorem dX11_bend_137 : decode cX11_bend 137 = .ok (.invokevirtual 215, 3) := by decide +kernel
theorem dX11_bend_140 : decode cX11_bend 140 = .ok (.ireturn, 1) := by decide +kernel
theorem dX11_bend_141 : decode cX11_bend 141 = .ok (.iconst 1, 1) := by decide +kernel
theorem dX11_bend_142 : decode cX11_bend 142 = .ok (.istore_n 3, 1) := by decide +kernel
theorem dX11_bend_143 : decode cX11_bend 143 = .ok (.iconst 3, 1) := by decide +kernel
theorem dX11_bend_144 : decode cX11_bend 144 = .ok (.iload_n 1, 1) := by decide +kernel
theorem dX11_bend_145 : decode cX11_bend 145 = .ok (.imul, 1) := by decide +kernel
theorem dX11_bend_146 : decode cX11_bend 146 = .ok (.istore 5, 2) := by decide +kernel
theorem dX11_bend_148 : decode cX11_bend 148 = .ok (.iload 5, 2) := by decide +kernel
theorem dX11_bend_150 : decode cX11_bend 150 = .ok (.iconst 3, 1) := by decide +kernel
theorem dX11_bend_151 : decode cX11_bend 151 = .ok (.iload_n 1, 1) := by decide +kernel
theorem dX11_bend_152 : decode cX11_bend 152 = .ok (.imul, 1) := by decide +kernel
theorem dX11_bend_153 : decode cX11_bend 153 = .ok (.iconst 3, 1) := by decide +kernel
theorem dX11_bend_154 : decode cX11_bend 154 = .ok (.iadd, 1) := by decide +kernel
theorem dX11_bend_155 : decode cX11_bend 155 = .ok (.if_icmp .ge 79, 3) := by decide +kernel
theorem dX11_bend_158 : decode cX11_bend 158 = .ok (.aload_n 0, 1) := by decide +kernel
theorem dX11_bend_159 : decode cX11_bend 159 = .ok (.getfield 97, 3) := by decide +kernel
theorem dX11_bend_162 : decode cX11_bend 162 = .ok (.iload 5, 2) := by decide +kernel
theorem dX11_bend_164 : decode cX11_bend 164 = .ok (.iaload, 1) := by decide +kernel
theorem dX11_bend_165 : decode cX11_bend 165 = .ok (.aload_n 0, 1) := by decide +kernel
theorem dX11_bend_166 : decode cX11_bend 166 = .ok (.getfield 94, 3) := by decide +kernel
theorem dX11_bend_169 : decode cX11_bend 169 = .ok (.iload 5, 2) := by decide +kernel
theorem dX11_bend_171 : decode cX11_bend 171 = .ok (.iaload, 1) := by decide +kernel
theorem dX11_bend_172 : decode cX11_bend 172 = .ok (.isub, 1) := by decide +kernel
theorem dX11_bend_173 : decode cX11_bend 173 = .ok (.istore 6, 2) := by decide +kernel
theorem dX11_bend_175 : decode cX11_bend 175 = .ok (.aload_n 0, 1) := by decide +kernel
theorem dX11_bend_176 : decode cX11_bend 176 = .ok (.getfield 94, 3) := by decide +kernel
theorem dX11_bend_179 : decode cX11_bend 179 = .ok (.iload 5, 2) := by decide +kernel
theorem dX11_bend_181 : decode cX11_bend 181 = .ok (.dup2, 1) := by decide +kernel
theorem dX11_bend_182 : decode cX11_bend 182 = .ok (.iaload, 1) := by decide +kernel
theorem dX11_bend_183 : decode cX11_bend 183 = .ok (.iload 6, 2) := by decide +kernel
theorem dX11_bend_185 : decode cX11_bend 185 = .ok (.invokestatic 173, 3) := by decide +kernel
theorem dX11_bend_188 : decode cX11_bend 188 = .ok (.iload 4, 2) := by decide +kernel
theorem dX11_bend_190 : decode cX11_bend 190 = .ok (.iload 6, 2) := by decide +kernel
theorem dX11_bend_192 : decode cX11_bend 192 = .ok (.invokestatic 221, 3) := by decide +kernel
theorem dX11_bend_195 : decode cX11_bend 195 = .ok (.invokestatic 206, 3) := by decide +kernel
theorem dX11_bend_198 : decode cX11_bend 198 = .ok (.imul, 1) := by decide +kernel
theorem dX11_bend_199 : decode cX11_bend 199 = .ok (.iadd, 1) := by decide +kernel
theorem dX11_bend_200 : decode cX11_bend 200 = .ok (.iastore, 1) := by decide +kernel
theorem dX11_bend_201 : decode cX11_bend 201 = .ok (.iload_n 3, 1) := by decide +kernel
theorem dX11_bend_202 : decode cX11_bend 202 = .ok (.ifCond .eq 24, 3) := by decide +kernel
theorem dX11_bend_205 : decode cX11_bend 205 = .ok (.aload_n 0, 1) := by decide +kernel
theorem dX11_bend_206 : decode cX11_bend 206 = .ok (.getfield 94, 3) := by decide +kernel
theorem dX11_bend_209 : decode cX11_bend 209 = .ok (.iload 5, 2) := by decide +kernel
theorem dX11_bend_211 : decode cX11_bend 211 = .ok (.iaload, 1) := by decide +kernel
theorem dX11_bend_212 : decode cX11_bend 212 = .ok (.aload_n 0, 1) := by decide +kernel
theorem dX11_bend_213 : decode cX11_bend 213 = .ok (.getfield 97, 3) := by decide +kernel
theorem dX11_bend_216 : decode cX11_bend 216 = .ok (.iload 5, 2) := by decide +kernel
theorem dX11_bend_218 : decode cX11_bend 218 = .ok (.iaload, 1) := by decide +kernel
theorem dX11_bend_219 : decode cX11_bend 219 = .ok (.if_icmp .ne 7, 3) := by decide +kernel
theorem dX11_bend_222 : decode cX11_bend 222 = .ok (.iconst 1, 1) := by decide +kernel
theorem dX11_bend_223 : decode cX11_bend 223 = .ok (.goto 4, 3) := by decide +kernel
theorem dX11_bend_226 : decode cX11_bend 226 = .ok (.iconst 0, 1) := by decide +kernel
theorem dX11_bend_227 : decode cX11_bend 227 = .ok (.istore_n 3, 1) := by decide +kernel
theorem dX11_bend_228 : decode cX11_bend 228 = .ok (.iinc 5 1, 3) := by decide +kernel
theorem dX11_bend_231 : decode cX11_bend 231 = .ok (.goto (-83), 3) := by decide +kernel
theorem dX11_bend_234 : decode cX11_bend 234 = .ok (.aload_n 0, 1) := by decide +kernel
theorem dX11_bend_235 : decode cX11_bend 235 = .ok (.iload_n 1, 1) := by decide +kernel
theorem dX11_bend_236 : decode cX11_bend 236 = .ok (.bipush (-10), 2) := by decide +kernel
theorem dX11_bend_238 : decode cX11_bend 238 = .ok (.invokevirtual 209, 3) := by decide +kernel
theorem dX11_bend_241 : decode cX11_bend 241 = .ok (.aload_n 0, 1) := by decide +kernel
theorem dX11_bend_242 : decode cX11_bend 242 = .ok (.iload_n 1, 1) := by decide +kernel
theorem dX11_bend_243 : decode cX11_bend 243 = .ok (.iconst (-1), 1) := by decide +kernel
theorem dX11_bend_244 : decode cX11_bend 244 = .ok (.invokevirtual 212, 3) := by decide +kernel
theorem dX11_bend_247 : decode cX11_bend 247 = .ok (.iload_n 3, 1) := by decide +kernel
theorem dX11_bend_248 : decode cX11_bend 248 = .ok (.ireturn, 1) := by decide +kernel
theorem dX11_fit_0 : decode cX11_fit 0 = .ok (.iconst 0, 1) := by decide +kernel
theorem dX11_fit_1 : decode cX11_fit 1 = .ok (.istore_n 2, 1) := by decide +kernel
theorem dX11_fit_2 : decode cX11_fit 2 = .ok (.iconst 3, 1) := by decide +kernel
theorem dX11_fit_3 : decode cX11_fit 3 = .ok (.iload_n 1, 1) := by decide +kernel
theorem dX11_fit_4 : decode cX11_fit 4 = .ok (.imul, 1) := by decide +kernel
theorem dX11_fit_5 : decode cX11_fit 5 = .ok (.istore_n 3, 1) := by decide +kernel
theorem dX11_fit_6 : decode cX11_fit 6 = .ok (.iload_n 3, 1) := by decide +kernel
theorem dX11_fit_7 : decode cX11_fit 7 = .ok (.iconst 3, 1) := by decide +kernel
theorem dX11_fit_8 : decode cX11_fit 8 = .ok (.iload_n 1, 1) := by decide +kernel
theorem dX11_fit_9 : decode cX11_fit 9 = .ok (.imul, 1) := by decide +kernel
theorem dX11_fit_10 : decode cX11_fit 10 = .ok (.iconst 3, 1) := by decide +kernel
theorem dX11_fit_11 : decode cX11_fit 11 = .ok (.iadd, 1) := by decide +kernel
theorem dX11_fit_12 : decode cX11_fit 12 = .ok (.if_icmp .ge 54, 3) := by decide +kernel
theorem dX11_fit_15 : decode cX11_fit 15 = .ok (.aload_n 0, 1) := by decide +kernel
theorem dX11_fit_16 : decode cX11_fit 16 = .ok (.getfield 94, 3) := by decide +kernel
theorem dX11_fit_19 : decode cX11_fit 19 = .ok (.iload_n 3, 1) := by decide +kernel
theorem dX11_fit_20 : decode cX11_fit 20 = .ok (.dup2, 1) := by decide +kernel
theorem dX11_fit_21 : decode cX11_fit 21 = .ok (.iaload, 1) := by decide +kernel
theorem dX11_fit_22 : decode cX11_fit 22 = .ok (.aload_n 0, 1) := by decide +kernel
theorem dX11_fit_23 : decode cX11_fit 23 = .ok (.getfield 94, 3) := by decide +kernel
theorem dX11_fit_26 : decode cX11_fit 26 = .ok (.iload_n 3, 1) := by decide +kernel
theorem dX11_fit_27 : decode cX11_fit 27 = .ok (.iaload, 1) := by decide +kernel
theorem dX11_fit_28 : decode cX11_fit 28 = .ok (.aload_n 0, 1) := by decide +kernel
theorem dX11_fit_29 : decode cX11_fit 29 = .ok (.getfield 85, 3) := by decide +kernel
theorem dX11_fit_32 : decode cX11_fit 32 = .ok (.iload_n 1, 1) := by decide +kernel
theorem dX11_fit_33 : decode cX11_fit 33 = .ok (.iaload, 1) := by decide +kernel
theorem dX11_fit_34 : decode cX11_fit 34 = .ok (.imul, 1) := by decide +kernel
theorem dX11_fit_35 : decode cX11_fit 35 = .ok (.sipush 200, 3) := by decide +kernel
theorem dX11_fit_38 : decode cX11_fit 38 = .ok (.idiv, 1) := by decide +kernel
theorem dX11_fit_39 : decode cX11_fit 39 = .ok (.isub, 1) := by decide +kernel
theorem dX11_fit_40 : decode cX11_fit 40 = .ok (.iastore, 1) := by decide +kernel
theorem dX11_fit_41 : decode cX11_fit 41 = .ok (.iload_n 2, 1) := by decide +kernel
theorem dX11_fit_42 : decode cX11_fit 42 = .ok (.aload_n 0, 1) := by decide +kernel
theorem dX11_fit_43 : decode cX11_fit 43 = .ok (.getfield 97, 3) := by decide +kernel
theorem dX11_fit_46 : decode cX11_fit 46 = .ok (.iload_n 3, 1) := by decide +kernel
theorem dX11_fit_47 : decode cX11_fit 47 = .ok (.iaload, 1) := by decide +kernel
theorem dX11_fit_48 : decode cX11_fit 48 = .ok (.aload_n 0, 1) := by decide +kernel
theorem dX11_fit_49 : decode cX11_fit 49 = .ok (.getfield 94, 3) := by decide +kernel
theorem dX11_fit_52 : decode cX11_fit 52 = .ok (.iload_n 3, 1) := by decide +kernel
theorem dX11_fit_53 : decode cX11_fit 53 = .ok (.iaload, 1) := by decide +kernel
theorem dX11_fit_54 : decode cX11_fit 54 = .ok (.isub, 1) := by decide +kernel
theorem dX11_fit_55 : decode cX11_fit 55 = .ok (.invokestatic 221, 3) := by decide +kernel
theorem dX11_fit_58 : decode cX11_fit 58 = .ok (.iadd, 1) := by decide +kernel
theorem dX11_fit_59 : decode cX11_fit 59 = .ok (.istore_n 2, 1) := by decide +kernel
theorem dX11_fit_60 : decode cX11_fit 60 = .ok (.iinc 3 1, 3) := by decide +kernel
theorem dX11_fit_63 : decode cX11_fit 63 = .ok (.goto (-57), 3) := by decide +kernel
theorem dX11_fit_66 : decode cX11_fit 66 = .ok (.iload_n 2, 1) := by decide +kernel
theorem dX11_fit_67 : decode cX11_fit 67 = .ok (.aload_n 0, 1) := by decide +kernel
theorem dX11_fit_68 : decode cX11_fit 68 = .ok (.getfield 37, 3) := by decide +kernel
theorem dX11_fit_71 : decode cX11_fit 71 = .ok (.iload_n 1, 1) := by decide +kernel
theorem dX11_fit_72 : decode cX11_fit 72 = .ok (.iaload, 1) := by decide +kernel
theorem dX11_fit_73 : decode cX11_fit 73 = .ok (.if_icmp .le 9, 3) := by decide +kernel
theorem dX11_fit_76 : decode cX11_fit 76 = .ok (.aload_n 0, 1) := by decide +kernel
theorem dX11_fit_77 : decode cX11_fit 77 = .ok (.iload_n 1, 1) := by decide +kernel
theorem dX11_fit_78 : decode cX11_fit 78 = .ok (.invokevirtual 215, 3) := by decide +kernel
theorem dX11_fit_81 : decode cX11_fit 81 = .ok (.ireturn, 1) := by decide +kernel
theorem dX11_fit_82 : decode cX11_fit 82 = .ok (.aload_n 0, 1) := by decide +kernel
theorem dX11_fit_83 : decode cX11_fit 83 = .ok (.getfield 55, 3) := by decide +kernel
theorem dX11_fit_86 : decode cX11_fit 86 = .ok (.iload_n 1, 1) := by decide +kernel
theorem dX11_fit_87 : decode cX11_fit 87 = .ok (.dup2, 1) := by decide +kernel
theorem dX11_fit_88 : decode cX11_fit 88 = .ok (.iaload, 1) := by decide +kernel
theorem dX11_fit_89 : decode cX11_fit 89 = .ok (.iconst 1, 1) := by decide +kernel
theorem dX11_fit_90 : decode cX11_fit 90 = .ok (.iadd, 1) := by decide +kernel
theorem dX11_fit_91 : decode cX11_fit 91 = .ok (.iastore, 1) := by decide +kernel
theorem dX11_fit_92 : decode cX11_fit 92 = .ok (.aload_n 0, 1) := by decide +kernel
theorem dX11_fit_93 : decode cX11_fit 93 = .ok (.getfield 58, 3) := by decide +kernel
theorem dX11_fit_96 : decode cX11_fit 96 = .ok (.iload_n 1, 1) := by decide +kernel
theorem dX11_fit_97 : decode cX11_fit 97 = .ok (.dup2, 1) := by decide +kernel
theorem dX11_fit_98 : decode cX11_fit 98 = .ok (.iaload, 1) := by decide +kernel
theorem dX11_fit_99 : decode cX11_fit 99 = .ok (.iload_n 2, 1) := by decide +kernel
theorem dX11_fit_100 : decode cX11_fit 100 = .ok (.iadd, 1) := by decide +kernel
theorem dX11_fit_101 : decode cX11_fit 101 = .ok (.iastore, 1) := by decide +kernel
theorem dX11_fit_102 : decode cX11_fit 102 = .ok (.aload_n 0, 1) := by decide +kernel
theorem dX11_fit_103 : decode cX11_fit 103 = .ok (.iload_n 1, 1) := by decide +kernel
theorem dX11_fit_104 : decode cX11_fit 104 = .ok (.invokevirtual 224, 3) := by decide +kernel
theorem dX11_fit_107 : decode cX11_fit 107 = .ok (.iconst 1, 1) := by decide +kernel
theorem dX11_fit_108 : decode cX11_fit 108 = .ok (.ireturn, 1) := by decide +kernel
theorem dX11_clearPiece_0 : decode cX11_clearPiece 0 = .ok (.aload_n 0, 1) := by decide +kernel
theorem dX11_clearPiece_1 : decode cX11_clearPiece 1 = .ok (.getfield 79, 3) := by decide +kernel
theorem dX11_clearPiece_4 : decode cX11_clearPiece 4 = .ok (.iload_n 1, 1) := by decide +kernel
theorem dX11_clearPiece_5 : decode cX11_clearPiece 5 = .ok (.iconst 0, 1) := by decide +kernel
theorem dX11_clearPiece_6 : decode cX11_clearPiece 6 = .ok (.bastore, 1) := by decide +kernel
theorem dX11_clearPiece_7 : decode cX11_clearPiece 7 = .ok (.aload_n 0, 1) := by decide +kernel
theorem dX11_clearPiece_8 : decode cX11_clearPiece 8 = .ok (.getfield 85, 3) := by decide +kernel
theorem dX11_clearPiece_11 : decode cX11_clearPiece 11 = .ok (.iload_n 1, 1) := by decide +kernel
theorem dX11_clearPiece_12 : decode cX11_clearPiece 12 = .ok (.iconst 0, 1) := by decide +kernel
theorem dX11_clearPiece_13 : decode cX11_clearPiece 13 = .ok (.iastore, 1) := by decide +kernel
theorem dX11_clearPiece_14 : decode cX11_clearPiece 14 = .ok (.aload_n 0, 1) := by decide +kernel
theorem dX11_clearPiece_15 : decode cX11_clearPiece 15 = .ok (.getfield 88, 3) := by decide +kernel
theorem dX11_clearPiece_18 : decode cX11_clearPiece 18 = .ok (.iload_n 1, 1) := by decide +kernel
theorem dX11_clearPiece_19 : decode cX11_clearPiece 19 = .ok (.iconst 0, 1) := by decide +kernel
theorem dX11_clearPiece_20 : decode cX11_clearPiece 20 = .ok (.iastore, 1) := by decide +kernel
theorem dX11_clearPiece_21 : decode cX11_clearPiece 21 = .ok (.aload_n 0, 1) := by decide +kernel
theorem dX11_clearPiece_22 : decode cX11_clearPiece 22 = .ok (.getfield 91, 3) := by decide +kernel
theorem dX11_clearPiece_25 : decode cX11_clearPiece 25 = .ok (.iload_n 1, 1) := by decide +kernel
theorem dX11_clearPiece_26 : decode cX11_clearPiece 26 = .ok (.iconst 0, 1) := by decide +kernel
theorem dX11_clearPiece_27 : decode cX11_clearPiece 27 = .ok (.iastore, 1) := by decide +kernel
theorem dX11_clearPiece_28 : decode cX11_clearPiece 28 = .ok (.iconst 0, 1) := by decide +kernel
theorem dX11_clearPiece_29 : decode cX11_clearPiece 29 = .ok (.istore_n 2, 1) := by decide +kernel
theorem dX11_clearPiece_30 : decode cX11_clearPiece 30 = .ok (.iload_n 2, 1) := by decide +kernel
theorem dX11_clearPiece_31 : decode cX11_clearPiece 31 = .ok (.iconst 3, 1) := by decide +kernel
theorem dX11_clearPiece_32 : decode cX11_clearPiece 32 = .ok (.if_icmp .ge 31, 3) := by decide +kernel
theorem dX11_clearPiece_35 : decode cX11_clearPiece 35 = .ok (.aload_n 0, 1) := by decide +kernel
theorem dX11_clearPiece_36 : decode cX11_clearPiece 36 = .ok (.getfield 94, 3) := by decide +kernel
theorem dX11_clearPiece_39 : decode cX11_clearPiece 39 = .ok (.iconst 3, 1) := by decide +kernel
theorem dX11_clearPiece_40 : decode cX11_clearPiece 40 = .ok (.iload_n 1, 1) := by decide +kernel
theorem dX11_clearPiece_41 : decode cX11_clearPiece 41 = .ok (.imul, 1) := by decide +kernel
theorem dX11_clearPiece_42 : decode cX11_clearPiece 42 = .ok (.iload_n 2, 1) := by decide +kernel
theorem dX11_clearPiece_43 : decode cX11_clearPiece 43 = .ok (.iadd, 1) := by decide +kernel
theorem dX11_clearPiece_44 : decode cX11_clearPiece 44 = .ok (.iconst 0, 1) := by decide +kernel
theorem dX11_clearPiece_45 : decode cX11_clearPiece 45 = .ok (.iastore, 1) := by decide +kernel
theorem dX11_clearPiece_46 : decode cX11_clearPiece 46 = .ok (.aload_n 0, 1) := by decide +kernel
theorem dX11_clearPiece_47 : decode cX11_clearPiece 47 = .ok (.getfield 97, 3) := by decide +kernel
theorem dX11_clearPiece_50 : decode cX11_clearPiece 50 = .ok (.iconst 3, 1) := by decide +kernel
theorem dX11_clearPiece_51 : decode cX11_clearPiece 51 = .ok (.iload_n 1, 1) := by decide +kernel
theorem dX11_clearPiece_52 : decode cX11_clearPiece 52 = .ok (.imul, 1) := by decide +kernel
theorem dX11_clearPiece_53 : decode cX11_clearPiece 53 = .ok (.iload_n 2, 1) := by decide +kernel
theorem dX11_clearPiece_54 : decode cX11_clearPiece 54 = .ok (.iadd, 1) := by decide +kernel
theorem dX11_clearPiece_55 : decode cX11_clearPiece 55 = .ok (.iconst 0, 1) := by decide +kernel
theorem dX11_clearPiece_56 : decode cX11_clearPiece 56 = .ok (.iastore, 1) := by decide +kernel
theorem dX11_clearPiece_57 : decode cX11_clearPiece 57 = .ok (.iinc 2 1, 3) := by decide +kernel
theorem dX11_clearPiece_60 : decode cX11_clearPiece 60 = .ok (.goto (-30), 3) := by decide +kernel
theorem dX11_clearPiece_63 : decode cX11_clearPiece 63 = .ok (.return_, 1) := by decide +kernel
theorem dX11_lose_0 : decode cX11_lose 0 = .ok (.aload_n 0, 1) := by decide +kernel
theorem dX11_lose_1 : decode cX11_lose 1 = .ok (.iload_n 1, 1) := by decide +kernel
theorem dX11_lose_2 : decode cX11_lose 2 = .ok (.invokevirtual 224, 3) := by decide +kernel
theorem dX11_lose_5 : decode cX11_lose 5 = .ok (.aload_n 0, 1) := by decide +kernel
theorem dX11_lose_6 : decode cX11_lose 6 = .ok (.getfield 61, 3) := by decide +kernel
theorem dX11_lose_9 : decode cX11_lose 9 = .ok (.iload_n 1, 1) := by decide +kernel
theorem dX11_lose_10 : decode cX11_lose 10 = .ok (.dup2, 1) := by decide +kernel
theorem dX11_lose_11 : decode cX11_lose 11 = .ok (.iaload, 1) := by decide +kernel
theorem dX11_lose_12 : decode cX11_lose 12 = .ok (.iconst 1, 1) := by decide +kernel
theorem dX11_lose_13 : decode cX11_lose 13 = .ok (.iadd, 1) := by decide +kernel
theorem dX11_lose_14 : decode cX11_lose 14 = .ok (.iastore, 1) := by decide +kernel
theorem dX11_lose_15 : decode cX11_lose 15 = .ok (.aload_n 0, 1) := by decide +kernel
theorem dX11_lose_16 : decode cX11_lose 16 = .ok (.dup, 1) := by decide +kernel
theorem dX11_lose_17 : decode cX11_lose 17 = .ok (.getfield 122, 3) := by decide +kernel
theorem dX11_lose_20 : decode cX11_lose 20 = .ok (.iconst 1, 1) := by decide +kernel
theorem dX11_lose_21 : decode cX11_lose 21 = .ok (.iadd, 1) := by decide +kernel
theorem dX11_lose_22 : decode cX11_lose 22 = .ok (.putfield 122, 3) := by decide +kernel
theorem dX11_lose_25 : decode cX11_lose 25 = .ok (.aload_n 0, 1) := by decide +kernel
theorem dX11_lose_26 : decode cX11_lose 26 = .ok (.getfield 46, 3) := by decide +kernel
theorem dX11_lose_29 : decode cX11_lose 29 = .ok (.iload_n 1, 1) := by decide +kernel
theorem dX11_lose_30 : decode cX11_lose 30 = .ok (.aload_n 0, 1) := by decide +kernel
theorem dX11_lose_31 : decode cX11_lose 31 = .ok (.getfield 49, 3) := by decide +kernel
theorem dX11_lose_34 : decode cX11_lose 34 = .ok (.iload_n 1, 1) := by decide +kernel
theorem dX11_lose_35 : decode cX11_lose 35 = .ok (.iaload, 1) := by decide +kernel
theorem dX11_lose_36 : decode cX11_lose 36 = .ok (.iastore, 1) := by decide +kernel
theorem dX11_lose_37 : decode cX11_lose 37 = .ok (.aload_n 0, 1) := by decide +kernel
theorem dX11_lose_38 : decode cX11_lose 38 = .ok (.getfield 52, 3) := by decide +kernel
theorem dX11_lose_41 : decode cX11_lose 41 = .ok (.iload_n 1, 1) := by decide +kernel
theorem dX11_lose_42 : decode cX11_lose 42 = .ok (.iconst 0, 1) := by decide +kernel
theorem dX11_lose_43 : decode cX11_lose 43 = .ok (.iastore, 1) := by decide +kernel
theorem dX11_lose_44 : decode cX11_lose 44 = .ok (.iconst 0, 1) := by decide +kernel
theorem dX11_lose_45 : decode cX11_lose 45 = .ok (.ireturn, 1) := by decide +kernel
theorem dX11_finish_0 : decode cX11_finish 0 = .ok (.aload_n 0, 1) := by decide +kernel
theorem dX11_finish_1 : decode cX11_finish 1 = .ok (.getfield 33, 3) := by decide +kernel
theorem dX11_finish_4 : decode cX11_finish 4 = .ok (.iload_n 1, 1) := by decide +kernel
theorem dX11_finish_5 : decode cX11_finish 5 = .ok (.iconst 0, 1) := by decide +kernel
theorem dX11_finish_6 : decode cX11_finish 6 = .ok (.bastore, 1) := by decide +kernel
theorem dX11_finish_7 : decode cX11_finish 7 = .ok (.aload_n 0, 1) := by decide +kernel
theorem dX11_finish_8 : decode cX11_finish 8 = .ok (.getfield 119, 3) := by decide +kernel
theorem dX11_finish_11 : decode cX11_finish 11 = .ok (.bipush 40, 2) := by decide +kernel
theorem dX11_finish_13 : decode cX11_finish 13 = .ok (.if_icmp .ge 73, 3) := by decide +kernel
theorem dX11_finish_16 : decode cX11_finish 16 = .ok (.bipush 6, 2) := by decide +kernel
theorem dX11_finish_18 : decode cX11_finish 18 = .ok (.newarray .int, 2) := by decide +kernel
theorem dX11_finish_20 : decode cX11_finish 20 = .ok (.dup, 1) := by decide +kernel
theorem dX11_finish_21 : decode cX11_finish 21 = .ok (.iconst 0, 1) := by decide +kernel
theorem dX11_finish_22 : decode cX11_finish 22 = .ok (.iload_n 1, 1) := by decide +kernel
theorem dX11_finish_23 : decode cX11_finish 23 = .ok (.iastore, 1) := by decide +kernel
theorem dX11_finish_24 : decode cX11_finish 24 = .ok (.dup, 1) := by decide +kernel
theorem dX11_finish_25 : decode cX11_finish 25 = .ok (.iconst 1, 1) := by decide +kernel
theorem dX11_finish_26 : decode cX11_finish 26 = .ok (.aload_n 0, 1) := by decide +kernel
theorem dX11_finish_27 : decode cX11_finish 27 = .ok (.getfield 30, 3) := by decide +kernel
theorem dX11_finish_30 : decode cX11_finish 30 = .ok (.iload_n 1, 1) := by decide +kernel
theorem dX11_finish_31 : decode cX11_finish 31 = .ok (.iaload, 1) := by decide +kernel
theorem dX11_finish_32 : decode cX11_finish 32 = .ok (.iastore, 1) := by decide +kernel
theorem dX11_finish_33 : decode cX11_finish 33 = .ok (.dup, 1) := by decide +kernel
theorem dX11_finish_34 : decode cX11_finish 34 = .ok (.iconst 2, 1) := by decide +kernel
theorem dX11_finish_35 : decode cX11_finish 35 = .ok (.aload_n 0, 1) := by decide +kernel
theorem dX11_finish_36 : decode cX11_finish 36 = .ok (.getfield 55, 3) := by decide +kernel
theorem dX11_finish_39 : decode cX11_finish 39 = .ok (.iload_n 1, 1) := by decide +kernel
theorem dX11_finish_40 : decode cX11_finish 40 = .ok (.iaload, 1) := by decide +kernel
theorem dX11_finish_41 : decode cX11_finish 41 = .ok (.iastore, 1) := by decide +kernel
theorem dX11_finish_42 : decode cX11_finish 42 = .ok (.dup, 1) := by decide +kernel
theorem dX11_finish_43 : decode cX11_finish 43 = .ok (.iconst 3, 1) := by decide +kernel
theorem dX11_finish_44 : decode cX11_finish 44 = .ok (.aload_n 0, 1) := by decide +kernel
theorem dX11_finish_45 : decode cX11_finish 45 = .ok (.getfield 58, 3) := by decide +kernel
theorem dX11_finish_48 : decode cX11_finish 48 = .ok (.iload_n 1, 1) := by decide +kernel
theorem dX11_finish_49 : decode cX11_finish 49 = .ok (.iaload, 1) := by decide +kernel
theorem dX11_finish_50 : decode cX11_finish 50 = .ok (.iastore, 1) := by decide +kernel
theorem dX11_finish_51 : decode cX11_finish 51 = .ok (.dup, 1) := by decide +kernel
theorem dX11_finish_52 : decode cX11_finish 52 = .ok (.iconst 4, 1) := by decide +kernel
theorem dX11_finish_53 : decode cX11_finish 53 = .ok (.aload_n 0, 1) := by decide +kernel
theorem dX11_finish_54 : decode cX11_finish 54 = .ok (.getfield 64, 3) := by decide +kernel
theorem dX11_finish_57 : decode cX11_finish 57 = .ok (.iload_n 1, 1) := by decide +kernel
theorem dX11_finish_58 : decode cX11_finish 58 = .ok (.iaload, 1) := by decide +kernel
theorem dX11_finish_59 : decode cX11_finish 59 = .ok (.iastore, 1) := by decide +kernel
theorem dX11_finish_60 : decode cX11_finish 60 = .ok (.dup, 1) := by decide +kernel
theorem dX11_finish_61 : decode cX11_finish 61 = .ok (.iconst 5, 1) := by decide +kernel
theorem dX11_finish_62 : decode cX11_finish 62 = .ok (.aload_n 0, 1) := by decide +kernel
theorem dX11_finish_63 : decode cX11_finish 63 = .ok (.getfield 109, 3) := by decide +kernel
theorem dX11_finish_66 : decode cX11_finish 66 = .ok (.iastore, 1) := by decide +kernel
theorem dX11_finish_67 : decode cX11_finish 67 = .ok (.astore_n 2, 1) := by decide +kernel
theorem dX11_finish_68 : decode cX11_finish 68 = .ok (.aload_n 2, 1) := by decide +kernel
theorem dX11_finish_69 : decode cX11_finish 69 = .ok (.iconst 0, 1) := by decide +kernel
theorem dX11_finish_70 : decode cX11_finish 70 = .ok (.aload_n 0, 1) := by decide +kernel
theorem dX11_finish_71 : decode cX11_finish 71 = .ok (.getfield 100, 3) := by decide +kernel
theorem dX11_finish_74 : decode cX11_finish 74 = .ok (.bipush 6, 2) := by decide +kernel
theorem dX11_finish_76 : decode cX11_finish 76 = .ok (.aload_n 0, 1) := by decide +kernel
theorem dX11_finish_77 : decode cX11_finish 77 = .ok (.getfield 119, 3) := by decide +kernel
theorem dX11_finish_80 : decode cX11_finish 80 = .ok (.imul, 1) := by decide +kernel
theorem dX11_finish_81 : decode cX11_finish 81 = .ok (.bipush 6, 2) := by decide +kernel
theorem dX11_finish_83 : decode cX11_finish 83 = .ok (.invokestatic 103, 3) := by decide +kernel
theorem dX11_finish_86 : decode cX11_finish 86 = .ok (.aload_n 0, 1) := by decide +kernel
theorem dX11_finish_87 : decode cX11_finish 87 = .ok (.dup, 1) := by decide +kernel
theorem dX11_finish_88 : decode cX11_finish 88 = .ok (.getfield 119, 3) := by decide +kernel
theorem dX11_finish_91 : decode cX11_finish 91 = .ok (.iconst 1, 1) := by decide +kernel
theorem dX11_finish_92 : decode cX11_finish 92 = .ok (.iadd, 1) := by decide +kernel
theorem dX11_finish_93 : decode cX11_finish 93 = .ok (.putfield 119, 3) := by decide +kernel
theorem dX11_finish_96 : decode cX11_finish 96 = .ok (.return_, 1) := by decide +kernel
theorem dX11_slip_0 : decode cX11_slip 0 = .ok (.bipush 15, 2) := by decide +kernel
theorem dX11_slip_2 : decode cX11_slip 2 = .ok (.newarray .int, 2) := by decide +kernel
theorem dX11_slip_4 : decode cX11_slip 4 = .ok (.dup, 1) := by decide +kernel
theorem dX11_slip_5 : decode cX11_slip 5 = .ok (.iconst 0, 1) := by decide +kernel
theorem dX11_slip_6 : decode cX11_slip 6 = .ok (.aload_n 0, 1) := by decide +kernel
theorem dX11_slip_7 : decode cX11_slip 7 = .ok (.getfield 33, 3) := by decide +kernel
theorem dX11_slip_10 : decode cX11_slip 10 = .ok (.iload_n 1, 1) := by decide +kernel
theorem dX11_slip_11 : decode cX11_slip 11 = .ok (.baload, 1) := by decide +kernel
theorem dX11_slip_12 : decode cX11_slip 12 = .ok (.ifCond .eq 7, 3) := by decide +kernel
theorem dX11_slip_15 : decode cX11_slip 15 = .ok (.iconst 1, 1) := by decide +kernel
theorem dX11_slip_16 : decode cX11_slip 16 = .ok (.goto 4, 3) := by decide +kernel
theorem dX11_slip_19 : decode cX11_slip 19 = .ok (.iconst 0, 1) := by decide +kernel
theorem dX11_slip_20 : decode cX11_slip 20 = .ok (.iastore, 1) := by decide +kernel
theorem dX11_slip_21 : decode cX11_slip 21 = .ok (.dup, 1) := by decide +kernel
theorem dX11_slip_22 : decode cX11_slip 22 = .ok (.iconst 1, 1) := by decide +kernel
theorem dX11_slip_23 : decode cX11_slip 23 = .ok (.aload_n 0, 1) := by decide +kernel
theorem dX11_slip_24 : decode cX11_slip 24 = .ok (.getfield 30, 3) := by decide +kernel
theorem dX11_slip_27 : decode cX11_slip 27 = .ok (.iload_n 1, 1) := by decide +kernel
theorem dX11_slip_28 : decode cX11_slip 28 = .ok (.iaload, 1) := by decide +kernel
theorem dX11_slip_29 : decode cX11_slip 29 = .ok (.iastore, 1) := by decide +kernel
theorem dX11_slip_30 : decode cX11_slip 30 = .ok (.dup, 1) := by decide +kernel
theorem dX11_slip_31 : decode cX11_slip 31 = .ok (.iconst 2, 1) := by decide +kernel
theorem dX11_slip_32 : decode cX11_slip 32 = .ok (.aload_n 0, 1) := by decide +kernel
theorem dX11_slip_33 : decode cX11_slip 33 = .ok (.getfield 46, 3) := by decide +kernel
theorem dX11_slip_36 : decode cX11_slip 36 = .ok (.iload_n 1, 1) := by decide +kernel
theorem dX11_slip_37 : decode cX11_slip 37 = .ok (.iaload, 1) := by decide +kernel
theorem dX11_slip_38 : decode cX11_slip 38 = .ok (.iastore, 1) := by decide +kernel
theorem dX11_slip_39 : decode cX11_slip 39 = .ok (.dup, 1) := by decide +kernel
theorem dX11_slip_40 : decode cX11_slip 40 = .ok (.iconst 3, 1) := by decide +kernel
theorem dX11_slip_41 : decode cX11_slip 41 = .ok (.aload_n 0, 1) := by decide +kernel
theorem dX11_slip_42 : decode cX11_slip 42 = .ok (.getfield 55, 3) := by decide +kernel
theorem dX11_slip_45 : decode cX11_slip 45 = .ok (.iload_n 1, 1) := by decide +kernel
theorem dX11_slip_46 : decode cX11_slip 46 = .ok (.iaload, 1) := by decide +kernel
theorem dX11_slip_47 : decode cX11_slip 47 = .ok (.iastore, 1) := by decide +kernel
theorem dX11_slip_48 : decode cX11_slip 48 = .ok (.dup, 1) := by decide +kernel
theorem dX11_slip_49 : decode cX11_slip 49 = .ok (.iconst 4, 1) := by decide +kernel
theorem dX11_slip_50 : decode cX11_slip 50 = .ok (.aload_n 0, 1) := by decide +kernel
theorem dX11_slip_51 : decode cX11_slip 51 = .ok (.getfield 58, 3) := by decide +kernel
theorem dX11_slip_54 : decode cX11_slip 54 = .ok (.iload_n 1, 1) := by decide +kernel
theorem dX11_slip_55 : decode cX11_slip 55 = .ok (.iaload, 1) := by decide +kernel
theorem dX11_slip_56 : decode cX11_slip 56 = .ok (.iastore, 1) := by decide +kernel
theorem dX11_slip_57 : decode cX11_slip 57 = .ok (.dup, 1) := by decide +kernel
theorem dX11_slip_58 : decode cX11_slip 58 = .ok (.iconst 5, 1) := by decide +kernel
theorem dX11_slip_59 : decode cX11_slip 59 = .ok (.aload_n 0, 1) := by decide +kernel
theorem dX11_slip_60 : decode cX11_slip 60 = .ok (.getfield 79, 3) := by decide +kernel
theorem dX11_slip_63 : decode cX11_slip 63 = .ok (.iload_n 1, 1) := by decide +kernel
theorem dX11_slip_64 : decode cX11_slip 64 = .ok (.baload, 1) := by decide +kernel
theorem dX11_slip_65 : decode cX11_slip 65 = .ok (.ifCond .eq 7, 3) := by decide +kernel
theorem dX11_slip_68 : decode cX11_slip 68 = .ok (.iconst 1, 1) := by decide +kernel
theorem dX11_slip_69 : decode cX11_slip 69 = .ok (.goto 4, 3) := by decide +kernel
theorem dX11_slip_72 : decode cX11_slip 72 = .ok (.iconst 0, 1) := by decide +kernel
theorem dX11_slip_73 : decode cX11_slip 73 = .ok (.iastore, 1) := by decide +kernel
theorem dX11_slip_74 : decode cX11_slip 74 = .ok (.dup, 1) := by decide +kernel
theorem dX11_slip_75 : decode cX11_slip 75 = .ok (.bipush 6, 2) := by decide +kernel
theorem dX11_slip_77 : decode cX11_slip 77 = .ok (.aload_n 0, 1) := by decide +kernel
theorem dX11_slip_78 : decode cX11_slip 78 = .ok (.getfield 85, 3) := by decide +kernel
theorem dX11_slip_81 : decode cX11_slip 81 = .ok (.iload_n 1, 1) := by decide +kernel
theorem dX11_slip_82 : decode cX11_slip 82 = .ok (.iaload, 1) := by decide +kernel
theorem dX11_slip_83 : decode cX11_slip 83 = .ok (.iastore, 1) := by decide +kernel
theorem dX11_slip_84 : decode cX11_slip 84 = .ok (.dup, 1) := by decide +kernel
theorem dX11_slip_85 : decode cX11_slip 85 = .ok (.bipush 7, 2) := by decide +kernel
theorem dX11_slip_87 : decode cX11_slip 87 = .ok (.aload_n 0, 1) := by decide +kernel
theorem dX11_slip_88 : decode cX11_slip 88 = .ok (.getfield 88, 3) := by decide +kernel
theorem dX11_slip_91 : decode cX11_slip 91 = .ok (.iload_n 1, 1) := by decide +kernel
theorem dX11_slip_92 : decode cX11_slip 92 = .ok (.iaload, 1) := by decide +kernel
theorem dX11_slip_93 : decode cX11_slip 93 = .ok (.iastore, 1) := by decide +kernel
theorem dX11_slip_94 : decode cX11_slip 94 = .ok (.dup, 1) := by decide +kernel
theorem dX11_slip_95 : decode cX11_slip 95 = .ok (.bipush 8, 2) := by decide +kernel
theorem dX11_slip_97 : decode cX11_slip 97 = .ok (.aload_n 0, 1) := by decide +kernel
theorem dX11_slip_98 : decode cX11_slip 98 = .ok (.getfield 91, 3) := by decide +kernel
theorem dX11_slip_101 : decode cX11_slip 101 = .ok (.iload_n 1, 1) := by decide +kernel
theorem dX11_slip_102 : decode cX11_slip 102 = .ok (.iaload, 1) := by decide +kernel
theorem dX11_slip_103 : decode cX11_slip 103 = .ok (.iastore, 1) := by decide +kernel
theorem dX11_slip_104 : decode cX11_slip 104 = .ok (.dup, 1) := by decide +kernel
theorem dX11_slip_105 : decode cX11_slip 105 = .ok (.bipush 9, 2) := by decide +kernel
theorem dX11_slip_107 : decode cX11_slip 107 = .ok (.aload_n 0, 1) := by decide +kernel
theorem dX11_slip_108 : decode cX11_slip 108 = .ok (.getfield 70, 3) := by decide +kernel
theorem dX11_slip_111 : decode cX11_slip 111 = .ok (.iload_n 1, 1) := by decide +kernel
theorem dX11_slip_112 : decode cX11_slip 112 = .ok (.iaload, 1) := by decide +kernel
theorem dX11_slip_113 : decode cX11_slip 113 = .ok (.iastore, 1) := by decide +kernel
theorem dX11_slip_114 : decode cX11_slip 114 = .ok (.dup, 1) := by decide +kernel
theorem dX11_slip_115 : decode cX11_slip 115 = .ok (.bipush 10, 2) := by decide +kernel
theorem dX11_slip_117 : decode cX11_slip 117 = .ok (.aload_n 0, 1) := by decide +kernel
theorem dX11_slip_118 : decode cX11_slip 118 = .ok (.getfield 73, 3) := by decide +kernel
theorem dX11_slip_121 : decode cX11_slip 121 = .ok (.iload_n 1, 1) := by decide +kernel
theorem dX11_slip_122 : decode cX11_slip 122 = .ok (.iaload, 1) := by decide +kernel
theorem dX11_slip_123 : decode cX11_slip 123 = .ok (.iastore, 1) := by decide +kernel
theorem dX11_slip_124 : decode cX11_slip 124 = .ok (.dup, 1) := by decide +kernel
theorem dX11_slip_125 : decode cX11_slip 125 = .ok (.bipush 11, 2) := by decide +kernel
theorem dX11_slip_127 : decode cX11_slip 127 = .ok (.aload_n 0, 1) := by decide +kernel
theorem dX11_slip_128 : decode cX11_slip 128 = .ok (.getfield 76, 3) := by decide +kernel
theorem dX11_slip_131 : decode cX11_slip 131 = .ok (.iload_n 1, 1) := by decide +kernel
theorem dX11_slip_132 : decode cX11_slip 132 = .ok (.baload, 1) := by decide +kernel
theorem dX11_slip_133 : decode cX11_slip 133 = .ok (.ifCond .eq 7, 3) := by decide +kernel
theorem dX11_slip_136 : decode cX11_slip 136 = .ok (.iconst 1, 1) := by decide +kernel
theorem dX11_slip_137 : decode cX11_slip 137 = .ok (.goto 4, 3) := by decide +kernel
theorem dX11_slip_140 : decode cX11_slip 140 = .ok (.iconst 0, 1) := by decide +kernel
theorem dX11_slip_141 : decode cX11_slip 141 = .ok (.iastore, 1) := by decide +kernel
theorem dX11_slip_142 : decode cX11_slip 142 = .ok (.dup, 1) := by decide +kernel
theorem dX11_slip_143 : decode cX11_slip 143 = .ok (.bipush 12, 2) := by decide +kernel
theorem dX11_slip_145 : decode cX11_slip 145 = .ok (.aload_n 0, 1) := by decide +kernel
theorem dX11_slip_146 : decode cX11_slip 146 = .ok (.getfield 67, 3) := by decide +kernel
theorem dX11_slip_149 : decode cX11_slip 149 = .ok (.iload_n 1, 1) := by decide +kernel
theorem dX11_slip_150 : decode cX11_slip 150 = .ok (.iaload, 1) := by decide +kernel
theorem dX11_slip_151 : decode cX11_slip 151 = .ok (.iastore, 1) := by decide +kernel
theorem dX11_slip_152 : decode cX11_slip 152 = .ok (.dup, 1) := by decide +kernel
theorem dX11_slip_153 : decode cX11_slip 153 = .ok (.bipush 13, 2) := by decide +kernel
theorem dX11_slip_155 : decode cX11_slip 155 = .ok (.aload_n 0, 1) := by decide +kernel
theorem dX11_slip_156 : decode cX11_slip 156 = .ok (.getfield 61, 3) := by decide +kernel
theorem dX11_slip_159 : decode cX11_slip 159 = .ok (.iload_n 1, 1) := by decide +kernel
theorem dX11_slip_160 : decode cX11_slip 160 = .ok (.iaload, 1) := by decide +kernel
theorem dX11_slip_161 : decode cX11_slip 161 = .ok (.iastore, 1) := by decide +kernel
theorem dX11_slip_162 : decode cX11_slip 162 = .ok (.dup, 1) := by decide +kernel
theorem dX11_slip_163 : decode cX11_slip 163 = .ok (.bipush 14, 2) := by decide +kernel
theorem dX11_slip_165 : decode cX11_slip 165 = .ok (.aload_n 0, 1) := by decide +kernel
theorem dX11_slip_166 : decode cX11_slip 166 = .ok (.getfield 64, 3) := by decide +kernel
theorem dX11_slip_169 : decode cX11_slip 169 = .ok (.iload_n 1, 1) := by decide +kernel
theorem dX11_slip_170 : decode cX11_slip 170 = .ok (.iaload, 1) := by decide +kernel
theorem dX11_slip_171 : decode cX11_slip 171 = .ok (.iastore, 1) := by decide +kernel
theorem dX11_slip_172 : decode cX11_slip 172 = .ok (.astore_n 3, 1) := by decide +kernel
theorem dX11_slip_173 : decode cX11_slip 173 = .ok (.aload_n 3, 1) := by decide +kernel
theorem dX11_slip_174 : decode cX11_slip 174 = .ok (.iload_n 2, 1) := by decide +kernel
theorem dX11_slip_175 : decode cX11_slip 175 = .ok (.iaload, 1) := by decide +kernel
theorem dX11_slip_176 : decode cX11_slip 176 = .ok (.ireturn, 1) := by decide +kernel
theorem dX11_counted_0 : decode cX11_counted 0 = .ok (.iconst 0, 1) := by decide +kernel
theorem dX11_counted_1 : decode cX11_counted 1 = .ok (.istore_n 2, 1) := by decide +kernel
theorem dX11_counted_2 : decode cX11_counted 2 = .ok (.iconst 0, 1) := by decide +kernel
theorem dX11_counted_3 : decode cX11_counted 3 = .ok (.istore_n 3, 1) := by decide +kernel
theorem dX11_counted_4 : decode cX11_counted 4 = .ok (.iconst 0, 1) := by decide +kernel
theorem dX11_counted_5 : decode cX11_counted 5 = .ok (.istore 4, 2) := by decide +kernel
theorem dX11_counted_7 : decode cX11_counted 7 = .ok (.iload 4, 2) := by decide +kernel
theorem dX11_counted_9 : decode cX11_counted 9 = .ok (.aload_n 0, 1) := by decide +kernel
theorem dX11_counted_10 : decode cX11_counted 10 = .ok (.getfield 116, 3) := by decide +kernel
theorem dX11_counted_13 : decode cX11_counted 13 = .ok (.if_icmp .ge 27, 3) := by decide +kernel
theorem dX11_counted_16 : decode cX11_counted 16 = .ok (.iload_n 2, 1) := by decide +kernel
theorem dX11_counted_17 : decode cX11_counted 17 = .ok (.aload_n 0, 1) := by decide +kernel
theorem dX11_counted_18 : decode cX11_counted 18 = .ok (.getfield 33, 3) := by decide +kernel
theorem dX11_counted_21 : decode cX11_counted 21 = .ok (.iload 4, 2) := by decide +kernel
theorem dX11_counted_23 : decode cX11_counted 23 = .ok (.baload, 1) := by decide +kernel
theorem dX11_counted_24 : decode cX11_counted 24 = .ok (.ifCond .eq 7, 3) := by decide +kernel
theorem dX11_counted_27 : decode cX11_counted 27 = .ok (.iconst 1, 1) := by decide +kernel
theorem dX11_counted_28 : decode cX11_counted 28 = .ok (.goto 4, 3) := by decide +kernel
theorem dX11_counted_31 : decode cX11_counted 31 = .ok (.iconst 0, 1) := by decide +kernel
theorem dX11_counted_32 : decode cX11_counted 32 = .ok (.iadd, 1) := by decide +kernel
theorem dX11_counted_33 : decode cX11_counted 33 = .ok (.istore_n 2, 1) := by decide +kernel
theorem dX11_counted_34 : decode cX11_counted 34 = .ok (.iinc 4 1, 3) := by decide +kernel
theorem dX11_counted_37 : decode cX11_counted 37 = .ok (.goto (-30), 3) := by decide +kernel
theorem dX11_counted_40 : decode cX11_counted 40 = .ok (.iconst 0, 1) := by decide +kernel
theorem dX11_counted_41 : decode cX11_counted 41 = .ok (.istore 4, 2) := by decide +kernel
theorem dX11_counted_43 : decode cX11_counted 43 = .ok (.iload 4, 2) := by decide +kernel
theorem dX11_counted_45 : decode cX11_counted 45 = .ok (.aload_n 0, 1) := by decide +kernel
theorem dX11_counted_46 : decode cX11_counted 46 = .ok (.getfield 113, 3) := by decide +kernel
theorem dX11_counted_49 : decode cX11_counted 49 = .ok (.if_icmp .ge 19, 3) := by decide +kernel
theorem dX11_counted_52 : decode cX11_counted 52 = .ok (.iload_n 3, 1) := by decide +kernel
theorem dX11_counted_53 : decode cX11_counted 53 = .ok (.aload_n 0, 1) := by decide +kernel
theorem dX11_counted_54 : decode cX11_counted 54 = .ok (.getfield 15, 3) := by decide +kernel
theorem dX11_counted_57 : decode cX11_counted 57 = .ok (.iload 4, 2) := by decide +kernel
theorem dX11_counted_59 : decode cX11_counted 59 = .ok (.iaload, 1) := by decide +kernel
theorem dX11_counted_60 : decode cX11_counted 60 = .ok (.iadd, 1) := by decide +kernel
theorem dX11_counted_61 : decode cX11_counted 61 = .ok (.istore_n 3, 1) := by decide +kernel
theorem dX11_counted_62 : decode cX11_counted 62 = .ok (.iinc 4 1, 3) := by decide +kernel
theorem dX11_counted_65 : decode cX11_counted 65 = .ok (.goto (-22), 3) := by decide +kernel
theorem dX11_counted_68 : decode cX11_counted 68 = .ok (.bipush 9, 2) := by decide +kernel
theorem dX11_counted_70 : decode cX11_counted 70 = .ok (.newarray .int, 2) := by decide +kernel
theorem dX11_counted_72 : decode cX11_counted 72 = .ok (.dup, 1) := by decide +kernel
theorem dX11_counted_73 : decode cX11_counted 73 = .ok (.iconst 0, 1) := by decide +kernel
theorem dX11_counted_74 : decode cX11_counted 74 = .ok (.aload_n 0, 1) := by decide +kernel
theorem dX11_counted_75 : decode cX11_counted 75 = .ok (.getfield 109, 3) := by decide +kernel
theorem dX11_counted_78 : decode cX11_counted 78 = .ok (.iastore, 1) := by decide +kernel
theorem dX11_counted_79 : decode cX11_counted 79 = .ok (.dup, 1) := by decide +kernel
theorem dX11_counted_80 : decode cX11_counted 80 = .ok (.iconst 1, 1) := by decide +kernel
theorem dX11_counted_81 : decode cX11_counted 81 = .ok (.aload_n 0, 1) := by decide +kernel
theorem dX11_counted_82 : decode cX11_counted 82 = .ok (.getfield 113, 3) := by decide +kernel
theorem dX11_counted_85 : decode cX11_counted 85 = .ok (.iastore, 1) := by decide +kernel
theorem dX11_counted_86 : decode cX11_counted 86 = .ok (.dup, 1) := by decide +kernel
theorem dX11_counted_87 : decode cX11_counted 87 = .ok (.iconst 2, 1) := by decide +kernel
theorem dX11_counted_88 : decode cX11_counted 88 = .ok (.aload_n 0, 1) := by decide +kernel
theorem dX11_counted_89 : decode cX11_counted 89 = .ok (.getfield 116, 3) := by decide +kernel
theorem dX11_counted_92 : decode cX11_counted 92 = .ok (.iastore, 1) := by decide +kernel
theorem dX11_counted_93 : decode cX11_counted 93 = .ok (.dup, 1) := by decide +kernel
theorem dX11_counted_94 : decode cX11_counted 94 = .ok (.iconst 3, 1) := by decide +kernel
theorem dX11_counted_95 : decode cX11_counted 95 = .ok (.iload_n 2, 1) := by decide +kernel
theorem dX11_counted_96 : decode cX11_counted 96 = .ok (.iastore, 1) := by decide +kernel
theorem dX11_counted_97 : decode cX11_counted 97 = .ok (.dup, 1) := by decide +kernel
theorem dX11_counted_98 : decode cX11_counted 98 = .ok (.iconst 4, 1) := by decide +kernel
theorem dX11_counted_99 : decode cX11_counted 99 = .ok (.aload_n 0, 1) := by decide +kernel
theorem dX11_counted_100 : decode cX11_counted 100 = .ok (.iconst (-1), 1) := by decide +kernel
theorem dX11_counted_101 : decode cX11_counted 101 = .ok (.invokevirtual 227, 3) := by decide +kernel
theorem dX11_counted_104 : decode cX11_counted 104 = .ok (.iastore, 1) := by decide +kernel
theorem dX11_counted_105 : decode cX11_counted 105 = .ok (.dup, 1) := by decide +kernel
theorem dX11_counted_106 : decode cX11_counted 106 = .ok (.iconst 5, 1) := by decide +kernel
theorem dX11_counted_107 : decode cX11_counted 107 = .ok (.aload_n 0, 1) := by decide +kernel
theorem dX11_counted_108 : decode cX11_counted 108 = .ok (.getfield 119, 3) := by decide +kernel
theorem dX11_counted_111 : decode cX11_counted 111 = .ok (.iastore, 1) := by decide +kernel
theorem dX11_counted_112 : decode cX11_counted 112 = .ok (.dup, 1) := by decide +kernel
theorem dX11_counted_113 : decode cX11_counted 113 = .ok (.bipush 6, 2) := by decide +kernel
theorem dX11_counted_115 : decode cX11_counted 115 = .ok (.aload_n 0, 1) := by decide +kernel
theorem dX11_counted_116 : decode cX11_counted 116 = .ok (.getfield 122, 3) := by decide +kernel
theorem dX11_counted_119 : decode cX11_counted 119 = .ok (.iastore, 1) := by decide +kernel
theorem dX11_counted_120 : decode cX11_counted 120 = .ok (.dup, 1) := by decide +kernel
theorem dX11_counted_121 : decode cX11_counted 121 = .ok (.bipush 7, 2) := by decide +kernel
theorem dX11_counted_123 : decode cX11_counted 123 = .ok (.aload_n 0, 1) := by decide +kernel
theorem dX11_counted_124 : decode cX11_counted 124 = .ok (.getfield 125, 3) := by decide +kernel
theorem dX11_counted_127 : decode cX11_counted 127 = .ok (.iastore, 1) := by decide +kernel
theorem dX11_counted_128 : decode cX11_counted 128 = .ok (.dup, 1) := by decide +kernel
theorem dX11_counted_129 : decode cX11_counted 129 = .ok (.bipush 8, 2) := by decide +kernel
theorem dX11_counted_131 : decode cX11_counted 131 = .ok (.iload_n 3, 1) := by decide +kernel
theorem dX11_counted_132 : decode cX11_counted 132 = .ok (.iastore, 1) := by decide +kernel
theorem dX11_counted_133 : decode cX11_counted 133 = .ok (.astore 4, 2) := by decide +kernel
theorem dX11_counted_135 : decode cX11_counted 135 = .ok (.aload 4, 2) := by decide +kernel
theorem dX11_counted_137 : decode cX11_counted 137 = .ok (.iload_n 1, 1) := by decide +kernel
theorem dX11_counted_138 : decode cX11_counted 138 = .ok (.iaload, 1) := by decide +kernel
theorem dX11_counted_139 : decode cX11_counted 139 = .ok (.ireturn, 1) := by decide +kernel
theorem dX12_init_0 : decode cX12_init 0 = .ok (.aload_n 0, 1) := by decide +kernel
theorem dX12_init_1 : decode cX12_init 1 = .ok (.invokespecial 1, 3) := by decide +kernel
theorem dX12_init_4 : decode cX12_init 4 = .ok (.aload_n 0, 1) := by decide +kernel
theorem dX12_init_5 : decode cX12_init 5 = .ok (.sipush 1000, 3) := by decide +kernel
theorem dX12_init_8 : decode cX12_init 8 = .ok (.newarray .int, 2) := by decide +kernel
theorem dX12_init_10 : decode cX12_init 10 = .ok (.putfield 9, 3) := by decide +kernel
theorem dX12_init_13 : decode cX12_init 13 = .ok (.aload_n 0, 1) := by decide +kernel
theorem dX12_init_14 : decode cX12_init 14 = .ok (.iconst (-1), 1) := by decide +kernel
theorem dX12_init_15 : decode cX12_init 15 = .ok (.putfield 13, 3) := by decide +kernel
theorem dX12_init_18 : decode cX12_init 18 = .ok (.aload_n 0, 1) := by decide +kernel
theorem dX12_init_19 : decode cX12_init 19 = .ok (.sipush 1001, 3) := by decide +kernel
theorem dX12_init_22 : decode cX12_init 22 = .ok (.newarray .int, 2) := by decide +kernel
theorem dX12_init_24 : decode cX12_init 24 = .ok (.putfield 17, 3) := by decide +kernel
theorem dX12_init_27 : decode cX12_init 27 = .ok (.aload_n 0, 1) := by decide +kernel
theorem dX12_init_28 : decode cX12_init 28 = .ok (.sipush 1001, 3) := by decide +kernel
theorem dX12_init_31 : decode cX12_init 31 = .ok (.newarray .int, 2) := by decide +kernel
theorem dX12_init_33 : decode cX12_init 33 = .ok (.putfield 20, 3) := by decide +kernel
theorem dX12_init_36 : decode cX12_init 36 = .ok (.aload_n 0, 1) := by decide +kernel
theorem dX12_init_37 : decode cX12_init 37 = .ok (.sipush 1001, 3) := by decide +kernel
theorem dX12_init_40 : decode cX12_init 40 = .ok (.newarray .int, 2) := by decide +kernel
theorem dX12_init_42 : decode cX12_init 42 = .ok (.putfield 23, 3) := by decide +kernel
theorem dX12_init_45 : decode cX12_init 45 = .ok (.aload_n 0, 1) := by decide +kernel
theorem dX12_init_46 : decode cX12_init 46 = .ok (.bipush 6, 2) := by decide +kernel
theorem dX12_init_48 : decode cX12_init 48 = .ok (.newarray .int, 2) := by decide +kernel
theorem dX12_init_50 : decode cX12_init 50 = .ok (.putfield 26, 3) := by decide +kernel
theorem dX12_init_53 : decode cX12_init 53 = .ok (.aload_n 0, 1) := by decide +kernel
theorem dX12_init_54 : decode cX12_init 54 = .ok (.sipush 1440, 3) := by decide +kernel
theorem dX12_init_57 : decode cX12_init 57 = .ok (.newarray .int, 2) := by decide +kernel
theorem dX12_init_59 : decode cX12_init 59 = .ok (.putfield 29, 3) := by decide +kernel
theorem dX12_init_62 : decode cX12_init 62 = .ok (.aload_n 0, 1) := by decide +kernel
theorem dX12_init_63 : decode cX12_init 63 = .ok (.sipush 240, 3) := by decide +kernel
theorem dX12_init_66 : decode cX12_init 66 = .ok (.newarray .int, 2) := by decide +kernel
theorem dX12_init_68 : decode cX12_init 68 = .ok (.putfield 32, 3) := by decide +kernel
theorem dX12_init_71 : decode cX12_init 71 = .ok (.aload_n 0, 1) := by decide +kernel
theorem dX12_init_72 : decode cX12_init 72 = .ok (.new 35, 3) := by decide +kernel
theorem dX12_init_75 : decode cX12_init 75 = .ok (.dup, 1) := by decide +kernel
theorem dX12_init_76 : decode cX12_init 76 = .ok (.invokespecial 37, 3) := by decide +kernel
theorem dX12_init_79 : decode cX12_init 79 = .ok (.putfield 38, 3) := by decide +kernel
theorem dX12_init_82 : decode cX12_init 82 = .ok (.aload_n 0, 1) := by decide +kernel
theorem dX12_init_83 : decode cX12_init 83 = .ok (.new 35, 3) := by decide +kernel
theorem dX12_init_86 : decode cX12_init 86 = .ok (.dup, 1) := by decide +kernel
theorem dX12_init_87 : decode cX12_init 87 = .ok (.invokespecial 37, 3) := by decide +kernel
theorem dX12_init_90 : decode cX12_init 90 = .ok (.putfield 42, 3) := by decide +kernel
theorem dX12_init_93 : decode cX12_init 93 = .ok (.return_, 1) := by decide +kernel
theorem dX12_thrown_0 : decode cX12_thrown 0 = .ok (.aload_n 0, 1) := by decide +kernel
theorem dX12_thrown_1 : decode cX12_thrown 1 = .ok (.getfield 45, 3) := by decide +kernel
theorem dX12_thrown_4 : decode cX12_thrown 4 = .ok (.ireturn, 1) := by decide +kernel
theorem dX12_no_0 : decode cX12_no 0 = .ok (.aload_n 0, 1) := by decide +kernel
theorem dX12_no_1 : decode cX12_no 1 = .ok (.iload_n 1, 1) := by decide +kernel
theorem dX12_no_2 : decode cX12_no 2 = .ok (.putfield 45, 3) := by decide +kernel
theorem dX12_no_5 : decode cX12_no 5 = .ok (.iconst 0, 1) := by decide +kernel
theorem dX12_no_6 : decode cX12_no 6 = .ok (.ireturn, 1) := by decide +kernel
theorem dX12_isIn_0 : decode cX12_isIn 0 = .ok (.iload_n 0, 1) := by decide +kernel
theorem dX12_isIn_1 : decode cX12_isIn 1 = .ok (.iload_n 1, 1) := by decide +kernel
theorem dX12_isIn_2 : decode cX12_isIn 2 = .ok (.if_icmp .lt 12, 3) := by decide +kernel
theorem dX12_isIn_5 : decode cX12_isIn 5 = .ok (.iload_n 0, 1) := by decide +kernel
theorem dX12_isIn_6 : decode cX12_isIn 6 = .ok (.iload_n 2, 1) := by decide +kernel
theorem dX12_isIn_7 : decode cX12_isIn 7 = .ok (.if_icmp .gt 7, 3) := by decide +kernel
theorem dX12_isIn_10 : decode cX12_isIn 10 = .ok (.iconst 1, 1) := by decide +kernel
theorem dX12_isIn_11 : decode cX12_isIn 11 = .ok (.goto 4, 3) := by decide +kernel
theorem dX12_isIn_14 : decode cX12_isIn 14 = .ok (.iconst 0, 1) := by decide +kernel
theorem dX12_isIn_15 : decode cX12_isIn 15 = .ok (.ireturn, 1) := by decide +kernel
theorem dX12_feed_0 : decode cX12_feed 0 = .ok (.aload_n 0, 1) := by decide +kernel
theorem dX12_feed_1 : decode cX12_feed 1 = .ok (.iconst 0, 1) := by decide +kernel
theorem dX12_feed_2 : decode cX12_feed 2 = .ok (.putfield 45, 3) := by decide +kernel
theorem dX12_feed_5 : decode cX12_feed 5 = .ok (.aload_n 0, 1) := by decide +kernel
theorem dX12_feed_6 : decode cX12_feed 6 = .ok (.getfield 48, 3) := by decide +kernel
theorem dX12_feed_9 : decode cX12_feed 9 = .ok (.bipush 20, 2) := by decide +kernel
theorem dX12_feed_11 : decode cX12_feed 11 = .ok (.iadd, 1) := by decide +kernel
theorem dX12_feed_12 : decode cX12_feed 12 = .ok (.sipush 1000, 3) := by decide +kernel
theorem dX12_feed_15 : decode cX12_feed 15 = .ok (.if_icmp .le 9, 3) := by decide +kernel
theorem dX12_feed_18 : decode cX12_feed 18 = .ok (.aload_n 0, 1) := by decide +kernel
theorem dX12_feed_19 : decode cX12_feed 19 = .ok (.iconst 1, 1) := by decide +kernel
theorem dX12_feed_20 : decode cX12_feed 20 = .ok (.invokevirtual 51, 3) := by decide +kernel
theorem dX12_feed_23 : decode cX12_feed 23 = .ok (.ireturn, 1) := by decide +kernel
theorem dX12_feed_24 : decode cX12_feed 24 = .ok (.iconst 5, 1) := by decide +kernel
theorem dX12_feed_25 : decode cX12_feed 25 = .ok (.newarray .int, 2) := by decide +kernel
theorem dX12_feed_27 : decode cX12_feed 27 = .ok (.dup, 1) := by decide +kernel
theorem dX12_feed_28 : decode cX12_feed 28 = .ok (.iconst 0, 1) := by decide +kernel
theorem dX12_feed_29 : decode cX12_feed 29 = .ok (.iload_n 1, 1) := by decide +kernel
theorem dX12_feed_30 : decode cX12_feed 30 = .ok (.iastore, 1) := by decide +kernel
theorem dX12_feed_31 : decode cX12_feed 31 = .ok (.dup, 1) := by decide +kernel
theorem dX12_feed_32 : decode cX12_feed 32 = .ok (.iconst 1, 1) := by decide +kernel
theorem dX12_feed_33 : decode cX12_feed 33 = .ok (.iload_n 2, 1) := by decide +kernel
theorem dX12_feed_34 : decode cX12_feed 34 = .ok (.iastore, 1) := by decide +kernel
theorem dX12_feed_35 : decode cX12_feed 35 = .ok (.dup, 1) := by decide +kernel
theorem dX12_feed_36 : decode cX12_feed 36 = .ok (.iconst 2, 1) := by decide +kernel
theorem dX12_feed_37 : decode cX12_feed 37 = .ok (.iload_n 3, 1) := by decide +kernel
theorem dX12_feed_38 : decode cX12_feed 38 = .ok (.iastore, 1) := by decide +kernel
theorem dX12_feed_39 : decode cX12_feed 39 = .ok (.dup, 1) := by decide +kernel
theorem dX12_feed_40 : decode cX12_feed 40 = .ok (.iconst 3, 1) := by decide +kernel
theorem dX12_feed_41 : decode cX12_feed 41 = .ok (.iload 4, 2) := by decide +kernel
theorem dX12_feed_43 : decode cX12_feed 43 = .ok (.iastore, 1) := by decide +kernel
theorem dX12_feed_44 : decode cX12_feed 44 = .ok (.dup, 1) := by decide +kernel
theorem dX12_feed_45 : decode cX12_feed 45 = .ok (.iconst 4, 1) := by decide +kernel
theorem dX12_feed_46 : decode cX12_feed 46 = .ok (.iload 5, 2) := by decide +kernel
theorem dX12_feed_48 : decode cX12_feed 48 = .ok (.iastore, 1) := by decide +kernel
theorem dX12_feed_49 : decode cX12_feed 49 = .ok (.astore 6, 2) := by decide +kernel
theorem dX12_feed_51 : decode cX12_feed 51 = .ok (.aload 6, 2) := by decide +kernel
theorem dX12_feed_53 : decode cX12_feed 53 = .ok (.astore 7, 2) := by decide +kernel
theorem dX12_feed_55 : decode cX12_feed 55 = .ok (.aload 7, 2) := by decide +kernel
theorem dX12_feed_57 : decode cX12_feed 57 = .ok (.arraylength, 1) := by decide +kernel
theorem dX12_feed_58 : decode cX12_feed 58 = .ok (.istore 8, 2) := by decide +kernel
theorem dX12_feed_60 : decode cX12_feed 60 = .ok (.iconst 0, 1) := by decide +kernel
theorem dX12_feed_61 : decode cX12_feed 61 = .ok (.istore 9, 2) := by decide +kernel
theorem dX12_feed_63 : decode cX12_feed 63 = .ok (.iload 9, 2) := by decide +kernel
theorem dX12_feed_65 : decode cX12_feed 65 = .ok (.iload 8, 2) := by decide +kernel
theorem dX12_feed_67 : decode cX12_feed 67 = .ok (.if_icmp .ge 61, 3) := by decide +kernel
theorem dX12_feed_70 : decode cX12_feed 70 = .ok (.aload 7, 2) := by decide +kernel
theorem dX12_feed_72 : decode cX12_feed 72 = .ok (.iload 9, 2) := by decide +kernel
theorem dX12_feed_74 : decode cX12_feed 74 = .ok (.iaload, 1) := by decide +kernel
theorem dX12_feed_75 : decode cX12_feed 75 = .ok (.istore 10, 2) := by decide +kernel
theorem dX12_feed_77 : decode cX12_feed 77 = .ok (.iconst 3, 1) := by decide +kernel
theorem dX12_feed_78 : decode cX12_feed 78 = .ok (.istore 11, 2) := by decide +kernel
theorem dX12_feed_80 : decode cX12_feed 80 = .ok (.iload 11, 2) := by decide +kernel
theorem dX12_feed_82 : decode cX12_feed 82 = .ok (.ifCond .lt 40, 3) := by decide +kernel
theorem dX12_feed_85 : decode cX12_feed 85 = .ok (.aload_n 0, 1) := by decide +kernel
theorem dX12_feed_86 : decode cX12_feed 86 = .ok (.getfield 9, 3) := by decide +kernel
theorem dX12_feed_89 : decode cX12_feed 89 = .ok (.aload_n 0, 1) := by decide +kernel
theorem dX12_feed_90 : decode cX12_feed 90 = .ok (.getfield 48, 3) := by decide +kernel
theorem dX12_feed_93 : decode cX12_feed 93 = .ok (.iload 10, 2) := by decide +kernel
theorem dX12_feed_95 : decode cX12_feed 95 = .ok (.bipush 8, 2) := by decide +kernel
theorem dX12_feed_97 : decode cX12_feed 97 = .ok (.iload 11, 2) := by decide +kernel
theorem dX12_feed_99 : decode cX12_feed 99 = .ok (.imul, 1) := by decide +kernel
theorem dX12_feed_100 : decode cX12_feed 100 = .ok (.ishr, 1) := by decide +kernel
theorem dX12_feed_101 : decode cX12_feed 101 = .ok (.sipush 255, 3) := by decide +kernel
theorem dX12_feed_104 : decode cX12_feed 104 = .ok (.iand, 1) := by decide +kernel
theorem dX12_feed_105 : decode cX12_feed 105 = .ok (.iastore, 1) := by decide +kernel
theorem dX12_feed_106 : decode cX12_feed 106 = .ok (.aload_n 0, 1) := by decide +kernel
theorem dX12_feed_107 : decode cX12_feed 107 = .ok (.dup, 1) := by decide +kernel
theorem dX12_feed_108 : decode cX12_feed 108 = .ok (.getfield 48, 3) := by decide +kernel
theorem dX12_feed_111 : decode cX12_feed 111 = .ok (.iconst 1, 1) := by decide +kernel
theorem dX12_feed_112 : decode cX12_feed 112 = .ok (.iadd, 1) := by decide +kernel
theorem dX12_feed_113 : decode cX12_feed 113 = .ok (.putfield 48, 3) := by decide +kernel
theorem dX12_feed_116 : decode cX12_feed 116 = .ok (.iinc 11 (-1), 3) := by decide +kernel
theorem dX12_feed_119 : decode cX12_feed 119 = .ok (.goto (-39), 3) := by decide +kernel
theorem dX12_feed_122 : decode cX12_feed 122 = .ok (.iinc 9 1, 3) := by decide +kernel
theorem dX12_feed_125 : decode cX12_feed 125 = .ok (.goto (-62), 3) := by decide +kernel
theorem dX12_feed_128 : decode cX12_feed 128 = .ok (.aload_n 0, 1) := by decide +kernel
theorem dX12_feed_129 : decode cX12_feed 129 = .ok (.getfield 48, 3) := by decide +kernel
theorem dX12_feed_132 : decode cX12_feed 132 = .ok (.ireturn, 1) := by decide +kernel
theorem dX12_trim_0 : decode cX12_trim 0 = .ok (.aload_n 0, 1) := by decide +kernel
theorem dX12_trim_1 : decode cX12_trim 1 = .ok (.iconst 0, 1) := by decide +kernel
theorem dX12_trim_2 : decode cX12_trim 2 = .ok (.putfield 45, 3) := by decide +kernel
theorem dX12_trim_5 : decode cX12_trim 5 = .ok (.iload_n 1, 1) := by decide +kernel
theorem dX12_trim_6 : decode cX12_trim 6 = .ok (.iconst 0, 1) := by decide +kernel
theorem dX12_trim_7 : decode cX12_trim 7 = .ok (.aload_n 0, 1) := by decide +kernel
theorem dX12_trim_8 : decode cX12_trim 8 = .ok (.getfield 48, 3) := by decide +kernel
theorem dX12_trim_11 : decode cX12_trim 11 = .ok (.invokestatic 55, 3) := by decide +kernel
theorem dX12_trim_14 : decode cX12_trim 14 = .ok (.ifCond .ne 9, 3) := by decide +kernel
theorem dX12_trim_17 : decode cX12_trim 17 = .ok (.aload_n 0, 1) := by decide +kernel
theorem dX12_trim_18 : decode cX12_trim 18 = .ok (.iconst 1, 1) := by decide +kernel
theorem dX12_trim_19 : decode cX12_trim 19 = .ok (.invokevirtual 51, 3) := by decide +kernel
theorem dX12_trim_22 : decode cX12_trim 22 = .ok (.ireturn, 1) := by decide +kernel
theorem dX12_trim_23 : decode cX12_trim 23 = .ok (.aload_n 0, 1) := by decide +kernel
theorem dX12_trim_24 : decode cX12_trim 24 = .ok (.iload_n 1, 1) := by decide +kernel
theorem dX12_trim_25 : decode cX12_trim 25 = .ok (.putfield 48, 3) := by decide +kernel
theorem dX12_trim_28 : decode cX12_trim 28 = .ok (.iload_n 1, 1) := by decide +kernel
theorem dX12_trim_29 : decode cX12_trim 29 = .ok (.ireturn, 1) := by decide +kernel
theorem dX12_tapeAt_0 : decode cX12_tapeAt 0 = .ok (.iload_n 1, 1) := by decide +kernel
theorem dX12_tapeAt_1 : decode cX12_tapeAt 1 = .ok (.aload_n 0, 1) := by decide +kernel
theorem dX12_tapeAt_2 : decode cX12_tapeAt 2 = .ok (.getfield 48, 3) := by decide +kernel
theorem dX12_tapeAt_5 : decode cX12_tapeAt 5 = .ok (.if_icmp .ge 12, 3) := by decide +kernel
theorem dX12_tapeAt_8 : decode cX12_tapeAt 8 = .ok (.aload_n 0, 1) := by decide +kernel
theorem dX12_tapeAt_9 : decode cX12_tapeAt 9 = .ok (.getfield 9, 3) := by decide +kernel
theorem dX12_tapeAt_12 : decode cX12_tapeAt 12 = .ok (.iload_n 1, 1) := by decide +kernel
theorem dX12_tapeAt_13 : decode cX12_tapeAt 13 = .ok (.iaload, 1) := by decide +kernel
theorem dX12_tapeAt_14 : decode cX12_tapeAt 14 = .ok (.goto 4, 3) := by decide +kernel
theorem dX12_tapeAt_17 : decode cX12_tapeAt 17 = .ok (.iconst (-1), 1) := by decide +kernel
theorem dX12_tapeAt_18 : decode cX12_tapeAt 18 = .ok (.ireturn, 1) := by decide +kernel
theorem dX12_isLetter_0 : decode cX12_isLetter 0 = .ok (.aload_n 0, 1) := by decide +kernel
theorem dX12_isLetter_1 : decode cX12_isLetter 1 = .ok (.iload_n 1, 1) := by decide +kernel
theorem dX12_isLetter_2 : decode cX12_isLetter 2 = .ok (.invokevirtual 59, 3) := by decide +kernel
theorem dX12_isLetter_5 : decode cX12_isLetter 5 = .ok (.bipush 97, 2) := by decide +kernel
theorem dX12_isLetter_7 : decode cX12_isLetter 7 = .ok (.bipush 122, 2) := by decide +kernel
theorem dX12_isLetter_9 : decode cX12_isLetter 9 = .ok (.invokestatic 55, 3) := by decide +kernel
theorem dX12_isLetter_12 : decode cX12_isLetter 12 = .ok (.ireturn, 1) := by decide +kernel
theorem dX12_isDigit_0 : decode cX12_isDigit 0 = .ok (.aload_n 0, 1) := by decide +kernel
theorem dX12_isDigit_1 : decode cX12_isDigit 1 = .ok (.iload_n 1, 1) := by decide +kernel
theorem dX12_isDigit_2 : decode cX12_isDigit 2 = .ok (.invokevirtual 59, 3) := by decide +kernel
theorem dX12_isDigit_5 : decode cX12_isDigit 5 = .ok (.bipush 48, 2) := by decide +kernel
theorem dX12_isDigit_7 : decode cX12_isDigit 7 = .ok (.bipush 57, 2) := by decide +kernel
theorem dX12_isDigit_9 : decode cX12_isDigit 9 = .ok (.invokestatic 55, 3) := by decide +kernel
theorem dX12_isDigit_12 : decode cX12_isDigit 12 = .ok (.ireturn, 1) := by decide +kernel
theorem dX12_scan_0 : decode cX12_scan 0 = .ok (.iconst 0, 1) := by decide +kernel
theorem dX12_scan_1 : decode cX12_scan 1 = .ok (.istore_n 1, 1) := by decide +kernel
theorem dX12_scan_2 : decode cX12_scan 2 = .ok (.iconst 0, 1) := by decide +kernel
theorem dX12_scan_3 : decode cX12_scan 3 = .ok (.istore_n 2, 1) := by decide +kernel
theorem dX12_scan_4 : decode cX12_scan 4 = .ok (.iconst 1, 1) := by decide +kernel
theorem dX12_scan_5 : decode cX12_scan 5 = .ok (.istore_n 3, 1) := by decide +kernel
theorem dX12_scan_6 : decode cX12_scan 6 = .ok (.iload_n 3, 1) := by decide +kernel
theorem dX12_scan_7 : decode cX12_scan 7 = .ok (.ifCond .eq 212, 3) := by decide +kernel
theorem dX12_scan_10 : decode cX12_scan 10 = .ok (.aload_n 0, 1) := by decide +kernel
theorem dX12_scan_11 : decode cX12_scan 11 = .ok (.iload_n 2, 1) := by decide +kernel
theorem dX12_scan_12 : decode cX12_scan 12 = .ok (.invokevirtual 59, 3) := by decide +kernel
theorem dX12_scan_15 : decode cX12_scan 15 = .ok (.bipush 32, 2) := by decide +kernel
theorem dX12_scan_17 : decode cX12_scan 17 = .ok (.if_icmp .eq 13, 3) := by decide +kernel
theorem dX12_scan_20 : decode cX12_scan 20 = .ok (.aload_n 0, 1) := by decide +kernel
theorem dX12_scan_21 : decode cX12_scan 21 = .ok (.iload_n 2, 1) := by decide +kernel
theorem dX12_scan_22 : decode cX12_scan 22 = .ok (.invokevirtual 59, 3) := by decide +kernel
theorem dX12_scan_25 : decode cX12_scan 25 = .ok (.bipush 10, 2) := by decide +kernel
theorem dX12_scan_27 : decode cX12_scan 27 = .ok (.if_icmp .ne 9, 3) := by decide +kernel
theorem dX12_scan_30 : decode cX12_scan 30 = .ok (.iinc 2 1, 3) := by decide +kernel
theorem dX12_scan_33 : decode cX12_scan 33 = .ok (.goto (-23), 3) := by decide +kernel
theorem dX12_scan_36 : decode cX12_scan 36 = .ok (.iload_n 2, 1) := by decide +kernel
theorem dX12_scan_37 : decode cX12_scan 37 = .ok (.istore 4, 2) := by decide +kernel
theorem dX12_scan_39 : decode cX12_scan 39 = .ok (.iconst 0, 1) := by decide +kernel
theorem dX12_scan_40 : decode cX12_scan 40 = .ok (.istore 5, 2) := by decide +kernel
theorem dX12_scan_42 : decode cX12_scan 42 = .ok (.aload_n 0, 1) := by decide +kernel
theorem dX12_scan_43 : decode cX12_scan 43 = .ok (.iload_n 2, 1) := by decide +kernel
theorem dX12_scan_44 : decode cX12_scan 44 = .ok (.invokevirtual 62, 3) := by decide +kernel
theorem dX12_scan_47 : decode cX12_scan 47 = .ok (.ifCond .eq 37, 3) := by decide +kernel
theorem dX12_scan_50 : decode cX12_scan 50 = .ok (.aload_n 0, 1) := by decide +kernel
theorem dX12_scan_51 : decode cX12_scan 51 = .ok (.iload 4, 2) := by decide +kernel
theorem dX12_scan_53 : decode cX12_scan 53 = .ok (.invokevirtual 62, 3) := by decide +kernel
theorem dX12_scan_56 : decode cX12_scan 56 = .ok (.ifCond .eq 9, 3) := by decide +kernel
theorem dX12_scan_59 : decode cX12_scan 59 = .ok (.iinc 4 1, 3) := by decide +kernel
theorem dX12_scan_62 : decode cX12_scan 62 = .ok (.goto (-12), 3) := by decide +kernel
theorem dX12_scan_65 : decode cX12_scan 65 = .ok (.iload 4, 2) := by decide +kernel
theorem dX12_scan_67 : decode cX12_scan 67 = .ok (.iload_n 2, 1) := by decide +kernel
theorem dX12_scan_68 : decode cX12_scan 68 = .ok (.isub, 1) := by decide +kernel
theorem dX12_scan_69 : decode cX12_scan 69 = .ok (.bipush 8, 2) := by decide +kernel
theorem dX12_scan_71 : decode cX12_scan 71 = .ok (.if_icmp .gt 7, 3) := by decide +kernel
theorem dX12_scan_74 : decode cX12_scan 74 = .ok (.iconst 1, 1) := by decide +kernel
theorem dX12_scan_75 : decode cX12_scan 75 = .ok (.goto 4, 3) := by decide +kernel
theorem dX12_scan_78 : decode cX12_scan 78 = .ok (.iconst 4, 1) := by decide +kernel
theorem dX12_scan_79 : decode cX12_scan 79 = .ok (.istore 5, 2) := by decide +kernel
theorem dX12_scan_81 : decode cX12_scan 81 = .ok (.goto 95, 3) := by decide +kernel
theorem dX12_scan_84 : decode cX12_scan 84 = .ok (.aload_n 0, 1) := by decide +kernel
theorem dX12_scan_85 : decode cX12_scan 85 = .ok (.iload_n 2, 1) := by decide +kernel
theorem dX12_scan_86 : decode cX12_scan 86 = .ok (.invokevirtual 66, 3) := by decide +kernel
theorem dX12_scan_89 : decode cX12_scan 89 = .ok (.ifCond .eq 36, 3) := by decide +kernel
theorem dX12_scan_92 : decode cX12_scan 92 = .ok (.aload_n 0, 1) := by decide +kernel
theorem dX12_scan_93 : decode cX12_scan 93 = .ok (.iload 4, 2) := by decide +kernel
theorem dX12_scan_95 : decode cX12_scan 95 = .ok (.invokevirtual 66, 3) := by decide +kernel
theorem dX12_scan_98 : decode cX12_scan 98 = .ok (.ifCond .eq 9, 3) := by decide +kernel
theorem dX12_scan_101 : decode cX12_scan 101 = .ok (.iinc 4 1, 3) := by decide +kernel
theorem dX12_scan_104 : decode cX12_scan 104 = .ok (.goto (-12), 3) := by decide +kernel
theorem dX12_scan_107 : decode cX12_scan 107 = .ok (.iload 4, 2) := by decide +kernel
theorem dX12_scan_109 : decode cX12_scan 109 = .ok (.iload_n 2, 1) := by decide +kernel
theorem dX12_scan_110 : decode cX12_scan 110 = .ok (.isub, 1) := by decide +kernel
theorem dX12_scan_111 : decode cX12_scan 111 = .ok (.iconst 3, 1) := by decide +kernel
theorem dX12_scan_112 : decode cX12_scan 112 = .ok (.if_icmp .gt 7, 3) := by decide +kernel
theorem dX12_scan_115 : decode cX12_scan 115 = .ok (.iconst 2, 1) := by decide +kernel
theorem dX12_scan_116 : decode cX12_scan 116 = .ok (.goto 4, 3) := by decide +kernel
theorem dX12_scan_119 : decode cX12_scan 119 = .ok (.iconst 4, 1) := by decide +kernel
theorem dX12_scan_120 : decode cX12_scan 120 = .ok (.istore 5, 2) := by decide +kernel
theorem dX12_scan_122 : decode cX12_scan 122 = .ok (.goto 54, 3) := by decide +kernel
theorem dX12_scan_125 : decode cX12_scan 125 = .ok (.iload_n 2, 1) := by decide +kernel
theorem dX12_scan_126 : decode cX12_scan 126 = .ok (.aload_n 0, 1) := by decide +kernel
theorem dX12_scan_127 : decode cX12_scan 127 = .ok (.getfield 48, 3) := by decide +kernel
theorem dX12_scan_130 : decode cX12_scan 130 = .ok (.if_icmp .ge 46, 3) := by decide +kernel
theorem dX12_scan_133 : decode cX12_scan 133 = .ok (.iinc 4 1, 3) := by decide +kernel
theorem dX12_scan_136 : decode cX12_scan 136 = .ok (.aload_n 0, 1) := by decide +kernel
theorem dX12_scan_137 : decode cX12_scan 137 = .ok (.getfield 9, 3) := by decide +kernel
theorem dX12_scan_140 : decode cX12_scan 140 = .ok (.iload_n 2, 1) := by decide +kernel
theorem dX12_scan_141 : decode cX12_scan 141 = .ok (.iaload, 1) := by decide +kernel
theorem dX12_scan_142 : decode cX12_scan 142 = .ok (.bipush 59, 2) := by decide +kernel
theorem dX12_scan_144 : decode cX12_scan 144 = .ok (.if_icmp .eq 25, 3) := by decide +kernel
theorem dX12_scan_147 : decode cX12_scan 147 = .ok (.aload_n 0, 1) := by decide +kernel
theorem dX12_scan_148 : decode cX12_scan 148 = .ok (.getfield 9, 3) := by decide +kernel
theorem dX12_scan_151 : decode cX12_scan 151 = .ok (.iload_n 2, 1) := by decide +kernel
theorem dX12_scan_152 : decode cX12_scan 152 = .ok (.iaload, 1) := by decide +kernel
theorem dX12_scan_153 : decode cX12_scan 153 = .ok (.bipush 123, 2) := by decide +kernel
theorem dX12_scan_155 : decode cX12_scan 155 = .ok (.if_icmp .eq 14, 3) := by decide +kernel
theorem dX12_scan_158 : decode cX12_scan 158 = .ok (.aload_n 0, 1) := by decide +kernel
theorem dX12_scan_159 : decode cX12_scan 159 = .ok (.getfield 9, 3) := by decide +kernel
theorem dX12_scan_162 : decode cX12_scan 162 = .ok (.iload_n 2, 1) := by decide +kernel
theorem dX12_scan_163 : decode cX12_scan 163 = .ok (.iaload, 1) := by decide +kernel
theorem dX12_scan_164 : decode cX12_scan 164 = .ok (.bipush 125, 2) := by decide +kernel
theorem dX12_scan_166 : decode cX12_scan 166 = .ok (.if_icmp .ne 7, 3) := by decide +kernel
theorem dX12_scan_169 : decode cX12_scan 169 = .ok (.iconst 3, 1) := by decide +kernel
theorem dX12_scan_170 : decode cX12_scan 170 = .ok (.goto 4, 3) := by decide +kernel
theorem dX12_scan_173 : decode cX12_scan 173 = .ok (.iconst 4, 1) := by decide +kernel
theorem dX12_scan_174 : decode cX12_scan 174 = .ok (.istore 5, 2) := by decide +kernel
theorem dX12_scan_176 : decode cX12_scan 176 = .ok (.aload_n 0, 1) := by decide +kernel
theorem dX12_scan_177 : decode cX12_scan 177 = .ok (.getfield 17, 3) := by decide +kernel
theorem dX12_scan_180 : decode cX12_scan 180 = .ok (.iload_n 1, 1) := by decide +kernel
theorem dX12_scan_181 : decode cX12_scan 181 = .ok (.iload 5, 2) := by decide +kernel
theorem dX12_scan_183 : decode cX12_scan 183 = .ok (.iastore, 1) := by decide +kernel
theorem dX12_scan_184 : decode cX12_scan 184 = .ok (.aload_n 0, 1) := by decide +kernel
theorem dX12_scan_185 : decode cX12_scan 185 = .ok (.getfield 20, 3) := by decide +kernel
theorem dX12_scan_188 : decode cX12_scan 188 = .ok (.iload_n 1, 1) := by decide +kernel
theorem dX12_scan_189 : decode cX12_scan 189 = .ok (.iload_n 2, 1) := by decide +kernel
theorem dX12_scan_190 : decode cX12_scan 190 = .ok (.iastore, 1) := by decide +kernel
theorem dX12_scan_191 : decode cX12_scan 191 = .ok (.aload_n 0, 1) := by decide +kernel
theorem dX12_scan_192 : decode cX12_scan 192 = .ok (.getfield 23, 3) := by decide +kernel
theorem dX12_scan_195 : decode cX12_scan 195 = .ok (.iload_n 1, 1) := by decide +kernel
theorem dX12_scan_196 : decode cX12_scan 196 = .ok (.iload 4, 2) := by decide +kernel
theorem dX12_scan_198 : decode cX12_scan 198 = .ok (.iastore, 1) := by decide +kernel
theorem dX12_scan_199 : decode cX12_scan 199 = .ok (.iinc 1 1, 3) := by decide +kernel
theorem dX12_scan_202 : decode cX12_scan 202 = .ok (.iload 4, 2) := by decide +kernel
theorem dX12_scan_204 : decode cX12_scan 204 = .ok (.istore_n 2, 1) := by decide +kernel
theorem dX12_scan_205 : decode cX12_scan 205 = .ok (.iload 5, 2) := by decide +kernel
theorem dX12_scan_207 : decode cX12_scan 207 = .ok (.ifCond .eq 7, 3) := by decide +kernel
theorem dX12_scan_210 : decode cX12_scan 210 = .ok (.iconst 1, 1) := by decide +kernel
theorem dX12_scan_211 : decode cX12_scan 211 = .ok (.goto 4, 3) := by decide +kernel
theorem dX12_scan_214 : decode cX12_scan 214 = .ok (.iconst 0, 1) := by decide +kernel
theorem dX12_scan_215 : decode cX12_scan 215 = .ok (.istore_n 3, 1) := by decide +kernel
theorem dX12_scan_216 : decode cX12_scan 216 = .ok (.goto (-210), 3) := by decide +kernel
theorem dX12_scan_219 : decode cX12_scan 219 = .ok (.return_, 1) := by decide +kernel
theorem dX12_is_0 : decode cX12_is 0 = .ok (.aload_n 0, 1) := by decide +kernel
theorem dX12_is_1 : decode cX12_is 1 = .ok (.getfield 17, 3) := by decide +kernel
theorem dX12_is_4 : decode cX12_is 4 = .ok (.iload_n 1, 1) := by decide +kernel
theorem dX12_is_5 : decode cX12_is 5 = .ok (.iaload, 1) := by decide +kernel
theorem dX12_is_6 : decode cX12_is 6 = .ok (.iconst 1, 1) := by decide +kernel
theorem dX12_is_7 : decode cX12_is 7 = .ok (.if_icmp .eq 13, 3) := by decide +kernel
theorem dX12_is_10 : decode cX12_is 10 = .ok (.aload_n 0, 1) := by decide +kernel
theorem dX12_is_11 : decode cX12_is 11 = .ok (.getfield 17, 3) := by decide +kernel
theorem dX12_is_14 : decode cX12_is 14 = .ok (.iload_n 1, 1) := by decide +kernel
theorem dX12_is_15 : decode cX12_is 15 = .ok (.iaload, 1) := by decide +kernel
theorem dX12_is_16 : decode cX12_is 16 = .ok (.iconst 3, 1) := by decide +kernel
theorem dX12_is_17 : decode cX12_is 17 = .ok (.if_icmp .ne 27, 3) := by decide +kernel
theorem dX12_is_20 : decode cX12_is 20 = .ok (.aload_n 0, 1) := by decide +kernel
theorem dX12_is_21 : decode cX12_is 21 = .ok (.getfield 23, 3) := by decide +kernel
theorem dX12_is_24 : decode cX12_is 24 = .ok (.iload_n 1, 1) := by decide +kernel
theorem dX12_is_25 : decode cX12_is 25 = .ok (.iaload, 1) := by decide +kernel
theorem dX12_is_26 : decode cX12_is 26 = .ok (.aload_n 0, 1) := by decide +kernel
theorem dX12_is_27 : decode cX12_is 27 = .ok (.getfield 20, 3) := by decide +kernel
theorem dX12_is_30 : decode cX12_is 30 = .ok (.iload_n 1, 1) := by decide +kernel
theorem dX12_is_31 : decode cX12_is 31 = .ok (.iaload, 1) := by decide +kernel
theorem dX12_is_32 : decode cX12_is 32 = .ok (.isub, 1) := by decide +kernel
theorem dX12_is_33 : decode cX12_is 33 = .ok (.aload_n 2, 1) := by decide +kernel
theorem dX12_is_34 : decode cX12_is 34 = .ok (.invokevirtual 69, 3) := by decide +kernel
theorem dX12_is_37 : decode cX12_is 37 = .ok (.if_icmp .ne 7, 3) := by decide +kernel
theorem dX12_is_40 : decode cX12_is 40 = .ok (.iconst 1, 1) := by decide +kernel
theorem dX12_is_41 : decode cX12_is 41 = .ok (.goto 4, 3) := by decide +kernel
theorem dX12_is_44 : decode cX12_is 44 = .ok (.iconst 0, 1) := by decide +kernel
theorem dX12_is_45 : decode cX12_is 45 = .ok (.istore_n 3, 1) := by decide +kernel
theorem dX12_is_46 : decode cX12_is 46 = .ok (.iconst 0, 1) := by decide +kernel
theorem dX12_is_47 : decode cX12_is 47 = .ok (.istore 4, 2) := by decide +kernel
theorem dX12_is_49 : decode cX12_is 49 = .ok (.iload 4, 2) := by decide +kernel
theorem dX12_is_51 : decode cX12_is 51 = .ok (.aload_n 2, 1) := by decide +kernel
theorem dX12_is_52 : decode cX12_is 52 = .ok (.invokevirtual 69, 3) := by decide +kernel
theorem dX12_is_55 : decode cX12_is 55 = .ok (.if_icmp .ge 42, 3) := by decide +kernel
theorem dX12_is_58 : decode cX12_is 58 = .ok (.iload_n 3, 1) := by decide +kernel
theorem dX12_is_59 : decode cX12_is 59 = .ok (.ifCond .eq 38, 3) := by decide +kernel
theorem dX12_is_62 : decode cX12_is 62 = .ok (.aload_n 0, 1) := by decide +kernel
theorem dX12_is_63 : decode cX12_is 63 = .ok (.getfield 9, 3) := by decide +kernel
theorem dX12_is_66 : decode cX12_is 66 = .ok (.aload_n 0, 1) := by decide +kernel
theorem dX12_is_67 : decode cX12_is 67 = .ok (.getfield 20, 3) := by decide +kernel
theorem dX12_is_70 : decode cX12_is 70 = .ok (.iload_n 1, 1) := by decide +kernel
theorem dX12_is_71 : decode cX12_is 71 = .ok (.iaload, 1) := by decide +kernel
theorem dX12_is_72 : decode cX12_is 72 = .ok (.iload 4, 2) := by decide +kernel
theorem dX12_is_74 : decode cX12_is 74 = .ok (.iadd, 1) := by decide +kernel
theorem dX12_is_75 : decode cX12_is 75 = .ok (.iaload, 1) := by decide +kernel
theorem dX12_is_76 : decode cX12_is 76 = .ok (.aload_n 2, 1) := by decide +kernel
theorem dX12_is_77 : decode cX12_is 77 = .ok (.iload 4, 2) := by decide +kernel
theorem dX12_is_79 : decode cX12_is 79 = .ok (.invokevirtual 74, 3) := by decide +kernel
theorem dX12_is_82 : decode cX12_is 82 = .ok (.if_icmp .ne 7, 3) := by decide +kernel
theorem dX12_is_85 : decode cX12_is 85 = .ok (.iconst 1, 1) := by decide +kernel
theorem dX12_is_86 : decode cX12_is 86 = .ok (.goto 4, 3) := by decide +kernel
theorem dX12_is_89 : decode cX12_is 89 = .ok (.iconst 0, 1) := by decide +kernel
theorem dX12_is_90 : decode cX12_is 90 = .ok (.istore_n 3, 1) := by decide +kernel
theorem dX12_is_91 : decode cX12_is 91 = .ok (.iinc 4 1, 3) := by decide +kernel
theorem dX12_is_94 : decode cX12_is 94 = .ok (.goto (-45), 3) := by decide +kernel
theorem dX12_is_97 : decode cX12_is 97 = .ok (.iload_n 3, 1) := by decide +kernel
theorem dX12_is_98 : decode cX12_is 98 = .ok (.ireturn, 1) := by decide +kernel
theorem dX12_which_0 : decode cX12_which 0 = .ok (.iconst (-1), 1) := by decide +kernel
theorem dX12_which_1 : decode cX12_which 1 = .ok (.istore_n 3, 1) := by decide +kernel
theorem dX12_which_2 : decode cX12_which 2 = .ok (.iconst 0, 1) := by decide +kernel
theorem dX12_which_3 : decode cX12_which 3 = .ok (.istore 4, 2) := by decide +kernel
theorem dX12_which_5 : decode cX12_which 5 = .ok (.iload 4, 2) := by decide +kernel
theorem dX12_which_7 : decode cX12_which 7 = .ok (.aload_n 2, 1) := by decide +kernel
theorem dX12_which_8 : decode cX12_which 8 = .ok (.arraylength, 1) := by decide +kernel
theorem dX12_which_9 : decode cX12_which 9 = .ok (.if_icmp .ge 24, 3) := by decide +kernel
theorem dX12_which_12 : decode cX12_which 12 = .ok (.aload_n 0, 1) := by decide +kernel
theorem dX12_which_13 : decode cX12_which 13 = .ok (.iload_n 1, 1) := by decide +kernel
theorem dX12_which_14 : decode cX12_which 14 = .ok (.aload_n 2, 1) := by decide +kernel
theorem dX12_which_15 : decode cX12_which 15 = .ok (.iload 4, 2) := by decide +kernel
theorem dX12_which_17 : decode cX12_which 17 = .ok (.aaload, 1) := by decide +kernel
theorem dX12_which_18 : decode cX12_which 18 = .ok (.invokevirtual 78, 3) := by decide +kernel
theorem dX12_which_21 : decode cX12_which 21 = .ok (.ifCond .eq 6, 3) := by decide +kernel
theorem dX12_which_24 : decode cX12_which 24 = .ok (.iload 4, 2) := by decide +kernel
theorem dX12_which_26 : decode cX12_which 26 = .ok (.istore_n 3, 1) := by decide +kernel
theorem dX12_which_27 : decode cX12_which 27 = .ok (.iinc 4 1, 3) := by decide +kernel
theorem dX12_which_30 : decode cX12_which 30 = .ok (.goto (-25), 3) := by decide +kernel
theorem dX12_which_33 : decode cX12_which 33 = .ok (.iload_n 3, 1) := by decide +kernel
theorem dX12_which_34 : decode cX12_which 34 = .ok (.ireturn, 1) := by decide +kernel
theorem dX12_numberAt_0 : decode cX12_numberAt 0 = .ok (.iconst 0, 1) := by decide +kernel
theorem dX12_numberAt_1 : decode cX12_numberAt 1 = .ok (.istore_n 2, 1) := by decide +kernel
theorem dX12_numberAt_2 : decode cX12_numberAt 2 = .ok (.aload_n 0, 1) := by decide +kernel
theorem dX12_numberAt_3 : decode cX12_numberAt 3 = .ok (.getfield 20, 3) := by decide +kernel
theorem dX12_numberAt_6 : decode cX12_numberAt 6 = .ok (.iload_n 1, 1) := by decide +kernel
theorem dX12_numberAt_7 : decode cX12_numberAt 7 = .ok (.iaload, 1) := by decide +kernel
theorem dX12_numberAt_8 : decode cX12_numberAt 8 = .ok (.istore_n 3, 1) := by decide +kernel
theorem dX12_numberAt_9 : decode cX12_numberAt 9 = .ok (.iload_n 3, 1) := by decide +kernel
theorem dX12_numberAt_10 : decode cX12_numberAt 10 = .ok (.aload_n 0, 1) := by decide +kernel
theorem dX12_numberAt_11 : decode cX12_numberAt 11 = .ok (.getfield 23, 3) := by decide +kernel
theorem dX12_numberAt_14 : decode cX12_numberAt 14 = .ok (.iload_n 1, 1) := by decide +kernel
theorem dX12_numberAt_15 : decode cX12_numberAt 15 = .ok (.iaload, 1) := by decide +kernel
theorem dX12_numberAt_16 : decode cX12_numberAt 16 = .ok (.if_icmp .ge 24, 3) := by decide +kernel
theorem dX12_numberAt_19 : decode cX12_numberAt 19 = .ok (.bipush 10, 2) := by decide +kernel
theorem dX12_numberAt_21 : decode cX12_numberAt 21 = .ok (.iload_n 2, 1) := by decide +kernel
theorem dX12_numberAt_22 : decode cX12_numberAt 22 = .ok (.imul, 1) := by decide +kernel
theorem dX12_numberAt_23 : decode cX12_numberAt 23 = .ok (.aload_n 0, 1) := by decide +kernel
theorem dX12_numberAt_24 : decode cX12_numberAt 24 = .ok (.getfield 9, 3) := by decide +kernel
theorem dX12_numberAt_27 : decode cX12_numberAt 27 = .ok (.iload_n 3, 1) := by decide +kernel
theorem dX12_numberAt_28 : decode cX12_numberAt 28 = .ok (.iaload, 1) := by decide +kernel
theorem dX12_numberAt_29 : decode cX12_numberAt 29 = .ok (.iadd, 1) := by decide +kernel
theorem dX12_numberAt_30 : decode cX12_numberAt 30 = .ok (.bipush 48, 2) := by decide +kernel
theorem dX12_numberAt_32 : decode cX12_numberAt 32 = .ok (.isub, 1) := by decide +kernel
theorem dX12_numberAt_33 : decode cX12_numberAt 33 = .ok (.istore_n 2, 1) := by decide +kernel
theorem dX12_numberAt_34 : decode cX12_numberAt 34 = .ok (.iinc 3 1, 3) := by decide +kernel
theorem dX12_numberAt_37 : decode cX12_numberAt 37 = .ok (.goto (-28), 3) := by decide +kernel
theorem dX12_numberAt_40 : decode cX12_numberAt 40 = .ok (.iload_n 2, 1) := by decide +kernel
theorem dX12_numberAt_41 : decode cX12_numberAt 41 = .ok (.ireturn, 1) := by decide +kernel
theorem dX12_takes_0 : decode cX12_takes 0 = .ok (.iload_n 1, 1) := by decide +kernel
theorem dX12_takes_1 : decode cX12_takes 1 = .ok (.ifCond .eq 13, 3) := by decide +kernel
theorem dX12_takes_4 : decode cX12_takes 4 = .ok (.aload_n 0, 1) := by decide +kernel
theorem dX12_takes_5 : decode cX12_takes 5 = .ok (.dup, 1) := by decide +kernel
theorem dX12_takes_6 : decode cX12_takes 6 = .ok (.getfield 82, 3) := by decide +kernel
theorem dX12_takes_9 : decode cX12_takes 9 = .ok (.iconst 1, 1) := by decide +kernel
theorem dX12_takes_10 : decode cX12_takes 10 = .ok (.iadd, 1) := by decide +kernel
theorem dX12_takes_11 : decode cX12_takes 11 = .ok (.putfield 82, 3) := by decide +kernel
theorem dX12_takes_14 : decode cX12_takes 14 = .ok (.iload_n 1, 1) := by decide +kernel
theorem dX12_takes_15 : decode cX12_takes 15 = .ok (.ireturn, 1) := by decide +kernel
theorem dX12_planForm_0 : decode cX12_planForm 0 = .ok (.aload_n 0, 1) := by decide +kernel
theorem dX12_planForm_1 : decode cX12_planForm 1 = .ok (.iconst 0, 1) := by decide +kernel
theorem dX12_planForm_2 : decode cX12_planForm 2 = .ok (.putfield 82, 3) := by decide +kernel
theorem dX12_planForm_5 : decode cX12_planForm 5 = .ok (.aload_n 0, 1) := by decide +kernel
theorem dX12_planForm_6 : decode cX12_planForm 6 = .ok (.invokevirtual 85, 3) := by decide +kernel
theorem dX12_planForm_9 : decode cX12_planForm 9 = .ok (.ifCond .ne 5, 3) := by decide +kernel
theorem dX12_planForm_12 : decode cX12_planForm 12 = .ok (.iconst 0, 1) := by decide +kernel
theorem dX12_planForm_13 : decode cX12_planForm 13 = .ok (.ireturn, 1) := by decide +kernel
theorem dX12_planForm_14 : decode cX12_planForm 14 = .ok (.aload_n 0, 1) := by decide +kernel
theorem dX12_planForm_15 : decode cX12_planForm 15 = .ok (.getfield 17, 3) := by decide +kernel
theorem dX12_planForm_18 : decode cX12_planForm 18 = .ok (.aload_n 0, 1) := by decide +kernel
theorem dX12_planForm_19 : decode cX12_planForm 19 = .ok (.getfield 82, 3) := by decide +kernel
theorem dX12_planForm_22 : decode cX12_planForm 22 = .ok (.iaload, 1) := by decide +kernel
theorem dX12_planForm_23 : decode cX12_planForm 23 = .ok (.ifCond .ne (-18), 3) := by decide +kernel
theorem dX12_planForm_26 : decode cX12_planForm 26 = .ok (.iconst 1, 1) := by decide +kernel
theorem dX12_planForm_27 : decode cX12_planForm 27 = .ok (.ireturn, 1) := by decide +kernel
theorem dX12_stepForm_0 : decode cX12_stepForm 0 = .ok (.iconst 0, 1) := by decide +kernel
theorem dX12_stepForm_1 : decode cX12_stepForm 1 = .ok (.istore_n 1, 1) := by decide +kernel
theorem dX12_stepForm_2 : decode cX12_stepForm 2 = .ok (.iload_n 1, 1) := by decide +kernel
theorem dX12_stepForm_3 : decode cX12_stepForm 3 = .ok (.ifCond .le 47, 3) := by decide +kernel
theorem dX12_stepForm_6 : decode cX12_stepForm 6 = .ok (.aload_n 0, 1) := by decide +kernel
theorem dX12_stepForm_7 : decode cX12_stepForm 7 = .ok (.aload_n 0, 1) := by decide +kernel
theorem dX12_stepForm_8 : decode cX12_stepForm 8 = .ok (.getfield 82, 3) := by decide +kernel
theorem dX12_stepForm_11 : decode cX12_stepForm 11 = .ok (.ldc 89, 2) := by decide +kernel
theorem dX12_stepForm_13 : decode cX12_stepForm 13 = .ok (.invokevirtual 78, 3) := by decide +kernel
theorem dX12_stepForm_16 : decode cX12_stepForm 16 = .ok (.ifCond .eq 34, 3) := by decide +kernel
theorem dX12_stepForm_19 : decode cX12_stepForm 19 = .ok (.aload_n 0, 1) := by decide +kernel
theorem dX12_stepForm_20 : decode cX12_stepForm 20 = .ok (.aload_n 0, 1) := by decide +kernel
theorem dX12_stepForm_21 : decode cX12_stepForm 21 = .ok (.getfield 82, 3) := by decide +kernel
theorem dX12_stepForm_24 : decode cX12_stepForm 24 = .ok (.iconst 1, 1) := by decide +kernel
theorem dX12_stepForm_25 : decode cX12_stepForm 25 = .ok (.isub, 1) := by decide +kernel
theorem dX12_stepForm_26 : decode cX12_stepForm 26 = .ok (.ldc 91, 2) := by decide +kernel
theorem dX12_stepForm_28 : decode cX12_stepForm 28 = .ok (.invokevirtual 78, 3) := by decide +kernel
theorem dX12_stepForm_31 : decode cX12_stepForm 31 = .ok (.ifCond .ne 19, 3) := by decide +kernel
theorem dX12_stepForm_34 : decode cX12_stepForm 34 = .ok (.aload_n 0, 1) := by decide +kernel
theorem dX12_stepForm_35 : decode cX12_stepForm 35 = .ok (.dup, 1) := by decide +kernel
theorem dX12_stepForm_36 : decode cX12_stepForm 36 = .ok (.getfield 82, 3) := by decide +kernel
theorem dX12_stepForm_39 : decode cX12_stepForm 39 = .ok (.iconst 1, 1) := by decide +kernel
theorem dX12_stepForm_40 : decode cX12_stepForm 40 = .ok (.iadd, 1) := by decide +kernel
theorem dX12_stepForm_41 : decode cX12_stepForm 41 = .ok (.putfield 82, 3) := by decide +kernel
theorem dX12_stepForm_44 : decode cX12_stepForm 44 = .ok (.iinc 1 (-1), 3) := by decide +kernel
theorem dX12_stepForm_47 : decode cX12_stepForm 47 = .ok (.goto 102, 3) := by decide +kernel
theorem dX12_stepForm_50 : decode cX12_stepForm 50 = .ok (.aload_n 0, 1) := by decide +kernel
theorem dX12_stepForm_51 : decode cX12_stepForm 51 = .ok (.aload_n 0, 1) := by decide +kernel
theorem dX12_stepForm_52 : decode cX12_stepForm 52 = .ok (.getfield 82, 3) := by decide +kernel
theorem dX12_stepForm_55 : decode cX12_stepForm 55 = .ok (.ldc 93, 2) := by decide +kernel
theorem dX12_stepForm_57 : decode cX12_stepForm 57 = .ok (.invokevirtual 78, 3) := by decide +kernel
theorem dX12_stepForm_60 : decode cX12_stepForm 60 = .ok (.ifCond .eq 63, 3) := by decide +kernel
theorem dX12_stepForm_63 : decode cX12_stepForm 63 = .ok (.aload_n 0, 1) := by decide +kernel
theorem dX12_stepForm_64 : decode cX12_stepForm 64 = .ok (.dup, 1) := by decide +kernel
theorem dX12_stepForm_65 : decode cX12_stepForm 65 = .ok (.getfield 82, 3) := by decide +kernel
theorem dX12_stepForm_68 : decode cX12_stepForm 68 = .ok (.iconst 1, 1) := by decide +kernel
theorem dX12_stepForm_69 : decode cX12_stepForm 69 = .ok (.iadd, 1) := by decide +kernel
theorem dX12_stepForm_70 : decode cX12_stepForm 70 = .ok (.putfield 82, 3) := by decide +kernel
theorem dX12_stepForm_73 : decode cX12_stepForm 73 = .ok (.aload_n 0, 1) := by decide +kernel
theorem dX12_stepForm_74 : decode cX12_stepForm 74 = .ok (.aload_n 0, 1) := by decide +kernel
theorem dX12_stepForm_75 : decode cX12_stepForm 75 = .ok (.getfield 17, 3) := by decide +kernel
theorem dX12_stepForm_78 : decode cX12_stepForm 78 = .ok (.aload_n 0, 1) := by decide +kernel
theorem dX12_stepForm_79 : decode cX12_stepForm 79 = .ok (.getfield 82, 3) := by decide +kernel
theorem dX12_stepForm_82 : decode cX12_stepForm 82 = .ok (.iaload, 1) := by decide +kernel
theorem dX12_stepForm_83 : decode cX12_stepForm 83 = .ok (.iconst 2, 1) := by decide +kernel
theorem dX12_stepForm_84 : decode cX12_stepForm 84 = .ok (.if_icmp .ne 7, 3) := by decide +kernel
theorem dX12_stepForm_87 : decode cX12_stepForm 87 = .ok (.iconst 1, 1) := by decide +kernel
theorem dX12_stepForm_88 : decode cX12_stepForm 88 = .ok (.goto 4, 3) := by decide +kernel
theorem dX12_stepForm_91 : decode cX12_stepForm 91 = .ok (.iconst 0, 1) := by decide +kernel
theorem dX12_stepForm_92 : decode cX12_stepForm 92 = .ok (.invokevirtual 95, 3) := by decide +kernel
theorem dX12_stepForm_95 : decode cX12_stepForm 95 = .ok (.ifCond .eq 20, 3) := by decide +kernel
theorem dX12_stepForm_98 : decode cX12_stepForm 98 = .ok (.aload_n 0, 1) := by decide +kernel
theorem dX12_stepForm_99 : decode cX12_stepForm 99 = .ok (.aload_n 0, 1) := by decide +kernel
theorem dX12_stepForm_100 : decode cX12_stepForm 100 = .ok (.aload_n 0, 1) := by decide +kernel
theorem dX12_stepForm_101 : decode cX12_stepForm 101 = .ok (.getfield 82, 3) := by decide +kernel
theorem dX12_stepForm_104 : decode cX12_stepForm 104 = .ok (.ldc 91, 2) := by decide +kernel
theorem dX12_stepForm_106 : decode cX12_stepForm 106 = .ok (.invokevirtual 78, 3) := by decide +kernel
theorem dX12_stepForm_109 : decode cX12_stepForm 109 = .ok (.invokevirtual 95, 3) := by decide +kernel
theorem dX12_stepForm_112 : decode cX12_stepForm 112 = .ok (.ifCond .ne 5, 3) := by decide +kernel
theorem dX12_stepForm_115 : decode cX12_stepForm 115 = .ok (.iconst 0, 1) := by decide +kernel
theorem dX12_stepForm_116 : decode cX12_stepForm 116 = .ok (.ireturn, 1) := by decide +kernel
theorem dX12_stepForm_117 : decode cX12_stepForm 117 = .ok (.iinc 1 1, 3) := by decide +kernel
theorem dX12_stepForm_120 : decode cX12_stepForm 120 = .ok (.goto 29, 3) := by decide +kernel
theorem dX12_stepForm_123 : decode cX12_stepForm 123 = .ok (.aload_n 0, 1) := by decide +kernel
theorem dX12_stepForm_124 : decode cX12_stepForm 124 = .ok (.invokevirtual 99, 3) := by decide +kernel
theorem dX12_stepForm_127 : decode cX12_stepForm 127 = .ok (.ifCond .eq 20, 3) := by decide +kernel
theorem dX12_stepForm_130 : decode cX12_stepForm 130 = .ok (.aload_n 0, 1) := by decide +kernel
theorem dX12_stepForm_131 : decode cX12_stepForm 131 = .ok (.aload_n 0, 1) := by decide +kernel
theorem dX12_stepForm_132 : decode cX12_stepForm 132 = .ok (.aload_n 0, 1) := by decide +kernel
theorem dX12_stepForm_133 : decode cX12_stepForm 133 = .ok (.getfield 82, 3) := by decide +kernel
theorem dX12_stepForm_136 : decode cX12_stepForm 136 = .ok (.ldc 102, 2) := by decide +kernel
theorem dX12_stepForm_138 : decode cX12_stepForm 138 = .ok (.invokevirtual 78, 3) := by decide +kernel
theorem dX12_stepForm_141 : decode cX12_stepForm 141 = .ok (.invokevirtual 95, 3) := by decide +kernel
theorem dX12_stepForm_144 : decode cX12_stepForm 144 = .ok (.ifCond .ne 5, 3) := by decide +kernel
theorem dX12_stepForm_147 : decode cX12_stepForm 147 = .ok (.iconst 0, 1) := by decide +kernel
theorem dX12_stepForm_148 : decode cX12_stepForm 148 = .ok (.ireturn, 1) := by decide +kernel
theorem dX12_stepForm_149 : decode cX12_stepForm 149 = .ok (.iload_n 1, 1) := by decide +kernel
theorem dX12_stepForm_150 : decode cX12_stepForm 150 = .ok (.ifCond .gt (-148), 3) := by decide +kernel
theorem dX12_stepForm_153 : decode cX12_stepForm 153 = .ok (.iconst 1, 1) := by decide +kernel
theorem dX12_stepForm_154 : decode cX12_stepForm 154 = .ok (.ireturn, 1) := by decide +kernel
theorem dX12_actionForm_0 : decode cX12_actionForm 0 = .ok (.aload_n 0, 1) := by decide +kernel
theorem dX12_actionForm_1 : decode cX12_actionForm 1 = .ok (.aload_n 0, 1) := by decide +kernel
theorem dX12_actionForm_2 : decode cX12_actionForm 2 = .ok (.getfield 82, 3) := by decide +kernel
theorem dX12_actionForm_5 : decode cX12_actionForm 5 = .ok (.getstatic 104, 3) := by decide +kernel
theorem dX12_actionForm_8 : decode cX12_actionForm 8 = .ok (.invokevirtual 108, 3) := by decide +kernel
theorem dX12_actionForm_11 : decode cX12_actionForm 11 = .ok (.istore_n 1, 1) := by decide +kernel
theorem dX12_actionForm_12 : decode cX12_actionForm 12 = .ok (.iload_n 1, 1) := by decide +kernel
theorem dX12_actionForm_13 : decode cX12_actionForm 13 = .ok (.iconst (-1), 1) := by decide +kernel
theorem dX12_actionForm_14 : decode cX12_actionForm 14 = .ok (.if_icmp .ne 5, 3) := by decide +kernel
theorem dX12_actionForm_17 : decode cX12_actionForm 17 = .ok (.iconst 0, 1) := by decide +kernel
theorem dX12_actionForm_18 : decode cX12_actionForm 18 = .ok (.ireturn, 1) := by decide +kernel
theorem dX12_actionForm_19 : decode cX12_actionForm 19 = .ok (.aload_n 0, 1) := by decide +kernel
theorem dX12_actionForm_20 : decode cX12_actionForm 20 = .ok (.dup, 1) := by decide +kernel
theorem dX12_actionForm_21 : decode cX12_actionForm 21 = .ok (.getfield 82, 3) := by decide +kernel
theorem dX12_actionForm_24 : decode cX12_actionForm 24 = .ok (.iconst 1, 1) := by decide +kernel
theorem dX12_actionForm_25 : decode cX12_actionForm 25 = .ok (.iadd, 1) := by decide +kernel
theorem dX12_actionForm_26 : decode cX12_actionForm 26 = .ok (.putfield 82, 3) := by decide +kernel
theorem dX12_actionForm_29 : decode cX12_actionForm 29 = .ok (.iload_n 1, 1) := by decide +kernel
theorem dX12_actionForm_30 : decode cX12_actionForm 30 = .ok (.iconst 1, 1) := by decide +kernel
theorem dX12_actionForm_31 : decode cX12_actionForm 31 = .ok (.if_icmp .gt 30, 3) := by decide +kernel
theorem dX12_actionForm_34 : decode cX12_actionForm 34 = .ok (.aload_n 0, 1) := by decide +kernel
theorem dX12_actionForm_35 : decode cX12_actionForm 35 = .ok (.aload_n 0, 1) := by decide +kernel
theorem dX12_actionForm_36 : decode cX12_actionForm 36 = .ok (.aload_n 0, 1) := by decide +kernel
theorem dX12_actionForm_37 : decode cX12_actionForm 37 = .ok (.getfield 82, 3) := by decide +kernel
theorem dX12_actionForm_40 : decode cX12_actionForm 40 = .ok (.getstatic 112, 3) := by decide +kernel
theorem dX12_actionForm_43 : decode cX12_actionForm 43 = .ok (.invokevirtual 108, 3) := by decide +kernel
theorem dX12_actionForm_46 : decode cX12_actionForm 46 = .ok (.iconst (-1), 1) := by decide +kernel
theorem dX12_actionForm_47 : decode cX12_actionForm 47 = .ok (.if_icmp .eq 7, 3) := by decide +kernel
theorem dX12_actionForm_50 : decode cX12_actionForm 50 = .ok (.iconst 1, 1) := by decide +kernel
theorem dX12_actionForm_51 : decode cX12_actionForm 51 = .ok (.goto 4, 3) := by decide +kernel
theorem dX12_actionForm_54 : decode cX12_actionForm 54 = .ok (.iconst 0, 1) := by decide +kernel
theorem dX12_actionForm_55 : decode cX12_actionForm 55 = .ok (.invokevirtual 95, 3) := by decide +kernel
theorem dX12_actionForm_58 : decode cX12_actionForm 58 = .ok (.ifCond .eq 35, 3) := by decide +kernel
theorem dX12_actionForm_61 : decode cX12_actionForm 61 = .ok (.iload_n 1, 1) := by decide +kernel
theorem dX12_actionForm_62 : decode cX12_actionForm 62 = .ok (.iconst 2, 1) := by decide +kernel
theorem dX12_actionForm_63 : decode cX12_actionForm 63 = .ok (.if_icmp .ne 32, 3) := by decide +kernel
theorem dX12_actionForm_66 : decode cX12_actionForm 66 = .ok (.aload_n 0, 1) := by decide +kernel
theorem dX12_actionForm_67 : decode cX12_actionForm 67 = .ok (.aload_n 0, 1) := by decide +kernel
theorem dX12_actionForm_68 : decode cX12_actionForm 68 = .ok (.aload_n 0, 1) := by decide +kernel
theorem dX12_actionForm_69 : decode cX12_actionForm 69 = .ok (.getfield 82, 3) := by decide +kernel
theorem dX12_actionForm_72 : decode cX12_actionForm 72 = .ok (.getstatic 115, 3) := by decide +kernel
theorem dX12_actionForm_75 : decode cX12_actionForm 75 = .ok (.invokevirtual 108, 3) := by decide +kernel
theorem dX12_actionForm_78 : decode cX12_actionForm 78 = .ok (.iconst (-1), 1) := by decide +kernel
theorem dX12_actionForm_79 : decode cX12_actionForm 79 = .ok (.if_icmp .eq 7, 3) := by decide +kernel
theorem dX12_actionForm_82 : decode cX12_actionForm 82 = .ok (.iconst 1, 1) := by decide +kernel
theorem dX12_actionForm_83 : decode cX12_actionForm 83 = .ok (.goto 4, 3) := by decide +kernel
theorem dX12_actionForm_86 : decode cX12_actionForm 86 = .ok (.iconst 0, 1) := by decide +kernel
theorem dX12_actionForm_87 : decode cX12_actionForm 87 = .ok (.invokevirtual 95, 3) := by decide +kernel
theorem dX12_actionForm_90 : decode cX12_actionForm 90 = .ok (.ifCond .ne 5, 3) := by decide +kernel
theorem dX12_actionForm_93 : decode cX12_actionForm 93 = .ok (.iconst 0, 1) := by decide +kernel
theorem dX12_actionForm_94 : decode cX12_actionForm 94 = .ok (.ireturn, 1) := by decide +kernel
theorem dX12_actionForm_95 : decode cX12_actionForm 95 = .ok (.iconst 0, 1) := by decide +kernel
theorem dX12_actionForm_96 : decode cX12_actionForm 96 = .ok (.istore_n 2, 1) := by decide +kernel
theorem dX12_actionForm_97 : decode cX12_actionForm 97 = .ok (.iload_n 2, 1) := by decide +kernel
theorem dX12_actionForm_98 : decode cX12_actionForm 98 = .ok (.getstatic 118, 3) := by decide +kernel
theorem dX12_actionForm_101 : decode cX12_actionForm 101 = .ok (.iload_n 1, 1) := by decide +kernel
theorem dX12_actionForm_102 : decode cX12_actionForm 102 = .ok (.iaload, 1) := by decide +kernel
theorem dX12_actionForm_103 : decode cX12_actionForm 103 = .ok (.if_icmp .ge 36, 3) := by decide +kernel
theorem dX12_actionForm_106 : decode cX12_actionForm 106 = .ok (.aload_n 0, 1) := by decide +kernel
theorem dX12_actionForm_107 : decode cX12_actionForm 107 = .ok (.aload_n 0, 1) := by decide +kernel
theorem dX12_actionForm_108 : decode cX12_actionForm 108 = .ok (.getfield 17, 3) := by decide +kernel
theorem dX12_actionForm_111 : decode cX12_actionForm 111 = .ok (.aload_n 0, 1) := by decide +kernel
theorem dX12_actionForm_112 : decode cX12_actionForm 112 = .ok (.getfield 82, 3) := by decide +kernel
theorem dX12_actionForm_115 : decode cX12_actionForm 115 = .ok (.iaload, 1) := by decide +kernel
theorem dX12_actionForm_116 : decode cX12_actionForm 116 = .ok (.iconst 2, 1) := by decide +kernel
theorem dX12_actionForm_117 : decode cX12_actionForm 117 = .ok (.if_icmp .ne 7, 3) := by decide +kernel
theorem dX12_actionForm_120 : decode cX12_actionForm 120 = .ok (.iconst 1, 1) := by decide +kernel
theorem dX12_actionForm_121 : decode cX12_actionForm 121 = .ok (.goto 4, 3) := by decide +kernel
theorem dX12_actionForm_124 : decode cX12_actionForm 124 = .ok (.iconst 0, 1) := by decide +kernel
theorem dX12_actionForm_125 : decode cX12_actionForm 125 = .ok (.invokevirtual 95, 3) := by decide +kernel
theorem dX12_actionForm_128 : decode cX12_actionForm 128 = .ok (.ifCond .ne 5, 3) := by decide +kernel
theorem dX12_actionForm_131 : decode cX12_actionForm 131 = .ok (.iconst 0, 1) := by decide +kernel
theorem dX12_actionForm_132 : decode cX12_actionForm 132 = .ok (.ireturn, 1) := by decide +kernel
theorem dX12_actionForm_133 : decode cX12_actionForm 133 = .ok (.iinc 2 1, 3) := by decide +kernel
theorem dX12_actionForm_136 : decode cX12_actionForm 136 = .ok (.goto (-39), 3) := by decide +kernel
theorem dX12_actionForm_139 : decode cX12_actionForm 139 = .ok (.iconst 1, 1) := by decide +kernel
theorem dX12_actionForm_140 : decode cX12_actionForm 140 = .ok (.ireturn, 1) := by decide +kernel
theorem dX12_wrong_0 : decode cX12_wrong 0 = .ok (.aload_n 0, 1) := by decide +kernel
theorem dX12_wrong_1 : decode cX12_wrong 1 = .ok (.iload_n 1, 1) := by decide +kernel
theorem dX12_wrong_2 : decode cX12_wrong 2 = .ok (.putfield 121, 3) := by decide +kernel
theorem dX12_wrong_5 : decode cX12_wrong 5 = .ok (.aload_n 0, 1) := by decide +kernel
theorem dX12_wrong_6 : decode cX12_wrong 6 = .ok (.aload_n 0, 1) := by decide +kernel
theorem dX12_wrong_7 : decode cX12_wrong 7 = .ok (.getfield 20, 3) := by decide +kernel
theorem dX12_wrong_10 : decode cX12_wrong 10 = .ok (.iload_n 2, 1) := by decide +kernel
theorem dX12_wrong_11 : decode cX12_wrong 11 = .ok (.iaload, 1) := by decide +kernel
theorem dX12_wrong_12 : decode cX12_wrong 12 = .ok (.putfield 13, 3) := by decide +kernel
theorem dX12_wrong_15 : decode cX12_wrong 15 = .ok (.iconst 0, 1) := by decide +kernel
theorem dX12_wrong_16 : decode cX12_wrong 16 = .ok (.ireturn, 1) := by decide +kernel
theorem dX12_go_0 : decode cX12_go 0 = .ok (.aload_n 0, 1) := by decide +kernel
theorem dX12_go_1 : decode cX12_go 1 = .ok (.iload_n 1, 1) := by decide +kernel
theorem dX12_go_2 : decode cX12_go 2 = .ok (.putfield 82, 3) := by decide +kernel
theorem dX12_go_5 : decode cX12_go 5 = .ok (.aload_n 0, 1) := by decide +kernel
theorem dX12_go_6 : decode cX12_go 6 = .ok (.getfield 17, 3) := by decide +kernel
theorem dX12_go_9 : decode cX12_go 9 = .ok (.aload_n 0, 1) := by decide +kernel
theorem dX12_go_10 : decode cX12_go 10 = .ok (.getfield 82, 3) := by decide +kernel
theorem dX12_go_13 : decode cX12_go 13 = .ok (.iaload, 1) := by decide +kernel
theorem dX12_go_14 : decode cX12_go 14 = .ok (.ifCond .eq 49, 3) := by decide +kernel
theorem dX12_go_17 : decode cX12_go 17 = .ok (.aload_n 0, 1) := by decide +kernel
theorem dX12_go_18 : decode cX12_go 18 = .ok (.aload_n 0, 1) := by decide +kernel
theorem dX12_go_19 : decode cX12_go 19 = .ok (.getfield 82, 3) := by decide +kernel
theorem dX12_go_22 : decode cX12_go 22 = .ok (.ldc 89, 2) := by decide +kernel
theorem dX12_go_24 : decode cX12_go 24 = .ok (.invokevirtual 78, 3) := by decide +kernel
theorem dX12_go_27 : decode cX12_go 27 = .ok (.ifCond .ne 36, 3) := by decide +kernel
theorem dX12_go_30 : decode cX12_go 30 = .ok (.aload_n 0, 1) := by decide +kernel
theorem dX12_go_31 : decode cX12_go 31 = .ok (.aload_n 0, 1) := by decide +kernel
theorem dX12_go_32 : decode cX12_go 32 = .ok (.getfield 82, 3) := by decide +kernel
theorem dX12_go_35 : decode cX12_go 35 = .ok (.ldc 93, 2) := by decide +kernel
theorem dX12_go_37 : decode cX12_go 37 = .ok (.invokevirtual 78, 3) := by decide +kernel
theorem dX12_go_40 : decode cX12_go 40 = .ok (.ifCond .eq 14, 3) := by decide +kernel
theorem dX12_go_43 : decode cX12_go 43 = .ok (.aload_n 0, 1) := by decide +kernel
theorem dX12_go_44 : decode cX12_go 44 = .ok (.iload_n 2, 1) := by decide +kernel
theorem dX12_go_45 : decode cX12_go 45 = .ok (.invokevirtual 124, 3) := by decide +kernel
theorem dX12_go_48 : decode cX12_go 48 = .ok (.ifCond .eq 13, 3) := by decide +kernel
theorem dX12_go_51 : decode cX12_go 51 = .ok (.goto (-46), 3) := by decide +kernel
theorem dX12_go_54 : decode cX12_go 54 = .ok (.aload_n 0, 1) := by decide +kernel
theorem dX12_go_55 : decode cX12_go 55 = .ok (.invokevirtual 127, 3) := by decide +kernel
theorem dX12_go_58 : decode cX12_go 58 = .ok (.ifCond .ne (-53), 3) := by decide +kernel
theorem dX12_go_61 : decode cX12_go 61 = .ok (.iconst 0, 1) := by decide +kernel
theorem dX12_go_62 : decode cX12_go 62 = .ok (.ireturn, 1) := by decide +kernel
theorem dX12_go_63 : decode cX12_go 63 = .ok (.iconst 1, 1) := by decide +kernel
theorem dX12_go_64 : decode cX12_go 64 = .ok (.ireturn, 1) := by decide +kernel
theorem dX12_goTimes_0 : decode cX12_goTimes 0 = .ok (.iload_n 1, 1) := by decide +kernel
theorem dX12_goTimes_1 : decode cX12_goTimes 1 = .ok (.iconst 3, 1) := by decide +kernel
theorem dX12_goTimes_2 : decode cX12_goTimes 2 = .ok (.if_icmp .ne 13, 3) := by decide +kernel
theorem dX12_goTimes_5 : decode cX12_goTimes 5 = .ok (.aload_n 0, 1) := by decide +kernel
theorem dX12_goTimes_6 : decode cX12_goTimes 6 = .ok (.iconst 4, 1) := by decide +kernel
theorem dX12_goTimes_7 : decode cX12_goTimes 7 = .ok (.aload_n 0, 1) := by decide +kernel
theorem dX12_goTimes_8 : decode cX12_goTimes 8 = .ok (.getfield 82, 3) := by decide +kernel
theorem dX12_goTimes_11 : decode cX12_goTimes 11 = .ok (.invokevirtual 130, 3) := by decide +kernel
theorem dX12_goTimes_14 : decode cX12_goTimes 14 = .ok (.ireturn, 1) := by decide +kernel
theorem dX12_goTimes_15 : decode cX12_goTimes 15 = .ok (.aload_n 0, 1) := by decide +kernel
theorem dX12_goTimes_16 : decode cX12_goTimes 16 = .ok (.getfield 82, 3) := by decide +kernel
theorem dX12_goTimes_19 : decode cX12_goTimes 19 = .ok (.iconst 1, 1) := by decide +kernel
theorem dX12_goTimes_20 : decode cX12_goTimes 20 = .ok (.iadd, 1) := by decide +kernel
theorem dX12_goTimes_21 : decode cX12_goTimes 21 = .ok (.istore_n 2, 1) := by decide +kernel
theorem dX12_goTimes_22 : decode cX12_goTimes 22 = .ok (.aload_n 0, 1) := by decide +kernel
theorem dX12_goTimes_23 : decode cX12_goTimes 23 = .ok (.iload_n 2, 1) := by decide +kernel
theorem dX12_goTimes_24 : decode cX12_goTimes 24 = .ok (.invokevirtual 134, 3) := by decide +kernel
theorem dX12_goTimes_27 : decode cX12_goTimes 27 = .ok (.iconst 1, 1) := by decide +kernel
theorem dX12_goTimes_28 : decode cX12_goTimes 28 = .ok (.bipush 9, 2) := by decide +kernel
theorem dX12_goTimes_30 : decode cX12_goTimes 30 = .ok (.invokestatic 55, 3) := by decide +kernel
theorem dX12_goTimes_33 : decode cX12_goTimes 33 = .ok (.ifCond .ne 10, 3) := by decide +kernel
theorem dX12_goTimes_36 : decode cX12_goTimes 36 = .ok (.aload_n 0, 1) := by decide +kernel
theorem dX12_goTimes_37 : decode cX12_goTimes 37 = .ok (.iconst 2, 1) := by decide +kernel
theorem dX12_goTimes_38 : decode cX12_goTimes 38 = .ok (.iload_n 2, 1) := by decide +kernel
theorem dX12_goTimes_39 : decode cX12_goTimes 39 = .ok (.invokevirtual 130, 3) := by decide +kernel
theorem dX12_goTimes_42 : decode cX12_goTimes 42 = .ok (.ireturn, 1) := by decide +kernel
theorem dX12_goTimes_43 : decode cX12_goTimes 43 = .ok (.aload_n 0, 1) := by decide +kernel
theorem dX12_goTimes_44 : decode cX12_goTimes 44 = .ok (.iload_n 2, 1) := by decide +kernel
theorem dX12_goTimes_45 : decode cX12_goTimes 45 = .ok (.invokevirtual 134, 3) := by decide +kernel
theorem dX12_goTimes_48 : decode cX12_goTimes 48 = .ok (.istore_n 3, 1) := by decide +kernel
theorem dX12_goTimes_49 : decode cX12_goTimes 49 = .ok (.iconst 0, 1) := by decide +kernel
theorem dX12_goTimes_50 : decode cX12_goTimes 50 = .ok (.istore 4, 2) := by decide +kernel
theorem dX12_goTimes_52 : decode cX12_goTimes 52 = .ok (.iload 4, 2) := by decide +kernel
theorem dX12_goTimes_54 : decode cX12_goTimes 54 = .ok (.iload_n 3, 1) := by decide +kernel
theorem dX12_goTimes_55 : decode cX12_goTimes 55 = .ok (.if_icmp .ge 24, 3) := by decide +kernel
theorem dX12_goTimes_58 : decode cX12_goTimes 58 = .ok (.aload_n 0, 1) := by decide +kernel
theorem dX12_goTimes_59 : decode cX12_goTimes 59 = .ok (.iload_n 2, 1) := by decide +kernel
theorem dX12_goTimes_60 : decode cX12_goTimes 60 = .ok (.iconst 2, 1) := by decide +kernel
theorem dX12_goTimes_61 : decode cX12_goTimes 61 = .ok (.iadd, 1) := by decide +kernel
theorem dX12_goTimes_62 : decode cX12_goTimes 62 = .ok (.iload_n 1, 1) := by decide +kernel
theorem dX12_goTimes_63 : decode cX12_goTimes 63 = .ok (.iconst 1, 1) := by decide +kernel
theorem dX12_goTimes_64 : decode cX12_goTimes 64 = .ok (.iadd, 1) := by decide +kernel
theorem dX12_goTimes_65 : decode cX12_goTimes 65 = .ok (.invokevirtual 137, 3) := by decide +kernel
theorem dX12_goTimes_68 : decode cX12_goTimes 68 = .ok (.ifCond .ne 5, 3) := by decide +kernel
theorem dX12_goTimes_71 : decode cX12_goTimes 71 = .ok (.iconst 0, 1) := by decide +kernel
theorem dX12_goTimes_72 : decode cX12_goTimes 72 = .ok (.ireturn, 1) := by decide +kernel
theorem dX12_goTimes_73 : decode cX12_goTimes 73 = .ok (.iinc 4 1, 3) := by decide +kernel
theorem dX12_goTimes_76 : decode cX12_goTimes 76 = .ok (.goto (-24), 3) := by decide +kernel
theorem dX12_goTimes_79 : decode cX12_goTimes 79 = .ok (.aload_n 0, 1) := by decide +kernel
theorem dX12_goTimes_80 : decode cX12_goTimes 80 = .ok (.dup, 1) := by decide +kernel
theorem dX12_goTimes_81 : decode cX12_goTimes 81 = .ok (.getfield 82, 3) := by decide +kernel
theorem dX12_goTimes_84 : decode cX12_goTimes 84 = .ok (.iconst 1, 1) := by decide +kernel
theorem dX12_goTimes_85 : decode cX12_goTimes 85 = .ok (.iadd, 1) := by decide +kernel
theorem dX12_goTimes_86 : decode cX12_goTimes 86 = .ok (.putfield 82, 3) := by decide +kernel
theorem dX12_goTimes_89 : decode cX12_goTimes 89 = .ok (.iconst 1, 1) := by decide +kernel
theorem dX12_goTimes_90 : decode cX12_goTimes 90 = .ok (.ireturn, 1) := by decide +kernel
theorem dX12_isMisplaced_0 : decode cX12_isMisplaced 0 = .ok (.iload_n 1, 1) := by decide +kernel
theorem dX12_isMisplaced_1 : decode cX12_isMisplaced 1 = .ok (.ifCond .ne 21, 3) := by decide +kernel
theorem dX12_isMisplaced_4 : decode cX12_isMisplaced 4 = .ok (.aload_n 0, 1) := by decide +kernel
theorem dX12_isMisplaced_5 : decode cX12_isMisplaced 5 = .ok (.getfield 140, 3) := by decide +kernel
theorem dX12_isMisplaced_8 : decode cX12_isMisplaced 8 = .ok (.iload_n 2, 1) := by decide +kernel
theorem dX12_isMisplaced_9 : decode cX12_isMisplaced 9 = .ok (.ishr, 1) := by decide +kernel
theorem dX12_isMisplaced_10 : decode cX12_isMisplaced 10 = .ok (.iconst 1, 1) := by decide +kernel
theorem dX12_isMisplaced_11 : decode cX12_isMisplaced 11 = .ok (.iand, 1) := by decide +kernel
theorem dX12_isMisplaced_12 : decode cX12_isMisplaced 12 = .ok (.iconst 1, 1) := by decide +kernel
theorem dX12_isMisplaced_13 : decode cX12_isMisplaced 13 = .ok (.if_icmp .ne 7, 3) := by decide +kernel
theorem dX12_isMisplaced_16 : decode cX12_isMisplaced 16 = .ok (.iconst 1, 1) := by decide +kernel
theorem dX12_isMisplaced_17 : decode cX12_isMisplaced 17 = .ok (.goto 4, 3) := by decide +kernel
theorem dX12_isMisplaced_20 : decode cX12_isMisplaced 20 = .ok (.iconst 0, 1) := by decide +kernel
theorem dX12_isMisplaced_21 : decode cX12_isMisplaced 21 = .ok (.ireturn, 1) := by decide +kernel
theorem dX12_isMisplaced_22 : decode cX12_isMisplaced 22 = .ok (.iload_n 1, 1) := by decide +kernel
theorem dX12_isMisplaced_23 : decode cX12_isMisplaced 23 = .ok (.iconst 1, 1) := by decide +kernel
theorem dX12_isMisplaced_24 : decode cX12_isMisplaced 24 = .ok (.if_icmp .ne 20, 3) := by decide +kernel
theorem dX12_isMisplaced_27 : decode cX12_isMisplaced 27 = .ok (.aload_n 0, 1) := by decide +kernel
theorem dX12_isMisplaced_28 : decode cX12_isMisplaced 28 = .ok (.getfield 140, 3) := by decide +kernel
theorem dX12_isMisplaced_31 : decode cX12_isMisplaced 31 = .ok (.iload_n 2, 1) := by decide +kernel
theorem dX12_isMisplaced_32 : decode cX12_isMisplaced 32 = .ok (.ishr, 1) := by decide +kernel
theorem dX12_isMisplaced_33 : decode cX12_isMisplaced 33 = .ok (.iconst 1, 1) := by decide +kernel
theorem dX12_isMisplaced_34 : decode cX12_isMisplaced 34 = .ok (.iand, 1) := by decide +kernel
theorem dX12_isMisplaced_35 : decode cX12_isMisplaced 35 = .ok (.ifCond .ne 7, 3) := by decide +kernel
theorem dX12_isMisplaced_38 : decode cX12_isMisplaced 38 = .ok (.iconst 1, 1) := by decide +kernel
theorem dX12_isMisplaced_39 : decode cX12_isMisplaced 39 = .ok (.goto 4, 3) := by decide +kernel
theorem dX12_isMisplaced_42 : decode cX12_isMisplaced 42 = .ok (.iconst 0, 1) := by decide +kernel
theorem dX12_isMisplaced_43 : decode cX12_isMisplaced 43 = .ok (.ireturn, 1) := by decide +kernel
theorem dX12_isMisplaced_44 : decode cX12_isMisplaced 44 = .ok (.iload_n 1, 1) := by decide +kernel
theorem dX12_isMisplaced_45 : decode cX12_isMisplaced 45 = .ok (.iconst 2, 1) := by decide +kernel
theorem dX12_isMisplaced_46 : decode cX12_isMisplaced 46 = .ok (.if_icmp .ne 8, 3) := by decide +kernel
theorem dX12_isMisplaced_49 : decode cX12_isMisplaced 49 = .ok (.aload_n 0, 1) := by decide +kernel
theorem dX12_isMisplaced_50 : decode cX12_isMisplaced 50 = .ok (.getfield 143, 3) := by decide +kernel
theorem dX12_isMisplaced_53 : decode cX12_isMisplaced 53 = .ok (.ireturn, 1) := by decide +kernel
theorem dX12_isMisplaced_54 : decode cX12_isMisplaced 54 = .ok (.aload_n 0, 1) := by decide +kernel
theorem dX12_isMisplaced_55 : decode cX12_isMisplaced 55 = .ok (.getfield 143, 3) := by decide +kernel
theorem dX12_isMisplaced_58 : decode cX12_isMisplaced 58 = .ok (.ifCond .eq 29, 3) := by decide +kernel
theorem dX12_isMisplaced_61 : decode cX12_isMisplaced 61 = .ok (.iload_n 1, 1) := by decide +kernel
theorem dX12_isMisplaced_62 : decode cX12_isMisplaced 62 = .ok (.bipush 6, 2) := by decide +kernel
theorem dX12_isMisplaced_64 : decode cX12_isMisplaced 64 = .ok (.if_icmp .ne 10, 3) := by decide +kernel
theorem dX12_isMisplaced_67 : decode cX12_isMisplaced 67 = .ok (.aload_n 0, 1) := by decide +kernel
theorem dX12_isMisplaced_68 : decode cX12_isMisplaced 68 = .ok (.getfield 140, 3) := by decide +kernel
theorem dX12_isMisplaced_71 : decode cX12_isMisplaced 71 = .ok (.ifCond .eq 16, 3) := by decide +kernel
theorem dX12_isMisplaced_74 : decode cX12_isMisplaced 74 = .ok (.iload_n 1, 1) := by decide +kernel
theorem dX12_isMisplaced_75 : decode cX12_isMisplaced 75 = .ok (.bipush 7, 2) := by decide +kernel
theorem dX12_isMisplaced_77 : decode cX12_isMisplaced 77 = .ok (.if_icmp .ne 14, 3) := by decide +kernel
theorem dX12_isMisplaced_80 : decode cX12_isMisplaced 80 = .ok (.aload_n 0, 1) := by decide +kernel
theorem dX12_isMisplaced_81 : decode cX12_isMisplaced 81 = .ok (.getfield 147, 3) := by decide +kernel
theorem dX12_isMisplaced_84 : decode cX12_isMisplaced 84 = .ok (.ifCond .ne 7, 3) := by decide +kernel
theorem dX12_isMisplaced_87 : decode cX12_isMisplaced 87 = .ok (.iconst 1, 1) := by decide +kernel
theorem dX12_isMisplaced_88 : decode cX12_isMisplaced 88 = .ok (.goto 4, 3) := by decide +kernel
theorem dX12_isMisplaced_91 : decode cX12_isMisplaced 91 = .ok (.iconst 0, 1) := by decide +kernel
theorem dX12_isMisplaced_92 : decode cX12_isMisplaced 92 = .ok (.ireturn, 1) := by decide +kernel
theorem dX12_goAction_0 : decode cX12_goAction 0 = .ok (.aload_n 0, 1) := by decide +kernel
theorem dX12_goAction_1 : decode cX12_goAction 1 = .ok (.aload_n 0, 1) := by decide +kernel
theorem dX12_goAction_2 : decode cX12_goAction 2 = .ok (.getfield 82, 3) := by decide +kernel
theorem dX12_goAction_5 : decode cX12_goAction 5 = .ok (.getstatic 104, 3) := by decide +kernel
theorem dX12_goAction_8 : decode cX12_goAction 8 = .ok (.invokevirtual 108, 3) := by decide +kernel
theorem dX12_goAction_11 : decode cX12_goAction 11 = .ok (.istore_n 1, 1) := by decide +kernel
theorem dX12_goAction_12 : decode cX12_goAction 12 = .ok (.iload_n 1, 1) := by decide +kernel
theorem dX12_goAction_13 : decode cX12_goAction 13 = .ok (.iconst 1, 1) := by decide +kernel
theorem dX12_goAction_14 : decode cX12_goAction 14 = .ok (.if_icmp .gt 19, 3) := by decide +kernel
theorem dX12_goAction_17 : decode cX12_goAction 17 = .ok (.aload_n 0, 1) := by decide +kernel
theorem dX12_goAction_18 : decode cX12_goAction 18 = .ok (.aload_n 0, 1) := by decide +kernel
theorem dX12_goAction_19 : decode cX12_goAction 19 = .ok (.getfield 82, 3) := by decide +kernel
theorem dX12_goAction_22 : decode cX12_goAction 22 = .ok (.iconst 1, 1) := by decide +kernel
theorem dX12_goAction_23 : decode cX12_goAction 23 = .ok (.iadd, 1) := by decide +kernel
theorem dX12_goAction_24 : decode cX12_goAction 24 = .ok (.getstatic 112, 3) := by decide +kernel
theorem dX12_goAction_27 : decode cX12_goAction 27 = .ok (.invokevirtual 108, 3) := by decide +kernel
theorem dX12_goAction_30 : decode cX12_goAction 30 = .ok (.goto 25, 3) := by decide +kernel
theorem dX12_goAction_33 : decode cX12_goAction 33 = .ok (.iload_n 1, 1) := by decide +kernel
theorem dX12_goAction_34 : decode cX12_goAction 34 = .ok (.iconst 2, 1) := by decide +kernel
theorem dX12_goAction_35 : decode cX12_goAction 35 = .ok (.if_icmp .ne 19, 3) := by decide +kernel
theorem dX12_goAction_38 : decode cX12_goAction 38 = .ok (.aload_n 0, 1) := by decide +kernel
theorem dX12_goAction_39 : decode cX12_goAction 39 = .ok (.aload_n 0, 1) := by decide +kernel
theorem dX12_goAction_40 : decode cX12_goAction 40 = .ok (.getfield 82, 3) := by decide +kernel
theorem dX12_goAction_43 : decode cX12_goAction 43 = .ok (.iconst 1, 1) := by decide +kernel
theorem dX12_goAction_44 : decode cX12_goAction 44 = .ok (.iadd, 1) := by decide +kernel
theorem dX12_goAction_45 : decode cX12_goAction 45 = .ok (.getstatic 115, 3) := by decide +kernel
theorem dX12_goAction_48 : decode cX12_goAction 48 = .ok (.invokevirtual 108, 3) := by decide +kernel
theorem dX12_goAction_51 : decode cX12_goAction 51 = .ok (.goto 4, 3) := by decide +kernel
theorem dX12_goAction_54 : decode cX12_goAction 54 = .ok (.iconst 0, 1) := by decide +kernel
theorem dX12_goAction_55 : decode cX12_goAction 55 = .ok (.istore_n 2, 1) := by decide +kernel
theorem dX12_goAction_56 : decode cX12_goAction 56 = .ok (.aload_n 0, 1) := by decide +kernel
theorem dX12_goAction_57 : decode cX12_goAction 57 = .ok (.iload_n 1, 1) := by decide +kernel
theorem dX12_goAction_58 : decode cX12_goAction 58 = .ok (.iload_n 2, 1) := by decide +kernel
theorem dX12_goAction_59 : decode cX12_goAction 59 = .ok (.invokevirtual 150, 3) := by decide +kernel
theorem dX12_goAction_62 : decode cX12_goAction 62 = .ok (.ifCond .eq 13, 3) := by decide +kernel
theorem dX12_goAction_65 : decode cX12_goAction 65 = .ok (.aload_n 0, 1) := by decide +kernel
theorem dX12_goAction_66 : decode cX12_goAction 66 = .ok (.iconst 3, 1) := by decide +kernel
theorem dX12_goAction_67 : decode cX12_goAction 67 = .ok (.aload_n 0, 1) := by decide +kernel
theorem dX12_goAction_68 : decode cX12_goAction 68 = .ok (.getfield 82, 3) := by decide +kernel
theorem dX12_goAction_71 : decode cX12_goAction 71 = .ok (.invokevirtual 130, 3) := by decide +kernel
theorem dX12_goAction_74 : decode cX12_goAction 74 = .ok (.ireturn, 1) := by decide +kernel
theorem dX12_goAction_75 : decode cX12_goAction 75 = .ok (.aload_n 0, 1) := by decide +kernel
theorem dX12_goAction_76 : decode cX12_goAction 76 = .ok (.getfield 153, 3) := by decide +kernel
theorem dX12_goAction_79 : decode cX12_goAction 79 = .ok (.bipush 60, 2) := by decide +kernel
theorem dX12_goAction_81 : decode cX12_goAction 81 = .ok (.if_icmp .ne 13, 3) := by decide +kernel
theorem dX12_goAction_84 : decode cX12_goAction 84 = .ok (.aload_n 0, 1) := by decide +kernel
theorem dX12_goAction_85 : decode cX12_goAction 85 = .ok (.iconst 4, 1) := by decide +kernel
theorem dX12_goAction_86 : decode cX12_goAction 86 = .ok (.aload_n 0, 1) := by decide +kernel
theorem dX12_goAction_87 : decode cX12_goAction 87 = .ok (.getfield 82, 3) := by decide +kernel
theorem dX12_goAction_90 : decode cX12_goAction 90 = .ok (.invokevirtual 130, 3) := by decide +kernel
theorem dX12_goAction_93 : decode cX12_goAction 93 = .ok (.ireturn, 1) := by decide +kernel
theorem dX12_goAction_94 : decode cX12_goAction 94 = .ok (.iconst 4, 1) := by decide +kernel
theorem dX12_goAction_95 : decode cX12_goAction 95 = .ok (.aload_n 0, 1) := by decide +kernel
theorem dX12_goAction_96 : decode cX12_goAction 96 = .ok (.getfield 153, 3) := by decide +kernel
theorem dX12_goAction_99 : decode cX12_goAction 99 = .ok (.imul, 1) := by decide +kernel
theorem dX12_goAction_100 : decode cX12_goAction 100 = .ok (.istore_n 3, 1) := by decide +kernel
theorem dX12_goAction_101 : decode cX12_goAction 101 = .ok (.aload_n 0, 1) := by decide +kernel
theorem dX12_goAction_102 : decode cX12_goAction 102 = .ok (.getfield 32, 3) := by decide +kernel
theorem dX12_goAction_105 : decode cX12_goAction 105 = .ok (.iload_n 3, 1) := by decide +kernel
theorem dX12_goAction_106 : decode cX12_goAction 106 = .ok (.iload_n 1, 1) := by decide +kernel
theorem dX12_goAction_107 : decode cX12_goAction 107 = .ok (.iastore, 1) := by decide +kernel
theorem dX12_goAction_108 : decode cX12_goAction 108 = .ok (.aload_n 0, 1) := by decide +kernel
theorem dX12_goAction_109 : decode cX12_goAction 109 = .ok (.getfield 32, 3) := by decide +kernel
theorem dX12_goAction_112 : decode cX12_goAction 112 = .ok (.iload_n 3, 1) := by decide +kernel
theorem dX12_goAction_113 : decode cX12_goAction 113 = .ok (.iconst 1, 1) := by decide +kernel
theorem dX12_goAction_114 : decode cX12_goAction 114 = .ok (.iadd, 1) := by decide +kernel
theorem dX12_goAction_115 : decode cX12_goAction 115 = .ok (.iload_n 2, 1) := by decide +kernel
theorem dX12_goAction_116 : decode cX12_goAction 116 = .ok (.iastore, 1) := by decide +kernel
theorem dX12_goAction_117 : decode cX12_goAction 117 = .ok (.aload_n 0, 1) := by decide +kernel
theorem dX12_goAction_118 : decode cX12_goAction 118 = .ok (.dup, 1) := by decide +kernel
theorem dX12_goAction_119 : decode cX12_goAction 119 = .ok (.getfield 82, 3) := by decide +kernel
theorem dX12_goAction_122 : decode cX12_goAction 122 = .ok (.iload_n 1, 1) := by decide +kernel
theorem dX12_goAction_123 : decode cX12_goAction 123 = .ok (.iconst 2, 1) := by decide +kernel
theorem dX12_goAction_124 : decode cX12_goAction 124 = .ok (.if_icmp .gt 7, 3) := by decide +kernel
theorem dX12_goAction_127 : decode cX12_goAction 127 = .ok (.iconst 2, 1) := by decide +kernel
theorem dX12_goAction_128 : decode cX12_goAction 128 = .ok (.goto 4, 3) := by decide +kernel
theorem dX12_goAction_131 : decode cX12_goAction 131 = .ok (.iconst 1, 1) := by decide +kernel
theorem dX12_goAction_132 : decode cX12_goAction 132 = .ok (.iadd, 1) := by decide +kernel
theorem dX12_goAction_133 : decode cX12_goAction 133 = .ok (.putfield 82, 3) := by decide +kernel
theorem dX12_goAction_136 : decode cX12_goAction 136 = .ok (.iconst 0, 1) := by decide +kernel
theorem dX12_goAction_137 : decode cX12_goAction 137 = .ok (.istore 4, 2) := by decide +kernel
theorem dX12_goAction_139 : decode cX12_goAction 139 = .ok (.iload 4, 2) := by decide +kernel
theorem dX12_goAction_141 : decode cX12_goAction 141 = .ok (.getstatic 118, 3) := by decide +kernel
theorem dX12_goAction_144 : decode cX12_goAction 144 = .ok (.iload_n 1, 1) := by decide +kernel
theorem dX12_goAction_145 : decode cX12_goAction 145 = .ok (.iaload, 1) := by decide +kernel
theorem dX12_goAction_146 : decode cX12_goAction 146 = .ok (.if_icmp .ge 79, 3) := by decide +kernel
theorem dX12_goAction_149 : decode cX12_goAction 149 = .ok (.aload_n 0, 1) := by decide +kernel
theorem dX12_goAction_150 : decode cX12_goAction 150 = .ok (.aload_n 0, 1) := by decide +kernel
theorem dX12_goAction_151 : decode cX12_goAction 151 = .ok (.getfield 82, 3) := by decide +kernel
theorem dX12_goAction_154 : decode cX12_goAction 154 = .ok (.invokevirtual 134, 3) := by decide +kernel
theorem dX12_goAction_157 : decode cX12_goAction 157 = .ok (.istore 5, 2) := by decide +kernel
theorem dX12_goAction_159 : decode cX12_goAction 159 = .ok (.iload 5, 2) := by decide +kernel
theorem dX12_goAction_161 : decode cX12_goAction 161 = .ok (.getstatic 156, 3) := by decide +kernel
theorem dX12_goAction_164 : decode cX12_goAction 164 = .ok (.iload_n 1, 1) := by decide +kernel
theorem dX12_goAction_165 : decode cX12_goAction 165 = .ok (.iaload, 1) := by decide +kernel
theorem dX12_goAction_166 : decode cX12_goAction 166 = .ok (.getstatic 159, 3) := by decide +kernel
theorem dX12_goAction_169 : decode cX12_goAction 169 = .ok (.iload_n 1, 1) := by decide +kernel
theorem dX12_goAction_170 : decode cX12_goAction 170 = .ok (.iaload, 1) := by decide +kernel
theorem dX12_goAction_171 : decode cX12_goAction 171 = .ok (.invokestatic 55, 3) := by decide +kernel
theorem dX12_goAction_174 : decode cX12_goAction 174 = .ok (.ifCond .ne 13, 3) := by decide +kernel
theorem dX12_goAction_177 : decode cX12_goAction 177 = .ok (.aload_n 0, 1) := by decide +kernel
theorem dX12_goAction_178 : decode cX12_goAction 178 = .ok (.iconst 2, 1) := by decide +kernel
theorem dX12_goAction_179 : decode cX12_goAction 179 = .ok (.aload_n 0, 1) := by decide +kernel
theorem dX12_goAction_180 : decode cX12_goAction 180 = .ok (.getfield 82, 3) := by decide +kernel
theorem dX12_goAction_183 : decode cX12_goAction 183 = .ok (.invokevirtual 130, 3) := by decide +kernel
theorem dX12_goAction_186 : decode cX12_goAction 186 = .ok (.ireturn, 1) := by decide +kernel
theorem dX12_goAction_187 : decode cX12_goAction 187 = .ok (.aload_n 0, 1) := by decide +kernel
theorem dX12_goAction_188 : decode cX12_goAction 188 = .ok (.getfield 32, 3) := by decide +kernel
theorem dX12_goAction_191 : decode cX12_goAction 191 = .ok (.iload_n 3, 1) := by decide +kernel
theorem dX12_goAction_192 : decode cX12_goAction 192 = .ok (.iload_n 1, 1) := by decide +kernel
theorem dX12_goAction_193 : decode cX12_goAction 193 = .ok (.iconst 2, 1) := by decide +kernel
theorem dX12_goAction_194 : decode cX12_goAction 194 = .ok (.if_icmp .ne 7, 3) := by decide +kernel
theorem dX12_goAction_197 : decode cX12_goAction 197 = .ok (.iconst 2, 1) := by decide +kernel
theorem dX12_goAction_198 : decode cX12_goAction 198 = .ok (.goto 7, 3) := by decide +kernel
theorem dX12_goAction_201 : decode cX12_goAction 201 = .ok (.iconst 1, 1) := by decide +kernel
theorem dX12_goAction_202 : decode cX12_goAction 202 = .ok (.iload 4, 2) := by decide +kernel
theorem dX12_goAction_204 : decode cX12_goAction 204 = .ok (.iadd, 1) := by decide +kernel
theorem dX12_goAction_205 : decode cX12_goAction 205 = .ok (.iadd, 1) := by decide +kernel
theorem dX12_goAction_206 : decode cX12_goAction 206 = .ok (.iload 5, 2) := by decide +kernel
theorem dX12_goAction_208 : decode cX12_goAction 208 = .ok (.iastore, 1) := by decide +kernel
theorem dX12_goAction_209 : decode cX12_goAction 209 = .ok (.aload_n 0, 1) := by decide +kernel
theorem dX12_goAction_210 : decode cX12_goAction 210 = .ok (.dup, 1) := by decide +kernel
theorem dX12_goAction_211 : decode cX12_goAction 211 = .ok (.getfield 82, 3) := by decide +kernel
theorem dX12_goAction_214 : decode cX12_goAction 214 = .ok (.iconst 1, 1) := by decide +kernel
theorem dX12_goAction_215 : decode cX12_goAction 215 = .ok (.iadd, 1) := by decide +kernel
theorem dX12_goAction_216 : decode cX12_goAction 216 = .ok (.putfield 82, 3) := by decide +kernel
theorem dX12_goAction_219 : decode cX12_goAction 219 = .ok (.iinc 4 1, 3) := by decide +kernel
theorem dX12_goAction_222 : decode cX12_goAction 222 = .ok (.goto (-83), 3) := by decide +kernel
theorem dX12_goAction_225 : decode cX12_goAction 225 = .ok (.aload_n 0, 1) := by decide +kernel
theorem dX12_goAction_226 : decode cX12_goAction 226 = .ok (.dup, 1) := by decide +kernel
theorem dX12_goAction_227 : decode cX12_goAction 227 = .ok (.getfield 82, 3) := by decide +kernel
theorem dX12_goAction_230 : decode cX12_goAction 230 = .ok (.iconst 1, 1) := by decide +kernel
theorem dX12_goAction_231 : decode cX12_goAction 231 = .ok (.iadd, 1) := by decide +kernel
theorem dX12_goAction_232 : decode cX12_goAction 232 = .ok (.putfield 82, 3) := by decide +kernel
theorem dX12_goAction_235 : decode cX12_goAction 235 = .ok (.aload_n 0, 1) := by decide +kernel
theorem dX12_goAction_236 : decode cX12_goAction 236 = .ok (.dup, 1) := by decide +kernel
theorem dX12_goAction_237 : decode cX12_goAction 237 = .ok (.getfield 153, 3) := by decide +kernel
theorem dX12_goAction_240 : decode cX12_goAction 240 = .ok (.iconst 1, 1) := by decide +kernel
theorem dX12_goAction_241 : decode cX12_goAction 241 = .ok (.iadd, 1) := by decide +kernel
theorem dX12_goAction_242 : decode cX12_goAction 242 = .ok (.putfield 153, 3) := by decide +kernel
theorem dX12_goAction_245 : decode cX12_goAction 245 = .ok (.iload_n 1, 1) := by decide +kernel
theorem dX12_goAction_246 : decode cX12_goAction 246 = .ok (.iconst 1, 1) := by decide +kernel
theorem dX12_goAction_247 : decode cX12_goAction 247 = .ok (.if_icmp .gt 15, 3) := by decide +kernel
theorem dX12_goAction_250 : decode cX12_goAction 250 = .ok (.aload_n 0, 1) := by decide +kernel
theorem dX12_goAction_251 : decode cX12_goAction 251 = .ok (.dup, 1) := by decide +kernel
theorem dX12_goAction_252 : decode cX12_goAction 252 = .ok (.getfield 140, 3) := by decide +kernel
theorem dX12_goAction_255 : decode cX12_goAction 255 = .ok (.iconst 1, 1) := by decide +kernel
theorem dX12_goAction_256 : decode cX12_goAction 256 = .ok (.iload_n 2, 1) := by decide +kernel
theorem dX12_goAction_257 : decode cX12_goAction 257 = .ok (.ishl, 1) := by decide +kernel
theorem dX12_goAction_258 : decode cX12_goAction 258 = .ok (.ixor, 1) := by decide +kernel
theorem dX12_goAction_259 : decode cX12_goAction 259 = .ok (.putfield 140, 3) := by decide +kernel
theorem dX12_goAction_262 : decode cX12_goAction 262 = .ok (.iload_n 1, 1) := by decide +kernel
theorem dX12_goAction_263 : decode cX12_goAction 263 = .ok (.iconst 2, 1) := by decide +kernel
theorem dX12_goAction_264 : decode cX12_goAction 264 = .ok (.if_icmp .eq 9, 3) := by decide +kernel
theorem dX12_goAction_267 : decode cX12_goAction 267 = .ok (.iload_n 1, 1) := by decide +kernel
theorem dX12_goAction_268 : decode cX12_goAction 268 = .ok (.bipush 7, 2) := by decide +kernel
theorem dX12_goAction_270 : decode cX12_goAction 270 = .ok (.if_icmp .ne 8, 3) := by decide +kernel
theorem dX12_goAction_273 : decode cX12_goAction 273 = .ok (.aload_n 0, 1) := by decide +kernel
theorem dX12_goAction_274 : decode cX12_goAction 274 = .ok (.iconst 0, 1) := by decide +kernel
theorem dX12_goAction_275 : decode cX12_goAction 275 = .ok (.putfield 147, 3) := by decide +kernel
theorem dX12_goAction_278 : decode cX12_goAction 278 = .ok (.iload_n 1, 1) := by decide +kernel
theorem dX12_goAction_279 : decode cX12_goAction 279 = .ok (.iconst 5, 1) := by decide +kernel
theorem dX12_goAction_280 : decode cX12_goAction 280 = .ok (.if_icmp .ne 8, 3) := by decide +kernel
theorem dX12_goAction_283 : decode cX12_goAction 283 = .ok (.aload_n 0, 1) := by decide +kernel
theorem dX12_goAction_284 : decode cX12_goAction 284 = .ok (.iconst 1, 1) := by decide +kernel
theorem dX12_goAction_285 : decode cX12_goAction 285 = .ok (.putfield 147, 3) := by decide +kernel
theorem dX12_goAction_288 : decode cX12_goAction 288 = .ok (.iload_n 1, 1) := by decide +kernel
theorem dX12_goAction_289 : decode cX12_goAction 289 = .ok (.iconst 2, 1) := by decide +kernel
theorem dX12_goAction_290 : decode cX12_goAction 290 = .ok (.if_icmp .eq 9, 3) := by decide +kernel
theorem dX12_goAction_293 : decode cX12_goAction 293 = .ok (.iload_n 1, 1) := by decide +kernel
theorem dX12_goAction_294 : decode cX12_goAction 294 = .ok (.bipush 7, 2) := by decide +kernel
theorem dX12_goAction_296 : decode cX12_goAction 296 = .ok (.if_icmp .ne 17, 3) := by decide +kernel
theorem dX12_goAction_299 : decode cX12_goAction 299 = .ok (.aload_n 0, 1) := by decide +kernel
theorem dX12_goAction_300 : decode cX12_goAction 300 = .ok (.iload_n 1, 1) := by decide +kernel
theorem dX12_goAction_301 : decode cX12_goAction 301 = .ok (.iconst 2, 1) := by decide +kernel
theorem dX12_goAction_302 : decode cX12_goAction 302 = .ok (.if_icmp .ne 7, 3) := by decide +kernel
theorem dX12_goAction_305 : decode cX12_goAction 305 = .ok (.iconst 1, 1) := by decide +kernel
theorem dX12_goAction_306 : decode cX12_goAction 306 = .ok (.goto 4, 3) := by decide +kernel
theorem dX12_goAction_309 : decode cX12_goAction 309 = .ok (.iconst 0, 1) := by decide +kernel
theorem dX12_goAction_310 : decode cX12_goAction 310 = .ok (.putfield 143, 3) := by decide +kernel
theorem dX12_goAction_313 : decode cX12_goAction 313 = .ok (.iconst 1, 1) := by decide +kernel
theorem dX12_goAction_314 : decode cX12_goAction 314 = .ok (.ireturn, 1) := by decide +kernel
theorem dX12_compile_0 : decode cX12_compile 0 = .ok (.aload_n 0, 1) := by decide +kernel
theorem dX12_compile_1 : decode cX12_compile 1 = .ok (.iconst 0, 1) := by decide +kernel
theorem dX12_compile_2 : decode cX12_compile 2 = .ok (.putfield 45, 3) := by decide +kernel
theorem dX12_compile_5 : decode cX12_compile 5 = .ok (.iload_n 1, 1) := by decide +kernel
theorem dX12_compile_6 : decode cX12_compile 6 = .ok (.iconst 0, 1) := by decide +kernel
theorem dX12_compile_7 : decode cX12_compile 7 = .ok (.iconst 5, 1) := by decide +kernel
theorem dX12_compile_8 : decode cX12_compile 8 = .ok (.invokestatic 55, 3) := by decide +kernel
theorem dX12_compile_11 : decode cX12_compile 11 = .ok (.ifCond .ne 9, 3) := by decide +kernel
theorem dX12_compile_14 : decode cX12_compile 14 = .ok (.aload_n 0, 1) := by decide +kernel
theorem dX12_compile_15 : decode cX12_compile 15 = .ok (.iconst 1, 1) := by decide +kernel
theorem dX12_compile_16 : decode cX12_compile 16 = .ok (.invokevirtual 51, 3) := by decide +kernel
theorem dX12_compile_19 : decode cX12_compile 19 = .ok (.ireturn, 1) := by decide +kernel
theorem dX12_compile_20 : decode cX12_compile 20 = .ok (.aload_n 0, 1) := by decide +kernel
theorem dX12_compile_21 : decode cX12_compile 21 = .ok (.iconst 0, 1) := by decide +kernel
theorem dX12_compile_22 : decode cX12_compile 22 = .ok (.putfield 121, 3) := by decide +kernel
theorem dX12_compile_25 : decode cX12_compile 25 = .ok (.aload_n 0, 1) := by decide +kernel
theorem dX12_compile_26 : decode cX12_compile 26 = .ok (.iconst (-1), 1) := by decide +kernel
theorem dX12_compile_27 : decode cX12_compile 27 = .ok (.putfield 13, 3) := by decide +kernel
theorem dX12_compile_30 : decode cX12_compile 30 = .ok (.aload_n 0, 1) := by decide +kernel
theorem dX12_compile_31 : decode cX12_compile 31 = .ok (.iconst 0, 1) := by decide +kernel
theorem dX12_compile_32 : decode cX12_compile 32 = .ok (.putfield 153, 3) := by decide +kernel
theorem dX12_compile_35 : decode cX12_compile 35 = .ok (.aload_n 0, 1) := by decide +kernel
theorem dX12_compile_36 : decode cX12_compile 36 = .ok (.iconst 0, 1) := by decide +kernel
theorem dX12_compile_37 : decode cX12_compile 37 = .ok (.putfield 143, 3) := by decide +kernel
theorem dX12_compile_40 : decode cX12_compile 40 = .ok (.aload_n 0, 1) := by decide +kernel
theorem dX12_compile_41 : decode cX12_compile 41 = .ok (.iconst 0, 1) := by decide +kernel
theorem dX12_compile_42 : decode cX12_compile 42 = .ok (.putfield 147, 3) := by decide +kernel
theorem dX12_compile_45 : decode cX12_compile 45 = .ok (.aload_n 0, 1) := by decide +kernel
theorem dX12_compile_46 : decode cX12_compile 46 = .ok (.iconst 0, 1) := by decide +kernel
theorem dX12_compile_47 : decode cX12_compile 47 = .ok (.putfield 140, 3) := by decide +kernel
theorem dX12_compile_50 : decode cX12_compile 50 = .ok (.aload_n 0, 1) := by decide +kernel
theorem dX12_compile_51 : decode cX12_compile 51 = .ok (.invokevirtual 162, 3) := by decide +kernel
theorem dX12_compile_54 : decode cX12_compile 54 = .ok (.aload_n 0, 1) := by decide +kernel
theorem dX12_compile_55 : decode cX12_compile 55 = .ok (.invokevirtual 165, 3) := by decide +kernel
theorem dX12_compile_58 : decode cX12_compile 58 = .ok (.ifCond .ne 16, 3) := by decide +kernel
theorem dX12_compile_61 : decode cX12_compile 61 = .ok (.aload_n 0, 1) := by decide +kernel
theorem dX12_compile_62 : decode cX12_compile 62 = .ok (.iconst 1, 1) := by decide +kernel
theorem dX12_compile_63 : decode cX12_compile 63 = .ok (.aload_n 0, 1) := by decide +kernel
theorem dX12_compile_64 : decode cX12_compile 64 = .ok (.getfield 82, 3) := by decide +kernel
theorem dX12_compile_67 : decode cX12_compile 67 = .ok (.invokevirtual 130, 3) := by decide +kernel
theorem dX12_compile_70 : decode cX12_compile 70 = .ok (.pop, 1) := by decide +kernel
theorem dX12_compile_71 : decode cX12_compile 71 = .ok (.goto 36, 3) := by decide +kernel
theorem dX12_compile_74 : decode cX12_compile 74 = .ok (.aload_n 0, 1) := by decide +kernel
theorem dX12_compile_75 : decode cX12_compile 75 = .ok (.iconst 0, 1) := by decide +kernel
theorem dX12_compile_76 : decode cX12_compile 76 = .ok (.iconst 0, 1) := by decide +kernel
theorem dX12_compile_77 : decode cX12_compile 77 = .ok (.invokevirtual 137, 3) := by decide +kernel
theorem dX12_compile_80 : decode cX12_compile 80 = .ok (.ifCond .eq 27, 3) := by decide +kernel
theorem dX12_compile_83 : decode cX12_compile 83 = .ok (.aload_n 0, 1) := by decide +kernel
theorem dX12_compile_84 : decode cX12_compile 84 = .ok (.getfield 143, 3) := by decide +kernel
theorem dX12_compile_87 : decode cX12_compile 87 = .ok (.ifCond .ne 10, 3) := by decide +kernel
theorem dX12_compile_90 : decode cX12_compile 90 = .ok (.aload_n 0, 1) := by decide +kernel
theorem dX12_compile_91 : decode cX12_compile 91 = .ok (.getfield 140, 3) := by decide +kernel
theorem dX12_compile_94 : decode cX12_compile 94 = .ok (.ifCond .eq 13, 3) := by decide +kernel
theorem dX12_compile_97 : decode cX12_compile 97 = .ok (.aload_n 0, 1) := by decide +kernel
theorem dX12_compile_98 : decode cX12_compile 98 = .ok (.iconst 3, 1) := by decide +kernel
theorem dX12_compile_99 : decode cX12_compile 99 = .ok (.aload_n 0, 1) := by decide +kernel
theorem dX12_compile_100 : decode cX12_compile 100 = .ok (.getfield 82, 3) := by decide +kernel
theorem dX12_compile_103 : decode cX12_compile 103 = .ok (.invokevirtual 130, 3) := by decide +kernel
theorem dX12_compile_106 : decode cX12_compile 106 = .ok (.pop, 1) := by decide +kernel
theorem dX12_compile_107 : decode cX12_compile 107 = .ok (.aload_n 0, 1) := by decide +kernel
theorem dX12_compile_108 : decode cX12_compile 108 = .ok (.iconst 0, 1) := by decide +kernel
theorem dX12_compile_109 : decode cX12_compile 109 = .ok (.putfield 48, 3) := by decide +kernel
theorem dX12_compile_112 : decode cX12_compile 112 = .ok (.aload_n 0, 1) := by decide +kernel
theorem dX12_compile_113 : decode cX12_compile 113 = .ok (.getfield 121, 3) := by decide +kernel
theorem dX12_compile_116 : decode cX12_compile 116 = .ok (.ifCond .eq 8, 3) := by decide +kernel
theorem dX12_compile_119 : decode cX12_compile 119 = .ok (.aload_n 0, 1) := by decide +kernel
theorem dX12_compile_120 : decode cX12_compile 120 = .ok (.getfield 121, 3) := by decide +kernel
theorem dX12_compile_123 : decode cX12_compile 123 = .ok (.ireturn, 1) := by decide +kernel
theorem dX12_compile_124 : decode cX12_compile 124 = .ok (.aload_n 0, 1) := by decide +kernel
theorem dX12_compile_125 : decode cX12_compile 125 = .ok (.getfield 26, 3) := by decide +kernel
theorem dX12_compile_128 : decode cX12_compile 128 = .ok (.iload_n 1, 1) := by decide +kernel
theorem dX12_compile_129 : decode cX12_compile 129 = .ok (.aload_n 0, 1) := by decide +kernel
theorem dX12_compile_130 : decode cX12_compile 130 = .ok (.getfield 153, 3) := by decide +kernel
theorem dX12_compile_133 : decode cX12_compile 133 = .ok (.iastore, 1) := by decide +kernel
theorem dX12_compile_134 : decode cX12_compile 134 = .ok (.aload_n 0, 1) := by decide +kernel
theorem dX12_compile_135 : decode cX12_compile 135 = .ok (.getfield 32, 3) := by decide +kernel
theorem dX12_compile_138 : decode cX12_compile 138 = .ok (.iconst 0, 1) := by decide +kernel
theorem dX12_compile_139 : decode cX12_compile 139 = .ok (.aload_n 0, 1) := by decide +kernel
theorem dX12_compile_140 : decode cX12_compile 140 = .ok (.getfield 29, 3) := by decide +kernel
theorem dX12_compile_143 : decode cX12_compile 143 = .ok (.sipush 240, 3) := by decide +kernel
theorem dX12_compile_146 : decode cX12_compile 146 = .ok (.iload_n 1, 1) := by decide +kernel
theorem dX12_compile_147 : decode cX12_compile 147 = .ok (.imul, 1) := by decide +kernel
theorem dX12_compile_148 : decode cX12_compile 148 = .ok (.iconst 4, 1) := by decide +kernel
theorem dX12_compile_149 : decode cX12_compile 149 = .ok (.aload_n 0, 1) := by decide +kernel
theorem dX12_compile_150 : decode cX12_compile 150 = .ok (.getfield 153, 3) := by decide +kernel
theorem dX12_compile_153 : decode cX12_compile 153 = .ok (.imul, 1) := by decide +kernel
theorem dX12_compile_154 : decode cX12_compile 154 = .ok (.invokestatic 168, 3) := by decide +kernel
theorem dX12_compile_157 : decode cX12_compile 157 = .ok (.iconst 0, 1) := by decide +kernel
theorem dX12_compile_158 : decode cX12_compile 158 = .ok (.ireturn, 1) := by decide +kernel
theorem dX12_errorAt_0 : decode cX12_errorAt 0 = .ok (.aload_n 0, 1) := by decide +kernel
theorem dX12_errorAt_1 : decode cX12_errorAt 1 = .ok (.iconst 0, 1) := by decide +kernel
theorem dX12_errorAt_2 : decode cX12_errorAt 2 = .ok (.putfield 45, 3) := by decide +kernel
theorem dX12_errorAt_5 : decode cX12_errorAt 5 = .ok (.aload_n 0, 1) := by decide +kernel
theorem dX12_errorAt_6 : decode cX12_errorAt 6 = .ok (.getfield 13, 3) := by decide +kernel
theorem dX12_errorAt_9 : decode cX12_errorAt 9 = .ok (.ireturn, 1) := by decide +kernel
theorem dX12_planTold_0 : decode cX12_planTold 0 = .ok (.iload_n 2, 1) := by decide +kernel
theorem dX12_planTold_1 : decode cX12_planTold 1 = .ok (.ifCond .ne 10, 3) := by decide +kernel
theorem dX12_planTold_4 : decode cX12_planTold 4 = .ok (.aload_n 0, 1) := by decide +kernel
theorem dX12_planTold_5 : decode cX12_planTold 5 = .ok (.getfield 26, 3) := by decide +kernel
theorem dX12_planTold_8 : decode cX12_planTold 8 = .ok (.iload_n 1, 1) := by decide +kernel
theorem dX12_planTold_9 : decode cX12_planTold 9 = .ok (.iaload, 1) := by decide +kernel
theorem dX12_planTold_10 : decode cX12_planTold 10 = .ok (.ireturn, 1) := by decide +kernel
theorem dX12_planTold_11 : decode cX12_planTold 11 = .ok (.iconst 0, 1) := by decide +kernel
theorem dX12_planTold_12 : decode cX12_planTold 12 = .ok (.istore_n 3, 1) := by decide +kernel
theorem dX12_planTold_13 : decode cX12_planTold 13 = .ok (.iconst 0, 1) := by decide +kernel
theorem dX12_planTold_14 : decode cX12_planTold 14 = .ok (.istore 4, 2) := by decide +kernel
theorem dX12_planTold_16 : decode cX12_planTold 16 = .ok (.iload 4, 2) := by decide +kernel
theorem dX12_planTold_18 : decode cX12_planTold 18 = .ok (.aload_n 0, 1) := by decide +kernel
theorem dX12_planTold_19 : decode cX12_planTold 19 = .ok (.getfield 26, 3) := by decide +kernel
theorem dX12_planTold_22 : decode cX12_planTold 22 = .ok (.iload_n 1, 1) := by decide +kernel
theorem dX12_planTold_23 : decode cX12_planTold 23 = .ok (.iaload, 1) := by decide +kernel
theorem dX12_planTold_24 : decode cX12_planTold 24 = .ok (.if_icmp .ge 126, 3) := by decide +kernel
theorem dX12_planTold_27 : decode cX12_planTold 27 = .ok (.iconst 4, 1) := by decide +kernel
theorem dX12_planTold_28 : decode cX12_planTold 28 = .ok (.bipush 60, 2) := by decide +kernel
theorem dX12_planTold_30 : decode cX12_planTold 30 = .ok (.iload_n 1, 1) := by decide +kernel
theorem dX12_planTold_31 : decode cX12_planTold 31 = .ok (.imul, 1) := by decide +kernel
theorem dX12_planTold_32 : decode cX12_planTold 32 = .ok (.iload 4, 2) := by decide +kernel
theorem dX12_planTold_34 : decode cX12_planTold 34 = .ok (.iadd, 1) := by decide +kernel
theorem dX12_planTold_35 : decode cX12_planTold 35 = .ok (.imul, 1) := by decide +kernel
theorem dX12_planTold_36 : decode cX12_planTold 36 = .ok (.istore 5, 2) := by decide +kernel
theorem dX12_planTold_38 : decode cX12_planTold 38 = .ok (.aload_n 0, 1) := by decide +kernel
theorem dX12_planTold_39 : decode cX12_planTold 39 = .ok (.getfield 29, 3) := by decide +kernel
theorem dX12_planTold_42 : decode cX12_planTold 42 = .ok (.iload 5, 2) := by decide +kernel
theorem dX12_planTold_44 : decode cX12_planTold 44 = .ok (.iaload, 1) := by decide +kernel
theorem dX12_planTold_45 : decode cX12_planTold 45 = .ok (.istore 6, 2) := by decide +kernel
theorem dX12_planTold_47 : decode cX12_planTold 47 = .ok (.iload 6, 2) := by decide +kernel
theorem dX12_planTold_49 : decode cX12_planTold 49 = .ok (.iconst 2, 1) := by decide +kernel
theorem dX12_planTold_50 : decode cX12_planTold 50 = .ok (.if_icmp .ne 7, 3) := by decide +kernel
theorem dX12_planTold_53 : decode cX12_planTold 53 = .ok (.iconst 1, 1) := by decide +kernel
theorem dX12_planTold_54 : decode cX12_planTold 54 = .ok (.goto 4, 3) := by decide +kernel
theorem dX12_planTold_57 : decode cX12_planTold 57 = .ok (.iconst 0, 1) := by decide +kernel
theorem dX12_planTold_58 : decode cX12_planTold 58 = .ok (.istore 7, 2) := by decide +kernel
theorem dX12_planTold_60 : decode cX12_planTold 60 = .ok (.iload_n 2, 1) := by decide +kernel
theorem dX12_planTold_61 : decode cX12_planTold 61 = .ok (.iconst 1, 1) := by decide +kernel
theorem dX12_planTold_62 : decode cX12_planTold 62 = .ok (.if_icmp .ne 16, 3) := by decide +kernel
theorem dX12_planTold_65 : decode cX12_planTold 65 = .ok (.iload_n 3, 1) := by decide +kernel
theorem dX12_planTold_66 : decode cX12_planTold 66 = .ok (.iload 7, 2) := by decide +kernel
theorem dX12_planTold_68 : decode cX12_planTold 68 = .ok (.ifCond .eq 7, 3) := by decide +kernel
theorem dX12_planTold_71 : decode cX12_planTold 71 = .ok (.iconst 1, 1) := by decide +kernel
theorem dX12_planTold_72 : decode cX12_planTold 72 = .ok (.goto 4, 3) := by decide +kernel
theorem dX12_planTold_75 : decode cX12_planTold 75 = .ok (.iconst 0, 1) := by decide +kernel
theorem dX12_planTold_76 : decode cX12_planTold 76 = .ok (.iadd, 1) := by decide +kernel
theorem dX12_planTold_77 : decode cX12_planTold 77 = .ok (.istore_n 3, 1) := by decide +kernel
theorem dX12_planTold_78 : decode cX12_planTold 78 = .ok (.iload_n 2, 1) := by decide +kernel
theorem dX12_planTold_79 : decode cX12_planTold 79 = .ok (.iconst 2, 1) := by decide +kernel
theorem dX12_planTold_80 : decode cX12_planTold 80 = .ok (.if_icmp .ne 24, 3) := by decide +kernel
theorem dX12_planTold_83 : decode cX12_planTold 83 = .ok (.iload_n 3, 1) := by decide +kernel
theorem dX12_planTold_84 : decode cX12_planTold 84 = .ok (.iload 7, 2) := by decide +kernel
theorem dX12_planTold_86 : decode cX12_planTold 86 = .ok (.ifCond .eq 15, 3) := by decide +kernel
theorem dX12_planTold_89 : decode cX12_planTold 89 = .ok (.aload_n 0, 1) := by decide +kernel
theorem dX12_planTold_90 : decode cX12_planTold 90 = .ok (.getfield 29, 3) := by decide +kernel
theorem dX12_planTold_93 : decode cX12_planTold 93 = .ok (.iload 5, 2) := by decide +kernel
theorem dX12_planTold_95 : decode cX12_planTold 95 = .ok (.iconst 2, 1) := by decide +kernel
theorem dX12_planTold_96 : decode cX12_planTold 96 = .ok (.iadd, 1) := by decide +kernel
theorem dX12_planTold_97 : decode cX12_planTold 97 = .ok (.iaload, 1) := by decide +kernel
theorem dX12_planTold_98 : decode cX12_planTold 98 = .ok (.goto 4, 3) := by decide +kernel
theorem dX12_planTold_101 : decode cX12_planTold 101 = .ok (.iconst 0, 1) := by decide +kernel
theorem dX12_planTold_102 : decode cX12_planTold 102 = .ok (.iadd, 1) := by decide +kernel
theorem dX12_planTold_103 : decode cX12_planTold 103 = .ok (.istore_n 3, 1) := by decide +kernel
theorem dX12_planTold_104 : decode cX12_planTold 104 = .ok (.iload_n 2, 1) := by decide +kernel
theorem dX12_planTold_105 : decode cX12_planTold 105 = .ok (.iconst 3, 1) := by decide +kernel
theorem dX12_planTold_106 : decode cX12_planTold 106 = .ok (.if_icmp .ne 38, 3) := by decide +kernel
theorem dX12_planTold_109 : decode cX12_planTold 109 = .ok (.iload_n 3, 1) := by decide +kernel
theorem dX12_planTold_110 : decode cX12_planTold 110 = .ok (.iload 6, 2) := by decide +kernel
theorem dX12_planTold_112 : decode cX12_planTold 112 = .ok (.iconst 3, 1) := by decide +kernel
theorem dX12_planTold_113 : decode cX12_planTold 113 = .ok (.if_icmp .eq 16, 3) := by decide +kernel
theorem dX12_planTold_116 : decode cX12_planTold 116 = .ok (.iload 6, 2) := by decide +kernel
theorem dX12_planTold_118 : decode cX12_planTold 118 = .ok (.iconst 4, 1) := by decide +kernel
theorem dX12_planTold_119 : decode cX12_planTold 119 = .ok (.if_icmp .eq 10, 3) := by decide +kernel
theorem dX12_planTold_122 : decode cX12_planTold 122 = .ok (.iload 6, 2) := by decide +kernel
theorem dX12_planTold_124 : decode cX12_planTold 124 = .ok (.bipush 6, 2) := by decide +kernel
theorem dX12_planTold_126 : decode cX12_planTold 126 = .ok (.if_icmp .ne 15, 3) := by decide +kernel
theorem dX12_planTold_129 : decode cX12_planTold 129 = .ok (.aload_n 0, 1) := by decide +kernel
theorem dX12_planTold_130 : decode cX12_planTold 130 = .ok (.getfield 29, 3) := by decide +kernel
theorem dX12_planTold_133 : decode cX12_planTold 133 = .ok (.iload 5, 2) := by decide +kernel
theorem dX12_planTold_135 : decode cX12_planTold 135 = .ok (.iconst 1, 1) := by decide +kernel
theorem dX12_planTold_136 : decode cX12_planTold 136 = .ok (.iadd, 1) := by decide +kernel
theorem dX12_planTold_137 : decode cX12_planTold 137 = .ok (.iaload, 1) := by decide +kernel
theorem dX12_planTold_138 : decode cX12_planTold 138 = .ok (.goto 4, 3) := by decide +kernel
theorem dX12_planTold_141 : decode cX12_planTold 141 = .ok (.iconst 1, 1) := by decide +kernel
theorem dX12_planTold_142 : decode cX12_planTold 142 = .ok (.iadd, 1) := by decide +kernel
theorem dX12_planTold_143 : decode cX12_planTold 143 = .ok (.istore_n 3, 1) := by decide +kernel
theorem dX12_planTold_144 : decode cX12_planTold 144 = .ok (.iinc 4 1, 3) := by decide +kernel
theorem dX12_planTold_147 : decode cX12_planTold 147 = .ok (.goto (-131), 3) := by decide +kernel
theorem dX12_planTold_150 : decode cX12_planTold 150 = .ok (.iload_n 3, 1) := by decide +kernel
theorem dX12_planTold_151 : decode cX12_planTold 151 = .ok (.ireturn, 1) := by decide +kernel
theorem dX12_plan_0 : decode cX12_plan 0 = .ok (.aload_n 0, 1) := by decide +kernel
theorem dX12_plan_1 : decode cX12_plan 1 = .ok (.iconst 0, 1) := by decide +kernel
theorem dX12_plan_2 : decode cX12_plan 2 = .ok (.putfield 45, 3) := by decide +kernel
theorem dX12_plan_5 : decode cX12_plan 5 = .ok (.iload_n 1, 1) := by decide +kernel
theorem dX12_plan_6 : decode cX12_plan 6 = .ok (.iconst 0, 1) := by decide +kernel
theorem dX12_plan_7 : decode cX12_plan 7 = .ok (.iconst 5, 1) := by decide +kernel
theorem dX12_plan_8 : decode cX12_plan 8 = .ok (.invokestatic 55, 3) := by decide +kernel
theorem dX12_plan_11 : decode cX12_plan 11 = .ok (.ifCond .eq 21, 3) := by decide +kernel
theorem dX12_plan_14 : decode cX12_plan 14 = .ok (.iload_n 2, 1) := by decide +kernel
theorem dX12_plan_15 : decode cX12_plan 15 = .ok (.iconst 0, 1) := by decide +kernel
theorem dX12_plan_16 : decode cX12_plan 16 = .ok (.iconst 3, 1) := by decide +kernel
theorem dX12_plan_17 : decode cX12_plan 17 = .ok (.invokestatic 55, 3) := by decide +kernel
theorem dX12_plan_20 : decode cX12_plan 20 = .ok (.ifCond .eq 12, 3) := by decide +kernel
theorem dX12_plan_23 : decode cX12_plan 23 = .ok (.aload_n 0, 1) := by decide +kernel
theorem dX12_plan_24 : decode cX12_plan 24 = .ok (.iload_n 1, 1) := by decide +kernel
theorem dX12_plan_25 : decode cX12_plan 25 = .ok (.iload_n 2, 1) := by decide +kernel
theorem dX12_plan_26 : decode cX12_plan 26 = .ok (.invokevirtual 174, 3) := by decide +kernel
theorem dX12_plan_29 : decode cX12_plan 29 = .ok (.goto 8, 3) := by decide +kernel
theorem dX12_plan_32 : decode cX12_plan 32 = .ok (.aload_n 0, 1) := by decide +kernel
theorem dX12_plan_33 : decode cX12_plan 33 = .ok (.iconst 1, 1) := by decide +kernel
theorem dX12_plan_34 : decode cX12_plan 34 = .ok (.invokevirtual 51, 3) := by decide +kernel
theorem dX12_plan_37 : decode cX12_plan 37 = .ok (.ireturn, 1) := by decide +kernel
theorem dX12_addPlank_0 : decode cX12_addPlank 0 = .ok (.aload_n 0, 1) := by decide +kernel
theorem dX12_addPlank_1 : decode cX12_addPlank 1 = .ok (.iconst 0, 1) := by decide +kernel
theorem dX12_addPlank_2 : decode cX12_addPlank 2 = .ok (.putfield 45, 3) := by decide +kernel
theorem dX12_addPlank_5 : decode cX12_addPlank 5 = .ok (.iload_n 1, 1) := by decide +kernel
theorem dX12_addPlank_6 : decode cX12_addPlank 6 = .ok (.iconst 0, 1) := by decide +kernel
theorem dX12_addPlank_7 : decode cX12_addPlank 7 = .ok (.iconst 3, 1) := by decide +kernel
theorem dX12_addPlank_8 : decode cX12_addPlank 8 = .ok (.invokestatic 55, 3) := by decide +kernel
theorem dX12_addPlank_11 : decode cX12_addPlank 11 = .ok (.ifCond .eq 25, 3) := by decide +kernel
theorem dX12_addPlank_14 : decode cX12_addPlank 14 = .ok (.iload_n 2, 1) := by decide +kernel
theorem dX12_addPlank_15 : decode cX12_addPlank 15 = .ok (.bipush 10, 2) := by decide +kernel
theorem dX12_addPlank_17 : decode cX12_addPlank 17 = .ok (.sipush 300, 3) := by decide +kernel
theorem dX12_addPlank_20 : decode cX12_addPlank 20 = .ok (.invokestatic 55, 3) := by decide +kernel
theorem dX12_addPlank_23 : decode cX12_addPlank 23 = .ok (.ifCond .eq 13, 3) := by decide +kernel
theorem dX12_addPlank_26 : decode cX12_addPlank 26 = .ok (.iload_n 3, 1) := by decide +kernel
theorem dX12_addPlank_27 : decode cX12_addPlank 27 = .ok (.iconst 0, 1) := by decide +kernel
theorem dX12_addPlank_28 : decode cX12_addPlank 28 = .ok (.bipush 100, 2) := by decide +kernel
theorem dX12_addPlank_30 : decode cX12_addPlank 30 = .ok (.invokestatic 55, 3) := by decide +kernel
theorem dX12_addPlank_33 : decode cX12_addPlank 33 = .ok (.ifCond .ne 9, 3) := by decide +kernel
theorem dX12_addPlank_36 : decode cX12_addPlank 36 = .ok (.aload_n 0, 1) := by decide +kernel
theorem dX12_addPlank_37 : decode cX12_addPlank 37 = .ok (.iconst 1, 1) := by decide +kernel
theorem dX12_addPlank_38 : decode cX12_addPlank 38 = .ok (.invokevirtual 51, 3) := by decide +kernel
theorem dX12_addPlank_41 : decode cX12_addPlank 41 = .ok (.ireturn, 1) := by decide +kernel
theorem dX12_addPlank_42 : decode cX12_addPlank 42 = .ok (.aload_n 0, 1) := by decide +kernel
theorem dX12_addPlank_43 : decode cX12_addPlank 43 = .ok (.getfield 38, 3) := by decide +kernel
theorem dX12_addPlank_46 : decode cX12_addPlank 46 = .ok (.getfield 178, 3) := by decide +kernel
theorem dX12_addPlank_49 : decode cX12_addPlank 49 = .ok (.bipush 60, 2) := by decide +kernel
theorem dX12_addPlank_51 : decode cX12_addPlank 51 = .ok (.if_icmp .ne 9, 3) := by decide +kernel
theorem dX12_addPlank_54 : decode cX12_addPlank 54 = .ok (.aload_n 0, 1) := by decide +kernel
theorem dX12_addPlank_55 : decode cX12_addPlank 55 = .ok (.iconst 2, 1) := by decide +kernel
theorem dX12_addPlank_56 : decode cX12_addPlank 56 = .ok (.invokevirtual 51, 3) := by decide +kernel
theorem dX12_addPlank_59 : decode cX12_addPlank 59 = .ok (.ireturn, 1) := by decide +kernel
theorem dX12_addPlank_60 : decode cX12_addPlank 60 = .ok (.aload_n 0, 1) := by decide +kernel
theorem dX12_addPlank_61 : decode cX12_addPlank 61 = .ok (.getfield 38, 3) := by decide +kernel
theorem dX12_addPlank_64 : decode cX12_addPlank 64 = .ok (.iload_n 1, 1) := by decide +kernel
theorem dX12_addPlank_65 : decode cX12_addPlank 65 = .ok (.iload_n 2, 1) := by decide +kernel
theorem dX12_addPlank_66 : decode cX12_addPlank 66 = .ok (.iload_n 3, 1) := by decide +kernel
theorem dX12_addPlank_67 : decode cX12_addPlank 67 = .ok (.invokevirtual 181, 3) := by decide +kernel
theorem dX12_addPlank_70 : decode cX12_addPlank 70 = .ok (.ireturn, 1) := by decide +kernel
theorem dX12_isPlank_0 : decode cX12_isPlank 0 = .ok (.iload_n 1, 1) := by decide +kernel
theorem dX12_isPlank_1 : decode cX12_isPlank 1 = .ok (.iconst 0, 1) := by decide +kernel
theorem dX12_isPlank_2 : decode cX12_isPlank 2 = .ok (.aload_n 0, 1) := by decide +kernel
theorem dX12_isPlank_3 : decode cX12_isPlank 3 = .ok (.getfield 38, 3) := by decide +kernel
theorem dX12_isPlank_6 : decode cX12_isPlank 6 = .ok (.getfield 178, 3) := by decide +kernel
theorem dX12_isPlank_9 : decode cX12_isPlank 9 = .ok (.iconst 1, 1) := by decide +kernel
theorem dX12_isPlank_10 : decode cX12_isPlank 10 = .ok (.isub, 1) := by decide +kernel
theorem dX12_isPlank_11 : decode cX12_isPlank 11 = .ok (.invokestatic 55, 3) := by decide +kernel
theorem dX12_isPlank_14 : decode cX12_isPlank 14 = .ok (.ireturn, 1) := by decide +kernel
theorem dX12_addKnot_0 : decode cX12_addKnot 0 = .ok (.aload_n 0, 1) := by decide +kernel
theorem dX12_addKnot_1 : decode cX12_addKnot 1 = .ok (.iconst 0, 1) := by decide +kernel
theorem dX12_addKnot_2 : decode cX12_addKnot 2 = .ok (.putfield 45, 3) := by decide +kernel
theorem dX12_addKnot_5 : decode cX12_addKnot 5 = .ok (.aload_n 0, 1) := by decide +kernel
theorem dX12_addKnot_6 : decode cX12_addKnot 6 = .ok (.iload_n 1, 1) := by decide +kernel
theorem dX12_addKnot_7 : decode cX12_addKnot 7 = .ok (.invokevirtual 185, 3) := by decide +kernel
theorem dX12_addKnot_10 : decode cX12_addKnot 10 = .ok (.ifCond .ne 9, 3) := by decide +kernel
theorem dX12_addKnot_13 : decode cX12_addKnot 13 = .ok (.aload_n 0, 1) := by decide +kernel
theorem dX12_addKnot_14 : decode cX12_addKnot 14 = .ok (.iconst 1, 1) := by decide +kernel
theorem dX12_addKnot_15 : decode cX12_addKnot 15 = .ok (.invokevirtual 51, 3) := by decide +kernel
theorem dX12_addKnot_18 : decode cX12_addKnot 18 = .ok (.ireturn, 1) := by decide +kernel
theorem dX12_addKnot_19 : decode cX12_addKnot 19 = .ok (.iload_n 2, 1) := by decide +kernel
theorem dX12_addKnot_20 : decode cX12_addKnot 20 = .ok (.iconst 0, 1) := by decide +kernel
theorem dX12_addKnot_21 : decode cX12_addKnot 21 = .ok (.aload_n 0, 1) := by decide +kernel
theorem dX12_addKnot_22 : decode cX12_addKnot 22 = .ok (.getfield 38, 3) := by decide +kernel
theorem dX12_addKnot_25 : decode cX12_addKnot 25 = .ok (.getfield 188, 3) := by decide +kernel
theorem dX12_addKnot_28 : decode cX12_addKnot 28 = .ok (.iload_n 1, 1) := by decide +kernel
theorem dX12_addKnot_29 : decode cX12_addKnot 29 = .ok (.iaload, 1) := by decide +kernel
theorem dX12_addKnot_30 : decode cX12_addKnot 30 = .ok (.iconst 1, 1) := by decide +kernel
theorem dX12_addKnot_31 : decode cX12_addKnot 31 = .ok (.isub, 1) := by decide +kernel
theorem dX12_addKnot_32 : decode cX12_addKnot 32 = .ok (.invokestatic 55, 3) := by decide +kernel
theorem dX12_addKnot_35 : decode cX12_addKnot 35 = .ok (.ifCond .ne 9, 3) := by decide +kernel
theorem dX12_addKnot_38 : decode cX12_addKnot 38 = .ok (.aload_n 0, 1) := by decide +kernel
theorem dX12_addKnot_39 : decode cX12_addKnot 39 = .ok (.iconst 2, 1) := by decide +kernel
theorem dX12_addKnot_40 : decode cX12_addKnot 40 = .ok (.invokevirtual 51, 3) := by decide +kernel
theorem dX12_addKnot_43 : decode cX12_addKnot 43 = .ok (.ireturn, 1) := by decide +kernel
theorem dX12_addKnot_44 : decode cX12_addKnot 44 = .ok (.aload_n 0, 1) := by decide +kernel
theorem dX12_addKnot_45 : decode cX12_addKnot 45 = .ok (.getfield 38, 3) := by decide +kernel
theorem dX12_addKnot_48 : decode cX12_addKnot 48 = .ok (.iload_n 1, 1) := by decide +kernel
theorem dX12_addKnot_49 : decode cX12_addKnot 49 = .ok (.iload_n 2, 1) := by decide +kernel
theorem dX12_addKnot_50 : decode cX12_addKnot 50 = .ok (.invokevirtual 191, 3) := by decide +kernel
theorem dX12_addKnot_53 : decode cX12_addKnot 53 = .ok (.ifCond .ne 17, 3) := by decide +kernel
theorem dX12_addKnot_56 : decode cX12_addKnot 56 = .ok (.aload_n 0, 1) := by decide +kernel
theorem dX12_addKnot_57 : decode cX12_addKnot 57 = .ok (.getfield 38, 3) := by decide +kernel
theorem dX12_addKnot_60 : decode cX12_addKnot 60 = .ok (.getfield 194, 3) := by decide +kernel
theorem dX12_addKnot_63 : decode cX12_addKnot 63 = .ok (.iload_n 1, 1) := by decide +kernel
theorem dX12_addKnot_64 : decode cX12_addKnot 64 = .ok (.iaload, 1) := by decide +kernel
theorem dX12_addKnot_65 : decode cX12_addKnot 65 = .ok (.bipush 8, 2) := by decide +kernel
theorem dX12_addKnot_67 : decode cX12_addKnot 67 = .ok (.if_icmp .ne 9, 3) := by decide +kernel
theorem dX12_addKnot_70 : decode cX12_addKnot 70 = .ok (.aload_n 0, 1) := by decide +kernel
theorem dX12_addKnot_71 : decode cX12_addKnot 71 = .ok (.iconst 3, 1) := by decide +kernel
theorem dX12_addKnot_72 : decode cX12_addKnot 72 = .ok (.invokevirtual 51, 3) := by decide +kernel
theorem dX12_addKnot_75 : decode cX12_addKnot 75 = .ok (.ireturn, 1) := by decide +kernel
theorem dX12_addKnot_76 : decode cX12_addKnot 76 = .ok (.aload_n 0, 1) := by decide +kernel
theorem dX12_addKnot_77 : decode cX12_addKnot 77 = .ok (.getfield 38, 3) := by decide +kernel
theorem dX12_addKnot_80 : decode cX12_addKnot 80 = .ok (.iload_n 1, 1) := by decide +kernel
theorem dX12_addKnot_81 : decode cX12_addKnot 81 = .ok (.iload_n 2, 1) := by decide +kernel
theorem dX12_addKnot_82 : decode cX12_addKnot 82 = .ok (.invokevirtual 197, 3) := by decide +kernel
theorem dX12_addKnot_85 : decode cX12_addKnot 85 = .ok (.aload_n 0, 1) := by decide +kernel
theorem dX12_addKnot_86 : decode cX12_addKnot 86 = .ok (.getfield 38, 3) := by decide +kernel
theorem dX12_addKnot_89 : decode cX12_addKnot 89 = .ok (.getfield 194, 3) := by decide +kernel
theorem dX12_addKnot_92 : decode cX12_addKnot 92 = .ok (.iload_n 1, 1) := by decide +kernel
theorem dX12_addKnot_93 : decode cX12_addKnot 93 = .ok (.iaload, 1) := by decide +kernel
theorem dX12_addKnot_94 : decode cX12_addKnot 94 = .ok (.ireturn, 1) := by decide +kernel
theorem dX12_plankTold_0 : decode cX12_plankTold 0 = .ok (.iload_n 2, 1) := by decide +kernel
theorem dX12_plankTold_1 : decode cX12_plankTold 1 = .ok (.ifCond .ne 15, 3) := by decide +kernel
theorem dX12_plankTold_4 : decode cX12_plankTold 4 = .ok (.aload_n 0, 1) := by decide +kernel
theorem dX12_plankTold_5 : decode cX12_plankTold 5 = .ok (.getfield 38, 3) := by decide +kernel
theorem dX12_plankTold_8 : decode cX12_plankTold 8 = .ok (.getfield 201, 3) := by decide +kernel
theorem dX12_plankTold_11 : decode cX12_plankTold 11 = .ok (.iload_n 1, 1) := by decide +kernel
theorem dX12_plankTold_12 : decode cX12_plankTold 12 = .ok (.iaload, 1) := by decide +kernel
theorem dX12_plankTold_13 : decode cX12_plankTold 13 = .ok (.goto 62, 3) := by decide +kernel
theorem dX12_plankTold_16 : decode cX12_plankTold 16 = .ok (.iload_n 2, 1) := by decide +kernel
theorem dX12_plankTold_17 : decode cX12_plankTold 17 = .ok (.iconst 1, 1) := by decide +kernel
theorem dX12_plankTold_18 : decode cX12_plankTold 18 = .ok (.if_icmp .ne 15, 3) := by decide +kernel
theorem dX12_plankTold_21 : decode cX12_plankTold 21 = .ok (.aload_n 0, 1) := by decide +kernel
theorem dX12_plankTold_22 : decode cX12_plankTold 22 = .ok (.getfield 38, 3) := by decide +kernel
theorem dX12_plankTold_25 : decode cX12_plankTold 25 = .ok (.getfield 188, 3) := by decide +kernel
theorem dX12_plankTold_28 : decode cX12_plankTold 28 = .ok (.iload_n 1, 1) := by decide +kernel
theorem dX12_plankTold_29 : decode cX12_plankTold 29 = .ok (.iaload, 1) := by decide +kernel
theorem dX12_plankTold_30 : decode cX12_plankTold 30 = .ok (.goto 45, 3) := by decide +kernel
theorem dX12_plankTold_33 : decode cX12_plankTold 33 = .ok (.iload_n 2, 1) := by decide +kernel
theorem dX12_plankTold_34 : decode cX12_plankTold 34 = .ok (.iconst 2, 1) := by decide +kernel
theorem dX12_plankTold_35 : decode cX12_plankTold 35 = .ok (.if_icmp .ne 15, 3) := by decide +kernel
theorem dX12_plankTold_38 : decode cX12_plankTold 38 = .ok (.aload_n 0, 1) := by decide +kernel
theorem dX12_plankTold_39 : decode cX12_plankTold 39 = .ok (.getfield 38, 3) := by decide +kernel
theorem dX12_plankTold_42 : decode cX12_plankTold 42 = .ok (.getfield 204, 3) := by decide +kernel
theorem dX12_plankTold_45 : decode cX12_plankTold 45 = .ok (.iload_n 1, 1) := by decide +kernel
theorem dX12_plankTold_46 : decode cX12_plankTold 46 = .ok (.iaload, 1) := by decide +kernel
theorem dX12_plankTold_47 : decode cX12_plankTold 47 = .ok (.goto 28, 3) := by decide +kernel
theorem dX12_plankTold_50 : decode cX12_plankTold 50 = .ok (.iload_n 2, 1) := by decide +kernel
theorem dX12_plankTold_51 : decode cX12_plankTold 51 = .ok (.iconst 3, 1) := by decide +kernel
theorem dX12_plankTold_52 : decode cX12_plankTold 52 = .ok (.if_icmp .ne 15, 3) := by decide +kernel
theorem dX12_plankTold_55 : decode cX12_plankTold 55 = .ok (.aload_n 0, 1) := by decide +kernel
theorem dX12_plankTold_56 : decode cX12_plankTold 56 = .ok (.getfield 38, 3) := by decide +kernel
theorem dX12_plankTold_59 : decode cX12_plankTold 59 = .ok (.getfield 194, 3) := by decide +kernel
theorem dX12_plankTold_62 : decode cX12_plankTold 62 = .ok (.iload_n 1, 1) := by decide +kernel
theorem dX12_plankTold_63 : decode cX12_plankTold 63 = .ok (.iaload, 1) := by decide +kernel
theorem dX12_plankTold_64 : decode cX12_plankTold 64 = .ok (.goto 11, 3) := by decide +kernel
theorem dX12_plankTold_67 : decode cX12_plankTold 67 = .ok (.aload_n 0, 1) := by decide +kernel
theorem dX12_plankTold_68 : decode cX12_plankTold 68 = .ok (.getfield 38, 3) := by decide +kernel
theorem dX12_plankTold_71 : decode cX12_plankTold 71 = .ok (.iload_n 1, 1) := by decide +kernel
theorem dX12_plankTold_72 : decode cX12_plankTold 72 = .ok (.invokevirtual 207, 3) := by decide +kernel
theorem dX12_plankTold_75 : decode cX12_plankTold 75 = .ok (.ireturn, 1) := by decide +kernel
theorem dX12_plank_0 : decode cX12_plank 0 = .ok (.aload_n 0, 1) := by decide +kernel
theorem dX12_plank_1 : decode cX12_plank 1 = .ok (.iconst 0, 1) := by decide +kernel
theorem dX12_plank_2 : decode cX12_plank 2 = .ok (.putfield 45, 3) := by decide +kernel
theorem dX12_plank_5 : decode cX12_plank 5 = .ok (.aload_n 0, 1) := by decide +kernel
theorem dX12_plank_6 : decode cX12_plank 6 = .ok (.iload_n 1, 1) := by decide +kernel
theorem dX12_plank_7 : decode cX12_plank 7 = .ok (.invokevirtual 185, 3) := by decide +kernel
theorem dX12_plank_10 : decode cX12_plank 10 = .ok (.ifCond .eq 21, 3) := by decide +kernel
theorem dX12_plank_13 : decode cX12_plank 13 = .ok (.iload_n 2, 1) := by decide +kernel
theorem dX12_plank_14 : decode cX12_plank 14 = .ok (.iconst 0, 1) := by decide +kernel
theorem dX12_plank_15 : decode cX12_plank 15 = .ok (.iconst 4, 1) := by decide +kernel
theorem dX12_plank_16 : decode cX12_plank 16 = .ok (.invokestatic 55, 3) := by decide +kernel
theorem dX12_plank_19 : decode cX12_plank 19 = .ok (.ifCond .eq 12, 3) := by decide +kernel
theorem dX12_plank_22 : decode cX12_plank 22 = .ok (.aload_n 0, 1) := by decide +kernel
theorem dX12_plank_23 : decode cX12_plank 23 = .ok (.iload_n 1, 1) := by decide +kernel
theorem dX12_plank_24 : decode cX12_plank 24 = .ok (.iload_n 2, 1) := by decide +kernel
theorem dX12_plank_25 : decode cX12_plank 25 = .ok (.invokevirtual 210, 3) := by decide +kernel
theorem dX12_plank_28 : decode cX12_plank 28 = .ok (.goto 8, 3) := by decide +kernel
theorem dX12_plank_31 : decode cX12_plank 31 = .ok (.aload_n 0, 1) := by decide +kernel
theorem dX12_plank_32 : decode cX12_plank 32 = .ok (.iconst 1, 1) := by decide +kernel
theorem dX12_plank_33 : decode cX12_plank 33 = .ok (.invokevirtual 51, 3) := by decide +kernel
theorem dX12_plank_36 : decode cX12_plank 36 = .ok (.ireturn, 1) := by decide +kernel
theorem dX12_find_0 : decode cX12_find 0 = .ok (.aload_n 0, 1) := by decide +kernel
theorem dX12_find_1 : decode cX12_find 1 = .ok (.iconst 0, 1) := by decide +kernel
theorem dX12_find_2 : decode cX12_find 2 = .ok (.putfield 45, 3) := by decide +kernel
theorem dX12_find_5 : decode cX12_find 5 = .ok (.iload_n 1, 1) := by decide +kernel
theorem dX12_find_6 : decode cX12_find 6 = .ok (.iconst 0, 1) := by decide +kernel
theorem dX12_find_7 : decode cX12_find 7 = .ok (.iconst 3, 1) := by decide +kernel
theorem dX12_find_8 : decode cX12_find 8 = .ok (.invokestatic 55, 3) := by decide +kernel
theorem dX12_find_11 : decode cX12_find 11 = .ok (.ifCond .eq 15, 3) := by decide +kernel
theorem dX12_find_14 : decode cX12_find 14 = .ok (.iload_n 2, 1) := by decide +kernel
theorem dX12_find_15 : decode cX12_find 15 = .ok (.bipush 10, 2) := by decide +kernel
theorem dX12_find_17 : decode cX12_find 17 = .ok (.sipush 200, 3) := by decide +kernel
theorem dX12_find_20 : decode cX12_find 20 = .ok (.invokestatic 55, 3) := by decide +kernel
theorem dX12_find_23 : decode cX12_find 23 = .ok (.ifCond .ne 9, 3) := by decide +kernel
theorem dX12_find_26 : decode cX12_find 26 = .ok (.aload_n 0, 1) := by decide +kernel
theorem dX12_find_27 : decode cX12_find 27 = .ok (.iconst 1, 1) := by decide +kernel
theorem dX12_find_28 : decode cX12_find 28 = .ok (.invokevirtual 51, 3) := by decide +kernel
theorem dX12_find_31 : decode cX12_find 31 = .ok (.ireturn, 1) := by decide +kernel
theorem dX12_find_32 : decode cX12_find 32 = .ok (.aload_n 0, 1) := by decide +kernel
theorem dX12_find_33 : decode cX12_find 33 = .ok (.getfield 38, 3) := by decide +kernel
theorem dX12_find_36 : decode cX12_find 36 = .ok (.iload_n 1, 1) := by decide +kernel
theorem dX12_find_37 : decode cX12_find 37 = .ok (.iload_n 2, 1) := by decide +kernel
theorem dX12_find_38 : decode cX12_find 38 = .ok (.invokevirtual 213, 3) := by decide +kernel
theorem dX12_find_41 : decode cX12_find 41 = .ok (.istore 4, 2) := by decide +kernel
theorem dX12_find_43 : decode cX12_find 43 = .ok (.iload 4, 2) := by decide +kernel
theorem dX12_find_45 : decode cX12_find 45 = .ok (.iconst (-1), 1) := by decide +kernel
theorem dX12_find_46 : decode cX12_find 46 = .ok (.if_icmp .eq 7, 3) := by decide +kernel
theorem dX12_find_49 : decode cX12_find 49 = .ok (.iload_n 3, 1) := by decide +kernel
theorem dX12_find_50 : decode cX12_find 50 = .ok (.ifCond .ne 8, 3) := by decide +kernel
theorem dX12_find_53 : decode cX12_find 53 = .ok (.iload 4, 2) := by decide +kernel
theorem dX12_find_55 : decode cX12_find 55 = .ok (.goto 13, 3) := by decide +kernel
theorem dX12_find_58 : decode cX12_find 58 = .ok (.aload_n 0, 1) := by decide +kernel
theorem dX12_find_59 : decode cX12_find 59 = .ok (.getfield 38, 3) := by decide +kernel
theorem dX12_find_62 : decode cX12_find 62 = .ok (.iload 4, 2) := by decide +kernel
theorem dX12_find_64 : decode cX12_find 64 = .ok (.iload_n 2, 1) := by decide +kernel
theorem dX12_find_65 : decode cX12_find 65 = .ok (.invokevirtual 216, 3) := by decide +kernel
theorem dX12_find_68 : decode cX12_find 68 = .ok (.ireturn, 1) := by decide +kernel
theorem dX12_addFrame_0 : decode cX12_addFrame 0 = .ok (.aload_n 0, 1) := by decide +kernel
theorem dX12_addFrame_1 : decode cX12_addFrame 1 = .ok (.iconst 0, 1) := by decide +kernel
theorem dX12_addFrame_2 : decode cX12_addFrame 2 = .ok (.putfield 45, 3) := by decide +kernel
theorem dX12_addFrame_5 : decode cX12_addFrame 5 = .ok (.iload_n 1, 1) := by decide +kernel
theorem dX12_addFrame_6 : decode cX12_addFrame 6 = .ok (.iconst 0, 1) := by decide +kernel
theorem dX12_addFrame_7 : decode cX12_addFrame 7 = .ok (.iconst 4, 1) := by decide +kernel
theorem dX12_addFrame_8 : decode cX12_addFrame 8 = .ok (.invokestatic 55, 3) := by decide +kernel
theorem dX12_addFrame_11 : decode cX12_addFrame 11 = .ok (.ifCond .ne 9, 3) := by decide +kernel
theorem dX12_addFrame_14 : decode cX12_addFrame 14 = .ok (.aload_n 0, 1) := by decide +kernel
theorem dX12_addFrame_15 : decode cX12_addFrame 15 = .ok (.iconst 1, 1) := by decide +kernel
theorem dX12_addFrame_16 : decode cX12_addFrame 16 = .ok (.invokevirtual 51, 3) := by decide +kernel
theorem dX12_addFrame_19 : decode cX12_addFrame 19 = .ok (.ireturn, 1) := by decide +kernel
theorem dX12_addFrame_20 : decode cX12_addFrame 20 = .ok (.aload_n 0, 1) := by decide +kernel
theorem dX12_addFrame_21 : decode cX12_addFrame 21 = .ok (.getfield 38, 3) := by decide +kernel
theorem dX12_addFrame_24 : decode cX12_addFrame 24 = .ok (.getfield 219, 3) := by decide +kernel
theorem dX12_addFrame_27 : decode cX12_addFrame 27 = .ok (.iload_n 1, 1) := by decide +kernel
theorem dX12_addFrame_28 : decode cX12_addFrame 28 = .ok (.iaload, 1) := by decide +kernel
theorem dX12_addFrame_29 : decode cX12_addFrame 29 = .ok (.iconst 4, 1) := by decide +kernel
theorem dX12_addFrame_30 : decode cX12_addFrame 30 = .ok (.if_icmp .ne 9, 3) := by decide +kernel
theorem dX12_addFrame_33 : decode cX12_addFrame 33 = .ok (.aload_n 0, 1) := by decide +kernel
theorem dX12_addFrame_34 : decode cX12_addFrame 34 = .ok (.iconst 2, 1) := by decide +kernel
theorem dX12_addFrame_35 : decode cX12_addFrame 35 = .ok (.invokevirtual 51, 3) := by decide +kernel
theorem dX12_addFrame_38 : decode cX12_addFrame 38 = .ok (.ireturn, 1) := by decide +kernel
theorem dX12_addFrame_39 : decode cX12_addFrame 39 = .ok (.aload_n 0, 1) := by decide +kernel
theorem dX12_addFrame_40 : decode cX12_addFrame 40 = .ok (.getfield 38, 3) := by decide +kernel
theorem dX12_addFrame_43 : decode cX12_addFrame 43 = .ok (.getfield 219, 3) := by decide +kernel
theorem dX12_addFrame_46 : decode cX12_addFrame 46 = .ok (.iload_n 1, 1) := by decide +kernel
theorem dX12_addFrame_47 : decode cX12_addFrame 47 = .ok (.dup2, 1) := by decide +kernel
theorem dX12_addFrame_48 : decode cX12_addFrame 48 = .ok (.iaload, 1) := by decide +kernel
theorem dX12_addFrame_49 : decode cX12_addFrame 49 = .ok (.iconst 1, 1) := by decide +kernel
theorem dX12_addFrame_50 : decode cX12_addFrame 50 = .ok (.iadd, 1) := by decide +kernel
theorem dX12_addFrame_51 : decode cX12_addFrame 51 = .ok (.iastore, 1) := by decide +kernel
theorem dX12_addFrame_52 : decode cX12_addFrame 52 = .ok (.aload_n 0, 1) := by decide +kernel
theorem dX12_addFrame_53 : decode cX12_addFrame 53 = .ok (.getfield 38, 3) := by decide +kernel
theorem dX12_addFrame_56 : decode cX12_addFrame 56 = .ok (.getfield 219, 3) := by decide +kernel
theorem dX12_addFrame_59 : decode cX12_addFrame 59 = .ok (.iload_n 1, 1) := by decide +kernel
theorem dX12_addFrame_60 : decode cX12_addFrame 60 = .ok (.iaload, 1) := by decide +kernel
theorem dX12_addFrame_61 : decode cX12_addFrame 61 = .ok (.ireturn, 1) := by decide +kernel
theorem dX12_frameTold_0 : decode cX12_frameTold 0 = .ok (.iload_n 2, 1) := by decide +kernel
theorem dX12_frameTold_1 : decode cX12_frameTold 1 = .ok (.ifCond .ne 15, 3) := by decide +kernel
theorem dX12_frameTold_4 : decode cX12_frameTold 4 = .ok (.aload_n 0, 1) := by decide +kernel
theorem dX12_frameTold_5 : decode cX12_frameTold 5 = .ok (.getfield 38, 3) := by decide +kernel
theorem dX12_frameTold_8 : decode cX12_frameTold 8 = .ok (.getfield 219, 3) := by decide +kernel
theorem dX12_frameTold_11 : decode cX12_frameTold 11 = .ok (.iload_n 1, 1) := by decide +kernel
theorem dX12_frameTold_12 : decode cX12_frameTold 12 = .ok (.iaload, 1) := by decide +kernel
theorem dX12_frameTold_13 : decode cX12_frameTold 13 = .ok (.goto 27, 3) := by decide +kernel
theorem dX12_frameTold_16 : decode cX12_frameTold 16 = .ok (.iload_n 2, 1) := by decide +kernel
theorem dX12_frameTold_17 : decode cX12_frameTold 17 = .ok (.iconst 1, 1) := by decide +kernel
theorem dX12_frameTold_18 : decode cX12_frameTold 18 = .ok (.if_icmp .ne 14, 3) := by decide +kernel
theorem dX12_frameTold_21 : decode cX12_frameTold 21 = .ok (.aload_n 0, 1) := by decide +kernel
theorem dX12_frameTold_22 : decode cX12_frameTold 22 = .ok (.getfield 38, 3) := by decide +kernel
theorem dX12_frameTold_25 : decode cX12_frameTold 25 = .ok (.iload_n 1, 1) := by decide +kernel
theorem dX12_frameTold_26 : decode cX12_frameTold 26 = .ok (.invokevirtual 222, 3) := by decide +kernel
theorem dX12_frameTold_29 : decode cX12_frameTold 29 = .ok (.goto 11, 3) := by decide +kernel
theorem dX12_frameTold_32 : decode cX12_frameTold 32 = .ok (.aload_n 0, 1) := by decide +kernel
theorem dX12_frameTold_33 : decode cX12_frameTold 33 = .ok (.getfield 38, 3) := by decide +kernel
theorem dX12_frameTold_36 : decode cX12_frameTold 36 = .ok (.iload_n 1, 1) := by decide +kernel
theorem dX12_frameTold_37 : decode cX12_frameTold 37 = .ok (.invokevirtual 225, 3) := by decide +kernel
theorem dX12_frameTold_40 : decode cX12_frameTold 40 = .ok (.ireturn, 1) := by decide +kernel
theorem dX12_frames_0 : decode cX12_frames 0 = .ok (.aload_n 0, 1) := by decide +kernel
theorem dX12_frames_1 : decode cX12_frames 1 = .ok (.iconst 0, 1) := by decide +kernel
theorem dX12_frames_2 : decode cX12_frames 2 = .ok (.putfield 45, 3) := by decide +kernel
theorem dX12_frames_5 : decode cX12_frames 5 = .ok (.iload_n 1, 1) := by decide +kernel
theorem dX12_frames_6 : decode cX12_frames 6 = .ok (.iconst 0, 1) := by decide +kernel
theorem dX12_frames_7 : decode cX12_frames 7 = .ok (.iconst 4, 1) := by decide +kernel
theorem dX12_frames_8 : decode cX12_frames 8 = .ok (.invokestatic 55, 3) := by decide +kernel
theorem dX12_frames_11 : decode cX12_frames 11 = .ok (.ifCond .eq 21, 3) := by decide +kernel
theorem dX12_frames_14 : decode cX12_frames 14 = .ok (.iload_n 2, 1) := by decide +kernel
theorem dX12_frames_15 : decode cX12_frames 15 = .ok (.iconst 0, 1) := by decide +kernel
theorem dX12_frames_16 : decode cX12_frames 16 = .ok (.iconst 2, 1) := by decide +kernel
theorem dX12_frames_17 : decode cX12_frames 17 = .ok (.invokestatic 55, 3) := by decide +kernel
theorem dX12_frames_20 : decode cX12_frames 20 = .ok (.ifCond .eq 12, 3) := by decide +kernel
theorem dX12_frames_23 : decode cX12_frames 23 = .ok (.aload_n 0, 1) := by decide +kernel
theorem dX12_frames_24 : decode cX12_frames 24 = .ok (.iload_n 1, 1) := by decide +kernel
theorem dX12_frames_25 : decode cX12_frames 25 = .ok (.iload_n 2, 1) := by decide +kernel
theorem dX12_frames_26 : decode cX12_frames 26 = .ok (.invokevirtual 228, 3) := by decide +kernel
theorem dX12_frames_29 : decode cX12_frames 29 = .ok (.goto 8, 3) := by decide +kernel
theorem dX12_frames_32 : decode cX12_frames 32 = .ok (.aload_n 0, 1) := by decide +kernel
theorem dX12_frames_33 : decode cX12_frames 33 = .ok (.iconst 1, 1) := by decide +kernel
theorem dX12_frames_34 : decode cX12_frames 34 = .ok (.invokevirtual 51, 3) := by decide +kernel
theorem dX12_frames_37 : decode cX12_frames 37 = .ok (.ireturn, 1) := by decide +kernel
theorem dX12_addSlip_0 : decode cX12_addSlip 0 = .ok (.aload_n 0, 1) := by decide +kernel
theorem dX12_addSlip_1 : decode cX12_addSlip 1 = .ok (.iconst 0, 1) := by decide +kernel
theorem dX12_addSlip_2 : decode cX12_addSlip 2 = .ok (.putfield 45, 3) := by decide +kernel
theorem dX12_addSlip_5 : decode cX12_addSlip 5 = .ok (.aload_n 0, 1) := by decide +kernel
theorem dX12_addSlip_6 : decode cX12_addSlip 6 = .ok (.getfield 38, 3) := by decide +kernel
theorem dX12_addSlip_9 : decode cX12_addSlip 9 = .ok (.getfield 231, 3) := by decide +kernel
theorem dX12_addSlip_12 : decode cX12_addSlip 12 = .ok (.bipush 6, 2) := by decide +kernel
theorem dX12_addSlip_14 : decode cX12_addSlip 14 = .ok (.if_icmp .ne 9, 3) := by decide +kernel
theorem dX12_addSlip_17 : decode cX12_addSlip 17 = .ok (.aload_n 0, 1) := by decide +kernel
theorem dX12_addSlip_18 : decode cX12_addSlip 18 = .ok (.iconst 1, 1) := by decide +kernel
theorem dX12_addSlip_19 : decode cX12_addSlip 19 = .ok (.invokevirtual 51, 3) := by decide +kernel
theorem dX12_addSlip_22 : decode cX12_addSlip 22 = .ok (.ireturn, 1) := by decide +kernel
theorem dX12_addSlip_23 : decode cX12_addSlip 23 = .ok (.aload_n 0, 1) := by decide +kernel
theorem dX12_addSlip_24 : decode cX12_addSlip 24 = .ok (.getfield 38, 3) := by decide +kernel
theorem dX12_addSlip_27 : decode cX12_addSlip 27 = .ok (.dup, 1) := by decide +kernel
theorem dX12_addSlip_28 : decode cX12_addSlip 28 = .ok (.getfield 231, 3) := by decide +kernel
theorem dX12_addSlip_31 : decode cX12_addSlip 31 = .ok (.iconst 1, 1) := by decide +kernel
theorem dX12_addSlip_32 : decode cX12_addSlip 32 = .ok (.iadd, 1) := by decide +kernel
theorem dX12_addSlip_33 : decode cX12_addSlip 33 = .ok (.putfield 231, 3) := by decide +kernel
theorem dX12_addSlip_36 : decode cX12_addSlip 36 = .ok (.aload_n 0, 1) := by decide +kernel
theorem dX12_addSlip_37 : decode cX12_addSlip 37 = .ok (.getfield 38, 3) := by decide +kernel
theorem dX12_addSlip_40 : decode cX12_addSlip 40 = .ok (.getfield 231, 3) := by decide +kernel
theorem dX12_addSlip_43 : decode cX12_addSlip 43 = .ok (.iconst 1, 1) := by decide +kernel
theorem dX12_addSlip_44 : decode cX12_addSlip 44 = .ok (.isub, 1) := by decide +kernel
theorem dX12_addSlip_45 : decode cX12_addSlip 45 = .ok (.ireturn, 1) := by decide +kernel
theorem dX12_isSlip_0 : decode cX12_isSlip 0 = .ok (.iload_n 1, 1) := by decide +kernel
theorem dX12_isSlip_1 : decode cX12_isSlip 1 = .ok (.iconst 0, 1) := by decide +kernel
theorem dX12_isSlip_2 : decode cX12_isSlip 2 = .ok (.aload_n 0, 1) := by decide +kernel
theorem dX12_isSlip_3 : decode cX12_isSlip 3 = .ok (.getfield 38, 3) := by decide +kernel
theorem dX12_isSlip_6 : decode cX12_isSlip 6 = .ok (.getfield 231, 3) := by decide +kernel
theorem dX12_isSlip_9 : decode cX12_isSlip 9 = .ok (.iconst 1, 1) := by decide +kernel
theorem dX12_isSlip_10 : decode cX12_isSlip 10 = .ok (.isub, 1) := by decide +kernel
theorem dX12_isSlip_11 : decode cX12_isSlip 11 = .ok (.invokestatic 55, 3) := by decide +kernel
theorem dX12_isSlip_14 : decode cX12_isSlip 14 = .ok (.ireturn, 1) := by decide +kernel
theorem dX12_start_0 : decode cX12_start 0 = .ok (.aload_n 0, 1) := by decide +kernel
theorem dX12_start_1 : decode cX12_start 1 = .ok (.iconst 0, 1) := by decide +kernel
theorem dX12_start_2 : decode cX12_start 2 = .ok (.putfield 45, 3) := by decide +kernel
theorem dX12_start_5 : decode cX12_start 5 = .ok (.aload_n 0, 1) := by decide +kernel
theorem dX12_start_6 : decode cX12_start 6 = .ok (.iload_n 1, 1) := by decide +kernel
theorem dX12_start_7 : decode cX12_start 7 = .ok (.invokevirtual 234, 3) := by decide +kernel
theorem dX12_start_10 : decode cX12_start 10 = .ok (.ifCond .ne 9, 3) := by decide +kernel
theorem dX12_start_13 : decode cX12_start 13 = .ok (.aload_n 0, 1) := by decide +kernel
theorem dX12_start_14 : decode cX12_start 14 = .ok (.iconst 1, 1) := by decide +kernel
theorem dX12_start_15 : decode cX12_start 15 = .ok (.invokevirtual 51, 3) := by decide +kernel
theorem dX12_start_18 : decode cX12_start 18 = .ok (.ireturn, 1) := by decide +kernel
theorem dX12_start_19 : decode cX12_start 19 = .ok (.iload_n 2, 1) := by decide +kernel
theorem dX12_start_20 : decode cX12_start 20 = .ok (.iconst 0, 1) := by decide +kernel
theorem dX12_start_21 : decode cX12_start 21 = .ok (.iconst 5, 1) := by decide +kernel
theorem dX12_start_22 : decode cX12_start 22 = .ok (.invokestatic 55, 3) := by decide +kernel
theorem dX12_start_25 : decode cX12_start 25 = .ok (.ifCond .eq 13, 3) := by decide +kernel
theorem dX12_start_28 : decode cX12_start 28 = .ok (.iload_n 3, 1) := by decide +kernel
theorem dX12_start_29 : decode cX12_start 29 = .ok (.iconst 0, 1) := by decide +kernel
theorem dX12_start_30 : decode cX12_start 30 = .ok (.bipush 60, 2) := by decide +kernel
theorem dX12_start_32 : decode cX12_start 32 = .ok (.invokestatic 55, 3) := by decide +kernel
theorem dX12_start_35 : decode cX12_start 35 = .ok (.ifCond .ne 9, 3) := by decide +kernel
theorem dX12_start_38 : decode cX12_start 38 = .ok (.aload_n 0, 1) := by decide +kernel
theorem dX12_start_39 : decode cX12_start 39 = .ok (.iconst 2, 1) := by decide +kernel
theorem dX12_start_40 : decode cX12_start 40 = .ok (.invokevirtual 51, 3) := by decide +kernel
theorem dX12_start_43 : decode cX12_start 43 = .ok (.ireturn, 1) := by decide +kernel
theorem dX12_start_44 : decode cX12_start 44 = .ok (.aload_n 0, 1) := by decide +kernel
theorem dX12_start_45 : decode cX12_start 45 = .ok (.getfield 26, 3) := by decide +kernel
theorem dX12_start_48 : decode cX12_start 48 = .ok (.iload_n 2, 1) := by decide +kernel
theorem dX12_start_49 : decode cX12_start 49 = .ok (.iaload, 1) := by decide +kernel
theorem dX12_start_50 : decode cX12_start 50 = .ok (.ifCond .eq 15, 3) := by decide +kernel
theorem dX12_start_53 : decode cX12_start 53 = .ok (.aload_n 0, 1) := by decide +kernel
theorem dX12_start_54 : decode cX12_start 54 = .ok (.getfield 38, 3) := by decide +kernel
theorem dX12_start_57 : decode cX12_start 57 = .ok (.getfield 237, 3) := by decide +kernel
theorem dX12_start_60 : decode cX12_start 60 = .ok (.iload_n 1, 1) := by decide +kernel
theorem dX12_start_61 : decode cX12_start 61 = .ok (.baload, 1) := by decide +kernel
theorem dX12_start_62 : decode cX12_start 62 = .ok (.ifCond .eq 9, 3) := by decide +kernel
theorem dX12_start_65 : decode cX12_start 65 = .ok (.aload_n 0, 1) := by decide +kernel
theorem dX12_start_66 : decode cX12_start 66 = .ok (.iconst 3, 1) := by decide +kernel
theorem dX12_start_67 : decode cX12_start 67 = .ok (.invokevirtual 51, 3) := by decide +kernel
theorem dX12_start_70 : decode cX12_start 70 = .ok (.ireturn, 1) := by decide +kernel
theorem dX12_start_71 : decode cX12_start 71 = .ok (.aload_n 0, 1) := by decide +kernel
theorem dX12_start_72 : decode cX12_start 72 = .ok (.getfield 38, 3) := by decide +kernel
theorem dX12_start_75 : decode cX12_start 75 = .ok (.getfield 237, 3) := by decide +kernel
theorem dX12_start_78 : decode cX12_start 78 = .ok (.iload_n 1, 1) := by decide +kernel
theorem dX12_start_79 : decode cX12_start 79 = .ok (.iconst 1, 1) := by decide +kernel
theorem dX12_start_80 : decode cX12_start 80 = .ok (.bastore, 1) := by decide +kernel
theorem dX12_start_81 : decode cX12_start 81 = .ok (.aload_n 0, 1) := by decide +kernel
theorem dX12_start_82 : decode cX12_start 82 = .ok (.getfield 38, 3) := by decide +kernel
theorem dX12_start_85 : decode cX12_start 85 = .ok (.getfield 241, 3) := by decide +kernel
theorem dX12_start_88 : decode cX12_start 88 = .ok (.iload_n 1, 1) := by decide +kernel
theorem dX12_start_89 : decode cX12_start 89 = .ok (.iload_n 2, 1) := by decide +kernel
theorem dX12_start_90 : decode cX12_start 90 = .ok (.iastore, 1) := by decide +kernel
theorem dX12_start_91 : decode cX12_start 91 = .ok (.aload_n 0, 1) := by decide +kernel
theorem dX12_start_92 : decode cX12_start 92 = .ok (.getfield 38, 3) := by decide +kernel
theorem dX12_start_95 : decode cX12_start 95 = .ok (.getfield 244, 3) := by decide +kernel
theorem dX12_start_98 : decode cX12_start 98 = .ok (.iload_n 1, 1) := by decide +kernel
theorem dX12_start_99 : decode cX12_start 99 = .ok (.iload_n 3, 1) := by decide +kernel
theorem dX12_start_100 : decode cX12_start 100 = .ok (.iastore, 1) := by decide +kernel
theorem dX12_start_101 : decode cX12_start 101 = .ok (.aload_n 0, 1) := by decide +kernel
theorem dX12_start_102 : decode cX12_start 102 = .ok (.getfield 38, 3) := by decide +kernel
theorem dX12_start_105 : decode cX12_start 105 = .ok (.getfield 247, 3) := by decide +kernel
theorem dX12_start_108 : decode cX12_start 108 = .ok (.iload_n 1, 1) := by decide +kernel
theorem dX12_start_109 : decode cX12_start 109 = .ok (.aload_n 0, 1) := by decide +kernel
theorem dX12_start_110 : decode cX12_start 110 = .ok (.getfield 26, 3) := by decide +kernel
theorem dX12_start_113 : decode cX12_start 113 = .ok (.iload_n 2, 1) := by decide +kernel
theorem dX12_start_114 : decode cX12_start 114 = .ok (.iaload, 1) := by decide +kernel
theorem dX12_start_115 : decode cX12_start 115 = .ok (.iastore, 1) := by decide +kernel
theorem dX12_start_116 : decode cX12_start 116 = .ok (.aload_n 0, 1) := by decide +kernel
theorem dX12_start_117 : decode cX12_start 117 = .ok (.getfield 29, 3) := by decide +kernel
theorem dX12_start_120 : decode cX12_start 120 = .ok (.sipush 240, 3) := by decide +kernel
theorem dX12_start_123 : decode cX12_start 123 = .ok (.iload_n 2, 1) := by decide +kernel
theorem dX12_start_124 : decode cX12_start 124 = .ok (.imul, 1) := by decide +kernel
theorem dX12_start_125 : decode cX12_start 125 = .ok (.aload_n 0, 1) := by decide +kernel
theorem dX12_start_126 : decode cX12_start 126 = .ok (.getfield 38, 3) := by decide +kernel
theorem dX12_start_129 : decode cX12_start 129 = .ok (.getfield 250, 3) := by decide +kernel
theorem dX12_start_132 : decode cX12_start 132 = .ok (.sipush 240, 3) := by decide +kernel
theorem dX12_start_135 : decode cX12_start 135 = .ok (.iload_n 1, 1) := by decide +kernel
theorem dX12_start_136 : decode cX12_start 136 = .ok (.imul, 1) := by decide +kernel
theorem dX12_start_137 : decode cX12_start 137 = .ok (.sipush 240, 3) := by decide +kernel
theorem dX12_start_140 : decode cX12_start 140 = .ok (.invokestatic 168, 3) := by decide +kernel
theorem dX12_start_143 : decode cX12_start 143 = .ok (.aload_n 0, 1) := by decide +kernel
theorem dX12_start_144 : decode cX12_start 144 = .ok (.getfield 38, 3) := by decide +kernel
theorem dX12_start_147 : decode cX12_start 147 = .ok (.getfield 253, 3) := by decide +kernel
theorem dX12_start_150 : decode cX12_start 150 = .ok (.iload_n 1, 1) := by decide +kernel
theorem dX12_start_151 : decode cX12_start 151 = .ok (.iconst 0, 1) := by decide +kernel
theorem dX12_start_152 : decode cX12_start 152 = .ok (.iastore, 1) := by decide +kernel
theorem dX12_start_153 : decode cX12_start 153 = .ok (.aload_n 0, 1) := by decide +kernel
theorem dX12_start_154 : decode cX12_start 154 = .ok (.getfield 38, 3) := by decide +kernel
theorem dX12_start_157 : decode cX12_start 157 = .ok (.getfield 256, 3) := by decide +kernel
theorem dX12_start_160 : decode cX12_start 160 = .ok (.iload_n 1, 1) := by decide +kernel
theorem dX12_start_161 : decode cX12_start 161 = .ok (.iconst 0, 1) := by decide +kernel
theorem dX12_start_162 : decode cX12_start 162 = .ok (.iastore, 1) := by decide +kernel
theorem dX12_start_163 : decode cX12_start 163 = .ok (.aload_n 0, 1) := by decide +kernel
theorem dX12_start_164 : decode cX12_start 164 = .ok (.getfield 38, 3) := by decide +kernel
theorem dX12_start_167 : decode cX12_start 167 = .ok (.getfield 259, 3) := by decide +kernel
theorem dX12_start_170 : decode cX12_start 170 = .ok (.iload_n 1, 1) := by decide +kernel
theorem dX12_start_171 : decode cX12_start 171 = .ok (.iconst 0, 1) := by decide +kernel
theorem dX12_start_172 : decode cX12_start 172 = .ok (.iastore, 1) := by decide +kernel
theorem dX12_start_173 : decode cX12_start 173 = .ok (.aload_n 0, 1) := by decide +kernel
theorem dX12_start_174 : decode cX12_start 174 = .ok (.getfield 38, 3) := by decide +kernel
theorem dX12_start_177 : decode cX12_start 177 = .ok (.getfield 262, 3) := by decide +kernel
theorem dX12_start_180 : decode cX12_start 180 = .ok (.iload_n 1, 1) := by decide +kernel
theorem dX12_start_181 : decode cX12_start 181 = .ok (.iconst 0, 1) := by decide +kernel
theorem dX12_start_182 : decode cX12_start 182 = .ok (.iastore, 1) := by decide +kernel
theorem dX12_start_183 : decode cX12_start 183 = .ok (.aload_n 0, 1) := by decide +kernel
theorem dX12_start_184 : decode cX12_start 184 = .ok (.getfield 38, 3) := by decide +kernel
theorem dX12_start_187 : decode cX12_start 187 = .ok (.getfield 265, 3) := by decide +kernel
theorem dX12_start_190 : decode cX12_start 190 = .ok (.iload_n 1, 1) := by decide +kernel
theorem dX12_start_191 : decode cX12_start 191 = .ok (.iconst 0, 1) := by decide +kernel
theorem dX12_start_192 : decode cX12_start 192 = .ok (.iastore, 1) := by decide +kernel
theorem dX12_start_193 : decode cX12_start 193 = .ok (.aload_n 0, 1) := by decide +kernel
theorem dX12_start_194 : decode cX12_start 194 = .ok (.getfield 38, 3) := by decide +kernel
theorem dX12_start_197 : decode cX12_start 197 = .ok (.getfield 268, 3) := by decide +kernel
theorem dX12_start_200 : decode cX12_start 200 = .ok (.iload_n 1, 1) := by decide +kernel
theorem dX12_start_201 : decode cX12_start 201 = .ok (.aload_n 0, 1) := by decide +kernel
theorem dX12_start_202 : decode cX12_start 202 = .ok (.getfield 38, 3) := by decide +kernel
theorem dX12_start_205 : decode cX12_start 205 = .ok (.getfield 271, 3) := by decide +kernel
theorem dX12_start_208 : decode cX12_start 208 = .ok (.iastore, 1) := by decide +kernel
theorem dX12_start_209 : decode cX12_start 209 = .ok (.aload_n 0, 1) := by decide +kernel
theorem dX12_start_210 : decode cX12_start 210 = .ok (.getfield 38, 3) := by decide +kernel
theorem dX12_start_213 : decode cX12_start 213 = .ok (.iconst 3, 1) := by decide +kernel
theorem dX12_start_214 : decode cX12_start 214 = .ok (.invokevirtual 274, 3) := by decide +kernel
theorem dX12_start_217 : decode cX12_start 217 = .ok (.ireturn, 1) := by decide +kernel
theorem dX12_lend_0 : decode cX12_lend 0 = .ok (.aload_n 0, 1) := by decide +kernel
theorem dX12_lend_1 : decode cX12_lend 1 = .ok (.iconst 0, 1) := by decide +kernel
theorem dX12_lend_2 : decode cX12_lend 2 = .ok (.putfield 45, 3) := by decide +kernel
theorem dX12_lend_5 : decode cX12_lend 5 = .ok (.aload_n 0, 1) := by decide +kernel
theorem dX12_lend_6 : decode cX12_lend 6 = .ok (.iload_n 1, 1) := by decide +kernel
theorem dX12_lend_7 : decode cX12_lend 7 = .ok (.invokevirtual 234, 3) := by decide +kernel
theorem dX12_lend_10 : decode cX12_lend 10 = .ok (.ifCond .eq 11, 3) := by decide +kernel
theorem dX12_lend_13 : decode cX12_lend 13 = .ok (.aload_n 0, 1) := by decide +kernel
theorem dX12_lend_14 : decode cX12_lend 14 = .ok (.iload_n 2, 1) := by decide +kernel
theorem dX12_lend_15 : decode cX12_lend 15 = .ok (.invokevirtual 234, 3) := by decide +kernel
theorem dX12_lend_18 : decode cX12_lend 18 = .ok (.ifCond .ne 9, 3) := by decide +kernel
theorem dX12_lend_21 : decode cX12_lend 21 = .ok (.aload_n 0, 1) := by decide +kernel
theorem dX12_lend_22 : decode cX12_lend 22 = .ok (.iconst 1, 1) := by decide +kernel
theorem dX12_lend_23 : decode cX12_lend 23 = .ok (.invokevirtual 51, 3) := by decide +kernel
theorem dX12_lend_26 : decode cX12_lend 26 = .ok (.ireturn, 1) := by decide +kernel
theorem dX12_lend_27 : decode cX12_lend 27 = .ok (.iload_n 1, 1) := by decide +kernel
theorem dX12_lend_28 : decode cX12_lend 28 = .ok (.iload_n 2, 1) := by decide +kernel
theorem dX12_lend_29 : decode cX12_lend 29 = .ok (.if_icmp .eq 12, 3) := by decide +kernel
theorem dX12_lend_32 : decode cX12_lend 32 = .ok (.iload_n 3, 1) := by decide +kernel
theorem dX12_lend_33 : decode cX12_lend 33 = .ok (.iconst 0, 1) := by decide +kernel
theorem dX12_lend_34 : decode cX12_lend 34 = .ok (.iconst 4, 1) := by decide +kernel
theorem dX12_lend_35 : decode cX12_lend 35 = .ok (.invokestatic 55, 3) := by decide +kernel
theorem dX12_lend_38 : decode cX12_lend 38 = .ok (.ifCond .ne 9, 3) := by decide +kernel
theorem dX12_lend_41 : decode cX12_lend 41 = .ok (.aload_n 0, 1) := by decide +kernel
theorem dX12_lend_42 : decode cX12_lend 42 = .ok (.iconst 2, 1) := by decide +kernel
theorem dX12_lend_43 : decode cX12_lend 43 = .ok (.invokevirtual 51, 3) := by decide +kernel
theorem dX12_lend_46 : decode cX12_lend 46 = .ok (.ireturn, 1) := by decide +kernel
theorem dX12_lend_47 : decode cX12_lend 47 = .ok (.aload_n 0, 1) := by decide +kernel
theorem dX12_lend_48 : decode cX12_lend 48 = .ok (.getfield 38, 3) := by decide +kernel
theorem dX12_lend_51 : decode cX12_lend 51 = .ok (.getfield 277, 3) := by decide +kernel
theorem dX12_lend_54 : decode cX12_lend 54 = .ok (.iload_n 1, 1) := by decide +kernel
theorem dX12_lend_55 : decode cX12_lend 55 = .ok (.iaload, 1) := by decide +kernel
theorem dX12_lend_56 : decode cX12_lend 56 = .ok (.iload_n 3, 1) := by decide +kernel
theorem dX12_lend_57 : decode cX12_lend 57 = .ok (.ishr, 1) := by decide +kernel
theorem dX12_lend_58 : decode cX12_lend 58 = .ok (.iconst 1, 1) := by decide +kernel
theorem dX12_lend_59 : decode cX12_lend 59 = .ok (.iand, 1) := by decide +kernel
theorem dX12_lend_60 : decode cX12_lend 60 = .ok (.ifCond .eq 28, 3) := by decide +kernel
theorem dX12_lend_63 : decode cX12_lend 63 = .ok (.aload_n 0, 1) := by decide +kernel
theorem dX12_lend_64 : decode cX12_lend 64 = .ok (.getfield 38, 3) := by decide +kernel
theorem dX12_lend_67 : decode cX12_lend 67 = .ok (.getfield 280, 3) := by decide +kernel
theorem dX12_lend_70 : decode cX12_lend 70 = .ok (.iload_n 1, 1) := by decide +kernel
theorem dX12_lend_71 : decode cX12_lend 71 = .ok (.baload, 1) := by decide +kernel
theorem dX12_lend_72 : decode cX12_lend 72 = .ok (.ifCond .ne 16, 3) := by decide +kernel
theorem dX12_lend_75 : decode cX12_lend 75 = .ok (.aload_n 0, 1) := by decide +kernel
theorem dX12_lend_76 : decode cX12_lend 76 = .ok (.getfield 38, 3) := by decide +kernel
theorem dX12_lend_79 : decode cX12_lend 79 = .ok (.getfield 283, 3) := by decide +kernel
theorem dX12_lend_82 : decode cX12_lend 82 = .ok (.iload_n 2, 1) := by decide +kernel
theorem dX12_lend_83 : decode cX12_lend 83 = .ok (.iaload, 1) := by decide +kernel
theorem dX12_lend_84 : decode cX12_lend 84 = .ok (.iload_n 3, 1) := by decide +kernel
theorem dX12_lend_85 : decode cX12_lend 85 = .ok (.if_icmp .eq 9, 3) := by decide +kernel
theorem dX12_lend_88 : decode cX12_lend 88 = .ok (.aload_n 0, 1) := by decide +kernel
theorem dX12_lend_89 : decode cX12_lend 89 = .ok (.iconst 3, 1) := by decide +kernel
theorem dX12_lend_90 : decode cX12_lend 90 = .ok (.invokevirtual 51, 3) := by decide +kernel
theorem dX12_lend_93 : decode cX12_lend 93 = .ok (.ireturn, 1) := by decide +kernel
theorem dX12_lend_94 : decode cX12_lend 94 = .ok (.aload_n 0, 1) := by decide +kernel
theorem dX12_lend_95 : decode cX12_lend 95 = .ok (.getfield 38, 3) := by decide +kernel
theorem dX12_lend_98 : decode cX12_lend 98 = .ok (.iload_n 2, 1) := by decide +kernel
theorem dX12_lend_99 : decode cX12_lend 99 = .ok (.invokevirtual 286, 3) := by decide +kernel
theorem dX12_lend_102 : decode cX12_lend 102 = .ok (.aload_n 0, 1) := by decide +kernel
theorem dX12_lend_103 : decode cX12_lend 103 = .ok (.getfield 38, 3) := by decide +kernel
theorem dX12_lend_106 : decode cX12_lend 106 = .ok (.getfield 277, 3) := by decide +kernel
theorem dX12_lend_109 : decode cX12_lend 109 = .ok (.iload_n 1, 1) := by decide +kernel
theorem dX12_lend_110 : decode cX12_lend 110 = .ok (.dup2, 1) := by decide +kernel
theorem dX12_lend_111 : decode cX12_lend 111 = .ok (.iaload, 1) := by decide +kernel
theorem dX12_lend_112 : decode cX12_lend 112 = .ok (.iconst 1, 1) := by decide +kernel
theorem dX12_lend_113 : decode cX12_lend 113 = .ok (.iload_n 3, 1) := by decide +kernel
theorem dX12_lend_114 : decode cX12_lend 114 = .ok (.ishl, 1) := by decide +kernel
theorem dX12_lend_115 : decode cX12_lend 115 = .ok (.iconst (-1), 1) := by decide +kernel
theorem dX12_lend_116 : decode cX12_lend 116 = .ok (.ixor, 1) := by decide +kernel
theorem dX12_lend_117 : decode cX12_lend 117 = .ok (.iand, 1) := by decide +kernel
theorem dX12_lend_118 : decode cX12_lend 118 = .ok (.iastore, 1) := by decide +kernel
theorem dX12_lend_119 : decode cX12_lend 119 = .ok (.aload_n 0, 1) := by decide +kernel
theorem dX12_lend_120 : decode cX12_lend 120 = .ok (.getfield 38, 3) := by decide +kernel
theorem dX12_lend_123 : decode cX12_lend 123 = .ok (.iload_n 1, 1) := by decide +kernel
theorem dX12_lend_124 : decode cX12_lend 124 = .ok (.iload_n 3, 1) := by decide +kernel
theorem dX12_lend_125 : decode cX12_lend 125 = .ok (.iconst 1, 1) := by decide +kernel
theorem dX12_lend_126 : decode cX12_lend 126 = .ok (.invokevirtual 290, 3) := by decide +kernel
theorem dX12_lend_129 : decode cX12_lend 129 = .ok (.aload_n 0, 1) := by decide +kernel
theorem dX12_lend_130 : decode cX12_lend 130 = .ok (.getfield 38, 3) := by decide +kernel
theorem dX12_lend_133 : decode cX12_lend 133 = .ok (.iconst (-1), 1) := by decide +kernel
theorem dX12_lend_134 : decode cX12_lend 134 = .ok (.invokevirtual 225, 3) := by decide +kernel
theorem dX12_lend_137 : decode cX12_lend 137 = .ok (.ireturn, 1) := by decide +kernel
theorem dX12_slip_0 : decode cX12_slip 0 = .ok (.aload_n 0, 1) := by decide +kernel
theorem dX12_slip_1 : decode cX12_slip 1 = .ok (.iconst 0, 1) := by decide +kernel
theorem dX12_slip_2 : decode cX12_slip 2 = .ok (.putfield 45, 3) := by decide +kernel
theorem dX12_slip_5 : decode cX12_slip 5 = .ok (.aload_n 0, 1) := by decide +kernel
theorem dX12_slip_6 : decode cX12_slip 6 = .ok (.iload_n 1, 1) := by decide +kernel
theorem dX12_slip_7 : decode cX12_slip 7 = .ok (.invokevirtual 234, 3) := by decide +kernel
theorem dX12_slip_10 : decode cX12_slip 10 = .ok (.ifCond .eq 25, 3) := by decide +kernel
theorem dX12_slip_13 : decode cX12_slip 13 = .ok (.iload_n 2, 1) := by decide +kernel
theorem dX12_slip_14 : decode cX12_slip 14 = .ok (.iconst 0, 1) := by decide +kernel
theorem dX12_slip_15 : decode cX12_slip 15 = .ok (.bipush 14, 2) := by decide +kernel
theorem dX12_slip_17 : decode cX12_slip 17 = .ok (.invokestatic 55, 3) := by decide +kernel
theorem dX12_slip_20 : decode cX12_slip 20 = .ok (.ifCond .eq 15, 3) := by decide +kernel
theorem dX12_slip_23 : decode cX12_slip 23 = .ok (.aload_n 0, 1) := by decide +kernel
theorem dX12_slip_24 : decode cX12_slip 24 = .ok (.getfield 38, 3) := by decide +kernel
theorem dX12_slip_27 : decode cX12_slip 27 = .ok (.iload_n 1, 1) := by decide +kernel
theorem dX12_slip_28 : decode cX12_slip 28 = .ok (.iload_n 2, 1) := by decide +kernel
theorem dX12_slip_29 : decode cX12_slip 29 = .ok (.invokevirtual 294, 3) := by decide +kernel
theorem dX12_slip_32 : decode cX12_slip 32 = .ok (.goto 8, 3) := by decide +kernel
theorem dX12_slip_35 : decode cX12_slip 35 = .ok (.aload_n 0, 1) := by decide +kernel
theorem dX12_slip_36 : decode cX12_slip 36 = .ok (.iconst 1, 1) := by decide +kernel
theorem dX12_slip_37 : decode cX12_slip 37 = .ok (.invokevirtual 51, 3) := by decide +kernel
theorem dX12_slip_40 : decode cX12_slip 40 = .ok (.ireturn, 1) := by decide +kernel
theorem dX12_bend_0 : decode cX12_bend 0 = .ok (.aload_n 0, 1) := by decide +kernel
theorem dX12_bend_1 : decode cX12_bend 1 = .ok (.iconst 0, 1) := by decide +kernel
theorem dX12_bend_2 : decode cX12_bend 2 = .ok (.putfield 45, 3) := by decide +kernel
theorem dX12_bend_5 : decode cX12_bend 5 = .ok (.aload_n 0, 1) := by decide +kernel
theorem dX12_bend_6 : decode cX12_bend 6 = .ok (.iload_n 1, 1) := by decide +kernel
theorem dX12_bend_7 : decode cX12_bend 7 = .ok (.invokevirtual 234, 3) := by decide +kernel
theorem dX12_bend_10 : decode cX12_bend 10 = .ok (.ifCond .eq 12, 3) := by decide +kernel
theorem dX12_bend_13 : decode cX12_bend 13 = .ok (.iload_n 2, 1) := by decide +kernel
theorem dX12_bend_14 : decode cX12_bend 14 = .ok (.iconst 0, 1) := by decide +kernel
theorem dX12_bend_15 : decode cX12_bend 15 = .ok (.iconst 2, 1) := by decide +kernel
theorem dX12_bend_16 : decode cX12_bend 16 = .ok (.invokestatic 55, 3) := by decide +kernel
theorem dX12_bend_19 : decode cX12_bend 19 = .ok (.ifCond .ne 9, 3) := by decide +kernel
theorem dX12_bend_22 : decode cX12_bend 22 = .ok (.aload_n 0, 1) := by decide +kernel
theorem dX12_bend_23 : decode cX12_bend 23 = .ok (.iconst 1, 1) := by decide +kernel
theorem dX12_bend_24 : decode cX12_bend 24 = .ok (.invokevirtual 51, 3) := by decide +kernel
theorem dX12_bend_27 : decode cX12_bend 27 = .ok (.ireturn, 1) := by decide +kernel
theorem dX12_bend_28 : decode cX12_bend 28 = .ok (.iload_n 3, 1) := by decide +kernel
theorem dX12_bend_29 : decode cX12_bend 29 = .ok (.ifCond .eq 19, 3) := by decide +kernel
theorem dX12_bend_32 : decode cX12_bend 32 = .ok (.aload_n 0, 1) := by decide +kernel
theorem dX12_bend_33 : decode cX12_bend 33 = .ok (.getfield 38, 3) := by decide +kernel
theorem dX12_bend_36 : decode cX12_bend 36 = .ok (.getfield 297, 3) := by decide +kernel
theorem dX12_bend_39 : decode cX12_bend 39 = .ok (.iconst 3, 1) := by decide +kernel
theorem dX12_bend_40 : decode cX12_bend 40 = .ok (.iload_n 1, 1) := by decide +kernel
theorem dX12_bend_41 : decode cX12_bend 41 = .ok (.imul, 1) := by decide +kernel
theorem dX12_bend_42 : decode cX12_bend 42 = .ok (.iload_n 2, 1) := by decide +kernel
theorem dX12_bend_43 : decode cX12_bend 43 = .ok (.iadd, 1) := by decide +kernel
theorem dX12_bend_44 : decode cX12_bend 44 = .ok (.iaload, 1) := by decide +kernel
theorem dX12_bend_45 : decode cX12_bend 45 = .ok (.goto 16, 3) := by decide +kernel
theorem dX12_bend_48 : decode cX12_bend 48 = .ok (.aload_n 0, 1) := by decide +kernel
theorem dX12_bend_49 : decode cX12_bend 49 = .ok (.getfield 38, 3) := by decide +kernel
theorem dX12_bend_52 : decode cX12_bend 52 = .ok (.getfield 300, 3) := by decide +kernel
theorem dX12_bend_55 : decode cX12_bend 55 = .ok (.iconst 3, 1) := by decide +kernel
theorem dX12_bend_56 : decode cX12_bend 56 = .ok (.iload_n 1, 1) := by decide +kernel
theorem dX12_bend_57 : decode cX12_bend 57 = .ok (.imul, 1) := by decide +kernel
theorem dX12_bend_58 : decode cX12_bend 58 = .ok (.iload_n 2, 1) := by decide +kernel
theorem dX12_bend_59 : decode cX12_bend 59 = .ok (.iadd, 1) := by decide +kernel
theorem dX12_bend_60 : decode cX12_bend 60 = .ok (.iaload, 1) := by decide +kernel
theorem dX12_bend_61 : decode cX12_bend 61 = .ok (.ireturn, 1) := by decide +kernel
theorem dX12_stuck_0 : decode cX12_stuck 0 = .ok (.aload_n 0, 1) := by decide +kernel
theorem dX12_stuck_1 : decode cX12_stuck 1 = .ok (.iconst 0, 1) := by decide +kernel
theorem dX12_stuck_2 : decode cX12_stuck 2 = .ok (.putfield 45, 3) := by decide +kernel
theorem dX12_stuck_5 : decode cX12_stuck 5 = .ok (.aload_n 0, 1) := by decide +kernel
theorem dX12_stuck_6 : decode cX12_stuck 6 = .ok (.getfield 38, 3) := by decide +kernel
theorem dX12_stuck_9 : decode cX12_stuck 9 = .ok (.invokevirtual 303, 3) := by decide +kernel
theorem dX12_stuck_12 : decode cX12_stuck 12 = .ok (.ireturn, 1) := by decide +kernel
theorem dX12_run_0 : decode cX12_run 0 = .ok (.aload_n 0, 1) := by decide +kernel
theorem dX12_run_1 : decode cX12_run 1 = .ok (.iconst 0, 1) := by decide +kernel
theorem dX12_run_2 : decode cX12_run 2 = .ok (.putfield 45, 3) := by decide +kernel
theorem dX12_run_5 : decode cX12_run 5 = .ok (.iload_n 1, 1) := by decide +kernel
theorem dX12_run_6 : decode cX12_run 6 = .ok (.iconst 1, 1) := by decide +kernel
theorem dX12_run_7 : decode cX12_run 7 = .ok (.sipush 200, 3) := by decide +kernel
theorem dX12_run_10 : decode cX12_run 10 = .ok (.invokestatic 55, 3) := by decide +kernel
theorem dX12_run_13 : decode cX12_run 13 = .ok (.ifCond .ne 9, 3) := by decide +kernel
theorem dX12_run_16 : decode cX12_run 16 = .ok (.aload_n 0, 1) := by decide +kernel
theorem dX12_run_17 : decode cX12_run 17 = .ok (.iconst 1, 1) := by decide +kernel
theorem dX12_run_18 : decode cX12_run 18 = .ok (.invokevirtual 51, 3) := by decide +kernel
theorem dX12_run_21 : decode cX12_run 21 = .ok (.ireturn, 1) := by decide +kernel
theorem dX12_run_22 : decode cX12_run 22 = .ok (.aload_n 0, 1) := by decide +kernel
theorem dX12_run_23 : decode cX12_run 23 = .ok (.getfield 38, 3) := by decide +kernel
theorem dX12_run_26 : decode cX12_run 26 = .ok (.getfield 306, 3) := by decide +kernel
theorem dX12_run_29 : decode cX12_run 29 = .ok (.istore_n 2, 1) := by decide +kernel
theorem dX12_run_30 : decode cX12_run 30 = .ok (.iconst 0, 1) := by decide +kernel
theorem dX12_run_31 : decode cX12_run 31 = .ok (.istore_n 3, 1) := by decide +kernel
theorem dX12_run_32 : decode cX12_run 32 = .ok (.iload_n 3, 1) := by decide +kernel
theorem dX12_run_33 : decode cX12_run 33 = .ok (.iload_n 1, 1) := by decide +kernel
theorem dX12_run_34 : decode cX12_run 34 = .ok (.if_icmp .ge 16, 3) := by decide +kernel
theorem dX12_run_37 : decode cX12_run 37 = .ok (.aload_n 0, 1) := by decide +kernel
theorem dX12_run_38 : decode cX12_run 38 = .ok (.getfield 38, 3) := by decide +kernel
theorem dX12_run_41 : decode cX12_run 41 = .ok (.invokevirtual 309, 3) := by decide +kernel
theorem dX12_run_44 : decode cX12_run 44 = .ok (.iinc 3 1, 3) := by decide +kernel
theorem dX12_run_47 : decode cX12_run 47 = .ok (.goto (-15), 3) := by decide +kernel
theorem dX12_run_50 : decode cX12_run 50 = .ok (.aload_n 0, 1) := by decide +kernel
theorem dX12_run_51 : decode cX12_run 51 = .ok (.getfield 38, 3) := by decide +kernel
theorem dX12_run_54 : decode cX12_run 54 = .ok (.getfield 306, 3) := by decide +kernel
theorem dX12_run_57 : decode cX12_run 57 = .ok (.iload_n 2, 1) := by decide +kernel
theorem dX12_run_58 : decode cX12_run 58 = .ok (.isub, 1) := by decide +kernel
theorem dX12_run_59 : decode cX12_run 59 = .ok (.ireturn, 1) := by decide +kernel
theorem dX12_count_0 : decode cX12_count 0 = .ok (.aload_n 0, 1) := by decide +kernel
theorem dX12_count_1 : decode cX12_count 1 = .ok (.iconst 0, 1) := by decide +kernel
theorem dX12_count_2 : decode cX12_count 2 = .ok (.putfield 45, 3) := by decide +kernel
theorem dX12_count_5 : decode cX12_count 5 = .ok (.iload_n 1, 1) := by decide +kernel
theorem dX12_count_6 : decode cX12_count 6 = .ok (.iconst 0, 1) := by decide +kernel
theorem dX12_count_7 : decode cX12_count 7 = .ok (.bipush 8, 2) := by decide +kernel
theorem dX12_count_9 : decode cX12_count 9 = .ok (.invokestatic 55, 3) := by decide +kernel
theorem dX12_count_12 : decode cX12_count 12 = .ok (.ifCond .eq 14, 3) := by decide +kernel
theorem dX12_count_15 : decode cX12_count 15 = .ok (.aload_n 0, 1) := by decide +kernel
theorem dX12_count_16 : decode cX12_count 16 = .ok (.getfield 38, 3) := by decide +kernel
theorem dX12_count_19 : decode cX12_count 19 = .ok (.iload_n 1, 1) := by decide +kernel
theorem dX12_count_20 : decode cX12_count 20 = .ok (.invokevirtual 274, 3) := by decide +kernel
theorem dX12_count_23 : decode cX12_count 23 = .ok (.goto 8, 3) := by decide +kernel
theorem dX12_count_26 : decode cX12_count 26 = .ok (.aload_n 0, 1) := by decide +kernel
theorem dX12_count_27 : decode cX12_count 27 = .ok (.iconst 1, 1) := by decide +kernel
theorem dX12_count_28 : decode cX12_count 28 = .ok (.invokevirtual 51, 3) := by decide +kernel
theorem dX12_count_31 : decode cX12_count 31 = .ok (.ireturn, 1) := by decide +kernel
theorem dX12_kept_0 : decode cX12_kept 0 = .ok (.bipush 40, 2) := by decide +kernel
theorem dX12_kept_2 : decode cX12_kept 2 = .ok (.aload_n 0, 1) := by decide +kernel
theorem dX12_kept_3 : decode cX12_kept 3 = .ok (.getfield 38, 3) := by decide +kernel
theorem dX12_kept_6 : decode cX12_kept 6 = .ok (.getfield 306, 3) := by decide +kernel
theorem dX12_kept_9 : decode cX12_kept 9 = .ok (.invokestatic 312, 3) := by decide +kernel
theorem dX12_kept_12 : decode cX12_kept 12 = .ok (.ireturn, 1) := by decide +kernel
theorem dX12_hull_0 : decode cX12_hull 0 = .ok (.aload_n 0, 1) := by decide +kernel
theorem dX12_hull_1 : decode cX12_hull 1 = .ok (.iconst 0, 1) := by decide +kernel
theorem dX12_hull_2 : decode cX12_hull 2 = .ok (.putfield 45, 3) := by decide +kernel
theorem dX12_hull_5 : decode cX12_hull 5 = .ok (.iload_n 1, 1) := by decide +kernel
theorem dX12_hull_6 : decode cX12_hull 6 = .ok (.iconst 0, 1) := by decide +kernel
theorem dX12_hull_7 : decode cX12_hull 7 = .ok (.aload_n 0, 1) := by decide +kernel
theorem dX12_hull_8 : decode cX12_hull 8 = .ok (.invokevirtual 317, 3) := by decide +kernel
theorem dX12_hull_11 : decode cX12_hull 11 = .ok (.iconst 1, 1) := by decide +kernel
theorem dX12_hull_12 : decode cX12_hull 12 = .ok (.isub, 1) := by decide +kernel
theorem dX12_hull_13 : decode cX12_hull 13 = .ok (.invokestatic 55, 3) := by decide +kernel
theorem dX12_hull_16 : decode cX12_hull 16 = .ok (.ifCond .eq 29, 3) := by decide +kernel
theorem dX12_hull_19 : decode cX12_hull 19 = .ok (.iload_n 2, 1) := by decide +kernel
theorem dX12_hull_20 : decode cX12_hull 20 = .ok (.iconst 0, 1) := by decide +kernel
theorem dX12_hull_21 : decode cX12_hull 21 = .ok (.iconst 5, 1) := by decide +kernel
theorem dX12_hull_22 : decode cX12_hull 22 = .ok (.invokestatic 55, 3) := by decide +kernel
theorem dX12_hull_25 : decode cX12_hull 25 = .ok (.ifCond .eq 20, 3) := by decide +kernel
theorem dX12_hull_28 : decode cX12_hull 28 = .ok (.aload_n 0, 1) := by decide +kernel
theorem dX12_hull_29 : decode cX12_hull 29 = .ok (.getfield 38, 3) := by decide +kernel
theorem dX12_hull_32 : decode cX12_hull 32 = .ok (.getfield 320, 3) := by decide +kernel
theorem dX12_hull_35 : decode cX12_hull 35 = .ok (.bipush 6, 2) := by decide +kernel
theorem dX12_hull_37 : decode cX12_hull 37 = .ok (.iload_n 1, 1) := by decide +kernel
theorem dX12_hull_38 : decode cX12_hull 38 = .ok (.imul, 1) := by decide +kernel
theorem dX12_hull_39 : decode cX12_hull 39 = .ok (.iload_n 2, 1) := by decide +kernel
theorem dX12_hull_40 : decode cX12_hull 40 = .ok (.iadd, 1) := by decide +kernel
theorem dX12_hull_41 : decode cX12_hull 41 = .ok (.iaload, 1) := by decide +kernel
theorem dX12_hull_42 : decode cX12_hull 42 = .ok (.goto 8, 3) := by decide +kernel
theorem dX12_hull_45 : decode cX12_hull 45 = .ok (.aload_n 0, 1) := by decide +kernel
theorem dX12_hull_46 : decode cX12_hull 46 = .ok (.iconst 1, 1) := by decide +kernel
theorem dX12_hull_47 : decode cX12_hull 47 = .ok (.invokevirtual 51, 3) := by decide +kernel
theorem dX12_hull_50 : decode cX12_hull 50 = .ok (.ireturn, 1) := by decide +kernel
theorem dX12_foresee_0 : decode cX12_foresee 0 = .ok (.aload_n 0, 1) := by decide +kernel
theorem dX12_foresee_1 : decode cX12_foresee 1 = .ok (.iconst 0, 1) := by decide +kernel
theorem dX12_foresee_2 : decode cX12_foresee 2 = .ok (.putfield 45, 3) := by decide +kernel
theorem dX12_foresee_5 : decode cX12_foresee 5 = .ok (.iload_n 1, 1) := by decide +kernel
theorem dX12_foresee_6 : decode cX12_foresee 6 = .ok (.iconst 1, 1) := by decide +kernel
theorem dX12_foresee_7 : decode cX12_foresee 7 = .ok (.sipush 200, 3) := by decide +kernel
theorem dX12_foresee_10 : decode cX12_foresee 10 = .ok (.invokestatic 55, 3) := by decide +kernel
theorem dX12_foresee_13 : decode cX12_foresee 13 = .ok (.ifCond .ne 9, 3) := by decide +kernel
theorem dX12_foresee_16 : decode cX12_foresee 16 = .ok (.aload_n 0, 1) := by decide +kernel
theorem dX12_foresee_17 : decode cX12_foresee 17 = .ok (.iconst 1, 1) := by decide +kernel
theorem dX12_foresee_18 : decode cX12_foresee 18 = .ok (.invokevirtual 51, 3) := by decide +kernel
theorem dX12_foresee_21 : decode cX12_foresee 21 = .ok (.ireturn, 1) := by decide +kernel
theorem dX12_foresee_22 : decode cX12_foresee 22 = .ok (.iload_n 2, 1) := by decide +kernel
theorem dX12_foresee_23 : decode cX12_foresee 23 = .ok (.iconst 0, 1) := by decide +kernel
theorem dX12_foresee_24 : decode cX12_foresee 24 = .ok (.iconst 3, 1) := by decide +kernel
theorem dX12_foresee_25 : decode cX12_foresee 25 = .ok (.invokestatic 55, 3) := by decide +kernel
theorem dX12_foresee_28 : decode cX12_foresee 28 = .ok (.ifCond .ne 9, 3) := by decide +kernel
theorem dX12_foresee_31 : decode cX12_foresee 31 = .ok (.aload_n 0, 1) := by decide +kernel
theorem dX12_foresee_32 : decode cX12_foresee 32 = .ok (.iconst 2, 1) := by decide +kernel
theorem dX12_foresee_33 : decode cX12_foresee 33 = .ok (.invokevirtual 51, 3) := by decide +kernel
theorem dX12_foresee_36 : decode cX12_foresee 36 = .ok (.ireturn, 1) := by decide +kernel
theorem dX12_foresee_37 : decode cX12_foresee 37 = .ok (.aload_n 0, 1) := by decide +kernel
theorem dX12_foresee_38 : decode cX12_foresee 38 = .ok (.getfield 42, 3) := by decide +kernel
theorem dX12_foresee_41 : decode cX12_foresee 41 = .ok (.aload_n 0, 1) := by decide +kernel
theorem dX12_foresee_42 : decode cX12_foresee 42 = .ok (.getfield 38, 3) := by decide +kernel
theorem dX12_foresee_45 : decode cX12_foresee 45 = .ok (.invokevirtual 323, 3) := by decide +kernel
theorem dX12_foresee_48 : decode cX12_foresee 48 = .ok (.iconst (-1), 1) := by decide +kernel
theorem dX12_foresee_49 : decode cX12_foresee 49 = .ok (.istore_n 3, 1) := by decide +kernel
theorem dX12_foresee_50 : decode cX12_foresee 50 = .ok (.iconst 0, 1) := by decide +kernel
theorem dX12_foresee_51 : decode cX12_foresee 51 = .ok (.istore 4, 2) := by decide +kernel
theorem dX12_foresee_53 : decode cX12_foresee 53 = .ok (.iload 4, 2) := by decide +kernel
theorem dX12_foresee_55 : decode cX12_foresee 55 = .ok (.iload_n 1, 1) := by decide +kernel
theorem dX12_foresee_56 : decode cX12_foresee 56 = .ok (.if_icmp .ge 46, 3) := by decide +kernel
theorem dX12_foresee_59 : decode cX12_foresee 59 = .ok (.aload_n 0, 1) := by decide +kernel
theorem dX12_foresee_60 : decode cX12_foresee 60 = .ok (.getfield 42, 3) := by decide +kernel
theorem dX12_foresee_63 : decode cX12_foresee 63 = .ok (.invokevirtual 309, 3) := by decide +kernel
theorem dX12_foresee_66 : decode cX12_foresee 66 = .ok (.iload_n 3, 1) := by decide +kernel
theorem dX12_foresee_67 : decode cX12_foresee 67 = .ok (.iconst (-1), 1) := by decide +kernel
theorem dX12_foresee_68 : decode cX12_foresee 68 = .ok (.if_icmp .ne 28, 3) := by decide +kernel
theorem dX12_foresee_71 : decode cX12_foresee 71 = .ok (.aload_n 0, 1) := by decide +kernel
theorem dX12_foresee_72 : decode cX12_foresee 72 = .ok (.getfield 42, 3) := by decide +kernel
theorem dX12_foresee_75 : decode cX12_foresee 75 = .ok (.getfield 306, 3) := by decide +kernel
theorem dX12_foresee_78 : decode cX12_foresee 78 = .ok (.aload_n 0, 1) := by decide +kernel
theorem dX12_foresee_79 : decode cX12_foresee 79 = .ok (.getfield 38, 3) := by decide +kernel
theorem dX12_foresee_82 : decode cX12_foresee 82 = .ok (.getfield 306, 3) := by decide +kernel
theorem dX12_foresee_85 : decode cX12_foresee 85 = .ok (.if_icmp .le 11, 3) := by decide +kernel
theorem dX12_foresee_88 : decode cX12_foresee 88 = .ok (.aload_n 0, 1) := by decide +kernel
theorem dX12_foresee_89 : decode cX12_foresee 89 = .ok (.getfield 42, 3) := by decide +kernel
theorem dX12_foresee_92 : decode cX12_foresee 92 = .ok (.getfield 271, 3) := by decide +kernel
theorem dX12_foresee_95 : decode cX12_foresee 95 = .ok (.istore_n 3, 1) := by decide +kernel
theorem dX12_foresee_96 : decode cX12_foresee 96 = .ok (.iinc 4 1, 3) := by decide +kernel
theorem dX12_foresee_99 : decode cX12_foresee 99 = .ok (.goto (-46), 3) := by decide +kernel
theorem dX12_foresee_102 : decode cX12_foresee 102 = .ok (.iload_n 2, 1) := by decide +kernel
theorem dX12_foresee_103 : decode cX12_foresee 103 = .ok (.ifCond .ne 21, 3) := by decide +kernel
theorem dX12_foresee_106 : decode cX12_foresee 106 = .ok (.aload_n 0, 1) := by decide +kernel
theorem dX12_foresee_107 : decode cX12_foresee 107 = .ok (.getfield 42, 3) := by decide +kernel
theorem dX12_foresee_110 : decode cX12_foresee 110 = .ok (.getfield 306, 3) := by decide +kernel
theorem dX12_foresee_113 : decode cX12_foresee 113 = .ok (.aload_n 0, 1) := by decide +kernel
theorem dX12_foresee_114 : decode cX12_foresee 114 = .ok (.getfield 38, 3) := by decide +kernel
theorem dX12_foresee_117 : decode cX12_foresee 117 = .ok (.getfield 306, 3) := by decide +kernel
theorem dX12_foresee_120 : decode cX12_foresee 120 = .ok (.isub, 1) := by decide +kernel
theorem dX12_foresee_121 : decode cX12_foresee 121 = .ok (.goto 42, 3) := by decide +kernel
theorem dX12_foresee_124 : decode cX12_foresee 124 = .ok (.iload_n 2, 1) := by decide +kernel
theorem dX12_foresee_125 : decode cX12_foresee 125 = .ok (.iconst 1, 1) := by decide +kernel
theorem dX12_foresee_126 : decode cX12_foresee 126 = .ok (.if_icmp .ne 21, 3) := by decide +kernel
theorem dX12_foresee_129 : decode cX12_foresee 129 = .ok (.aload_n 0, 1) := by decide +kernel
theorem dX12_foresee_130 : decode cX12_foresee 130 = .ok (.getfield 42, 3) := by decide +kernel
theorem dX12_foresee_133 : decode cX12_foresee 133 = .ok (.getfield 327, 3) := by decide +kernel
theorem dX12_foresee_136 : decode cX12_foresee 136 = .ok (.aload_n 0, 1) := by decide +kernel
theorem dX12_foresee_137 : decode cX12_foresee 137 = .ok (.getfield 38, 3) := by decide +kernel
theorem dX12_foresee_140 : decode cX12_foresee 140 = .ok (.getfield 327, 3) := by decide +kernel
theorem dX12_foresee_143 : decode cX12_foresee 143 = .ok (.isub, 1) := by decide +kernel
theorem dX12_foresee_144 : decode cX12_foresee 144 = .ok (.goto 19, 3) := by decide +kernel
theorem dX12_foresee_147 : decode cX12_foresee 147 = .ok (.iload_n 2, 1) := by decide +kernel
theorem dX12_foresee_148 : decode cX12_foresee 148 = .ok (.iconst 2, 1) := by decide +kernel
theorem dX12_foresee_149 : decode cX12_foresee 149 = .ok (.if_icmp .ne 13, 3) := by decide +kernel
theorem dX12_foresee_152 : decode cX12_foresee 152 = .ok (.aload_n 0, 1) := by decide +kernel
theorem dX12_foresee_153 : decode cX12_foresee 153 = .ok (.getfield 42, 3) := by decide +kernel
theorem dX12_foresee_156 : decode cX12_foresee 156 = .ok (.invokevirtual 303, 3) := by decide +kernel
theorem dX12_foresee_159 : decode cX12_foresee 159 = .ok (.goto 4, 3) := by decide +kernel
theorem dX12_foresee_162 : decode cX12_foresee 162 = .ok (.iload_n 3, 1) := by decide +kernel
theorem dX12_foresee_163 : decode cX12_foresee 163 = .ok (.ireturn, 1) := by decide +kernel
theorem dX12_flaw_0 : decode cX12_flaw 0 = .ok (.aload_n 0, 1) := by decide +kernel
theorem dX12_flaw_1 : decode cX12_flaw 1 = .ok (.iconst 0, 1) := by decide +kernel
theorem dX12_flaw_2 : decode cX12_flaw 2 = .ok (.putfield 45, 3) := by decide +kernel
theorem dX12_flaw_5 : decode cX12_flaw 5 = .ok (.iconst 0, 1) := by decide +kernel
theorem dX12_flaw_6 : decode cX12_flaw 6 = .ok (.istore_n 1, 1) := by decide +kernel
theorem dX12_flaw_7 : decode cX12_flaw 7 = .ok (.iconst 0, 1) := by decide +kernel
theorem dX12_flaw_8 : decode cX12_flaw 8 = .ok (.istore_n 2, 1) := by decide +kernel
theorem dX12_flaw_9 : decode cX12_flaw 9 = .ok (.iconst 0, 1) := by decide +kernel
theorem dX12_flaw_10 : decode cX12_flaw 10 = .ok (.istore_n 3, 1) := by decide +kernel
theorem dX12_flaw_11 : decode cX12_flaw 11 = .ok (.iload_n 3, 1) := by decide +kernel
theorem dX12_flaw_12 : decode cX12_flaw 12 = .ok (.aload_n 0, 1) := by decide +kernel
theorem dX12_flaw_13 : decode cX12_flaw 13 = .ok (.invokevirtual 317, 3) := by decide +kernel
theorem dX12_flaw_16 : decode cX12_flaw 16 = .ok (.if_icmp .ge 43, 3) := by decide +kernel
theorem dX12_flaw_19 : decode cX12_flaw 19 = .ok (.iload_n 1, 1) := by decide +kernel
theorem dX12_flaw_20 : decode cX12_flaw 20 = .ok (.aload_n 0, 1) := by decide +kernel
theorem dX12_flaw_21 : decode cX12_flaw 21 = .ok (.getfield 38, 3) := by decide +kernel
theorem dX12_flaw_24 : decode cX12_flaw 24 = .ok (.getfield 320, 3) := by decide +kernel
theorem dX12_flaw_27 : decode cX12_flaw 27 = .ok (.bipush 6, 2) := by decide +kernel
theorem dX12_flaw_29 : decode cX12_flaw 29 = .ok (.iload_n 3, 1) := by decide +kernel
theorem dX12_flaw_30 : decode cX12_flaw 30 = .ok (.imul, 1) := by decide +kernel
theorem dX12_flaw_31 : decode cX12_flaw 31 = .ok (.iconst 3, 1) := by decide +kernel
theorem dX12_flaw_32 : decode cX12_flaw 32 = .ok (.iadd, 1) := by decide +kernel
theorem dX12_flaw_33 : decode cX12_flaw 33 = .ok (.iaload, 1) := by decide +kernel
theorem dX12_flaw_34 : decode cX12_flaw 34 = .ok (.iadd, 1) := by decide +kernel
theorem dX12_flaw_35 : decode cX12_flaw 35 = .ok (.istore_n 1, 1) := by decide +kernel
theorem dX12_flaw_36 : decode cX12_flaw 36 = .ok (.iload_n 2, 1) := by decide +kernel
theorem dX12_flaw_37 : decode cX12_flaw 37 = .ok (.aload_n 0, 1) := by decide +kernel
theorem dX12_flaw_38 : decode cX12_flaw 38 = .ok (.getfield 38, 3) := by decide +kernel
theorem dX12_flaw_41 : decode cX12_flaw 41 = .ok (.getfield 320, 3) := by decide +kernel
theorem dX12_flaw_44 : decode cX12_flaw 44 = .ok (.bipush 6, 2) := by decide +kernel
theorem dX12_flaw_46 : decode cX12_flaw 46 = .ok (.iload_n 3, 1) := by decide +kernel
theorem dX12_flaw_47 : decode cX12_flaw 47 = .ok (.imul, 1) := by decide +kernel
theorem dX12_flaw_48 : decode cX12_flaw 48 = .ok (.iconst 2, 1) := by decide +kernel
theorem dX12_flaw_49 : decode cX12_flaw 49 = .ok (.iadd, 1) := by decide +kernel
theorem dX12_flaw_50 : decode cX12_flaw 50 = .ok (.iaload, 1) := by decide +kernel
theorem dX12_flaw_51 : decode cX12_flaw 51 = .ok (.iadd, 1) := by decide +kernel
theorem dX12_flaw_52 : decode cX12_flaw 52 = .ok (.istore_n 2, 1) := by decide +kernel
theorem dX12_flaw_53 : decode cX12_flaw 53 = .ok (.iinc 3 1, 3) := by decide +kernel
theorem dX12_flaw_56 : decode cX12_flaw 56 = .ok (.goto (-45), 3) := by decide +kernel
theorem dX12_flaw_59 : decode cX12_flaw 59 = .ok (.iload_n 2, 1) := by decide +kernel
theorem dX12_flaw_60 : decode cX12_flaw 60 = .ok (.ifCond .ne 7, 3) := by decide +kernel
theorem dX12_flaw_63 : decode cX12_flaw 63 = .ok (.dconst 0, 1) := by decide +kernel
theorem dX12_flaw_64 : decode cX12_flaw 64 = .ok (.goto 8, 3) := by decide +kernel
theorem dX12_flaw_67 : decode cX12_flaw 67 = .ok (.iload_n 1, 1) := by decide +kernel
theorem dX12_flaw_68 : decode cX12_flaw 68 = .ok (.i2d, 1) := by decide +kernel
theorem dX12_flaw_69 : decode cX12_flaw 69 = .ok (.iload_n 2, 1) := by decide +kernel
theorem dX12_flaw_70 : decode cX12_flaw 70 = .ok (.i2d, 1) := by decide +kernel
theorem dX12_flaw_71 : decode cX12_flaw 71 = .ok (.ddiv, 1) := by decide +kernel
theorem dX12_flaw_72 : decode cX12_flaw 72 = .ok (.dreturn, 1) := by decide +kernel
theorem dX12_digest_0 : decode cX12_digest 0 = .ok (.aload_n 0, 1) := by decide +kernel
theorem dX12_digest_1 : decode cX12_digest 1 = .ok (.iconst 0, 1) := by decide +kernel
theorem dX12_digest_2 : decode cX12_digest 2 = .ok (.putfield 45, 3) := by decide +kernel
theorem dX12_digest_5 : decode cX12_digest 5 = .ok (.ldc2_w 330, 3) := by decide +kernel
theorem dX12_digest_8 : decode cX12_digest 8 = .ok (.lstore_n 1, 1) := by decide +kernel
theorem dX12_digest_9 : decode cX12_digest 9 = .ok (.iconst 0, 1) := by decide +kernel
theorem dX12_digest_10 : decode cX12_digest 10 = .ok (.istore_n 3, 1) := by decide +kernel
theorem dX12_digest_11 : decode cX12_digest 11 = .ok (.iload_n 3, 1) := by decide +kernel
theorem dX12_digest_12 : decode cX12_digest 12 = .ok (.bipush 9, 2) := by decide +kernel
theorem dX12_digest_14 : decode cX12_digest 14 = .ok (.if_icmp .ge 25, 3) := by decide +kernel
theorem dX12_digest_17 : decode cX12_digest 17 = .ok (.lload_n 1, 1) := by decide +kernel
theorem dX12_digest_18 : decode cX12_digest 18 = .ok (.ldc2_w 332, 3) := by decide +kernel
theorem dX12_digest_21 : decode cX12_digest 21 = .ok (.lmul, 1) := by decide +kernel
theorem dX12_digest_22 : decode cX12_digest 22 = .ok (.aload_n 0, 1) := by decide +kernel
theorem dX12_digest_23 : decode cX12_digest 23 = .ok (.getfield 38, 3) := by decide +kernel
theorem dX12_digest_26 : decode cX12_digest 26 = .ok (.iload_n 3, 1) := by decide +kernel
theorem dX12_digest_27 : decode cX12_digest 27 = .ok (.invokevirtual 274, 3) := by decide +kernel
theorem dX12_digest_30 : decode cX12_digest 30 = .ok (.i2l, 1) := by decide +kernel
theorem dX12_digest_31 : decode cX12_digest 31 = .ok (.ladd, 1) := by decide +kernel
theorem dX12_digest_32 : decode cX12_digest 32 = .ok (.lstore_n 1, 1) := by decide +kernel
theorem dX12_digest_33 : decode cX12_digest 33 = .ok (.iinc 3 1, 3) := by decide +kernel
theorem dX12_digest_36 : decode cX12_digest 36 = .ok (.goto (-25), 3) := by decide +kernel
theorem dX12_digest_39 : decode cX12_digest 39 = .ok (.iconst 0, 1) := by decide +kernel
theorem dX12_digest_40 : decode cX12_digest 40 = .ok (.istore_n 3, 1) := by decide +kernel
theorem dX12_digest_41 : decode cX12_digest 41 = .ok (.iload_n 3, 1) := by decide +kernel
theorem dX12_digest_42 : decode cX12_digest 42 = .ok (.bipush 6, 2) := by decide +kernel
theorem dX12_digest_44 : decode cX12_digest 44 = .ok (.if_icmp .ge 39, 3) := by decide +kernel
theorem dX12_digest_47 : decode cX12_digest 47 = .ok (.iconst 0, 1) := by decide +kernel
theorem dX12_digest_48 : decode cX12_digest 48 = .ok (.istore 4, 2) := by decide +kernel
theorem dX12_digest_50 : decode cX12_digest 50 = .ok (.iload 4, 2) := by decide +kernel
theorem dX12_digest_52 : decode cX12_digest 52 = .ok (.iconst 4, 1) := by decide +kernel
theorem dX12_digest_53 : decode cX12_digest 53 = .ok (.if_icmp .ge 24, 3) := by decide +kernel
theorem dX12_digest_56 : decode cX12_digest 56 = .ok (.lload_n 1, 1) := by decide +kernel
theorem dX12_digest_57 : decode cX12_digest 57 = .ok (.ldc2_w 332, 3) := by decide +kernel
theorem dX12_digest_60 : decode cX12_digest 60 = .ok (.lmul, 1) := by decide +kernel
theorem dX12_digest_61 : decode cX12_digest 61 = .ok (.aload_n 0, 1) := by decide +kernel
theorem dX12_digest_62 : decode cX12_digest 62 = .ok (.iload_n 3, 1) := by decide +kernel
theorem dX12_digest_63 : decode cX12_digest 63 = .ok (.iload 4, 2) := by decide +kernel
theorem dX12_digest_65 : decode cX12_digest 65 = .ok (.invokevirtual 174, 3) := by decide +kernel
theorem dX12_digest_68 : decode cX12_digest 68 = .ok (.i2l, 1) := by decide +kernel
theorem dX12_digest_69 : decode cX12_digest 69 = .ok (.ladd, 1) := by decide +kernel
theorem dX12_digest_70 : decode cX12_digest 70 = .ok (.lstore_n 1, 1) := by decide +kernel
theorem dX12_digest_71 : decode cX12_digest 71 = .ok (.iinc 4 1, 3) := by decide +kernel
theorem dX12_digest_74 : decode cX12_digest 74 = .ok (.goto (-24), 3) := by decide +kernel
theorem dX12_digest_77 : decode cX12_digest 77 = .ok (.iinc 3 1, 3) := by decide +kernel
theorem dX12_digest_80 : decode cX12_digest 80 = .ok (.goto (-39), 3) := by decide +kernel
theorem dX12_digest_83 : decode cX12_digest 83 = .ok (.iconst 0, 1) := by decide +kernel
theorem dX12_digest_84 : decode cX12_digest 84 = .ok (.istore_n 3, 1) := by decide +kernel
theorem dX12_digest_85 : decode cX12_digest 85 = .ok (.iload_n 3, 1) := by decide +kernel
theorem dX12_digest_86 : decode cX12_digest 86 = .ok (.aload_n 0, 1) := by decide +kernel
theorem dX12_digest_87 : decode cX12_digest 87 = .ok (.getfield 38, 3) := by decide +kernel
theorem dX12_digest_90 : decode cX12_digest 90 = .ok (.getfield 178, 3) := by decide +kernel
theorem dX12_digest_93 : decode cX12_digest 93 = .ok (.if_icmp .ge 39, 3) := by decide +kernel
theorem dX12_digest_96 : decode cX12_digest 96 = .ok (.iconst 0, 1) := by decide +kernel
theorem dX12_digest_97 : decode cX12_digest 97 = .ok (.istore 4, 2) := by decide +kernel
theorem dX12_digest_99 : decode cX12_digest 99 = .ok (.iload 4, 2) := by decide +kernel
theorem dX12_digest_101 : decode cX12_digest 101 = .ok (.iconst 5, 1) := by decide +kernel
theorem dX12_digest_102 : decode cX12_digest 102 = .ok (.if_icmp .ge 24, 3) := by decide +kernel
theorem dX12_digest_105 : decode cX12_digest 105 = .ok (.lload_n 1, 1) := by decide +kernel
theorem dX12_digest_106 : decode cX12_digest 106 = .ok (.ldc2_w 332, 3) := by decide +kernel
theorem dX12_digest_109 : decode cX12_digest 109 = .ok (.lmul, 1) := by decide +kernel
theorem dX12_digest_110 : decode cX12_digest 110 = .ok (.aload_n 0, 1) := by decide +kernel
theorem dX12_digest_111 : decode cX12_digest 111 = .ok (.iload_n 3, 1) := by decide +kernel
theorem dX12_digest_112 : decode cX12_digest 112 = .ok (.iload 4, 2) := by decide +kernel
theorem dX12_digest_114 : decode cX12_digest 114 = .ok (.invokevirtual 210, 3) := by decide +kernel
theorem dX12_digest_117 : decode cX12_digest 117 = .ok (.i2l, 1) := by decide +kernel
theorem dX12_digest_118 : decode cX12_digest 118 = .ok (.ladd, 1) := by decide +kernel
theorem dX12_digest_119 : decode cX12_digest 119 = .ok (.lstore_n 1, 1) := by decide +kernel
theorem dX12_digest_120 : decode cX12_digest 120 = .ok (.iinc 4 1, 3) := by decide +kernel
theorem dX12_digest_123 : decode cX12_digest 123 = .ok (.goto (-24), 3) := by decide +kernel
theorem dX12_digest_126 : decode cX12_digest 126 = .ok (.iinc 3 1, 3) := by decide +kernel
theorem dX12_digest_129 : decode cX12_digest 129 = .ok (.goto (-44), 3) := by decide +kernel
theorem dX12_digest_132 : decode cX12_digest 132 = .ok (.iconst 0, 1) := by decide +kernel
theorem dX12_digest_133 : decode cX12_digest 133 = .ok (.istore_n 3, 1) := by decide +kernel
theorem dX12_digest_134 : decode cX12_digest 134 = .ok (.iload_n 3, 1) := by decide +kernel
theorem dX12_digest_135 : decode cX12_digest 135 = .ok (.iconst 5, 1) := by decide +kernel
theorem dX12_digest_136 : decode cX12_digest 136 = .ok (.if_icmp .ge 39, 3) := by decide +kernel
theorem dX12_digest_139 : decode cX12_digest 139 = .ok (.iconst 0, 1) := by decide +kernel
theorem dX12_digest_140 : decode cX12_digest 140 = .ok (.istore 4, 2) := by decide +kernel
theorem dX12_digest_142 : decode cX12_digest 142 = .ok (.iload 4, 2) := by decide +kernel
theorem dX12_digest_144 : decode cX12_digest 144 = .ok (.iconst 3, 1) := by decide +kernel
theorem dX12_digest_145 : decode cX12_digest 145 = .ok (.if_icmp .ge 24, 3) := by decide +kernel
theorem dX12_digest_148 : decode cX12_digest 148 = .ok (.lload_n 1, 1) := by decide +kernel
theorem dX12_digest_149 : decode cX12_digest 149 = .ok (.ldc2_w 332, 3) := by decide +kernel
theorem dX12_digest_152 : decode cX12_digest 152 = .ok (.lmul, 1) := by decide +kernel
theorem dX12_digest_153 : decode cX12_digest 153 = .ok (.aload_n 0, 1) := by decide +kernel
theorem dX12_digest_154 : decode cX12_digest 154 = .ok (.iload_n 3, 1) := by decide +kernel
theorem dX12_digest_155 : decode cX12_digest 155 = .ok (.iload 4, 2) := by decide +kernel
theorem dX12_digest_157 : decode cX12_digest 157 = .ok (.invokevirtual 228, 3) := by decide +kernel
theorem dX12_digest_160 : decode cX12_digest 160 = .ok (.i2l, 1) := by decide +kernel
theorem dX12_digest_161 : decode cX12_digest 161 = .ok (.ladd, 1) := by decide +kernel
theorem dX12_digest_162 : decode cX12_digest 162 = .ok (.lstore_n 1, 1) := by decide +kernel
theorem dX12_digest_163 : decode cX12_digest 163 = .ok (.iinc 4 1, 3) := by decide +kernel
theorem dX12_digest_166 : decode cX12_digest 166 = .ok (.goto (-24), 3) := by decide +kernel
theorem dX12_digest_169 : decode cX12_digest 169 = .ok (.iinc 3 1, 3) := by decide +kernel
theorem dX12_digest_172 : decode cX12_digest 172 = .ok (.goto (-38), 3) := by decide +kernel
theorem dX12_digest_175 : decode cX12_digest 175 = .ok (.iconst 0, 1) := by decide +kernel
theorem dX12_digest_176 : decode cX12_digest 176 = .ok (.istore_n 3, 1) := by decide +kernel
theorem dX12_digest_177 : decode cX12_digest 177 = .ok (.iload_n 3, 1) := by decide +kernel
theorem dX12_digest_178 : decode cX12_digest 178 = .ok (.aload_n 0, 1) := by decide +kernel
theorem dX12_digest_179 : decode cX12_digest 179 = .ok (.getfield 38, 3) := by decide +kernel
theorem dX12_digest_182 : decode cX12_digest 182 = .ok (.getfield 231, 3) := by decide +kernel
theorem dX12_digest_185 : decode cX12_digest 185 = .ok (.if_icmp .ge 117, 3) := by decide +kernel
theorem dX12_digest_188 : decode cX12_digest 188 = .ok (.iconst 0, 1) := by decide +kernel
theorem dX12_digest_189 : decode cX12_digest 189 = .ok (.istore 4, 2) := by decide +kernel
theorem dX12_digest_191 : decode cX12_digest 191 = .ok (.iload 4, 2) := by decide +kernel
theorem dX12_digest_193 : decode cX12_digest 193 = .ok (.bipush 15, 2) := by decide +kernel
theorem dX12_digest_195 : decode cX12_digest 195 = .ok (.if_icmp .ge 27, 3) := by decide +kernel
theorem dX12_digest_198 : decode cX12_digest 198 = .ok (.lload_n 1, 1) := by decide +kernel
theorem dX12_digest_199 : decode cX12_digest 199 = .ok (.ldc2_w 332, 3) := by decide +kernel
theorem dX12_digest_202 : decode cX12_digest 202 = .ok (.lmul, 1) := by decide +kernel
theorem dX12_digest_203 : decode cX12_digest 203 = .ok (.aload_n 0, 1) := by decide +kernel
theorem dX12_digest_204 : decode cX12_digest 204 = .ok (.getfield 38, 3) := by decide +kernel
theorem dX12_digest_207 : decode cX12_digest 207 = .ok (.iload_n 3, 1) := by decide +kernel
theorem dX12_digest_208 : decode cX12_digest 208 = .ok (.iload 4, 2) := by decide +kernel
theorem dX12_digest_210 : decode cX12_digest 210 = .ok (.invokevirtual 294, 3) := by decide +kernel
theorem dX12_digest_213 : decode cX12_digest 213 = .ok (.i2l, 1) := by decide +kernel
theorem dX12_digest_214 : decode cX12_digest 214 = .ok (.ladd, 1) := by decide +kernel
theorem dX12_digest_215 : decode cX12_digest 215 = .ok (.lstore_n 1, 1) := by decide +kernel
theorem dX12_digest_216 : decode cX12_digest 216 = .ok (.iinc 4 1, 3) := by decide +kernel
theorem dX12_digest_219 : decode cX12_digest 219 = .ok (.goto (-28), 3) := by decide +kernel
theorem dX12_digest_222 : decode cX12_digest 222 = .ok (.iconst 0, 1) := by decide +kernel
theorem dX12_digest_223 : decode cX12_digest 223 = .ok (.istore 4, 2) := by decide +kernel
theorem dX12_digest_225 : decode cX12_digest 225 = .ok (.iload 4, 2) := by decide +kernel
theorem dX12_digest_227 : decode cX12_digest 227 = .ok (.iconst 3, 1) := by decide +kernel
theorem dX12_digest_228 : decode cX12_digest 228 = .ok (.if_icmp .ge 31, 3) := by decide +kernel
theorem dX12_digest_231 : decode cX12_digest 231 = .ok (.lload_n 1, 1) := by decide +kernel
theorem dX12_digest_232 : decode cX12_digest 232 = .ok (.ldc2_w 332, 3) := by decide +kernel
theorem dX12_digest_235 : decode cX12_digest 235 = .ok (.lmul, 1) := by decide +kernel
theorem dX12_digest_236 : decode cX12_digest 236 = .ok (.aload_n 0, 1) := by decide +kernel
theorem dX12_digest_237 : decode cX12_digest 237 = .ok (.getfield 38, 3) := by decide +kernel
theorem dX12_digest_240 : decode cX12_digest 240 = .ok (.getfield 300, 3) := by decide +kernel
theorem dX12_digest_243 : decode cX12_digest 243 = .ok (.iconst 3, 1) := by decide +kernel
theorem dX12_digest_244 : decode cX12_digest 244 = .ok (.iload_n 3, 1) := by decide +kernel
theorem dX12_digest_245 : decode cX12_digest 245 = .ok (.imul, 1) := by decide +kernel
theorem dX12_digest_246 : decode cX12_digest 246 = .ok (.iload 4, 2) := by decide +kernel
theorem dX12_digest_248 : decode cX12_digest 248 = .ok (.iadd, 1) := by decide +kernel
theorem dX12_digest_249 : decode cX12_digest 249 = .ok (.iaload, 1) := by decide +kernel
theorem dX12_digest_250 : decode cX12_digest 250 = .ok (.i2l, 1) := by decide +kernel
theorem dX12_digest_251 : decode cX12_digest 251 = .ok (.ladd, 1) := by decide +kernel
theorem dX12_digest_252 : decode cX12_digest 252 = .ok (.lstore_n 1, 1) := by decide +kernel
theorem dX12_digest_253 : decode cX12_digest 253 = .ok (.iinc 4 1, 3) := by decide +kernel
theorem dX12_digest_256 : decode cX12_digest 256 = .ok (.goto (-31), 3) := by decide +kernel
theorem dX12_digest_259 : decode cX12_digest 259 = .ok (.iconst 0, 1) := by decide +kernel
theorem dX12_digest_260 : decode cX12_digest 260 = .ok (.istore 4, 2) := by decide +kernel
theorem dX12_digest_262 : decode cX12_digest 262 = .ok (.iload 4, 2) := by decide +kernel
theorem dX12_digest_264 : decode cX12_digest 264 = .ok (.iconst 3, 1) := by decide +kernel
theorem dX12_digest_265 : decode cX12_digest 265 = .ok (.if_icmp .ge 31, 3) := by decide +kernel
theorem dX12_digest_268 : decode cX12_digest 268 = .ok (.lload_n 1, 1) := by decide +kernel
theorem dX12_digest_269 : decode cX12_digest 269 = .ok (.ldc2_w 332, 3) := by decide +kernel
theorem dX12_digest_272 : decode cX12_digest 272 = .ok (.lmul, 1) := by decide +kernel
theorem dX12_digest_273 : decode cX12_digest 273 = .ok (.aload_n 0, 1) := by decide +kernel
theorem dX12_digest_274 : decode cX12_digest 274 = .ok (.getfield 38, 3) := by decide +kernel
theorem dX12_digest_277 : decode cX12_digest 277 = .ok (.getfield 297, 3) := by decide +kernel
theorem dX12_digest_280 : decode cX12_digest 280 = .ok (.iconst 3, 1) := by decide +kernel
theorem dX12_digest_281 : decode cX12_digest 281 = .ok (.iload_n 3, 1) := by decide +kernel
theorem dX12_digest_282 : decode cX12_digest 282 = .ok (.imul, 1) := by decide +kernel
theorem dX12_digest_283 : decode cX12_digest 283 = .ok (.iload 4, 2) := by decide +kernel
theorem dX12_digest_285 : decode cX12_digest 285 = .ok (.iadd, 1) := by decide +kernel
theorem dX12_digest_286 : decode cX12_digest 286 = .ok (.iaload, 1) := by decide +kernel
theorem dX12_digest_287 : decode cX12_digest 287 = .ok (.i2l, 1) := by decide +kernel
theorem dX12_digest_288 : decode cX12_digest 288 = .ok (.ladd, 1) := by decide +kernel
theorem dX12_digest_289 : decode cX12_digest 289 = .ok (.lstore_n 1, 1) := by decide +kernel
theorem dX12_digest_290 : decode cX12_digest 290 = .ok (.iinc 4 1, 3) := by decide +kernel
theorem dX12_digest_293 : decode cX12_digest 293 = .ok (.goto (-31), 3) := by decide +kernel
theorem dX12_digest_296 : decode cX12_digest 296 = .ok (.iinc 3 1, 3) := by decide +kernel
theorem dX12_digest_299 : decode cX12_digest 299 = .ok (.goto (-122), 3) := by decide +kernel
theorem dX12_digest_302 : decode cX12_digest 302 = .ok (.iconst 0, 1) := by decide +kernel
theorem dX12_digest_303 : decode cX12_digest 303 = .ok (.istore_n 3, 1) := by decide +kernel
theorem dX12_digest_304 : decode cX12_digest 304 = .ok (.iload_n 3, 1) := by decide +kernel
theorem dX12_digest_305 : decode cX12_digest 305 = .ok (.bipush 6, 2) := by decide +kernel
theorem dX12_digest_307 : decode cX12_digest 307 = .ok (.aload_n 0, 1) := by decide +kernel
theorem dX12_digest_308 : decode cX12_digest 308 = .ok (.invokevirtual 317, 3) := by decide +kernel
theorem dX12_digest_311 : decode cX12_digest 311 = .ok (.imul, 1) := by decide +kernel
theorem dX12_digest_312 : decode cX12_digest 312 = .ok (.if_icmp .ge 26, 3) := by decide +kernel
theorem dX12_digest_315 : decode cX12_digest 315 = .ok (.lload_n 1, 1) := by decide +kernel
theorem dX12_digest_316 : decode cX12_digest 316 = .ok (.ldc2_w 332, 3) := by decide +kernel
theorem dX12_digest_319 : decode cX12_digest 319 = .ok (.lmul, 1) := by decide +kernel
theorem dX12_digest_320 : decode cX12_digest 320 = .ok (.aload_n 0, 1) := by decide +kernel
theorem dX12_digest_321 : decode cX12_digest 321 = .ok (.getfield 38, 3) := by decide +kernel
theorem dX12_digest_324 : decode cX12_digest 324 = .ok (.getfield 320, 3) := by decide +kernel
theorem dX12_digest_327 : decode cX12_digest 327 = .ok (.iload_n 3, 1) := by decide +kernel
theorem dX12_digest_328 : decode cX12_digest 328 = .ok (.iaload, 1) := by decide +kernel
theorem dX12_digest_329 : decode cX12_digest 329 = .ok (.i2l, 1) := by decide +kernel
theorem dX12_digest_330 : decode cX12_digest 330 = .ok (.ladd, 1) := by decide +kernel
theorem dX12_digest_331 : decode cX12_digest 331 = .ok (.lstore_n 1, 1) := by decide +kernel
theorem dX12_digest_332 : decode cX12_digest 332 = .ok (.iinc 3 1, 3) := by decide +kernel
theorem dX12_digest_335 : decode cX12_digest 335 = .ok (.goto (-31), 3) := by decide +kernel
theorem dX12_digest_338 : decode cX12_digest 338 = .ok (.lload_n 1, 1) := by decide +kernel
theorem dX12_digest_339 : decode cX12_digest 339 = .ok (.lreturn, 1) := by decide +kernel
theorem dJ6_signum_0f7a4_0 : decode cJ6_signum_0f7a4 0 = .ok (.iload_n 0, 1) := by decide +kernel
theorem dJ6_signum_0f7a4_1 : decode cJ6_signum_0f7a4 1 = .ok (.bipush 31, 2) := by decide +kernel
theorem dJ6_signum_0f7a4_3 : decode cJ6_signum_0f7a4 3 = .ok (.ishr, 1) := by decide +kernel
theorem dJ6_signum_0f7a4_4 : decode cJ6_signum_0f7a4 4 = .ok (.iload_n 0, 1) := by decide +kernel
theorem dJ6_signum_0f7a4_5 : decode cJ6_signum_0f7a4 5 = .ok (.ineg, 1) := by decide +kernel
theorem dJ6_signum_0f7a4_6 : decode cJ6_signum_0f7a4 6 = .ok (.bipush 31, 2) := by decide +kernel
theorem dJ6_signum_0f7a4_8 : decode cJ6_signum_0f7a4 8 = .ok (.iushr, 1) := by decide +kernel
theorem dJ6_signum_0f7a4_9 : decode cJ6_signum_0f7a4 9 = .ok (.ior, 1) := by decide +kernel
theorem dJ6_signum_0f7a4_10 : decode cJ6_signum_0f7a4 10 = .ok (.ireturn, 1) := by decide +kernel
theorem dJ9_abs_0f7a4_0 : decode cJ9_abs_0f7a4 0 = .ok (.iload_n 0, 1) := by decide +kernel
theorem dJ9_abs_0f7a4_1 : decode cJ9_abs_0f7a4 1 = .ok (.ifCond .ge 8, 3) := by decide +kernel
theorem dJ9_abs_0f7a4_4 : decode cJ9_abs_0f7a4 4 = .ok (.iload_n 0, 1) := by decide +kernel
theorem dJ9_abs_0f7a4_5 : decode cJ9_abs_0f7a4 5 = .ok (.ineg, 1) := by decide +kernel
theorem dJ9_abs_0f7a4_6 : decode cJ9_abs_0f7a4 6 = .ok (.goto 4, 3) := by decide +kernel
theorem dJ9_abs_0f7a4_9 : decode cJ9_abs_0f7a4 9 = .ok (.iload_n 0, 1) := by decide +kernel
theorem dJ9_abs_0f7a4_10 : decode cJ9_abs_0f7a4 10 = .ok (.ireturn, 1) := by decide +kernel
theorem dJ9_max_7cf53_0 : decode cJ9_max_7cf53 0 = .ok (.iload_n 0, 1) := by decide +kernel
theorem dJ9_max_7cf53_1 : decode cJ9_max_7cf53 1 = .ok (.iload_n 1, 1) := by decide +kernel
theorem dJ9_max_7cf53_2 : decode cJ9_max_7cf53 2 = .ok (.if_icmp .lt 7, 3) := by decide +kernel
theorem dJ9_max_7cf53_5 : decode cJ9_max_7cf53 5 = .ok (.iload_n 0, 1) := by decide +kernel
theorem dJ9_max_7cf53_6 : decode cJ9_max_7cf53 6 = .ok (.goto 4, 3) := by decide +kernel
theorem dJ9_max_7cf53_9 : decode cJ9_max_7cf53 9 = .ok (.iload_n 1, 1) := by decide +kernel
theorem dJ9_max_7cf53_10 : decode cJ9_max_7cf53 10 = .ok (.ireturn, 1) := by decide +kernel
theorem dJ9_min_7cf53_0 : decode cJ9_min_7cf53 0 = .ok (.iload_n 0, 1) := by decide +kernel
theorem dJ9_min_7cf53_1 : decode cJ9_min_7cf53 1 = .ok (.iload_n 1, 1) := by decide +kernel
theorem dJ9_min_7cf53_2 : decode cJ9_min_7cf53 2 = .ok (.if_icmp .gt 7, 3) := by decide +kernel
theorem dJ9_min_7cf53_5 : decode cJ9_min_7cf53 5 = .ok (.iload_n 0, 1) := by decide +kernel
theorem dJ9_min_7cf53_6 : decode cJ9_min_7cf53 6 = .ok (.goto 4, 3) := by decide +kernel
theorem dJ9_min_7cf53_9 : decode cJ9_min_7cf53 9 = .ok (.iload_n 1, 1) := by decide +kernel
theorem dJ9_min_7cf53_10 : decode cJ9_min_7cf53 10 = .ok (.ireturn, 1) := by decide +kernel
theorem dJ0_length_8abf5_0 : decode cJ0_length_8abf5 0 = .ok (.aload_n 0, 1) := by decide +kernel
theorem dJ0_length_8abf5_1 : decode cJ0_length_8abf5 1 = .ok (.getfield 9, 3) := by decide +kernel
theorem dJ0_length_8abf5_4 : decode cJ0_length_8abf5 4 = .ok (.arraylength, 1) := by decide +kernel
theorem dJ0_length_8abf5_5 : decode cJ0_length_8abf5 5 = .ok (.aload_n 0, 1) := by decide +kernel
theorem dJ0_length_8abf5_6 : decode cJ0_length_8abf5 6 = .ok (.invokevirtual 335, 3) := by decide +kernel
theorem dJ0_length_8abf5_9 : decode cJ0_length_8abf5 9 = .ok (.ishr, 1) := by decide +kernel
theorem dJ0_length_8abf5_10 : decode cJ0_length_8abf5 10 = .ok (.ireturn, 1) := by decide +kernel
theorem dJ0_charAt_5068e_0 : decode cJ0_charAt_5068e 0 = .ok (.aload_n 0, 1) := by decide +kernel
theorem dJ0_charAt_5068e_1 : decode cJ0_charAt_5068e 1 = .ok (.invokevirtual 492, 3) := by decide +kernel
theorem dJ0_charAt_5068e_4 : decode cJ0_charAt_5068e 4 = .ok (.ifCond .eq 12, 3) := by decide +kernel
theorem dJ0_charAt_5068e_7 : decode cJ0_charAt_5068e 7 = .ok (.aload_n 0, 1) := by decide +kernel
theorem dJ0_charAt_5068e_8 : decode cJ0_charAt_5068e 8 = .ok (.getfield 9, 3) := by decide +kernel
theorem dJ0_charAt_5068e_11 : decode cJ0_charAt_5068e 11 = .ok (.iload_n 1, 1) := by decide +kernel
theorem dJ0_charAt_5068e_12 : decode cJ0_charAt_5068e 12 = .ok (.invokestatic 495, 3) := by decide +kernel
theorem dJ0_charAt_5068e_15 : decode cJ0_charAt_5068e 15 = .ok (.ireturn, 1) := by decide +kernel
theorem dJ0_charAt_5068e_16 : decode cJ0_charAt_5068e 16 = .ok (.aload_n 0, 1) := by decide +kernel
theorem dJ0_charAt_5068e_17 : decode cJ0_charAt_5068e 17 = .ok (.getfield 9, 3) := by decide +kernel
theorem dJ0_charAt_5068e_20 : decode cJ0_charAt_5068e 20 = .ok (.iload_n 1, 1) := by decide +kernel
theorem dJ0_charAt_5068e_21 : decode cJ0_charAt_5068e 21 = .ok (.invokestatic 498, 3) := by decide +kernel
theorem dJ0_charAt_5068e_24 : decode cJ0_charAt_5068e 24 = .ok (.ireturn, 1) := by decide +kernel
theorem dJ0_coder_7d493_0 : decode cJ0_coder_7d493 0 = .ok (.getstatic 38, 3) := by decide +kernel
theorem dJ0_coder_7d493_3 : decode cJ0_coder_7d493 3 = .ok (.ifCond .eq 10, 3) := by decide +kernel
theorem dJ0_coder_7d493_6 : decode cJ0_coder_7d493 6 = .ok (.aload_n 0, 1) := by decide +kernel
theorem dJ0_coder_7d493_7 : decode cJ0_coder_7d493 7 = .ok (.getfield 15, 3) := by decide +kernel
theorem dJ0_coder_7d493_10 : decode cJ0_coder_7d493 10 = .ok (.goto 4, 3) := by decide +kernel
theorem dJ0_coder_7d493_13 : decode cJ0_coder_7d493 13 = .ok (.iconst 1, 1) := by decide +kernel
theorem dJ0_coder_7d493_14 : decode cJ0_coder_7d493 14 = .ok (.ireturn, 1) := by decide +kernel
theorem dJ0_isLatin1_aae02_0 : decode cJ0_isLatin1_aae02 0 = .ok (.getstatic 38, 3) := by decide +kernel
theorem dJ0_isLatin1_aae02_3 : decode cJ0_isLatin1_aae02 3 = .ok (.ifCond .eq 14, 3) := by decide +kernel
theorem dJ0_isLatin1_aae02_6 : decode cJ0_isLatin1_aae02 6 = .ok (.aload_n 0, 1) := by decide +kernel
theorem dJ0_isLatin1_aae02_7 : decode cJ0_isLatin1_aae02 7 = .ok (.getfield 15, 3) := by decide +kernel
theorem dJ0_isLatin1_aae02_10 : decode cJ0_isLatin1_aae02 10 = .ok (.ifCond .ne 7, 3) := by decide +kernel
theorem dJ0_isLatin1_aae02_13 : decode cJ0_isLatin1_aae02 13 = .ok (.iconst 1, 1) := by decide +kernel
theorem dJ0_isLatin1_aae02_14 : decode cJ0_isLatin1_aae02 14 = .ok (.goto 4, 3) := by decide +kernel
theorem dJ0_isLatin1_aae02_17 : decode cJ0_isLatin1_aae02 17 = .ok (.iconst 0, 1) := by decide +kernel
theorem dJ0_isLatin1_aae02_18 : decode cJ0_isLatin1_aae02 18 = .ok (.ireturn, 1) := by decide +kernel
theorem dJ0_checkIndex_df160_0 : decode cJ0_checkIndex_df160 0 = .ok (.iload_n 0, 1) := by decide +kernel
theorem dJ0_checkIndex_df160_1 : decode cJ0_checkIndex_df160 1 = .ok (.iload_n 1, 1) := by decide +kernel
theorem dJ0_checkIndex_df160_2 : decode cJ0_checkIndex_df160 2 = .ok (.getstatic 1053, 3) := by decide +kernel
theorem dJ0_checkIndex_df160_5 : decode cJ0_checkIndex_df160 5 = .ok (.invokestatic 1059, 3) := by decide +kernel
theorem dJ0_checkIndex_df160_8 : decode cJ0_checkIndex_df160 8 = .ok (.pop, 1) := by decide +kernel
theorem dJ0_checkIndex_df160_9 : decode cJ0_checkIndex_df160 9 = .ok (.return_, 1) := by decide +kernel
theorem dJ1_charAt_3b067_0 : decode cJ1_charAt_3b067 0 = .ok (.iload_n 1, 1) := by decide +kernel
theorem dJ1_charAt_3b067_1 : decode cJ1_charAt_3b067 1 = .ok (.aload_n 0, 1) := by decide +kernel
theorem dJ1_charAt_3b067_2 : decode cJ1_charAt_3b067 2 = .ok (.arraylength, 1) := by decide +kernel
theorem dJ1_charAt_3b067_3 : decode cJ1_charAt_3b067 3 = .ok (.invokestatic 9, 3) := by decide +kernel
theorem dJ1_charAt_3b067_6 : decode cJ1_charAt_3b067 6 = .ok (.aload_n 0, 1) := by decide +kernel
theorem dJ1_charAt_3b067_7 : decode cJ1_charAt_3b067 7 = .ok (.iload_n 1, 1) := by decide +kernel
theorem dJ1_charAt_3b067_8 : decode cJ1_charAt_3b067 8 = .ok (.baload, 1) := by decide +kernel
theorem dJ1_charAt_3b067_9 : decode cJ1_charAt_3b067 9 = .ok (.sipush 255, 3) := by decide +kernel
theorem dJ1_charAt_3b067_12 : decode cJ1_charAt_3b067 12 = .ok (.iand, 1) := by decide +kernel
theorem dJ1_charAt_3b067_13 : decode cJ1_charAt_3b067 13 = .ok (.i2c, 1) := by decide +kernel
theorem dJ1_charAt_3b067_14 : decode cJ1_charAt_3b067 14 = .ok (.ireturn, 1) := by decide +kernel
theorem dJ2_getChar_3b067_0 : decode cJ2_getChar_3b067 0 = .ok (.getstatic 44, 3) := by decide +kernel
theorem dJ2_getChar_3b067_3 : decode cJ2_getChar_3b067 3 = .ok (.ifCond .ne 25, 3) := by decide +kernel
theorem dJ2_getChar_3b067_6 : decode cJ2_getChar_3b067 6 = .ok (.iload_n 1, 1) := by decide +kernel
theorem dJ2_getChar_3b067_7 : decode cJ2_getChar_3b067 7 = .ok (.ifCond .lt 11, 3) := by decide +kernel
theorem dJ2_getChar_3b067_10 : decode cJ2_getChar_3b067 10 = .ok (.iload_n 1, 1) := by decide +kernel
theorem dJ2_getChar_3b067_11 : decode cJ2_getChar_3b067 11 = .ok (.aload_n 0, 1) := by decide +kernel
theorem dJ2_getChar_3b067_12 : decode cJ2_getChar_3b067 12 = .ok (.invokestatic 48, 3) := by decide +kernel
theorem dJ2_getChar_3b067_15 : decode cJ2_getChar_3b067 15 = .ok (.if_icmp .lt 13, 3) := by decide +kernel
theorem dJ2_getChar_3b067_18 : decode cJ2_getChar_3b067 18 = .ok (.new 52, 3) := by decide +kernel
theorem dJ2_getChar_3b067_21 : decode cJ2_getChar_3b067 21 = .ok (.dup, 1) := by decide +kernel
theorem dJ2_getChar_3b067_22 : decode cJ2_getChar_3b067 22 = .ok (.ldc 54, 2) := by decide +kernel
theorem dJ2_getChar_3b067_24 : decode cJ2_getChar_3b067 24 = .ok (.invokespecial 56, 3) := by decide +kernel
theorem dJ2_getChar_3b067_27 : decode cJ2_getChar_3b067 27 = .ok (.athrow, 1) := by decide +kernel
theorem dJ2_getChar_3b067_28 : decode cJ2_getChar_3b067 28 = .ok (.iload_n 1, 1) := by decide +kernel
theorem dJ2_getChar_3b067_29 : decode cJ2_getChar_3b067 29 = .ok (.iconst 1, 1) := by decide +kernel
theorem dJ2_getChar_3b067_30 : decode cJ2_getChar_3b067 30 = .ok (.ishl, 1) := by decide +kernel
theorem dJ2_getChar_3b067_31 : decode cJ2_getChar_3b067 31 = .ok (.istore_n 1, 1) := by decide +kernel
theorem dJ2_getChar_3b067_32 : decode cJ2_getChar_3b067 32 = .ok (.aload_n 0, 1) := by decide +kernel
theorem dJ2_getChar_3b067_33 : decode cJ2_getChar_3b067 33 = .ok (.iload_n 1, 1) := by decide +kernel
theorem dJ2_getChar_3b067_34 : decode cJ2_getChar_3b067 34 = .ok (.iinc 1 1, 3) := by decide +kernel
theorem dJ2_getChar_3b067_37 : decode cJ2_getChar_3b067 37 = .ok (.baload, 1) := by decide +kernel
theorem dJ2_getChar_3b067_38 : decode cJ2_getChar_3b067 38 = .ok (.sipush 255, 3) := by decide +kernel
theorem dJ2_getChar_3b067_41 : decode cJ2_getChar_3b067 41 = .ok (.iand, 1) := by decide +kernel
theorem dJ2_getChar_3b067_42 : decode cJ2_getChar_3b067 42 = .ok (.getstatic 59, 3) := by decide +kernel
theorem dJ2_getChar_3b067_45 : decode cJ2_getChar_3b067 45 = .ok (.ishl, 1) := by decide +kernel
theorem dJ2_getChar_3b067_46 : decode cJ2_getChar_3b067 46 = .ok (.aload_n 0, 1) := by decide +kernel
theorem dJ2_getChar_3b067_47 : decode cJ2_getChar_3b067 47 = .ok (.iload_n 1, 1) := by decide +kernel
theorem dJ2_getChar_3b067_48 : decode cJ2_getChar_3b067 48 = .ok (.baload, 1) := by decide +kernel
theorem dJ2_getChar_3b067_49 : decode cJ2_getChar_3b067 49 = .ok (.sipush 255, 3) := by decide +kernel
theorem dJ2_getChar_3b067_52 : decode cJ2_getChar_3b067 52 = .ok (.iand, 1) := by decide +kernel
theorem dJ2_getChar_3b067_53 : decode cJ2_getChar_3b067 53 = .ok (.getstatic 63, 3) := by decide +kernel
theorem dJ2_getChar_3b067_56 : decode cJ2_getChar_3b067 56 = .ok (.ishl, 1) := by decide +kernel
theorem dJ2_getChar_3b067_57 : decode cJ2_getChar_3b067 57 = .ok (.ior, 1) := by decide +kernel
theorem dJ2_getChar_3b067_58 : decode cJ2_getChar_3b067 58 = .ok (.i2c, 1) := by decide +kernel
theorem dJ2_getChar_3b067_59 : decode cJ2_getChar_3b067 59 = .ok (.ireturn, 1) := by decide +kernel
theorem dJ2_length_9d52b_0 : decode cJ2_length_9d52b 0 = .ok (.aload_n 0, 1) := by decide +kernel
theorem dJ2_length_9d52b_1 : decode cJ2_length_9d52b 1 = .ok (.arraylength, 1) := by decide +kernel
theorem dJ2_length_9d52b_2 : decode cJ2_length_9d52b 2 = .ok (.iconst 1, 1) := by decide +kernel
theorem dJ2_length_9d52b_3 : decode cJ2_length_9d52b 3 = .ok (.ishr, 1) := by decide +kernel
theorem dJ2_length_9d52b_4 : decode cJ2_length_9d52b 4 = .ok (.ireturn, 1) := by decide +kernel
theorem dJ2_charAt_3b067_0 : decode cJ2_charAt_3b067 0 = .ok (.iload_n 1, 1) := by decide +kernel
theorem dJ2_charAt_3b067_1 : decode cJ2_charAt_3b067 1 = .ok (.aload_n 0, 1) := by decide +kernel
theorem dJ2_charAt_3b067_2 : decode cJ2_charAt_3b067 2 = .ok (.invokestatic 67, 3) := by decide +kernel
theorem dJ2_charAt_3b067_5 : decode cJ2_charAt_3b067 5 = .ok (.aload_n 0, 1) := by decide +kernel
theorem dJ2_charAt_3b067_6 : decode cJ2_charAt_3b067 6 = .ok (.iload_n 1, 1) := by decide +kernel
theorem dJ2_charAt_3b067_7 : decode cJ2_charAt_3b067 7 = .ok (.invokestatic 71, 3) := by decide +kernel
theorem dJ2_charAt_3b067_10 : decode cJ2_charAt_3b067 10 = .ok (.ireturn, 1) := by decide +kernel
theorem dJ2_checkIndex_2214a_0 : decode cJ2_checkIndex_2214a 0 = .ok (.iload_n 0, 1) := by decide +kernel
theorem dJ2_checkIndex_2214a_1 : decode cJ2_checkIndex_2214a 1 = .ok (.aload_n 1, 1) := by decide +kernel
theorem dJ2_checkIndex_2214a_2 : decode cJ2_checkIndex_2214a 2 = .ok (.invokestatic 48, 3) := by decide +kernel
theorem dJ2_checkIndex_2214a_5 : decode cJ2_checkIndex_2214a 5 = .ok (.invokestatic 414, 3) := by decide +kernel
theorem dJ2_checkIndex_2214a_8 : decode cJ2_checkIndex_2214a 8 = .ok (.return_, 1) := by decide +kernel
theorem dJ7_fill_53178_0 : decode cJ7_fill_53178 0 = .ok (.iconst 0, 1) := by decide +kernel
theorem dJ7_fill_53178_1 : decode cJ7_fill_53178 1 = .ok (.istore_n 2, 1) := by decide +kernel
theorem dJ7_fill_53178_2 : decode cJ7_fill_53178 2 = .ok (.aload_n 0, 1) := by decide +kernel
theorem dJ7_fill_53178_3 : decode cJ7_fill_53178 3 = .ok (.arraylength, 1) := by decide +kernel
theorem dJ7_fill_53178_4 : decode cJ7_fill_53178 4 = .ok (.istore_n 3, 1) := by decide +kernel
theorem dJ7_fill_53178_5 : decode cJ7_fill_53178 5 = .ok (.iload_n 2, 1) := by decide +kernel
theorem dJ7_fill_53178_6 : decode cJ7_fill_53178 6 = .ok (.iload_n 3, 1) := by decide +kernel
theorem dJ7_fill_53178_7 : decode cJ7_fill_53178 7 = .ok (.if_icmp .ge 13, 3) := by decide +kernel
theorem dJ7_fill_53178_10 : decode cJ7_fill_53178 10 = .ok (.aload_n 0, 1) := by decide +kernel
theorem dJ7_fill_53178_11 : decode cJ7_fill_53178 11 = .ok (.iload_n 2, 1) := by decide +kernel
theorem dJ7_fill_53178_12 : decode cJ7_fill_53178 12 = .ok (.iload_n 1, 1) := by decide +kernel
theorem dJ7_fill_53178_13 : decode cJ7_fill_53178 13 = .ok (.iastore, 1) := by decide +kernel
theorem dJ7_fill_53178_14 : decode cJ7_fill_53178 14 = .ok (.iinc 2 1, 3) := by decide +kernel
theorem dJ7_fill_53178_17 : decode cJ7_fill_53178 17 = .ok (.goto (-12), 3) := by decide +kernel
theorem dJ7_fill_53178_20 : decode cJ7_fill_53178 20 = .ok (.return_, 1) := by decide +kernel
theorem dJ3_checkIndex_8e157_0 : decode cJ3_checkIndex_8e157 0 = .ok (.iload_n 0, 1) := by decide +kernel
theorem dJ3_checkIndex_8e157_1 : decode cJ3_checkIndex_8e157 1 = .ok (.ifCond .lt 8, 3) := by decide +kernel
theorem dJ3_checkIndex_8e157_4 : decode cJ3_checkIndex_8e157 4 = .ok (.iload_n 0, 1) := by decide +kernel
theorem dJ3_checkIndex_8e157_5 : decode cJ3_checkIndex_8e157 5 = .ok (.iload_n 1, 1) := by decide +kernel
theorem dJ3_checkIndex_8e157_6 : decode cJ3_checkIndex_8e157 6 = .ok (.if_icmp .lt 10, 3) := by decide +kernel
theorem dJ3_checkIndex_8e157_9 : decode cJ3_checkIndex_8e157 9 = .ok (.aload_n 2, 1) := by decide +kernel
theorem dJ3_checkIndex_8e157_10 : decode cJ3_checkIndex_8e157 10 = .ok (.iload_n 0, 1) := by decide +kernel
theorem dJ3_checkIndex_8e157_11 : decode cJ3_checkIndex_8e157 11 = .ok (.iload_n 1, 1) := by decide +kernel
theorem dJ3_checkIndex_8e157_12 : decode cJ3_checkIndex_8e157 12 = .ok (.invokestatic 95, 3) := by decide +kernel
theorem dJ3_checkIndex_8e157_15 : decode cJ3_checkIndex_8e157 15 = .ok (.athrow, 1) := by decide +kernel
theorem dJ3_checkIndex_8e157_16 : decode cJ3_checkIndex_8e157 16 = .ok (.iload_n 0, 1) := by decide +kernel
theorem dJ3_checkIndex_8e157_17 : decode cJ3_checkIndex_8e157 17 = .ok (.ireturn, 1) := by decide +kernel
theorem dL_feed_0 : decode cL_feed 0 = .ok (.aload 6, 2) := by decide +kernel
theorem dL_feed_2 : decode cL_feed 2 = .ok (.iconst 0, 1) := by decide +kernel
theorem dL_feed_3 : decode cL_feed 3 = .ok (.aload_n 0, 1) := by decide +kernel
theorem dL_feed_4 : decode cL_feed 4 = .ok (.iload_n 1, 1) := by decide +kernel
theorem dL_feed_5 : decode cL_feed 5 = .ok (.iload_n 2, 1) := by decide +kernel
theorem dL_feed_6 : decode cL_feed 6 = .ok (.iload_n 3, 1) := by decide +kernel
theorem dL_feed_7 : decode cL_feed 7 = .ok (.iload 4, 2) := by decide +kernel
theorem dL_feed_9 : decode cL_feed 9 = .ok (.iload 5, 2) := by decide +kernel
theorem dL_feed_11 : decode cL_feed 11 = .ok (.invokevirtual 7, 3) := by decide +kernel
theorem dL_feed_14 : decode cL_feed 14 = .ok (.i2l, 1) := by decide +kernel
theorem dL_feed_15 : decode cL_feed 15 = .ok (.lastore, 1) := by decide +kernel
theorem dL_feed_16 : decode cL_feed 16 = .ok (.goto 7, 3) := by decide +kernel
theorem dL_feed_19 : decode cL_feed 19 = .ok (.astore 7, 2) := by decide +kernel
theorem dL_feed_21 : decode cL_feed 21 = .ok (.iconst 1, 1) := by decide +kernel
theorem dL_feed_22 : decode cL_feed 22 = .ok (.ireturn, 1) := by decide +kernel
theorem dL_feed_23 : decode cL_feed 23 = .ok (.iconst 0, 1) := by decide +kernel
theorem dL_feed_24 : decode cL_feed 24 = .ok (.ireturn, 1) := by decide +kernel
theorem dL_trim_0 : decode cL_trim 0 = .ok (.aload_n 2, 1) := by decide +kernel
theorem dL_trim_1 : decode cL_trim 1 = .ok (.iconst 0, 1) := by decide +kernel
theorem dL_trim_2 : decode cL_trim 2 = .ok (.aload_n 0, 1) := by decide +kernel
theorem dL_trim_3 : decode cL_trim 3 = .ok (.iload_n 1, 1) := by decide +kernel
theorem dL_trim_4 : decode cL_trim 4 = .ok (.invokevirtual 15, 3) := by decide +kernel
theorem dL_trim_7 : decode cL_trim 7 = .ok (.i2l, 1) := by decide +kernel
theorem dL_trim_8 : decode cL_trim 8 = .ok (.lastore, 1) := by decide +kernel
theorem dL_trim_9 : decode cL_trim 9 = .ok (.goto 6, 3) := by decide +kernel
theorem dL_trim_12 : decode cL_trim 12 = .ok (.astore_n 3, 1) := by decide +kernel
theorem dL_trim_13 : decode cL_trim 13 = .ok (.iconst 1, 1) := by decide +kernel
theorem dL_trim_14 : decode cL_trim 14 = .ok (.ireturn, 1) := by decide +kernel
theorem dL_trim_15 : decode cL_trim 15 = .ok (.iconst 0, 1) := by decide +kernel
theorem dL_trim_16 : decode cL_trim 16 = .ok (.ireturn, 1) := by decide +kernel
theorem dL_compile_0 : decode cL_compile 0 = .ok (.aload_n 2, 1) := by decide +kernel
theorem dL_compile_1 : decode cL_compile 1 = .ok (.iconst 0, 1) := by decide +kernel
theorem dL_compile_2 : decode cL_compile 2 = .ok (.aload_n 0, 1) := by decide +kernel
theorem dL_compile_3 : decode cL_compile 3 = .ok (.iload_n 1, 1) := by decide +kernel
theorem dL_compile_4 : decode cL_compile 4 = .ok (.invokevirtual 21, 3) := by decide +kernel
theorem dL_compile_7 : decode cL_compile 7 = .ok (.i2l, 1) := by decide +kernel
theorem dL_compile_8 : decode cL_compile 8 = .ok (.lastore, 1) := by decide +kernel
theorem dL_compile_9 : decode cL_compile 9 = .ok (.goto 6, 3) := by decide +kernel
theorem dL_compile_12 : decode cL_compile 12 = .ok (.astore_n 3, 1) := by decide +kernel
theorem dL_compile_13 : decode cL_compile 13 = .ok (.iconst 1, 1) := by decide +kernel
theorem dL_compile_14 : decode cL_compile 14 = .ok (.ireturn, 1) := by decide +kernel
theorem dL_compile_15 : decode cL_compile 15 = .ok (.iconst 0, 1) := by decide +kernel
theorem dL_compile_16 : decode cL_compile 16 = .ok (.ireturn, 1) := by decide +kernel
theorem dL_plan_0 : decode cL_plan 0 = .ok (.aload_n 3, 1) := by decide +kernel
theorem dL_plan_1 : decode cL_plan 1 = .ok (.iconst 0, 1) := by decide +kernel
theorem dL_plan_2 : decode cL_plan 2 = .ok (.aload_n 0, 1) := by decide +kernel
theorem dL_plan_3 : decode cL_plan 3 = .ok (.iload_n 1, 1) := by decide +kernel
theorem dL_plan_4 : decode cL_plan 4 = .ok (.iload_n 2, 1) := by decide +kernel
theorem dL_plan_5 : decode cL_plan 5 = .ok (.invokevirtual 26, 3) := by decide +kernel
theorem dL_plan_8 : decode cL_plan 8 = .ok (.i2l, 1) := by decide +kernel
theorem dL_plan_9 : decode cL_plan 9 = .ok (.lastore, 1) := by decide +kernel
theorem dL_plan_10 : decode cL_plan 10 = .ok (.goto 7, 3) := by decide +kernel
theorem dL_plan_13 : decode cL_plan 13 = .ok (.astore 4, 2) := by decide +kernel
theorem dL_plan_15 : decode cL_plan 15 = .ok (.iconst 1, 1) := by decide +kernel
theorem dL_plan_16 : decode cL_plan 16 = .ok (.ireturn, 1) := by decide +kernel
theorem dL_plan_17 : decode cL_plan 17 = .ok (.iconst 0, 1) := by decide +kernel
theorem dL_plan_18 : decode cL_plan 18 = .ok (.ireturn, 1) := by decide +kernel
theorem dL_addPlank_0 : decode cL_addPlank 0 = .ok (.aload 4, 2) := by decide +kernel
theorem dL_addPlank_2 : decode cL_addPlank 2 = .ok (.iconst 0, 1) := by decide +kernel
theorem dL_addPlank_3 : decode cL_addPlank 3 = .ok (.aload_n 0, 1) := by decide +kernel
theorem dL_addPlank_4 : decode cL_addPlank 4 = .ok (.iload_n 1, 1) := by decide +kernel
theorem dL_addPlank_5 : decode cL_addPlank 5 = .ok (.iload_n 2, 1) := by decide +kernel
theorem dL_addPlank_6 : decode cL_addPlank 6 = .ok (.iload_n 3, 1) := by decide +kernel
theorem dL_addPlank_7 : decode cL_addPlank 7 = .ok (.invokevirtual 30, 3) := by decide +kernel
theorem dL_addPlank_10 : decode cL_addPlank 10 = .ok (.i2l, 1) := by decide +kernel
theorem dL_addPlank_11 : decode cL_addPlank 11 = .ok (.lastore, 1) := by decide +kernel
theorem dL_addPlank_12 : decode cL_addPlank 12 = .ok (.goto 11, 3) := by decide +kernel
theorem dL_addPlank_15 : decode cL_addPlank 15 = .ok (.astore 5, 2) := by decide +kernel
theorem dL_addPlank_17 : decode cL_addPlank 17 = .ok (.iconst 1, 1) := by decide +kernel
theorem dL_addPlank_18 : decode cL_addPlank 18 = .ok (.ireturn, 1) := by decide +kernel
theorem dL_addPlank_19 : decode cL_addPlank 19 = .ok (.astore 5, 2) := by decide +kernel
theorem dL_addPlank_21 : decode cL_addPlank 21 = .ok (.iconst 2, 1) := by decide +kernel
theorem dL_addPlank_22 : decode cL_addPlank 22 = .ok (.ireturn, 1) := by decide +kernel
theorem dL_addPlank_23 : decode cL_addPlank 23 = .ok (.iconst 0, 1) := by decide +kernel
theorem dL_addPlank_24 : decode cL_addPlank 24 = .ok (.ireturn, 1) := by decide +kernel
theorem dL_addKnot_0 : decode cL_addKnot 0 = .ok (.aload_n 3, 1) := by decide +kernel
theorem dL_addKnot_1 : decode cL_addKnot 1 = .ok (.iconst 0, 1) := by decide +kernel
theorem dL_addKnot_2 : decode cL_addKnot 2 = .ok (.aload_n 0, 1) := by decide +kernel
theorem dL_addKnot_3 : decode cL_addKnot 3 = .ok (.iload_n 1, 1) := by decide +kernel
theorem dL_addKnot_4 : decode cL_addKnot 4 = .ok (.iload_n 2, 1) := by decide +kernel
theorem dL_addKnot_5 : decode cL_addKnot 5 = .ok (.invokevirtual 34, 3) := by decide +kernel
theorem dL_addKnot_8 : decode cL_addKnot 8 = .ok (.i2l, 1) := by decide +kernel
theorem dL_addKnot_9 : decode cL_addKnot 9 = .ok (.lastore, 1) := by decide +kernel
theorem dL_addKnot_10 : decode cL_addKnot 10 = .ok (.goto 15, 3) := by decide +kernel
theorem dL_addKnot_13 : decode cL_addKnot 13 = .ok (.astore 4, 2) := by decide +kernel
theorem dL_addKnot_15 : decode cL_addKnot 15 = .ok (.iconst 1, 1) := by decide +kernel
theorem dL_addKnot_16 : decode cL_addKnot 16 = .ok (.ireturn, 1) := by decide +kernel
theorem dL_addKnot_17 : decode cL_addKnot 17 = .ok (.astore 4, 2) := by decide +kernel
theorem dL_addKnot_19 : decode cL_addKnot 19 = .ok (.iconst 2, 1) := by decide +kernel
theorem dL_addKnot_20 : decode cL_addKnot 20 = .ok (.ireturn, 1) := by decide +kernel
theorem dL_addKnot_21 : decode cL_addKnot 21 = .ok (.astore 4, 2) := by decide +kernel
theorem dL_addKnot_23 : decode cL_addKnot 23 = .ok (.iconst 3, 1) := by decide +kernel
theorem dL_addKnot_24 : decode cL_addKnot 24 = .ok (.ireturn, 1) := by decide +kernel
theorem dL_addKnot_25 : decode cL_addKnot 25 = .ok (.iconst 0, 1) := by decide +kernel
theorem dL_addKnot_26 : decode cL_addKnot 26 = .ok (.ireturn, 1) := by decide +kernel
theorem dL_plank_0 : decode cL_plank 0 = .ok (.aload_n 3, 1) := by decide +kernel
theorem dL_plank_1 : decode cL_plank 1 = .ok (.iconst 0, 1) := by decide +kernel
theorem dL_plank_2 : decode cL_plank 2 = .ok (.aload_n 0, 1) := by decide +kernel
theorem dL_plank_3 : decode cL_plank 3 = .ok (.iload_n 1, 1) := by decide +kernel
theorem dL_plank_4 : decode cL_plank 4 = .ok (.iload_n 2, 1) := by decide +kernel
theorem dL_plank_5 : decode cL_plank 5 = .ok (.invokevirtual 37, 3) := by decide +kernel
theorem dL_plank_8 : decode cL_plank 8 = .ok (.i2l, 1) := by decide +kernel
theorem dL_plank_9 : decode cL_plank 9 = .ok (.lastore, 1) := by decide +kernel
theorem dL_plank_10 : decode cL_plank 10 = .ok (.goto 7, 3) := by decide +kernel
theorem dL_plank_13 : decode cL_plank 13 = .ok (.astore 4, 2) := by decide +kernel
theorem dL_plank_15 : decode cL_plank 15 = .ok (.iconst 1, 1) := by decide +kernel
theorem dL_plank_16 : decode cL_plank 16 = .ok (.ireturn, 1) := by decide +kernel
theorem dL_plank_17 : decode cL_plank 17 = .ok (.iconst 0, 1) := by decide +kernel
theorem dL_plank_18 : decode cL_plank 18 = .ok (.ireturn, 1) := by decide +kernel
theorem dL_find_0 : decode cL_find 0 = .ok (.aload 4, 2) := by decide +kernel
theorem dL_find_2 : decode cL_find 2 = .ok (.iconst 0, 1) := by decide +kernel
theorem dL_find_3 : decode cL_find 3 = .ok (.aload_n 0, 1) := by decide +kernel
theorem dL_find_4 : decode cL_find 4 = .ok (.iload_n 1, 1) := by decide +kernel
theorem dL_find_5 : decode cL_find 5 = .ok (.iload_n 2, 1) := by decide +kernel
theorem dL_find_6 : decode cL_find 6 = .ok (.iload_n 3, 1) := by decide +kernel
theorem dL_find_7 : decode cL_find 7 = .ok (.invokevirtual 40, 3) := by decide +kernel
theorem dL_find_10 : decode cL_find 10 = .ok (.i2l, 1) := by decide +kernel
theorem dL_find_11 : decode cL_find 11 = .ok (.lastore, 1) := by decide +kernel
theorem dL_find_12 : decode cL_find 12 = .ok (.goto 7, 3) := by decide +kernel
theorem dL_find_15 : decode cL_find 15 = .ok (.astore 5, 2) := by decide +kernel
theorem dL_find_17 : decode cL_find 17 = .ok (.iconst 1, 1) := by decide +kernel
theorem dL_find_18 : decode cL_find 18 = .ok (.ireturn, 1) := by decide +kernel
theorem dL_find_19 : decode cL_find 19 = .ok (.iconst 0, 1) := by decide +kernel
theorem dL_find_20 : decode cL_find 20 = .ok (.ireturn, 1) := by decide +kernel
theorem dL_addFrame_0 : decode cL_addFrame 0 = .ok (.aload_n 2, 1) := by decide +kernel
theorem dL_addFrame_1 : decode cL_addFrame 1 = .ok (.iconst 0, 1) := by decide +kernel
theorem dL_addFrame_2 : decode cL_addFrame 2 = .ok (.aload_n 0, 1) := by decide +kernel
theorem dL_addFrame_3 : decode cL_addFrame 3 = .ok (.iload_n 1, 1) := by decide +kernel
theorem dL_addFrame_4 : decode cL_addFrame 4 = .ok (.invokevirtual 44, 3) := by decide +kernel
theorem dL_addFrame_7 : decode cL_addFrame 7 = .ok (.i2l, 1) := by decide +kernel
theorem dL_addFrame_8 : decode cL_addFrame 8 = .ok (.lastore, 1) := by decide +kernel
theorem dL_addFrame_9 : decode cL_addFrame 9 = .ok (.goto 9, 3) := by decide +kernel
theorem dL_addFrame_12 : decode cL_addFrame 12 = .ok (.astore_n 3, 1) := by decide +kernel
theorem dL_addFrame_13 : decode cL_addFrame 13 = .ok (.iconst 1, 1) := by decide +kernel
theorem dL_addFrame_14 : decode cL_addFrame 14 = .ok (.ireturn, 1) := by decide +kernel
theorem dL_addFrame_15 : decode cL_addFrame 15 = .ok (.astore_n 3, 1) := by decide +kernel
theorem dL_addFrame_16 : decode cL_addFrame 16 = .ok (.iconst 2, 1) := by decide +kernel
theorem dL_addFrame_17 : decode cL_addFrame 17 = .ok (.ireturn, 1) := by decide +kernel
theorem dL_addFrame_18 : decode cL_addFrame 18 = .ok (.iconst 0, 1) := by decide +kernel
theorem dL_addFrame_19 : decode cL_addFrame 19 = .ok (.ireturn, 1) := by decide +kernel
theorem dL_frames_0 : decode cL_frames 0 = .ok (.aload_n 3, 1) := by decide +kernel
theorem dL_frames_1 : decode cL_frames 1 = .ok (.iconst 0, 1) := by decide +kernel
theorem dL_frames_2 : decode cL_frames 2 = .ok (.aload_n 0, 1) := by decide +kernel
theorem dL_frames_3 : decode cL_frames 3 = .ok (.iload_n 1, 1) := by decide +kernel
theorem dL_frames_4 : decode cL_frames 4 = .ok (.iload_n 2, 1) := by decide +kernel
theorem dL_frames_5 : decode cL_frames 5 = .ok (.invokevirtual 47, 3) := by decide +kernel
theorem dL_frames_8 : decode cL_frames 8 = .ok (.i2l, 1) := by decide +kernel
theorem dL_frames_9 : decode cL_frames 9 = .ok (.lastore, 1) := by decide +kernel
theorem dL_frames_10 : decode cL_frames 10 = .ok (.goto 7, 3) := by decide +kernel
theorem dL_frames_13 : decode cL_frames 13 = .ok (.astore 4, 2) := by decide +kernel
theorem dL_frames_15 : decode cL_frames 15 = .ok (.iconst 1, 1) := by decide +kernel
theorem dL_frames_16 : decode cL_frames 16 = .ok (.ireturn, 1) := by decide +kernel
theorem dL_frames_17 : decode cL_frames 17 = .ok (.iconst 0, 1) := by decide +kernel
theorem dL_frames_18 : decode cL_frames 18 = .ok (.ireturn, 1) := by decide +kernel
theorem dL_addSlip_0 : decode cL_addSlip 0 = .ok (.aload_n 1, 1) := by decide +kernel
theorem dL_addSlip_1 : decode cL_addSlip 1 = .ok (.iconst 0, 1) := by decide +kernel
theorem dL_addSlip_2 : decode cL_addSlip 2 = .ok (.aload_n 0, 1) := by decide +kernel
theorem dL_addSlip_3 : decode cL_addSlip 3 = .ok (.invokevirtual 50, 3) := by decide +kernel
theorem dL_addSlip_6 : decode cL_addSlip 6 = .ok (.i2l, 1) := by decide +kernel
theorem dL_addSlip_7 : decode cL_addSlip 7 = .ok (.lastore, 1) := by decide +kernel
theorem dL_addSlip_8 : decode cL_addSlip 8 = .ok (.goto 6, 3) := by decide +kernel
theorem dL_addSlip_11 : decode cL_addSlip 11 = .ok (.astore_n 2, 1) := by decide +kernel
theorem dL_addSlip_12 : decode cL_addSlip 12 = .ok (.iconst 1, 1) := by decide +kernel
theorem dL_addSlip_13 : decode cL_addSlip 13 = .ok (.ireturn, 1) := by decide +kernel
theorem dL_addSlip_14 : decode cL_addSlip 14 = .ok (.iconst 0, 1) := by decide +kernel
theorem dL_addSlip_15 : decode cL_addSlip 15 = .ok (.ireturn, 1) := by decide +kernel
theorem dL_start_0 : decode cL_start 0 = .ok (.aload 4, 2) := by decide +kernel
theorem dL_start_2 : decode cL_start 2 = .ok (.iconst 0, 1) := by decide +kernel
theorem dL_start_3 : decode cL_start 3 = .ok (.aload_n 0, 1) := by decide +kernel
theorem dL_start_4 : decode cL_start 4 = .ok (.iload_n 1, 1) := by decide +kernel
theorem dL_start_5 : decode cL_start 5 = .ok (.iload_n 2, 1) := by decide +kernel
theorem dL_start_6 : decode cL_start 6 = .ok (.iload_n 3, 1) := by decide +kernel
theorem dL_start_7 : decode cL_start 7 = .ok (.invokevirtual 54, 3) := by decide +kernel
theorem dL_start_10 : decode cL_start 10 = .ok (.i2l, 1) := by decide +kernel
theorem dL_start_11 : decode cL_start 11 = .ok (.lastore, 1) := by decide +kernel
theorem dL_start_12 : decode cL_start 12 = .ok (.goto 15, 3) := by decide +kernel
theorem dL_start_15 : decode cL_start 15 = .ok (.astore 5, 2) := by decide +kernel
theorem dL_start_17 : decode cL_start 17 = .ok (.iconst 1, 1) := by decide +kernel
theorem dL_start_18 : decode cL_start 18 = .ok (.ireturn, 1) := by decide +kernel
theorem dL_start_19 : decode cL_start 19 = .ok (.astore 5, 2) := by decide +kernel
theorem dL_start_21 : decode cL_start 21 = .ok (.iconst 2, 1) := by decide +kernel
theorem dL_start_22 : decode cL_start 22 = .ok (.ireturn, 1) := by decide +kernel
theorem dL_start_23 : decode cL_start 23 = .ok (.astore 5, 2) := by decide +kernel
theorem dL_start_25 : decode cL_start 25 = .ok (.iconst 3, 1) := by decide +kernel
theorem dL_start_26 : decode cL_start 26 = .ok (.ireturn, 1) := by decide +kernel
theorem dL_start_27 : decode cL_start 27 = .ok (.iconst 0, 1) := by decide +kernel
theorem dL_start_28 : decode cL_start 28 = .ok (.ireturn, 1) := by decide +kernel
theorem dL_lend_0 : decode cL_lend 0 = .ok (.aload 4, 2) := by decide +kernel
theorem dL_lend_2 : decode cL_lend 2 = .ok (.iconst 0, 1) := by decide +kernel
theorem dL_lend_3 : decode cL_lend 3 = .ok (.aload_n 0, 1) := by decide +kernel
theorem dL_lend_4 : decode cL_lend 4 = .ok (.iload_n 1, 1) := by decide +kernel
theorem dL_lend_5 : decode cL_lend 5 = .ok (.iload_n 2, 1) := by decide +kernel
theorem dL_lend_6 : decode cL_lend 6 = .ok (.iload_n 3, 1) := by decide +kernel
theorem dL_lend_7 : decode cL_lend 7 = .ok (.invokevirtual 57, 3) := by decide +kernel
theorem dL_lend_10 : decode cL_lend 10 = .ok (.i2l, 1) := by decide +kernel
theorem dL_lend_11 : decode cL_lend 11 = .ok (.lastore, 1) := by decide +kernel
theorem dL_lend_12 : decode cL_lend 12 = .ok (.goto 15, 3) := by decide +kernel
theorem dL_lend_15 : decode cL_lend 15 = .ok (.astore 5, 2) := by decide +kernel
theorem dL_lend_17 : decode cL_lend 17 = .ok (.iconst 1, 1) := by decide +kernel
theorem dL_lend_18 : decode cL_lend 18 = .ok (.ireturn, 1) := by decide +kernel
theorem dL_lend_19 : decode cL_lend 19 = .ok (.astore 5, 2) := by decide +kernel
theorem dL_lend_21 : decode cL_lend 21 = .ok (.iconst 2, 1) := by decide +kernel
theorem dL_lend_22 : decode cL_lend 22 = .ok (.ireturn, 1) := by decide +kernel
theorem dL_lend_23 : decode cL_lend 23 = .ok (.astore 5, 2) := by decide +kernel
theorem dL_lend_25 : decode cL_lend 25 = .ok (.iconst 3, 1) := by decide +kernel
theorem dL_lend_26 : decode cL_lend 26 = .ok (.ireturn, 1) := by decide +kernel
theorem dL_lend_27 : decode cL_lend 27 = .ok (.iconst 0, 1) := by decide +kernel
theorem dL_lend_28 : decode cL_lend 28 = .ok (.ireturn, 1) := by decide +kernel
theorem dL_slip_0 : decode cL_slip 0 = .ok (.aload_n 3, 1) := by decide +kernel
theorem dL_slip_1 : decode cL_slip 1 = .ok (.iconst 0, 1) := by decide +kernel
theorem dL_slip_2 : decode cL_slip 2 = .ok (.aload_n 0, 1) := by decide +kernel
theorem dL_slip_3 : decode cL_slip 3 = .ok (.iload_n 1, 1) := by decide +kernel
theorem dL_slip_4 : decode cL_slip 4 = .ok (.iload_n 2, 1) := by decide +kernel
theorem dL_slip_5 : decode cL_slip 5 = .ok (.invokevirtual 60, 3) := by decide +kernel
theorem dL_slip_8 : decode cL_slip 8 = .ok (.i2l, 1) := by decide +kernel
theorem dL_slip_9 : decode cL_slip 9 = .ok (.lastore, 1) := by decide +kernel
theorem dL_slip_10 : decode cL_slip 10 = .ok (.goto 7, 3) := by decide +kernel
theorem dL_slip_13 : decode cL_slip 13 = .ok (.astore 4, 2) := by decide +kernel
theorem dL_slip_15 : decode cL_slip 15 = .ok (.iconst 1, 1) := by decide +kernel
theorem dL_slip_16 : decode cL_slip 16 = .ok (.ireturn, 1) := by decide +kernel
theorem dL_slip_17 : decode cL_slip 17 = .ok (.iconst 0, 1) := by decide +kernel
theorem dL_slip_18 : decode cL_slip 18 = .ok (.ireturn, 1) := by decide +kernel
theorem dL_bend_0 : decode cL_bend 0 = .ok (.aload 4, 2) := by decide +kernel
theorem dL_bend_2 : decode cL_bend 2 = .ok (.iconst 0, 1) := by decide +kernel
theorem dL_bend_3 : decode cL_bend 3 = .ok (.aload_n 0, 1) := by decide +kernel
theorem dL_bend_4 : decode cL_bend 4 = .ok (.iload_n 1, 1) := by decide +kernel
theorem dL_bend_5 : decode cL_bend 5 = .ok (.iload_n 2, 1) := by decide +kernel
theorem dL_bend_6 : decode cL_bend 6 = .ok (.iload_n 3, 1) := by decide +kernel
theorem dL_bend_7 : decode cL_bend 7 = .ok (.invokevirtual 63, 3) := by decide +kernel
theorem dL_bend_10 : decode cL_bend 10 = .ok (.i2l, 1) := by decide +kernel
theorem dL_bend_11 : decode cL_bend 11 = .ok (.lastore, 1) := by decide +kernel
theorem dL_bend_12 : decode cL_bend 12 = .ok (.goto 7, 3) := by decide +kernel
theorem dL_bend_15 : decode cL_bend 15 = .ok (.astore 5, 2) := by decide +kernel
theorem dL_bend_17 : decode cL_bend 17 = .ok (.iconst 1, 1) := by decide +kernel
theorem dL_bend_18 : decode cL_bend 18 = .ok (.ireturn, 1) := by decide +kernel
theorem dL_bend_19 : decode cL_bend 19 = .ok (.iconst 0, 1) := by decide +kernel
theorem dL_bend_20 : decode cL_bend 20 = .ok (.ireturn, 1) := by decide +kernel
theorem dL_run_0 : decode cL_run 0 = .ok (.aload_n 2, 1) := by decide +kernel
theorem dL_run_1 : decode cL_run 1 = .ok (.iconst 0, 1) := by decide +kernel
theorem dL_run_2 : decode cL_run 2 = .ok (.aload_n 0, 1) := by decide +kernel
theorem dL_run_3 : decode cL_run 3 = .ok (.iload_n 1, 1) := by decide +kernel
theorem dL_run_4 : decode cL_run 4 = .ok (.invokevirtual 66, 3) := by decide +kernel
theorem dL_run_7 : decode cL_run 7 = .ok (.i2l, 1) := by decide +kernel
theorem dL_run_8 : decode cL_run 8 = .ok (.lastore, 1) := by decide +kernel
theorem dL_run_9 : decode cL_run 9 = .ok (.goto 6, 3) := by decide +kernel
theorem dL_run_12 : decode cL_run 12 = .ok (.astore_n 3, 1) := by decide +kernel
theorem dL_run_13 : decode cL_run 13 = .ok (.iconst 1, 1) := by decide +kernel
theorem dL_run_14 : decode cL_run 14 = .ok (.ireturn, 1) := by decide +kernel
theorem dL_run_15 : decode cL_run 15 = .ok (.iconst 0, 1) := by decide +kernel
theorem dL_run_16 : decode cL_run 16 = .ok (.ireturn, 1) := by decide +kernel
theorem dL_count_0 : decode cL_count 0 = .ok (.aload_n 2, 1) := by decide +kernel
theorem dL_count_1 : decode cL_count 1 = .ok (.iconst 0, 1) := by decide +kernel
theorem dL_count_2 : decode cL_count 2 = .ok (.aload_n 0, 1) := by decide +kernel
theorem dL_count_3 : decode cL_count 3 = .ok (.iload_n 1, 1) := by decide +kernel
theorem dL_count_4 : decode cL_count 4 = .ok (.invokevirtual 69, 3) := by decide +kernel
theorem dL_count_7 : decode cL_count 7 = .ok (.i2l, 1) := by decide +kernel
theorem dL_count_8 : decode cL_count 8 = .ok (.lastore, 1) := by decide +kernel
theorem dL_count_9 : decode cL_count 9 = .ok (.goto 6, 3) := by decide +kernel
theorem dL_count_12 : decode cL_count 12 = .ok (.astore_n 3, 1) := by decide +kernel
theorem dL_count_13 : decode cL_count 13 = .ok (.iconst 1, 1) := by decide +kernel
theorem dL_count_14 : decode cL_count 14 = .ok (.ireturn, 1) := by decide +kernel
theorem dL_count_15 : decode cL_count 15 = .ok (.iconst 0, 1) := by decide +kernel
theorem dL_count_16 : decode cL_count 16 = .ok (.ireturn, 1) := by decide +kernel
theorem dL_hull_0 : decode cL_hull 0 = .ok (.aload_n 3, 1) := by decide +kernel
theorem dL_hull_1 : decode cL_hull 1 = .ok (.iconst 0, 1) := by decide +kernel
theorem dL_hull_2 : decode cL_hull 2 = .ok (.aload_n 0, 1) := by decide +kernel
theorem dL_hull_3 : decode cL_hull 3 = .ok (.iload_n 1, 1) := by decide +kernel
theorem dL_hull_4 : decode cL_hull 4 = .ok (.iload_n 2, 1) := by decide +kernel
theorem dL_hull_5 : decode cL_hull 5 = .ok (.invokevirtual 72, 3) := by decide +kernel
theorem dL_hull_8 : decode cL_hull 8 = .ok (.i2l, 1) := by decide +kernel
theorem dL_hull_9 : decode cL_hull 9 = .ok (.lastore, 1) := by decide +kernel
theorem dL_hull_10 : decode cL_hull 10 = .ok (.goto 7, 3) := by decide +kernel
theorem dL_hull_13 : decode cL_hull 13 = .ok (.astore 4, 2) := by decide +kernel
theorem dL_hull_15 : decode cL_hull 15 = .ok (.iconst 1, 1) := by decide +kernel
theorem dL_hull_16 : decode cL_hull 16 = .ok (.ireturn, 1) := by decide +kernel
theorem dL_hull_17 : decode cL_hull 17 = .ok (.iconst 0, 1) := by decide +kernel
theorem dL_hull_18 : decode cL_hull 18 = .ok (.ireturn, 1) := by decide +kernel
theorem dL_foresee_0 : decode cL_foresee 0 = .ok (.aload_n 3, 1) := by decide +kernel
theorem dL_foresee_1 : decode cL_foresee 1 = .ok (.iconst 0, 1) := by decide +kernel
theorem dL_foresee_2 : decode cL_foresee 2 = .ok (.aload_n 0, 1) := by decide +kernel
theorem dL_foresee_3 : decode cL_foresee 3 = .ok (.iload_n 1, 1) := by decide +kernel
theorem dL_foresee_4 : decode cL_foresee 4 = .ok (.iload_n 2, 1) := by decide +kernel
theorem dL_foresee_5 : decode cL_foresee 5 = .ok (.invokevirtual 75, 3) := by decide +kernel
theorem dL_foresee_8 : decode cL_foresee 8 = .ok (.i2l, 1) := by decide +kernel
theorem dL_foresee_9 : decode cL_foresee 9 = .ok (.lastore, 1) := by decide +kernel
theorem dL_foresee_10 : decode cL_foresee 10 = .ok (.goto 11, 3) := by decide +kernel
theorem dL_foresee_13 : decode cL_foresee 13 = .ok (.astore 4, 2) := by decide +kernel
theorem dL_foresee_15 : decode cL_foresee 15 = .ok (.iconst 1, 1) := by decide +kernel
theorem dL_foresee_16 : decode cL_foresee 16 = .ok (.ireturn, 1) := by decide +kernel
theorem dL_foresee_17 : decode cL_foresee 17 = .ok (.astore 4, 2) := by decide +kernel
theorem dL_foresee_19 : decode cL_foresee 19 = .ok (.iconst 2, 1) := by decide +kernel
theorem dL_foresee_20 : decode cL_foresee 20 = .ok (.ireturn, 1) := by decide +kernel
theorem dL_foresee_21 : decode cL_foresee 21 = .ok (.iconst 0, 1) := by decide +kernel
theorem dL_foresee_22 : decode cL_foresee 22 = .ok (.ireturn, 1) := by decide +kernel
theorem dL_law_0 : decode cL_law 0 = .ok (.new 8, 3) := by decide +kernel
theorem dL_law_3 : decode cL_law 3 = .ok (.dup, 1) := by decide +kernel
theorem dL_law_4 : decode cL_law 4 = .ok (.invokespecial 78, 3) := by decide +kernel
theorem dL_law_7 : decode cL_law 7 = .ok (.astore_n 1, 1) := by decide +kernel
theorem dL_law_8 : decode cL_law 8 = .ok (.new 79, 3) := by decide +kernel
theorem dL_law_11 : decode cL_law 11 = .ok (.dup, 1) := by decide +kernel
theorem dL_law_12 : decode cL_law 12 = .ok (.invokespecial 81, 3) := by decide +kernel
theorem dL_law_15 : decode cL_law 15 = .ok (.astore_n 2, 1) := by decide +kernel
theorem dL_law_16 : decode cL_law 16 = .ok (.iconst 1, 1) := by decide +kernel
theorem dL_law_17 : decode cL_law 17 = .ok (.newarray .long, 2) := by decide +kernel
theorem dL_law_19 : decode cL_law 19 = .ok (.astore_n 3, 1) := by decide +kernel
theorem dL_law_20 : decode cL_law 20 = .ok (.iconst 0, 1) := by decide +kernel
theorem dL_law_21 : decode cL_law 21 = .ok (.istore 4, 2) := by decide +kernel
theorem dL_law_23 : decode cL_law 23 = .ok (.iload 4, 2) := by decide +kernel
theorem dL_law_25 : decode cL_law 25 = .ok (.aload_n 0, 1) := by decide +kernel
theorem dL_law_26 : decode cL_law 26 = .ok (.arraylength, 1) := by decide +kernel
theorem dL_law_27 : decode cL_law 27 = .ok (.bipush 6, 2) := by decide +kernel
theorem dL_law_29 : decode cL_law 29 = .ok (.isub, 1) := by decide +kernel
theorem dL_law_30 : decode cL_law 30 = .ok (.if_icmp .gt 1541, 3) := by decide +kernel
theorem dL_law_33 : decode cL_law 33 = .ok (.aload_n 0, 1) := by decide +kernel
theorem dL_law_34 : decode cL_law 34 = .ok (.iload 4, 2) := by decide +kernel
theorem dL_law_36 : decode cL_law 36 = .ok (.iaload, 1) := by decide +kernel
theorem dL_law_37 : decode cL_law 37 = .ok (.bipush 31, 2) := by decide +kernel
theorem dL_law_39 : decode cL_law 39 = .ok (.iand, 1) := by decide +kernel
theorem dL_law_40 : decode cL_law 40 = .ok (.tableswitch 1525 0 22 #[108, 212, 268, 324, 337, 405, 485, 553, 621, 717, 773, 841, 885, 965, 1045, 1113, 1209, 1222, 1278, 1334, 1402, 1470, 1511], 108) := by decide +kernel
theorem dL_law_148 : decode cL_law 148 = .ok (.aload_n 1, 1) := by decide +kernel
theorem dL_law_149 : decode cL_law 149 = .ok (.aload_n 0, 1) := by decide +kernel
theorem dL_law_150 : decode cL_law 150 = .ok (.iload 4, 2) := by decide +kernel
theorem dL_law_152 : decode cL_law 152 = .ok (.iconst 1, 1) := by decide +kernel
theorem dL_law_153 : decode cL_law 153 = .ok (.iadd, 1) := by decide +kernel
theorem dL_law_154 : decode cL_law 154 = .ok (.iaload, 1) := by decide +kernel
theorem dL_law_155 : decode cL_law 155 = .ok (.aload_n 0, 1) := by decide +kernel
theorem dL_law_156 : decode cL_law 156 = .ok (.iload 4, 2) := by decide +kernel
theorem dL_law_158 : decode cL_law 158 = .ok (.iconst 2, 1) := by decide +kernel
theorem dL_law_159 : decode cL_law 159 = .ok (.iadd, 1) := by decide +kernel
theorem dL_law_160 : decode cL_law 160 = .ok (.iaload, 1) := by decide +kernel
theorem dL_law_161 : decode cL_law 161 = .ok (.aload_n 0, 1) := by decide +kernel
theorem dL_law_162 : decode cL_law 162 = .ok (.iload 4, 2) := by decide +kernel
theorem dL_law_164 : decode cL_law 164 = .ok (.iconst 3, 1) := by decide +kernel
theorem dL_law_165 : decode cL_law 165 = .ok (.iadd, 1) := by decide +kernel
theorem dL_law_166 : decode cL_law 166 = .ok (.iaload, 1) := by decide +kernel
theorem dL_law_167 : decode cL_law 167 = .ok (.aload_n 0, 1) := by decide +kernel
theorem dL_law_168 : decode cL_law 168 = .ok (.iload 4, 2) := by decide +kernel
theorem dL_law_170 : decode cL_law 170 = .ok (.iconst 4, 1) := by decide +kernel
theorem dL_law_171 : decode cL_law 171 = .ok (.iadd, 1) := by decide +kernel
theorem dL_law_172 : decode cL_law 172 = .ok (.iaload, 1) := by decide +kernel
theorem dL_law_173 : decode cL_law 173 = .ok (.aload_n 0, 1) := by decide +kernel
theorem dL_law_174 : decode cL_law 174 = .ok (.iload 4, 2) := by decide +kernel
theorem dL_law_176 : decode cL_law 176 = .ok (.iconst 5, 1) := by decide +kernel
theorem dL_law_177 : decode cL_law 177 = .ok (.iadd, 1) := by decide +kernel
theorem dL_law_178 : decode cL_law 178 = .ok (.iaload, 1) := by decide +kernel
theorem dL_law_179 : decode cL_law 179 = .ok (.aload_n 3, 1) := by decide +kernel
theorem dL_law_180 : decode cL_law 180 = .ok (.invokestatic 82, 3) := by decide +kernel
theorem dL_law_183 : decode cL_law 183 = .ok (.istore 5, 2) := by decide +kernel
theorem dL_law_185 : decode cL_law 185 = .ok (.aload_n 2, 1) := by decide +kernel
theorem dL_law_186 : decode cL_law 186 = .ok (.aload_n 0, 1) := by decide +kernel
theorem dL_law_187 : decode cL_law 187 = .ok (.iload 4, 2) := by decide +kernel
theorem dL_law_189 : decode cL_law 189 = .ok (.iconst 1, 1) := by decide +kernel
theorem dL_law_190 : decode cL_law 190 = .ok (.iadd, 1) := by decide +kernel
theorem dL_law_191 : decode cL_law 191 = .ok (.iaload, 1) := by decide +kernel
theorem dL_law_192 : decode cL_law 192 = .ok (.aload_n 0, 1) := by decide +kernel
theorem dL_law_193 : decode cL_law 193 = .ok (.iload 4, 2) := by decide +kernel
theorem dL_law_195 : decode cL_law 195 = .ok (.iconst 2, 1) := by decide +kernel
theorem dL_law_196 : decode cL_law 196 = .ok (.iadd, 1) := by decide +kernel
theorem dL_law_197 : decode cL_law 197 = .ok (.iaload, 1) := by decide +kernel
theorem dL_law_198 : decode cL_law 198 = .ok (.aload_n 0, 1) := by decide +kernel
theorem dL_law_199 : decode cL_law 199 = .ok (.iload 4, 2) := by decide +kernel
theorem dL_law_201 : decode cL_law 201 = .ok (.iconst 3, 1) := by decide +kernel
theorem dL_law_202 : decode cL_law 202 = .ok (.iadd, 1) := by decide +kernel
theorem dL_law_203 : decode cL_law 203 = .ok (.iaload, 1) := by decide +kernel
theorem dL_law_204 : decode cL_law 204 = .ok (.aload_n 0, 1) := by decide +kernel
theorem dL_law_205 : decode cL_law 205 = .ok (.iload 4, 2) := by decide +kernel
theorem dL_law_207 : decode cL_law 207 = .ok (.iconst 4, 1) := by decide +kernel
theorem dL_law_208 : decode cL_law 208 = .ok (.iadd, 1) := by decide +kernel
theorem dL_law_209 : decode cL_law 209 = .ok (.iaload, 1) := by decide +kernel
theorem dL_law_210 : decode cL_law 210 = .ok (.aload_n 0, 1) := by decide +kernel
theorem dL_law_211 : decode cL_law 211 = .ok (.iload 4, 2) := by decide +kernel
theorem dL_law_213 : decode cL_law 213 = .ok (.iconst 5, 1) := by decide +kernel
theorem dL_law_214 : decode cL_law 214 = .ok (.iadd, 1) := by decide +kernel
theorem dL_law_215 : decode cL_law 215 = .ok (.iaload, 1) := by decide +kernel
theorem dL_law_216 : decode cL_law 216 = .ok (.invokevirtual 87, 3) := by decide +kernel
theorem dL_law_219 : decode cL_law 219 = .ok (.istore 6, 2) := by decide +kernel
theorem dL_law_221 : decode cL_law 221 = .ok (.aload_n 2, 1) := by decide +kernel
theorem dL_law_222 : decode cL_law 222 = .ok (.invokevirtual 88, 3) := by decide +kernel
theorem dL_law_225 : decode cL_law 225 = .ok (.iload 5, 2) := by decide +kernel
theorem dL_law_227 : decode cL_law 227 = .ok (.if_icmp .eq 5, 3) := by decide +kernel
theorem dL_law_230 : decode cL_law 230 = .ok (.iconst 0, 1) := by decide +kernel
theorem dL_law_231 : decode cL_law 231 = .ok (.ireturn, 1) := by decide +kernel
theorem dL_law_232 : decode cL_law 232 = .ok (.iload 5, 2) := by decide +kernel
theorem dL_law_234 : decode cL_law 234 = .ok (.ifCond .ne 15, 3) := by decide +kernel
theorem dL_law_237 : decode cL_law 237 = .ok (.aload_n 3, 1) := by decide +kernel
theorem dL_law_238 : decode cL_law 238 = .ok (.iconst 0, 1) := by decide +kernel
theorem dL_law_239 : decode cL_law 239 = .ok (.laload, 1) := by decide +kernel
theorem dL_law_240 : decode cL_law 240 = .ok (.iload 6, 2) := by decide +kernel
theorem dL_law_242 : decode cL_law 242 = .ok (.i2l, 1) := by decide +kernel
theorem dL_law_243 : decode cL_law 243 = .ok (.lcmp, 1) := by decide +kernel
theorem dL_law_244 : decode cL_law 244 = .ok (.ifCond .eq 5, 3) := by decide +kernel
theorem dL_law_247 : decode cL_law 247 = .ok (.iconst 0, 1) := by decide +kernel
theorem dL_law_248 : decode cL_law 248 = .ok (.ireturn, 1) := by decide +kernel
theorem dL_law_249 : decode cL_law 249 = .ok (.goto 1316, 3) := by decide +kernel
theorem dL_law_252 : decode cL_law 252 = .ok (.aload_n 1, 1) := by decide +kernel
theorem dL_law_253 : decode cL_law 253 = .ok (.aload_n 0, 1) := by decide +kernel
theorem dL_law_254 : decode cL_law 254 = .ok (.iload 4, 2) := by decide +kernel
theorem dL_law_256 : decode cL_law 256 = .ok (.iconst 1, 1) := by decide +kernel
theorem dL_law_257 : decode cL_law 257 = .ok (.iadd, 1) := by decide +kernel
theorem dL_law_258 : decode cL_law 258 = .ok (.iaload, 1) := by decide +kernel
theorem dL_law_259 : decode cL_law 259 = .ok (.aload_n 3, 1) := by decide +kernel
theorem dL_law_260 : decode cL_law 260 = .ok (.invokestatic 91, 3) := by decide +kernel
theorem dL_law_263 : decode cL_law 263 = .ok (.istore 5, 2) := by decide +kernel
theorem dL_law_265 : decode cL_law 265 = .ok (.aload_n 2, 1) := by decide +kernel
theorem dL_law_266 : decode cL_law 266 = .ok (.aload_n 0, 1) := by decide +kernel
theorem dL_law_267 : decode cL_law 267 = .ok (.iload 4, 2) := by decide +kernel
theorem dL_law_269 : decode cL_law 269 = .ok (.iconst 1, 1) := by decide +kernel
theorem dL_law_270 : decode cL_law 270 = .ok (.iadd, 1) := by decide +kernel
theorem dL_law_271 : decode cL_law 271 = .ok (.iaload, 1) := by decide +kernel
theorem dL_law_272 : decode cL_law 272 = .ok (.invokevirtual 94, 3) := by decide +kernel
theorem dL_law_275 : decode cL_law 275 = .ok (.istore 6, 2) := by decide +kernel
theorem dL_law_277 : decode cL_law 277 = .ok (.aload_n 2, 1) := by decide +kernel
theorem dL_law_278 : decode cL_law 278 = .ok (.invokevirtual 88, 3) := by decide +kernel
theorem dL_law_281 : decode cL_law 281 = .ok (.iload 5, 2) := by decide +kernel
theorem dL_law_283 : decode cL_law 283 = .ok (.if_icmp .eq 5, 3) := by decide +kernel
theorem dL_law_286 : decode cL_law 286 = .ok (.iconst 0, 1) := by decide +kernel
theorem dL_law_287 : decode cL_law 287 = .ok (.ireturn, 1) := by decide +kernel
theorem dL_law_288 : decode cL_law 288 = .ok (.iload 5, 2) := by decide +kernel
theorem dL_law_290 : decode cL_law 290 = .ok (.ifCond .ne 15, 3) := by decide +kernel
theorem dL_law_293 : decode cL_law 293 = .ok (.aload_n 3, 1) := by decide +kernel
theorem dL_law_294 : decode cL_law 294 = .ok (.iconst 0, 1) := by decide +kernel
theorem dL_law_295 : decode cL_law 295 = .ok (.laload, 1) := by decide +kernel
theorem dL_law_296 : decode cL_law 296 = .ok (.iload 6, 2) := by decide +kernel
theorem dL_law_298 : decode cL_law 298 = .ok (.i2l, 1) := by decide +kernel
theorem dL_law_299 : decode cL_law 299 = .ok (.lcmp, 1) := by decide +kernel
theorem dL_law_300 : decode cL_law 300 = .ok (.ifCond .eq 5, 3) := by decide +kernel
theorem dL_law_303 : decode cL_law 303 = .ok (.iconst 0, 1) := by decide +kernel
theorem dL_law_304 : decode cL_law 304 = .ok (.ireturn, 1) := by decide +kernel
theorem dL_law_305 : decode cL_law 305 = .ok (.goto 1260, 3) := by decide +kernel
theorem dL_law_308 : decode cL_law 308 = .ok (.aload_n 1, 1) := by decide +kernel
theorem dL_law_309 : decode cL_law 309 = .ok (.aload_n 0, 1) := by decide +kernel
theorem dL_law_310 : decode cL_law 310 = .ok (.iload 4, 2) := by decide +kernel
theorem dL_law_312 : decode cL_law 312 = .ok (.iconst 1, 1) := by decide +kernel
theorem dL_law_313 : decode cL_law 313 = .ok (.iadd, 1) := by decide +kernel
theorem dL_law_314 : decode cL_law 314 = .ok (.iaload, 1) := by decide +kernel
theorem dL_law_315 : decode cL_law 315 = .ok (.aload_n 3, 1) := by decide +kernel
theorem dL_law_316 : decode cL_law 316 = .ok (.invokestatic 95, 3) := by decide +kernel
theorem dL_law_319 : decode cL_law 319 = .ok (.istore 5, 2) := by decide +kernel
theorem dL_law_321 : decode cL_law 321 = .ok (.aload_n 2, 1) := by decide +kernel
theorem dL_law_322 : decode cL_law 322 = .ok (.aload_n 0, 1) := by decide +kernel
theorem dL_law_323 : decode cL_law 323 = .ok (.iload 4, 2) := by decide +kernel
theorem dL_law_325 : decode cL_law 325 = .ok (.iconst 1, 1) := by decide +kernel
theorem dL_law_326 : decode cL_law 326 = .ok (.iadd, 1) := by decide +kernel
theorem dL_law_327 : decode cL_law 327 = .ok (.iaload, 1) := by decide +kernel
theorem dL_law_328 : decode cL_law 328 = .ok (.invokevirtual 97, 3) := by decide +kernel
theorem dL_law_331 : decode cL_law 331 = .ok (.istore 6, 2) := by decide +kernel
theorem dL_law_333 : decode cL_law 333 = .ok (.aload_n 2, 1) := by decide +kernel
theorem dL_law_334 : decode cL_law 334 = .ok (.invokevirtual 88, 3) := by decide +kernel
theorem dL_law_337 : decode cL_law 337 = .ok (.iload 5, 2) := by decide +kernel
theorem dL_law_339 : decode cL_law 339 = .ok (.if_icmp .eq 5, 3) := by decide +kernel
theorem dL_law_342 : decode cL_law 342 = .ok (.iconst 0, 1) := by decide +kernel
theorem dL_law_343 : decode cL_law 343 = .ok (.ireturn, 1) := by decide +kernel
theorem dL_law_344 : decode cL_law 344 = .ok (.iload 5, 2) := by decide +kernel
theorem dL_law_346 : decode cL_law 346 = .ok (.ifCond .ne 15, 3) := by decide +kernel
theorem dL_law_349 : decode cL_law 349 = .ok (.aload_n 3, 1) := by decide +kernel
theorem dL_law_350 : decode cL_law 350 = .ok (.iconst 0, 1) := by decide +kernel
theorem dL_law_351 : decode cL_law 351 = .ok (.laload, 1) := by decide +kernel
theorem dL_law_352 : decode cL_law 352 = .ok (.iload 6, 2) := by decide +kernel
theorem dL_law_354 : decode cL_law 354 = .ok (.i2l, 1) := by decide +kernel
theorem dL_law_355 : decode cL_law 355 = .ok (.lcmp, 1) := by decide +kernel
theorem dL_law_356 : decode cL_law 356 = .ok (.ifCond .eq 5, 3) := by decide +kernel
theorem dL_law_359 : decode cL_law 359 = .ok (.iconst 0, 1) := by decide +kernel
theorem dL_law_360 : decode cL_law 360 = .ok (.ireturn, 1) := by decide +kernel
theorem dL_law_361 : decode cL_law 361 = .ok (.goto 1204, 3) := by decide +kernel
theorem dL_law_364 : decode cL_law 364 = .ok (.aload_n 1, 1) := by decide +kernel
theorem dL_law_365 : decode cL_law 365 = .ok (.invokevirtual 98, 3) := by decide +kernel
theorem dL_law_368 : decode cL_law 368 = .ok (.aload_n 2, 1) := by decide +kernel
theorem dL_law_369 : decode cL_law 369 = .ok (.invokevirtual 101, 3) := by decide +kernel
theorem dL_law_372 : decode cL_law 372 = .ok (.if_icmp .eq 1193, 3) := by decide +kernel
theorem dL_law_375 : decode cL_law 375 = .ok (.iconst 0, 1) := by decide +kernel
theorem dL_law_376 : decode cL_law 376 = .ok (.ireturn, 1) := by decide +kernel
theorem dL_law_377 : decode cL_law 377 = .ok (.aload_n 1, 1) := by decide +kernel
theorem dL_law_378 : decode cL_law 378 = .ok (.aload_n 0, 1) := by decide +kernel
theorem dL_law_379 : decode cL_law 379 = .ok (.iload 4, 2) := by decide +kernel
theorem dL_law_381 : decode cL_law 381 = .ok (.iconst 1, 1) := by decide +kernel
theorem dL_law_382 : decode cL_law 382 = .ok (.iadd, 1) := by decide +kernel
theorem dL_law_383 : decode cL_law 383 = .ok (.iaload, 1) := by decide +kernel
theorem dL_law_384 : decode cL_law 384 = .ok (.aload_n 0, 1) := by decide +kernel
theorem dL_law_385 : decode cL_law 385 = .ok (.iload 4, 2) := by decide +kernel
theorem dL_law_387 : decode cL_law 387 = .ok (.iconst 2, 1) := by decide +kernel
theorem dL_law_388 : decode cL_law 388 = .ok (.iadd, 1) := by decide +kernel
theorem dL_law_389 : decode cL_law 389 = .ok (.iaload, 1) := by decide +kernel
theorem dL_law_390 : decode cL_law 390 = .ok (.aload_n 3, 1) := by decide +kernel
theorem dL_law_391 : decode cL_law 391 = .ok (.invokestatic 102, 3) := by decide +kernel
theorem dL_law_394 : decode cL_law 394 = .ok (.istore 5, 2) := by decide +kernel
theorem dL_law_396 : decode cL_law 396 = .ok (.aload_n 2, 1) := by decide +kernel
theorem dL_law_397 : decode cL_law 397 = .ok (.aload_n 0, 1) := by decide +kernel
theorem dL_law_398 : decode cL_law 398 = .ok (.iload 4, 2) := by decide +kernel
theorem dL_law_400 : decode cL_law 400 = .ok (.iconst 1, 1) := by decide +kernel
theorem dL_law_401 : decode cL_law 401 = .ok (.iadd, 1) := by decide +kernel
theorem dL_law_402 : decode cL_law 402 = .ok (.iaload, 1) := by decide +kernel
theorem dL_law_403 : decode cL_law 403 = .ok (.aload_n 0, 1) := by decide +kernel
theorem dL_law_404 : decode cL_law 404 = .ok (.iload 4, 2) := by decide +kernel
theorem dL_law_406 : decode cL_law 406 = .ok (.iconst 2, 1) := by decide +kernel
theorem dL_law_407 : decode cL_law 407 = .ok (.iadd, 1) := by decide +kernel
theorem dL_law_408 : decode cL_law 408 = .ok (.iaload, 1) := by decide +kernel
theorem dL_law_409 : decode cL_law 409 = .ok (.invokevirtual 105, 3) := by decide +kernel
theorem dL_law_412 : decode cL_law 412 = .ok (.istore 6, 2) := by decide +kernel
theorem dL_law_414 : decode cL_law 414 = .ok (.aload_n 2, 1) := by decide +kernel
theorem dL_law_415 : decode cL_law 415 = .ok (.invokevirtual 88, 3) := by decide +kernel
theorem dL_law_418 : decode cL_law 418 = .ok (.iload 5, 2) := by decide +kernel
theorem dL_law_420 : decode cL_law 420 = .ok (.if_icmp .eq 5, 3) := by decide +kernel
theorem dL_law_423 : decode cL_law 423 = .ok (.iconst 0, 1) := by decide +kernel
theorem dL_law_424 : decode cL_law 424 = .ok (.ireturn, 1) := by decide +kernel
theorem dL_law_425 : decode cL_law 425 = .ok (.iload 5, 2) := by decide +kernel
theorem dL_law_427 : decode cL_law 427 = .ok (.ifCond .ne 15, 3) := by decide +kernel
theorem dL_law_430 : decode cL_law 430 = .ok (.aload_n 3, 1) := by decide +kernel
theorem dL_law_431 : decode cL_law 431 = .ok (.iconst 0, 1) := by decide +kernel
theorem dL_law_432 : decode cL_law 432 = .ok (.laload, 1) := by decide +kernel
theorem dL_law_433 : decode cL_law 433 = .ok (.iload 6, 2) := by decide +kernel
theorem dL_law_435 : decode cL_law 435 = .ok (.i2l, 1) := by decide +kernel
theorem dL_law_436 : decode cL_law 436 = .ok (.lcmp, 1) := by decide +kernel
theorem dL_law_437 : decode cL_law 437 = .ok (.ifCond .eq 5, 3) := by decide +kernel
theorem dL_law_440 : decode cL_law 440 = .ok (.iconst 0, 1) := by decide +kernel
theorem dL_law_441 : decode cL_law 441 = .ok (.ireturn, 1) := by decide +kernel
theorem dL_law_442 : decode cL_law 442 = .ok (.goto 1123, 3) := by decide +kernel
theorem dL_law_445 : decode cL_law 445 = .ok (.aload_n 1, 1) := by decide +kernel
theorem dL_law_446 : decode cL_law 446 = .ok (.aload_n 0, 1) := by decide +kernel
theorem dL_law_447 : decode cL_law 447 = .ok (.iload 4, 2) := by decide +kernel
theorem dL_law_449 : decode cL_law 449 = .ok (.iconst 1, 1) := by decide +kernel
theorem dL_law_450 : decode cL_law 450 = .ok (.iadd, 1) := by decide +kernel
theorem dL_law_451 : decode cL_law 451 = .ok (.iaload, 1) := by decide +kernel
theorem dL_law_452 : decode cL_law 452 = .ok (.aload_n 0, 1) := by decide +kernel
theorem dL_law_453 : decode cL_law 453 = .ok (.iload 4, 2) := by decide +kernel
theorem dL_law_455 : decode cL_law 455 = .ok (.iconst 2, 1) := by decide +kernel
theorem dL_law_456 : decode cL_law 456 = .ok (.iadd, 1) := by decide +kernel
theorem dL_law_457 : decode cL_law 457 = .ok (.iaload, 1) := by decide +kernel
theorem dL_law_458 : decode cL_law 458 = .ok (.aload_n 0, 1) := by decide +kernel
theorem dL_law_459 : decode cL_law 459 = .ok (.iload 4, 2) := by decide +kernel
theorem dL_law_461 : decode cL_law 461 = .ok (.iconst 3, 1) := by decide +kernel
theorem dL_law_462 : decode cL_law 462 = .ok (.iadd, 1) := by decide +kernel
theorem dL_law_463 : decode cL_law 463 = .ok (.iaload, 1) := by decide +kernel
theorem dL_law_464 : decode cL_law 464 = .ok (.aload_n 3, 1) := by decide +kernel
theorem dL_law_465 : decode cL_law 465 = .ok (.invokestatic 106, 3) := by decide +kernel
theorem dL_law_468 : decode cL_law 468 = .ok (.istore 5, 2) := by decide +kernel
theorem dL_law_470 : decode cL_law 470 = .ok (.aload_n 2, 1) := by decide +kernel
theorem dL_law_471 : decode cL_law 471 = .ok (.aload_n 0, 1) := by decide +kernel
theorem dL_law_472 : decode cL_law 472 = .ok (.iload 4, 2) := by decide +kernel
theorem dL_law_474 : decode cL_law 474 = .ok (.iconst 1, 1) := by decide +kernel
theorem dL_law_475 : decode cL_law 475 = .ok (.iadd, 1) := by decide +kernel
theorem dL_law_476 : decode cL_law 476 = .ok (.iaload, 1) := by decide +kernel
theorem dL_law_477 : decode cL_law 477 = .ok (.aload_n 0, 1) := by decide +kernel
theorem dL_law_478 : decode cL_law 478 = .ok (.iload 4, 2) := by decide +kernel
theorem dL_law_480 : decode cL_law 480 = .ok (.iconst 2, 1) := by decide +kernel
theorem dL_law_481 : decode cL_law 481 = .ok (.iadd, 1) := by decide +kernel
theorem dL_law_482 : decode cL_law 482 = .ok (.iaload, 1) := by decide +kernel
theorem dL_law_483 : decode cL_law 483 = .ok (.aload_n 0, 1) := by decide +kernel
theorem dL_law_484 : decode cL_law 484 = .ok (.iload 4, 2) := by decide +kernel
theorem dL_law_486 : decode cL_law 486 = .ok (.iconst 3, 1) := by decide +kernel
theorem dL_law_487 : decode cL_law 487 = .ok (.iadd, 1) := by decide +kernel
theorem dL_law_488 : decode cL_law 488 = .ok (.iaload, 1) := by decide +kernel
theorem dL_law_489 : decode cL_law 489 = .ok (.invokevirtual 109, 3) := by decide +kernel
theorem dL_law_492 : decode cL_law 492 = .ok (.istore 6, 2) := by decide +kernel
theorem dL_law_494 : decode cL_law 494 = .ok (.aload_n 2, 1) := by decide +kernel
theorem dL_law_495 : decode cL_law 495 = .ok (.invokevirtual 88, 3) := by decide +kernel
theorem dL_law_498 : decode cL_law 498 = .ok (.iload 5, 2) := by decide +kernel
theorem dL_law_500 : decode cL_law 500 = .ok (.if_icmp .eq 5, 3) := by decide +kernel
theorem dL_law_503 : decode cL_law 503 = .ok (.iconst 0, 1) := by decide +kernel
theorem dL_law_504 : decode cL_law 504 = .ok (.ireturn, 1) := by decide +kernel
theorem dL_law_505 : decode cL_law 505 = .ok (.iload 5, 2) := by decide +kernel
theorem dL_law_507 : decode cL_law 507 = .ok (.ifCond .ne 15, 3) := by decide +kernel
theorem dL_law_510 : decode cL_law 510 = .ok (.aload_n 3, 1) := by decide +kernel
theorem dL_law_511 : decode cL_law 511 = .ok (.iconst 0, 1) := by decide +kernel
theorem dL_law_512 : decode cL_law 512 = .ok (.laload, 1) := by decide +kernel
theorem dL_law_513 : decode cL_law 513 = .ok (.iload 6, 2) := by decide +kernel
theorem dL_law_515 : decode cL_law 515 = .ok (.i2l, 1) := by decide +kernel
theorem dL_law_516 : decode cL_law 516 = .ok (.lcmp, 1) := by decide +kernel
theorem dL_law_517 : decode cL_law 517 = .ok (.ifCond .eq 5, 3) := by decide +kernel
theorem dL_law_520 : decode cL_law 520 = .ok (.iconst 0, 1) := by decide +kernel
theorem dL_law_521 : decode cL_law 521 = .ok (.ireturn, 1) := by decide +kernel
theorem dL_law_522 : decode cL_law 522 = .ok (.goto 1043, 3) := by decide +kernel
theorem dL_law_525 : decode cL_law 525 = .ok (.aload_n 1, 1) := by decide +kernel
theorem dL_law_526 : decode cL_law 526 = .ok (.aload_n 0, 1) := by decide +kernel
theorem dL_law_527 : decode cL_law 527 = .ok (.iload 4, 2) := by decide +kernel
theorem dL_law_529 : decode cL_law 529 = .ok (.iconst 1, 1) := by decide +kernel
theorem dL_law_530 : decode cL_law 530 = .ok (.iadd, 1) := by decide +kernel
theorem dL_law_531 : decode cL_law 531 = .ok (.iaload, 1) := by decide +kernel
theorem dL_law_532 : decode cL_law 532 = .ok (.aload_n 0, 1) := by decide +kernel
theorem dL_law_533 : decode cL_law 533 = .ok (.iload 4, 2) := by decide +kernel
theorem dL_law_535 : decode cL_law 535 = .ok (.iconst 2, 1) := by decide +kernel
theorem dL_law_536 : decode cL_law 536 = .ok (.iadd, 1) := by decide +kernel
theorem dL_law_537 : decode cL_law 537 = .ok (.iaload, 1) := by decide +kernel
theorem dL_law_538 : decode cL_law 538 = .ok (.aload_n 3, 1) := by decide +kernel
theorem dL_law_539 : decode cL_law 539 = .ok (.invokestatic 110, 3) := by decide +kernel
theorem dL_law_542 : decode cL_law 542 = .ok (.istore 5, 2) := by decide +kernel
theorem dL_law_544 : decode cL_law 544 = .ok (.aload_n 2, 1) := by decide +kernel
theorem dL_law_545 : decode cL_law 545 = .ok (.aload_n 0, 1) := by decide +kernel
theorem dL_law_546 : decode cL_law 546 = .ok (.iload 4, 2) := by decide +kernel
theorem dL_law_548 : decode cL_law 548 = .ok (.iconst 1, 1) := by decide +kernel
theorem dL_law_549 : decode cL_law 549 = .ok (.iadd, 1) := by decide +kernel
theorem dL_law_550 : decode cL_law 550 = .ok (.iaload, 1) := by decide +kernel
theorem dL_law_551 : decode cL_law 551 = .ok (.aload_n 0, 1) := by decide +kernel
theorem dL_law_552 : decode cL_law 552 = .ok (.iload 4, 2) := by decide +kernel
theorem dL_law_554 : decode cL_law 554 = .ok (.iconst 2, 1) := by decide +kernel
theorem dL_law_555 : decode cL_law 555 = .ok (.iadd, 1) := by decide +kernel
theorem dL_law_556 : decode cL_law 556 = .ok (.iaload, 1) := by decide +kernel
theorem dL_law_557 : decode cL_law 557 = .ok (.invokevirtual 112, 3) := by decide +kernel
theorem dL_law_560 : decode cL_law 560 = .ok (.istore 6, 2) := by decide +kernel
theorem dL_law_562 : decode cL_law 562 = .ok (.aload_n 2, 1) := by decide +kernel
theorem dL_law_563 : decode cL_law 563 = .ok (.invokevirtual 88, 3) := by decide +kernel
theorem dL_law_566 : decode cL_law 566 = .ok (.iload 5, 2) := by decide +kernel
theorem dL_law_568 : decode cL_law 568 = .ok (.if_icmp .eq 5, 3) := by decide +kernel
theorem dL_law_571 : decode cL_law 571 = .ok (.iconst 0, 1) := by decide +kernel
theorem dL_law_572 : decode cL_law 572 = .ok (.ireturn, 1) := by decide +kernel
theorem dL_law_573 : decode cL_law 573 = .ok (.iload 5, 2) := by decide +kernel
theorem dL_law_575 : decode cL_law 575 = .ok (.ifCond .ne 15, 3) := by decide +kernel
theorem dL_law_578 : decode cL_law 578 = .ok (.aload_n 3, 1) := by decide +kernel
theorem dL_law_579 : decode cL_law 579 = .ok (.iconst 0, 1) := by decide +kernel
theorem dL_law_580 : decode cL_law 580 = .ok (.laload, 1) := by decide +kernel
theorem dL_law_581 : decode cL_law 581 = .ok (.iload 6, 2) := by decide +kernel
theorem dL_law_583 : decode cL_law 583 = .ok (.i2l, 1) := by decide +kernel
theorem dL_law_584 : decode cL_law 584 = .ok (.lcmp, 1) := by decide +kernel
theorem dL_law_585 : decode cL_law 585 = .ok (.ifCond .eq 5, 3) := by decide +kernel
theorem dL_law_588 : decode cL_law 588 = .ok (.iconst 0, 1) := by decide +kernel
theorem dL_law_589 : decode cL_law 589 = .ok (.ireturn, 1) := by decide +kernel
theorem dL_law_590 : decode cL_law 590 = .ok (.goto 975, 3) := by decide +kernel
theorem dL_law_593 : decode cL_law 593 = .ok (.aload_n 1, 1) := by decide +kernel
theorem dL_law_594 : decode cL_law 594 = .ok (.aload_n 0, 1) := by decide +kernel
theorem dL_law_595 : decode cL_law 595 = .ok (.iload 4, 2) := by decide +kernel
theorem dL_law_597 : decode cL_law 597 = .ok (.iconst 1, 1) := by decide +kernel
theorem dL_law_598 : decode cL_law 598 = .ok (.iadd, 1) := by decide +kernel
theorem dL_law_599 : decode cL_law 599 = .ok (.iaload, 1) := by decide +kernel
theorem dL_law_600 : decode cL_law 600 = .ok (.aload_n 0, 1) := by decide +kernel
theorem dL_law_601 : decode cL_law 601 = .ok (.iload 4, 2) := by decide +kernel
theorem dL_law_603 : decode cL_law 603 = .ok (.iconst 2, 1) := by decide +kernel
theorem dL_law_604 : decode cL_law 604 = .ok (.iadd, 1) := by decide +kernel
theorem dL_law_605 : decode cL_law 605 = .ok (.iaload, 1) := by decide +kernel
theorem dL_law_606 : decode cL_law 606 = .ok (.aload_n 3, 1) := by decide +kernel
theorem dL_law_607 : decode cL_law 607 = .ok (.invokestatic 113, 3) := by decide +kernel
theorem dL_law_610 : decode cL_law 610 = .ok (.istore 5, 2) := by decide +kernel
theorem dL_law_612 : decode cL_law 612 = .ok (.aload_n 2, 1) := by decide +kernel
theorem dL_law_613 : decode cL_law 613 = .ok (.aload_n 0, 1) := by decide +kernel
theorem dL_law_614 : decode cL_law 614 = .ok (.iload 4, 2) := by decide +kernel
theorem dL_law_616 : decode cL_law 616 = .ok (.iconst 1, 1) := by decide +kernel
theorem dL_law_617 : decode cL_law 617 = .ok (.iadd, 1) := by decide +kernel
theorem dL_law_618 : decode cL_law 618 = .ok (.iaload, 1) := by decide +kernel
theorem dL_law_619 : decode cL_law 619 = .ok (.aload_n 0, 1) := by decide +kernel
theorem dL_law_620 : decode cL_law 620 = .ok (.iload 4, 2) := by decide +kernel
theorem dL_law_622 : decode cL_law 622 = .ok (.iconst 2, 1) := by decide +kernel
theorem dL_law_623 : decode cL_law 623 = .ok (.iadd, 1) := by decide +kernel
theorem dL_law_624 : decode cL_law 624 = .ok (.iaload, 1) := by decide +kernel
theorem dL_law_625 : decode cL_law 625 = .ok (.invokevirtual 115, 3) := by decide +kernel
theorem dL_law_628 : decode cL_law 628 = .ok (.istore 6, 2) := by decide +kernel
theorem dL_law_630 : decode cL_law 630 = .ok (.aload_n 2, 1) := by decide +kernel
theorem dL_law_631 : decode cL_law 631 = .ok (.invokevirtual 88, 3) := by decide +kernel
theorem dL_law_634 : decode cL_law 634 = .ok (.iload 5, 2) := by decide +kernel
theorem dL_law_636 : decode cL_law 636 = .ok (.if_icmp .eq 5, 3) := by decide +kernel
theorem dL_law_639 : decode cL_law 639 = .ok (.iconst 0, 1) := by decide +kernel
theorem dL_law_640 : decode cL_law 640 = .ok (.ireturn, 1) := by decide +kernel
theorem dL_law_641 : decode cL_law 641 = .ok (.iload 5, 2) := by decide +kernel
theorem dL_law_643 : decode cL_law 643 = .ok (.ifCond .ne 15, 3) := by decide +kernel
theorem dL_law_646 : decode cL_law 646 = .ok (.aload_n 3, 1) := by decide +kernel
theorem dL_law_647 : decode cL_law 647 = .ok (.iconst 0, 1) := by decide +kernel
theorem dL_law_648 : decode cL_law 648 = .ok (.laload, 1) := by decide +kernel
theorem dL_law_649 : decode cL_law 649 = .ok (.iload 6, 2) := by decide +kernel
theorem dL_law_651 : decode cL_law 651 = .ok (.i2l, 1) := by decide +kernel
theorem dL_law_652 : decode cL_law 652 = .ok (.lcmp, 1) := by decide +kernel
theorem dL_law_653 : decode cL_law 653 = .ok (.ifCond .eq 5, 3) := by decide +kernel
theorem dL_law_656 : decode cL_law 656 = .ok (.iconst 0, 1) := by decide +kernel
theorem dL_law_657 : decode cL_law 657 = .ok (.ireturn, 1) := by decide +kernel
theorem dL_law_658 : decode cL_law 658 = .ok (.goto 907, 3) := by decide +kernel
theorem dL_law_661 : decode cL_law 661 = .ok (.aload_n 1, 1) := by decide +kernel
theorem dL_law_662 : decode cL_law 662 = .ok (.aload_n 0, 1) := by decide +kernel
theorem dL_law_663 : decode cL_law 663 = .ok (.iload 4, 2) := by decide +kernel
theorem dL_law_665 : decode cL_law 665 = .ok (.iconst 1, 1) := by decide +kernel
theorem dL_law_666 : decode cL_law 666 = .ok (.iadd, 1) := by decide +kernel
theorem dL_law_667 : decode cL_law 667 = .ok (.iaload, 1) := by decide +kernel
theorem dL_law_668 : decode cL_law 668 = .ok (.aload_n 0, 1) := by decide +kernel
theorem dL_law_669 : decode cL_law 669 = .ok (.iload 4, 2) := by decide +kernel
theorem dL_law_671 : decode cL_law 671 = .ok (.iconst 2, 1) := by decide +kernel
theorem dL_law_672 : decode cL_law 672 = .ok (.iadd, 1) := by decide +kernel
theorem dL_law_673 : decode cL_law 673 = .ok (.iaload, 1) := by decide +kernel
theorem dL_law_674 : decode cL_law 674 = .ok (.aload_n 0, 1) := by decide +kernel
theorem dL_law_675 : decode cL_law 675 = .ok (.iload 4, 2) := by decide +kernel
theorem dL_law_677 : decode cL_law 677 = .ok (.iconst 3, 1) := by decide +kernel
theorem dL_law_678 : decode cL_law 678 = .ok (.iadd, 1) := by decide +kernel
theorem dL_law_679 : decode cL_law 679 = .ok (.iaload, 1) := by decide +kernel
theorem dL_law_680 : decode cL_law 680 = .ok (.ifCond .eq 7, 3) := by decide +kernel
theorem dL_law_683 : decode cL_law 683 = .ok (.iconst 1, 1) := by decide +kernel
theorem dL_law_684 : decode cL_law 684 = .ok (.goto 4, 3) := by decide +kernel
theorem dL_law_687 : decode cL_law 687 = .ok (.iconst 0, 1) := by decide +kernel
theorem dL_law_688 : decode cL_law 688 = .ok (.aload_n 3, 1) := by decide +kernel
theorem dL_law_689 : decode cL_law 689 = .ok (.invokestatic 116, 3) := by decide +kernel
theorem dL_law_692 : decode cL_law 692 = .ok (.istore 5, 2) := by decide +kernel
theorem dL_law_694 : decode cL_law 694 = .ok (.aload_n 2, 1) := by decide +kernel
theorem dL_law_695 : decode cL_law 695 = .ok (.aload_n 0, 1) := by decide +kernel
theorem dL_law_696 : decode cL_law 696 = .ok (.iload 4, 2) := by decide +kernel
theorem dL_law_698 : decode cL_law 698 = .ok (.iconst 1, 1) := by decide +kernel
theorem dL_law_699 : decode cL_law 699 = .ok (.iadd, 1) := by decide +kernel
theorem dL_law_700 : decode cL_law 700 = .ok (.iaload, 1) := by decide +kernel
theorem dL_law_701 : decode cL_law 701 = .ok (.aload_n 0, 1) := by decide +kernel
theorem dL_law_702 : decode cL_law 702 = .ok (.iload 4, 2) := by decide +kernel
theorem dL_law_704 : decode cL_law 704 = .ok (.iconst 2, 1) := by decide +kernel
theorem dL_law_705 : decode cL_law 705 = .ok (.iadd, 1) := by decide +kernel
theorem dL_law_706 : decode cL_law 706 = .ok (.iaload, 1) := by decide +kernel
theorem dL_law_707 : decode cL_law 707 = .ok (.aload_n 0, 1) := by decide +kernel
theorem dL_law_708 : decode cL_law 708 = .ok (.iload 4, 2) := by decide +kernel
theorem dL_law_710 : decode cL_law 710 = .ok (.iconst 3, 1) := by decide +kernel
theorem dL_law_711 : decode cL_law 711 = .ok (.iadd, 1) := by decide +kernel
theorem dL_law_712 : decode cL_law 712 = .ok (.iaload, 1) := by decide +kernel
theorem dL_law_713 : decode cL_law 713 = .ok (.ifCond .eq 7, 3) := by decide +kernel
theorem dL_law_716 : decode cL_law 716 = .ok (.iconst 1, 1) := by decide +kernel
theorem dL_law_717 : decode cL_law 717 = .ok (.goto 4, 3) := by decide +kernel
theorem dL_law_720 : decode cL_law 720 = .ok (.iconst 0, 1) := by decide +kernel
theorem dL_law_721 : decode cL_law 721 = .ok (.invokevirtual 119, 3) := by decide +kernel
theorem dL_law_724 : decode cL_law 724 = .ok (.istore 6, 2) := by decide +kernel
theorem dL_law_726 : decode cL_law 726 = .ok (.aload_n 2, 1) := by decide +kernel
theorem dL_law_727 : decode cL_law 727 = .ok (.invokevirtual 88, 3) := by decide +kernel
theorem dL_law_730 : decode cL_law 730 = .ok (.iload 5, 2) := by decide +kernel
theorem dL_law_732 : decode cL_law 732 = .ok (.if_icmp .eq 5, 3) := by decide +kernel
theorem dL_law_735 : decode cL_law 735 = .ok (.iconst 0, 1) := by decide +kernel
theorem dL_law_736 : decode cL_law 736 = .ok (.ireturn, 1) := by decide +kernel
theorem dL_law_737 : decode cL_law 737 = .ok (.iload 5, 2) := by decide +kernel
theorem dL_law_739 : decode cL_law 739 = .ok (.ifCond .ne 15, 3) := by decide +kernel
theorem dL_law_742 : decode cL_law 742 = .ok (.aload_n 3, 1) := by decide +kernel
theorem dL_law_743 : decode cL_law 743 = .ok (.iconst 0, 1) := by decide +kernel
theorem dL_law_744 : decode cL_law 744 = .ok (.laload, 1) := by decide +kernel
theorem dL_law_745 : decode cL_law 745 = .ok (.iload 6, 2) := by decide +kernel
theorem dL_law_747 : decode cL_law 747 = .ok (.i2l, 1) := by decide +kernel
theorem dL_law_748 : decode cL_law 748 = .ok (.lcmp, 1) := by decide +kernel
theorem dL_law_749 : decode cL_law 749 = .ok (.ifCond .eq 5, 3) := by decide +kernel
theorem dL_law_752 : decode cL_law 752 = .ok (.iconst 0, 1) := by decide +kernel
theorem dL_law_753 : decode cL_law 753 = .ok (.ireturn, 1) := by decide +kernel
theorem dL_law_754 : decode cL_law 754 = .ok (.goto 811, 3) := by decide +kernel
theorem dL_law_757 : decode cL_law 757 = .ok (.aload_n 1, 1) := by decide +kernel
theorem dL_law_758 : decode cL_law 758 = .ok (.aload_n 0, 1) := by decide +kernel
theorem dL_law_759 : decode cL_law 759 = .ok (.iload 4, 2) := by decide +kernel
theorem dL_law_761 : decode cL_law 761 = .ok (.iconst 1, 1) := by decide +kernel
theorem dL_law_762 : decode cL_law 762 = .ok (.iadd, 1) := by decide +kernel
theorem dL_law_763 : decode cL_law 763 = .ok (.iaload, 1) := by decide +kernel
theorem dL_law_764 : decode cL_law 764 = .ok (.aload_n 3, 1) := by decide +kernel
theorem dL_law_765 : decode cL_law 765 = .ok (.invokestatic 120, 3) := by decide +kernel
theorem dL_law_768 : decode cL_law 768 = .ok (.istore 5, 2) := by decide +kernel
theorem dL_law_770 : decode cL_law 770 = .ok (.aload_n 2, 1) := by decide +kernel
theorem dL_law_771 : decode cL_law 771 = .ok (.aload_n 0, 1) := by decide +kernel
theorem dL_law_772 : decode cL_law 772 = .ok (.iload 4, 2) := by decide +kernel
theorem dL_law_774 : decode cL_law 774 = .ok (.iconst 1, 1) := by decide +kernel
theorem dL_law_775 : decode cL_law 775 = .ok (.iadd, 1) := by decide +kernel
theorem dL_law_776 : decode cL_law 776 = .ok (.iaload, 1) := by decide +kernel
theorem dL_law_777 : decode cL_law 777 = .ok (.invokevirtual 122, 3) := by decide +kernel
theorem dL_law_780 : decode cL_law 780 = .ok (.istore 6, 2) := by decide +kernel
theorem dL_law_782 : decode cL_law 782 = .ok (.aload_n 2, 1) := by decide +kernel
theorem dL_law_783 : decode cL_law 783 = .ok (.invokevirtual 88, 3) := by decide +kernel
theorem dL_law_786 : decode cL_law 786 = .ok (.iload 5, 2) := by decide +kernel
theorem dL_law_788 : decode cL_law 788 = .ok (.if_icmp .eq 5, 3) := by decide +kernel
theorem dL_law_791 : decode cL_law 791 = .ok (.iconst 0, 1) := by decide +kernel
theorem dL_law_792 : decode cL_law 792 = .ok (.ireturn, 1) := by decide +kernel
theorem dL_law_793 : decode cL_law 793 = .ok (.iload 5, 2) := by decide +kernel
theorem dL_law_795 : decode cL_law 795 = .ok (.ifCond .ne 15, 3) := by decide +kernel
theorem dL_law_798 : decode cL_law 798 = .ok (.aload_n 3, 1) := by decide +kernel
theorem dL_law_799 : decode cL_law 799 = .ok (.iconst 0, 1) := by decide +kernel
theorem dL_law_800 : decode cL_law 800 = .ok (.laload, 1) := by decide +kernel
theorem dL_law_801 : decode cL_law 801 = .ok (.iload 6, 2) := by decide +kernel
theorem dL_law_803 : decode cL_law 803 = .ok (.i2l, 1) := by decide +kernel
theorem dL_law_804 : decode cL_law 804 = .ok (.lcmp, 1) := by decide +kernel
theorem dL_law_805 : decode cL_law 805 = .ok (.ifCond .eq 5, 3) := by decide +kernel
theorem dL_law_808 : decode cL_law 808 = .ok (.iconst 0, 1) := by decide +kernel
theorem dL_law_809 : decode cL_law 809 = .ok (.ireturn, 1) := by decide +kernel
theorem dL_law_810 : decode cL_law 810 = .ok (.goto 755, 3) := by decide +kernel
theorem dL_law_813 : decode cL_law 813 = .ok (.aload_n 1, 1) := by decide +kernel
theorem dL_law_814 : decode cL_law 814 = .ok (.aload_n 0, 1) := by decide +kernel
theorem dL_law_815 : decode cL_law 815 = .ok (.iload 4, 2) := by decide +kernel
theorem dL_law_817 : decode cL_law 817 = .ok (.iconst 1, 1) := by decide +kernel
theorem dL_law_818 : decode cL_law 818 = .ok (.iadd, 1) := by decide +kernel
theorem dL_law_819 : decode cL_law 819 = .ok (.iaload, 1) := by decide +kernel
theorem dL_law_820 : decode cL_law 820 = .ok (.aload_n 0, 1) := by decide +kernel
theorem dL_law_821 : decode cL_law 821 = .ok (.iload 4, 2) := by decide +kernel
theorem dL_law_823 : decode cL_law 823 = .ok (.iconst 2, 1) := by decide +kernel
theorem dL_law_824 : decode cL_law 824 = .ok (.iadd, 1) := by decide +kernel
theorem dL_law_825 : decode cL_law 825 = .ok (.iaload, 1) := by decide +kernel
theorem dL_law_826 : decode cL_law 826 = .ok (.aload_n 3, 1) := by decide +kernel
theorem dL_law_827 : decode cL_law 827 = .ok (.invokestatic 123, 3) := by decide +kernel
theorem dL_law_830 : decode cL_law 830 = .ok (.istore 5, 2) := by decide +kernel
theorem dL_law_832 : decode cL_law 832 = .ok (.aload_n 2, 1) := by decide +kernel
theorem dL_law_833 : decode cL_law 833 = .ok (.aload_n 0, 1) := by decide +kernel
theorem dL_law_834 : decode cL_law 834 = .ok (.iload 4, 2) := by decide +kernel
theorem dL_law_836 : decode cL_law 836 = .ok (.iconst 1, 1) := by decide +kernel
theorem dL_law_837 : decode cL_law 837 = .ok (.iadd, 1) := by decide +kernel
theorem dL_law_838 : decode cL_law 838 = .ok (.iaload, 1) := by decide +kernel
theorem dL_law_839 : decode cL_law 839 = .ok (.aload_n 0, 1) := by decide +kernel
theorem dL_law_840 : decode cL_law 840 = .ok (.iload 4, 2) := by decide +kernel
theorem dL_law_842 : decode cL_law 842 = .ok (.iconst 2, 1) := by decide +kernel
theorem dL_law_843 : decode cL_law 843 = .ok (.iadd, 1) := by decide +kernel
theorem dL_law_844 : decode cL_law 844 = .ok (.iaload, 1) := by decide +kernel
theorem dL_law_845 : decode cL_law 845 = .ok (.invokevirtual 125, 3) := by decide +kernel
theorem dL_law_848 : decode cL_law 848 = .ok (.istore 6, 2) := by decide +kernel
theorem dL_law_850 : decode cL_law 850 = .ok (.aload_n 2, 1) := by decide +kernel
theorem dL_law_851 : decode cL_law 851 = .ok (.invokevirtual 88, 3) := by decide +kernel
theorem dL_law_854 : decode cL_law 854 = .ok (.iload 5, 2) := by decide +kernel
theorem dL_law_856 : decode cL_law 856 = .ok (.if_icmp .eq 5, 3) := by decide +kernel
theorem dL_law_859 : decode cL_law 859 = .ok (.iconst 0, 1) := by decide +kernel
theorem dL_law_860 : decode cL_law 860 = .ok (.ireturn, 1) := by decide +kernel
theorem dL_law_861 : decode cL_law 861 = .ok (.iload 5, 2) := by decide +kernel
theorem dL_law_863 : decode cL_law 863 = .ok (.ifCond .ne 15, 3) := by decide +kernel
theorem dL_law_866 : decode cL_law 866 = .ok (.aload_n 3, 1) := by decide +kernel
theorem dL_law_867 : decode cL_law 867 = .ok (.iconst 0, 1) := by decide +kernel
theorem dL_law_868 : decode cL_law 868 = .ok (.laload, 1) := by decide +kernel
theorem dL_law_869 : decode cL_law 869 = .ok (.iload 6, 2) := by decide +kernel
theorem dL_law_871 : decode cL_law 871 = .ok (.i2l, 1) := by decide +kernel
theorem dL_law_872 : decode cL_law 872 = .ok (.lcmp, 1) := by decide +kernel
theorem dL_law_873 : decode cL_law 873 = .ok (.ifCond .eq 5, 3) := by decide +kernel
theorem dL_law_876 : decode cL_law 876 = .ok (.iconst 0, 1) := by decide +kernel
theorem dL_law_877 : decode cL_law 877 = .ok (.ireturn, 1) := by decide +kernel
theorem dL_law_878 : decode cL_law 878 = .ok (.goto 687, 3) := by decide +kernel
theorem dL_law_881 : decode cL_law 881 = .ok (.aload_n 1, 1) := by decide +kernel
theorem dL_law_882 : decode cL_law 882 = .ok (.aload_n 3, 1) := by decide +kernel
theorem dL_law_883 : decode cL_law 883 = .ok (.invokestatic 126, 3) := by decide +kernel
theorem dL_law_886 : decode cL_law 886 = .ok (.istore 5, 2) := by decide +kernel
theorem dL_law_888 : decode cL_law 888 = .ok (.aload_n 2, 1) := by decide +kernel
theorem dL_law_889 : decode cL_law 889 = .ok (.invokevirtual 129, 3) := by decide +kernel
theorem dL_law_892 : decode cL_law 892 = .ok (.istore 6, 2) := by decide +kernel
theorem dL_law_894 : decode cL_law 894 = .ok (.aload_n 2, 1) := by decide +kernel
theorem dL_law_895 : decode cL_law 895 = .ok (.invokevirtual 88, 3) := by decide +kernel
theorem dL_law_898 : decode cL_law 898 = .ok (.iload 5, 2) := by decide +kernel
theorem dL_law_900 : decode cL_law 900 = .ok (.if_icmp .eq 5, 3) := by decide +kernel
theorem dL_law_903 : decode cL_law 903 = .ok (.iconst 0, 1) := by decide +kernel
theorem dL_law_904 : decode cL_law 904 = .ok (.ireturn, 1) := by decide +kernel
theorem dL_law_905 : decode cL_law 905 = .ok (.iload 5, 2) := by decide +kernel
theorem dL_law_907 : decode cL_law 907 = .ok (.ifCond .ne 15, 3) := by decide +kernel
theorem dL_law_910 : decode cL_law 910 = .ok (.aload_n 3, 1) := by decide +kernel
theorem dL_law_911 : decode cL_law 911 = .ok (.iconst 0, 1) := by decide +kernel
theorem dL_law_912 : decode cL_law 912 = .ok (.laload, 1) := by decide +kernel
theorem dL_law_913 : decode cL_law 913 = .ok (.iload 6, 2) := by decide +kernel
theorem dL_law_915 : decode cL_law 915 = .ok (.i2l, 1) := by decide +kernel
theorem dL_law_916 : decode cL_law 916 = .ok (.lcmp, 1) := by decide +kernel
theorem dL_law_917 : decode cL_law 917 = .ok (.ifCond .eq 5, 3) := by decide +kernel
theorem dL_law_920 : decode cL_law 920 = .ok (.iconst 0, 1) := by decide +kernel
theorem dL_law_921 : decode cL_law 921 = .ok (.ireturn, 1) := by decide +kernel
theorem dL_law_922 : decode cL_law 922 = .ok (.goto 643, 3) := by decide +kernel
theorem dL_law_925 : decode cL_law 925 = .ok (.aload_n 1, 1) := by decide +kernel
theorem dL_law_926 : decode cL_law 926 = .ok (.aload_n 0, 1) := by decide +kernel
theorem dL_law_927 : decode cL_law 927 = .ok (.iload 4, 2) := by decide +kernel
theorem dL_law_929 : decode cL_law 929 = .ok (.iconst 1, 1) := by decide +kernel
theorem dL_law_930 : decode cL_law 930 = .ok (.iadd, 1) := by decide +kernel
theorem dL_law_931 : decode cL_law 931 = .ok (.iaload, 1) := by decide +kernel
theorem dL_law_932 : decode cL_law 932 = .ok (.aload_n 0, 1) := by decide +kernel
theorem dL_law_933 : decode cL_law 933 = .ok (.iload 4, 2) := by decide +kernel
theorem dL_law_935 : decode cL_law 935 = .ok (.iconst 2, 1) := by decide +kernel
theorem dL_law_936 : decode cL_law 936 = .ok (.iadd, 1) := by decide +kernel
theorem dL_law_937 : decode cL_law 937 = .ok (.iaload, 1) := by decide +kernel
theorem dL_law_938 : decode cL_law 938 = .ok (.aload_n 0, 1) := by decide +kernel
theorem dL_law_939 : decode cL_law 939 = .ok (.iload 4, 2) := by decide +kernel
theorem dL_law_941 : decode cL_law 941 = .ok (.iconst 3, 1) := by decide +kernel
theorem dL_law_942 : decode cL_law 942 = .ok (.iadd, 1) := by decide +kernel
theorem dL_law_943 : decode cL_law 943 = .ok (.iaload, 1) := by decide +kernel
theorem dL_law_944 : decode cL_law 944 = .ok (.aload_n 3, 1) := by decide +kernel
theorem dL_law_945 : decode cL_law 945 = .ok (.invokestatic 130, 3) := by decide +kernel
theorem dL_law_948 : decode cL_law 948 = .ok (.istore 5, 2) := by decide +kernel
theorem dL_law_950 : decode cL_law 950 = .ok (.aload_n 2, 1) := by decide +kernel
theorem dL_law_951 : decode cL_law 951 = .ok (.aload_n 0, 1) := by decide +kernel
theorem dL_law_952 : decode cL_law 952 = .ok (.iload 4, 2) := by decide +kernel
theorem dL_law_954 : decode cL_law 954 = .ok (.iconst 1, 1) := by decide +kernel
theorem dL_law_955 : decode cL_law 955 = .ok (.iadd, 1) := by decide +kernel
theorem dL_law_956 : decode cL_law 956 = .ok (.iaload, 1) := by decide +kernel
theorem dL_law_957 : decode cL_law 957 = .ok (.aload_n 0, 1) := by decide +kernel
theorem dL_law_958 : decode cL_law 958 = .ok (.iload 4, 2) := by decide +kernel
theorem dL_law_960 : decode cL_law 960 = .ok (.iconst 2, 1) := by decide +kernel
theorem dL_law_961 : decode cL_law 961 = .ok (.iadd, 1) := by decide +kernel
theorem dL_law_962 : decode cL_law 962 = .ok (.iaload, 1) := by decide +kernel
theorem dL_law_963 : decode cL_law 963 = .ok (.aload_n 0, 1) := by decide +kernel
theorem dL_law_964 : decode cL_law 964 = .ok (.iload 4, 2) := by decide +kernel
theorem dL_law_966 : decode cL_law 966 = .ok (.iconst 3, 1) := by decide +kernel
theorem dL_law_967 : decode cL_law 967 = .ok (.iadd, 1) := by decide +kernel
theorem dL_law_968 : decode cL_law 968 = .ok (.iaload, 1) := by decide +kernel
theorem dL_law_969 : decode cL_law 969 = .ok (.invokevirtual 132, 3) := by decide +kernel
theorem dL_law_972 : decode cL_law 972 = .ok (.istore 6, 2) := by decide +kernel
theorem dL_law_974 : decode cL_law 974 = .ok (.aload_n 2, 1) := by decide +kernel
theorem dL_law_975 : decode cL_law 975 = .ok (.invokevirtual 88, 3) := by decide +kernel
theorem dL_law_978 : decode cL_law 978 = .ok (.iload 5, 2) := by decide +kernel
theorem dL_law_980 : decode cL_law 980 = .ok (.if_icmp .eq 5, 3) := by decide +kernel
theorem dL_law_983 : decode cL_law 983 = .ok (.iconst 0, 1) := by decide +kernel
theorem dL_law_984 : decode cL_law 984 = .ok (.ireturn, 1) := by decide +kernel
theorem dL_law_985 : decode cL_law 985 = .ok (.iload 5, 2) := by decide +kernel
theorem dL_law_987 : decode cL_law 987 = .ok (.ifCond .ne 15, 3) := by decide +kernel
theorem dL_law_990 : decode cL_law 990 = .ok (.aload_n 3, 1) := by decide +kernel
theorem dL_law_991 : decode cL_law 991 = .ok (.iconst 0, 1) := by decide +kernel
theorem dL_law_992 : decode cL_law 992 = .ok (.laload, 1) := by decide +kernel
theorem dL_law_993 : decode cL_law 993 = .ok (.iload 6, 2) := by decide +kernel
theorem dL_law_995 : decode cL_law 995 = .ok (.i2l, 1) := by decide +kernel
theorem dL_law_996 : decode cL_law 996 = .ok (.lcmp, 1) := by decide +kernel
theorem dL_law_997 : decode cL_law 997 = .ok (.ifCond .eq 5, 3) := by decide +kernel
theorem dL_law_1000 : decode cL_law 1000 = .ok (.iconst 0, 1) := by decide +kernel
theorem dL_law_1001 : decode cL_law 1001 = .ok (.ireturn, 1) := by decide +kernel
theorem dL_law_1002 : decode cL_law 1002 = .ok (.goto 563, 3) := by decide +kernel
theorem dL_law_1005 : decode cL_law 1005 = .ok (.aload_n 1, 1) := by decide +kernel
theorem dL_law_1006 : decode cL_law 1006 = .ok (.aload_n 0, 1) := by decide +kernel
theorem dL_law_1007 : decode cL_law 1007 = .ok (.iload 4, 2) := by decide +kernel
theorem dL_law_1009 : decode cL_law 1009 = .ok (.iconst 1, 1) := by decide +kernel
theorem dL_law_1010 : decode cL_law 1010 = .ok (.iadd, 1) := by decide +kernel
theorem dL_law_1011 : decode cL_law 1011 = .ok (.iaload, 1) := by decide +kernel
theorem dL_law_1012 : decode cL_law 1012 = .ok (.aload_n 0, 1) := by decide +kernel
theorem dL_law_1013 : decode cL_law 1013 = .ok (.iload 4, 2) := by decide +kernel
theorem dL_law_1015 : decode cL_law 1015 = .ok (.iconst 2, 1) := by decide +kernel
theorem dL_law_1016 : decode cL_law 1016 = .ok (.iadd, 1) := by decide +kernel
theorem dL_law_1017 : decode cL_law 1017 = .ok (.iaload, 1) := by decide +kernel
theorem dL_law_1018 : decode cL_law 1018 = .ok (.aload_n 0, 1) := by decide +kernel
theorem dL_law_1019 : decode cL_law 1019 = .ok (.iload 4, 2) := by decide +kernel
theorem dL_law_1021 : decode cL_law 1021 = .ok (.iconst 3, 1) := by decide +kernel
theorem dL_law_1022 : decode cL_law 1022 = .ok (.iadd, 1) := by decide +kernel
theorem dL_law_1023 : decode cL_law 1023 = .ok (.iaload, 1) := by decide +kernel
theorem dL_law_1024 : decode cL_law 1024 = .ok (.aload_n 3, 1) := by decide +kernel
theorem dL_law_1025 : decode cL_law 1025 = .ok (.invokestatic 133, 3) := by decide +kernel
theorem dL_law_1028 : decode cL_law 1028 = .ok (.istore 5, 2) := by decide +kernel
theorem dL_law_1030 : decode cL_law 1030 = .ok (.aload_n 2, 1) := by decide +kernel
theorem dL_law_1031 : decode cL_law 1031 = .ok (.aload_n 0, 1) := by decide +kernel
theorem dL_law_1032 : decode cL_law 1032 = .ok (.iload 4, 2) := by decide +kernel
theorem dL_law_1034 : decode cL_law 1034 = .ok (.iconst 1, 1) := by decide +kernel
theorem dL_law_1035 : decode cL_law 1035 = .ok (.iadd, 1) := by decide +kernel
theorem dL_law_1036 : decode cL_law 1036 = .ok (.iaload, 1) := by decide +kernel
theorem dL_law_1037 : decode cL_law 1037 = .ok (.aload_n 0, 1) := by decide +kernel
theorem dL_law_1038 : decode cL_law 1038 = .ok (.iload 4, 2) := by decide +kernel
theorem dL_law_1040 : decode cL_law 1040 = .ok (.iconst 2, 1) := by decide +kernel
theorem dL_law_1041 : decode cL_law 1041 = .ok (.iadd, 1) := by decide +kernel
theorem dL_law_1042 : decode cL_law 1042 = .ok (.iaload, 1) := by decide +kernel
theorem dL_law_1043 : decode cL_law 1043 = .ok (.aload_n 0, 1) := by decide +kernel
theorem dL_law_1044 : decode cL_law 1044 = .ok (.iload 4, 2) := by decide +kernel
theorem dL_law_1046 : decode cL_law 1046 = .ok (.iconst 3, 1) := by decide +kernel
theorem dL_law_1047 : decode cL_law 1047 = .ok (.iadd, 1) := by decide +kernel
theorem dL_law_1048 : decode cL_law 1048 = .ok (.iaload, 1) := by decide +kernel
theorem dL_law_1049 : decode cL_law 1049 = .ok (.invokevirtual 135, 3) := by decide +kernel
theorem dL_law_1052 : decode cL_law 1052 = .ok (.istore 6, 2) := by decide +kernel
theorem dL_law_1054 : decode cL_law 1054 = .ok (.aload_n 2, 1) := by decide +kernel
theorem dL_law_1055 : decode cL_law 1055 = .ok (.invokevirtual 88, 3) := by decide +kernel
theorem dL_law_1058 : decode cL_law 1058 = .ok (.iload 5, 2) := by decide +kernel
theorem dL_law_1060 : decode cL_law 1060 = .ok (.if_icmp .eq 5, 3) := by decide +kernel
theorem dL_law_1063 : decode cL_law 1063 = .ok (.iconst 0, 1) := by decide +kernel
theorem dL_law_1064 : decode cL_law 1064 = .ok (.ireturn, 1) := by decide +kernel
theorem dL_law_1065 : decode cL_law 1065 = .ok (.iload 5, 2) := by decide +kernel
theorem dL_law_1067 : decode cL_law 1067 = .ok (.ifCond .ne 15, 3) := by decide +kernel
theorem dL_law_1070 : decode cL_law 1070 = .ok (.aload_n 3, 1) := by decide +kernel
theorem dL_law_1071 : decode cL_law 1071 = .ok (.iconst 0, 1) := by decide +kernel
theorem dL_law_1072 : decode cL_law 1072 = .ok (.laload, 1) := by decide +kernel
theorem dL_law_1073 : decode cL_law 1073 = .ok (.iload 6, 2) := by decide +kernel
theorem dL_law_1075 : decode cL_law 1075 = .ok (.i2l, 1) := by decide +kernel
theorem dL_law_1076 : decode cL_law 1076 = .ok (.lcmp, 1) := by decide +kernel
theorem dL_law_1077 : decode cL_law 1077 = .ok (.ifCond .eq 5, 3) := by decide +kernel
theorem dL_law_1080 : decode cL_law 1080 = .ok (.iconst 0, 1) := by decide +kernel
theorem dL_law_1081 : decode cL_law 1081 = .ok (.ireturn, 1) := by decide +kernel
theorem dL_law_1082 : decode cL_law 1082 = .ok (.goto 483, 3) := by decide +kernel
theorem dL_law_1085 : decode cL_law 1085 = .ok (.aload_n 1, 1) := by decide +kernel
theorem dL_law_1086 : decode cL_law 1086 = .ok (.aload_n 0, 1) := by decide +kernel
theorem dL_law_1087 : decode cL_law 1087 = .ok (.iload 4, 2) := by decide +kernel
theorem dL_law_1089 : decode cL_law 1089 = .ok (.iconst 1, 1) := by decide +kernel
theorem dL_law_1090 : decode cL_law 1090 = .ok (.iadd, 1) := by decide +kernel
theorem dL_law_1091 : decode cL_law 1091 = .ok (.iaload, 1) := by decide +kernel
theorem dL_law_1092 : decode cL_law 1092 = .ok (.aload_n 0, 1) := by decide +kernel
theorem dL_law_1093 : decode cL_law 1093 = .ok (.iload 4, 2) := by decide +kernel
theorem dL_law_1095 : decode cL_law 1095 = .ok (.iconst 2, 1) := by decide +kernel
theorem dL_law_1096 : decode cL_law 1096 = .ok (.iadd, 1) := by decide +kernel
theorem dL_law_1097 : decode cL_law 1097 = .ok (.iaload, 1) := by decide +kernel
theorem dL_law_1098 : decode cL_law 1098 = .ok (.aload_n 3, 1) := by decide +kernel
theorem dL_law_1099 : decode cL_law 1099 = .ok (.invokestatic 136, 3) := by decide +kernel
theorem dL_law_1102 : decode cL_law 1102 = .ok (.istore 5, 2) := by decide +kernel
theorem dL_law_1104 : decode cL_law 1104 = .ok (.aload_n 2, 1) := by decide +kernel
theorem dL_law_1105 : decode cL_law 1105 = .ok (.aload_n 0, 1) := by decide +kernel
theorem dL_law_1106 : decode cL_law 1106 = .ok (.iload 4, 2) := by decide +kernel
theorem dL_law_1108 : decode cL_law 1108 = .ok (.iconst 1, 1) := by decide +kernel
theorem dL_law_1109 : decode cL_law 1109 = .ok (.iadd, 1) := by decide +kernel
theorem dL_law_1110 : decode cL_law 1110 = .ok (.iaload, 1) := by decide +kernel
theorem dL_law_1111 : decode cL_law 1111 = .ok (.aload_n 0, 1) := by decide +kernel
theorem dL_law_1112 : decode cL_law 1112 = .ok (.iload 4, 2) := by decide +kernel
theorem dL_law_1114 : decode cL_law 1114 = .ok (.iconst 2, 1) := by decide +kernel
theorem dL_law_1115 : decode cL_law 1115 = .ok (.iadd, 1) := by decide +kernel
theorem dL_law_1116 : decode cL_law 1116 = .ok (.iaload, 1) := by decide +kernel
theorem dL_law_1117 : decode cL_law 1117 = .ok (.invokevirtual 138, 3) := by decide +kernel
theorem dL_law_1120 : decode cL_law 1120 = .ok (.istore 6, 2) := by decide +kernel
theorem dL_law_1122 : decode cL_law 1122 = .ok (.aload_n 2, 1) := by decide +kernel
theorem dL_law_1123 : decode cL_law 1123 = .ok (.invokevirtual 88, 3) := by decide +kernel
theorem dL_law_1126 : decode cL_law 1126 = .ok (.iload 5, 2) := by decide +kernel
theorem dL_law_1128 : decode cL_law 1128 = .ok (.if_icmp .eq 5, 3) := by decide +kernel
theorem dL_law_1131 : decode cL_law 1131 = .ok (.iconst 0, 1) := by decide +kernel
theorem dL_law_1132 : decode cL_law 1132 = .ok (.ireturn, 1) := by decide +kernel
theorem dL_law_1133 : decode cL_law 1133 = .ok (.iload 5, 2) := by decide +kernel
theorem dL_law_1135 : decode cL_law 1135 = .ok (.ifCond .ne 15, 3) := by decide +kernel
theorem dL_law_1138 : decode cL_law 1138 = .ok (.aload_n 3, 1) := by decide +kernel
theorem dL_law_1139 : decode cL_law 1139 = .ok (.iconst 0, 1) := by decide +kernel
theorem dL_law_1140 : decode cL_law 1140 = .ok (.laload, 1) := by decide +kernel
theorem dL_law_1141 : decode cL_law 1141 = .ok (.iload 6, 2) := by decide +kernel
theorem dL_law_1143 : decode cL_law 1143 = .ok (.i2l, 1) := by decide +kernel
theorem dL_law_1144 : decode cL_law 1144 = .ok (.lcmp, 1) := by decide +kernel
theorem dL_law_1145 : decode cL_law 1145 = .ok (.ifCond .eq 5, 3) := by decide +kernel
theorem dL_law_1148 : decode cL_law 1148 = .ok (.iconst 0, 1) := by decide +kernel
theorem dL_law_1149 : decode cL_law 1149 = .ok (.ireturn, 1) := by decide +kernel
theorem dL_law_1150 : decode cL_law 1150 = .ok (.goto 415, 3) := by decide +kernel
theorem dL_law_1153 : decode cL_law 1153 = .ok (.aload_n 1, 1) := by decide +kernel
theorem dL_law_1154 : decode cL_law 1154 = .ok (.aload_n 0, 1) := by decide +kernel
theorem dL_law_1155 : decode cL_law 1155 = .ok (.iload 4, 2) := by decide +kernel
theorem dL_law_1157 : decode cL_law 1157 = .ok (.iconst 1, 1) := by decide +kernel
theorem dL_law_1158 : decode cL_law 1158 = .ok (.iadd, 1) := by decide +kernel
theorem dL_law_1159 : decode cL_law 1159 = .ok (.iaload, 1) := by decide +kernel
theorem dL_law_1160 : decode cL_law 1160 = .ok (.aload_n 0, 1) := by decide +kernel
theorem dL_law_1161 : decode cL_law 1161 = .ok (.iload 4, 2) := by decide +kernel
theorem dL_law_1163 : decode cL_law 1163 = .ok (.iconst 2, 1) := by decide +kernel
theorem dL_law_1164 : decode cL_law 1164 = .ok (.iadd, 1) := by decide +kernel
theorem dL_law_1165 : decode cL_law 1165 = .ok (.iaload, 1) := by decide +kernel
theorem dL_law_1166 : decode cL_law 1166 = .ok (.aload_n 0, 1) := by decide +kernel
theorem dL_law_1167 : decode cL_law 1167 = .ok (.iload 4, 2) := by decide +kernel
theorem dL_law_1169 : decode cL_law 1169 = .ok (.iconst 3, 1) := by decide +kernel
theorem dL_law_1170 : decode cL_law 1170 = .ok (.iadd, 1) := by decide +kernel
theorem dL_law_1171 : decode cL_law 1171 = .ok (.iaload, 1) := by decide +kernel
theorem dL_law_1172 : decode cL_law 1172 = .ok (.ifCond .eq 7, 3) := by decide +kernel
theorem dL_law_1175 : decode cL_law 1175 = .ok (.iconst 1, 1) := by decide +kernel
theorem dL_law_1176 : decode cL_law 1176 = .ok (.goto 4, 3) := by decide +kernel
theorem dL_law_1179 : decode cL_law 1179 = .ok (.iconst 0, 1) := by decide +kernel
theorem dL_law_1180 : decode cL_law 1180 = .ok (.aload_n 3, 1) := by decide +kernel
theorem dL_law_1181 : decode cL_law 1181 = .ok (.invokestatic 139, 3) := by decide +kernel
theorem dL_law_1184 : decode cL_law 1184 = .ok (.istore 5, 2) := by decide +kernel
theorem dL_law_1186 : decode cL_law 1186 = .ok (.aload_n 2, 1) := by decide +kernel
theorem dL_law_1187 : decode cL_law 1187 = .ok (.aload_n 0, 1) := by decide +kernel
theorem dL_law_1188 : decode cL_law 1188 = .ok (.iload 4, 2) := by decide +kernel
theorem dL_law_1190 : decode cL_law 1190 = .ok (.iconst 1, 1) := by decide +kernel
theorem dL_law_1191 : decode cL_law 1191 = .ok (.iadd, 1) := by decide +kernel
theorem dL_law_1192 : decode cL_law 1192 = .ok (.iaload, 1) := by decide +kernel
theorem dL_law_1193 : decode cL_law 1193 = .ok (.aload_n 0, 1) := by decide +kernel
theorem dL_law_1194 : decode cL_law 1194 = .ok (.iload 4, 2) := by decide +kernel
theorem dL_law_1196 : decode cL_law 1196 = .ok (.iconst 2, 1) := by decide +kernel
theorem dL_law_1197 : decode cL_law 1197 = .ok (.iadd, 1) := by decide +kernel
theorem dL_law_1198 : decode cL_law 1198 = .ok (.iaload, 1) := by decide +kernel
theorem dL_law_1199 : decode cL_law 1199 = .ok (.aload_n 0, 1) := by decide +kernel
theorem dL_law_1200 : decode cL_law 1200 = .ok (.iload 4, 2) := by decide +kernel
theorem dL_law_1202 : decode cL_law 1202 = .ok (.iconst 3, 1) := by decide +kernel
theorem dL_law_1203 : decode cL_law 1203 = .ok (.iadd, 1) := by decide +kernel
theorem dL_law_1204 : decode cL_law 1204 = .ok (.iaload, 1) := by decide +kernel
theorem dL_law_1205 : decode cL_law 1205 = .ok (.ifCond .eq 7, 3) := by decide +kernel
theorem dL_law_1208 : decode cL_law 1208 = .ok (.iconst 1, 1) := by decide +kernel
theorem dL_law_1209 : decode cL_law 1209 = .ok (.goto 4, 3) := by decide +kernel
theorem dL_law_1212 : decode cL_law 1212 = .ok (.iconst 0, 1) := by decide +kernel
theorem dL_law_1213 : decode cL_law 1213 = .ok (.invokevirtual 141, 3) := by decide +kernel
theorem dL_law_1216 : decode cL_law 1216 = .ok (.istore 6, 2) := by decide +kernel
theorem dL_law_1218 : decode cL_law 1218 = .ok (.aload_n 2, 1) := by decide +kernel
theorem dL_law_1219 : decode cL_law 1219 = .ok (.invokevirtual 88, 3) := by decide +kernel
theorem dL_law_1222 : decode cL_law 1222 = .ok (.iload 5, 2) := by decide +kernel
theorem dL_law_1224 : decode cL_law 1224 = .ok (.if_icmp .eq 5, 3) := by decide +kernel
theorem dL_law_1227 : decode cL_law 1227 = .ok (.iconst 0, 1) := by decide +kernel
theorem dL_law_1228 : decode cL_law 1228 = .ok (.ireturn, 1) := by decide +kernel
theorem dL_law_1229 : decode cL_law 1229 = .ok (.iload 5, 2) := by decide +kernel
theorem dL_law_1231 : decode cL_law 1231 = .ok (.ifCond .ne 15, 3) := by decide +kernel
theorem dL_law_1234 : decode cL_law 1234 = .ok (.aload_n 3, 1) := by decide +kernel
theorem dL_law_1235 : decode cL_law 1235 = .ok (.iconst 0, 1) := by decide +kernel
theorem dL_law_1236 : decode cL_law 1236 = .ok (.laload, 1) := by decide +kernel
theorem dL_law_1237 : decode cL_law 1237 = .ok (.iload 6, 2) := by decide +kernel
theorem dL_law_1239 : decode cL_law 1239 = .ok (.i2l, 1) := by decide +kernel
theorem dL_law_1240 : decode cL_law 1240 = .ok (.lcmp, 1) := by decide +kernel
theorem dL_law_1241 : decode cL_law 1241 = .ok (.ifCond .eq 5, 3) := by decide +kernel
theorem dL_law_1244 : decode cL_law 1244 = .ok (.iconst 0, 1) := by decide +kernel
theorem dL_law_1245 : decode cL_law 1245 = .ok (.ireturn, 1) := by decide +kernel
theorem dL_law_1246 : decode cL_law 1246 = .ok (.goto 319, 3) := by decide +kernel
theorem dL_law_1249 : decode cL_law 1249 = .ok (.aload_n 1, 1) := by decide +kernel
theorem dL_law_1250 : decode cL_law 1250 = .ok (.invokevirtual 142, 3) := by decide +kernel
theorem dL_law_1253 : decode cL_law 1253 = .ok (.aload_n 2, 1) := by decide +kernel
theorem dL_law_1254 : decode cL_law 1254 = .ok (.invokevirtual 145, 3) := by decide +kernel
theorem dL_law_1257 : decode cL_law 1257 = .ok (.if_icmp .eq 308, 3) := by decide +kernel
theorem dL_law_1260 : decode cL_law 1260 = .ok (.iconst 0, 1) := by decide +kernel
theorem dL_law_1261 : decode cL_law 1261 = .ok (.ireturn, 1) := by decide +kernel
theorem dL_law_1262 : decode cL_law 1262 = .ok (.aload_n 1, 1) := by decide +kernel
theorem dL_law_1263 : decode cL_law 1263 = .ok (.aload_n 0, 1) := by decide +kernel
theorem dL_law_1264 : decode cL_law 1264 = .ok (.iload 4, 2) := by decide +kernel
theorem dL_law_1266 : decode cL_law 1266 = .ok (.iconst 1, 1) := by decide +kernel
theorem dL_law_1267 : decode cL_law 1267 = .ok (.iadd, 1) := by decide +kernel
theorem dL_law_1268 : decode cL_law 1268 = .ok (.iaload, 1) := by decide +kernel
theorem dL_law_1269 : decode cL_law 1269 = .ok (.aload_n 3, 1) := by decide +kernel
theorem dL_law_1270 : decode cL_law 1270 = .ok (.invokestatic 146, 3) := by decide +kernel
theorem dL_law_1273 : decode cL_law 1273 = .ok (.istore 5, 2) := by decide +kernel
theorem dL_law_1275 : decode cL_law 1275 = .ok (.aload_n 2, 1) := by decide +kernel
theorem dL_law_1276 : decode cL_law 1276 = .ok (.aload_n 0, 1) := by decide +kernel
theorem dL_law_1277 : decode cL_law 1277 = .ok (.iload 4, 2) := by decide +kernel
theorem dL_law_1279 : decode cL_law 1279 = .ok (.iconst 1, 1) := by decide +kernel
theorem dL_law_1280 : decode cL_law 1280 = .ok (.iadd, 1) := by decide +kernel
theorem dL_law_1281 : decode cL_law 1281 = .ok (.iaload, 1) := by decide +kernel
theorem dL_law_1282 : decode cL_law 1282 = .ok (.invokevirtual 148, 3) := by decide +kernel
theorem dL_law_1285 : decode cL_law 1285 = .ok (.istore 6, 2) := by decide +kernel
theorem dL_law_1287 : decode cL_law 1287 = .ok (.aload_n 2, 1) := by decide +kernel
theorem dL_law_1288 : decode cL_law 1288 = .ok (.invokevirtual 88, 3) := by decide +kernel
theorem dL_law_1291 : decode cL_law 1291 = .ok (.iload 5, 2) := by decide +kernel
theorem dL_law_1293 : decode cL_law 1293 = .ok (.if_icmp .eq 5, 3) := by decide +kernel
theorem dL_law_1296 : decode cL_law 1296 = .ok (.iconst 0, 1) := by decide +kernel
theorem dL_law_1297 : decode cL_law 1297 = .ok (.ireturn, 1) := by decide +kernel
theorem dL_law_1298 : decode cL_law 1298 = .ok (.iload 5, 2) := by decide +kernel
theorem dL_law_1300 : decode cL_law 1300 = .ok (.ifCond .ne 15, 3) := by decide +kernel
theorem dL_law_1303 : decode cL_law 1303 = .ok (.aload_n 3, 1) := by decide +kernel
theorem dL_law_1304 : decode cL_law 1304 = .ok (.iconst 0, 1) := by decide +kernel
theorem dL_law_1305 : decode cL_law 1305 = .ok (.laload, 1) := by decide +kernel
theorem dL_law_1306 : decode cL_law 1306 = .ok (.iload 6, 2) := by decide +kernel
theorem dL_law_1308 : decode cL_law 1308 = .ok (.i2l, 1) := by decide +kernel
theorem dL_law_1309 : decode cL_law 1309 = .ok (.lcmp, 1) := by decide +kernel
theorem dL_law_1310 : decode cL_law 1310 = .ok (.ifCond .eq 5, 3) := by decide +kernel
theorem dL_law_1313 : decode cL_law 1313 = .ok (.iconst 0, 1) := by decide +kernel
theorem dL_law_1314 : decode cL_law 1314 = .ok (.ireturn, 1) := by decide +kernel
theorem dL_law_1315 : decode cL_law 1315 = .ok (.goto 250, 3) := by decide +kernel
theorem dL_law_1318 : decode cL_law 1318 = .ok (.aload_n 1, 1) := by decide +kernel
theorem dL_law_1319 : decode cL_law 1319 = .ok (.aload_n 0, 1) := by decide +kernel
theorem dL_law_1320 : decode cL_law 1320 = .ok (.iload 4, 2) := by decide +kernel
theorem dL_law_1322 : decode cL_law 1322 = .ok (.iconst 1, 1) := by decide +kernel
theorem dL_law_1323 : decode cL_law 1323 = .ok (.iadd, 1) := by decide +kernel
theorem dL_law_1324 : decode cL_law 1324 = .ok (.iaload, 1) := by decide +kernel
theorem dL_law_1325 : decode cL_law 1325 = .ok (.aload_n 3, 1) := by decide +kernel
theorem dL_law_1326 : decode cL_law 1326 = .ok (.invokestatic 149, 3) := by decide +kernel
theorem dL_law_1329 : decode cL_law 1329 = .ok (.istore 5, 2) := by decide +kernel
theorem dL_law_1331 : decode cL_law 1331 = .ok (.aload_n 2, 1) := by decide +kernel
theorem dL_law_1332 : decode cL_law 1332 = .ok (.aload_n 0, 1) := by decide +kernel
theorem dL_law_1333 : decode cL_law 1333 = .ok (.iload 4, 2) := by decide +kernel
theorem dL_law_1335 : decode cL_law 1335 = .ok (.iconst 1, 1) := by decide +kernel
theorem dL_law_1336 : decode cL_law 1336 = .ok (.iadd, 1) := by decide +kernel
theorem dL_law_1337 : decode cL_law 1337 = .ok (.iaload, 1) := by decide +kernel
theorem dL_law_1338 : decode cL_law 1338 = .ok (.invokevirtual 151, 3) := by decide +kernel
theorem dL_law_1341 : decode cL_law 1341 = .ok (.istore 6, 2) := by decide +kernel
theorem dL_law_1343 : decode cL_law 1343 = .ok (.aload_n 2, 1) := by decide +kernel
theorem dL_law_1344 : decode cL_law 1344 = .ok (.invokevirtual 88, 3) := by decide +kernel
theorem dL_law_1347 : decode cL_law 1347 = .ok (.iload 5, 2) := by decide +kernel
theorem dL_law_1349 : decode cL_law 1349 = .ok (.if_icmp .eq 5, 3) := by decide +kernel
theorem dL_law_1352 : decode cL_law 1352 = .ok (.iconst 0, 1) := by decide +kernel
theorem dL_law_1353 : decode cL_law 1353 = .ok (.ireturn, 1) := by decide +kernel
theorem dL_law_1354 : decode cL_law 1354 = .ok (.iload 5, 2) := by decide +kernel
theorem dL_law_1356 : decode cL_law 1356 = .ok (.ifCond .ne 15, 3) := by decide +kernel
theorem dL_law_1359 : decode cL_law 1359 = .ok (.aload_n 3, 1) := by decide +kernel
theorem dL_law_1360 : decode cL_law 1360 = .ok (.iconst 0, 1) := by decide +kernel
theorem dL_law_1361 : decode cL_law 1361 = .ok (.laload, 1) := by decide +kernel
theorem dL_law_1362 : decode cL_law 1362 = .ok (.iload 6, 2) := by decide +kernel
theorem dL_law_1364 : decode cL_law 1364 = .ok (.i2l, 1) := by decide +kernel
theorem dL_law_1365 : decode cL_law 1365 = .ok (.lcmp, 1) := by decide +kernel
theorem dL_law_1366 : decode cL_law 1366 = .ok (.ifCond .eq 5, 3) := by decide +kernel
theorem dL_law_1369 : decode cL_law 1369 = .ok (.iconst 0, 1) := by decide +kernel
theorem dL_law_1370 : decode cL_law 1370 = .ok (.ireturn, 1) := by decide +kernel
theorem dL_law_1371 : decode cL_law 1371 = .ok (.goto 194, 3) := by decide +kernel
theorem dL_law_1374 : decode cL_law 1374 = .ok (.aload_n 1, 1) := by decide +kernel
theorem dL_law_1375 : decode cL_law 1375 = .ok (.aload_n 0, 1) := by decide +kernel
theorem dL_law_1376 : decode cL_law 1376 = .ok (.iload 4, 2) := by decide +kernel
theorem dL_law_1378 : decode cL_law 1378 = .ok (.iconst 1, 1) := by decide +kernel
theorem dL_law_1379 : decode cL_law 1379 = .ok (.iadd, 1) := by decide +kernel
theorem dL_law_1380 : decode cL_law 1380 = .ok (.iaload, 1) := by decide +kernel
theorem dL_law_1381 : decode cL_law 1381 = .ok (.aload_n 0, 1) := by decide +kernel
theorem dL_law_1382 : decode cL_law 1382 = .ok (.iload 4, 2) := by decide +kernel
theorem dL_law_1384 : decode cL_law 1384 = .ok (.iconst 2, 1) := by decide +kernel
theorem dL_law_1385 : decode cL_law 1385 = .ok (.iadd, 1) := by decide +kernel
theorem dL_law_1386 : decode cL_law 1386 = .ok (.iaload, 1) := by decide +kernel
theorem dL_law_1387 : decode cL_law 1387 = .ok (.aload_n 3, 1) := by decide +kernel
theorem dL_law_1388 : decode cL_law 1388 = .ok (.invokestatic 152, 3) := by decide +kernel
theorem dL_law_1391 : decode cL_law 1391 = .ok (.istore 5, 2) := by decide +kernel
theorem dL_law_1393 : decode cL_law 1393 = .ok (.aload_n 2, 1) := by decide +kernel
theorem dL_law_1394 : decode cL_law 1394 = .ok (.aload_n 0, 1) := by decide +kernel
theorem dL_law_1395 : decode cL_law 1395 = .ok (.iload 4, 2) := by decide +kernel
theorem dL_law_1397 : decode cL_law 1397 = .ok (.iconst 1, 1) := by decide +kernel
theorem dL_law_1398 : decode cL_law 1398 = .ok (.iadd, 1) := by decide +kernel
theorem dL_law_1399 : decode cL_law 1399 = .ok (.iaload, 1) := by decide +kernel
theorem dL_law_1400 : decode cL_law 1400 = .ok (.aload_n 0, 1) := by decide +kernel
theorem dL_law_1401 : decode cL_law 1401 = .ok (.iload 4, 2) := by decide +kernel
theorem dL_law_1403 : decode cL_law 1403 = .ok (.iconst 2, 1) := by decide +kernel
theorem dL_law_1404 : decode cL_law 1404 = .ok (.iadd, 1) := by decide +kernel
theorem dL_law_1405 : decode cL_law 1405 = .ok (.iaload, 1) := by decide +kernel
theorem dL_law_1406 : decode cL_law 1406 = .ok (.invokevirtual 154, 3) := by decide +kernel
theorem dL_law_1409 : decode cL_law 1409 = .ok (.istore 6, 2) := by decide +kernel
theorem dL_law_1411 : decode cL_law 1411 = .ok (.aload_n 2, 1) := by decide +kernel
theorem dL_law_1412 : decode cL_law 1412 = .ok (.invokevirtual 88, 3) := by decide +kernel
theorem dL_law_1415 : decode cL_law 1415 = .ok (.iload 5, 2) := by decide +kernel
theorem dL_law_1417 : decode cL_law 1417 = .ok (.if_icmp .eq 5, 3) := by decide +kernel
theorem dL_law_1420 : decode cL_law 1420 = .ok (.iconst 0, 1) := by decide +kernel
theorem dL_law_1421 : decode cL_law 1421 = .ok (.ireturn, 1) := by decide +kernel
theorem dL_law_1422 : decode cL_law 1422 = .ok (.iload 5, 2) := by decide +kernel
theorem dL_law_1424 : decode cL_law 1424 = .ok (.ifCond .ne 15, 3) := by decide +kernel
theorem dL_law_1427 : decode cL_law 1427 = .ok (.aload_n 3, 1) := by decide +kernel
theorem dL_law_1428 : decode cL_law 1428 = .ok (.iconst 0, 1) := by decide +kernel
theorem dL_law_1429 : decode cL_law 1429 = .ok (.laload, 1) := by decide +kernel
theorem dL_law_1430 : decode cL_law 1430 = .ok (.iload 6, 2) := by decide +kernel
theorem dL_law_1432 : decode cL_law 1432 = .ok (.i2l, 1) := by decide +kernel
theorem dL_law_1433 : decode cL_law 1433 = .ok (.lcmp, 1) := by decide +kernel
theorem dL_law_1434 : decode cL_law 1434 = .ok (.ifCond .eq 5, 3) := by decide +kernel
theorem dL_law_1437 : decode cL_law 1437 = .ok (.iconst 0, 1) := by decide +kernel
theorem dL_law_1438 : decode cL_law 1438 = .ok (.ireturn, 1) := by decide +kernel
theorem dL_law_1439 : decode cL_law 1439 = .ok (.goto 126, 3) := by decide +kernel
theorem dL_law_1442 : decode cL_law 1442 = .ok (.aload_n 1, 1) := by decide +kernel
theorem dL_law_1443 : decode cL_law 1443 = .ok (.aload_n 0, 1) := by decide +kernel
theorem dL_law_1444 : decode cL_law 1444 = .ok (.iload 4, 2) := by decide +kernel
theorem dL_law_1446 : decode cL_law 1446 = .ok (.iconst 1, 1) := by decide +kernel
theorem dL_law_1447 : decode cL_law 1447 = .ok (.iadd, 1) := by decide +kernel
theorem dL_law_1448 : decode cL_law 1448 = .ok (.iaload, 1) := by decide +kernel
theorem dL_law_1449 : decode cL_law 1449 = .ok (.aload_n 0, 1) := by decide +kernel
theorem dL_law_1450 : decode cL_law 1450 = .ok (.iload 4, 2) := by decide +kernel
theorem dL_law_1452 : decode cL_law 1452 = .ok (.iconst 2, 1) := by decide +kernel
theorem dL_law_1453 : decode cL_law 1453 = .ok (.iadd, 1) := by decide +kernel
theorem dL_law_1454 : decode cL_law 1454 = .ok (.iaload, 1) := by decide +kernel
theorem dL_law_1455 : decode cL_law 1455 = .ok (.aload_n 3, 1) := by decide +kernel
theorem dL_law_1456 : decode cL_law 1456 = .ok (.invokestatic 155, 3) := by decide +kernel
theorem dL_law_1459 : decode cL_law 1459 = .ok (.istore 5, 2) := by decide +kernel
theorem dL_law_1461 : decode cL_law 1461 = .ok (.aload_n 2, 1) := by decide +kernel
theorem dL_law_1462 : decode cL_law 1462 = .ok (.aload_n 0, 1) := by decide +kernel
theorem dL_law_1463 : decode cL_law 1463 = .ok (.iload 4, 2) := by decide +kernel
theorem dL_law_1465 : decode cL_law 1465 = .ok (.iconst 1, 1) := by decide +kernel
theorem dL_law_1466 : decode cL_law 1466 = .ok (.iadd, 1) := by decide +kernel
theorem dL_law_1467 : decode cL_law 1467 = .ok (.iaload, 1) := by decide +kernel
theorem dL_law_1468 : decode cL_law 1468 = .ok (.aload_n 0, 1) := by decide +kernel
theorem dL_law_1469 : decode cL_law 1469 = .ok (.iload 4, 2) := by decide +kernel
theorem dL_law_1471 : decode cL_law 1471 = .ok (.iconst 2, 1) := by decide +kernel
theorem dL_law_1472 : decode cL_law 1472 = .ok (.iadd, 1) := by decide +kernel
theorem dL_law_1473 : decode cL_law 1473 = .ok (.iaload, 1) := by decide +kernel
theorem dL_law_1474 : decode cL_law 1474 = .ok (.invokevirtual 157, 3) := by decide +kernel
theorem dL_law_1477 : decode cL_law 1477 = .ok (.istore 6, 2) := by decide +kernel
theorem dL_law_1479 : decode cL_law 1479 = .ok (.aload_n 2, 1) := by decide +kernel
theorem dL_law_1480 : decode cL_law 1480 = .ok (.invokevirtual 88, 3) := by decide +kernel
theorem dL_law_1483 : decode cL_law 1483 = .ok (.iload 5, 2) := by decide +kernel
theorem dL_law_1485 : decode cL_law 1485 = .ok (.if_icmp .eq 5, 3) := by decide +kernel
theorem dL_law_1488 : decode cL_law 1488 = .ok (.iconst 0, 1) := by decide +kernel
theorem dL_law_1489 : decode cL_law 1489 = .ok (.ireturn, 1) := by decide +kernel
theorem dL_law_1490 : decode cL_law 1490 = .ok (.iload 5, 2) := by decide +kernel
theorem dL_law_1492 : decode cL_law 1492 = .ok (.ifCond .ne 15, 3) := by decide +kernel
theorem dL_law_1495 : decode cL_law 1495 = .ok (.aload_n 3, 1) := by decide +kernel
theorem dL_law_1496 : decode cL_law 1496 = .ok (.iconst 0, 1) := by decide +kernel
theorem dL_law_1497 : decode cL_law 1497 = .ok (.laload, 1) := by decide +kernel
theorem dL_law_1498 : decode cL_law 1498 = .ok (.iload 6, 2) := by decide +kernel
theorem dL_law_1500 : decode cL_law 1500 = .ok (.i2l, 1) := by decide +kernel
theorem dL_law_1501 : decode cL_law 1501 = .ok (.lcmp, 1) := by decide +kernel
theorem dL_law_1502 : decode cL_law 1502 = .ok (.ifCond .eq 5, 3) := by decide +kernel
theorem dL_law_1505 : decode cL_law 1505 = .ok (.iconst 0, 1) := by decide +kernel
theorem dL_law_1506 : decode cL_law 1506 = .ok (.ireturn, 1) := by decide +kernel
theorem dL_law_1507 : decode cL_law 1507 = .ok (.goto 58, 3) := by decide +kernel
theorem dL_law_1510 : decode cL_law 1510 = .ok (.aload_n 1, 1) := by decide +kernel
theorem dL_law_1511 : decode cL_law 1511 = .ok (.invokevirtual 158, 3) := by decide +kernel
theorem dL_law_1514 : decode cL_law 1514 = .ok (.dstore 5, 2) := by decide +kernel
theorem dL_law_1516 : decode cL_law 1516 = .ok (.aload_n 2, 1) := by decide +kernel
theorem dL_law_1517 : decode cL_law 1517 = .ok (.invokevirtual 162, 3) := by decide +kernel
theorem dL_law_1520 : decode cL_law 1520 = .ok (.dstore 7, 2) := by decide +kernel
theorem dL_law_1522 : decode cL_law 1522 = .ok (.dload 5, 2) := by decide +kernel
theorem dL_law_1524 : decode cL_law 1524 = .ok (.dload 7, 2) := by decide +kernel
theorem dL_law_1526 : decode cL_law 1526 = .ok (.dcmp .l, 1) := by decide +kernel
theorem dL_law_1527 : decode cL_law 1527 = .ok (.ifCond .eq 21, 3) := by decide +kernel
theorem dL_law_1530 : decode cL_law 1530 = .ok (.dload 5, 2) := by decide +kernel
theorem dL_law_1532 : decode cL_law 1532 = .ok (.dload 5, 2) := by decide +kernel
theorem dL_law_1534 : decode cL_law 1534 = .ok (.dcmp .l, 1) := by decide +kernel
theorem dL_law_1535 : decode cL_law 1535 = .ok (.ifCond .eq 11, 3) := by decide +kernel
theorem dL_law_1538 : decode cL_law 1538 = .ok (.dload 7, 2) := by decide +kernel
theorem dL_law_1540 : decode cL_law 1540 = .ok (.dload 7, 2) := by decide +kernel
theorem dL_law_1542 : decode cL_law 1542 = .ok (.dcmp .l, 1) := by decide +kernel
theorem dL_law_1543 : decode cL_law 1543 = .ok (.ifCond .ne 5, 3) := by decide +kernel
theorem dL_law_1546 : decode cL_law 1546 = .ok (.iconst 0, 1) := by decide +kernel
theorem dL_law_1547 : decode cL_law 1547 = .ok (.ireturn, 1) := by decide +kernel
theorem dL_law_1548 : decode cL_law 1548 = .ok (.goto 17, 3) := by decide +kernel
theorem dL_law_1551 : decode cL_law 1551 = .ok (.aload_n 1, 1) := by decide +kernel
theorem dL_law_1552 : decode cL_law 1552 = .ok (.invokevirtual 163, 3) := by decide +kernel
theorem dL_law_1555 : decode cL_law 1555 = .ok (.aload_n 2, 1) := by decide +kernel
theorem dL_law_1556 : decode cL_law 1556 = .ok (.invokevirtual 167, 3) := by decide +kernel
theorem dL_law_1559 : decode cL_law 1559 = .ok (.lcmp, 1) := by decide +kernel
theorem dL_law_1560 : decode cL_law 1560 = .ok (.ifCond .eq 5, 3) := by decide +kernel
theorem dL_law_1563 : decode cL_law 1563 = .ok (.iconst 0, 1) := by decide +kernel
theorem dL_law_1564 : decode cL_law 1564 = .ok (.ireturn, 1) := by decide +kernel
theorem dL_law_1565 : decode cL_law 1565 = .ok (.iinc 4 6, 3) := by decide +kernel
theorem dL_law_1568 : decode cL_law 1568 = .ok (.goto (-1545), 3) := by decide +kernel
theorem dL_law_1571 : decode cL_law 1571 = .ok (.iconst 1, 1) := by decide +kernel
theorem dL_law_1572 : decode cL_law 1572 = .ok (.ireturn, 1) := by decide +kernel
