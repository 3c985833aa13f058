theorem dX5_init_0 : decode cX5_init 0 = .ok (.aload_n 0, 1) := by decide +kernel
theorem dX5_init_1 : decode cX5_init 1 = .ok (.invokespecial 1, 3) := by decide +kernel
theorem dX5_init_4 : decode cX5_init 4 = .ok (.aload_n 0, 1) := by decide +kernel
theorem dX5_init_5 : decode cX5_init 5 = .ok (.bipush 6, 2) := by decide +kernel
theorem dX5_init_7 : decode cX5_init 7 = .ok (.newarray .int, 2) := by decide +kernel
theorem dX5_init_9 : decode cX5_init 9 = .ok (.putfield 7, 3) := by decide +kernel
theorem dX5_init_12 : decode cX5_init 12 = .ok (.aload_n 0, 1) := by decide +kernel
theorem dX5_init_13 : decode cX5_init 13 = .ok (.bipush 6, 2) := by decide +kernel
theorem dX5_init_15 : decode cX5_init 15 = .ok (.newarray .int, 2) := by decide +kernel
theorem dX5_init_17 : decode cX5_init 17 = .ok (.putfield 13, 3) := by decide +kernel
theorem dX5_init_20 : decode cX5_init 20 = .ok (.aload_n 0, 1) := by decide +kernel
theorem dX5_init_21 : decode cX5_init 21 = .ok (.bipush 72, 2) := by decide +kernel
theorem dX5_init_23 : decode cX5_init 23 = .ok (.newarray .int, 2) := by decide +kernel
theorem dX5_init_25 : decode cX5_init 25 = .ok (.putfield 16, 3) := by decide +kernel
theorem dX5_init_28 : decode cX5_init 28 = .ok (.aload_n 0, 1) := by decide +kernel
theorem dX5_init_29 : decode cX5_init 29 = .ok (.sipush 160, 3) := by decide +kernel
theorem dX5_init_32 : decode cX5_init 32 = .ok (.newarray .int, 2) := by decide +kernel
theorem dX5_init_34 : decode cX5_init 34 = .ok (.putfield 19, 3) := by decide +kernel
theorem dX5_init_37 : decode cX5_init 37 = .ok (.aload_n 0, 1) := by decide +kernel
theorem dX5_init_38 : decode cX5_init 38 = .ok (.sipush 1200, 3) := by decide +kernel
theorem dX5_init_41 : decode cX5_init 41 = .ok (.newarray .int, 2) := by decide +kernel
theorem dX5_init_43 : decode cX5_init 43 = .ok (.putfield 22, 3) := by decide +kernel
theorem dX5_init_46 : decode cX5_init 46 = .ok (.aload_n 0, 1) := by decide +kernel
theorem dX5_init_47 : decode cX5_init 47 = .ok (.bipush 24, 2) := by decide +kernel
theorem dX5_init_49 : decode cX5_init 49 = .ok (.newarray .int, 2) := by decide +kernel
theorem dX5_init_51 : decode cX5_init 51 = .ok (.putfield 25, 3) := by decide +kernel
theorem dX5_init_54 : decode cX5_init 54 = .ok (.aload_n 0, 1) := by decide +kernel
theorem dX5_init_55 : decode cX5_init 55 = .ok (.bipush 72, 2) := by decide +kernel
theorem dX5_init_57 : decode cX5_init 57 = .ok (.newarray .int, 2) := by decide +kernel
theorem dX5_init_59 : decode cX5_init 59 = .ok (.putfield 28, 3) := by decide +kernel
theorem dX5_init_62 : decode cX5_init 62 = .ok (.aload_n 0, 1) := by decide +kernel
theorem dX5_init_63 : decode cX5_init 63 = .ok (.iconst 3, 1) := by decide +kernel
theorem dX5_init_64 : decode cX5_init 64 = .ok (.newarray .int, 2) := by decide +kernel
theorem dX5_init_66 : decode cX5_init 66 = .ok (.putfield 31, 3) := by decide +kernel
theorem dX5_init_69 : decode cX5_init 69 = .ok (.aload_n 0, 1) := by decide +kernel
theorem dX5_init_70 : decode cX5_init 70 = .ok (.iconst 4, 1) := by decide +kernel
theorem dX5_init_71 : decode cX5_init 71 = .ok (.newarray .int, 2) := by decide +kernel
theorem dX5_init_73 : decode cX5_init 73 = .ok (.dup, 1) := by decide +kernel
theorem dX5_init_74 : decode cX5_init 74 = .ok (.iconst 0, 1) := by decide +kernel
theorem dX5_init_75 : decode cX5_init 75 = .ok (.iconst (-1), 1) := by decide +kernel
theorem dX5_init_76 : decode cX5_init 76 = .ok (.iastore, 1) := by decide +kernel
theorem dX5_init_77 : decode cX5_init 77 = .ok (.dup, 1) := by decide +kernel
theorem dX5_init_78 : decode cX5_init 78 = .ok (.iconst 1, 1) := by decide +kernel
theorem dX5_init_79 : decode cX5_init 79 = .ok (.iconst (-1), 1) := by decide +kernel
theorem dX5_init_80 : decode cX5_init 80 = .ok (.iastore, 1) := by decide +kernel
theorem dX5_init_81 : decode cX5_init 81 = .ok (.dup, 1) := by decide +kernel
theorem dX5_init_82 : decode cX5_init 82 = .ok (.iconst 2, 1) := by decide +kernel
theorem dX5_init_83 : decode cX5_init 83 = .ok (.iconst (-1), 1) := by decide +kernel
theorem dX5_init_84 : decode cX5_init 84 = .ok (.iastore, 1) := by decide +kernel
theorem dX5_init_85 : decode cX5_init 85 = .ok (.dup, 1) := by decide +kernel
theorem dX5_init_86 : decode cX5_init 86 = .ok (.iconst 3, 1) := by decide +kernel
theorem dX5_init_87 : decode cX5_init 87 = .ok (.iconst (-1), 1) := by decide +kernel
theorem dX5_init_88 : decode cX5_init 88 = .ok (.iastore, 1) := by decide +kernel
theorem dX5_init_89 : decode cX5_init 89 = .ok (.putfield 34, 3) := by decide +kernel
theorem dX5_init_92 : decode cX5_init 92 = .ok (.aload_n 0, 1) := by decide +kernel
theorem dX5_init_93 : decode cX5_init 93 = .ok (.iconst 4, 1) := by decide +kernel
theorem dX5_init_94 : decode cX5_init 94 = .ok (.newarray .int, 2) := by decide +kernel
theorem dX5_init_96 : decode cX5_init 96 = .ok (.putfield 37, 3) := by decide +kernel
theorem dX5_init_99 : decode cX5_init 99 = .ok (.aload_n 0, 1) := by decide +kernel
theorem dX5_init_100 : decode cX5_init 100 = .ok (.sipush 160, 3) := by decide +kernel
theorem dX5_init_103 : decode cX5_init 103 = .ok (.newarray .int, 2) := by decide +kernel
theorem dX5_init_105 : decode cX5_init 105 = .ok (.putfield 40, 3) := by decide +kernel
theorem dX5_init_108 : decode cX5_init 108 = .ok (.aload_n 0, 1) := by decide +kernel
theorem dX5_init_109 : decode cX5_init 109 = .ok (.bipush 43, 2) := by decide +kernel
theorem dX5_init_111 : decode cX5_init 111 = .ok (.newarray .int, 2) := by decide +kernel
theorem dX5_init_113 : decode cX5_init 113 = .ok (.dup, 1) := by decide +kernel
theorem dX5_init_114 : decode cX5_init 114 = .ok (.iconst 0, 1) := by decide +kernel
theorem dX5_init_115 : decode cX5_init 115 = .ok (.bipush 103, 2) := by decide +kernel
theorem dX5_init_117 : decode cX5_init 117 = .ok (.iastore, 1) := by decide +kernel
theorem dX5_init_118 : decode cX5_init 118 = .ok (.dup, 1) := by decide +kernel
theorem dX5_init_119 : decode cX5_init 119 = .ok (.iconst 1, 1) := by decide +kernel
theorem dX5_init_120 : decode cX5_init 120 = .ok (.bipush 111, 2) := by decide +kernel
theorem dX5_init_122 : decode cX5_init 122 = .ok (.iastore, 1) := by decide +kernel
theorem dX5_init_123 : decode cX5_init 123 = .ok (.dup, 1) := by decide +kernel
theorem dX5_init_124 : decode cX5_init 124 = .ok (.iconst 2, 1) := by decide +kernel
theorem dX5_init_125 : decode cX5_init 125 = .ok (.bipush 110, 2) := by decide +kernel
theorem dX5_init_127 : decode cX5_init 127 = .ok (.iastore, 1) := by decide +kernel
theorem dX5_init_128 : decode cX5_init 128 = .ok (.dup, 1) := by decide +kernel
theorem dX5_init_129 : decode cX5_init 129 = .ok (.iconst 3, 1) := by decide +kernel
theorem dX5_init_130 : decode cX5_init 130 = .ok (.bipush 101, 2) := by decide +kernel
theorem dX5_init_132 : decode cX5_init 132 = .ok (.iastore, 1) := by decide +kernel
theorem dX5_init_133 : decode cX5_init 133 = .ok (.dup, 1) := by decide +kernel
theorem dX5_init_134 : decode cX5_init 134 = .ok (.iconst 4, 1) := by decide +kernel
theorem dX5_init_135 : decode cX5_init 135 = .ok (.bipush 32, 2) := by decide +kernel
theorem dX5_init_137 : decode cX5_init 137 = .ok (.iastore, 1) := by decide +kernel
theorem dX5_init_138 : decode cX5_init 138 = .ok (.dup, 1) := by decide +kernel
theorem dX5_init_139 : decode cX5_init 139 = .ok (.iconst 5, 1) := by decide +kernel
theorem dX5_init_140 : decode cX5_init 140 = .ok (.bipush 51, 2) := by decide +kernel
theorem dX5_init_142 : decode cX5_init 142 = .ok (.iastore, 1) := by decide +kernel
theorem dX5_init_143 : decode cX5_init 143 = .ok (.dup, 1) := by decide +kernel
theorem dX5_init_144 : decode cX5_init 144 = .ok (.bipush 6, 2) := by decide +kernel
theorem dX5_init_146 : decode cX5_init 146 = .ok (.bipush 32, 2) := by decide +kernel
theorem dX5_init_148 : decode cX5_init 148 = .ok (.iastore, 1) := by decide +kernel
theorem dX5_init_149 : decode cX5_init 149 = .ok (.dup, 1) := by decide +kernel
theorem dX5_init_150 : decode cX5_init 150 = .ok (.bipush 7, 2) := by decide +kernel
theorem dX5_init_152 : decode cX5_init 152 = .ok (.bipush 43, 2) := by decide +kernel
theorem dX5_init_154 : decode cX5_init 154 = .ok (.iastore, 1) := by decide +kernel
theorem dX5_init_155 : decode cX5_init 155 = .ok (.dup, 1) := by decide +kernel
theorem dX5_init_156 : decode cX5_init 156 = .ok (.bipush 8, 2) := by decide +kernel
theorem dX5_init_158 : decode cX5_init 158 = .ok (.bipush 32, 2) := by decide +kernel
theorem dX5_init_160 : decode cX5_init 160 = .ok (.iastore, 1) := by decide +kernel
theorem dX5_init_161 : decode cX5_init 161 = .ok (.dup, 1) := by decide +kernel
theorem dX5_init_162 : decode cX5_init 162 = .ok (.bipush 9, 2) := by decide +kernel
theorem dX5_init_164 : decode cX5_init 164 = .ok (.bipush 115, 2) := by decide +kernel
theorem dX5_init_166 : decode cX5_init 166 = .ok (.iastore, 1) := by decide +kernel
theorem dX5_init_167 : decode cX5_init 167 = .ok (.dup, 1) := by decide +kernel
theorem dX5_init_168 : decode cX5_init 168 = .ok (.bipush 10, 2) := by decide +kernel
theorem dX5_init_170 : decode cX5_init 170 = .ok (.bipush 111, 2) := by decide +kernel
theorem dX5_init_172 : decode cX5_init 172 = .ok (.iastore, 1) := by decide +kernel
theorem dX5_init_173 : decode cX5_init 173 = .ok (.dup, 1) := by decide +kernel
theorem dX5_init_174 : decode cX5_init 174 = .ok (.bipush 11, 2) := by decide +kernel
theorem dX5_init_176 : decode cX5_init 176 = .ok (.bipush 114, 2) := by decide +kernel
theorem dX5_init_178 : decode cX5_init 178 = .ok (.iastore, 1) := by decide +kernel
theorem dX5_init_179 : decode cX5_init 179 = .ok (.dup, 1) := by decide +kernel
theorem dX5_init_180 : decode cX5_init 180 = .ok (.bipush 12, 2) := by decide +kernel
theorem dX5_init_182 : decode cX5_init 182 = .ok (.bipush 116, 2) := by decide +kernel
theorem dX5_init_184 : decode cX5_init 184 = .ok (.iastore, 1) := by decide +kernel
theorem dX5_init_185 : decode cX5_init 185 = .ok (.dup, 1) := by decide +kernel
theorem dX5_init_186 : decode cX5_init 186 = .ok (.bipush 13, 2) := by decide +kernel
theorem dX5_init_188 : decode cX5_init 188 = .ok (.bipush 32, 2) := by decide +kernel
theorem dX5_init_190 : decode cX5_init 190 = .ok (.iastore, 1) := by decide +kernel
theorem dX5_init_191 : decode cX5_init 191 = .ok (.dup, 1) := by decide +kernel
theorem dX5_init_192 : decode cX5_init 192 = .ok (.bipush 14, 2) := by decide +kernel
theorem dX5_init_194 : decode cX5_init 194 = .ok (.bipush 59, 2) := by decide +kernel
theorem dX5_init_196 : decode cX5_init 196 = .ok (.iastore, 1) := by decide +kernel
theorem dX5_init_197 : decode cX5_init 197 = .ok (.dup, 1) := by decide +kernel
theorem dX5_init_198 : decode cX5_init 198 = .ok (.bipush 15, 2) := by decide +kernel
theorem dX5_init_200 : decode cX5_init 200 = .ok (.bipush 32, 2) := by decide +kernel
theorem dX5_init_202 : decode cX5_init 202 = .ok (.iastore, 1) := by decide +kernel
theorem dX5_init_203 : decode cX5_init 203 = .ok (.dup, 1) := by decide +kernel
theorem dX5_init_204 : decode cX5_init 204 = .ok (.bipush 16, 2) := by decide +kernel
theorem dX5_init_206 : decode cX5_init 206 = .ok (.bipush 103, 2) := by decide +kernel
theorem dX5_init_208 : decode cX5_init 208 = .ok (.iastore, 1) := by decide +kernel
theorem dX5_init_209 : decode cX5_init 209 = .ok (.dup, 1) := by decide +kernel
theorem dX5_init_210 : decode cX5_init 210 = .ok (.bipush 17, 2) := by decide +kernel
theorem dX5_init_212 : decode cX5_init 212 = .ok (.bipush 97, 2) := by decide +kernel
theorem dX5_init_214 : decode cX5_init 214 = .ok (.iastore, 1) := by decide +kernel
theorem dX5_init_215 : decode cX5_init 215 = .ok (.dup, 1) := by decide +kernel
theorem dX5_init_216 : decode cX5_init 216 = .ok (.bipush 18, 2) := by decide +kernel
theorem dX5_init_218 : decode cX5_init 218 = .ok (.bipush 105, 2) := by decide +kernel
theorem dX5_init_220 : decode cX5_init 220 = .ok (.iastore, 1) := by decide +kernel
theorem dX5_init_221 : decode cX5_init 221 = .ok (.dup, 1) := by decide +kernel
theorem dX5_init_222 : decode cX5_init 222 = .ok (.bipush 19, 2) := by decide +kernel
theorem dX5_init_224 : decode cX5_init 224 = .ok (.bipush 110, 2) := by decide +kernel
theorem dX5_init_226 : decode cX5_init 226 = .ok (.iastore, 1) := by decide +kernel
theorem dX5_init_227 : decode cX5_init 227 = .ok (.dup, 1) := by decide +kernel
theorem dX5_init_228 : decode cX5_init 228 = .ok (.bipush 20, 2) := by decide +kernel
theorem dX5_init_230 : decode cX5_init 230 = .ok (.bipush 115, 2) := by decide +kernel
theorem dX5_init_232 : decode cX5_init 232 = .ok (.iastore, 1) := by decide +kernel
theorem dX5_init_233 : decode cX5_init 233 = .ok (.dup, 1) := by decide +kernel
theorem dX5_init_234 : decode cX5_init 234 = .ok (.bipush 21, 2) := by decide +kernel
theorem dX5_init_236 : decode cX5_init 236 = .ok (.bipush 32, 2) := by decide +kernel
theorem dX5_init_238 : decode cX5_init 238 = .ok (.iastore, 1) := by decide +kernel
theorem dX5_init_239 : decode cX5_init 239 = .ok (.dup, 1) := by decide +kernel
theorem dX5_init_240 : decode cX5_init 240 = .ok (.bipush 22, 2) := by decide +kernel
theorem dX5_init_242 : decode cX5_init 242 = .ok (.bipush 115, 2) := by decide +kernel
theorem dX5_init_244 : decode cX5_init 244 = .ok (.iastore, 1) := by decide +kernel
theorem dX5_init_245 : decode cX5_init 245 = .ok (.dup, 1) := by decide +kernel
theorem dX5_init_246 : decode cX5_init 246 = .ok (.bipush 23, 2) := by decide +kernel
theorem dX5_init_248 : decode cX5_init 248 = .ok (.bipush 111, 2) := by decide +kernel
theorem dX5_init_250 : decode cX5_init 250 = .ok (.iastore, 1) := by decide +kernel
theorem dX5_init_251 : decode cX5_init 251 = .ok (.dup, 1) := by decide +kernel
theorem dX5_init_252 : decode cX5_init 252 = .ok (.bipush 24, 2) := by decide +kernel
theorem dX5_init_254 : decode cX5_init 254 = .ok (.bipush 114, 2) := by decide +kernel
theorem dX5_init_256 : decode cX5_init 256 = .ok (.iastore, 1) := by decide +kernel
theorem dX5_init_257 : decode cX5_init 257 = .ok (.dup, 1) := by decide +kernel
theorem dX5_init_258 : decode cX5_init 258 = .ok (.bipush 25, 2) := by decide +kernel
theorem dX5_init_260 : decode cX5_init 260 = .ok (.bipush 116, 2) := by decide +kernel
theorem dX5_init_262 : decode cX5_init 262 = .ok (.iastore, 1) := by decide +kernel
theorem dX5_init_263 : decode cX5_init 263 = .ok (.dup, 1) := by decide +kernel
theorem dX5_init_264 : decode cX5_init 264 = .ok (.bipush 26, 2) := by decide +kernel
theorem dX5_init_266 : decode cX5_init 266 = .ok (.bipush 32, 2) := by decide +kernel
theorem dX5_init_268 : decode cX5_init 268 = .ok (.iastore, 1) := by decide +kernel
theorem dX5_init_269 : decode cX5_init 269 = .ok (.dup, 1) := by decide +kernel
theorem dX5_init_270 : decode cX5_init 270 = .ok (.bipush 27, 2) := by decide +kernel
theorem dX5_init_272 : decode cX5_init 272 = .ok (.bipush 42, 2) := by decide +kernel
theorem dX5_init_274 : decode cX5_init 274 = .ok (.iastore, 1) := by decide +kernel
theorem dX5_init_275 : decode cX5_init 275 = .ok (.dup, 1) := by decide +kernel
theorem dX5_init_276 : decode cX5_init 276 = .ok (.bipush 28, 2) := by decide +kernel
theorem dX5_init_278 : decode cX5_init 278 = .ok (.bipush 32, 2) := by decide +kernel
theorem dX5_init_280 : decode cX5_init 280 = .ok (.iastore, 1) := by decide +kernel
theorem dX5_init_281 : decode cX5_init 281 = .ok (.dup, 1) := by decide +kernel
theorem dX5_init_282 : decode cX5_init 282 = .ok (.bipush 29, 2) := by decide +kernel
theorem dX5_init_284 : decode cX5_init 284 = .ok (.bipush 50, 2) := by decide +kernel
theorem dX5_init_286 : decode cX5_init 286 = .ok (.iastore, 1) := by decide +kernel
theorem dX5_init_287 : decode cX5_init 287 = .ok (.dup, 1) := by decide +kernel
theorem dX5_init_288 : decode cX5_init 288 = .ok (.bipush 30, 2) := by decide +kernel
theorem dX5_init_290 : decode cX5_init 290 = .ok (.bipush 32, 2) := by decide +kernel
theorem dX5_init_292 : decode cX5_init 292 = .ok (.iastore, 1) := by decide +kernel
theorem dX5_init_293 : decode cX5_init 293 = .ok (.dup, 1) := by decide +kernel
theorem dX5_init_294 : decode cX5_init 294 = .ok (.bipush 31, 2) := by decide +kernel
theorem dX5_init_296 : decode cX5_init 296 = .ok (.bipush 59, 2) := by decide +kernel
theorem dX5_init_298 : decode cX5_init 298 = .ok (.iastore, 1) := by decide +kernel
theorem dX5_init_299 : decode cX5_init 299 = .ok (.dup, 1) := by decide +kernel
theorem dX5_init_300 : decode cX5_init 300 = .ok (.bipush 32, 2) := by decide +kernel
theorem dX5_init_302 : decode cX5_init 302 = .ok (.bipush 32, 2) := by decide +kernel
theorem dX5_init_304 : decode cX5_init 304 = .ok (.iastore, 1) := by decide +kernel
theorem dX5_init_305 : decode cX5_init 305 = .ok (.dup, 1) := by decide +kernel
theorem dX5_init_306 : decode cX5_init 306 = .ok (.bipush 33, 2) := by decide +kernel
theorem dX5_init_308 : decode cX5_init 308 = .ok (.bipush 115, 2) := by decide +kernel
theorem dX5_init_310 : decode cX5_init 310 = .ok (.iastore, 1) := by decide +kernel
theorem dX5_init_311 : decode cX5_init 311 = .ok (.dup, 1) := by decide +kernel
theorem dX5_init_312 : decode cX5_init 312 = .ok (.bipush 34, 2) := by decide +kernel
theorem dX5_init_314 : decode cX5_init 314 = .ok (.bipush 112, 2) := by decide +kernel
theorem dX5_init_316 : decode cX5_init 316 = .ok (.iastore, 1) := by decide +kernel
theorem dX5_init_317 : decode cX5_init 317 = .ok (.dup, 1) := by decide +kernel
theorem dX5_init_318 : decode cX5_init 318 = .ok (.bipush 35, 2) := by decide +kernel
theorem dX5_init_320 : decode cX5_init 320 = .ok (.bipush 105, 2) := by decide +kernel
theorem dX5_init_322 : decode cX5_init 322 = .ok (.iastore, 1) := by decide +kernel
theorem dX5_init_323 : decode cX5_init 323 = .ok (.dup, 1) := by decide +kernel
theorem dX5_init_324 : decode cX5_init 324 = .ok (.bipush 36, 2) := by decide +kernel
theorem dX5_init_326 : decode cX5_init 326 = .ok (.bipush 108, 2) := by decide +kernel
theorem dX5_init_328 : decode cX5_init 328 = .ok (.iastore, 1) := by decide +kernel
theorem dX5_init_329 : decode cX5_init 329 = .ok (.dup, 1) := by decide +kernel
theorem dX5_init_330 : decode cX5_init 330 = .ok (.bipush 37, 2) := by decide +kernel
theorem dX5_init_332 : decode cX5_init 332 = .ok (.bipush 108, 2) := by decide +kernel
theorem dX5_init_334 : decode cX5_init 334 = .ok (.iastore, 1) := by decide +kernel
theorem dX5_init_335 : decode cX5_init 335 = .ok (.dup, 1) := by decide +kernel
theorem dX5_init_336 : decode cX5_init 336 = .ok (.bipush 38, 2) := by decide +kernel
theorem dX5_init_338 : decode cX5_init 338 = .ok (.bipush 115, 2) := by decide +kernel
theorem dX5_init_340 : decode cX5_init 340 = .ok (.iastore, 1) := by decide +kernel
theorem dX5_init_341 : decode cX5_init 341 = .ok (.dup, 1) := by decide +kernel
theorem dX5_init_342 : decode cX5_init 342 = .ok (.bipush 39, 2) := by decide +kernel
theorem dX5_init_344 : decode cX5_init 344 = .ok (.bipush 32, 2) := by decide +kernel
theorem dX5_init_346 : decode cX5_init 346 = .ok (.iastore, 1) := by decide +kernel
theorem dX5_init_347 : decode cX5_init 347 = .ok (.dup, 1) := by decide +kernel
theorem dX5_init_348 : decode cX5_init 348 = .ok (.bipush 40, 2) := by decide +kernel
theorem dX5_init_350 : decode cX5_init 350 = .ok (.bipush 48, 2) := by decide +kernel
theorem dX5_init_352 : decode cX5_init 352 = .ok (.iastore, 1) := by decide +kernel
theorem dX5_init_353 : decode cX5_init 353 = .ok (.dup, 1) := by decide +kernel
theorem dX5_init_354 : decode cX5_init 354 = .ok (.bipush 41, 2) := by decide +kernel
theorem dX5_init_356 : decode cX5_init 356 = .ok (.bipush 32, 2) := by decide +kernel
theorem dX5_init_358 : decode cX5_init 358 = .ok (.iastore, 1) := by decide +kernel
theorem dX5_init_359 : decode cX5_init 359 = .ok (.dup, 1) := by decide +kernel
theorem dX5_init_360 : decode cX5_init 360 = .ok (.bipush 42, 2) := by decide +kernel
theorem dX5_init_362 : decode cX5_init 362 = .ok (.bipush 59, 2) := by decide +kernel
theorem dX5_init_364 : decode cX5_init 364 = .ok (.iastore, 1) := by decide +kernel
theorem dX5_init_365 : decode cX5_init 365 = .ok (.putfield 43, 3) := by decide +kernel
theorem dX5_init_368 : decode cX5_init 368 = .ok (.aload_n 0, 1) := by decide +kernel
theorem dX5_init_369 : decode cX5_init 369 = .ok (.bipush 96, 2) := by decide +kernel
theorem dX5_init_371 : decode cX5_init 371 = .ok (.newarray .int, 2) := by decide +kernel
theorem dX5_init_373 : decode cX5_init 373 = .ok (.dup, 1) := by decide +kernel
theorem dX5_init_374 : decode cX5_init 374 = .ok (.iconst 0, 1) := by decide +kernel
theorem dX5_init_375 : decode cX5_init 375 = .ok (.bipush 103, 2) := by decide +kernel
theorem dX5_init_377 : decode cX5_init 377 = .ok (.iastore, 1) := by decide +kernel
theorem dX5_init_378 : decode cX5_init 378 = .ok (.dup, 1) := by decide +kernel
theorem dX5_init_379 : decode cX5_init 379 = .ok (.iconst 1, 1) := by decide +kernel
theorem dX5_init_380 : decode cX5_init 380 = .ok (.bipush 111, 2) := by decide +kernel
theorem dX5_init_382 : decode cX5_init 382 = .ok (.iastore, 1) := by decide +kernel
theorem dX5_init_383 : decode cX5_init 383 = .ok (.dup, 1) := by decide +kernel
theorem dX5_init_384 : decode cX5_init 384 = .ok (.iconst 2, 1) := by decide +kernel
theorem dX5_init_385 : decode cX5_init 385 = .ok (.bipush 110, 2) := by decide +kernel
theorem dX5_init_387 : decode cX5_init 387 = .ok (.iastore, 1) := by decide +kernel
theorem dX5_init_388 : decode cX5_init 388 = .ok (.dup, 1) := by decide +kernel
theorem dX5_init_389 : decode cX5_init 389 = .ok (.iconst 3, 1) := by decide +kernel
theorem dX5_init_390 : decode cX5_init 390 = .ok (.bipush 101, 2) := by decide +kernel
theorem dX5_init_392 : decode cX5_init 392 = .ok (.iastore, 1) := by decide +kernel
theorem dX5_init_393 : decode cX5_init 393 = .ok (.dup, 1) := by decide +kernel
theorem dX5_init_394 : decode cX5_init 394 = .ok (.iconst 4, 1) := by decide +kernel
theorem dX5_init_395 : decode cX5_init 395 = .ok (.bipush 32, 2) := by decide +kernel
theorem dX5_init_397 : decode cX5_init 397 = .ok (.iastore, 1) := by decide +kernel
theorem dX5_init_398 : decode cX5_init 398 = .ok (.dup, 1) := by decide +kernel
theorem dX5_init_399 : decode cX5_init 399 = .ok (.iconst 5, 1) := by decide +kernel
theorem dX5_init_400 : decode cX5_init 400 = .ok (.bipush 32, 2) := by decide +kernel
theorem dX5_init_402 : decode cX5_init 402 = .ok (.iastore, 1) := by decide +kernel
theorem dX5_init_403 : decode cX5_init 403 = .ok (.dup, 1) := by decide +kernel
theorem dX5_init_404 : decode cX5_init 404 = .ok (.bipush 6, 2) := by decide +kernel
theorem dX5_init_406 : decode cX5_init 406 = .ok (.bipush 32, 2) := by decide +kernel
theorem dX5_init_408 : decode cX5_init 408 = .ok (.iastore, 1) := by decide +kernel
theorem dX5_init_409 : decode cX5_init 409 = .ok (.dup, 1) := by decide +kernel
theorem dX5_init_410 : decode cX5_init 410 = .ok (.bipush 7, 2) := by decide +kernel
theorem dX5_init_412 : decode cX5_init 412 = .ok (.bipush 32, 2) := by decide +kernel
theorem dX5_init_414 : decode cX5_init 414 = .ok (.iastore, 1) := by decide +kernel
theorem dX5_init_415 : decode cX5_init 415 = .ok (.dup, 1) := by decide +kernel
theorem dX5_init_416 : decode cX5_init 416 = .ok (.bipush 8, 2) := by decide +kernel
theorem dX5_init_418 : decode cX5_init 418 = .ok (.bipush 103, 2) := by decide +kernel
theorem dX5_init_420 : decode cX5_init 420 = .ok (.iastore, 1) := by decide +kernel
theorem dX5_init_421 : decode cX5_init 421 = .ok (.dup, 1) := by decide +kernel
theorem dX5_init_422 : decode cX5_init 422 = .ok (.bipush 9, 2) := by decide +kernel
theorem dX5_init_424 : decode cX5_init 424 = .ok (.bipush 97, 2) := by decide +kernel
theorem dX5_init_426 : decode cX5_init 426 = .ok (.iastore, 1) := by decide +kernel
theorem dX5_init_427 : decode cX5_init 427 = .ok (.dup, 1) := by decide +kernel
theorem dX5_init_428 : decode cX5_init 428 = .ok (.bipush 10, 2) := by decide +kernel
theorem dX5_init_430 : decode cX5_init 430 = .ok (.bipush 105, 2) := by decide +kernel
theorem dX5_init_432 : decode cX5_init 432 = .ok (.iastore, 1) := by decide +kernel
theorem dX5_init_433 : decode cX5_init 433 = .ok (.dup, 1) := by decide +kernel
theorem dX5_init_434 : decode cX5_init 434 = .ok (.bipush 11, 2) := by decide +kernel
theorem dX5_init_436 : decode cX5_init 436 = .ok (.bipush 110, 2) := by decide +kernel
theorem dX5_init_438 : decode cX5_init 438 = .ok (.iastore, 1) := by decide +kernel
theorem dX5_init_439 : decode cX5_init 439 = .ok (.dup, 1) := by decide +kernel
theorem dX5_init_440 : decode cX5_init 440 = .ok (.bipush 12, 2) := by decide +kernel
theorem dX5_init_442 : decode cX5_init 442 = .ok (.bipush 115, 2) := by decide +kernel
theorem dX5_init_444 : decode cX5_init 444 = .ok (.iastore, 1) := by decide +kernel
theorem dX5_init_445 : decode cX5_init 445 = .ok (.dup, 1) := by decide +kernel
theorem dX5_init_446 : decode cX5_init 446 = .ok (.bipush 13, 2) := by decide +kernel
theorem dX5_init_448 : decode cX5_init 448 = .ok (.bipush 32, 2) := by decide +kernel
theorem dX5_init_450 : decode cX5_init 450 = .ok (.iastore, 1) := by decide +kernel
theorem dX5_init_451 : decode cX5_init 451 = .ok (.dup, 1) := by decide +kernel
theorem dX5_init_452 : decode cX5_init 452 = .ok (.bipush 14, 2) := by decide +kernel
theorem dX5_init_454 : decode cX5_init 454 = .ok (.bipush 32, 2) := by decide +kernel
theorem dX5_init_456 : decode cX5_init 456 = .ok (.iastore, 1) := by decide +kernel
theorem dX5_init_457 : decode cX5_init 457 = .ok (.dup, 1) := by decide +kernel
theorem dX5_init_458 : decode cX5_init 458 = .ok (.bipush 15, 2) := by decide +kernel
theorem dX5_init_460 : decode cX5_init 460 = .ok (.bipush 32, 2) := by decide +kernel
theorem dX5_init_462 : decode cX5_init 462 = .ok (.iastore, 1) := by decide +kernel
theorem dX5_init_463 : decode cX5_init 463 = .ok (.dup, 1) := by decide +kernel
theorem dX5_init_464 : decode cX5_init 464 = .ok (.bipush 16, 2) := by decide +kernel
theorem dX5_init_466 : decode cX5_init 466 = .ok (.bipush 115, 2) := by decide +kernel
theorem dX5_init_468 : decode cX5_init 468 = .ok (.iastore, 1) := by decide +kernel
theorem dX5_init_469 : decode cX5_init 469 = .ok (.dup, 1) := by decide +kernel
theorem dX5_init_470 : decode cX5_init 470 = .ok (.bipush 17, 2) := by decide +kernel
theorem dX5_init_472 : decode cX5_init 472 = .ok (.bipush 112, 2) := by decide +kernel
theorem dX5_init_474 : decode cX5_init 474 = .ok (.iastore, 1) := by decide +kernel
theorem dX5_init_475 : decode cX5_init 475 = .ok (.dup, 1) := by decide +kernel
theorem dX5_init_476 : decode cX5_init 476 = .ok (.bipush 18, 2) := by decide +kernel
theorem dX5_init_478 : decode cX5_init 478 = .ok (.bipush 105, 2) := by decide +kernel
theorem dX5_init_480 : decode cX5_init 480 = .ok (.iastore, 1) := by decide +kernel
theorem dX5_init_481 : decode cX5_init 481 = .ok (.dup, 1) := by decide +kernel
theorem dX5_init_482 : decode cX5_init 482 = .ok (.bipush 19, 2) := by decide +kernel
theorem dX5_init_484 : decode cX5_init 484 = .ok (.bipush 108, 2) := by decide +kernel
theorem dX5_init_486 : decode cX5_init 486 = .ok (.iastore, 1) := by decide +kernel
theorem dX5_init_487 : decode cX5_init 487 = .ok (.dup, 1) := by decide +kernel
theorem dX5_init_488 : decode cX5_init 488 = .ok (.bipush 20, 2) := by decide +kernel
theorem dX5_init_490 : decode cX5_init 490 = .ok (.bipush 108, 2) := by decide +kernel
theorem dX5_init_492 : decode cX5_init 492 = .ok (.iastore, 1) := by decide +kernel
theorem dX5_init_493 : decode cX5_init 493 = .ok (.dup, 1) := by decide +kernel
theorem dX5_init_494 : decode cX5_init 494 = .ok (.bipush 21, 2) := by decide +kernel
theorem dX5_init_496 : decode cX5_init 496 = .ok (.bipush 115, 2) := by decide +kernel
theorem dX5_init_498 : decode cX5_init 498 = .ok (.iastore, 1) := by decide +kernel
theorem dX5_init_499 : decode cX5_init 499 = .ok (.dup, 1) := by decide +kernel
theorem dX5_init_500 : decode cX5_init 500 = .ok (.bipush 22, 2) := by decide +kernel
theorem dX5_init_502 : decode cX5_init 502 = .ok (.bipush 32, 2) := by decide +kernel
theorem dX5_init_504 : decode cX5_init 504 = .ok (.iastore, 1) := by decide +kernel
theorem dX5_init_505 : decode cX5_init 505 = .ok (.dup, 1) := by decide +kernel
theorem dX5_init_506 : decode cX5_init 506 = .ok (.bipush 23, 2) := by decide +kernel
theorem dX5_init_508 : decode cX5_init 508 = .ok (.bipush 32, 2) := by decide +kernel
theorem dX5_init_510 : decode cX5_init 510 = .ok (.iastore, 1) := by decide +kernel
theorem dX5_init_511 : decode cX5_init 511 = .ok (.dup, 1) := by decide +kernel
theorem dX5_init_512 : decode cX5_init 512 = .ok (.bipush 24, 2) := by decide +kernel
theorem dX5_init_514 : decode cX5_init 514 = .ok (.bipush 115, 2) := by decide +kernel
theorem dX5_init_516 : decode cX5_init 516 = .ok (.iastore, 1) := by decide +kernel
theorem dX5_init_517 : decode cX5_init 517 = .ok (.dup, 1) := by decide +kernel
theorem dX5_init_518 : decode cX5_init 518 = .ok (.bipush 25, 2) := by decide +kernel
theorem dX5_init_520 : decode cX5_init 520 = .ok (.bipush 111, 2) := by decide +kernel
theorem dX5_init_522 : decode cX5_init 522 = .ok (.iastore, 1) := by decide +kernel
theorem dX5_init_523 : decode cX5_init 523 = .ok (.dup, 1) := by decide +kernel
theorem dX5_init_524 : decode cX5_init 524 = .ok (.bipush 26, 2) := by decide +kernel
theorem dX5_init_526 : decode cX5_init 526 = .ok (.bipush 114, 2) := by decide +kernel
theorem dX5_init_528 : decode cX5_init 528 = .ok (.iastore, 1) := by decide +kernel
theorem dX5_init_529 : decode cX5_init 529 = .ok (.dup, 1) := by decide +kernel
theorem dX5_init_530 : decode cX5_init 530 = .ok (.bipush 27, 2) := by decide +kernel
theorem dX5_init_532 : decode cX5_init 532 = .ok (.bipush 116, 2) := by decide +kernel
theorem dX5_init_534 : decode cX5_init 534 = .ok (.iastore, 1) := by decide +kernel
theorem dX5_init_535 : decode cX5_init 535 = .ok (.dup, 1) := by decide +kernel
theorem dX5_init_536 : decode cX5_init 536 = .ok (.bipush 28, 2) := by decide +kernel
theorem dX5_init_538 : decode cX5_init 538 = .ok (.bipush 32, 2) := by decide +kernel
theorem dX5_init_540 : decode cX5_init 540 = .ok (.iastore, 1) := by decide +kernel
theorem dX5_init_541 : decode cX5_init 541 = .ok (.dup, 1) := by decide +kernel
theorem dX5_init_542 : decode cX5_init 542 = .ok (.bipush 29, 2) := by decide +kernel
theorem dX5_init_544 : decode cX5_init 544 = .ok (.bipush 32, 2) := by decide +kernel
theorem dX5_init_546 : decode cX5_init 546 = .ok (.iastore, 1) := by decide +kernel
theorem dX5_init_547 : decode cX5_init 547 = .ok (.dup, 1) := by decide +kernel
theorem dX5_init_548 : decode cX5_init 548 = .ok (.bipush 30, 2) := by decide +kernel
theorem dX5_init_550 : decode cX5_init 550 = .ok (.bipush 32, 2) := by decide +kernel
theorem dX5_init_552 : decode cX5_init 552 = .ok (.iastore, 1) := by decide +kernel
theorem dX5_init_553 : decode cX5_init 553 = .ok (.dup, 1) := by decide +kernel
theorem dX5_init_554 : decode cX5_init 554 = .ok (.bipush 31, 2) := by decide +kernel
theorem dX5_init_556 : decode cX5_init 556 = .ok (.bipush 32, 2) := by decide +kernel
theorem dX5_init_558 : decode cX5_init 558 = .ok (.iastore, 1) := by decide +kernel
theorem dX5_init_559 : decode cX5_init 559 = .ok (.dup, 1) := by decide +kernel
theorem dX5_init_560 : decode cX5_init 560 = .ok (.bipush 32, 2) := by decide +kernel
theorem dX5_init_562 : decode cX5_init 562 = .ok (.bipush 103, 2) := by decide +kernel
theorem dX5_init_564 : decode cX5_init 564 = .ok (.iastore, 1) := by decide +kernel
theorem dX5_init_565 : decode cX5_init 565 = .ok (.dup, 1) := by decide +kernel
theorem dX5_init_566 : decode cX5_init 566 = .ok (.bipush 33, 2) := by decide +kernel
theorem dX5_init_568 : decode cX5_init 568 = .ok (.bipush 114, 2) := by decide +kernel
theorem dX5_init_570 : decode cX5_init 570 = .ok (.iastore, 1) := by decide +kernel
theorem dX5_init_571 : decode cX5_init 571 = .ok (.dup, 1) := by decide +kernel
theorem dX5_init_572 : decode cX5_init 572 = .ok (.bipush 34, 2) := by decide +kernel
theorem dX5_init_574 : decode cX5_init 574 = .ok (.bipush 97, 2) := by decide +kernel
theorem dX5_init_576 : decode cX5_init 576 = .ok (.iastore, 1) := by decide +kernel
theorem dX5_init_577 : decode cX5_init 577 = .ok (.dup, 1) := by decide +kernel
theorem dX5_init_578 : decode cX5_init 578 = .ok (.bipush 35, 2) := by decide +kernel
theorem dX5_init_580 : decode cX5_init 580 = .ok (.bipush 105, 2) := by decide +kernel
theorem dX5_init_582 : decode cX5_init 582 = .ok (.iastore, 1) := by decide +kernel
theorem dX5_init_583 : decode cX5_init 583 = .ok (.dup, 1) := by decide +kernel
theorem dX5_init_584 : decode cX5_init 584 = .ok (.bipush 36, 2) := by decide +kernel
theorem dX5_init_586 : decode cX5_init 586 = .ok (.bipush 110, 2) := by decide +kernel
theorem dX5_init_588 : decode cX5_init 588 = .ok (.iastore, 1) := by decide +kernel
theorem dX5_init_589 : decode cX5_init 589 = .ok (.dup, 1) := by decide +kernel
theorem dX5_init_590 : decode cX5_init 590 = .ok (.bipush 37, 2) := by decide +kernel
theorem dX5_init_592 : decode cX5_init 592 = .ok (.bipush 115, 2) := by decide +kernel
theorem dX5_init_594 : decode cX5_init 594 = .ok (.iastore, 1) := by decide +kernel
theorem dX5_init_595 : decode cX5_init 595 = .ok (.dup, 1) := by decide +kernel
theorem dX5_init_596 : decode cX5_init 596 = .ok (.bipush 38, 2) := by decide +kernel
theorem dX5_init_598 : decode cX5_init 598 = .ok (.bipush 32, 2) := by decide +kernel
theorem dX5_init_600 : decode cX5_init 600 = .ok (.iastore, 1) := by decide +kernel
theorem dX5_init_601 : decode cX5_init 601 = .ok (.dup, 1) := by decide +kernel
theorem dX5_init_602 : decode cX5_init 602 = .ok (.bipush 39, 2) := by decide +kernel
theorem dX5_init_604 : decode cX5_init 604 = .ok (.bipush 32, 2) := by decide +kernel
theorem dX5_init_606 : decode cX5_init 606 = .ok (.iastore, 1) := by decide +kernel
theorem dX5_init_607 : decode cX5_init 607 = .ok (.dup, 1) := by decide +kernel
theorem dX5_init_608 : decode cX5_init 608 = .ok (.bipush 40, 2) := by decide +kernel
theorem dX5_init_610 : decode cX5_init 610 = .ok (.bipush 119, 2) := by decide +kernel
theorem dX5_init_612 : decode cX5_init 612 = .ok (.iastore, 1) := by decide +kernel
theorem dX5_init_613 : decode cX5_init 613 = .ok (.dup, 1) := by decide +kernel
theorem dX5_init_614 : decode cX5_init 614 = .ok (.bipush 41, 2) := by decide +kernel
theorem dX5_init_616 : decode cX5_init 616 = .ok (.bipush 105, 2) := by decide +kernel
theorem dX5_init_618 : decode cX5_init 618 = .ok (.iastore, 1) := by decide +kernel
theorem dX5_init_619 : decode cX5_init 619 = .ok (.dup, 1) := by decide +kernel
theorem dX5_init_620 : decode cX5_init 620 = .ok (.bipush 42, 2) := by decide +kernel
theorem dX5_init_622 : decode cX5_init 622 = .ok (.bipush 116, 2) := by decide +kernel
theorem dX5_init_624 : decode cX5_init 624 = .ok (.iastore, 1) := by decide +kernel
theorem dX5_init_625 : decode cX5_init 625 = .ok (.dup, 1) := by decide +kernel
theorem dX5_init_626 : decode cX5_init 626 = .ok (.bipush 43, 2) := by decide +kernel
theorem dX5_init_628 : decode cX5_init 628 = .ok (.bipush 32, 2) := by decide +kernel
theorem dX5_init_630 : decode cX5_init 630 = .ok (.iastore, 1) := by decide +kernel
theorem dX5_init_631 : decode cX5_init 631 = .ok (.dup, 1) := by decide +kernel
theorem dX5_init_632 : decode cX5_init 632 = .ok (.bipush 44, 2) := by decide +kernel
theorem dX5_init_634 : decode cX5_init 634 = .ok (.bipush 32, 2) := by decide +kernel
theorem dX5_init_636 : decode cX5_init 636 = .ok (.iastore, 1) := by decide +kernel
theorem dX5_init_637 : decode cX5_init 637 = .ok (.dup, 1) := by decide +kernel
theorem dX5_init_638 : decode cX5_init 638 = .ok (.bipush 45, 2) := by decide +kernel
theorem dX5_init_640 : decode cX5_init 640 = .ok (.bipush 32, 2) := by decide +kernel
theorem dX5_init_642 : decode cX5_init 642 = .ok (.iastore, 1) := by decide +kernel
theorem dX5_init_643 : decode cX5_init 643 = .ok (.dup, 1) := by decide +kernel
theorem dX5_init_644 : decode cX5_init 644 = .ok (.bipush 46, 2) := by decide +kernel
theorem dX5_init_646 : decode cX5_init 646 = .ok (.bipush 32, 2) := by decide +kernel
theorem dX5_init_648 : decode cX5_init 648 = .ok (.iastore, 1) := by decide +kernel
theorem dX5_init_649 : decode cX5_init 649 = .ok (.dup, 1) := by decide +kernel
theorem dX5_init_650 : decode cX5_init 650 = .ok (.bipush 47, 2) := by decide +kernel
theorem dX5_init_652 : decode cX5_init 652 = .ok (.bipush 32, 2) := by decide +kernel
theorem dX5_init_654 : decode cX5_init 654 = .ok (.iastore, 1) := by decide +kernel
theorem dX5_init_655 : decode cX5_init 655 = .ok (.dup, 1) := by decide +kernel
theorem dX5_init_656 : decode cX5_init 656 = .ok (.bipush 48, 2) := by decide +kernel
theorem dX5_init_658 : decode cX5_init 658 = .ok (.bipush 115, 2) := by decide +kernel
theorem dX5_init_660 : decode cX5_init 660 = .ok (.iastore, 1) := by decide +kernel
theorem dX5_init_661 : decode cX5_init 661 = .ok (.dup, 1) := by decide +kernel
theorem dX5_init_662 : decode cX5_init 662 = .ok (.bipush 49, 2) := by decide +kernel
theorem dX5_init_664 : decode cX5_init 664 = .ok (.bipush 97, 2) := by decide +kernel
theorem dX5_init_666 : decode cX5_init 666 = .ok (.iastore, 1) := by decide +kernel
theorem dX5_init_667 : decode cX5_init 667 = .ok (.dup, 1) := by decide +kernel
theorem dX5_init_668 : decode cX5_init 668 = .ok (.bipush 50, 2) := by decide +kernel
theorem dX5_init_670 : decode cX5_init 670 = .ok (.bipush 110, 2) := by decide +kernel
theorem dX5_init_672 : decode cX5_init 672 = .ok (.iastore, 1) := by decide +kernel
theorem dX5_init_673 : decode cX5_init 673 = .ok (.dup, 1) := by decide +kernel
theorem dX5_init_674 : decode cX5_init 674 = .ok (.bipush 51, 2) := by decide +kernel
theorem dX5_init_676 : decode cX5_init 676 = .ok (.bipush 100, 2) := by decide +kernel
theorem dX5_init_678 : decode cX5_init 678 = .ok (.iastore, 1) := by decide +kernel
theorem dX5_init_679 : decode cX5_init 679 = .ok (.dup, 1) := by decide +kernel
theorem dX5_init_680 : decode cX5_init 680 = .ok (.bipush 52, 2) := by decide +kernel
theorem dX5_init_682 : decode cX5_init 682 = .ok (.bipush 32, 2) := by decide +kernel
theorem dX5_init_684 : decode cX5_init 684 = .ok (.iastore, 1) := by decide +kernel
theorem dX5_init_685 : decode cX5_init 685 = .ok (.dup, 1) := by decide +kernel
theorem dX5_init_686 : decode cX5_init 686 = .ok (.bipush 53, 2) := by decide +kernel
theorem dX5_init_688 : decode cX5_init 688 = .ok (.bipush 32, 2) := by decide +kernel
theorem dX5_init_690 : decode cX5_init 690 = .ok (.iastore, 1) := by decide +kernel
theorem dX5_init_691 : decode cX5_init 691 = .ok (.dup, 1) := by decide +kernel
theorem dX5_init_692 : decode cX5_init 692 = .ok (.bipush 54, 2) := by decide +kernel
theorem dX5_init_694 : decode cX5_init 694 = .ok (.bipush 32, 2) := by decide +kernel
theorem dX5_init_696 : decode cX5_init 696 = .ok (.iastore, 1) := by decide +kernel
theorem dX5_init_697 : decode cX5_init 697 = .ok (.dup, 1) := by decide +kernel
theorem dX5_init_698 : decode cX5_init 698 = .ok (.bipush 55, 2) := by decide +kernel
theorem dX5_init_700 : decode cX5_init 700 = .ok (.bipush 32, 2) := by decide +kernel
theorem dX5_init_702 : decode cX5_init 702 = .ok (.iastore, 1) := by decide +kernel
theorem dX5_init_703 : decode cX5_init 703 = .ok (.dup, 1) := by decide +kernel
theorem dX5_init_704 : decode cX5_init 704 = .ok (.bipush 56, 2) := by decide +kernel
theorem dX5_init_706 : decode cX5_init 706 = .ok (.bipush 109, 2) := by decide +kernel
theorem dX5_init_708 : decode cX5_init 708 = .ok (.iastore, 1) := by decide +kernel
theorem dX5_init_709 : decode cX5_init 709 = .ok (.dup, 1) := by decide +kernel
theorem dX5_init_710 : decode cX5_init 710 = .ok (.bipush 57, 2) := by decide +kernel
theorem dX5_init_712 : decode cX5_init 712 = .ok (.bipush 105, 2) := by decide +kernel
theorem dX5_init_714 : decode cX5_init 714 = .ok (.iastore, 1) := by decide +kernel
theorem dX5_init_715 : decode cX5_init 715 = .ok (.dup, 1) := by decide +kernel
theorem dX5_init_716 : decode cX5_init 716 = .ok (.bipush 58, 2) := by decide +kernel
theorem dX5_init_718 : decode cX5_init 718 = .ok (.bipush 110, 2) := by decide +kernel
theorem dX5_init_720 : decode cX5_init 720 = .ok (.iastore, 1) := by decide +kernel
theorem dX5_init_721 : decode cX5_init 721 = .ok (.dup, 1) := by decide +kernel
theorem dX5_init_722 : decode cX5_init 722 = .ok (.bipush 59, 2) := by decide +kernel
theorem dX5_init_724 : decode cX5_init 724 = .ok (.bipush 117, 2) := by decide +kernel
theorem dX5_init_726 : decode cX5_init 726 = .ok (.iastore, 1) := by decide +kernel
theorem dX5_init_727 : decode cX5_init 727 = .ok (.dup, 1) := by decide +kernel
theorem dX5_init_728 : decode cX5_init 728 = .ok (.bipush 60, 2) := by decide +kernel
theorem dX5_init_730 : decode cX5_init 730 = .ok (.bipush 116, 2) := by decide +kernel
theorem dX5_init_732 : decode cX5_init 732 = .ok (.iastore, 1) := by decide +kernel
theorem dX5_init_733 : decode cX5_init 733 = .ok (.dup, 1) := by decide +kernel
theorem dX5_init_734 : decode cX5_init 734 = .ok (.bipush 61, 2) := by decide +kernel
theorem dX5_init_736 : decode cX5_init 736 = .ok (.bipush 101, 2) := by decide +kernel
theorem dX5_init_738 : decode cX5_init 738 = .ok (.iastore, 1) := by decide +kernel
theorem dX5_init_739 : decode cX5_init 739 = .ok (.dup, 1) := by decide +kernel
theorem dX5_init_740 : decode cX5_init 740 = .ok (.bipush 62, 2) := by decide +kernel
theorem dX5_init_742 : decode cX5_init 742 = .ok (.bipush 32, 2) := by decide +kernel
theorem dX5_init_744 : decode cX5_init 744 = .ok (.iastore, 1) := by decide +kernel
theorem dX5_init_745 : decode cX5_init 745 = .ok (.dup, 1) := by decide +kernel
theorem dX5_init_746 : decode cX5_init 746 = .ok (.bipush 63, 2) := by decide +kernel
theorem dX5_init_748 : decode cX5_init 748 = .ok (.bipush 32, 2) := by decide +kernel
theorem dX5_init_750 : decode cX5_init 750 = .ok (.iastore, 1) := by decide +kernel
theorem dX5_init_751 : decode cX5_init 751 = .ok (.dup, 1) := by decide +kernel
theorem dX5_init_752 : decode cX5_init 752 = .ok (.bipush 64, 2) := by decide +kernel
theorem dX5_init_754 : decode cX5_init 754 = .ok (.bipush 109, 2) := by decide +kernel
theorem dX5_init_756 : decode cX5_init 756 = .ok (.iastore, 1) := by decide +kernel
theorem dX5_init_757 : decode cX5_init 757 = .ok (.dup, 1) := by decide +kernel
theorem dX5_init_758 : decode cX5_init 758 = .ok (.bipush 65, 2) := by decide +kernel
theorem dX5_init_760 : decode cX5_init 760 = .ok (.bipush 111, 2) := by decide +kernel
theorem dX5_init_762 : decode cX5_init 762 = .ok (.iastore, 1) := by decide +kernel
theorem dX5_init_763 : decode cX5_init 763 = .ok (.dup, 1) := by decide +kernel
theorem dX5_init_764 : decode cX5_init 764 = .ok (.bipush 66, 2) := by decide +kernel
theorem dX5_init_766 : decode cX5_init 766 = .ok (.bipush 114, 2) := by decide +kernel
theorem dX5_init_768 : decode cX5_init 768 = .ok (.iastore, 1) := by decide +kernel
theorem dX5_init_769 : decode cX5_init 769 = .ok (.dup, 1) := by decide +kernel
theorem dX5_init_770 : decode cX5_init 770 = .ok (.bipush 67, 2) := by decide +kernel
theorem dX5_init_772 : decode cX5_init 772 = .ok (.bipush 101, 2) := by decide +kernel
theorem dX5_init_774 : decode cX5_init 774 = .ok (.iastore, 1) := by decide +kernel
theorem dX5_init_775 : decode cX5_init 775 = .ok (.dup, 1) := by decide +kernel
theorem dX5_init_776 : decode cX5_init 776 = .ok (.bipush 68, 2) := by decide +kernel
theorem dX5_init_778 : decode cX5_init 778 = .ok (.bipush 32, 2) := by decide +kernel
theorem dX5_init_780 : decode cX5_init 780 = .ok (.iastore, 1) := by decide +kernel
theorem dX5_init_781 : decode cX5_init 781 = .ok (.dup, 1) := by decide +kernel
theorem dX5_init_782 : decode cX5_init 782 = .ok (.bipush 69, 2) := by decide +kernel
theorem dX5_init_784 : decode cX5_init 784 = .ok (.bipush 32, 2) := by decide +kernel
theorem dX5_init_786 : decode cX5_init 786 = .ok (.iastore, 1) := by decide +kernel
theorem dX5_init_787 : decode cX5_init 787 = .ok (.dup, 1) := by decide +kernel
theorem dX5_init_788 : decode cX5_init 788 = .ok (.bipush 70, 2) := by decide +kernel
theorem dX5_init_790 : decode cX5_init 790 = .ok (.bipush 32, 2) := by decide +kernel
theorem dX5_init_792 : decode cX5_init 792 = .ok (.iastore, 1) := by decide +kernel
theorem dX5_init_793 : decode cX5_init 793 = .ok (.dup, 1) := by decide +kernel
theorem dX5_init_794 : decode cX5_init 794 = .ok (.bipush 71, 2) := by decide +kernel
theorem dX5_init_796 : decode cX5_init 796 = .ok (.bipush 32, 2) := by decide +kernel
theorem dX5_init_798 : decode cX5_init 798 = .ok (.iastore, 1) := by decide +kernel
theorem dX5_init_799 : decode cX5_init 799 = .ok (.dup, 1) := by decide +kernel
theorem dX5_init_800 : decode cX5_init 800 = .ok (.bipush 72, 2) := by decide +kernel
theorem dX5_init_802 : decode cX5_init 802 = .ok (.bipush 111, 2) := by decide +kernel
theorem dX5_init_804 : decode cX5_init 804 = .ok (.iastore, 1) := by decide +kernel
theorem dX5_init_805 : decode cX5_init 805 = .ok (.dup, 1) := by decide +kernel
theorem dX5_init_806 : decode cX5_init 806 = .ok (.bipush 73, 2) := by decide +kernel
theorem dX5_init_808 : decode cX5_init 808 = .ok (.bipush 114, 2) := by decide +kernel
theorem dX5_init_810 : decode cX5_init 810 = .ok (.iastore, 1) := by decide +kernel
theorem dX5_init_811 : decode cX5_init 811 = .ok (.dup, 1) := by decide +kernel
theorem dX5_init_812 : decode cX5_init 812 = .ok (.bipush 74, 2) := by decide +kernel
theorem dX5_init_814 : decode cX5_init 814 = .ok (.bipush 32, 2) := by decide +kernel
theorem dX5_init_816 : decode cX5_init 816 = .ok (.iastore, 1) := by decide +kernel
theorem dX5_init_817 : decode cX5_init 817 = .ok (.dup, 1) := by decide +kernel
theorem dX5_init_818 : decode cX5_init 818 = .ok (.bipush 75, 2) := by decide +kernel
theorem dX5_init_820 : decode cX5_init 820 = .ok (.bipush 32, 2) := by decide +kernel
theorem dX5_init_822 : decode cX5_init 822 = .ok (.iastore, 1) := by decide +kernel
theorem dX5_init_823 : decode cX5_init 823 = .ok (.dup, 1) := by decide +kernel
theorem dX5_init_824 : decode cX5_init 824 = .ok (.bipush 76, 2) := by decide +kernel
theorem dX5_init_826 : decode cX5_init 826 = .ok (.bipush 32, 2) := by decide +kernel
theorem dX5_init_828 : decode cX5_init 828 = .ok (.iastore, 1) := by decide +kernel
theorem dX5_init_829 : decode cX5_init 829 = .ok (.dup, 1) := by decide +kernel
theorem dX5_init_830 : decode cX5_init 830 = .ok (.bipush 77, 2) := by decide +kernel
theorem dX5_init_832 : decode cX5_init 832 = .ok (.bipush 32, 2) := by decide +kernel
theorem dX5_init_834 : decode cX5_init 834 = .ok (.iastore, 1) := by decide +kernel
theorem dX5_init_835 : decode cX5_init 835 = .ok (.dup, 1) := by decide +kernel
theorem dX5_init_836 : decode cX5_init 836 = .ok (.bipush 78, 2) := by decide +kernel
theorem dX5_init_838 : decode cX5_init 838 = .ok (.bipush 32, 2) := by decide +kernel
theorem dX5_init_840 : decode cX5_init 840 = .ok (.iastore, 1) := by decide +kernel
theorem dX5_init_841 : decode cX5_init 841 = .ok (.dup, 1) := by decide +kernel
theorem dX5_init_842 : decode cX5_init 842 = .ok (.bipush 79, 2) := by decide +kernel
theorem dX5_init_844 : decode cX5_init 844 = .ok (.bipush 32, 2) := by decide +kernel
theorem dX5_init_846 : decode cX5_init 846 = .ok (.iastore, 1) := by decide +kernel
theorem dX5_init_847 : decode cX5_init 847 = .ok (.dup, 1) := by decide +kernel
theorem dX5_init_848 : decode cX5_init 848 = .ok (.bipush 80, 2) := by decide +kernel
theorem dX5_init_850 : decode cX5_init 850 = .ok (.bipush 97, 2) := by decide +kernel
theorem dX5_init_852 : decode cX5_init 852 = .ok (.iastore, 1) := by decide +kernel
theorem dX5_init_853 : decode cX5_init 853 = .ok (.dup, 1) := by decide +kernel
theorem dX5_init_854 : decode cX5_init 854 = .ok (.bipush 81, 2) := by decide +kernel
theorem dX5_init_856 : decode cX5_init 856 = .ok (.bipush 110, 2) := by decide +kernel
theorem dX5_init_858 : decode cX5_init 858 = .ok (.iastore, 1) := by decide +kernel
theorem dX5_init_859 : decode cX5_init 859 = .ok (.dup, 1) := by decide +kernel
theorem dX5_init_860 : decode cX5_init 860 = .ok (.bipush 82, 2) := by decide +kernel
theorem dX5_init_862 : decode cX5_init 862 = .ok (.bipush 100, 2) := by decide +kernel
theorem dX5_init_864 : decode cX5_init 864 = .ok (.iastore, 1) := by decide +kernel
theorem dX5_init_865 : decode cX5_init 865 = .ok (.dup, 1) := by decide +kernel
theorem dX5_init_866 : decode cX5_init 866 = .ok (.bipush 83, 2) := by decide +kernel
theorem dX5_init_868 : decode cX5_init 868 = .ok (.bipush 32, 2) := by decide +kernel
theorem dX5_init_870 : decode cX5_init 870 = .ok (.iastore, 1) := by decide +kernel
theorem dX5_init_871 : decode cX5_init 871 = .ok (.dup, 1) := by decide +kernel
theorem dX5_init_872 : decode cX5_init 872 = .ok (.bipush 84, 2) := by decide +kernel
theorem dX5_init_874 : decode cX5_init 874 = .ok (.bipush 32, 2) := by decide +kernel
theorem dX5_init_876 : decode cX5_init 876 = .ok (.iastore, 1) := by decide +kernel
theorem dX5_init_877 : decode cX5_init 877 = .ok (.dup, 1) := by decide +kernel
theorem dX5_init_878 : decode cX5_init 878 = .ok (.bipush 85, 2) := by decide +kernel
theorem dX5_init_880 : decode cX5_init 880 = .ok (.bipush 32, 2) := by decide +kernel
theorem dX5_init_882 : decode cX5_init 882 = .ok (.iastore, 1) := by decide +kernel
theorem dX5_init_883 : decode cX5_init 883 = .ok (.dup, 1) := by decide +kernel
theorem dX5_init_884 : decode cX5_init 884 = .ok (.bipush 86, 2) := by decide +kernel
theorem dX5_init_886 : decode cX5_init 886 = .ok (.bipush 32, 2) := by decide +kernel
theorem dX5_init_888 : decode cX5_init 888 = .ok (.iastore, 1) := by decide +kernel
theorem dX5_init_889 : decode cX5_init 889 = .ok (.dup, 1) := by decide +kernel
theorem dX5_init_890 : decode cX5_init 890 = .ok (.bipush 87, 2) := by decide +kernel
theorem dX5_init_892 : decode cX5_init 892 = .ok (.bipush 32, 2) := by decide +kernel
theorem dX5_init_894 : decode cX5_init 894 = .ok (.iastore, 1) := by decide +kernel
theorem dX5_init_895 : decode cX5_init 895 = .ok (.dup, 1) := by decide +kernel
theorem dX5_init_896 : decode cX5_init 896 = .ok (.bipush 88, 2) := by decide +kernel
theorem dX5_init_898 : decode cX5_init 898 = .ok (.bipush 110, 2) := by decide +kernel
theorem dX5_init_900 : decode cX5_init 900 = .ok (.iastore, 1) := by decide +kernel
theorem dX5_init_901 : decode cX5_init 901 = .ok (.dup, 1) := by decide +kernel
theorem dX5_init_902 : decode cX5_init 902 = .ok (.bipush 89, 2) := by decide +kernel
theorem dX5_init_904 : decode cX5_init 904 = .ok (.bipush 111, 2) := by decide +kernel
theorem dX5_init_906 : decode cX5_init 906 = .ok (.iastore, 1) := by decide +kernel
theorem dX5_init_907 : decode cX5_init 907 = .ok (.dup, 1) := by decide +kernel
theorem dX5_init_908 : decode cX5_init 908 = .ok (.bipush 90, 2) := by decide +kernel
theorem dX5_init_910 : decode cX5_init 910 = .ok (.bipush 116, 2) := by decide +kernel
theorem dX5_init_912 : decode cX5_init 912 = .ok (.iastore, 1) := by decide +kernel
theorem dX5_init_913 : decode cX5_init 913 = .ok (.dup, 1) := by decide +kernel
theorem dX5_init_914 : decode cX5_init 914 = .ok (.bipush 91, 2) := by decide +kernel
theorem dX5_init_916 : decode cX5_init 916 = .ok (.bipush 32, 2) := by decide +kernel
theorem dX5_init_918 : decode cX5_init 918 = .ok (.iastore, 1) := by decide +kernel
theorem dX5_init_919 : decode cX5_init 919 = .ok (.dup, 1) := by decide +kernel
theorem dX5_init_920 : decode cX5_init 920 = .ok (.bipush 92, 2) := by decide +kernel
theorem dX5_init_922 : decode cX5_init 922 = .ok (.bipush 32, 2) := by decide +kernel
theorem dX5_init_924 : decode cX5_init 924 = .ok (.iastore, 1) := by decide +kernel
theorem dX5_init_925 : decode cX5_init 925 = .ok (.dup, 1) := by decide +kernel
theorem dX5_init_926 : decode cX5_init 926 = .ok (.bipush 93, 2) := by decide +kernel
theorem dX5_init_928 : decode cX5_init 928 = .ok (.bipush 32, 2) := by decide +kernel
theorem dX5_init_930 : decode cX5_init 930 = .ok (.iastore, 1) := by decide +kernel
theorem dX5_init_931 : decode cX5_init 931 = .ok (.dup, 1) := by decide +kernel
theorem dX5_init_932 : decode cX5_init 932 = .ok (.bipush 94, 2) := by decide +kernel
theorem dX5_init_934 : decode cX5_init 934 = .ok (.bipush 32, 2) := by decide +kernel
theorem dX5_init_936 : decode cX5_init 936 = .ok (.iastore, 1) := by decide +kernel
theorem dX5_init_937 : decode cX5_init 937 = .ok (.dup, 1) := by decide +kernel
theorem dX5_init_938 : decode cX5_init 938 = .ok (.bipush 95, 2) := by decide +kernel
theorem dX5_init_940 : decode cX5_init 940 = .ok (.bipush 32, 2) := by decide +kernel
theorem dX5_init_942 : decode cX5_init 942 = .ok (.iastore, 1) := by decide +kernel
theorem dX5_init_943 : decode cX5_init 943 = .ok (.putfield 46, 3) := by decide +kernel
theorem dX5_init_946 : decode cX5_init 946 = .ok (.aload_n 0, 1) := by decide +kernel
theorem dX5_init_947 : decode cX5_init 947 = .ok (.sipush 200, 3) := by decide +kernel
theorem dX5_init_950 : decode cX5_init 950 = .ok (.newarray .int, 2) := by decide +kernel
theorem dX5_init_952 : decode cX5_init 952 = .ok (.putfield 49, 3) := by decide +kernel
theorem dX5_init_955 : decode cX5_init 955 = .ok (.aload_n 0, 1) := by decide +kernel
theorem dX5_init_956 : decode cX5_init 956 = .ok (.sipush 200, 3) := by decide +kernel
theorem dX5_init_959 : decode cX5_init 959 = .ok (.newarray .int, 2) := by decide +kernel
theorem dX5_init_961 : decode cX5_init 961 = .ok (.putfield 52, 3) := by decide +kernel
theorem dX5_init_964 : decode cX5_init 964 = .ok (.aload_n 0, 1) := by decide +kernel
theorem dX5_init_965 : decode cX5_init 965 = .ok (.bipush 6, 2) := by decide +kernel
theorem dX5_init_967 : decode cX5_init 967 = .ok (.newarray .int, 2) := by decide +kernel
theorem dX5_init_969 : decode cX5_init 969 = .ok (.putfield 55, 3) := by decide +kernel
theorem dX5_init_972 : decode cX5_init 972 = .ok (.aload_n 0, 1) := by decide +kernel
theorem dX5_init_973 : decode cX5_init 973 = .ok (.bipush 73, 2) := by decide +kernel
theorem dX5_init_975 : decode cX5_init 975 = .ok (.newarray .int, 2) := by decide +kernel
theorem dX5_init_977 : decode cX5_init 977 = .ok (.putfield 58, 3) := by decide +kernel
theorem dX5_init_980 : decode cX5_init 980 = .ok (.aload_n 0, 1) := by decide +kernel
theorem dX5_init_981 : decode cX5_init 981 = .ok (.iconst 4, 1) := by decide +kernel
theorem dX5_init_982 : decode cX5_init 982 = .ok (.newarray .int, 2) := by decide +kernel
theorem dX5_init_984 : decode cX5_init 984 = .ok (.putfield 61, 3) := by decide +kernel
theorem dX5_init_987 : decode cX5_init 987 = .ok (.aload_n 0, 1) := by decide +kernel
theorem dX5_init_988 : decode cX5_init 988 = .ok (.bipush 61, 2) := by decide +kernel
theorem dX5_init_990 : decode cX5_init 990 = .ok (.newarray .int, 2) := by decide +kernel
theorem dX5_init_992 : decode cX5_init 992 = .ok (.putfield 64, 3) := by decide +kernel
theorem dX5_init_995 : decode cX5_init 995 = .ok (.iconst 0, 1) := by decide +kernel
theorem dX5_init_996 : decode cX5_init 996 = .ok (.istore_n 1, 1) := by decide +kernel
theorem dX5_init_997 : decode cX5_init 997 = .ok (.iload_n 1, 1) := by decide +kernel
theorem dX5_init_998 : decode cX5_init 998 = .ok (.bipush 43, 2) := by decide +kernel
theorem dX5_init_1000 : decode cX5_init 1000 = .ok (.if_icmp .ge 21, 3) := by decide +kernel
theorem dX5_init_1003 : decode cX5_init 1003 = .ok (.aload_n 0, 1) := by decide +kernel
theorem dX5_init_1004 : decode cX5_init 1004 = .ok (.getfield 19, 3) := by decide +kernel
theorem dX5_init_1007 : decode cX5_init 1007 = .ok (.iload_n 1, 1) := by decide +kernel
theorem dX5_init_1008 : decode cX5_init 1008 = .ok (.aload_n 0, 1) := by decide +kernel
theorem dX5_init_1009 : decode cX5_init 1009 = .ok (.getfield 43, 3) := by decide +kernel
theorem dX5_init_1012 : decode cX5_init 1012 = .ok (.iload_n 1, 1) := by decide +kernel
theorem dX5_init_1013 : decode cX5_init 1013 = .ok (.iaload, 1) := by decide +kernel
theorem dX5_init_1014 : decode cX5_init 1014 = .ok (.iastore, 1) := by decide +kernel
theorem dX5_init_1015 : decode cX5_init 1015 = .ok (.iinc 1 1, 3) := by decide +kernel
theorem dX5_init_1018 : decode cX5_init 1018 = .ok (.goto (-21), 3) := by decide +kernel
theorem dX5_init_1021 : decode cX5_init 1021 = .ok (.aload_n 0, 1) := by decide +kernel
theorem dX5_init_1022 : decode cX5_init 1022 = .ok (.bipush 43, 2) := by decide +kernel
theorem dX5_init_1024 : decode cX5_init 1024 = .ok (.putfield 67, 3) := by decide +kernel
theorem dX5_init_1027 : decode cX5_init 1027 = .ok (.aload_n 0, 1) := by decide +kernel
theorem dX5_init_1028 : decode cX5_init 1028 = .ok (.invokevirtual 71, 3) := by decide +kernel
theorem dX5_init_1031 : decode cX5_init 1031 = .ok (.pop, 1) := by decide +kernel
theorem dX5_init_1032 : decode cX5_init 1032 = .ok (.return_, 1) := by decide +kernel
theorem dX5_in_0 : decode cX5_in 0 = .ok (.iload_n 0, 1) := by decide +kernel
theorem dX5_in_1 : decode cX5_in 1 = .ok (.iload_n 1, 1) := by decide +kernel
theorem dX5_in_2 : decode cX5_in 2 = .ok (.if_icmp .lt 12, 3) := by decide +kernel
theorem dX5_in_5 : decode cX5_in 5 = .ok (.iload_n 0, 1) := by decide +kernel
theorem dX5_in_6 : decode cX5_in 6 = .ok (.iload_n 2, 1) := by decide +kernel
theorem dX5_in_7 : decode cX5_in 7 = .ok (.if_icmp .gt 7, 3) := by decide +kernel
theorem dX5_in_10 : decode cX5_in 10 = .ok (.iconst 1, 1) := by decide +kernel
theorem dX5_in_11 : decode cX5_in 11 = .ok (.goto 4, 3) := by decide +kernel
theorem dX5_in_14 : decode cX5_in 14 = .ok (.iconst 0, 1) := by decide +kernel
theorem dX5_in_15 : decode cX5_in 15 = .ok (.ireturn, 1) := by decide +kernel
theorem dX5_within_0 : decode cX5_within 0 = .ok (.iload_n 0, 1) := by decide +kernel
theorem dX5_within_1 : decode cX5_within 1 = .ok (.iload_n 1, 1) := by decide +kernel
theorem dX5_within_2 : decode cX5_within 2 = .ok (.if_icmp .ge 7, 3) := by decide +kernel
theorem dX5_within_5 : decode cX5_within 5 = .ok (.iload_n 1, 1) := by decide +kernel
theorem dX5_within_6 : decode cX5_within 6 = .ok (.goto 13, 3) := by decide +kernel
theorem dX5_within_9 : decode cX5_within 9 = .ok (.iload_n 0, 1) := by decide +kernel
theorem dX5_within_10 : decode cX5_within 10 = .ok (.iload_n 2, 1) := by decide +kernel
theorem dX5_within_11 : decode cX5_within 11 = .ok (.if_icmp .le 7, 3) := by decide +kernel
theorem dX5_within_14 : decode cX5_within 14 = .ok (.iload_n 2, 1) := by decide +kernel
theorem dX5_within_15 : decode cX5_within 15 = .ok (.goto 4, 3) := by decide +kernel
theorem dX5_within_18 : decode cX5_within 18 = .ok (.iload_n 0, 1) := by decide +kernel
theorem dX5_within_19 : decode cX5_within 19 = .ok (.ireturn, 1) := by decide +kernel
theorem dX5_onesOf_0 : decode cX5_onesOf 0 = .ok (.iconst 0, 1) := by decide +kernel
theorem dX5_onesOf_1 : decode cX5_onesOf 1 = .ok (.istore_n 1, 1) := by decide +kernel
theorem dX5_onesOf_2 : decode cX5_onesOf 2 = .ok (.iconst 0, 1) := by decide +kernel
theorem dX5_onesOf_3 : decode cX5_onesOf 3 = .ok (.istore_n 2, 1) := by decide +kernel
theorem dX5_onesOf_4 : decode cX5_onesOf 4 = .ok (.iload_n 2, 1) := by decide +kernel
theorem dX5_onesOf_5 : decode cX5_onesOf 5 = .ok (.bipush 8, 2) := by decide +kernel
theorem dX5_onesOf_7 : decode cX5_onesOf 7 = .ok (.if_icmp .ge 17, 3) := by decide +kernel
theorem dX5_onesOf_10 : decode cX5_onesOf 10 = .ok (.iload_n 1, 1) := by decide +kernel
theorem dX5_onesOf_11 : decode cX5_onesOf 11 = .ok (.iload_n 0, 1) := by decide +kernel
theorem dX5_onesOf_12 : decode cX5_onesOf 12 = .ok (.iload_n 2, 1) := by decide +kernel
theorem dX5_onesOf_13 : decode cX5_onesOf 13 = .ok (.ishr, 1) := by decide +kernel
theorem dX5_onesOf_14 : decode cX5_onesOf 14 = .ok (.iconst 1, 1) := by decide +kernel
theorem dX5_onesOf_15 : decode cX5_onesOf 15 = .ok (.iand, 1) := by decide +kernel
theorem dX5_onesOf_16 : decode cX5_onesOf 16 = .ok (.iadd, 1) := by decide +kernel
theorem dX5_onesOf_17 : decode cX5_onesOf 17 = .ok (.istore_n 1, 1) := by decide +kernel
theorem dX5_onesOf_18 : decode cX5_onesOf 18 = .ok (.iinc 2 1, 3) := by decide +kernel
theorem dX5_onesOf_21 : decode cX5_onesOf 21 = .ok (.goto (-17), 3) := by decide +kernel
theorem dX5_onesOf_24 : decode cX5_onesOf 24 = .ok (.iload_n 1, 1) := by decide +kernel
theorem dX5_onesOf_25 : decode cX5_onesOf 25 = .ok (.ireturn, 1) := by decide +kernel
theorem dX5_isOne_0 : decode cX5_isOne 0 = .ok (.iload_n 1, 1) := by decide +kernel
theorem dX5_isOne_1 : decode cX5_isOne 1 = .ok (.iconst 0, 1) := by decide +kernel
theorem dX5_isOne_2 : decode cX5_isOne 2 = .ok (.aload_n 0, 1) := by decide +kernel
theorem dX5_isOne_3 : decode cX5_isOne 3 = .ok (.getfield 75, 3) := by decide +kernel
theorem dX5_isOne_6 : decode cX5_isOne 6 = .ok (.iconst 1, 1) := by decide +kernel
theorem dX5_isOne_7 : decode cX5_isOne 7 = .ok (.isub, 1) := by decide +kernel
theorem dX5_isOne_8 : decode cX5_isOne 8 = .ok (.invokestatic 78, 3) := by decide +kernel
theorem dX5_isOne_11 : decode cX5_isOne 11 = .ok (.ireturn, 1) := by decide +kernel
theorem dX5_isPlace_0 : decode cX5_isPlace 0 = .ok (.iload_n 0, 1) := by decide +kernel
theorem dX5_isPlace_1 : decode cX5_isPlace 1 = .ok (.iconst 0, 1) := by decide +kernel
theorem dX5_isPlace_2 : decode cX5_isPlace 2 = .ok (.bipush 7, 2) := by decide +kernel
theorem dX5_isPlace_4 : decode cX5_isPlace 4 = .ok (.invokestatic 78, 3) := by decide +kernel
theorem dX5_isPlace_7 : decode cX5_isPlace 7 = .ok (.ireturn, 1) := by decide +kernel
theorem dX5_isHere_0 : decode cX5_isHere 0 = .ok (.aload_n 0, 1) := by decide +kernel
theorem dX5_isHere_1 : decode cX5_isHere 1 = .ok (.getfield 16, 3) := by decide +kernel
theorem dX5_isHere_4 : decode cX5_isHere 4 = .ok (.bipush 12, 2) := by decide +kernel
theorem dX5_isHere_6 : decode cX5_isHere 6 = .ok (.iload_n 1, 1) := by decide +kernel
theorem dX5_isHere_7 : decode cX5_isHere 7 = .ok (.imul, 1) := by decide +kernel
theorem dX5_isHere_8 : decode cX5_isHere 8 = .ok (.bipush 10, 2) := by decide +kernel
theorem dX5_isHere_10 : decode cX5_isHere 10 = .ok (.iadd, 1) := by decide +kernel
theorem dX5_isHere_11 : decode cX5_isHere 11 = .ok (.iaload, 1) := by decide +kernel
theorem dX5_isHere_12 : decode cX5_isHere 12 = .ok (.iconst (-1), 1) := by decide +kernel
theorem dX5_isHere_13 : decode cX5_isHere 13 = .ok (.if_icmp .ne 7, 3) := by decide +kernel
theorem dX5_isHere_16 : decode cX5_isHere 16 = .ok (.iconst 1, 1) := by decide +kernel
theorem dX5_isHere_17 : decode cX5_isHere 17 = .ok (.goto 4, 3) := by decide +kernel
theorem dX5_isHere_20 : decode cX5_isHere 20 = .ok (.iconst 0, 1) := by decide +kernel
theorem dX5_isHere_21 : decode cX5_isHere 21 = .ok (.ireturn, 1) := by decide +kernel
theorem dX5_hasSand_0 : decode cX5_hasSand 0 = .ok (.aload_n 0, 1) := by decide +kernel
theorem dX5_hasSand_1 : decode cX5_hasSand 1 = .ok (.getfield 16, 3) := by decide +kernel
theorem dX5_hasSand_4 : decode cX5_hasSand 4 = .ok (.bipush 12, 2) := by decide +kernel
theorem dX5_hasSand_6 : decode cX5_hasSand 6 = .ok (.iload_n 1, 1) := by decide +kernel
theorem dX5_hasSand_7 : decode cX5_hasSand 7 = .ok (.imul, 1) := by decide +kernel
theorem dX5_hasSand_8 : decode cX5_hasSand 8 = .ok (.bipush 9, 2) := by decide +kernel
theorem dX5_hasSand_10 : decode cX5_hasSand 10 = .ok (.iadd, 1) := by decide +kernel
theorem dX5_hasSand_11 : decode cX5_hasSand 11 = .ok (.iaload, 1) := by decide +kernel
theorem dX5_hasSand_12 : decode cX5_hasSand 12 = .ok (.iload_n 2, 1) := by decide +kernel
theorem dX5_hasSand_13 : decode cX5_hasSand 13 = .ok (.ishr, 1) := by decide +kernel
theorem dX5_hasSand_14 : decode cX5_hasSand 14 = .ok (.iconst 1, 1) := by decide +kernel
theorem dX5_hasSand_15 : decode cX5_hasSand 15 = .ok (.iand, 1) := by decide +kernel
theorem dX5_hasSand_16 : decode cX5_hasSand 16 = .ok (.iconst 1, 1) := by decide +kernel
theorem dX5_hasSand_17 : decode cX5_hasSand 17 = .ok (.if_icmp .ne 7, 3) := by decide +kernel
theorem dX5_hasSand_20 : decode cX5_hasSand 20 = .ok (.iconst 1, 1) := by decide +kernel
theorem dX5_hasSand_21 : decode cX5_hasSand 21 = .ok (.goto 4, 3) := by decide +kernel
theorem dX5_hasSand_24 : decode cX5_hasSand 24 = .ok (.iconst 0, 1) := by decide +kernel
theorem dX5_hasSand_25 : decode cX5_hasSand 25 = .ok (.ireturn, 1) := by decide +kernel
theorem dX5_hereSet_0 : decode cX5_hereSet 0 = .ok (.iconst 0, 1) := by decide +kernel
theorem dX5_hereSet_1 : decode cX5_hereSet 1 = .ok (.istore_n 1, 1) := by decide +kernel
theorem dX5_hereSet_2 : decode cX5_hereSet 2 = .ok (.iconst 0, 1) := by decide +kernel
theorem dX5_hereSet_3 : decode cX5_hereSet 3 = .ok (.istore_n 2, 1) := by decide +kernel
theorem dX5_hereSet_4 : decode cX5_hereSet 4 = .ok (.iload_n 2, 1) := by decide +kernel
theorem dX5_hereSet_5 : decode cX5_hereSet 5 = .ok (.aload_n 0, 1) := by decide +kernel
theorem dX5_hereSet_6 : decode cX5_hereSet 6 = .ok (.getfield 75, 3) := by decide +kernel
theorem dX5_hereSet_9 : decode cX5_hereSet 9 = .ok (.if_icmp .ge 27, 3) := by decide +kernel
theorem dX5_hereSet_12 : decode cX5_hereSet 12 = .ok (.iload_n 1, 1) := by decide +kernel
theorem dX5_hereSet_13 : decode cX5_hereSet 13 = .ok (.aload_n 0, 1) := by decide +kernel
theorem dX5_hereSet_14 : decode cX5_hereSet 14 = .ok (.iload_n 2, 1) := by decide +kernel
theorem dX5_hereSet_15 : decode cX5_hereSet 15 = .ok (.invokevirtual 82, 3) := by decide +kernel
theorem dX5_hereSet_18 : decode cX5_hereSet 18 = .ok (.ifCond .eq 9, 3) := by decide +kernel
theorem dX5_hereSet_21 : decode cX5_hereSet 21 = .ok (.iconst 1, 1) := by decide +kernel
theorem dX5_hereSet_22 : decode cX5_hereSet 22 = .ok (.iload_n 2, 1) := by decide +kernel
theorem dX5_hereSet_23 : decode cX5_hereSet 23 = .ok (.ishl, 1) := by decide +kernel
theorem dX5_hereSet_24 : decode cX5_hereSet 24 = .ok (.goto 4, 3) := by decide +kernel
theorem dX5_hereSet_27 : decode cX5_hereSet 27 = .ok (.iconst 0, 1) := by decide +kernel
theorem dX5_hereSet_28 : decode cX5_hereSet 28 = .ok (.ior, 1) := by decide +kernel
theorem dX5_hereSet_29 : decode cX5_hereSet 29 = .ok (.istore_n 1, 1) := by decide +kernel
theorem dX5_hereSet_30 : decode cX5_hereSet 30 = .ok (.iinc 2 1, 3) := by decide +kernel
theorem dX5_hereSet_33 : decode cX5_hereSet 33 = .ok (.goto (-29), 3) := by decide +kernel
theorem dX5_hereSet_36 : decode cX5_hereSet 36 = .ok (.iload_n 1, 1) := by decide +kernel
theorem dX5_hereSet_37 : decode cX5_hereSet 37 = .ok (.ireturn, 1) := by decide +kernel
theorem dX5_witAll_0 : decode cX5_witAll 0 = .ok (.iconst 0, 1) := by decide +kernel
theorem dX5_witAll_1 : decode cX5_witAll 1 = .ok (.istore_n 1, 1) := by decide +kernel
theorem dX5_witAll_2 : decode cX5_witAll 2 = .ok (.iconst 0, 1) := by decide +kernel
theorem dX5_witAll_3 : decode cX5_witAll 3 = .ok (.istore_n 2, 1) := by decide +kernel
theorem dX5_witAll_4 : decode cX5_witAll 4 = .ok (.iload_n 2, 1) := by decide +kernel
theorem dX5_witAll_5 : decode cX5_witAll 5 = .ok (.aload_n 0, 1) := by decide +kernel
theorem dX5_witAll_6 : decode cX5_witAll 6 = .ok (.getfield 75, 3) := by decide +kernel
theorem dX5_witAll_9 : decode cX5_witAll 9 = .ok (.if_icmp .ge 24, 3) := by decide +kernel
theorem dX5_witAll_12 : decode cX5_witAll 12 = .ok (.iload_n 1, 1) := by decide +kernel
theorem dX5_witAll_13 : decode cX5_witAll 13 = .ok (.aload_n 0, 1) := by decide +kernel
theorem dX5_witAll_14 : decode cX5_witAll 14 = .ok (.getfield 16, 3) := by decide +kernel
theorem dX5_witAll_17 : decode cX5_witAll 17 = .ok (.bipush 12, 2) := by decide +kernel
theorem dX5_witAll_19 : decode cX5_witAll 19 = .ok (.iload_n 2, 1) := by decide +kernel
theorem dX5_witAll_20 : decode cX5_witAll 20 = .ok (.imul, 1) := by decide +kernel
theorem dX5_witAll_21 : decode cX5_witAll 21 = .ok (.bipush 8, 2) := by decide +kernel
theorem dX5_witAll_23 : decode cX5_witAll 23 = .ok (.iadd, 1) := by decide +kernel
theorem dX5_witAll_24 : decode cX5_witAll 24 = .ok (.iaload, 1) := by decide +kernel
theorem dX5_witAll_25 : decode cX5_witAll 25 = .ok (.iadd, 1) := by decide +kernel
theorem dX5_witAll_26 : decode cX5_witAll 26 = .ok (.istore_n 1, 1) := by decide +kernel
theorem dX5_witAll_27 : decode cX5_witAll 27 = .ok (.iinc 2 1, 3) := by decide +kernel
theorem dX5_witAll_30 : decode cX5_witAll 30 = .ok (.goto (-26), 3) := by decide +kernel
theorem dX5_witAll_33 : decode cX5_witAll 33 = .ok (.iload_n 1, 1) := by decide +kernel
theorem dX5_witAll_34 : decode cX5_witAll 34 = .ok (.ireturn, 1) := by decide +kernel
theorem dX5_count_0 : decode cX5_count 0 = .ok (.iload_n 1, 1) := by decide +kernel
theorem dX5_count_1 : decode cX5_count 1 = .ok (.tableswitch 72 0 5 #[39, 44, 49, 57, 62, 67], 39) := by decide +kernel
theorem dX5_count_40 : decode cX5_count 40 = .ok (.aload_n 0, 1) := by decide +kernel
theorem dX5_count_41 : decode cX5_count 41 = .ok (.getfield 75, 3) := by decide +kernel
theorem dX5_count_44 : decode cX5_count 44 = .ok (.ireturn, 1) := by decide +kernel
theorem dX5_count_45 : decode cX5_count 45 = .ok (.aload_n 0, 1) := by decide +kernel
theorem dX5_count_46 : decode cX5_count 46 = .ok (.getfield 86, 3) := by decide +kernel
theorem dX5_count_49 : decode cX5_count 49 = .ok (.ireturn, 1) := by decide +kernel
theorem dX5_count_50 : decode cX5_count 50 = .ok (.aload_n 0, 1) := by decide +kernel
theorem dX5_count_51 : decode cX5_count 51 = .ok (.invokevirtual 89, 3) := by decide +kernel
theorem dX5_count_54 : decode cX5_count 54 = .ok (.invokestatic 92, 3) := by decide +kernel
theorem dX5_count_57 : decode cX5_count 57 = .ok (.ireturn, 1) := by decide +kernel
theorem dX5_count_58 : decode cX5_count 58 = .ok (.aload_n 0, 1) := by decide +kernel
theorem dX5_count_59 : decode cX5_count 59 = .ok (.getfield 96, 3) := by decide +kernel
theorem dX5_count_62 : decode cX5_count 62 = .ok (.ireturn, 1) := by decide +kernel
theorem dX5_count_63 : decode cX5_count 63 = .ok (.aload_n 0, 1) := by decide +kernel
theorem dX5_count_64 : decode cX5_count 64 = .ok (.getfield 99, 3) := by decide +kernel
theorem dX5_count_67 : decode cX5_count 67 = .ok (.ireturn, 1) := by decide +kernel
theorem dX5_count_68 : decode cX5_count 68 = .ok (.aload_n 0, 1) := by decide +kernel
theorem dX5_count_69 : decode cX5_count 69 = .ok (.getfield 67, 3) := by decide +kernel
theorem dX5_count_72 : decode cX5_count 72 = .ok (.ireturn, 1) := by decide +kernel
theorem dX5_count_73 : decode cX5_count 73 = .ok (.bipush (-2), 2) := by decide +kernel
theorem dX5_count_75 : decode cX5_count 75 = .ok (.ireturn, 1) := by decide +kernel
theorem dX5_clock_0 : decode cX5_clock 0 = .ok (.iload_n 1, 1) := by decide +kernel
theorem dX5_clock_1 : decode cX5_clock 1 = .ok (.iconst 0, 1) := by decide +kernel
theorem dX5_clock_2 : decode cX5_clock 2 = .ok (.sipush 999, 3) := by decide +kernel
theorem dX5_clock_5 : decode cX5_clock 5 = .ok (.invokestatic 78, 3) := by decide +kernel
theorem dX5_clock_8 : decode cX5_clock 8 = .ok (.ifCond .ne 6, 3) := by decide +kernel
theorem dX5_clock_11 : decode cX5_clock 11 = .ok (.bipush (-2), 2) := by decide +kernel
theorem dX5_clock_13 : decode cX5_clock 13 = .ok (.ireturn, 1) := by decide +kernel
theorem dX5_clock_14 : decode cX5_clock 14 = .ok (.aload_n 0, 1) := by decide +kernel
theorem dX5_clock_15 : decode cX5_clock 15 = .ok (.getfield 86, 3) := by decide +kernel
theorem dX5_clock_18 : decode cX5_clock 18 = .ok (.istore_n 2, 1) := by decide +kernel
theorem dX5_clock_19 : decode cX5_clock 19 = .ok (.aload_n 0, 1) := by decide +kernel
theorem dX5_clock_20 : decode cX5_clock 20 = .ok (.iload_n 1, 1) := by decide +kernel
theorem dX5_clock_21 : decode cX5_clock 21 = .ok (.putfield 86, 3) := by decide +kernel
theorem dX5_clock_24 : decode cX5_clock 24 = .ok (.iload_n 2, 1) := by decide +kernel
theorem dX5_clock_25 : decode cX5_clock 25 = .ok (.ireturn, 1) := by decide +kernel
theorem dX5_isByte_0 : decode cX5_isByte 0 = .ok (.iload_n 0, 1) := by decide +kernel
theorem dX5_isByte_1 : decode cX5_isByte 1 = .ok (.iconst 0, 1) := by decide +kernel
theorem dX5_isByte_2 : decode cX5_isByte 2 = .ok (.sipush 255, 3) := by decide +kernel
theorem dX5_isByte_5 : decode cX5_isByte 5 = .ok (.invokestatic 78, 3) := by decide +kernel
theorem dX5_isByte_8 : decode cX5_isByte 8 = .ok (.ireturn, 1) := by decide +kernel
theorem dX5_feed_0 : decode cX5_feed 0 = .ok (.iload_n 1, 1) := by decide +kernel
theorem dX5_feed_1 : decode cX5_feed 1 = .ok (.iconst 1, 1) := by decide +kernel
theorem dX5_feed_2 : decode cX5_feed 2 = .ok (.iconst 5, 1) := by decide +kernel
theorem dX5_feed_3 : decode cX5_feed 3 = .ok (.invokestatic 78, 3) := by decide +kernel
theorem dX5_feed_6 : decode cX5_feed 6 = .ok (.ifCond .eq 41, 3) := by decide +kernel
theorem dX5_feed_9 : decode cX5_feed 9 = .ok (.iload_n 2, 1) := by decide +kernel
theorem dX5_feed_10 : decode cX5_feed 10 = .ok (.invokestatic 102, 3) := by decide +kernel
theorem dX5_feed_13 : decode cX5_feed 13 = .ok (.ifCond .eq 34, 3) := by decide +kernel
theorem dX5_feed_16 : decode cX5_feed 16 = .ok (.iload_n 3, 1) := by decide +kernel
theorem dX5_feed_17 : decode cX5_feed 17 = .ok (.invokestatic 102, 3) := by decide +kernel
theorem dX5_feed_20 : decode cX5_feed 20 = .ok (.ifCond .eq 27, 3) := by decide +kernel
theorem dX5_feed_23 : decode cX5_feed 23 = .ok (.iload 4, 2) := by decide +kernel
theorem dX5_feed_25 : decode cX5_feed 25 = .ok (.invokestatic 102, 3) := by decide +kernel
theorem dX5_feed_28 : decode cX5_feed 28 = .ok (.ifCond .eq 19, 3) := by decide +kernel
theorem dX5_feed_31 : decode cX5_feed 31 = .ok (.iload 5, 2) := by decide +kernel
theorem dX5_feed_33 : decode cX5_feed 33 = .ok (.invokestatic 102, 3) := by decide +kernel
theorem dX5_feed_36 : decode cX5_feed 36 = .ok (.ifCond .eq 11, 3) := by decide +kernel
theorem dX5_feed_39 : decode cX5_feed 39 = .ok (.iload 6, 2) := by decide +kernel
theorem dX5_feed_41 : decode cX5_feed 41 = .ok (.invokestatic 102, 3) := by decide +kernel
theorem dX5_feed_44 : decode cX5_feed 44 = .ok (.ifCond .ne 6, 3) := by decide +kernel
theorem dX5_feed_47 : decode cX5_feed 47 = .ok (.bipush (-2), 2) := by decide +kernel
theorem dX5_feed_49 : decode cX5_feed 49 = .ok (.ireturn, 1) := by decide +kernel
theorem dX5_feed_50 : decode cX5_feed 50 = .ok (.aload_n 0, 1) := by decide +kernel
theorem dX5_feed_51 : decode cX5_feed 51 = .ok (.getfield 67, 3) := by decide +kernel
theorem dX5_feed_54 : decode cX5_feed 54 = .ok (.iload_n 1, 1) := by decide +kernel
theorem dX5_feed_55 : decode cX5_feed 55 = .ok (.iadd, 1) := by decide +kernel
theorem dX5_feed_56 : decode cX5_feed 56 = .ok (.sipush 160, 3) := by decide +kernel
theorem dX5_feed_59 : decode cX5_feed 59 = .ok (.if_icmp .le 6, 3) := by decide +kernel
theorem dX5_feed_62 : decode cX5_feed 62 = .ok (.bipush (-4), 2) := by decide +kernel
theorem dX5_feed_64 : decode cX5_feed 64 = .ok (.ireturn, 1) := by decide +kernel
theorem dX5_feed_65 : decode cX5_feed 65 = .ok (.iconst 0, 1) := by decide +kernel
theorem dX5_feed_66 : decode cX5_feed 66 = .ok (.istore 7, 2) := by decide +kernel
theorem dX5_feed_68 : decode cX5_feed 68 = .ok (.iload 7, 2) := by decide +kernel
theorem dX5_feed_70 : decode cX5_feed 70 = .ok (.iload_n 1, 1) := by decide +kernel
theorem dX5_feed_71 : decode cX5_feed 71 = .ok (.if_icmp .ge 71, 3) := by decide +kernel
theorem dX5_feed_74 : decode cX5_feed 74 = .ok (.aload_n 0, 1) := by decide +kernel
theorem dX5_feed_75 : decode cX5_feed 75 = .ok (.getfield 19, 3) := by decide +kernel
theorem dX5_feed_78 : decode cX5_feed 78 = .ok (.aload_n 0, 1) := by decide +kernel
theorem dX5_feed_79 : decode cX5_feed 79 = .ok (.getfield 67, 3) := by decide +kernel
theorem dX5_feed_82 : decode cX5_feed 82 = .ok (.iload 7, 2) := by decide +kernel
theorem dX5_feed_84 : decode cX5_feed 84 = .ok (.ifCond .ne 7, 3) := by decide +kernel
theorem dX5_feed_87 : decode cX5_feed 87 = .ok (.iload_n 2, 1) := by decide +kernel
theorem dX5_feed_88 : decode cX5_feed 88 = .ok (.goto 37, 3) := by decide +kernel
theorem dX5_feed_91 : decode cX5_feed 91 = .ok (.iload 7, 2) := by decide +kernel
theorem dX5_feed_93 : decode cX5_feed 93 = .ok (.iconst 1, 1) := by decide +kernel
theorem dX5_feed_94 : decode cX5_feed 94 = .ok (.if_icmp .ne 7, 3) := by decide +kernel
theorem dX5_feed_97 : decode cX5_feed 97 = .ok (.iload_n 3, 1) := by decide +kernel
theorem dX5_feed_98 : decode cX5_feed 98 = .ok (.goto 27, 3) := by decide +kernel
theorem dX5_feed_101 : decode cX5_feed 101 = .ok (.iload 7, 2) := by decide +kernel
theorem dX5_feed_103 : decode cX5_feed 103 = .ok (.iconst 2, 1) := by decide +kernel
theorem dX5_feed_104 : decode cX5_feed 104 = .ok (.if_icmp .ne 8, 3) := by decide +kernel
theorem dX5_feed_107 : decode cX5_feed 107 = .ok (.iload 4, 2) := by decide +kernel
theorem dX5_feed_109 : decode cX5_feed 109 = .ok (.goto 16, 3) := by decide +kernel
theorem dX5_feed_112 : decode cX5_feed 112 = .ok (.iload 7, 2) := by decide +kernel
theorem dX5_feed_114 : decode cX5_feed 114 = .ok (.iconst 3, 1) := by decide +kernel
theorem dX5_feed_115 : decode cX5_feed 115 = .ok (.if_icmp .ne 8, 3) := by decide +kernel
theorem dX5_feed_118 : decode cX5_feed 118 = .ok (.iload 5, 2) := by decide +kernel
theorem dX5_feed_120 : decode cX5_feed 120 = .ok (.goto 5, 3) := by decide +kernel
theorem dX5_feed_123 : decode cX5_feed 123 = .ok (.iload 6, 2) := by decide +kernel
theorem dX5_feed_125 : decode cX5_feed 125 = .ok (.iastore, 1) := by decide +kernel
theorem dX5_feed_126 : decode cX5_feed 126 = .ok (.aload_n 0, 1) := by decide +kernel
theorem dX5_feed_127 : decode cX5_feed 127 = .ok (.dup, 1) := by decide +kernel
theorem dX5_feed_128 : decode cX5_feed 128 = .ok (.getfield 67, 3) := by decide +kernel
theorem dX5_feed_131 : decode cX5_feed 131 = .ok (.iconst 1, 1) := by decide +kernel
theorem dX5_feed_132 : decode cX5_feed 132 = .ok (.iadd, 1) := by decide +kernel
theorem dX5_feed_133 : decode cX5_feed 133 = .ok (.putfield 67, 3) := by decide +kernel
theorem dX5_feed_136 : decode cX5_feed 136 = .ok (.iinc 7 1, 3) := by decide +kernel
theorem dX5_feed_139 : decode cX5_feed 139 = .ok (.goto (-71), 3) := by decide +kernel
theorem dX5_feed_142 : decode cX5_feed 142 = .ok (.aload_n 0, 1) := by decide +kernel
theorem dX5_feed_143 : decode cX5_feed 143 = .ok (.getfield 67, 3) := by decide +kernel
theorem dX5_feed_146 : decode cX5_feed 146 = .ok (.ireturn, 1) := by decide +kernel
theorem dX5_wordFrom_0 : decode cX5_wordFrom 0 = .ok (.iconst 0, 1) := by decide +kernel
theorem dX5_wordFrom_1 : decode cX5_wordFrom 1 = .ok (.istore_n 3, 1) := by decide +kernel
theorem dX5_wordFrom_2 : decode cX5_wordFrom 2 = .ok (.iload_n 3, 1) := by decide +kernel
theorem dX5_wordFrom_3 : decode cX5_wordFrom 3 = .ok (.bipush 12, 2) := by decide +kernel
theorem dX5_wordFrom_5 : decode cX5_wordFrom 5 = .ok (.if_icmp .ge 96, 3) := by decide +kernel
theorem dX5_wordFrom_8 : decode cX5_wordFrom 8 = .ok (.iload_n 2, 1) := by decide +kernel
theorem dX5_wordFrom_9 : decode cX5_wordFrom 9 = .ok (.iload_n 1, 1) := by decide +kernel
theorem dX5_wordFrom_10 : decode cX5_wordFrom 10 = .ok (.isub, 1) := by decide +kernel
theorem dX5_wordFrom_11 : decode cX5_wordFrom 11 = .ok (.bipush 8, 2) := by decide +kernel
theorem dX5_wordFrom_13 : decode cX5_wordFrom 13 = .ok (.if_icmp .gt 7, 3) := by decide +kernel
theorem dX5_wordFrom_16 : decode cX5_wordFrom 16 = .ok (.iconst 1, 1) := by decide +kernel
theorem dX5_wordFrom_17 : decode cX5_wordFrom 17 = .ok (.goto 4, 3) := by decide +kernel
theorem dX5_wordFrom_20 : decode cX5_wordFrom 20 = .ok (.iconst 0, 1) := by decide +kernel
theorem dX5_wordFrom_21 : decode cX5_wordFrom 21 = .ok (.istore 4, 2) := by decide +kernel
theorem dX5_wordFrom_23 : decode cX5_wordFrom 23 = .ok (.iconst 0, 1) := by decide +kernel
theorem dX5_wordFrom_24 : decode cX5_wordFrom 24 = .ok (.istore 5, 2) := by decide +kernel
theorem dX5_wordFrom_26 : decode cX5_wordFrom 26 = .ok (.iload 5, 2) := by decide +kernel
theorem dX5_wordFrom_28 : decode cX5_wordFrom 28 = .ok (.bipush 8, 2) := by decide +kernel
theorem dX5_wordFrom_30 : decode cX5_wordFrom 30 = .ok (.if_icmp .ge 58, 3) := by decide +kernel
theorem dX5_wordFrom_33 : decode cX5_wordFrom 33 = .ok (.iload 4, 2) := by decide +kernel
theorem dX5_wordFrom_35 : decode cX5_wordFrom 35 = .ok (.ifCond .eq 53, 3) := by decide +kernel
theorem dX5_wordFrom_38 : decode cX5_wordFrom 38 = .ok (.aload_n 0, 1) := by decide +kernel
theorem dX5_wordFrom_39 : decode cX5_wordFrom 39 = .ok (.getfield 46, 3) := by decide +kernel
theorem dX5_wordFrom_42 : decode cX5_wordFrom 42 = .ok (.bipush 8, 2) := by decide +kernel
theorem dX5_wordFrom_44 : decode cX5_wordFrom 44 = .ok (.iload_n 3, 1) := by decide +kernel
theorem dX5_wordFrom_45 : decode cX5_wordFrom 45 = .ok (.imul, 1) := by decide +kernel
theorem dX5_wordFrom_46 : decode cX5_wordFrom 46 = .ok (.iload 5, 2) := by decide +kernel
theorem dX5_wordFrom_48 : decode cX5_wordFrom 48 = .ok (.iadd, 1) := by decide +kernel
theorem dX5_wordFrom_49 : decode cX5_wordFrom 49 = .ok (.iaload, 1) := by decide +kernel
theorem dX5_wordFrom_50 : decode cX5_wordFrom 50 = .ok (.iload_n 1, 1) := by decide +kernel
theorem dX5_wordFrom_51 : decode cX5_wordFrom 51 = .ok (.iload 5, 2) := by decide +kernel
theorem dX5_wordFrom_53 : decode cX5_wordFrom 53 = .ok (.iadd, 1) := by decide +kernel
theorem dX5_wordFrom_54 : decode cX5_wordFrom 54 = .ok (.iload_n 2, 1) := by decide +kernel
theorem dX5_wordFrom_55 : decode cX5_wordFrom 55 = .ok (.if_icmp .ge 15, 3) := by decide +kernel
theorem dX5_wordFrom_58 : decode cX5_wordFrom 58 = .ok (.aload_n 0, 1) := by decide +kernel
theorem dX5_wordFrom_59 : decode cX5_wordFrom 59 = .ok (.getfield 19, 3) := by decide +kernel
theorem dX5_wordFrom_62 : decode cX5_wordFrom 62 = .ok (.iload_n 1, 1) := by decide +kernel
theorem dX5_wordFrom_63 : decode cX5_wordFrom 63 = .ok (.iload 5, 2) := by decide +kernel
theorem dX5_wordFrom_65 : decode cX5_wordFrom 65 = .ok (.iadd, 1) := by decide +kernel
theorem dX5_wordFrom_66 : decode cX5_wordFrom 66 = .ok (.iaload, 1) := by decide +kernel
theorem dX5_wordFrom_67 : decode cX5_wordFrom 67 = .ok (.goto 5, 3) := by decide +kernel
theorem dX5_wordFrom_70 : decode cX5_wordFrom 70 = .ok (.bipush 32, 2) := by decide +kernel
theorem dX5_wordFrom_72 : decode cX5_wordFrom 72 = .ok (.if_icmp .ne 7, 3) := by decide +kernel
theorem dX5_wordFrom_75 : decode cX5_wordFrom 75 = .ok (.iconst 1, 1) := by decide +kernel
theorem dX5_wordFrom_76 : decode cX5_wordFrom 76 = .ok (.goto 4, 3) := by decide +kernel
theorem dX5_wordFrom_79 : decode cX5_wordFrom 79 = .ok (.iconst 0, 1) := by decide +kernel
theorem dX5_wordFrom_80 : decode cX5_wordFrom 80 = .ok (.istore 4, 2) := by decide +kernel
theorem dX5_wordFrom_82 : decode cX5_wordFrom 82 = .ok (.iinc 5 1, 3) := by decide +kernel
theorem dX5_wordFrom_85 : decode cX5_wordFrom 85 = .ok (.goto (-59), 3) := by decide +kernel
theorem dX5_wordFrom_88 : decode cX5_wordFrom 88 = .ok (.iload 4, 2) := by decide +kernel
theorem dX5_wordFrom_90 : decode cX5_wordFrom 90 = .ok (.ifCond .eq 5, 3) := by decide +kernel
theorem dX5_wordFrom_93 : decode cX5_wordFrom 93 = .ok (.iload_n 3, 1) := by decide +kernel
theorem dX5_wordFrom_94 : decode cX5_wordFrom 94 = .ok (.ireturn, 1) := by decide +kernel
theorem dX5_wordFrom_95 : decode cX5_wordFrom 95 = .ok (.iinc 3 1, 3) := by decide +kernel
theorem dX5_wordFrom_98 : decode cX5_wordFrom 98 = .ok (.goto (-96), 3) := by decide +kernel
theorem dX5_wordFrom_101 : decode cX5_wordFrom 101 = .ok (.bipush 12, 2) := by decide +kernel
theorem dX5_wordFrom_103 : decode cX5_wordFrom 103 = .ok (.ireturn, 1) := by decide +kernel
theorem dX5_next_0 : decode cX5_next 0 = .ok (.aload_n 0, 1) := by decide +kernel
theorem dX5_next_1 : decode cX5_next 1 = .ok (.getfield 105, 3) := by decide +kernel
theorem dX5_next_4 : decode cX5_next 4 = .ok (.aload_n 0, 1) := by decide +kernel
theorem dX5_next_5 : decode cX5_next 5 = .ok (.getfield 67, 3) := by decide +kernel
theorem dX5_next_8 : decode cX5_next 8 = .ok (.if_icmp .ge 44, 3) := by decide +kernel
theorem dX5_next_11 : decode cX5_next 11 = .ok (.aload_n 0, 1) := by decide +kernel
theorem dX5_next_12 : decode cX5_next 12 = .ok (.getfield 19, 3) := by decide +kernel
theorem dX5_next_15 : decode cX5_next 15 = .ok (.aload_n 0, 1) := by decide +kernel
theorem dX5_next_16 : decode cX5_next 16 = .ok (.getfield 105, 3) := by decide +kernel
theorem dX5_next_19 : decode cX5_next 19 = .ok (.iaload, 1) := by decide +kernel
theorem dX5_next_20 : decode cX5_next 20 = .ok (.bipush 32, 2) := by decide +kernel
theorem dX5_next_22 : decode cX5_next 22 = .ok (.if_icmp .eq 17, 3) := by decide +kernel
theorem dX5_next_25 : decode cX5_next 25 = .ok (.aload_n 0, 1) := by decide +kernel
theorem dX5_next_26 : decode cX5_next 26 = .ok (.getfield 19, 3) := by decide +kernel
theorem dX5_next_29 : decode cX5_next 29 = .ok (.aload_n 0, 1) := by decide +kernel
theorem dX5_next_30 : decode cX5_next 30 = .ok (.getfield 105, 3) := by decide +kernel
theorem dX5_next_33 : decode cX5_next 33 = .ok (.iaload, 1) := by decide +kernel
theorem dX5_next_34 : decode cX5_next 34 = .ok (.bipush 10, 2) := by decide +kernel
theorem dX5_next_36 : decode cX5_next 36 = .ok (.if_icmp .ne 16, 3) := by decide +kernel
theorem dX5_next_39 : decode cX5_next 39 = .ok (.aload_n 0, 1) := by decide +kernel
theorem dX5_next_40 : decode cX5_next 40 = .ok (.dup, 1) := by decide +kernel
theorem dX5_next_41 : decode cX5_next 41 = .ok (.getfield 105, 3) := by decide +kernel
theorem dX5_next_44 : decode cX5_next 44 = .ok (.iconst 1, 1) := by decide +kernel
theorem dX5_next_45 : decode cX5_next 45 = .ok (.iadd, 1) := by decide +kernel
theorem dX5_next_46 : decode cX5_next 46 = .ok (.putfield 105, 3) := by decide +kernel
theorem dX5_next_49 : decode cX5_next 49 = .ok (.goto (-49), 3) := by decide +kernel
theorem dX5_next_52 : decode cX5_next 52 = .ok (.aload_n 0, 1) := by decide +kernel
theorem dX5_next_53 : decode cX5_next 53 = .ok (.aload_n 0, 1) := by decide +kernel
theorem dX5_next_54 : decode cX5_next 54 = .ok (.getfield 105, 3) := by decide +kernel
theorem dX5_next_57 : decode cX5_next 57 = .ok (.putfield 108, 3) := by decide +kernel
theorem dX5_next_60 : decode cX5_next 60 = .ok (.aload_n 0, 1) := by decide +kernel
theorem dX5_next_61 : decode cX5_next 61 = .ok (.iconst 0, 1) := by decide +kernel
theorem dX5_next_62 : decode cX5_next 62 = .ok (.putfield 111, 3) := by decide +kernel
theorem dX5_next_65 : decode cX5_next 65 = .ok (.aload_n 0, 1) := by decide +kernel
theorem dX5_next_66 : decode cX5_next 66 = .ok (.iconst 0, 1) := by decide +kernel
theorem dX5_next_67 : decode cX5_next 67 = .ok (.putfield 114, 3) := by decide +kernel
theorem dX5_next_70 : decode cX5_next 70 = .ok (.aload_n 0, 1) := by decide +kernel
theorem dX5_next_71 : decode cX5_next 71 = .ok (.getfield 105, 3) := by decide +kernel
theorem dX5_next_74 : decode cX5_next 74 = .ok (.aload_n 0, 1) := by decide +kernel
theorem dX5_next_75 : decode cX5_next 75 = .ok (.getfield 67, 3) := by decide +kernel
theorem dX5_next_78 : decode cX5_next 78 = .ok (.if_icmp .ne 4, 3) := by decide +kernel
theorem dX5_next_81 : decode cX5_next 81 = .ok (.return_, 1) := by decide +kernel
theorem dX5_next_82 : decode cX5_next 82 = .ok (.aload_n 0, 1) := by decide +kernel
theorem dX5_next_83 : decode cX5_next 83 = .ok (.getfield 19, 3) := by decide +kernel
theorem dX5_next_86 : decode cX5_next 86 = .ok (.aload_n 0, 1) := by decide +kernel
theorem dX5_next_87 : decode cX5_next 87 = .ok (.getfield 105, 3) := by decide +kernel
theorem dX5_next_90 : decode cX5_next 90 = .ok (.iaload, 1) := by decide +kernel
theorem dX5_next_91 : decode cX5_next 91 = .ok (.istore_n 1, 1) := by decide +kernel
theorem dX5_next_92 : decode cX5_next 92 = .ok (.iload_n 1, 1) := by decide +kernel
theorem dX5_next_93 : decode cX5_next 93 = .ok (.bipush 97, 2) := by decide +kernel
theorem dX5_next_95 : decode cX5_next 95 = .ok (.bipush 122, 2) := by decide +kernel
theorem dX5_next_97 : decode cX5_next 97 = .ok (.invokestatic 78, 3) := by decide +kernel
theorem dX5_next_100 : decode cX5_next 100 = .ok (.ifCond .eq 117, 3) := by decide +kernel
theorem dX5_next_103 : decode cX5_next 103 = .ok (.aload_n 0, 1) := by decide +kernel
theorem dX5_next_104 : decode cX5_next 104 = .ok (.getfield 105, 3) := by decide +kernel
theorem dX5_next_107 : decode cX5_next 107 = .ok (.aload_n 0, 1) := by decide +kernel
theorem dX5_next_108 : decode cX5_next 108 = .ok (.getfield 67, 3) := by decide +kernel
theorem dX5_next_111 : decode cX5_next 111 = .ok (.if_icmp .ge 35, 3) := by decide +kernel
theorem dX5_next_114 : decode cX5_next 114 = .ok (.aload_n 0, 1) := by decide +kernel
theorem dX5_next_115 : decode cX5_next 115 = .ok (.getfield 19, 3) := by decide +kernel
theorem dX5_next_118 : decode cX5_next 118 = .ok (.aload_n 0, 1) := by decide +kernel
theorem dX5_next_119 : decode cX5_next 119 = .ok (.getfield 105, 3) := by decide +kernel
theorem dX5_next_122 : decode cX5_next 122 = .ok (.iaload, 1) := by decide +kernel
theorem dX5_next_123 : decode cX5_next 123 = .ok (.bipush 97, 2) := by decide +kernel
theorem dX5_next_125 : decode cX5_next 125 = .ok (.bipush 122, 2) := by decide +kernel
theorem dX5_next_127 : decode cX5_next 127 = .ok (.invokestatic 78, 3) := by decide +kernel
theorem dX5_next_130 : decode cX5_next 130 = .ok (.ifCond .eq 16, 3) := by decide +kernel
theorem dX5_next_133 : decode cX5_next 133 = .ok (.aload_n 0, 1) := by decide +kernel
theorem dX5_next_134 : decode cX5_next 134 = .ok (.dup, 1) := by decide +kernel
theorem dX5_next_135 : decode cX5_next 135 = .ok (.getfield 105, 3) := by decide +kernel
theorem dX5_next_138 : decode cX5_next 138 = .ok (.iconst 1, 1) := by decide +kernel
theorem dX5_next_139 : decode cX5_next 139 = .ok (.iadd, 1) := by decide +kernel
theorem dX5_next_140 : decode cX5_next 140 = .ok (.putfield 105, 3) := by decide +kernel
theorem dX5_next_143 : decode cX5_next 143 = .ok (.goto (-40), 3) := by decide +kernel
theorem dX5_next_146 : decode cX5_next 146 = .ok (.aload_n 0, 1) := by decide +kernel
theorem dX5_next_147 : decode cX5_next 147 = .ok (.aload_n 0, 1) := by decide +kernel
theorem dX5_next_148 : decode cX5_next 148 = .ok (.getfield 108, 3) := by decide +kernel
theorem dX5_next_151 : decode cX5_next 151 = .ok (.aload_n 0, 1) := by decide +kernel
theorem dX5_next_152 : decode cX5_next 152 = .ok (.getfield 105, 3) := by decide +kernel
theorem dX5_next_155 : decode cX5_next 155 = .ok (.invokevirtual 117, 3) := by decide +kernel
theorem dX5_next_158 : decode cX5_next 158 = .ok (.istore_n 2, 1) := by decide +kernel
theorem dX5_next_159 : decode cX5_next 159 = .ok (.aload_n 0, 1) := by decide +kernel
theorem dX5_next_160 : decode cX5_next 160 = .ok (.iload_n 2, 1) := by decide +kernel
theorem dX5_next_161 : decode cX5_next 161 = .ok (.iconst 3, 1) := by decide +kernel
theorem dX5_next_162 : decode cX5_next 162 = .ok (.if_icmp .ge 7, 3) := by decide +kernel
theorem dX5_next_165 : decode cX5_next 165 = .ok (.iconst 3, 1) := by decide +kernel
theorem dX5_next_166 : decode cX5_next 166 = .ok (.goto 29, 3) := by decide +kernel
theorem dX5_next_169 : decode cX5_next 169 = .ok (.iload_n 2, 1) := by decide +kernel
theorem dX5_next_170 : decode cX5_next 170 = .ok (.bipush 9, 2) := by decide +kernel
theorem dX5_next_172 : decode cX5_next 172 = .ok (.if_icmp .ge 7, 3) := by decide +kernel
theorem dX5_next_175 : decode cX5_next 175 = .ok (.iconst 2, 1) := by decide +kernel
theorem dX5_next_176 : decode cX5_next 176 = .ok (.goto 19, 3) := by decide +kernel
theorem dX5_next_179 : decode cX5_next 179 = .ok (.iload_n 2, 1) := by decide +kernel
theorem dX5_next_180 : decode cX5_next 180 = .ok (.bipush 12, 2) := by decide +kernel
theorem dX5_next_182 : decode cX5_next 182 = .ok (.if_icmp .ne 7, 3) := by decide +kernel
theorem dX5_next_185 : decode cX5_next 185 = .ok (.iconst (-1), 1) := by decide +kernel
theorem dX5_next_186 : decode cX5_next 186 = .ok (.goto 9, 3) := by decide +kernel
theorem dX5_next_189 : decode cX5_next 189 = .ok (.iconst 4, 1) := by decide +kernel
theorem dX5_next_190 : decode cX5_next 190 = .ok (.iload_n 2, 1) := by decide +kernel
theorem dX5_next_191 : decode cX5_next 191 = .ok (.iadd, 1) := by decide +kernel
theorem dX5_next_192 : decode cX5_next 192 = .ok (.bipush 9, 2) := by decide +kernel
theorem dX5_next_194 : decode cX5_next 194 = .ok (.isub, 1) := by decide +kernel
theorem dX5_next_195 : decode cX5_next 195 = .ok (.putfield 111, 3) := by decide +kernel
theorem dX5_next_198 : decode cX5_next 198 = .ok (.aload_n 0, 1) := by decide +kernel
theorem dX5_next_199 : decode cX5_next 199 = .ok (.iload_n 2, 1) := by decide +kernel
theorem dX5_next_200 : decode cX5_next 200 = .ok (.iconst 3, 1) := by decide +kernel
theorem dX5_next_201 : decode cX5_next 201 = .ok (.if_icmp .ge 7, 3) := by decide +kernel
theorem dX5_next_204 : decode cX5_next 204 = .ok (.iload_n 2, 1) := by decide +kernel
theorem dX5_next_205 : decode cX5_next 205 = .ok (.goto 6, 3) := by decide +kernel
theorem dX5_next_208 : decode cX5_next 208 = .ok (.iload_n 2, 1) := by decide +kernel
theorem dX5_next_209 : decode cX5_next 209 = .ok (.iconst 3, 1) := by decide +kernel
theorem dX5_next_210 : decode cX5_next 210 = .ok (.isub, 1) := by decide +kernel
theorem dX5_next_211 : decode cX5_next 211 = .ok (.putfield 114, 3) := by decide +kernel
theorem dX5_next_214 : decode cX5_next 214 = .ok (.goto 189, 3) := by decide +kernel
theorem dX5_next_217 : decode cX5_next 217 = .ok (.iload_n 1, 1) := by decide +kernel
theorem dX5_next_218 : decode cX5_next 218 = .ok (.bipush 48, 2) := by decide +kernel
theorem dX5_next_220 : decode cX5_next 220 = .ok (.bipush 57, 2) := by decide +kernel
theorem dX5_next_222 : decode cX5_next 222 = .ok (.invokestatic 78, 3) := by decide +kernel
theorem dX5_next_225 : decode cX5_next 225 = .ok (.ifCond .eq 101, 3) := by decide +kernel
theorem dX5_next_228 : decode cX5_next 228 = .ok (.iconst 0, 1) := by decide +kernel
theorem dX5_next_229 : decode cX5_next 229 = .ok (.istore_n 2, 1) := by decide +kernel
theorem dX5_next_230 : decode cX5_next 230 = .ok (.aload_n 0, 1) := by decide +kernel
theorem dX5_next_231 : decode cX5_next 231 = .ok (.getfield 105, 3) := by decide +kernel
theorem dX5_next_234 : decode cX5_next 234 = .ok (.aload_n 0, 1) := by decide +kernel
theorem dX5_next_235 : decode cX5_next 235 = .ok (.getfield 67, 3) := by decide +kernel
theorem dX5_next_238 : decode cX5_next 238 = .ok (.if_icmp .ge 71, 3) := by decide +kernel
theorem dX5_next_241 : decode cX5_next 241 = .ok (.aload_n 0, 1) := by decide +kernel
theorem dX5_next_242 : decode cX5_next 242 = .ok (.getfield 19, 3) := by decide +kernel
theorem dX5_next_245 : decode cX5_next 245 = .ok (.aload_n 0, 1) := by decide +kernel
theorem dX5_next_246 : decode cX5_next 246 = .ok (.getfield 105, 3) := by decide +kernel
theorem dX5_next_249 : decode cX5_next 249 = .ok (.iaload, 1) := by decide +kernel
theorem dX5_next_250 : decode cX5_next 250 = .ok (.bipush 48, 2) := by decide +kernel
theorem dX5_next_252 : decode cX5_next 252 = .ok (.bipush 57, 2) := by decide +kernel
theorem dX5_next_254 : decode cX5_next 254 = .ok (.invokestatic 78, 3) := by decide +kernel
theorem dX5_next_257 : decode cX5_next 257 = .ok (.ifCond .eq 52, 3) := by decide +kernel
theorem dX5_next_260 : decode cX5_next 260 = .ok (.aload_n 0, 1) := by decide +kernel
theorem dX5_next_261 : decode cX5_next 261 = .ok (.iload_n 2, 1) := by decide +kernel
theorem dX5_next_262 : decode cX5_next 262 = .ok (.iconst 4, 1) := by decide +kernel
theorem dX5_next_263 : decode cX5_next 263 = .ok (.if_icmp .ge 26, 3) := by decide +kernel
theorem dX5_next_266 : decode cX5_next 266 = .ok (.bipush 10, 2) := by decide +kernel
theorem dX5_next_268 : decode cX5_next 268 = .ok (.aload_n 0, 1) := by decide +kernel
theorem dX5_next_269 : decode cX5_next 269 = .ok (.getfield 114, 3) := by decide +kernel
theorem dX5_next_272 : decode cX5_next 272 = .ok (.imul, 1) := by decide +kernel
theorem dX5_next_273 : decode cX5_next 273 = .ok (.aload_n 0, 1) := by decide +kernel
theorem dX5_next_274 : decode cX5_next 274 = .ok (.getfield 19, 3) := by decide +kernel
theorem dX5_next_277 : decode cX5_next 277 = .ok (.aload_n 0, 1) := by decide +kernel
theorem dX5_next_278 : decode cX5_next 278 = .ok (.getfield 105, 3) := by decide +kernel
theorem dX5_next_281 : decode cX5_next 281 = .ok (.iaload, 1) := by decide +kernel
theorem dX5_next_282 : decode cX5_next 282 = .ok (.iadd, 1) := by decide +kernel
theorem dX5_next_283 : decode cX5_next 283 = .ok (.bipush 48, 2) := by decide +kernel
theorem dX5_next_285 : decode cX5_next 285 = .ok (.isub, 1) := by decide +kernel
theorem dX5_next_286 : decode cX5_next 286 = .ok (.goto 4, 3) := by decide +kernel
theorem dX5_next_289 : decode cX5_next 289 = .ok (.iconst 0, 1) := by decide +kernel
theorem dX5_next_290 : decode cX5_next 290 = .ok (.putfield 114, 3) := by decide +kernel
theorem dX5_next_293 : decode cX5_next 293 = .ok (.iinc 2 1, 3) := by decide +kernel
theorem dX5_next_296 : decode cX5_next 296 = .ok (.aload_n 0, 1) := by decide +kernel
theorem dX5_next_297 : decode cX5_next 297 = .ok (.dup, 1) := by decide +kernel
theorem dX5_next_298 : decode cX5_next 298 = .ok (.getfield 105, 3) := by decide +kernel
theorem dX5_next_301 : decode cX5_next 301 = .ok (.iconst 1, 1) := by decide +kernel
theorem dX5_next_302 : decode cX5_next 302 = .ok (.iadd, 1) := by decide +kernel
theorem dX5_next_303 : decode cX5_next 303 = .ok (.putfield 105, 3) := by decide +kernel
theorem dX5_next_306 : decode cX5_next 306 = .ok (.goto (-76), 3) := by decide +kernel
theorem dX5_next_309 : decode cX5_next 309 = .ok (.aload_n 0, 1) := by decide +kernel
theorem dX5_next_310 : decode cX5_next 310 = .ok (.iload_n 2, 1) := by decide +kernel
theorem dX5_next_311 : decode cX5_next 311 = .ok (.iconst 4, 1) := by decide +kernel
theorem dX5_next_312 : decode cX5_next 312 = .ok (.if_icmp .le 7, 3) := by decide +kernel
theorem dX5_next_315 : decode cX5_next 315 = .ok (.iconst (-1), 1) := by decide +kernel
theorem dX5_next_316 : decode cX5_next 316 = .ok (.goto 4, 3) := by decide +kernel
theorem dX5_next_319 : decode cX5_next 319 = .ok (.iconst 1, 1) := by decide +kernel
theorem dX5_next_320 : decode cX5_next 320 = .ok (.putfield 111, 3) := by decide +kernel
theorem dX5_next_323 : decode cX5_next 323 = .ok (.goto 80, 3) := by decide +kernel
theorem dX5_next_326 : decode cX5_next 326 = .ok (.iload_n 1, 1) := by decide +kernel
theorem dX5_next_327 : decode cX5_next 327 = .ok (.bipush 40, 2) := by decide +kernel
theorem dX5_next_329 : decode cX5_next 329 = .ok (.if_icmp .eq 45, 3) := by decide +kernel
theorem dX5_next_332 : decode cX5_next 332 = .ok (.iload_n 1, 1) := by decide +kernel
theorem dX5_next_333 : decode cX5_next 333 = .ok (.bipush 41, 2) := by decide +kernel
theorem dX5_next_335 : decode cX5_next 335 = .ok (.if_icmp .eq 39, 3) := by decide +kernel
theorem dX5_next_338 : decode cX5_next 338 = .ok (.iload_n 1, 1) := by decide +kernel
theorem dX5_next_339 : decode cX5_next 339 = .ok (.bipush 59, 2) := by decide +kernel
theorem dX5_next_341 : decode cX5_next 341 = .ok (.if_icmp .eq 33, 3) := by decide +kernel
theorem dX5_next_344 : decode cX5_next 344 = .ok (.iload_n 1, 1) := by decide +kernel
theorem dX5_next_345 : decode cX5_next 345 = .ok (.bipush 43, 2) := by decide +kernel
theorem dX5_next_347 : decode cX5_next 347 = .ok (.if_icmp .eq 27, 3) := by decide +kernel
theorem dX5_next_350 : decode cX5_next 350 = .ok (.iload_n 1, 1) := by decide +kernel
theorem dX5_next_351 : decode cX5_next 351 = .ok (.bipush 45, 2) := by decide +kernel
theorem dX5_next_353 : decode cX5_next 353 = .ok (.if_icmp .eq 21, 3) := by decide +kernel
theorem dX5_next_356 : decode cX5_next 356 = .ok (.iload_n 1, 1) := by decide +kernel
theorem dX5_next_357 : decode cX5_next 357 = .ok (.bipush 42, 2) := by decide +kernel
theorem dX5_next_359 : decode cX5_next 359 = .ok (.if_icmp .eq 15, 3) := by decide +kernel
theorem dX5_next_362 : decode cX5_next 362 = .ok (.iload_n 1, 1) := by decide +kernel
theorem dX5_next_363 : decode cX5_next 363 = .ok (.bipush 60, 2) := by decide +kernel
theorem dX5_next_365 : decode cX5_next 365 = .ok (.if_icmp .eq 9, 3) := by decide +kernel
theorem dX5_next_368 : decode cX5_next 368 = .ok (.iload_n 1, 1) := by decide +kernel
theorem dX5_next_369 : decode cX5_next 369 = .ok (.bipush 61, 2) := by decide +kernel
theorem dX5_next_371 : decode cX5_next 371 = .ok (.if_icmp .ne 7, 3) := by decide +kernel
theorem dX5_next_374 : decode cX5_next 374 = .ok (.iconst 1, 1) := by decide +kernel
theorem dX5_next_375 : decode cX5_next 375 = .ok (.goto 4, 3) := by decide +kernel
theorem dX5_next_378 : decode cX5_next 378 = .ok (.iconst 0, 1) := by decide +kernel
theorem dX5_next_379 : decode cX5_next 379 = .ok (.istore_n 2, 1) := by decide +kernel
theorem dX5_next_380 : decode cX5_next 380 = .ok (.aload_n 0, 1) := by decide +kernel
theorem dX5_next_381 : decode cX5_next 381 = .ok (.iload_n 2, 1) := by decide +kernel
theorem dX5_next_382 : decode cX5_next 382 = .ok (.ifCond .eq 7, 3) := by decide +kernel
theorem dX5_next_385 : decode cX5_next 385 = .ok (.iload_n 1, 1) := by decide +kernel
theorem dX5_next_386 : decode cX5_next 386 = .ok (.goto 4, 3) := by decide +kernel
theorem dX5_next_389 : decode cX5_next 389 = .ok (.iconst (-1), 1) := by decide +kernel
theorem dX5_next_390 : decode cX5_next 390 = .ok (.putfield 111, 3) := by decide +kernel
theorem dX5_next_393 : decode cX5_next 393 = .ok (.aload_n 0, 1) := by decide +kernel
theorem dX5_next_394 : decode cX5_next 394 = .ok (.dup, 1) := by decide +kernel
theorem dX5_next_395 : decode cX5_next 395 = .ok (.getfield 105, 3) := by decide +kernel
theorem dX5_next_398 : decode cX5_next 398 = .ok (.iconst 1, 1) := by decide +kernel
theorem dX5_next_399 : decode cX5_next 399 = .ok (.iadd, 1) := by decide +kernel
theorem dX5_next_400 : decode cX5_next 400 = .ok (.putfield 105, 3) := by decide +kernel
theorem dX5_next_403 : decode cX5_next 403 = .ok (.return_, 1) := by decide +kernel
theorem dX5_rank_0 : decode cX5_rank 0 = .ok (.iload_n 0, 1) := by decide +kernel
theorem dX5_rank_1 : decode cX5_rank 1 = .ok (.ifCond .ne 7, 3) := by decide +kernel
theorem dX5_rank_4 : decode cX5_rank 4 = .ok (.iconst 0, 1) := by decide +kernel
theorem dX5_rank_5 : decode cX5_rank 5 = .ok (.goto 66, 3) := by decide +kernel
theorem dX5_rank_8 : decode cX5_rank 8 = .ok (.iload_n 0, 1) := by decide +kernel
theorem dX5_rank_9 : decode cX5_rank 9 = .ok (.bipush 11, 2) := by decide +kernel
theorem dX5_rank_11 : decode cX5_rank 11 = .ok (.if_icmp .ne 7, 3) := by decide +kernel
theorem dX5_rank_14 : decode cX5_rank 14 = .ok (.iconst 1, 1) := by decide +kernel
theorem dX5_rank_15 : decode cX5_rank 15 = .ok (.goto 56, 3) := by decide +kernel
theorem dX5_rank_18 : decode cX5_rank 18 = .ok (.iload_n 0, 1) := by decide +kernel
theorem dX5_rank_19 : decode cX5_rank 19 = .ok (.bipush 12, 2) := by decide +kernel
theorem dX5_rank_21 : decode cX5_rank 21 = .ok (.if_icmp .ne 7, 3) := by decide +kernel
theorem dX5_rank_24 : decode cX5_rank 24 = .ok (.iconst 2, 1) := by decide +kernel
theorem dX5_rank_25 : decode cX5_rank 25 = .ok (.goto 46, 3) := by decide +kernel
theorem dX5_rank_28 : decode cX5_rank 28 = .ok (.iload_n 0, 1) := by decide +kernel
theorem dX5_rank_29 : decode cX5_rank 29 = .ok (.bipush 13, 2) := by decide +kernel
theorem dX5_rank_31 : decode cX5_rank 31 = .ok (.if_icmp .ne 7, 3) := by decide +kernel
theorem dX5_rank_34 : decode cX5_rank 34 = .ok (.iconst 3, 1) := by decide +kernel
theorem dX5_rank_35 : decode cX5_rank 35 = .ok (.goto 36, 3) := by decide +kernel
theorem dX5_rank_38 : decode cX5_rank 38 = .ok (.iload_n 0, 1) := by decide +kernel
theorem dX5_rank_39 : decode cX5_rank 39 = .ok (.bipush 15, 2) := by decide +kernel
theorem dX5_rank_41 : decode cX5_rank 41 = .ok (.if_icmp .gt 7, 3) := by decide +kernel
theorem dX5_rank_44 : decode cX5_rank 44 = .ok (.iconst 4, 1) := by decide +kernel
theorem dX5_rank_45 : decode cX5_rank 45 = .ok (.goto 26, 3) := by decide +kernel
theorem dX5_rank_48 : decode cX5_rank 48 = .ok (.iload_n 0, 1) := by decide +kernel
theorem dX5_rank_49 : decode cX5_rank 49 = .ok (.bipush 17, 2) := by decide +kernel
theorem dX5_rank_51 : decode cX5_rank 51 = .ok (.if_icmp .gt 7, 3) := by decide +kernel
theorem dX5_rank_54 : decode cX5_rank 54 = .ok (.iconst 5, 1) := by decide +kernel
theorem dX5_rank_55 : decode cX5_rank 55 = .ok (.goto 16, 3) := by decide +kernel
theorem dX5_rank_58 : decode cX5_rank 58 = .ok (.iload_n 0, 1) := by decide +kernel
theorem dX5_rank_59 : decode cX5_rank 59 = .ok (.bipush 18, 2) := by decide +kernel
theorem dX5_rank_61 : decode cX5_rank 61 = .ok (.if_icmp .ne 8, 3) := by decide +kernel
theorem dX5_rank_64 : decode cX5_rank 64 = .ok (.bipush 6, 2) := by decide +kernel
theorem dX5_rank_66 : decode cX5_rank 66 = .ok (.goto 5, 3) := by decide +kernel
theorem dX5_rank_69 : decode cX5_rank 69 = .ok (.bipush 7, 2) := by decide +kernel
theorem dX5_rank_71 : decode cX5_rank 71 = .ok (.ireturn, 1) := by decide +kernel
theorem dX5_puts_0 : decode cX5_puts 0 = .ok (.aload_n 0, 1) := by decide +kernel
theorem dX5_puts_1 : decode cX5_puts 1 = .ok (.getfield 22, 3) := by decide +kernel
theorem dX5_puts_4 : decode cX5_puts 4 = .ok (.sipush 200, 3) := by decide +kernel
theorem dX5_puts_7 : decode cX5_puts 7 = .ok (.aload_n 0, 1) := by decide +kernel
theorem dX5_puts_8 : decode cX5_puts 8 = .ok (.getfield 96, 3) := by decide +kernel
theorem dX5_puts_11 : decode cX5_puts 11 = .ok (.imul, 1) := by decide +kernel
theorem dX5_puts_12 : decode cX5_puts 12 = .ok (.aload_n 0, 1) := by decide +kernel
theorem dX5_puts_13 : decode cX5_puts 13 = .ok (.getfield 121, 3) := by decide +kernel
theorem dX5_puts_16 : decode cX5_puts 16 = .ok (.iadd, 1) := by decide +kernel
theorem dX5_puts_17 : decode cX5_puts 17 = .ok (.iload_n 1, 1) := by decide +kernel
theorem dX5_puts_18 : decode cX5_puts 18 = .ok (.iastore, 1) := by decide +kernel
theorem dX5_puts_19 : decode cX5_puts 19 = .ok (.aload_n 0, 1) := by decide +kernel
theorem dX5_puts_20 : decode cX5_puts 20 = .ok (.dup, 1) := by decide +kernel
theorem dX5_puts_21 : decode cX5_puts 21 = .ok (.getfield 121, 3) := by decide +kernel
theorem dX5_puts_24 : decode cX5_puts 24 = .ok (.iconst 1, 1) := by decide +kernel
theorem dX5_puts_25 : decode cX5_puts 25 = .ok (.iadd, 1) := by decide +kernel
theorem dX5_puts_26 : decode cX5_puts 26 = .ok (.putfield 121, 3) := by decide +kernel
theorem dX5_puts_29 : decode cX5_puts 29 = .ok (.return_, 1) := by decide +kernel
theorem dX5_unwinds_0 : decode cX5_unwinds 0 = .ok (.aload_n 0, 1) := by decide +kernel
theorem dX5_unwinds_1 : decode cX5_unwinds 1 = .ok (.getfield 124, 3) := by decide +kernel
theorem dX5_unwinds_4 : decode cX5_unwinds 4 = .ok (.ifCond .le 75, 3) := by decide +kernel
theorem dX5_unwinds_7 : decode cX5_unwinds 7 = .ok (.aload_n 0, 1) := by decide +kernel
theorem dX5_unwinds_8 : decode cX5_unwinds 8 = .ok (.getfield 49, 3) := by decide +kernel
theorem dX5_unwinds_11 : decode cX5_unwinds 11 = .ok (.aload_n 0, 1) := by decide +kernel
theorem dX5_unwinds_12 : decode cX5_unwinds 12 = .ok (.getfield 124, 3) := by decide +kernel
theorem dX5_unwinds_15 : decode cX5_unwinds 15 = .ok (.iconst 1, 1) := by decide +kernel
theorem dX5_unwinds_16 : decode cX5_unwinds 16 = .ok (.isub, 1) := by decide +kernel
theorem dX5_unwinds_17 : decode cX5_unwinds 17 = .ok (.iaload, 1) := by decide +kernel
theorem dX5_unwinds_18 : decode cX5_unwinds 18 = .ok (.invokestatic 127, 3) := by decide +kernel
theorem dX5_unwinds_21 : decode cX5_unwinds 21 = .ok (.iload_n 1, 1) := by decide +kernel
theorem dX5_unwinds_22 : decode cX5_unwinds 22 = .ok (.if_icmp .lt 57, 3) := by decide +kernel
theorem dX5_unwinds_25 : decode cX5_unwinds 25 = .ok (.aload_n 0, 1) := by decide +kernel
theorem dX5_unwinds_26 : decode cX5_unwinds 26 = .ok (.dup, 1) := by decide +kernel
theorem dX5_unwinds_27 : decode cX5_unwinds 27 = .ok (.getfield 124, 3) := by decide +kernel
theorem dX5_unwinds_30 : decode cX5_unwinds 30 = .ok (.iconst 1, 1) := by decide +kernel
theorem dX5_unwinds_31 : decode cX5_unwinds 31 = .ok (.isub, 1) := by decide +kernel
theorem dX5_unwinds_32 : decode cX5_unwinds 32 = .ok (.putfield 124, 3) := by decide +kernel
theorem dX5_unwinds_35 : decode cX5_unwinds 35 = .ok (.aload_n 0, 1) := by decide +kernel
theorem dX5_unwinds_36 : decode cX5_unwinds 36 = .ok (.getfield 49, 3) := by decide +kernel
theorem dX5_unwinds_39 : decode cX5_unwinds 39 = .ok (.aload_n 0, 1) := by decide +kernel
theorem dX5_unwinds_40 : decode cX5_unwinds 40 = .ok (.getfield 124, 3) := by decide +kernel
theorem dX5_unwinds_43 : decode cX5_unwinds 43 = .ok (.iaload, 1) := by decide +kernel
theorem dX5_unwinds_44 : decode cX5_unwinds 44 = .ok (.istore_n 2, 1) := by decide +kernel
theorem dX5_unwinds_45 : decode cX5_unwinds 45 = .ok (.aload_n 0, 1) := by decide +kernel
theorem dX5_unwinds_46 : decode cX5_unwinds 46 = .ok (.dup, 1) := by decide +kernel
theorem dX5_unwinds_47 : decode cX5_unwinds 47 = .ok (.getfield 130, 3) := by decide +kernel
theorem dX5_unwinds_50 : decode cX5_unwinds 50 = .ok (.iload_n 2, 1) := by decide +kernel
theorem dX5_unwinds_51 : decode cX5_unwinds 51 = .ok (.bipush 13, 2) := by decide +kernel
theorem dX5_unwinds_53 : decode cX5_unwinds 53 = .ok (.if_icmp .eq 9, 3) := by decide +kernel
theorem dX5_unwinds_56 : decode cX5_unwinds 56 = .ok (.iload_n 2, 1) := by decide +kernel
theorem dX5_unwinds_57 : decode cX5_unwinds 57 = .ok (.bipush 19, 2) := by decide +kernel
theorem dX5_unwinds_59 : decode cX5_unwinds 59 = .ok (.if_icmp .ne 7, 3) := by decide +kernel
theorem dX5_unwinds_62 : decode cX5_unwinds 62 = .ok (.iconst 1, 1) := by decide +kernel
theorem dX5_unwinds_63 : decode cX5_unwinds 63 = .ok (.goto 4, 3) := by decide +kernel
theorem dX5_unwinds_66 : decode cX5_unwinds 66 = .ok (.iconst 0, 1) := by decide +kernel
theorem dX5_unwinds_67 : decode cX5_unwinds 67 = .ok (.isub, 1) := by decide +kernel
theorem dX5_unwinds_68 : decode cX5_unwinds 68 = .ok (.putfield 130, 3) := by decide +kernel
theorem dX5_unwinds_71 : decode cX5_unwinds 71 = .ok (.aload_n 0, 1) := by decide +kernel
theorem dX5_unwinds_72 : decode cX5_unwinds 72 = .ok (.iload_n 2, 1) := by decide +kernel
theorem dX5_unwinds_73 : decode cX5_unwinds 73 = .ok (.invokevirtual 133, 3) := by decide +kernel
theorem dX5_unwinds_76 : decode cX5_unwinds 76 = .ok (.goto (-76), 3) := by decide +kernel
theorem dX5_unwinds_79 : decode cX5_unwinds 79 = .ok (.return_, 1) := by decide +kernel
theorem dX5_holds_0 : decode cX5_holds 0 = .ok (.aload_n 0, 1) := by decide +kernel
theorem dX5_holds_1 : decode cX5_holds 1 = .ok (.getfield 49, 3) := by decide +kernel
theorem dX5_holds_4 : decode cX5_holds 4 = .ok (.aload_n 0, 1) := by decide +kernel
theorem dX5_holds_5 : decode cX5_holds 5 = .ok (.getfield 124, 3) := by decide +kernel
theorem dX5_holds_8 : decode cX5_holds 8 = .ok (.iload_n 1, 1) := by decide +kernel
theorem dX5_holds_9 : decode cX5_holds 9 = .ok (.iastore, 1) := by decide +kernel
theorem dX5_holds_10 : decode cX5_holds 10 = .ok (.aload_n 0, 1) := by decide +kernel
theorem dX5_holds_11 : decode cX5_holds 11 = .ok (.dup, 1) := by decide +kernel
theorem dX5_holds_12 : decode cX5_holds 12 = .ok (.getfield 124, 3) := by decide +kernel
theorem dX5_holds_15 : decode cX5_holds 15 = .ok (.iconst 1, 1) := by decide +kernel
theorem dX5_holds_16 : decode cX5_holds 16 = .ok (.iadd, 1) := by decide +kernel
theorem dX5_holds_17 : decode cX5_holds 17 = .ok (.putfield 124, 3) := by decide +kernel
theorem dX5_holds_20 : decode cX5_holds 20 = .ok (.return_, 1) := by decide +kernel
theorem dX5_opensOne_0 : decode cX5_opensOne 0 = .ok (.aload_n 0, 1) := by decide +kernel
theorem dX5_opensOne_1 : decode cX5_opensOne 1 = .ok (.getfield 130, 3) := by decide +kernel
theorem dX5_opensOne_4 : decode cX5_opensOne 4 = .ok (.iconst 5, 1) := by decide +kernel
theorem dX5_opensOne_5 : decode cX5_opensOne 5 = .ok (.if_icmp .ne 5, 3) := by decide +kernel
theorem dX5_opensOne_8 : decode cX5_opensOne 8 = .ok (.iconst 0, 1) := by decide +kernel
theorem dX5_opensOne_9 : decode cX5_opensOne 9 = .ok (.ireturn, 1) := by decide +kernel
theorem dX5_opensOne_10 : decode cX5_opensOne 10 = .ok (.aload_n 0, 1) := by decide +kernel
theorem dX5_opensOne_11 : decode cX5_opensOne 11 = .ok (.dup, 1) := by decide +kernel
theorem dX5_opensOne_12 : decode cX5_opensOne 12 = .ok (.getfield 130, 3) := by decide +kernel
theorem dX5_opensOne_15 : decode cX5_opensOne 15 = .ok (.iconst 1, 1) := by decide +kernel
theorem dX5_opensOne_16 : decode cX5_opensOne 16 = .ok (.iadd, 1) := by decide +kernel
theorem dX5_opensOne_17 : decode cX5_opensOne 17 = .ok (.putfield 130, 3) := by decide +kernel
theorem dX5_opensOne_20 : decode cX5_opensOne 20 = .ok (.aload_n 0, 1) := by decide +kernel
theorem dX5_opensOne_21 : decode cX5_opensOne 21 = .ok (.iload_n 1, 1) := by decide +kernel
theorem dX5_opensOne_22 : decode cX5_opensOne 22 = .ok (.invokevirtual 137, 3) := by decide +kernel
theorem dX5_opensOne_25 : decode cX5_opensOne 25 = .ok (.iconst 1, 1) := by decide +kernel
theorem dX5_opensOne_26 : decode cX5_opensOne 26 = .ok (.ireturn, 1) := by decide +kernel
theorem dX5_between_0 : decode cX5_between 0 = .ok (.aload_n 0, 1) := by decide +kernel
theorem dX5_between_1 : decode cX5_between 1 = .ok (.iload_n 1, 1) := by decide +kernel
theorem dX5_between_2 : decode cX5_between 2 = .ok (.invokestatic 127, 3) := by decide +kernel
theorem dX5_between_5 : decode cX5_between 5 = .ok (.iconst 4, 1) := by decide +kernel
theorem dX5_between_6 : decode cX5_between 6 = .ok (.if_icmp .ne 7, 3) := by decide +kernel
theorem dX5_between_9 : decode cX5_between 9 = .ok (.iconst 5, 1) := by decide +kernel
theorem dX5_between_10 : decode cX5_between 10 = .ok (.goto 7, 3) := by decide +kernel
theorem dX5_between_13 : decode cX5_between 13 = .ok (.iload_n 1, 1) := by decide +kernel
theorem dX5_between_14 : decode cX5_between 14 = .ok (.invokestatic 127, 3) := by decide +kernel
theorem dX5_between_17 : decode cX5_between 17 = .ok (.invokevirtual 140, 3) := by decide +kernel
theorem dX5_between_20 : decode cX5_between 20 = .ok (.iload_n 1, 1) := by decide +kernel
theorem dX5_between_21 : decode cX5_between 21 = .ok (.invokestatic 127, 3) := by decide +kernel
theorem dX5_between_24 : decode cX5_between 24 = .ok (.iconst 4, 1) := by decide +kernel
theorem dX5_between_25 : decode cX5_between 25 = .ok (.if_icmp .ne 30, 3) := by decide +kernel
theorem dX5_between_28 : decode cX5_between 28 = .ok (.aload_n 0, 1) := by decide +kernel
theorem dX5_between_29 : decode cX5_between 29 = .ok (.getfield 124, 3) := by decide +kernel
theorem dX5_between_32 : decode cX5_between 32 = .ok (.ifCond .le 23, 3) := by decide +kernel
theorem dX5_between_35 : decode cX5_between 35 = .ok (.aload_n 0, 1) := by decide +kernel
theorem dX5_between_36 : decode cX5_between 36 = .ok (.getfield 49, 3) := by decide +kernel
theorem dX5_between_39 : decode cX5_between 39 = .ok (.aload_n 0, 1) := by decide +kernel
theorem dX5_between_40 : decode cX5_between 40 = .ok (.getfield 124, 3) := by decide +kernel
theorem dX5_between_43 : decode cX5_between 43 = .ok (.iconst 1, 1) := by decide +kernel
theorem dX5_between_44 : decode cX5_between 44 = .ok (.isub, 1) := by decide +kernel
theorem dX5_between_45 : decode cX5_between 45 = .ok (.iaload, 1) := by decide +kernel
theorem dX5_between_46 : decode cX5_between 46 = .ok (.invokestatic 127, 3) := by decide +kernel
theorem dX5_between_49 : decode cX5_between 49 = .ok (.iconst 4, 1) := by decide +kernel
theorem dX5_between_50 : decode cX5_between 50 = .ok (.if_icmp .ne 5, 3) := by decide +kernel
theorem dX5_between_53 : decode cX5_between 53 = .ok (.iconst 0, 1) := by decide +kernel
theorem dX5_between_54 : decode cX5_between 54 = .ok (.ireturn, 1) := by decide +kernel
theorem dX5_between_55 : decode cX5_between 55 = .ok (.aload_n 0, 1) := by decide +kernel
theorem dX5_between_56 : decode cX5_between 56 = .ok (.iload_n 1, 1) := by decide +kernel
theorem dX5_between_57 : decode cX5_between 57 = .ok (.invokevirtual 137, 3) := by decide +kernel
theorem dX5_between_60 : decode cX5_between 60 = .ok (.iconst 1, 1) := by decide +kernel
theorem dX5_between_61 : decode cX5_between 61 = .ok (.ireturn, 1) := by decide +kernel
theorem dX5_signOf_0 : decode cX5_signOf 0 = .ok (.aload_n 0, 1) := by decide +kernel
theorem dX5_signOf_1 : decode cX5_signOf 1 = .ok (.getfield 111, 3) := by decide +kernel
theorem dX5_signOf_4 : decode cX5_signOf 4 = .ok (.iconst 4, 1) := by decide +kernel
theorem dX5_signOf_5 : decode cX5_signOf 5 = .ok (.if_icmp .ne 8, 3) := by decide +kernel
theorem dX5_signOf_8 : decode cX5_signOf 8 = .ok (.bipush 11, 2) := by decide +kernel
theorem dX5_signOf_10 : decode cX5_signOf 10 = .ok (.goto 87, 3) := by decide +kernel
theorem dX5_signOf_13 : decode cX5_signOf 13 = .ok (.aload_n 0, 1) := by decide +kernel
theorem dX5_signOf_14 : decode cX5_signOf 14 = .ok (.getfield 111, 3) := by decide +kernel
theorem dX5_signOf_17 : decode cX5_signOf 17 = .ok (.iconst 5, 1) := by decide +kernel
theorem dX5_signOf_18 : decode cX5_signOf 18 = .ok (.if_icmp .ne 8, 3) := by decide +kernel
theorem dX5_signOf_21 : decode cX5_signOf 21 = .ok (.bipush 12, 2) := by decide +kernel
theorem dX5_signOf_23 : decode cX5_signOf 23 = .ok (.goto 74, 3) := by decide +kernel
theorem dX5_signOf_26 : decode cX5_signOf 26 = .ok (.aload_n 0, 1) := by decide +kernel
theorem dX5_signOf_27 : decode cX5_signOf 27 = .ok (.getfield 111, 3) := by decide +kernel
theorem dX5_signOf_30 : decode cX5_signOf 30 = .ok (.bipush 60, 2) := by decide +kernel
theorem dX5_signOf_32 : decode cX5_signOf 32 = .ok (.if_icmp .ne 8, 3) := by decide +kernel
theorem dX5_signOf_35 : decode cX5_signOf 35 = .ok (.bipush 14, 2) := by decide +kernel
theorem dX5_signOf_37 : decode cX5_signOf 37 = .ok (.goto 60, 3) := by decide +kernel
theorem dX5_signOf_40 : decode cX5_signOf 40 = .ok (.aload_n 0, 1) := by decide +kernel
theorem dX5_signOf_41 : decode cX5_signOf 41 = .ok (.getfield 111, 3) := by decide +kernel
theorem dX5_signOf_44 : decode cX5_signOf 44 = .ok (.bipush 61, 2) := by decide +kernel
theorem dX5_signOf_46 : decode cX5_signOf 46 = .ok (.if_icmp .ne 8, 3) := by decide +kernel
theorem dX5_signOf_49 : decode cX5_signOf 49 = .ok (.bipush 15, 2) := by decide +kernel
theorem dX5_signOf_51 : decode cX5_signOf 51 = .ok (.goto 46, 3) := by decide +kernel
theorem dX5_signOf_54 : decode cX5_signOf 54 = .ok (.aload_n 0, 1) := by decide +kernel
theorem dX5_signOf_55 : decode cX5_signOf 55 = .ok (.getfield 111, 3) := by decide +kernel
theorem dX5_signOf_58 : decode cX5_signOf 58 = .ok (.bipush 43, 2) := by decide +kernel
theorem dX5_signOf_60 : decode cX5_signOf 60 = .ok (.if_icmp .ne 8, 3) := by decide +kernel
theorem dX5_signOf_63 : decode cX5_signOf 63 = .ok (.bipush 16, 2) := by decide +kernel
theorem dX5_signOf_65 : decode cX5_signOf 65 = .ok (.goto 32, 3) := by decide +kernel
theorem dX5_signOf_68 : decode cX5_signOf 68 = .ok (.aload_n 0, 1) := by decide +kernel
theorem dX5_signOf_69 : decode cX5_signOf 69 = .ok (.getfield 111, 3) := by decide +kernel
theorem dX5_signOf_72 : decode cX5_signOf 72 = .ok (.bipush 45, 2) := by decide +kernel
theorem dX5_signOf_74 : decode cX5_signOf 74 = .ok (.if_icmp .ne 8, 3) := by decide +kernel
theorem dX5_signOf_77 : decode cX5_signOf 77 = .ok (.bipush 17, 2) := by decide +kernel
theorem dX5_signOf_79 : decode cX5_signOf 79 = .ok (.goto 18, 3) := by decide +kernel
theorem dX5_signOf_82 : decode cX5_signOf 82 = .ok (.aload_n 0, 1) := by decide +kernel
theorem dX5_signOf_83 : decode cX5_signOf 83 = .ok (.getfield 111, 3) := by decide +kernel
theorem dX5_signOf_86 : decode cX5_signOf 86 = .ok (.bipush 42, 2) := by decide +kernel
theorem dX5_signOf_88 : decode cX5_signOf 88 = .ok (.if_icmp .ne 8, 3) := by decide +kernel
theorem dX5_signOf_91 : decode cX5_signOf 91 = .ok (.bipush 18, 2) := by decide +kernel
theorem dX5_signOf_93 : decode cX5_signOf 93 = .ok (.goto 4, 3) := by decide +kernel
theorem dX5_signOf_96 : decode cX5_signOf 96 = .ok (.iconst (-1), 1) := by decide +kernel
theorem dX5_signOf_97 : decode cX5_signOf 97 = .ok (.ireturn, 1) := by decide +kernel
theorem dX5_eRead_0 : decode cX5_eRead 0 = .ok (.aload_n 0, 1) := by decide +kernel
theorem dX5_eRead_1 : decode cX5_eRead 1 = .ok (.iconst 0, 1) := by decide +kernel
theorem dX5_eRead_2 : decode cX5_eRead 2 = .ok (.putfield 124, 3) := by decide +kernel
theorem dX5_eRead_5 : decode cX5_eRead 5 = .ok (.aload_n 0, 1) := by decide +kernel
theorem dX5_eRead_6 : decode cX5_eRead 6 = .ok (.iconst 0, 1) := by decide +kernel
theorem dX5_eRead_7 : decode cX5_eRead 7 = .ok (.putfield 130, 3) := by decide +kernel
theorem dX5_eRead_10 : decode cX5_eRead 10 = .ok (.iconst 1, 1) := by decide +kernel
theorem dX5_eRead_11 : decode cX5_eRead 11 = .ok (.istore_n 1, 1) := by decide +kernel
theorem dX5_eRead_12 : decode cX5_eRead 12 = .ok (.iconst 1, 1) := by decide +kernel
theorem dX5_eRead_13 : decode cX5_eRead 13 = .ok (.istore_n 2, 1) := by decide +kernel
theorem dX5_eRead_14 : decode cX5_eRead 14 = .ok (.aload_n 0, 1) := by decide +kernel
theorem dX5_eRead_15 : decode cX5_eRead 15 = .ok (.invokevirtual 143, 3) := by decide +kernel
theorem dX5_eRead_18 : decode cX5_eRead 18 = .ok (.iload_n 1, 1) := by decide +kernel
theorem dX5_eRead_19 : decode cX5_eRead 19 = .ok (.ifCond .eq 131, 3) := by decide +kernel
theorem dX5_eRead_22 : decode cX5_eRead 22 = .ok (.aload_n 0, 1) := by decide +kernel
theorem dX5_eRead_23 : decode cX5_eRead 23 = .ok (.getfield 111, 3) := by decide +kernel
theorem dX5_eRead_26 : decode cX5_eRead 26 = .ok (.iconst 1, 1) := by decide +kernel
theorem dX5_eRead_27 : decode cX5_eRead 27 = .ok (.if_icmp .eq 11, 3) := by decide +kernel
theorem dX5_eRead_30 : decode cX5_eRead 30 = .ok (.aload_n 0, 1) := by decide +kernel
theorem dX5_eRead_31 : decode cX5_eRead 31 = .ok (.getfield 111, 3) := by decide +kernel
theorem dX5_eRead_34 : decode cX5_eRead 34 = .ok (.iconst 2, 1) := by decide +kernel
theorem dX5_eRead_35 : decode cX5_eRead 35 = .ok (.if_icmp .ne 40, 3) := by decide +kernel
theorem dX5_eRead_38 : decode cX5_eRead 38 = .ok (.aload_n 0, 1) := by decide +kernel
theorem dX5_eRead_39 : decode cX5_eRead 39 = .ok (.aload_n 0, 1) := by decide +kernel
theorem dX5_eRead_40 : decode cX5_eRead 40 = .ok (.getfield 111, 3) := by decide +kernel
theorem dX5_eRead_43 : decode cX5_eRead 43 = .ok (.iconst 1, 1) := by decide +kernel
theorem dX5_eRead_44 : decode cX5_eRead 44 = .ok (.if_icmp .ne 13, 3) := by decide +kernel
theorem dX5_eRead_47 : decode cX5_eRead 47 = .ok (.ldc 146, 2) := by decide +kernel
theorem dX5_eRead_49 : decode cX5_eRead 49 = .ok (.aload_n 0, 1) := by decide +kernel
theorem dX5_eRead_50 : decode cX5_eRead 50 = .ok (.getfield 114, 3) := by decide +kernel
theorem dX5_eRead_53 : decode cX5_eRead 53 = .ok (.iadd, 1) := by decide +kernel
theorem dX5_eRead_54 : decode cX5_eRead 54 = .ok (.goto 7, 3) := by decide +kernel
theorem dX5_eRead_57 : decode cX5_eRead 57 = .ok (.aload_n 0, 1) := by decide +kernel
theorem dX5_eRead_58 : decode cX5_eRead 58 = .ok (.getfield 114, 3) := by decide +kernel
theorem dX5_eRead_61 : decode cX5_eRead 61 = .ok (.invokevirtual 133, 3) := by decide +kernel
theorem dX5_eRead_64 : decode cX5_eRead 64 = .ok (.aload_n 0, 1) := by decide +kernel
theorem dX5_eRead_65 : decode cX5_eRead 65 = .ok (.bipush 7, 2) := by decide +kernel
theorem dX5_eRead_67 : decode cX5_eRead 67 = .ok (.invokevirtual 140, 3) := by decide +kernel
theorem dX5_eRead_70 : decode cX5_eRead 70 = .ok (.iconst 0, 1) := by decide +kernel
theorem dX5_eRead_71 : decode cX5_eRead 71 = .ok (.istore_n 1, 1) := by decide +kernel
theorem dX5_eRead_72 : decode cX5_eRead 72 = .ok (.goto (-58), 3) := by decide +kernel
theorem dX5_eRead_75 : decode cX5_eRead 75 = .ok (.aload_n 0, 1) := by decide +kernel
theorem dX5_eRead_76 : decode cX5_eRead 76 = .ok (.getfield 111, 3) := by decide +kernel
theorem dX5_eRead_79 : decode cX5_eRead 79 = .ok (.bipush 6, 2) := by decide +kernel
theorem dX5_eRead_81 : decode cX5_eRead 81 = .ok (.if_icmp .ne 18, 3) := by decide +kernel
theorem dX5_eRead_84 : decode cX5_eRead 84 = .ok (.iload_n 2, 1) := by decide +kernel
theorem dX5_eRead_85 : decode cX5_eRead 85 = .ok (.ifCond .eq 14, 3) := by decide +kernel
theorem dX5_eRead_88 : decode cX5_eRead 88 = .ok (.aload_n 0, 1) := by decide +kernel
theorem dX5_eRead_89 : decode cX5_eRead 89 = .ok (.bipush 13, 2) := by decide +kernel
theorem dX5_eRead_91 : decode cX5_eRead 91 = .ok (.invokevirtual 147, 3) := by decide +kernel
theorem dX5_eRead_94 : decode cX5_eRead 94 = .ok (.ifCond .ne (-80), 3) := by decide +kernel
theorem dX5_eRead_97 : decode cX5_eRead 97 = .ok (.iconst 0, 1) := by decide +kernel
theorem dX5_eRead_98 : decode cX5_eRead 98 = .ok (.ireturn, 1) := by decide +kernel
theorem dX5_eRead_99 : decode cX5_eRead 99 = .ok (.aload_n 0, 1) := by decide +kernel
theorem dX5_eRead_100 : decode cX5_eRead 100 = .ok (.getfield 111, 3) := by decide +kernel
theorem dX5_eRead_103 : decode cX5_eRead 103 = .ok (.bipush 45, 2) := by decide +kernel
theorem dX5_eRead_105 : decode cX5_eRead 105 = .ok (.if_icmp .ne 19, 3) := by decide +kernel
theorem dX5_eRead_108 : decode cX5_eRead 108 = .ok (.aload_n 0, 1) := by decide +kernel
theorem dX5_eRead_109 : decode cX5_eRead 109 = .ok (.bipush 19, 2) := by decide +kernel
theorem dX5_eRead_111 : decode cX5_eRead 111 = .ok (.invokevirtual 147, 3) := by decide +kernel
theorem dX5_eRead_114 : decode cX5_eRead 114 = .ok (.ifCond .ne 5, 3) := by decide +kernel
theorem dX5_eRead_117 : decode cX5_eRead 117 = .ok (.iconst 0, 1) := by decide +kernel
theorem dX5_eRead_118 : decode cX5_eRead 118 = .ok (.ireturn, 1) := by decide +kernel
theorem dX5_eRead_119 : decode cX5_eRead 119 = .ok (.iconst 0, 1) := by decide +kernel
theorem dX5_eRead_120 : decode cX5_eRead 120 = .ok (.istore_n 2, 1) := by decide +kernel
theorem dX5_eRead_121 : decode cX5_eRead 121 = .ok (.goto (-107), 3) := by decide +kernel
theorem dX5_eRead_124 : decode cX5_eRead 124 = .ok (.aload_n 0, 1) := by decide +kernel
theorem dX5_eRead_125 : decode cX5_eRead 125 = .ok (.getfield 111, 3) := by decide +kernel
theorem dX5_eRead_128 : decode cX5_eRead 128 = .ok (.bipush 40, 2) := by decide +kernel
theorem dX5_eRead_130 : decode cX5_eRead 130 = .ok (.if_icmp .ne 18, 3) := by decide +kernel
theorem dX5_eRead_133 : decode cX5_eRead 133 = .ok (.aload_n 0, 1) := by decide +kernel
theorem dX5_eRead_134 : decode cX5_eRead 134 = .ok (.iconst 0, 1) := by decide +kernel
theorem dX5_eRead_135 : decode cX5_eRead 135 = .ok (.invokevirtual 147, 3) := by decide +kernel
theorem dX5_eRead_138 : decode cX5_eRead 138 = .ok (.ifCond .ne 5, 3) := by decide +kernel
theorem dX5_eRead_141 : decode cX5_eRead 141 = .ok (.iconst 0, 1) := by decide +kernel
theorem dX5_eRead_142 : decode cX5_eRead 142 = .ok (.ireturn, 1) := by decide +kernel
theorem dX5_eRead_143 : decode cX5_eRead 143 = .ok (.iconst 1, 1) := by decide +kernel
theorem dX5_eRead_144 : decode cX5_eRead 144 = .ok (.istore_n 2, 1) := by decide +kernel
theorem dX5_eRead_145 : decode cX5_eRead 145 = .ok (.goto (-131), 3) := by decide +kernel
theorem dX5_eRead_148 : decode cX5_eRead 148 = .ok (.iconst 0, 1) := by decide +kernel
theorem dX5_eRead_149 : decode cX5_eRead 149 = .ok (.ireturn, 1) := by decide +kernel
theorem dX5_eRead_150 : decode cX5_eRead 150 = .ok (.aload_n 0, 1) := by decide +kernel
theorem dX5_eRead_151 : decode cX5_eRead 151 = .ok (.getfield 111, 3) := by decide +kernel
theorem dX5_eRead_154 : decode cX5_eRead 154 = .ok (.bipush 59, 2) := by decide +kernel
theorem dX5_eRead_156 : decode cX5_eRead 156 = .ok (.if_icmp .ne 21, 3) := by decide +kernel
theorem dX5_eRead_159 : decode cX5_eRead 159 = .ok (.aload_n 0, 1) := by decide +kernel
theorem dX5_eRead_160 : decode cX5_eRead 160 = .ok (.iconst 1, 1) := by decide +kernel
theorem dX5_eRead_161 : decode cX5_eRead 161 = .ok (.invokevirtual 140, 3) := by decide +kernel
theorem dX5_eRead_164 : decode cX5_eRead 164 = .ok (.aload_n 0, 1) := by decide +kernel
theorem dX5_eRead_165 : decode cX5_eRead 165 = .ok (.getfield 124, 3) := by decide +kernel
theorem dX5_eRead_168 : decode cX5_eRead 168 = .ok (.ifCond .ne 7, 3) := by decide +kernel
theorem dX5_eRead_171 : decode cX5_eRead 171 = .ok (.iconst 1, 1) := by decide +kernel
theorem dX5_eRead_172 : decode cX5_eRead 172 = .ok (.goto 4, 3) := by decide +kernel
theorem dX5_eRead_175 : decode cX5_eRead 175 = .ok (.iconst 0, 1) := by decide +kernel
theorem dX5_eRead_176 : decode cX5_eRead 176 = .ok (.ireturn, 1) := by decide +kernel
theorem dX5_eRead_177 : decode cX5_eRead 177 = .ok (.aload_n 0, 1) := by decide +kernel
theorem dX5_eRead_178 : decode cX5_eRead 178 = .ok (.getfield 111, 3) := by decide +kernel
theorem dX5_eRead_181 : decode cX5_eRead 181 = .ok (.bipush 41, 2) := by decide +kernel
theorem dX5_eRead_183 : decode cX5_eRead 183 = .ok (.if_icmp .ne 46, 3) := by decide +kernel
theorem dX5_eRead_186 : decode cX5_eRead 186 = .ok (.aload_n 0, 1) := by decide +kernel
theorem dX5_eRead_187 : decode cX5_eRead 187 = .ok (.iconst 1, 1) := by decide +kernel
theorem dX5_eRead_188 : decode cX5_eRead 188 = .ok (.invokevirtual 140, 3) := by decide +kernel
theorem dX5_eRead_191 : decode cX5_eRead 191 = .ok (.aload_n 0, 1) := by decide +kernel
theorem dX5_eRead_192 : decode cX5_eRead 192 = .ok (.getfield 124, 3) := by decide +kernel
theorem dX5_eRead_195 : decode cX5_eRead 195 = .ok (.ifCond .ne 5, 3) := by decide +kernel
theorem dX5_eRead_198 : decode cX5_eRead 198 = .ok (.iconst 0, 1) := by decide +kernel
theorem dX5_eRead_199 : decode cX5_eRead 199 = .ok (.ireturn, 1) := by decide +kernel
theorem dX5_eRead_200 : decode cX5_eRead 200 = .ok (.aload_n 0, 1) := by decide +kernel
theorem dX5_eRead_201 : decode cX5_eRead 201 = .ok (.dup, 1) := by decide +kernel
theorem dX5_eRead_202 : decode cX5_eRead 202 = .ok (.getfield 124, 3) := by decide +kernel
theorem dX5_eRead_205 : decode cX5_eRead 205 = .ok (.iconst 1, 1) := by decide +kernel
theorem dX5_eRead_206 : decode cX5_eRead 206 = .ok (.isub, 1) := by decide +kernel
theorem dX5_eRead_207 : decode cX5_eRead 207 = .ok (.putfield 124, 3) := by decide +kernel
theorem dX5_eRead_210 : decode cX5_eRead 210 = .ok (.aload_n 0, 1) := by decide +kernel
theorem dX5_eRead_211 : decode cX5_eRead 211 = .ok (.dup, 1) := by decide +kernel
theorem dX5_eRead_212 : decode cX5_eRead 212 = .ok (.getfield 130, 3) := by decide +kernel
theorem dX5_eRead_215 : decode cX5_eRead 215 = .ok (.iconst 1, 1) := by decide +kernel
theorem dX5_eRead_216 : decode cX5_eRead 216 = .ok (.isub, 1) := by decide +kernel
theorem dX5_eRead_217 : decode cX5_eRead 217 = .ok (.putfield 130, 3) := by decide +kernel
theorem dX5_eRead_220 : decode cX5_eRead 220 = .ok (.aload_n 0, 1) := by decide +kernel
theorem dX5_eRead_221 : decode cX5_eRead 221 = .ok (.bipush 7, 2) := by decide +kernel
theorem dX5_eRead_223 : decode cX5_eRead 223 = .ok (.invokevirtual 140, 3) := by decide +kernel
theorem dX5_eRead_226 : decode cX5_eRead 226 = .ok (.goto (-212), 3) := by decide +kernel
theorem dX5_eRead_229 : decode cX5_eRead 229 = .ok (.aload_n 0, 1) := by decide +kernel
theorem dX5_eRead_230 : decode cX5_eRead 230 = .ok (.invokevirtual 150, 3) := by decide +kernel
theorem dX5_eRead_233 : decode cX5_eRead 233 = .ok (.istore_n 3, 1) := by decide +kernel
theorem dX5_eRead_234 : decode cX5_eRead 234 = .ok (.iload_n 3, 1) := by decide +kernel
theorem dX5_eRead_235 : decode cX5_eRead 235 = .ok (.iconst (-1), 1) := by decide +kernel
theorem dX5_eRead_236 : decode cX5_eRead 236 = .ok (.if_icmp .eq 11, 3) := by decide +kernel
theorem dX5_eRead_239 : decode cX5_eRead 239 = .ok (.aload_n 0, 1) := by decide +kernel
theorem dX5_eRead_240 : decode cX5_eRead 240 = .ok (.iload_n 3, 1) := by decide +kernel
theorem dX5_eRead_241 : decode cX5_eRead 241 = .ok (.invokevirtual 153, 3) := by decide +kernel
theorem dX5_eRead_244 : decode cX5_eRead 244 = .ok (.ifCond .ne 5, 3) := by decide +kernel
theorem dX5_eRead_247 : decode cX5_eRead 247 = .ok (.iconst 0, 1) := by decide +kernel
theorem dX5_eRead_248 : decode cX5_eRead 248 = .ok (.ireturn, 1) := by decide +kernel
theorem dX5_eRead_249 : decode cX5_eRead 249 = .ok (.iconst 1, 1) := by decide +kernel
theorem dX5_eRead_250 : decode cX5_eRead 250 = .ok (.istore_n 1, 1) := by decide +kernel
theorem dX5_eRead_251 : decode cX5_eRead 251 = .ok (.iload_n 3, 1) := by decide +kernel
theorem dX5_eRead_252 : decode cX5_eRead 252 = .ok (.bipush 12, 2) := by decide +kernel
theorem dX5_eRead_254 : decode cX5_eRead 254 = .ok (.if_icmp .gt 7, 3) := by decide +kernel
theorem dX5_eRead_257 : decode cX5_eRead 257 = .ok (.iconst 1, 1) := by decide +kernel
theorem dX5_eRead_258 : decode cX5_eRead 258 = .ok (.goto 4, 3) := by decide +kernel
theorem dX5_eRead_261 : decode cX5_eRead 261 = .ok (.iconst 0, 1) := by decide +kernel
theorem dX5_eRead_262 : decode cX5_eRead 262 = .ok (.istore_n 2, 1) := by decide +kernel
theorem dX5_eRead_263 : decode cX5_eRead 263 = .ok (.goto (-249), 3) := by decide +kernel
theorem dX5_text_0 : decode cX5_text 0 = .ok (.aload_n 0, 1) := by decide +kernel
theorem dX5_text_1 : decode cX5_text 1 = .ok (.getfield 96, 3) := by decide +kernel
theorem dX5_text_4 : decode cX5_text 4 = .ok (.bipush 6, 2) := by decide +kernel
theorem dX5_text_6 : decode cX5_text 6 = .ok (.if_icmp .ne 6, 3) := by decide +kernel
theorem dX5_text_9 : decode cX5_text 9 = .ok (.bipush (-4), 2) := by decide +kernel
theorem dX5_text_11 : decode cX5_text 11 = .ok (.ireturn, 1) := by decide +kernel
theorem dX5_text_12 : decode cX5_text 12 = .ok (.aload_n 0, 1) := by decide +kernel
theorem dX5_text_13 : decode cX5_text 13 = .ok (.iconst 0, 1) := by decide +kernel
theorem dX5_text_14 : decode cX5_text 14 = .ok (.putfield 105, 3) := by decide +kernel
theorem dX5_text_17 : decode cX5_text 17 = .ok (.aload_n 0, 1) := by decide +kernel
theorem dX5_text_18 : decode cX5_text 18 = .ok (.iconst 0, 1) := by decide +kernel
theorem dX5_text_19 : decode cX5_text 19 = .ok (.putfield 121, 3) := by decide +kernel
theorem dX5_text_22 : decode cX5_text 22 = .ok (.iconst 1, 1) := by decide +kernel
theorem dX5_text_23 : decode cX5_text 23 = .ok (.istore_n 1, 1) := by decide +kernel
theorem dX5_text_24 : decode cX5_text 24 = .ok (.iconst 0, 1) := by decide +kernel
theorem dX5_text_25 : decode cX5_text 25 = .ok (.istore_n 2, 1) := by decide +kernel
theorem dX5_text_26 : decode cX5_text 26 = .ok (.iload_n 2, 1) := by decide +kernel
theorem dX5_text_27 : decode cX5_text 27 = .ok (.iconst 3, 1) := by decide +kernel
theorem dX5_text_28 : decode cX5_text 28 = .ok (.if_icmp .ge 73, 3) := by decide +kernel
theorem dX5_text_31 : decode cX5_text 31 = .ok (.iload_n 1, 1) := by decide +kernel
theorem dX5_text_32 : decode cX5_text 32 = .ok (.ifCond .eq 69, 3) := by decide +kernel
theorem dX5_text_35 : decode cX5_text 35 = .ok (.aload_n 0, 1) := by decide +kernel
theorem dX5_text_36 : decode cX5_text 36 = .ok (.invokevirtual 143, 3) := by decide +kernel
theorem dX5_text_39 : decode cX5_text 39 = .ok (.aload_n 0, 1) := by decide +kernel
theorem dX5_text_40 : decode cX5_text 40 = .ok (.getfield 111, 3) := by decide +kernel
theorem dX5_text_43 : decode cX5_text 43 = .ok (.iconst 3, 1) := by decide +kernel
theorem dX5_text_44 : decode cX5_text 44 = .ok (.if_icmp .ne 15, 3) := by decide +kernel
theorem dX5_text_47 : decode cX5_text 47 = .ok (.aload_n 0, 1) := by decide +kernel
theorem dX5_text_48 : decode cX5_text 48 = .ok (.getfield 114, 3) := by decide +kernel
theorem dX5_text_51 : decode cX5_text 51 = .ok (.iload_n 2, 1) := by decide +kernel
theorem dX5_text_52 : decode cX5_text 52 = .ok (.if_icmp .ne 7, 3) := by decide +kernel
theorem dX5_text_55 : decode cX5_text 55 = .ok (.iconst 1, 1) := by decide +kernel
theorem dX5_text_56 : decode cX5_text 56 = .ok (.goto 4, 3) := by decide +kernel
theorem dX5_text_59 : decode cX5_text 59 = .ok (.iconst 0, 1) := by decide +kernel
theorem dX5_text_60 : decode cX5_text 60 = .ok (.istore_n 1, 1) := by decide +kernel
theorem dX5_text_61 : decode cX5_text 61 = .ok (.aload_n 0, 1) := by decide +kernel
theorem dX5_text_62 : decode cX5_text 62 = .ok (.getfield 25, 3) := by decide +kernel
theorem dX5_text_65 : decode cX5_text 65 = .ok (.iconst 4, 1) := by decide +kernel
theorem dX5_text_66 : decode cX5_text 66 = .ok (.aload_n 0, 1) := by decide +kernel
theorem dX5_text_67 : decode cX5_text 67 = .ok (.getfield 96, 3) := by decide +kernel
theorem dX5_text_70 : decode cX5_text 70 = .ok (.imul, 1) := by decide +kernel
theorem dX5_text_71 : decode cX5_text 71 = .ok (.iload_n 2, 1) := by decide +kernel
theorem dX5_text_72 : decode cX5_text 72 = .ok (.iadd, 1) := by decide +kernel
theorem dX5_text_73 : decode cX5_text 73 = .ok (.aload_n 0, 1) := by decide +kernel
theorem dX5_text_74 : decode cX5_text 74 = .ok (.getfield 121, 3) := by decide +kernel
theorem dX5_text_77 : decode cX5_text 77 = .ok (.iastore, 1) := by decide +kernel
theorem dX5_text_78 : decode cX5_text 78 = .ok (.iload_n 1, 1) := by decide +kernel
theorem dX5_text_79 : decode cX5_text 79 = .ok (.ifCond .eq 14, 3) := by decide +kernel
theorem dX5_text_82 : decode cX5_text 82 = .ok (.aload_n 0, 1) := by decide +kernel
theorem dX5_text_83 : decode cX5_text 83 = .ok (.invokevirtual 156, 3) := by decide +kernel
theorem dX5_text_86 : decode cX5_text 86 = .ok (.ifCond .eq 7, 3) := by decide +kernel
theorem dX5_text_89 : decode cX5_text 89 = .ok (.iconst 1, 1) := by decide +kernel
theorem dX5_text_90 : decode cX5_text 90 = .ok (.goto 4, 3) := by decide +kernel
theorem dX5_text_93 : decode cX5_text 93 = .ok (.iconst 0, 1) := by decide +kernel
theorem dX5_text_94 : decode cX5_text 94 = .ok (.istore_n 1, 1) := by decide +kernel
theorem dX5_text_95 : decode cX5_text 95 = .ok (.iinc 2 1, 3) := by decide +kernel
theorem dX5_text_98 : decode cX5_text 98 = .ok (.goto (-72), 3) := by decide +kernel
theorem dX5_text_101 : decode cX5_text 101 = .ok (.iload_n 1, 1) := by decide +kernel
theorem dX5_text_102 : decode cX5_text 102 = .ok (.ifCond .eq 20, 3) := by decide +kernel
theorem dX5_text_105 : decode cX5_text 105 = .ok (.aload_n 0, 1) := by decide +kernel
theorem dX5_text_106 : decode cX5_text 106 = .ok (.invokevirtual 143, 3) := by decide +kernel
theorem dX5_text_109 : decode cX5_text 109 = .ok (.aload_n 0, 1) := by decide +kernel
theorem dX5_text_110 : decode cX5_text 110 = .ok (.getfield 111, 3) := by decide +kernel
theorem dX5_text_113 : decode cX5_text 113 = .ok (.ifCond .ne 7, 3) := by decide +kernel
theorem dX5_text_116 : decode cX5_text 116 = .ok (.iconst 1, 1) := by decide +kernel
theorem dX5_text_117 : decode cX5_text 117 = .ok (.goto 4, 3) := by decide +kernel
theorem dX5_text_120 : decode cX5_text 120 = .ok (.iconst 0, 1) := by decide +kernel
theorem dX5_text_121 : decode cX5_text 121 = .ok (.istore_n 1, 1) := by decide +kernel
theorem dX5_text_122 : decode cX5_text 122 = .ok (.aload_n 0, 1) := by decide +kernel
theorem dX5_text_123 : decode cX5_text 123 = .ok (.getfield 25, 3) := by decide +kernel
theorem dX5_text_126 : decode cX5_text 126 = .ok (.iconst 4, 1) := by decide +kernel
theorem dX5_text_127 : decode cX5_text 127 = .ok (.aload_n 0, 1) := by decide +kernel
theorem dX5_text_128 : decode cX5_text 128 = .ok (.getfield 96, 3) := by decide +kernel
theorem dX5_text_131 : decode cX5_text 131 = .ok (.imul, 1) := by decide +kernel
theorem dX5_text_132 : decode cX5_text 132 = .ok (.iconst 3, 1) := by decide +kernel
theorem dX5_text_133 : decode cX5_text 133 = .ok (.iadd, 1) := by decide +kernel
theorem dX5_text_134 : decode cX5_text 134 = .ok (.aload_n 0, 1) := by decide +kernel
theorem dX5_text_135 : decode cX5_text 135 = .ok (.getfield 121, 3) := by decide +kernel
theorem dX5_text_138 : decode cX5_text 138 = .ok (.iastore, 1) := by decide +kernel
theorem dX5_text_139 : decode cX5_text 139 = .ok (.aload_n 0, 1) := by decide +kernel
theorem dX5_text_140 : decode cX5_text 140 = .ok (.iconst 0, 1) := by decide +kernel
theorem dX5_text_141 : decode cX5_text 141 = .ok (.putfield 67, 3) := by decide +kernel
theorem dX5_text_144 : decode cX5_text 144 = .ok (.iload_n 1, 1) := by decide +kernel
theorem dX5_text_145 : decode cX5_text 145 = .ok (.ifCond .ne 11, 3) := by decide +kernel
theorem dX5_text_148 : decode cX5_text 148 = .ok (.bipush (-100), 2) := by decide +kernel
theorem dX5_text_150 : decode cX5_text 150 = .ok (.aload_n 0, 1) := by decide +kernel
theorem dX5_text_151 : decode cX5_text 151 = .ok (.getfield 108, 3) := by decide +kernel
theorem dX5_text_154 : decode cX5_text 154 = .ok (.isub, 1) := by decide +kernel
theorem dX5_text_155 : decode cX5_text 155 = .ok (.ireturn, 1) := by decide +kernel
theorem dX5_text_156 : decode cX5_text 156 = .ok (.aload_n 0, 1) := by decide +kernel
theorem dX5_text_157 : decode cX5_text 157 = .ok (.dup, 1) := by decide +kernel
theorem dX5_text_158 : decode cX5_text 158 = .ok (.getfield 96, 3) := by decide +kernel
theorem dX5_text_161 : decode cX5_text 161 = .ok (.iconst 1, 1) := by decide +kernel
theorem dX5_text_162 : decode cX5_text 162 = .ok (.iadd, 1) := by decide +kernel
theorem dX5_text_163 : decode cX5_text 163 = .ok (.putfield 96, 3) := by decide +kernel
theorem dX5_text_166 : decode cX5_text 166 = .ok (.aload_n 0, 1) := by decide +kernel
theorem dX5_text_167 : decode cX5_text 167 = .ok (.getfield 96, 3) := by decide +kernel
theorem dX5_text_170 : decode cX5_text 170 = .ok (.iconst 1, 1) := by decide +kernel
theorem dX5_text_171 : decode cX5_text 171 = .ok (.isub, 1) := by decide +kernel
theorem dX5_text_172 : decode cX5_text 172 = .ok (.ireturn, 1) := by decide +kernel
theorem dX5_two_0 : decode cX5_two 0 = .ok (.iload_n 0, 1) := by decide +kernel
theorem dX5_two_1 : decode cX5_two 1 = .ok (.tableswitch 101 11 17 #[43, 57, 101, 71, 82, 93, 97], 43) := by decide +kernel
theorem dX5_two_44 : decode cX5_two 44 = .ok (.iload_n 1, 1) := by decide +kernel
theorem dX5_two_45 : decode cX5_two 45 = .ok (.ifCond .ne 7, 3) := by decide +kernel
theorem dX5_two_48 : decode cX5_two 48 = .ok (.iload_n 2, 1) := by decide +kernel
theorem dX5_two_49 : decode cX5_two 49 = .ok (.ifCond .eq 7, 3) := by decide +kernel
theorem dX5_two_52 : decode cX5_two 52 = .ok (.iconst 1, 1) := by decide +kernel
theorem dX5_two_53 : decode cX5_two 53 = .ok (.goto 4, 3) := by decide +kernel
theorem dX5_two_56 : decode cX5_two 56 = .ok (.iconst 0, 1) := by decide +kernel
theorem dX5_two_57 : decode cX5_two 57 = .ok (.ireturn, 1) := by decide +kernel
theorem dX5_two_58 : decode cX5_two 58 = .ok (.iload_n 1, 1) := by decide +kernel
theorem dX5_two_59 : decode cX5_two 59 = .ok (.ifCond .eq 11, 3) := by decide +kernel
theorem dX5_two_62 : decode cX5_two 62 = .ok (.iload_n 2, 1) := by decide +kernel
theorem dX5_two_63 : decode cX5_two 63 = .ok (.ifCond .eq 7, 3) := by decide +kernel
theorem dX5_two_66 : decode cX5_two 66 = .ok (.iconst 1, 1) := by decide +kernel
theorem dX5_two_67 : decode cX5_two 67 = .ok (.goto 4, 3) := by decide +kernel
theorem dX5_two_70 : decode cX5_two 70 = .ok (.iconst 0, 1) := by decide +kernel
theorem dX5_two_71 : decode cX5_two 71 = .ok (.ireturn, 1) := by decide +kernel
theorem dX5_two_72 : decode cX5_two 72 = .ok (.iload_n 1, 1) := by decide +kernel
theorem dX5_two_73 : decode cX5_two 73 = .ok (.iload_n 2, 1) := by decide +kernel
theorem dX5_two_74 : decode cX5_two 74 = .ok (.if_icmp .ge 7, 3) := by decide +kernel
theorem dX5_two_77 : decode cX5_two 77 = .ok (.iconst 1, 1) := by decide +kernel
theorem dX5_two_78 : decode cX5_two 78 = .ok (.goto 4, 3) := by decide +kernel
theorem dX5_two_81 : decode cX5_two 81 = .ok (.iconst 0, 1) := by decide +kernel
theorem dX5_two_82 : decode cX5_two 82 = .ok (.ireturn, 1) := by decide +kernel
theorem dX5_two_83 : decode cX5_two 83 = .ok (.iload_n 1, 1) := by decide +kernel
theorem dX5_two_84 : decode cX5_two 84 = .ok (.iload_n 2, 1) := by decide +kernel
theorem dX5_two_85 : decode cX5_two 85 = .ok (.if_icmp .ne 7, 3) := by decide +kernel
theorem dX5_two_88 : decode cX5_two 88 = .ok (.iconst 1, 1) := by decide +kernel
theorem dX5_two_89 : decode cX5_two 89 = .ok (.goto 4, 3) := by decide +kernel
theorem dX5_two_92 : decode cX5_two 92 = .ok (.iconst 0, 1) := by decide +kernel
theorem dX5_two_93 : decode cX5_two 93 = .ok (.ireturn, 1) := by decide +kernel
theorem dX5_two_94 : decode cX5_two 94 = .ok (.iload_n 1, 1) := by decide +kernel
theorem dX5_two_95 : decode cX5_two 95 = .ok (.iload_n 2, 1) := by decide +kernel
theorem dX5_two_96 : decode cX5_two 96 = .ok (.iadd, 1) := by decide +kernel
theorem dX5_two_97 : decode cX5_two 97 = .ok (.ireturn, 1) := by decide +kernel
theorem dX5_two_98 : decode cX5_two 98 = .ok (.iload_n 1, 1) := by decide +kernel
theorem dX5_two_99 : decode cX5_two 99 = .ok (.iload_n 2, 1) := by decide +kernel
theorem dX5_two_100 : decode cX5_two 100 = .ok (.isub, 1) := by decide +kernel
theorem dX5_two_101 : decode cX5_two 101 = .ok (.ireturn, 1) := by decide +kernel
theorem dX5_two_102 : decode cX5_two 102 = .ok (.iload_n 1, 1) := by decide +kernel
theorem dX5_two_103 : decode cX5_two 103 = .ok (.iload_n 2, 1) := by decide +kernel
theorem dX5_two_104 : decode cX5_two 104 = .ok (.imul, 1) := by decide +kernel
theorem dX5_two_105 : decode cX5_two 105 = .ok (.ireturn, 1) := by decide +kernel
theorem dX5_says_0 : decode cX5_says 0 = .ok (.iconst 0, 1) := by decide +kernel
theorem dX5_says_1 : decode cX5_says 1 = .ok (.istore_n 2, 1) := by decide +kernel
theorem dX5_says_2 : decode cX5_says 2 = .ok (.aload_n 0, 1) := by decide +kernel
theorem dX5_says_3 : decode cX5_says 3 = .ok (.getfield 25, 3) := by decide +kernel
theorem dX5_says_6 : decode cX5_says 6 = .ok (.iconst 4, 1) := by decide +kernel
theorem dX5_says_7 : decode cX5_says 7 = .ok (.aload_n 0, 1) := by decide +kernel
theorem dX5_says_8 : decode cX5_says 8 = .ok (.getfield 99, 3) := by decide +kernel
theorem dX5_says_11 : decode cX5_says 11 = .ok (.imul, 1) := by decide +kernel
theorem dX5_says_12 : decode cX5_says 12 = .ok (.iload_n 1, 1) := by decide +kernel
theorem dX5_says_13 : decode cX5_says 13 = .ok (.iadd, 1) := by decide +kernel
theorem dX5_says_14 : decode cX5_says 14 = .ok (.iaload, 1) := by decide +kernel
theorem dX5_says_15 : decode cX5_says 15 = .ok (.istore_n 3, 1) := by decide +kernel
theorem dX5_says_16 : decode cX5_says 16 = .ok (.iload_n 3, 1) := by decide +kernel
theorem dX5_says_17 : decode cX5_says 17 = .ok (.aload_n 0, 1) := by decide +kernel
theorem dX5_says_18 : decode cX5_says 18 = .ok (.getfield 25, 3) := by decide +kernel
theorem dX5_says_21 : decode cX5_says 21 = .ok (.iconst 4, 1) := by decide +kernel
theorem dX5_says_22 : decode cX5_says 22 = .ok (.aload_n 0, 1) := by decide +kernel
theorem dX5_says_23 : decode cX5_says 23 = .ok (.getfield 99, 3) := by decide +kernel
theorem dX5_says_26 : decode cX5_says 26 = .ok (.imul, 1) := by decide +kernel
theorem dX5_says_27 : decode cX5_says 27 = .ok (.iload_n 1, 1) := by decide +kernel
theorem dX5_says_28 : decode cX5_says 28 = .ok (.iadd, 1) := by decide +kernel
theorem dX5_says_29 : decode cX5_says 29 = .ok (.iconst 1, 1) := by decide +kernel
theorem dX5_says_30 : decode cX5_says 30 = .ok (.iadd, 1) := by decide +kernel
theorem dX5_says_31 : decode cX5_says 31 = .ok (.iaload, 1) := by decide +kernel
theorem dX5_says_32 : decode cX5_says 32 = .ok (.if_icmp .ge 165, 3) := by decide +kernel
theorem dX5_says_35 : decode cX5_says 35 = .ok (.aload_n 0, 1) := by decide +kernel
theorem dX5_says_36 : decode cX5_says 36 = .ok (.getfield 22, 3) := by decide +kernel
theorem dX5_says_39 : decode cX5_says 39 = .ok (.sipush 200, 3) := by decide +kernel
theorem dX5_says_42 : decode cX5_says 42 = .ok (.aload_n 0, 1) := by decide +kernel
theorem dX5_says_43 : decode cX5_says 43 = .ok (.getfield 99, 3) := by decide +kernel
theorem dX5_says_46 : decode cX5_says 46 = .ok (.imul, 1) := by decide +kernel
theorem dX5_says_47 : decode cX5_says 47 = .ok (.iload_n 3, 1) := by decide +kernel
theorem dX5_says_48 : decode cX5_says 48 = .ok (.iadd, 1) := by decide +kernel
theorem dX5_says_49 : decode cX5_says 49 = .ok (.iaload, 1) := by decide +kernel
theorem dX5_says_50 : decode cX5_says 50 = .ok (.istore 4, 2) := by decide +kernel
theorem dX5_says_52 : decode cX5_says 52 = .ok (.iload 4, 2) := by decide +kernel
theorem dX5_says_54 : decode cX5_says 54 = .ok (.ldc 146, 2) := by decide +kernel
theorem dX5_says_56 : decode cX5_says 56 = .ok (.if_icmp .ge 10, 3) := by decide +kernel
theorem dX5_says_59 : decode cX5_says 59 = .ok (.iload 4, 2) := by decide +kernel
theorem dX5_says_61 : decode cX5_says 61 = .ok (.bipush 11, 2) := by decide +kernel
theorem dX5_says_63 : decode cX5_says 63 = .ok (.if_icmp .ge 37, 3) := by decide +kernel
theorem dX5_says_66 : decode cX5_says 66 = .ok (.aload_n 0, 1) := by decide +kernel
theorem dX5_says_67 : decode cX5_says 67 = .ok (.getfield 52, 3) := by decide +kernel
theorem dX5_says_70 : decode cX5_says 70 = .ok (.iload_n 2, 1) := by decide +kernel
theorem dX5_says_71 : decode cX5_says 71 = .ok (.iload 4, 2) := by decide +kernel
theorem dX5_says_73 : decode cX5_says 73 = .ok (.bipush 11, 2) := by decide +kernel
theorem dX5_says_75 : decode cX5_says 75 = .ok (.if_icmp .ge 13, 3) := by decide +kernel
theorem dX5_says_78 : decode cX5_says 78 = .ok (.aload_n 0, 1) := by decide +kernel
theorem dX5_says_79 : decode cX5_says 79 = .ok (.getfield 55, 3) := by decide +kernel
theorem dX5_says_82 : decode cX5_says 82 = .ok (.iload 4, 2) := by decide +kernel
theorem dX5_says_84 : decode cX5_says 84 = .ok (.iaload, 1) := by decide +kernel
theorem dX5_says_85 : decode cX5_says 85 = .ok (.goto 8, 3) := by decide +kernel
theorem dX5_says_88 : decode cX5_says 88 = .ok (.iload 4, 2) := by decide +kernel
theorem dX5_says_90 : decode cX5_says 90 = .ok (.ldc 146, 2) := by decide +kernel
theorem dX5_says_92 : decode cX5_says 92 = .ok (.isub, 1) := by decide +kernel
theorem dX5_says_93 : decode cX5_says 93 = .ok (.iastore, 1) := by decide +kernel
theorem dX5_says_94 : decode cX5_says 94 = .ok (.iinc 2 1, 3) := by decide +kernel
theorem dX5_says_97 : decode cX5_says 97 = .ok (.goto 94, 3) := by decide +kernel
theorem dX5_says_100 : decode cX5_says 100 = .ok (.iload 4, 2) := by decide +kernel
theorem dX5_says_102 : decode cX5_says 102 = .ok (.bipush 13, 2) := by decide +kernel
theorem dX5_says_104 : decode cX5_says 104 = .ok (.if_icmp .ne 30, 3) := by decide +kernel
theorem dX5_says_107 : decode cX5_says 107 = .ok (.aload_n 0, 1) := by decide +kernel
theorem dX5_says_108 : decode cX5_says 108 = .ok (.getfield 52, 3) := by decide +kernel
theorem dX5_says_111 : decode cX5_says 111 = .ok (.iload_n 2, 1) := by decide +kernel
theorem dX5_says_112 : decode cX5_says 112 = .ok (.iconst 1, 1) := by decide +kernel
theorem dX5_says_113 : decode cX5_says 113 = .ok (.isub, 1) := by decide +kernel
theorem dX5_says_114 : decode cX5_says 114 = .ok (.aload_n 0, 1) := by decide +kernel
theorem dX5_says_115 : decode cX5_says 115 = .ok (.getfield 52, 3) := by decide +kernel
theorem dX5_says_118 : decode cX5_says 118 = .ok (.iload_n 2, 1) := by decide +kernel
theorem dX5_says_119 : decode cX5_says 119 = .ok (.iconst 1, 1) := by decide +kernel
theorem dX5_says_120 : decode cX5_says 120 = .ok (.isub, 1) := by decide +kernel
theorem dX5_says_121 : decode cX5_says 121 = .ok (.iaload, 1) := by decide +kernel
theorem dX5_says_122 : decode cX5_says 122 = .ok (.ifCond .ne 7, 3) := by decide +kernel
theorem dX5_says_125 : decode cX5_says 125 = .ok (.iconst 1, 1) := by decide +kernel
theorem dX5_says_126 : decode cX5_says 126 = .ok (.goto 4, 3) := by decide +kernel
theorem dX5_says_129 : decode cX5_says 129 = .ok (.iconst 0, 1) := by decide +kernel
theorem dX5_says_130 : decode cX5_says 130 = .ok (.iastore, 1) := by decide +kernel
theorem dX5_says_131 : decode cX5_says 131 = .ok (.goto 60, 3) := by decide +kernel
theorem dX5_says_134 : decode cX5_says 134 = .ok (.iload 4, 2) := by decide +kernel
theorem dX5_says_136 : decode cX5_says 136 = .ok (.bipush 19, 2) := by decide +kernel
theorem dX5_says_138 : decode cX5_says 138 = .ok (.if_icmp .ne 23, 3) := by decide +kernel
theorem dX5_says_141 : decode cX5_says 141 = .ok (.aload_n 0, 1) := by decide +kernel
theorem dX5_says_142 : decode cX5_says 142 = .ok (.getfield 52, 3) := by decide +kernel
theorem dX5_says_145 : decode cX5_says 145 = .ok (.iload_n 2, 1) := by decide +kernel
theorem dX5_says_146 : decode cX5_says 146 = .ok (.iconst 1, 1) := by decide +kernel
theorem dX5_says_147 : decode cX5_says 147 = .ok (.isub, 1) := by decide +kernel
theorem dX5_says_148 : decode cX5_says 148 = .ok (.aload_n 0, 1) := by decide +kernel
theorem dX5_says_149 : decode cX5_says 149 = .ok (.getfield 52, 3) := by decide +kernel
theorem dX5_says_152 : decode cX5_says 152 = .ok (.iload_n 2, 1) := by decide +kernel
theorem dX5_says_153 : decode cX5_says 153 = .ok (.iconst 1, 1) := by decide +kernel
theorem dX5_says_154 : decode cX5_says 154 = .ok (.isub, 1) := by decide +kernel
theorem dX5_says_155 : decode cX5_says 155 = .ok (.iaload, 1) := by decide +kernel
theorem dX5_says_156 : decode cX5_says 156 = .ok (.ineg, 1) := by decide +kernel
theorem dX5_says_157 : decode cX5_says 157 = .ok (.iastore, 1) := by decide +kernel
theorem dX5_says_158 : decode cX5_says 158 = .ok (.goto 33, 3) := by decide +kernel
theorem dX5_says_161 : decode cX5_says 161 = .ok (.iinc 2 (-1), 3) := by decide +kernel
theorem dX5_says_164 : decode cX5_says 164 = .ok (.aload_n 0, 1) := by decide +kernel
theorem dX5_says_165 : decode cX5_says 165 = .ok (.getfield 52, 3) := by decide +kernel
theorem dX5_says_168 : decode cX5_says 168 = .ok (.iload_n 2, 1) := by decide +kernel
theorem dX5_says_169 : decode cX5_says 169 = .ok (.iconst 1, 1) := by decide +kernel
theorem dX5_says_170 : decode cX5_says 170 = .ok (.isub, 1) := by decide +kernel
theorem dX5_says_171 : decode cX5_says 171 = .ok (.iload 4, 2) := by decide +kernel
theorem dX5_says_173 : decode cX5_says 173 = .ok (.aload_n 0, 1) := by decide +kernel
theorem dX5_says_174 : decode cX5_says 174 = .ok (.getfield 52, 3) := by decide +kernel
theorem dX5_says_177 : decode cX5_says 177 = .ok (.iload_n 2, 1) := by decide +kernel
theorem dX5_says_178 : decode cX5_says 178 = .ok (.iconst 1, 1) := by decide +kernel
theorem dX5_says_179 : decode cX5_says 179 = .ok (.isub, 1) := by decide +kernel
theorem dX5_says_180 : decode cX5_says 180 = .ok (.iaload, 1) := by decide +kernel
theorem dX5_says_181 : decode cX5_says 181 = .ok (.aload_n 0, 1) := by decide +kernel
theorem dX5_says_182 : decode cX5_says 182 = .ok (.getfield 52, 3) := by decide +kernel
theorem dX5_says_185 : decode cX5_says 185 = .ok (.iload_n 2, 1) := by decide +kernel
theorem dX5_says_186 : decode cX5_says 186 = .ok (.iaload, 1) := by decide +kernel
theorem dX5_says_187 : decode cX5_says 187 = .ok (.invokestatic 160, 3) := by decide +kernel
theorem dX5_says_190 : decode cX5_says 190 = .ok (.iastore, 1) := by decide +kernel
theorem dX5_says_191 : decode cX5_says 191 = .ok (.iinc 3 1, 3) := by decide +kernel
theorem dX5_says_194 : decode cX5_says 194 = .ok (.goto (-178), 3) := by decide +kernel
theorem dX5_says_197 : decode cX5_says 197 = .ok (.aload_n 0, 1) := by decide +kernel
theorem dX5_says_198 : decode cX5_says 198 = .ok (.getfield 52, 3) := by decide +kernel
theorem dX5_says_201 : decode cX5_says 201 = .ok (.iconst 0, 1) := by decide +kernel
theorem dX5_says_202 : decode cX5_says 202 = .ok (.iaload, 1) := by decide +kernel
theorem dX5_says_203 : decode cX5_says 203 = .ok (.ireturn, 1) := by decide +kernel
theorem dX5_force_0 : decode cX5_force 0 = .ok (.iload_n 1, 1) := by decide +kernel
theorem dX5_force_1 : decode cX5_force 1 = .ok (.iconst 0, 1) := by decide +kernel
theorem dX5_force_2 : decode cX5_force 2 = .ok (.aload_n 0, 1) := by decide +kernel
theorem dX5_force_3 : decode cX5_force 3 = .ok (.getfield 96, 3) := by decide +kernel
theorem dX5_force_6 : decode cX5_force 6 = .ok (.iconst 1, 1) := by decide +kernel
theorem dX5_force_7 : decode cX5_force 7 = .ok (.isub, 1) := by decide +kernel
theorem dX5_force_8 : decode cX5_force 8 = .ok (.invokestatic 78, 3) := by decide +kernel
theorem dX5_force_11 : decode cX5_force 11 = .ok (.ifCond .ne 6, 3) := by decide +kernel
theorem dX5_force_14 : decode cX5_force 14 = .ok (.bipush (-2), 2) := by decide +kernel
theorem dX5_force_16 : decode cX5_force 16 = .ok (.ireturn, 1) := by decide +kernel
theorem dX5_force_17 : decode cX5_force 17 = .ok (.aload_n 0, 1) := by decide +kernel
theorem dX5_force_18 : decode cX5_force 18 = .ok (.getfield 99, 3) := by decide +kernel
theorem dX5_force_21 : decode cX5_force 21 = .ok (.istore_n 2, 1) := by decide +kernel
theorem dX5_force_22 : decode cX5_force 22 = .ok (.aload_n 0, 1) := by decide +kernel
theorem dX5_force_23 : decode cX5_force 23 = .ok (.iload_n 1, 1) := by decide +kernel
theorem dX5_force_24 : decode cX5_force 24 = .ok (.putfield 99, 3) := by decide +kernel
theorem dX5_force_27 : decode cX5_force 27 = .ok (.iload_n 2, 1) := by decide +kernel
theorem dX5_force_28 : decode cX5_force 28 = .ok (.ireturn, 1) := by decide +kernel
theorem dX5_asksOf_0 : decode cX5_asksOf 0 = .ok (.aload_n 0, 1) := by decide +kernel
theorem dX5_asksOf_1 : decode cX5_asksOf 1 = .ok (.getfield 55, 3) := by decide +kernel
theorem dX5_asksOf_4 : decode cX5_asksOf 4 = .ok (.iconst 0, 1) := by decide +kernel
theorem dX5_asksOf_5 : decode cX5_asksOf 5 = .ok (.iload_n 3, 1) := by decide +kernel
theorem dX5_asksOf_6 : decode cX5_asksOf 6 = .ok (.iastore, 1) := by decide +kernel
theorem dX5_asksOf_7 : decode cX5_asksOf 7 = .ok (.aload_n 0, 1) := by decide +kernel
theorem dX5_asksOf_8 : decode cX5_asksOf 8 = .ok (.getfield 55, 3) := by decide +kernel
theorem dX5_asksOf_11 : decode cX5_asksOf 11 = .ok (.iconst 1, 1) := by decide +kernel
theorem dX5_asksOf_12 : decode cX5_asksOf 12 = .ok (.aload_n 0, 1) := by decide +kernel
theorem dX5_asksOf_13 : decode cX5_asksOf 13 = .ok (.getfield 16, 3) := by decide +kernel
theorem dX5_asksOf_16 : decode cX5_asksOf 16 = .ok (.bipush 12, 2) := by decide +kernel
theorem dX5_asksOf_18 : decode cX5_asksOf 18 = .ok (.iload_n 2, 1) := by decide +kernel
theorem dX5_asksOf_19 : decode cX5_asksOf 19 = .ok (.imul, 1) := by decide +kernel
theorem dX5_asksOf_20 : decode cX5_asksOf 20 = .ok (.iload_n 3, 1) := by decide +kernel
theorem dX5_asksOf_21 : decode cX5_asksOf 21 = .ok (.iadd, 1) := by decide +kernel
theorem dX5_asksOf_22 : decode cX5_asksOf 22 = .ok (.iaload, 1) := by decide +kernel
theorem dX5_asksOf_23 : decode cX5_asksOf 23 = .ok (.iastore, 1) := by decide +kernel
theorem dX5_asksOf_24 : decode cX5_asksOf 24 = .ok (.aload_n 0, 1) := by decide +kernel
theorem dX5_asksOf_25 : decode cX5_asksOf 25 = .ok (.getfield 55, 3) := by decide +kernel
theorem dX5_asksOf_28 : decode cX5_asksOf 28 = .ok (.iconst 2, 1) := by decide +kernel
theorem dX5_asksOf_29 : decode cX5_asksOf 29 = .ok (.aload_n 0, 1) := by decide +kernel
theorem dX5_asksOf_30 : decode cX5_asksOf 30 = .ok (.getfield 16, 3) := by decide +kernel
theorem dX5_asksOf_33 : decode cX5_asksOf 33 = .ok (.bipush 12, 2) := by decide +kernel
theorem dX5_asksOf_35 : decode cX5_asksOf 35 = .ok (.iload_n 2, 1) := by decide +kernel
theorem dX5_asksOf_36 : decode cX5_asksOf 36 = .ok (.imul, 1) := by decide +kernel
theorem dX5_asksOf_37 : decode cX5_asksOf 37 = .ok (.bipush 8, 2) := by decide +kernel
theorem dX5_asksOf_39 : decode cX5_asksOf 39 = .ok (.iadd, 1) := by decide +kernel
theorem dX5_asksOf_40 : decode cX5_asksOf 40 = .ok (.iaload, 1) := by decide +kernel
theorem dX5_asksOf_41 : decode cX5_asksOf 41 = .ok (.iastore, 1) := by decide +kernel
theorem dX5_asksOf_42 : decode cX5_asksOf 42 = .ok (.aload_n 0, 1) := by decide +kernel
theorem dX5_asksOf_43 : decode cX5_asksOf 43 = .ok (.getfield 55, 3) := by decide +kernel
theorem dX5_asksOf_46 : decode cX5_asksOf 46 = .ok (.iconst 3, 1) := by decide +kernel
theorem dX5_asksOf_47 : decode cX5_asksOf 47 = .ok (.aload_n 0, 1) := by decide +kernel
theorem dX5_asksOf_48 : decode cX5_asksOf 48 = .ok (.getfield 16, 3) := by decide +kernel
theorem dX5_asksOf_51 : decode cX5_asksOf 51 = .ok (.bipush 12, 2) := by decide +kernel
theorem dX5_asksOf_53 : decode cX5_asksOf 53 = .ok (.iload_n 2, 1) := by decide +kernel
theorem dX5_asksOf_54 : decode cX5_asksOf 54 = .ok (.imul, 1) := by decide +kernel
theorem dX5_asksOf_55 : decode cX5_asksOf 55 = .ok (.bipush 9, 2) := by decide +kernel
theorem dX5_asksOf_57 : decode cX5_asksOf 57 = .ok (.iadd, 1) := by decide +kernel
theorem dX5_asksOf_58 : decode cX5_asksOf 58 = .ok (.iaload, 1) := by decide +kernel
theorem dX5_asksOf_59 : decode cX5_asksOf 59 = .ok (.invokestatic 92, 3) := by decide +kernel
theorem dX5_asksOf_62 : decode cX5_asksOf 62 = .ok (.iastore, 1) := by decide +kernel
theorem dX5_asksOf_63 : decode cX5_asksOf 63 = .ok (.aload_n 0, 1) := by decide +kernel
theorem dX5_asksOf_64 : decode cX5_asksOf 64 = .ok (.getfield 55, 3) := by decide +kernel
theorem dX5_asksOf_67 : decode cX5_asksOf 67 = .ok (.iconst 4, 1) := by decide +kernel
theorem dX5_asksOf_68 : decode cX5_asksOf 68 = .ok (.aload_n 0, 1) := by decide +kernel
theorem dX5_asksOf_69 : decode cX5_asksOf 69 = .ok (.getfield 86, 3) := by decide +kernel
theorem dX5_asksOf_72 : decode cX5_asksOf 72 = .ok (.iastore, 1) := by decide +kernel
theorem dX5_asksOf_73 : decode cX5_asksOf 73 = .ok (.aload_n 0, 1) := by decide +kernel
theorem dX5_asksOf_74 : decode cX5_asksOf 74 = .ok (.getfield 55, 3) := by decide +kernel
theorem dX5_asksOf_77 : decode cX5_asksOf 77 = .ok (.iconst 5, 1) := by decide +kernel
theorem dX5_asksOf_78 : decode cX5_asksOf 78 = .ok (.aload_n 0, 1) := by decide +kernel
theorem dX5_asksOf_79 : decode cX5_asksOf 79 = .ok (.getfield 13, 3) := by decide +kernel
theorem dX5_asksOf_82 : decode cX5_asksOf 82 = .ok (.iload_n 2, 1) := by decide +kernel
theorem dX5_asksOf_83 : decode cX5_asksOf 83 = .ok (.iaload, 1) := by decide +kernel
theorem dX5_asksOf_84 : decode cX5_asksOf 84 = .ok (.iastore, 1) := by decide +kernel
theorem dX5_asksOf_85 : decode cX5_asksOf 85 = .ok (.aload_n 0, 1) := by decide +kernel
theorem dX5_asksOf_86 : decode cX5_asksOf 86 = .ok (.iload_n 1, 1) := by decide +kernel
theorem dX5_asksOf_87 : decode cX5_asksOf 87 = .ok (.invokevirtual 164, 3) := by decide +kernel
theorem dX5_asksOf_90 : decode cX5_asksOf 90 = .ok (.iload_n 1, 1) := by decide +kernel
theorem dX5_asksOf_91 : decode cX5_asksOf 91 = .ok (.iconst 1, 1) := by decide +kernel
theorem dX5_asksOf_92 : decode cX5_asksOf 92 = .ok (.if_icmp .ne 8, 3) := by decide +kernel
theorem dX5_asksOf_95 : decode cX5_asksOf 95 = .ok (.bipush (-99), 2) := by decide +kernel
theorem dX5_asksOf_97 : decode cX5_asksOf 97 = .ok (.goto 4, 3) := by decide +kernel
theorem dX5_asksOf_100 : decode cX5_asksOf 100 = .ok (.iconst 0, 1) := by decide +kernel
theorem dX5_asksOf_101 : decode cX5_asksOf 101 = .ok (.iload_n 1, 1) := by decide +kernel
theorem dX5_asksOf_102 : decode cX5_asksOf 102 = .ok (.iconst 2, 1) := by decide +kernel
theorem dX5_asksOf_103 : decode cX5_asksOf 103 = .ok (.if_icmp .ne 8, 3) := by decide +kernel
theorem dX5_asksOf_106 : decode cX5_asksOf 106 = .ok (.bipush 9, 2) := by decide +kernel
theorem dX5_asksOf_108 : decode cX5_asksOf 108 = .ok (.goto 5, 3) := by decide +kernel
theorem dX5_asksOf_111 : decode cX5_asksOf 111 = .ok (.bipush 99, 2) := by decide +kernel
theorem dX5_asksOf_113 : decode cX5_asksOf 113 = .ok (.invokestatic 167, 3) := by decide +kernel
theorem dX5_asksOf_116 : decode cX5_asksOf 116 = .ok (.ireturn, 1) := by decide +kernel
theorem dX5_asks_0 : decode cX5_asks 0 = .ok (.iload_n 1, 1) := by decide +kernel
theorem dX5_asks_1 : decode cX5_asks 1 = .ok (.iconst 0, 1) := by decide +kernel
theorem dX5_asks_2 : decode cX5_asks 2 = .ok (.iconst 2, 1) := by decide +kernel
theorem dX5_asks_3 : decode cX5_asks 3 = .ok (.invokestatic 78, 3) := by decide +kernel
theorem dX5_asks_6 : decode cX5_asks 6 = .ok (.ifCond .eq 28, 3) := by decide +kernel
theorem dX5_asks_9 : decode cX5_asks 9 = .ok (.aload_n 0, 1) := by decide +kernel
theorem dX5_asks_10 : decode cX5_asks 10 = .ok (.iload_n 2, 1) := by decide +kernel
theorem dX5_asks_11 : decode cX5_asks 11 = .ok (.invokevirtual 170, 3) := by decide +kernel
theorem dX5_asks_14 : decode cX5_asks 14 = .ok (.ifCond .eq 20, 3) := by decide +kernel
theorem dX5_asks_17 : decode cX5_asks 17 = .ok (.iload_n 3, 1) := by decide +kernel
theorem dX5_asks_18 : decode cX5_asks 18 = .ok (.invokestatic 173, 3) := by decide +kernel
theorem dX5_asks_21 : decode cX5_asks 21 = .ok (.ifCond .eq 13, 3) := by decide +kernel
theorem dX5_asks_24 : decode cX5_asks 24 = .ok (.aload_n 0, 1) := by decide +kernel
theorem dX5_asks_25 : decode cX5_asks 25 = .ok (.iload_n 1, 1) := by decide +kernel
theorem dX5_asks_26 : decode cX5_asks 26 = .ok (.iload_n 2, 1) := by decide +kernel
theorem dX5_asks_27 : decode cX5_asks 27 = .ok (.iload_n 3, 1) := by decide +kernel
theorem dX5_asks_28 : decode cX5_asks 28 = .ok (.invokevirtual 176, 3) := by decide +kernel
theorem dX5_asks_31 : decode cX5_asks 31 = .ok (.goto 6, 3) := by decide +kernel
theorem dX5_asks_34 : decode cX5_asks 34 = .ok (.sipush (-1000), 3) := by decide +kernel
theorem dX5_asks_37 : decode cX5_asks 37 = .ok (.ireturn, 1) := by decide +kernel
theorem dX5_gentleman_0 : decode cX5_gentleman 0 = .ok (.iload_n 1, 1) := by decide +kernel
theorem dX5_gentleman_1 : decode cX5_gentleman 1 = .ok (.iconst 0, 1) := by decide +kernel
theorem dX5_gentleman_2 : decode cX5_gentleman 2 = .ok (.bipush 59, 2) := by decide +kernel
theorem dX5_gentleman_4 : decode cX5_gentleman 4 = .ok (.invokestatic 78, 3) := by decide +kernel
theorem dX5_gentleman_7 : decode cX5_gentleman 7 = .ok (.ifCond .eq 13, 3) := by decide +kernel
theorem dX5_gentleman_10 : decode cX5_gentleman 10 = .ok (.iload_n 2, 1) := by decide +kernel
theorem dX5_gentleman_11 : decode cX5_gentleman 11 = .ok (.iconst 0, 1) := by decide +kernel
theorem dX5_gentleman_12 : decode cX5_gentleman 12 = .ok (.bipush 9, 2) := by decide +kernel
theorem dX5_gentleman_14 : decode cX5_gentleman 14 = .ok (.invokestatic 78, 3) := by decide +kernel
theorem dX5_gentleman_17 : decode cX5_gentleman 17 = .ok (.ifCond .ne 6, 3) := by decide +kernel
theorem dX5_gentleman_20 : decode cX5_gentleman 20 = .ok (.bipush (-2), 2) := by decide +kernel
theorem dX5_gentleman_22 : decode cX5_gentleman 22 = .ok (.ireturn, 1) := by decide +kernel
theorem dX5_gentleman_23 : decode cX5_gentleman 23 = .ok (.aload_n 0, 1) := by decide +kernel
theorem dX5_gentleman_24 : decode cX5_gentleman 24 = .ok (.getfield 75, 3) := by decide +kernel
theorem dX5_gentleman_27 : decode cX5_gentleman 27 = .ok (.bipush 6, 2) := by decide +kernel
theorem dX5_gentleman_29 : decode cX5_gentleman 29 = .ok (.if_icmp .ne 6, 3) := by decide +kernel
theorem dX5_gentleman_32 : decode cX5_gentleman 32 = .ok (.bipush (-4), 2) := by decide +kernel
theorem dX5_gentleman_34 : decode cX5_gentleman 34 = .ok (.ireturn, 1) := by decide +kernel
theorem dX5_gentleman_35 : decode cX5_gentleman 35 = .ok (.aload_n 0, 1) := by decide +kernel
theorem dX5_gentleman_36 : decode cX5_gentleman 36 = .ok (.getfield 7, 3) := by decide +kernel
theorem dX5_gentleman_39 : decode cX5_gentleman 39 = .ok (.aload_n 0, 1) := by decide +kernel
theorem dX5_gentleman_40 : decode cX5_gentleman 40 = .ok (.getfield 75, 3) := by decide +kernel
theorem dX5_gentleman_43 : decode cX5_gentleman 43 = .ok (.iload_n 1, 1) := by decide +kernel
theorem dX5_gentleman_44 : decode cX5_gentleman 44 = .ok (.bipush 10, 2) := by decide +kernel
theorem dX5_gentleman_46 : decode cX5_gentleman 46 = .ok (.idiv, 1) := by decide +kernel
theorem dX5_gentleman_47 : decode cX5_gentleman 47 = .ok (.iastore, 1) := by decide +kernel
theorem dX5_gentleman_48 : decode cX5_gentleman 48 = .ok (.aload_n 0, 1) := by decide +kernel
theorem dX5_gentleman_49 : decode cX5_gentleman 49 = .ok (.getfield 13, 3) := by decide +kernel
theorem dX5_gentleman_52 : decode cX5_gentleman 52 = .ok (.aload_n 0, 1) := by decide +kernel
theorem dX5_gentleman_53 : decode cX5_gentleman 53 = .ok (.getfield 75, 3) := by decide +kernel
theorem dX5_gentleman_56 : decode cX5_gentleman 56 = .ok (.iload_n 1, 1) := by decide +kernel
theorem dX5_gentleman_57 : decode cX5_gentleman 57 = .ok (.bipush 10, 2) := by decide +kernel
theorem dX5_gentleman_59 : decode cX5_gentleman 59 = .ok (.irem, 1) := by decide +kernel
theorem dX5_gentleman_60 : decode cX5_gentleman 60 = .ok (.iastore, 1) := by decide +kernel
theorem dX5_gentleman_61 : decode cX5_gentleman 61 = .ok (.iconst 0, 1) := by decide +kernel
theorem dX5_gentleman_62 : decode cX5_gentleman 62 = .ok (.istore_n 3, 1) := by decide +kernel
theorem dX5_gentleman_63 : decode cX5_gentleman 63 = .ok (.iload_n 3, 1) := by decide +kernel
theorem dX5_gentleman_64 : decode cX5_gentleman 64 = .ok (.bipush 8, 2) := by decide +kernel
theorem dX5_gentleman_66 : decode cX5_gentleman 66 = .ok (.if_icmp .ge 24, 3) := by decide +kernel
theorem dX5_gentleman_69 : decode cX5_gentleman 69 = .ok (.aload_n 0, 1) := by decide +kernel
theorem dX5_gentleman_70 : decode cX5_gentleman 70 = .ok (.getfield 16, 3) := by decide +kernel
theorem dX5_gentleman_73 : decode cX5_gentleman 73 = .ok (.bipush 12, 2) := by decide +kernel
theorem dX5_gentleman_75 : decode cX5_gentleman 75 = .ok (.aload_n 0, 1) := by decide +kernel
theorem dX5_gentleman_76 : decode cX5_gentleman 76 = .ok (.getfield 75, 3) := by decide +kernel
theorem dX5_gentleman_79 : decode cX5_gentleman 79 = .ok (.imul, 1) := by decide +kernel
theorem dX5_gentleman_80 : decode cX5_gentleman 80 = .ok (.iload_n 3, 1) := by decide +kernel
theorem dX5_gentleman_81 : decode cX5_gentleman 81 = .ok (.iadd, 1) := by decide +kernel
theorem dX5_gentleman_82 : decode cX5_gentleman 82 = .ok (.iload_n 2, 1) := by decide +kernel
theorem dX5_gentleman_83 : decode cX5_gentleman 83 = .ok (.iastore, 1) := by decide +kernel
theorem dX5_gentleman_84 : decode cX5_gentleman 84 = .ok (.iinc 3 1, 3) := by decide +kernel
theorem dX5_gentleman_87 : decode cX5_gentleman 87 = .ok (.goto (-24), 3) := by decide +kernel
theorem dX5_gentleman_90 : decode cX5_gentleman 90 = .ok (.aload_n 0, 1) := by decide +kernel
theorem dX5_gentleman_91 : decode cX5_gentleman 91 = .ok (.getfield 16, 3) := by decide +kernel
theorem dX5_gentleman_94 : decode cX5_gentleman 94 = .ok (.bipush 12, 2) := by decide +kernel
theorem dX5_gentleman_96 : decode cX5_gentleman 96 = .ok (.aload_n 0, 1) := by decide +kernel
theorem dX5_gentleman_97 : decode cX5_gentleman 97 = .ok (.getfield 75, 3) := by decide +kernel
theorem dX5_gentleman_100 : decode cX5_gentleman 100 = .ok (.imul, 1) := by decide +kernel
theorem dX5_gentleman_101 : decode cX5_gentleman 101 = .ok (.bipush 8, 2) := by decide +kernel
theorem dX5_gentleman_103 : decode cX5_gentleman 103 = .ok (.iadd, 1) := by decide +kernel
theorem dX5_gentleman_104 : decode cX5_gentleman 104 = .ok (.iconst 0, 1) := by decide +kernel
theorem dX5_gentleman_105 : decode cX5_gentleman 105 = .ok (.iastore, 1) := by decide +kernel
theorem dX5_gentleman_106 : decode cX5_gentleman 106 = .ok (.aload_n 0, 1) := by decide +kernel
theorem dX5_gentleman_107 : decode cX5_gentleman 107 = .ok (.getfield 16, 3) := by decide +kernel
theorem dX5_gentleman_110 : decode cX5_gentleman 110 = .ok (.bipush 12, 2) := by decide +kernel
theorem dX5_gentleman_112 : decode cX5_gentleman 112 = .ok (.aload_n 0, 1) := by decide +kernel
theorem dX5_gentleman_113 : decode cX5_gentleman 113 = .ok (.getfield 75, 3) := by decide +kernel
theorem dX5_gentleman_116 : decode cX5_gentleman 116 = .ok (.imul, 1) := by decide +kernel
theorem dX5_gentleman_117 : decode cX5_gentleman 117 = .ok (.bipush 9, 2) := by decide +kernel
theorem dX5_gentleman_119 : decode cX5_gentleman 119 = .ok (.iadd, 1) := by decide +kernel
theorem dX5_gentleman_120 : decode cX5_gentleman 120 = .ok (.iconst 0, 1) := by decide +kernel
theorem dX5_gentleman_121 : decode cX5_gentleman 121 = .ok (.iastore, 1) := by decide +kernel
theorem dX5_gentleman_122 : decode cX5_gentleman 122 = .ok (.aload_n 0, 1) := by decide +kernel
theorem dX5_gentleman_123 : decode cX5_gentleman 123 = .ok (.getfield 16, 3) := by decide +kernel
theorem dX5_gentleman_126 : decode cX5_gentleman 126 = .ok (.bipush 12, 2) := by decide +kernel
theorem dX5_gentleman_128 : decode cX5_gentleman 128 = .ok (.aload_n 0, 1) := by decide +kernel
theorem dX5_gentleman_129 : decode cX5_gentleman 129 = .ok (.getfield 75, 3) := by decide +kernel
theorem dX5_gentleman_132 : decode cX5_gentleman 132 = .ok (.imul, 1) := by decide +kernel
theorem dX5_gentleman_133 : decode cX5_gentleman 133 = .ok (.bipush 10, 2) := by decide +kernel
theorem dX5_gentleman_135 : decode cX5_gentleman 135 = .ok (.iadd, 1) := by decide +kernel
theorem dX5_gentleman_136 : decode cX5_gentleman 136 = .ok (.iconst (-1), 1) := by decide +kernel
theorem dX5_gentleman_137 : decode cX5_gentleman 137 = .ok (.iastore, 1) := by decide +kernel
theorem dX5_gentleman_138 : decode cX5_gentleman 138 = .ok (.aload_n 0, 1) := by decide +kernel
theorem dX5_gentleman_139 : decode cX5_gentleman 139 = .ok (.getfield 16, 3) := by decide +kernel
theorem dX5_gentleman_142 : decode cX5_gentleman 142 = .ok (.bipush 12, 2) := by decide +kernel
theorem dX5_gentleman_144 : decode cX5_gentleman 144 = .ok (.aload_n 0, 1) := by decide +kernel
theorem dX5_gentleman_145 : decode cX5_gentleman 145 = .ok (.getfield 75, 3) := by decide +kernel
theorem dX5_gentleman_148 : decode cX5_gentleman 148 = .ok (.imul, 1) := by decide +kernel
theorem dX5_gentleman_149 : decode cX5_gentleman 149 = .ok (.bipush 11, 2) := by decide +kernel
theorem dX5_gentleman_151 : decode cX5_gentleman 151 = .ok (.iadd, 1) := by decide +kernel
theorem dX5_gentleman_152 : decode cX5_gentleman 152 = .ok (.iconst 0, 1) := by decide +kernel
theorem dX5_gentleman_153 : decode cX5_gentleman 153 = .ok (.iastore, 1) := by decide +kernel
theorem dX5_gentleman_154 : decode cX5_gentleman 154 = .ok (.aload_n 0, 1) := by decide +kernel
theorem dX5_gentleman_155 : decode cX5_gentleman 155 = .ok (.dup, 1) := by decide +kernel
theorem dX5_gentleman_156 : decode cX5_gentleman 156 = .ok (.getfield 75, 3) := by decide +kernel
theorem dX5_gentleman_159 : decode cX5_gentleman 159 = .ok (.iconst 1, 1) := by decide +kernel
theorem dX5_gentleman_160 : decode cX5_gentleman 160 = .ok (.iadd, 1) := by decide +kernel
theorem dX5_gentleman_161 : decode cX5_gentleman 161 = .ok (.putfield 75, 3) := by decide +kernel
theorem dX5_gentleman_164 : decode cX5_gentleman 164 = .ok (.aload_n 0, 1) := by decide +kernel
theorem dX5_gentleman_165 : decode cX5_gentleman 165 = .ok (.getfield 75, 3) := by decide +kernel
theorem dX5_gentleman_168 : decode cX5_gentleman 168 = .ok (.iconst 1, 1) := by decide +kernel
theorem dX5_gentleman_169 : decode cX5_gentleman 169 = .ok (.isub, 1) := by decide +kernel
theorem dX5_gentleman_170 : decode cX5_gentleman 170 = .ok (.ireturn, 1) := by decide +kernel
theorem dX5_put_0 : decode cX5_put 0 = .ok (.aload_n 0, 1) := by decide +kernel
theorem dX5_put_1 : decode cX5_put 1 = .ok (.iload_n 1, 1) := by decide +kernel
theorem dX5_put_2 : decode cX5_put 2 = .ok (.invokevirtual 170, 3) := by decide +kernel
theorem dX5_put_5 : decode cX5_put 5 = .ok (.ifCond .ne 6, 3) := by decide +kernel
theorem dX5_put_8 : decode cX5_put 8 = .ok (.bipush (-5), 2) := by decide +kernel
theorem dX5_put_10 : decode cX5_put 10 = .ok (.ireturn, 1) := by decide +kernel
theorem dX5_put_11 : decode cX5_put 11 = .ok (.iload_n 2, 1) := by decide +kernel
theorem dX5_put_12 : decode cX5_put 12 = .ok (.iconst 0, 1) := by decide +kernel
theorem dX5_put_13 : decode cX5_put 13 = .ok (.bipush 8, 2) := by decide +kernel
theorem dX5_put_15 : decode cX5_put 15 = .ok (.invokestatic 78, 3) := by decide +kernel
theorem dX5_put_18 : decode cX5_put 18 = .ok (.ifCond .eq 24, 3) := by decide +kernel
theorem dX5_put_21 : decode cX5_put 21 = .ok (.iload_n 3, 1) := by decide +kernel
theorem dX5_put_22 : decode cX5_put 22 = .ok (.iconst 0, 1) := by decide +kernel
theorem dX5_put_23 : decode cX5_put 23 = .ok (.iload_n 2, 1) := by decide +kernel
theorem dX5_put_24 : decode cX5_put 24 = .ok (.bipush 8, 2) := by decide +kernel
theorem dX5_put_26 : decode cX5_put 26 = .ok (.if_icmp .ne 8, 3) := by decide +kernel
theorem dX5_put_29 : decode cX5_put 29 = .ok (.bipush 99, 2) := by decide +kernel
theorem dX5_put_31 : decode cX5_put 31 = .ok (.goto 5, 3) := by decide +kernel
theorem dX5_put_34 : decode cX5_put 34 = .ok (.bipush 9, 2) := by decide +kernel
theorem dX5_put_36 : decode cX5_put 36 = .ok (.invokestatic 78, 3) := by decide +kernel
theorem dX5_put_39 : decode cX5_put 39 = .ok (.ifCond .ne 6, 3) := by decide +kernel
theorem dX5_put_42 : decode cX5_put 42 = .ok (.bipush (-7), 2) := by decide +kernel
theorem dX5_put_44 : decode cX5_put 44 = .ok (.ireturn, 1) := by decide +kernel
theorem dX5_put_45 : decode cX5_put 45 = .ok (.aload_n 0, 1) := by decide +kernel
theorem dX5_put_46 : decode cX5_put 46 = .ok (.getfield 16, 3) := by decide +kernel
theorem dX5_put_49 : decode cX5_put 49 = .ok (.bipush 12, 2) := by decide +kernel
theorem dX5_put_51 : decode cX5_put 51 = .ok (.iload_n 1, 1) := by decide +kernel
theorem dX5_put_52 : decode cX5_put 52 = .ok (.imul, 1) := by decide +kernel
theorem dX5_put_53 : decode cX5_put 53 = .ok (.iload_n 2, 1) := by decide +kernel
theorem dX5_put_54 : decode cX5_put 54 = .ok (.iadd, 1) := by decide +kernel
theorem dX5_put_55 : decode cX5_put 55 = .ok (.iaload, 1) := by decide +kernel
theorem dX5_put_56 : decode cX5_put 56 = .ok (.istore 4, 2) := by decide +kernel
theorem dX5_put_58 : decode cX5_put 58 = .ok (.aload_n 0, 1) := by decide +kernel
theorem dX5_put_59 : decode cX5_put 59 = .ok (.getfield 16, 3) := by decide +kernel
theorem dX5_put_62 : decode cX5_put 62 = .ok (.bipush 12, 2) := by decide +kernel
theorem dX5_put_64 : decode cX5_put 64 = .ok (.iload_n 1, 1) := by decide +kernel
theorem dX5_put_65 : decode cX5_put 65 = .ok (.imul, 1) := by decide +kernel
theorem dX5_put_66 : decode cX5_put 66 = .ok (.iload_n 2, 1) := by decide +kernel
theorem dX5_put_67 : decode cX5_put 67 = .ok (.iadd, 1) := by decide +kernel
theorem dX5_put_68 : decode cX5_put 68 = .ok (.iload_n 3, 1) := by decide +kernel
theorem dX5_put_69 : decode cX5_put 69 = .ok (.iastore, 1) := by decide +kernel
theorem dX5_put_70 : decode cX5_put 70 = .ok (.iload 4, 2) := by decide +kernel
theorem dX5_put_72 : decode cX5_put 72 = .ok (.ireturn, 1) := by decide +kernel
theorem dX5_told_0 : decode cX5_told 0 = .ok (.aload_n 0, 1) := by decide +kernel
theorem dX5_told_1 : decode cX5_told 1 = .ok (.iload_n 1, 1) := by decide +kernel
theorem dX5_told_2 : decode cX5_told 2 = .ok (.invokevirtual 170, 3) := by decide +kernel
theorem dX5_told_5 : decode cX5_told 5 = .ok (.ifCond .ne 6, 3) := by decide +kernel
theorem dX5_told_8 : decode cX5_told 8 = .ok (.bipush (-5), 2) := by decide +kernel
theorem dX5_told_10 : decode cX5_told 10 = .ok (.ireturn, 1) := by decide +kernel
theorem dX5_told_11 : decode cX5_told 11 = .ok (.iload_n 2, 1) := by decide +kernel
theorem dX5_told_12 : decode cX5_told 12 = .ok (.iconst 0, 1) := by decide +kernel
theorem dX5_told_13 : decode cX5_told 13 = .ok (.bipush 8, 2) := by decide +kernel
theorem dX5_told_15 : decode cX5_told 15 = .ok (.invokestatic 78, 3) := by decide +kernel
theorem dX5_told_18 : decode cX5_told 18 = .ok (.ifCond .eq 15, 3) := by decide +kernel
theorem dX5_told_21 : decode cX5_told 21 = .ok (.aload_n 0, 1) := by decide +kernel
theorem dX5_told_22 : decode cX5_told 22 = .ok (.getfield 16, 3) := by decide +kernel
theorem dX5_told_25 : decode cX5_told 25 = .ok (.bipush 12, 2) := by decide +kernel
theorem dX5_told_27 : decode cX5_told 27 = .ok (.iload_n 1, 1) := by decide +kernel
theorem dX5_told_28 : decode cX5_told 28 = .ok (.imul, 1) := by decide +kernel
theorem dX5_told_29 : decode cX5_told 29 = .ok (.iload_n 2, 1) := by decide +kernel
theorem dX5_told_30 : decode cX5_told 30 = .ok (.iadd, 1) := by decide +kernel
theorem dX5_told_31 : decode cX5_told 31 = .ok (.iaload, 1) := by decide +kernel
theorem dX5_told_32 : decode cX5_told 32 = .ok (.ireturn, 1) := by decide +kernel
theorem dX5_told_33 : decode cX5_told 33 = .ok (.iload_n 2, 1) := by decide +kernel
theorem dX5_told_34 : decode cX5_told 34 = .ok (.tableswitch 62 9 13 #[34, 41, 48, 48, 48], 34) := by decide +kernel
theorem dX5_told_68 : decode cX5_told 68 = .ok (.aload_n 0, 1) := by decide +kernel
theorem dX5_told_69 : decode cX5_told 69 = .ok (.getfield 7, 3) := by decide +kernel
theorem dX5_told_72 : decode cX5_told 72 = .ok (.iload_n 1, 1) := by decide +kernel
theorem dX5_told_73 : decode cX5_told 73 = .ok (.iaload, 1) := by decide +kernel
theorem dX5_told_74 : decode cX5_told 74 = .ok (.ireturn, 1) := by decide +kernel
theorem dX5_told_75 : decode cX5_told 75 = .ok (.aload_n 0, 1) := by decide +kernel
theorem dX5_told_76 : decode cX5_told 76 = .ok (.getfield 13, 3) := by decide +kernel
theorem dX5_told_79 : decode cX5_told 79 = .ok (.iload_n 1, 1) := by decide +kernel
theorem dX5_told_80 : decode cX5_told 80 = .ok (.iaload, 1) := by decide +kernel
theorem dX5_told_81 : decode cX5_told 81 = .ok (.ireturn, 1) := by decide +kernel
theorem dX5_told_82 : decode cX5_told 82 = .ok (.aload_n 0, 1) := by decide +kernel
theorem dX5_told_83 : decode cX5_told 83 = .ok (.getfield 16, 3) := by decide +kernel
theorem dX5_told_86 : decode cX5_told 86 = .ok (.bipush 12, 2) := by decide +kernel
theorem dX5_told_88 : decode cX5_told 88 = .ok (.iload_n 1, 1) := by decide +kernel
theorem dX5_told_89 : decode cX5_told 89 = .ok (.imul, 1) := by decide +kernel
theorem dX5_told_90 : decode cX5_told 90 = .ok (.iload_n 2, 1) := by decide +kernel
theorem dX5_told_91 : decode cX5_told 91 = .ok (.iadd, 1) := by decide +kernel
theorem dX5_told_92 : decode cX5_told 92 = .ok (.iconst 2, 1) := by decide +kernel
theorem dX5_told_93 : decode cX5_told 93 = .ok (.isub, 1) := by decide +kernel
theorem dX5_told_94 : decode cX5_told 94 = .ok (.iaload, 1) := by decide +kernel
theorem dX5_told_95 : decode cX5_told 95 = .ok (.ireturn, 1) := by decide +kernel
theorem dX5_told_96 : decode cX5_told 96 = .ok (.bipush (-7), 2) := by decide +kernel
theorem dX5_told_98 : decode cX5_told 98 = .ok (.ireturn, 1) := by decide +kernel
theorem dX5_goneOf_0 : decode cX5_goneOf 0 = .ok (.aload_n 0, 1) := by decide +kernel
theorem dX5_goneOf_1 : decode cX5_goneOf 1 = .ok (.getfield 7, 3) := by decide +kernel
theorem dX5_goneOf_4 : decode cX5_goneOf 4 = .ok (.iload_n 1, 1) := by decide +kernel
theorem dX5_goneOf_5 : decode cX5_goneOf 5 = .ok (.iaload, 1) := by decide +kernel
theorem dX5_goneOf_6 : decode cX5_goneOf 6 = .ok (.iconst 5, 1) := by decide +kernel
theorem dX5_goneOf_7 : decode cX5_goneOf 7 = .ok (.if_icmp .ne 24, 3) := by decide +kernel
theorem dX5_goneOf_10 : decode cX5_goneOf 10 = .ok (.aload_n 0, 1) := by decide +kernel
theorem dX5_goneOf_11 : decode cX5_goneOf 11 = .ok (.getfield 13, 3) := by decide +kernel
theorem dX5_goneOf_14 : decode cX5_goneOf 14 = .ok (.iload_n 1, 1) := by decide +kernel
theorem dX5_goneOf_15 : decode cX5_goneOf 15 = .ok (.iaload, 1) := by decide +kernel
theorem dX5_goneOf_16 : decode cX5_goneOf 16 = .ok (.iconst 1, 1) := by decide +kernel
theorem dX5_goneOf_17 : decode cX5_goneOf 17 = .ok (.if_icmp .ge 7, 3) := by decide +kernel
theorem dX5_goneOf_20 : decode cX5_goneOf 20 = .ok (.iconst 1, 1) := by decide +kernel
theorem dX5_goneOf_21 : decode cX5_goneOf 21 = .ok (.goto 9, 3) := by decide +kernel
theorem dX5_goneOf_24 : decode cX5_goneOf 24 = .ok (.aload_n 0, 1) := by decide +kernel
theorem dX5_goneOf_25 : decode cX5_goneOf 25 = .ok (.getfield 13, 3) := by decide +kernel
theorem dX5_goneOf_28 : decode cX5_goneOf 28 = .ok (.iload_n 1, 1) := by decide +kernel
theorem dX5_goneOf_29 : decode cX5_goneOf 29 = .ok (.iaload, 1) := by decide +kernel
theorem dX5_goneOf_30 : decode cX5_goneOf 30 = .ok (.ireturn, 1) := by decide +kernel
theorem dX5_goneOf_31 : decode cX5_goneOf 31 = .ok (.aload_n 0, 1) := by decide +kernel
theorem dX5_goneOf_32 : decode cX5_goneOf 32 = .ok (.iconst 0, 1) := by decide +kernel
theorem dX5_goneOf_33 : decode cX5_goneOf 33 = .ok (.iload_n 1, 1) := by decide +kernel
theorem dX5_goneOf_34 : decode cX5_goneOf 34 = .ok (.iload_n 2, 1) := by decide +kernel
theorem dX5_goneOf_35 : decode cX5_goneOf 35 = .ok (.invokevirtual 176, 3) := by decide +kernel
theorem dX5_goneOf_38 : decode cX5_goneOf 38 = .ok (.istore_n 3, 1) := by decide +kernel
theorem dX5_goneOf_39 : decode cX5_goneOf 39 = .ok (.iload_n 3, 1) := by decide +kernel
theorem dX5_goneOf_40 : decode cX5_goneOf 40 = .ok (.istore 4, 2) := by decide +kernel
theorem dX5_goneOf_42 : decode cX5_goneOf 42 = .ok (.aload_n 0, 1) := by decide +kernel
theorem dX5_goneOf_43 : decode cX5_goneOf 43 = .ok (.getfield 7, 3) := by decide +kernel
theorem dX5_goneOf_46 : decode cX5_goneOf 46 = .ok (.iload_n 1, 1) := by decide +kernel
theorem dX5_goneOf_47 : decode cX5_goneOf 47 = .ok (.iaload, 1) := by decide +kernel
theorem dX5_goneOf_48 : decode cX5_goneOf 48 = .ok (.tableswitch 96 1 4 #[32, 40, 49, 74], 32) := by decide +kernel
theorem dX5_goneOf_80 : decode cX5_goneOf 80 = .ok (.iload_n 3, 1) := by decide +kernel
theorem dX5_goneOf_81 : decode cX5_goneOf 81 = .ok (.iconst 2, 1) := by decide +kernel
theorem dX5_goneOf_82 : decode cX5_goneOf 82 = .ok (.idiv, 1) := by decide +kernel
theorem dX5_goneOf_83 : decode cX5_goneOf 83 = .ok (.istore 4, 2) := by decide +kernel
theorem dX5_goneOf_85 : decode cX5_goneOf 85 = .ok (.goto 62, 3) := by decide +kernel
theorem dX5_goneOf_88 : decode cX5_goneOf 88 = .ok (.iload_n 3, 1) := by decide +kernel
theorem dX5_goneOf_89 : decode cX5_goneOf 89 = .ok (.bipush 10, 2) := by decide +kernel
theorem dX5_goneOf_91 : decode cX5_goneOf 91 = .ok (.iadd, 1) := by decide +kernel
theorem dX5_goneOf_92 : decode cX5_goneOf 92 = .ok (.istore 4, 2) := by decide +kernel
theorem dX5_goneOf_94 : decode cX5_goneOf 94 = .ok (.goto 53, 3) := by decide +kernel
theorem dX5_goneOf_97 : decode cX5_goneOf 97 = .ok (.iload_n 2, 1) := by decide +kernel
theorem dX5_goneOf_98 : decode cX5_goneOf 98 = .ok (.aload_n 0, 1) := by decide +kernel
theorem dX5_goneOf_99 : decode cX5_goneOf 99 = .ok (.getfield 13, 3) := by decide +kernel
theorem dX5_goneOf_102 : decode cX5_goneOf 102 = .ok (.iload_n 1, 1) := by decide +kernel
theorem dX5_goneOf_103 : decode cX5_goneOf 103 = .ok (.iaload, 1) := by decide +kernel
theorem dX5_goneOf_104 : decode cX5_goneOf 104 = .ok (.bipush 8, 2) := by decide +kernel
theorem dX5_goneOf_106 : decode cX5_goneOf 106 = .ok (.irem, 1) := by decide +kernel
theorem dX5_goneOf_107 : decode cX5_goneOf 107 = .ok (.if_icmp .ne 7, 3) := by decide +kernel
theorem dX5_goneOf_110 : decode cX5_goneOf 110 = .ok (.iconst 1, 1) := by decide +kernel
theorem dX5_goneOf_111 : decode cX5_goneOf 111 = .ok (.goto 6, 3) := by decide +kernel
theorem dX5_goneOf_114 : decode cX5_goneOf 114 = .ok (.iload_n 3, 1) := by decide +kernel
theorem dX5_goneOf_115 : decode cX5_goneOf 115 = .ok (.iconst 2, 1) := by decide +kernel
theorem dX5_goneOf_116 : decode cX5_goneOf 116 = .ok (.idiv, 1) := by decide +kernel
theorem dX5_goneOf_117 : decode cX5_goneOf 117 = .ok (.istore 4, 2) := by decide +kernel
theorem dX5_goneOf_119 : decode cX5_goneOf 119 = .ok (.goto 28, 3) := by decide +kernel
theorem dX5_goneOf_122 : decode cX5_goneOf 122 = .ok (.iload_n 2, 1) := by decide +kernel
theorem dX5_goneOf_123 : decode cX5_goneOf 123 = .ok (.bipush 7, 2) := by decide +kernel
theorem dX5_goneOf_125 : decode cX5_goneOf 125 = .ok (.if_icmp .ne 8, 3) := by decide +kernel
theorem dX5_goneOf_128 : decode cX5_goneOf 128 = .ok (.bipush 99, 2) := by decide +kernel
theorem dX5_goneOf_130 : decode cX5_goneOf 130 = .ok (.goto 9, 3) := by decide +kernel
theorem dX5_goneOf_133 : decode cX5_goneOf 133 = .ok (.iload_n 3, 1) := by decide +kernel
theorem dX5_goneOf_134 : decode cX5_goneOf 134 = .ok (.bipush 10, 2) := by decide +kernel
theorem dX5_goneOf_136 : decode cX5_goneOf 136 = .ok (.iadd, 1) := by decide +kernel
theorem dX5_goneOf_137 : decode cX5_goneOf 137 = .ok (.iconst 3, 1) := by decide +kernel
theorem dX5_goneOf_138 : decode cX5_goneOf 138 = .ok (.idiv, 1) := by decide +kernel
theorem dX5_goneOf_139 : decode cX5_goneOf 139 = .ok (.istore 4, 2) := by decide +kernel
theorem dX5_goneOf_141 : decode cX5_goneOf 141 = .ok (.goto 6, 3) := by decide +kernel
theorem dX5_goneOf_144 : decode cX5_goneOf 144 = .ok (.iload_n 3, 1) := by decide +kernel
theorem dX5_goneOf_145 : decode cX5_goneOf 145 = .ok (.istore 4, 2) := by decide +kernel
theorem dX5_goneOf_147 : decode cX5_goneOf 147 = .ok (.iload 4, 2) := by decide +kernel
theorem dX5_goneOf_149 : decode cX5_goneOf 149 = .ok (.iconst 1, 1) := by decide +kernel
theorem dX5_goneOf_150 : decode cX5_goneOf 150 = .ok (.if_icmp .ge 7, 3) := by decide +kernel
theorem dX5_goneOf_153 : decode cX5_goneOf 153 = .ok (.iconst 1, 1) := by decide +kernel
theorem dX5_goneOf_154 : decode cX5_goneOf 154 = .ok (.goto 5, 3) := by decide +kernel
theorem dX5_goneOf_157 : decode cX5_goneOf 157 = .ok (.iload 4, 2) := by decide +kernel
theorem dX5_goneOf_159 : decode cX5_goneOf 159 = .ok (.ireturn, 1) := by decide +kernel
theorem dX5_gainsOf_0 : decode cX5_gainsOf 0 = .ok (.aload_n 0, 1) := by decide +kernel
theorem dX5_gainsOf_1 : decode cX5_gainsOf 1 = .ok (.iconst 1, 1) := by decide +kernel
theorem dX5_gainsOf_2 : decode cX5_gainsOf 2 = .ok (.iload_n 1, 1) := by decide +kernel
theorem dX5_gainsOf_3 : decode cX5_gainsOf 3 = .ok (.iload_n 2, 1) := by decide +kernel
theorem dX5_gainsOf_4 : decode cX5_gainsOf 4 = .ok (.invokevirtual 176, 3) := by decide +kernel
theorem dX5_gainsOf_7 : decode cX5_gainsOf 7 = .ok (.istore_n 3, 1) := by decide +kernel
theorem dX5_gainsOf_8 : decode cX5_gainsOf 8 = .ok (.aload_n 0, 1) := by decide +kernel
theorem dX5_gainsOf_9 : decode cX5_gainsOf 9 = .ok (.iload_n 1, 1) := by decide +kernel
theorem dX5_gainsOf_10 : decode cX5_gainsOf 10 = .ok (.iload_n 2, 1) := by decide +kernel
theorem dX5_gainsOf_11 : decode cX5_gainsOf 11 = .ok (.invokevirtual 179, 3) := by decide +kernel
theorem dX5_gainsOf_14 : decode cX5_gainsOf 14 = .ok (.istore 4, 2) := by decide +kernel
theorem dX5_gainsOf_16 : decode cX5_gainsOf 16 = .ok (.aload_n 0, 1) := by decide +kernel
theorem dX5_gainsOf_17 : decode cX5_gainsOf 17 = .ok (.getfield 7, 3) := by decide +kernel
theorem dX5_gainsOf_20 : decode cX5_gainsOf 20 = .ok (.iload_n 1, 1) := by decide +kernel
theorem dX5_gainsOf_21 : decode cX5_gainsOf 21 = .ok (.iaload, 1) := by decide +kernel
theorem dX5_gainsOf_22 : decode cX5_gainsOf 22 = .ok (.tableswitch 71 1 4 #[30, 71, 48, 68], 30) := by decide +kernel
theorem dX5_gainsOf_52 : decode cX5_gainsOf 52 = .ok (.iload 4, 2) := by decide +kernel
theorem dX5_gainsOf_54 : decode cX5_gainsOf 54 = .ok (.ifCond .eq 7, 3) := by decide +kernel
theorem dX5_gainsOf_57 : decode cX5_gainsOf 57 = .ok (.iload_n 3, 1) := by decide +kernel
theorem dX5_gainsOf_58 : decode cX5_gainsOf 58 = .ok (.goto 11, 3) := by decide +kernel
theorem dX5_gainsOf_61 : decode cX5_gainsOf 61 = .ok (.iload_n 3, 1) := by decide +kernel
theorem dX5_gainsOf_62 : decode cX5_gainsOf 62 = .ok (.aload_n 0, 1) := by decide +kernel
theorem dX5_gainsOf_63 : decode cX5_gainsOf 63 = .ok (.getfield 13, 3) := by decide +kernel
theorem dX5_gainsOf_66 : decode cX5_gainsOf 66 = .ok (.iload_n 1, 1) := by decide +kernel
theorem dX5_gainsOf_67 : decode cX5_gainsOf 67 = .ok (.iaload, 1) := by decide +kernel
theorem dX5_gainsOf_68 : decode cX5_gainsOf 68 = .ok (.iadd, 1) := by decide +kernel
theorem dX5_gainsOf_69 : decode cX5_gainsOf 69 = .ok (.ireturn, 1) := by decide +kernel
theorem dX5_gainsOf_70 : decode cX5_gainsOf 70 = .ok (.iload 4, 2) := by decide +kernel
theorem dX5_gainsOf_72 : decode cX5_gainsOf 72 = .ok (.ifCond .eq 7, 3) := by decide +kernel
theorem dX5_gainsOf_75 : decode cX5_gainsOf 75 = .ok (.iconst 0, 1) := by decide +kernel
theorem dX5_gainsOf_76 : decode cX5_gainsOf 76 = .ok (.goto 13, 3) := by decide +kernel
theorem dX5_gainsOf_79 : decode cX5_gainsOf 79 = .ok (.iconst 2, 1) := by decide +kernel
theorem dX5_gainsOf_80 : decode cX5_gainsOf 80 = .ok (.iload_n 3, 1) := by decide +kernel
theorem dX5_gainsOf_81 : decode cX5_gainsOf 81 = .ok (.aload_n 0, 1) := by decide +kernel
theorem dX5_gainsOf_82 : decode cX5_gainsOf 82 = .ok (.getfield 13, 3) := by decide +kernel
theorem dX5_gainsOf_85 : decode cX5_gainsOf 85 = .ok (.iload_n 1, 1) := by decide +kernel
theorem dX5_gainsOf_86 : decode cX5_gainsOf 86 = .ok (.iaload, 1) := by decide +kernel
theorem dX5_gainsOf_87 : decode cX5_gainsOf 87 = .ok (.iadd, 1) := by decide +kernel
theorem dX5_gainsOf_88 : decode cX5_gainsOf 88 = .ok (.imul, 1) := by decide +kernel
theorem dX5_gainsOf_89 : decode cX5_gainsOf 89 = .ok (.ireturn, 1) := by decide +kernel
theorem dX5_gainsOf_90 : decode cX5_gainsOf 90 = .ok (.iload_n 3, 1) := by decide +kernel
theorem dX5_gainsOf_91 : decode cX5_gainsOf 91 = .ok (.ineg, 1) := by decide +kernel
theorem dX5_gainsOf_92 : decode cX5_gainsOf 92 = .ok (.ireturn, 1) := by decide +kernel
theorem dX5_gainsOf_93 : decode cX5_gainsOf 93 = .ok (.iload_n 3, 1) := by decide +kernel
theorem dX5_gainsOf_94 : decode cX5_gainsOf 94 = .ok (.ireturn, 1) := by decide +kernel
theorem dX5_spillsOf_0 : decode cX5_spillsOf 0 = .ok (.aload_n 0, 1) := by decide +kernel
theorem dX5_spillsOf_1 : decode cX5_spillsOf 1 = .ok (.getfield 7, 3) := by decide +kernel
theorem dX5_spillsOf_4 : decode cX5_spillsOf 4 = .ok (.iload_n 1, 1) := by decide +kernel
theorem dX5_spillsOf_5 : decode cX5_spillsOf 5 = .ok (.iaload, 1) := by decide +kernel
theorem dX5_spillsOf_6 : decode cX5_spillsOf 6 = .ok (.iconst 5, 1) := by decide +kernel
theorem dX5_spillsOf_7 : decode cX5_spillsOf 7 = .ok (.if_icmp .ne 5, 3) := by decide +kernel
theorem dX5_spillsOf_10 : decode cX5_spillsOf 10 = .ok (.iconst 0, 1) := by decide +kernel
theorem dX5_spillsOf_11 : decode cX5_spillsOf 11 = .ok (.ireturn, 1) := by decide +kernel
theorem dX5_spillsOf_12 : decode cX5_spillsOf 12 = .ok (.aload_n 0, 1) := by decide +kernel
theorem dX5_spillsOf_13 : decode cX5_spillsOf 13 = .ok (.iconst 2, 1) := by decide +kernel
theorem dX5_spillsOf_14 : decode cX5_spillsOf 14 = .ok (.iload_n 1, 1) := by decide +kernel
theorem dX5_spillsOf_15 : decode cX5_spillsOf 15 = .ok (.iload_n 2, 1) := by decide +kernel
theorem dX5_spillsOf_16 : decode cX5_spillsOf 16 = .ok (.invokevirtual 176, 3) := by decide +kernel
theorem dX5_spillsOf_19 : decode cX5_spillsOf 19 = .ok (.istore_n 3, 1) := by decide +kernel
theorem dX5_spillsOf_20 : decode cX5_spillsOf 20 = .ok (.aload_n 0, 1) := by decide +kernel
theorem dX5_spillsOf_21 : decode cX5_spillsOf 21 = .ok (.getfield 7, 3) := by decide +kernel
theorem dX5_spillsOf_24 : decode cX5_spillsOf 24 = .ok (.iload_n 1, 1) := by decide +kernel
theorem dX5_spillsOf_25 : decode cX5_spillsOf 25 = .ok (.iaload, 1) := by decide +kernel
theorem dX5_spillsOf_26 : decode cX5_spillsOf 26 = .ok (.iconst 2, 1) := by decide +kernel
theorem dX5_spillsOf_27 : decode cX5_spillsOf 27 = .ok (.if_icmp .eq 13, 3) := by decide +kernel
theorem dX5_spillsOf_30 : decode cX5_spillsOf 30 = .ok (.aload_n 0, 1) := by decide +kernel
theorem dX5_spillsOf_31 : decode cX5_spillsOf 31 = .ok (.getfield 7, 3) := by decide +kernel
theorem dX5_spillsOf_34 : decode cX5_spillsOf 34 = .ok (.iload_n 1, 1) := by decide +kernel
theorem dX5_spillsOf_35 : decode cX5_spillsOf 35 = .ok (.iaload, 1) := by decide +kernel
theorem dX5_spillsOf_36 : decode cX5_spillsOf 36 = .ok (.iconst 4, 1) := by decide +kernel
theorem dX5_spillsOf_37 : decode cX5_spillsOf 37 = .ok (.if_icmp .ne 20, 3) := by decide +kernel
theorem dX5_spillsOf_40 : decode cX5_spillsOf 40 = .ok (.aload_n 0, 1) := by decide +kernel
theorem dX5_spillsOf_41 : decode cX5_spillsOf 41 = .ok (.getfield 86, 3) := by decide +kernel
theorem dX5_spillsOf_44 : decode cX5_spillsOf 44 = .ok (.iconst 2, 1) := by decide +kernel
theorem dX5_spillsOf_45 : decode cX5_spillsOf 45 = .ok (.irem, 1) := by decide +kernel
theorem dX5_spillsOf_46 : decode cX5_spillsOf 46 = .ok (.ifCond .ne 9, 3) := by decide +kernel
theorem dX5_spillsOf_49 : decode cX5_spillsOf 49 = .ok (.iload_n 3, 1) := by decide +kernel
theorem dX5_spillsOf_50 : decode cX5_spillsOf 50 = .ok (.iconst 1, 1) := by decide +kernel
theorem dX5_spillsOf_51 : decode cX5_spillsOf 51 = .ok (.iadd, 1) := by decide +kernel
theorem dX5_spillsOf_52 : decode cX5_spillsOf 52 = .ok (.goto 4, 3) := by decide +kernel
theorem dX5_spillsOf_55 : decode cX5_spillsOf 55 = .ok (.iconst 0, 1) := by decide +kernel
theorem dX5_spillsOf_56 : decode cX5_spillsOf 56 = .ok (.ireturn, 1) := by decide +kernel
theorem dX5_spillsOf_57 : decode cX5_spillsOf 57 = .ok (.iload_n 3, 1) := by decide +kernel
theorem dX5_spillsOf_58 : decode cX5_spillsOf 58 = .ok (.ireturn, 1) := by decide +kernel
theorem dX5_pinches_0 : decode cX5_pinches 0 = .ok (.aload_n 0, 1) := by decide +kernel
theorem dX5_pinches_1 : decode cX5_pinches 1 = .ok (.iload_n 1, 1) := by decide +kernel
theorem dX5_pinches_2 : decode cX5_pinches 2 = .ok (.invokevirtual 170, 3) := by decide +kernel
theorem dX5_pinches_5 : decode cX5_pinches 5 = .ok (.ifCond .eq 10, 3) := by decide +kernel
theorem dX5_pinches_8 : decode cX5_pinches 8 = .ok (.iload_n 2, 1) := by decide +kernel
theorem dX5_pinches_9 : decode cX5_pinches 9 = .ok (.invokestatic 173, 3) := by decide +kernel
theorem dX5_pinches_12 : decode cX5_pinches 12 = .ok (.ifCond .ne 7, 3) := by decide +kernel
theorem dX5_pinches_15 : decode cX5_pinches 15 = .ok (.sipush (-5000), 3) := by decide +kernel
theorem dX5_pinches_18 : decode cX5_pinches 18 = .ok (.ireturn, 1) := by decide +kernel
theorem dX5_pinches_19 : decode cX5_pinches 19 = .ok (.iload_n 3, 1) := by decide +kernel
theorem dX5_pinches_20 : decode cX5_pinches 20 = .ok (.tableswitch 49 0 2 #[28, 35, 42], 28) := by decide +kernel
theorem dX5_pinches_48 : decode cX5_pinches 48 = .ok (.aload_n 0, 1) := by decide +kernel
theorem dX5_pinches_49 : decode cX5_pinches 49 = .ok (.iload_n 1, 1) := by decide +kernel
theorem dX5_pinches_50 : decode cX5_pinches 50 = .ok (.iload_n 2, 1) := by decide +kernel
theorem dX5_pinches_51 : decode cX5_pinches 51 = .ok (.invokevirtual 183, 3) := by decide +kernel
theorem dX5_pinches_54 : decode cX5_pinches 54 = .ok (.ireturn, 1) := by decide +kernel
theorem dX5_pinches_55 : decode cX5_pinches 55 = .ok (.aload_n 0, 1) := by decide +kernel
theorem dX5_pinches_56 : decode cX5_pinches 56 = .ok (.iload_n 1, 1) := by decide +kernel
theorem dX5_pinches_57 : decode cX5_pinches 57 = .ok (.iload_n 2, 1) := by decide +kernel
theorem dX5_pinches_58 : decode cX5_pinches 58 = .ok (.invokevirtual 186, 3) := by decide +kernel
theorem dX5_pinches_61 : decode cX5_pinches 61 = .ok (.ireturn, 1) := by decide +kernel
theorem dX5_pinches_62 : decode cX5_pinches 62 = .ok (.aload_n 0, 1) := by decide +kernel
theorem dX5_pinches_63 : decode cX5_pinches 63 = .ok (.iload_n 1, 1) := by decide +kernel
theorem dX5_pinches_64 : decode cX5_pinches 64 = .ok (.iload_n 2, 1) := by decide +kernel
theorem dX5_pinches_65 : decode cX5_pinches 65 = .ok (.invokevirtual 189, 3) := by decide +kernel
theorem dX5_pinches_68 : decode cX5_pinches 68 = .ok (.ireturn, 1) := by decide +kernel
theorem dX5_pinches_69 : decode cX5_pinches 69 = .ok (.sipush (-7000), 3) := by decide +kernel
theorem dX5_pinches_72 : decode cX5_pinches 72 = .ok (.ireturn, 1) := by decide +kernel
theorem dX5_can_0 : decode cX5_can 0 = .ok (.aload_n 0, 1) := by decide +kernel
theorem dX5_can_1 : decode cX5_can 1 = .ok (.iload_n 1, 1) := by decide +kernel
theorem dX5_can_2 : decode cX5_can 2 = .ok (.invokevirtual 82, 3) := by decide +kernel
theorem dX5_can_5 : decode cX5_can 5 = .ok (.ifCond .eq 21, 3) := by decide +kernel
theorem dX5_can_8 : decode cX5_can 8 = .ok (.aload_n 0, 1) := by decide +kernel
theorem dX5_can_9 : decode cX5_can 9 = .ok (.getfield 16, 3) := by decide +kernel
theorem dX5_can_12 : decode cX5_can 12 = .ok (.bipush 12, 2) := by decide +kernel
theorem dX5_can_14 : decode cX5_can 14 = .ok (.iload_n 1, 1) := by decide +kernel
theorem dX5_can_15 : decode cX5_can 15 = .ok (.imul, 1) := by decide +kernel
theorem dX5_can_16 : decode cX5_can 16 = .ok (.iload_n 2, 1) := by decide +kernel
theorem dX5_can_17 : decode cX5_can 17 = .ok (.iadd, 1) := by decide +kernel
theorem dX5_can_18 : decode cX5_can 18 = .ok (.iaload, 1) := by decide +kernel
theorem dX5_can_19 : decode cX5_can 19 = .ok (.ifCond .le 7, 3) := by decide +kernel
theorem dX5_can_22 : decode cX5_can 22 = .ok (.iconst 1, 1) := by decide +kernel
theorem dX5_can_23 : decode cX5_can 23 = .ok (.goto 4, 3) := by decide +kernel
theorem dX5_can_26 : decode cX5_can 26 = .ok (.iconst 0, 1) := by decide +kernel
theorem dX5_can_27 : decode cX5_can 27 = .ok (.ireturn, 1) := by decide +kernel
theorem dX5_pinchOf_0 : decode cX5_pinchOf 0 = .ok (.aload_n 0, 1) := by decide +kernel
theorem dX5_pinchOf_1 : decode cX5_pinchOf 1 = .ok (.iload_n 1, 1) := by decide +kernel
theorem dX5_pinchOf_2 : decode cX5_pinchOf 2 = .ok (.iload_n 2, 1) := by decide +kernel
theorem dX5_pinchOf_3 : decode cX5_pinchOf 3 = .ok (.invokevirtual 183, 3) := by decide +kernel
theorem dX5_pinchOf_6 : decode cX5_pinchOf 6 = .ok (.istore_n 3, 1) := by decide +kernel
theorem dX5_pinchOf_7 : decode cX5_pinchOf 7 = .ok (.aload_n 0, 1) := by decide +kernel
theorem dX5_pinchOf_8 : decode cX5_pinchOf 8 = .ok (.iload_n 1, 1) := by decide +kernel
theorem dX5_pinchOf_9 : decode cX5_pinchOf 9 = .ok (.iload_n 2, 1) := by decide +kernel
theorem dX5_pinchOf_10 : decode cX5_pinchOf 10 = .ok (.invokevirtual 186, 3) := by decide +kernel
theorem dX5_pinchOf_13 : decode cX5_pinchOf 13 = .ok (.istore 4, 2) := by decide +kernel
theorem dX5_pinchOf_15 : decode cX5_pinchOf 15 = .ok (.aload_n 0, 1) := by decide +kernel
theorem dX5_pinchOf_16 : decode cX5_pinchOf 16 = .ok (.iload_n 1, 1) := by decide +kernel
theorem dX5_pinchOf_17 : decode cX5_pinchOf 17 = .ok (.iload_n 2, 1) := by decide +kernel
theorem dX5_pinchOf_18 : decode cX5_pinchOf 18 = .ok (.invokevirtual 189, 3) := by decide +kernel
theorem dX5_pinchOf_21 : decode cX5_pinchOf 21 = .ok (.istore 5, 2) := by decide +kernel
theorem dX5_pinchOf_23 : decode cX5_pinchOf 23 = .ok (.aload_n 0, 1) := by decide +kernel
theorem dX5_pinchOf_24 : decode cX5_pinchOf 24 = .ok (.getfield 16, 3) := by decide +kernel
theorem dX5_pinchOf_27 : decode cX5_pinchOf 27 = .ok (.bipush 12, 2) := by decide +kernel
theorem dX5_pinchOf_29 : decode cX5_pinchOf 29 = .ok (.iload_n 1, 1) := by decide +kernel
theorem dX5_pinchOf_30 : decode cX5_pinchOf 30 = .ok (.imul, 1) := by decide +kernel
theorem dX5_pinchOf_31 : decode cX5_pinchOf 31 = .ok (.iload_n 2, 1) := by decide +kernel
theorem dX5_pinchOf_32 : decode cX5_pinchOf 32 = .ok (.iadd, 1) := by decide +kernel
theorem dX5_pinchOf_33 : decode cX5_pinchOf 33 = .ok (.dup2, 1) := by decide +kernel
theorem dX5_pinchOf_34 : decode cX5_pinchOf 34 = .ok (.iaload, 1) := by decide +kernel
theorem dX5_pinchOf_35 : decode cX5_pinchOf 35 = .ok (.iconst 1, 1) := by decide +kernel
theorem dX5_pinchOf_36 : decode cX5_pinchOf 36 = .ok (.isub, 1) := by decide +kernel
theorem dX5_pinchOf_37 : decode cX5_pinchOf 37 = .ok (.iastore, 1) := by decide +kernel
theorem dX5_pinchOf_38 : decode cX5_pinchOf 38 = .ok (.iload_n 1, 1) := by decide +kernel
theorem dX5_pinchOf_39 : decode cX5_pinchOf 39 = .ok (.iconst 1, 1) := by decide +kernel
theorem dX5_pinchOf_40 : decode cX5_pinchOf 40 = .ok (.iadd, 1) := by decide +kernel
theorem dX5_pinchOf_41 : decode cX5_pinchOf 41 = .ok (.aload_n 0, 1) := by decide +kernel
theorem dX5_pinchOf_42 : decode cX5_pinchOf 42 = .ok (.getfield 75, 3) := by decide +kernel
theorem dX5_pinchOf_45 : decode cX5_pinchOf 45 = .ok (.if_icmp .ne 7, 3) := by decide +kernel
theorem dX5_pinchOf_48 : decode cX5_pinchOf 48 = .ok (.iconst 0, 1) := by decide +kernel
theorem dX5_pinchOf_49 : decode cX5_pinchOf 49 = .ok (.goto 6, 3) := by decide +kernel
theorem dX5_pinchOf_52 : decode cX5_pinchOf 52 = .ok (.iload_n 1, 1) := by decide +kernel
theorem dX5_pinchOf_53 : decode cX5_pinchOf 53 = .ok (.iconst 1, 1) := by decide +kernel
theorem dX5_pinchOf_54 : decode cX5_pinchOf 54 = .ok (.iadd, 1) := by decide +kernel
theorem dX5_pinchOf_55 : decode cX5_pinchOf 55 = .ok (.istore 6, 2) := by decide +kernel
theorem dX5_pinchOf_57 : decode cX5_pinchOf 57 = .ok (.iload 6, 2) := by decide +kernel
theorem dX5_pinchOf_59 : decode cX5_pinchOf 59 = .ok (.iload_n 1, 1) := by decide +kernel
theorem dX5_pinchOf_60 : decode cX5_pinchOf 60 = .ok (.if_icmp .eq 103, 3) := by decide +kernel
theorem dX5_pinchOf_63 : decode cX5_pinchOf 63 = .ok (.iload 5, 2) := by decide +kernel
theorem dX5_pinchOf_65 : decode cX5_pinchOf 65 = .ok (.aload_n 0, 1) := by decide +kernel
theorem dX5_pinchOf_66 : decode cX5_pinchOf 66 = .ok (.getfield 16, 3) := by decide +kernel
theorem dX5_pinchOf_69 : decode cX5_pinchOf 69 = .ok (.bipush 12, 2) := by decide +kernel
theorem dX5_pinchOf_71 : decode cX5_pinchOf 71 = .ok (.iload_n 1, 1) := by decide +kernel
theorem dX5_pinchOf_72 : decode cX5_pinchOf 72 = .ok (.imul, 1) := by decide +kernel
theorem dX5_pinchOf_73 : decode cX5_pinchOf 73 = .ok (.iload_n 2, 1) := by decide +kernel
theorem dX5_pinchOf_74 : decode cX5_pinchOf 74 = .ok (.iadd, 1) := by decide +kernel
theorem dX5_pinchOf_75 : decode cX5_pinchOf 75 = .ok (.iaload, 1) := by decide +kernel
theorem dX5_pinchOf_76 : decode cX5_pinchOf 76 = .ok (.if_icmp .ge 8, 3) := by decide +kernel
theorem dX5_pinchOf_79 : decode cX5_pinchOf 79 = .ok (.iload 5, 2) := by decide +kernel
theorem dX5_pinchOf_81 : decode cX5_pinchOf 81 = .ok (.goto 14, 3) := by decide +kernel
theorem dX5_pinchOf_84 : decode cX5_pinchOf 84 = .ok (.aload_n 0, 1) := by decide +kernel
theorem dX5_pinchOf_85 : decode cX5_pinchOf 85 = .ok (.getfield 16, 3) := by decide +kernel
theorem dX5_pinchOf_88 : decode cX5_pinchOf 88 = .ok (.bipush 12, 2) := by decide +kernel
theorem dX5_pinchOf_90 : decode cX5_pinchOf 90 = .ok (.iload_n 1, 1) := by decide +kernel
theorem dX5_pinchOf_91 : decode cX5_pinchOf 91 = .ok (.imul, 1) := by decide +kernel
theorem dX5_pinchOf_92 : decode cX5_pinchOf 92 = .ok (.iload_n 2, 1) := by decide +kernel
theorem dX5_pinchOf_93 : decode cX5_pinchOf 93 = .ok (.iadd, 1) := by decide +kernel
theorem dX5_pinchOf_94 : decode cX5_pinchOf 94 = .ok (.iaload, 1) := by decide +kernel
theorem dX5_pinchOf_95 : decode cX5_pinchOf 95 = .ok (.istore 7, 2) := by decide +kernel
theorem dX5_pinchOf_97 : decode cX5_pinchOf 97 = .ok (.bipush 9, 2) := by decide +kernel
theorem dX5_pinchOf_99 : decode cX5_pinchOf 99 = .ok (.aload_n 0, 1) := by decide +kernel
theorem dX5_pinchOf_100 : decode cX5_pinchOf 100 = .ok (.getfield 16, 3) := by decide +kernel
theorem dX5_pinchOf_103 : decode cX5_pinchOf 103 = .ok (.bipush 12, 2) := by decide +kernel
theorem dX5_pinchOf_105 : decode cX5_pinchOf 105 = .ok (.iload 6, 2) := by decide +kernel
theorem dX5_pinchOf_107 : decode cX5_pinchOf 107 = .ok (.imul, 1) := by decide +kernel
theorem dX5_pinchOf_108 : decode cX5_pinchOf 108 = .ok (.iload_n 2, 1) := by decide +kernel
theorem dX5_pinchOf_109 : decode cX5_pinchOf 109 = .ok (.iadd, 1) := by decide +kernel
theorem dX5_pinchOf_110 : decode cX5_pinchOf 110 = .ok (.iaload, 1) := by decide +kernel
theorem dX5_pinchOf_111 : decode cX5_pinchOf 111 = .ok (.isub, 1) := by decide +kernel
theorem dX5_pinchOf_112 : decode cX5_pinchOf 112 = .ok (.istore 8, 2) := by decide +kernel
theorem dX5_pinchOf_114 : decode cX5_pinchOf 114 = .ok (.iload 8, 2) := by decide +kernel
theorem dX5_pinchOf_116 : decode cX5_pinchOf 116 = .ok (.iload 7, 2) := by decide +kernel
theorem dX5_pinchOf_118 : decode cX5_pinchOf 118 = .ok (.if_icmp .ge 8, 3) := by decide +kernel
theorem dX5_pinchOf_121 : decode cX5_pinchOf 121 = .ok (.iload 8, 2) := by decide +kernel
theorem dX5_pinchOf_123 : decode cX5_pinchOf 123 = .ok (.goto 5, 3) := by decide +kernel
theorem dX5_pinchOf_126 : decode cX5_pinchOf 126 = .ok (.iload 7, 2) := by decide +kernel
theorem dX5_pinchOf_128 : decode cX5_pinchOf 128 = .ok (.istore 7, 2) := by decide +kernel
theorem dX5_pinchOf_130 : decode cX5_pinchOf 130 = .ok (.aload_n 0, 1) := by decide +kernel
theorem dX5_pinchOf_131 : decode cX5_pinchOf 131 = .ok (.getfield 16, 3) := by decide +kernel
theorem dX5_pinchOf_134 : decode cX5_pinchOf 134 = .ok (.bipush 12, 2) := by decide +kernel
theorem dX5_pinchOf_136 : decode cX5_pinchOf 136 = .ok (.iload_n 1, 1) := by decide +kernel
theorem dX5_pinchOf_137 : decode cX5_pinchOf 137 = .ok (.imul, 1) := by decide +kernel
theorem dX5_pinchOf_138 : decode cX5_pinchOf 138 = .ok (.iload_n 2, 1) := by decide +kernel
theorem dX5_pinchOf_139 : decode cX5_pinchOf 139 = .ok (.iadd, 1) := by decide +kernel
theorem dX5_pinchOf_140 : decode cX5_pinchOf 140 = .ok (.dup2, 1) := by decide +kernel
theorem dX5_pinchOf_141 : decode cX5_pinchOf 141 = .ok (.iaload, 1) := by decide +kernel
theorem dX5_pinchOf_142 : decode cX5_pinchOf 142 = .ok (.iload 7, 2) := by decide +kernel
theorem dX5_pinchOf_144 : decode cX5_pinchOf 144 = .ok (.isub, 1) := by decide +kernel
theorem dX5_pinchOf_145 : decode cX5_pinchOf 145 = .ok (.iastore, 1) := by decide +kernel
theorem dX5_pinchOf_146 : decode cX5_pinchOf 146 = .ok (.aload_n 0, 1) := by decide +kernel
theorem dX5_pinchOf_147 : decode cX5_pinchOf 147 = .ok (.getfield 16, 3) := by decide +kernel
theorem dX5_pinchOf_150 : decode cX5_pinchOf 150 = .ok (.bipush 12, 2) := by decide +kernel
theorem dX5_pinchOf_152 : decode cX5_pinchOf 152 = .ok (.iload 6, 2) := by decide +kernel
theorem dX5_pinchOf_154 : decode cX5_pinchOf 154 = .ok (.imul, 1) := by decide +kernel
theorem dX5_pinchOf_155 : decode cX5_pinchOf 155 = .ok (.iload_n 2, 1) := by decide +kernel
theorem dX5_pinchOf_156 : decode cX5_pinchOf 156 = .ok (.iadd, 1) := by decide +kernel
theorem dX5_pinchOf_157 : decode cX5_pinchOf 157 = .ok (.dup2, 1) := by decide +kernel
theorem dX5_pinchOf_158 : decode cX5_pinchOf 158 = .ok (.iaload, 1) := by decide +kernel
theorem dX5_pinchOf_159 : decode cX5_pinchOf 159 = .ok (.iload 7, 2) := by decide +kernel
theorem dX5_pinchOf_161 : decode cX5_pinchOf 161 = .ok (.iadd, 1) := by decide +kernel
theorem dX5_pinchOf_162 : decode cX5_pinchOf 162 = .ok (.iastore, 1) := by decide +kernel
theorem dX5_pinchOf_163 : decode cX5_pinchOf 163 = .ok (.aload_n 0, 1) := by decide +kernel
theorem dX5_pinchOf_164 : decode cX5_pinchOf 164 = .ok (.getfield 16, 3) := by decide +kernel
theorem dX5_pinchOf_167 : decode cX5_pinchOf 167 = .ok (.bipush 12, 2) := by decide +kernel
theorem dX5_pinchOf_169 : decode cX5_pinchOf 169 = .ok (.iload_n 1, 1) := by decide +kernel
theorem dX5_pinchOf_170 : decode cX5_pinchOf 170 = .ok (.imul, 1) := by decide +kernel
theorem dX5_pinchOf_171 : decode cX5_pinchOf 171 = .ok (.bipush 8, 2) := by decide +kernel
theorem dX5_pinchOf_173 : decode cX5_pinchOf 173 = .ok (.iadd, 1) := by decide +kernel
theorem dX5_pinchOf_174 : decode cX5_pinchOf 174 = .ok (.aload_n 0, 1) := by decide +kernel
theorem dX5_pinchOf_175 : decode cX5_pinchOf 175 = .ok (.getfield 16, 3) := by decide +kernel
theorem dX5_pinchOf_178 : decode cX5_pinchOf 178 = .ok (.bipush 12, 2) := by decide +kernel
theorem dX5_pinchOf_180 : decode cX5_pinchOf 180 = .ok (.iload_n 1, 1) := by decide +kernel
theorem dX5_pinchOf_181 : decode cX5_pinchOf 181 = .ok (.imul, 1) := by decide +kernel
theorem dX5_pinchOf_182 : decode cX5_pinchOf 182 = .ok (.bipush 8, 2) := by decide +kernel
theorem dX5_pinchOf_184 : decode cX5_pinchOf 184 = .ok (.iadd, 1) := by decide +kernel
theorem dX5_pinchOf_185 : decode cX5_pinchOf 185 = .ok (.iaload, 1) := by decide +kernel
theorem dX5_pinchOf_186 : decode cX5_pinchOf 186 = .ok (.iload 4, 2) := by decide +kernel
theorem dX5_pinchOf_188 : decode cX5_pinchOf 188 = .ok (.iadd, 1) := by decide +kernel
theorem dX5_pinchOf_189 : decode cX5_pinchOf 189 = .ok (.iconst 0, 1) := by decide +kernel
theorem dX5_pinchOf_190 : decode cX5_pinchOf 190 = .ok (.bipush 99, 2) := by decide +kernel
theorem dX5_pinchOf_192 : decode cX5_pinchOf 192 = .ok (.invokestatic 167, 3) := by decide +kernel
theorem dX5_pinchOf_195 : decode cX5_pinchOf 195 = .ok (.iastore, 1) := by decide +kernel
theorem dX5_pinchOf_196 : decode cX5_pinchOf 196 = .ok (.aload_n 0, 1) := by decide +kernel
theorem dX5_pinchOf_197 : decode cX5_pinchOf 197 = .ok (.getfield 16, 3) := by decide +kernel
theorem dX5_pinchOf_200 : decode cX5_pinchOf 200 = .ok (.bipush 12, 2) := by decide +kernel
theorem dX5_pinchOf_202 : decode cX5_pinchOf 202 = .ok (.iload_n 1, 1) := by decide +kernel
theorem dX5_pinchOf_203 : decode cX5_pinchOf 203 = .ok (.imul, 1) := by decide +kernel
theorem dX5_pinchOf_204 : decode cX5_pinchOf 204 = .ok (.bipush 9, 2) := by decide +kernel
theorem dX5_pinchOf_206 : decode cX5_pinchOf 206 = .ok (.iadd, 1) := by decide +kernel
theorem dX5_pinchOf_207 : decode cX5_pinchOf 207 = .ok (.dup2, 1) := by decide +kernel
theorem dX5_pinchOf_208 : decode cX5_pinchOf 208 = .ok (.iaload, 1) := by decide +kernel
theorem dX5_pinchOf_209 : decode cX5_pinchOf 209 = .ok (.iconst 1, 1) := by decide +kernel
theorem dX5_pinchOf_210 : decode cX5_pinchOf 210 = .ok (.iload_n 2, 1) := by decide +kernel
theorem dX5_pinchOf_211 : decode cX5_pinchOf 211 = .ok (.ishl, 1) := by decide +kernel
theorem dX5_pinchOf_212 : decode cX5_pinchOf 212 = .ok (.ior, 1) := by decide +kernel
theorem dX5_pinchOf_213 : decode cX5_pinchOf 213 = .ok (.iastore, 1) := by decide +kernel
theorem dX5_pinchOf_214 : decode cX5_pinchOf 214 = .ok (.aload_n 0, 1) := by decide +kernel
theorem dX5_pinchOf_215 : decode cX5_pinchOf 215 = .ok (.getfield 16, 3) := by decide +kernel
theorem dX5_pinchOf_218 : decode cX5_pinchOf 218 = .ok (.bipush 12, 2) := by decide +kernel
theorem dX5_pinchOf_220 : decode cX5_pinchOf 220 = .ok (.iload_n 1, 1) := by decide +kernel
theorem dX5_pinchOf_221 : decode cX5_pinchOf 221 = .ok (.imul, 1) := by decide +kernel
theorem dX5_pinchOf_222 : decode cX5_pinchOf 222 = .ok (.bipush 10, 2) := by decide +kernel
theorem dX5_pinchOf_224 : decode cX5_pinchOf 224 = .ok (.iadd, 1) := by decide +kernel
theorem dX5_pinchOf_225 : decode cX5_pinchOf 225 = .ok (.iload_n 2, 1) := by decide +kernel
theorem dX5_pinchOf_226 : decode cX5_pinchOf 226 = .ok (.iastore, 1) := by decide +kernel
theorem dX5_pinchOf_227 : decode cX5_pinchOf 227 = .ok (.aload_n 0, 1) := by decide +kernel
theorem dX5_pinchOf_228 : decode cX5_pinchOf 228 = .ok (.getfield 16, 3) := by decide +kernel
theorem dX5_pinchOf_231 : decode cX5_pinchOf 231 = .ok (.bipush 12, 2) := by decide +kernel
theorem dX5_pinchOf_233 : decode cX5_pinchOf 233 = .ok (.iload_n 1, 1) := by decide +kernel
theorem dX5_pinchOf_234 : decode cX5_pinchOf 234 = .ok (.imul, 1) := by decide +kernel
theorem dX5_pinchOf_235 : decode cX5_pinchOf 235 = .ok (.bipush 11, 2) := by decide +kernel
theorem dX5_pinchOf_237 : decode cX5_pinchOf 237 = .ok (.iadd, 1) := by decide +kernel
theorem dX5_pinchOf_238 : decode cX5_pinchOf 238 = .ok (.iload_n 3, 1) := by decide +kernel
theorem dX5_pinchOf_239 : decode cX5_pinchOf 239 = .ok (.iastore, 1) := by decide +kernel
theorem dX5_pinchOf_240 : decode cX5_pinchOf 240 = .ok (.return_, 1) := by decide +kernel
theorem dX5_pinch_0 : decode cX5_pinch 0 = .ok (.aload_n 0, 1) := by decide +kernel
theorem dX5_pinch_1 : decode cX5_pinch 1 = .ok (.iload_n 1, 1) := by decide +kernel
theorem dX5_pinch_2 : decode cX5_pinch 2 = .ok (.invokevirtual 170, 3) := by decide +kernel
theorem dX5_pinch_5 : decode cX5_pinch 5 = .ok (.ifCond .ne 6, 3) := by decide +kernel
theorem dX5_pinch_8 : decode cX5_pinch 8 = .ok (.bipush (-5), 2) := by decide +kernel
theorem dX5_pinch_10 : decode cX5_pinch 10 = .ok (.ireturn, 1) := by decide +kernel
theorem dX5_pinch_11 : decode cX5_pinch 11 = .ok (.iload_n 2, 1) := by decide +kernel
theorem dX5_pinch_12 : decode cX5_pinch 12 = .ok (.invokestatic 173, 3) := by decide +kernel
theorem dX5_pinch_15 : decode cX5_pinch 15 = .ok (.ifCond .ne 6, 3) := by decide +kernel
theorem dX5_pinch_18 : decode cX5_pinch 18 = .ok (.bipush (-6), 2) := by decide +kernel
theorem dX5_pinch_20 : decode cX5_pinch 20 = .ok (.ireturn, 1) := by decide +kernel
theorem dX5_pinch_21 : decode cX5_pinch 21 = .ok (.aload_n 0, 1) := by decide +kernel
theorem dX5_pinch_22 : decode cX5_pinch 22 = .ok (.iload_n 1, 1) := by decide +kernel
theorem dX5_pinch_23 : decode cX5_pinch 23 = .ok (.iload_n 2, 1) := by decide +kernel
theorem dX5_pinch_24 : decode cX5_pinch 24 = .ok (.invokevirtual 192, 3) := by decide +kernel
theorem dX5_pinch_27 : decode cX5_pinch 27 = .ok (.ifCond .ne 6, 3) := by decide +kernel
theorem dX5_pinch_30 : decode cX5_pinch 30 = .ok (.bipush (-3), 2) := by decide +kernel
theorem dX5_pinch_32 : decode cX5_pinch 32 = .ok (.ireturn, 1) := by decide +kernel
theorem dX5_pinch_33 : decode cX5_pinch 33 = .ok (.aload_n 0, 1) := by decide +kernel
theorem dX5_pinch_34 : decode cX5_pinch 34 = .ok (.iload_n 1, 1) := by decide +kernel
theorem dX5_pinch_35 : decode cX5_pinch 35 = .ok (.iload_n 2, 1) := by decide +kernel
theorem dX5_pinch_36 : decode cX5_pinch 36 = .ok (.invokevirtual 195, 3) := by decide +kernel
theorem dX5_pinch_39 : decode cX5_pinch 39 = .ok (.aload_n 0, 1) := by decide +kernel
theorem dX5_pinch_40 : decode cX5_pinch 40 = .ok (.getfield 16, 3) := by decide +kernel
theorem dX5_pinch_43 : decode cX5_pinch 43 = .ok (.bipush 12, 2) := by decide +kernel
theorem dX5_pinch_45 : decode cX5_pinch 45 = .ok (.iload_n 1, 1) := by decide +kernel
theorem dX5_pinch_46 : decode cX5_pinch 46 = .ok (.imul, 1) := by decide +kernel
theorem dX5_pinch_47 : decode cX5_pinch 47 = .ok (.bipush 11, 2) := by decide +kernel
theorem dX5_pinch_49 : decode cX5_pinch 49 = .ok (.iadd, 1) := by decide +kernel
theorem dX5_pinch_50 : decode cX5_pinch 50 = .ok (.iaload, 1) := by decide +kernel
theorem dX5_pinch_51 : decode cX5_pinch 51 = .ok (.ireturn, 1) := by decide +kernel
theorem dX5_give_0 : decode cX5_give 0 = .ok (.aload_n 0, 1) := by decide +kernel
theorem dX5_give_1 : decode cX5_give 1 = .ok (.iload_n 1, 1) := by decide +kernel
theorem dX5_give_2 : decode cX5_give 2 = .ok (.invokevirtual 170, 3) := by decide +kernel
theorem dX5_give_5 : decode cX5_give 5 = .ok (.ifCond .eq 16, 3) := by decide +kernel
theorem dX5_give_8 : decode cX5_give 8 = .ok (.aload_n 0, 1) := by decide +kernel
theorem dX5_give_9 : decode cX5_give 9 = .ok (.iload_n 2, 1) := by decide +kernel
theorem dX5_give_10 : decode cX5_give 10 = .ok (.invokevirtual 170, 3) := by decide +kernel
theorem dX5_give_13 : decode cX5_give 13 = .ok (.ifCond .eq 8, 3) := by decide +kernel
theorem dX5_give_16 : decode cX5_give 16 = .ok (.iload_n 1, 1) := by decide +kernel
theorem dX5_give_17 : decode cX5_give 17 = .ok (.iload_n 2, 1) := by decide +kernel
theorem dX5_give_18 : decode cX5_give 18 = .ok (.if_icmp .ne 6, 3) := by decide +kernel
theorem dX5_give_21 : decode cX5_give 21 = .ok (.bipush (-5), 2) := by decide +kernel
theorem dX5_give_23 : decode cX5_give 23 = .ok (.ireturn, 1) := by decide +kernel
theorem dX5_give_24 : decode cX5_give 24 = .ok (.iload_n 3, 1) := by decide +kernel
theorem dX5_give_25 : decode cX5_give 25 = .ok (.invokestatic 173, 3) := by decide +kernel
theorem dX5_give_28 : decode cX5_give 28 = .ok (.ifCond .ne 6, 3) := by decide +kernel
theorem dX5_give_31 : decode cX5_give 31 = .ok (.bipush (-6), 2) := by decide +kernel
theorem dX5_give_33 : decode cX5_give 33 = .ok (.ireturn, 1) := by decide +kernel
theorem dX5_give_34 : decode cX5_give 34 = .ok (.aload_n 0, 1) := by decide +kernel
theorem dX5_give_35 : decode cX5_give 35 = .ok (.getfield 16, 3) := by decide +kernel
theorem dX5_give_38 : decode cX5_give 38 = .ok (.bipush 12, 2) := by decide +kernel
theorem dX5_give_40 : decode cX5_give 40 = .ok (.iload_n 1, 1) := by decide +kernel
theorem dX5_give_41 : decode cX5_give 41 = .ok (.imul, 1) := by decide +kernel
theorem dX5_give_42 : decode cX5_give 42 = .ok (.iload_n 3, 1) := by decide +kernel
theorem dX5_give_43 : decode cX5_give 43 = .ok (.iadd, 1) := by decide +kernel
theorem dX5_give_44 : decode cX5_give 44 = .ok (.iaload, 1) := by decide +kernel
theorem dX5_give_45 : decode cX5_give 45 = .ok (.ifCond .eq 19, 3) := by decide +kernel
theorem dX5_give_48 : decode cX5_give 48 = .ok (.aload_n 0, 1) := by decide +kernel
theorem dX5_give_49 : decode cX5_give 49 = .ok (.getfield 16, 3) := by decide +kernel
theorem dX5_give_52 : decode cX5_give 52 = .ok (.bipush 12, 2) := by decide +kernel
theorem dX5_give_54 : decode cX5_give 54 = .ok (.iload_n 2, 1) := by decide +kernel
theorem dX5_give_55 : decode cX5_give 55 = .ok (.imul, 1) := by decide +kernel
theorem dX5_give_56 : decode cX5_give 56 = .ok (.iload_n 3, 1) := by decide +kernel
theorem dX5_give_57 : decode cX5_give 57 = .ok (.iadd, 1) := by decide +kernel
theorem dX5_give_58 : decode cX5_give 58 = .ok (.iaload, 1) := by decide +kernel
theorem dX5_give_59 : decode cX5_give 59 = .ok (.bipush 9, 2) := by decide +kernel
theorem dX5_give_61 : decode cX5_give 61 = .ok (.if_icmp .ne 6, 3) := by decide +kernel
theorem dX5_give_64 : decode cX5_give 64 = .ok (.bipush (-3), 2) := by decide +kernel
theorem dX5_give_66 : decode cX5_give 66 = .ok (.ireturn, 1) := by decide +kernel
theorem dX5_give_67 : decode cX5_give 67 = .ok (.aload_n 0, 1) := by decide +kernel
theorem dX5_give_68 : decode cX5_give 68 = .ok (.getfield 16, 3) := by decide +kernel
theorem dX5_give_71 : decode cX5_give 71 = .ok (.bipush 12, 2) := by decide +kernel
theorem dX5_give_73 : decode cX5_give 73 = .ok (.iload_n 1, 1) := by decide +kernel
theorem dX5_give_74 : decode cX5_give 74 = .ok (.imul, 1) := by decide +kernel
theorem dX5_give_75 : decode cX5_give 75 = .ok (.iload_n 3, 1) := by decide +kernel
theorem dX5_give_76 : decode cX5_give 76 = .ok (.iadd, 1) := by decide +kernel
theorem dX5_give_77 : decode cX5_give 77 = .ok (.dup2, 1) := by decide +kernel
theorem dX5_give_78 : decode cX5_give 78 = .ok (.iaload, 1) := by decide +kernel
theorem dX5_give_79 : decode cX5_give 79 = .ok (.iconst 1, 1) := by decide +kernel
theorem dX5_give_80 : decode cX5_give 80 = .ok (.isub, 1) := by decide +kernel
theorem dX5_give_81 : decode cX5_give 81 = .ok (.iastore, 1) := by decide +kernel
theorem dX5_give_82 : decode cX5_give 82 = .ok (.aload_n 0, 1) := by decide +kernel
theorem dX5_give_83 : decode cX5_give 83 = .ok (.getfield 16, 3) := by decide +kernel
theorem dX5_give_86 : decode cX5_give 86 = .ok (.bipush 12, 2) := by decide +kernel
theorem dX5_give_88 : decode cX5_give 88 = .ok (.iload_n 2, 1) := by decide +kernel
theorem dX5_give_89 : decode cX5_give 89 = .ok (.imul, 1) := by decide +kernel
theorem dX5_give_90 : decode cX5_give 90 = .ok (.iload_n 3, 1) := by decide +kernel
theorem dX5_give_91 : decode cX5_give 91 = .ok (.iadd, 1) := by decide +kernel
theorem dX5_give_92 : decode cX5_give 92 = .ok (.dup2, 1) := by decide +kernel
theorem dX5_give_93 : decode cX5_give 93 = .ok (.iaload, 1) := by decide +kernel
theorem dX5_give_94 : decode cX5_give 94 = .ok (.iconst 1, 1) := by decide +kernel
theorem dX5_give_95 : decode cX5_give 95 = .ok (.iadd, 1) := by decide +kernel
theorem dX5_give_96 : decode cX5_give 96 = .ok (.iastore, 1) := by decide +kernel
theorem dX5_give_97 : decode cX5_give 97 = .ok (.aload_n 0, 1) := by decide +kernel
theorem dX5_give_98 : decode cX5_give 98 = .ok (.getfield 16, 3) := by decide +kernel
theorem dX5_give_101 : decode cX5_give 101 = .ok (.bipush 12, 2) := by decide +kernel
theorem dX5_give_103 : decode cX5_give 103 = .ok (.iload_n 2, 1) := by decide +kernel
theorem dX5_give_104 : decode cX5_give 104 = .ok (.imul, 1) := by decide +kernel
theorem dX5_give_105 : decode cX5_give 105 = .ok (.iload_n 3, 1) := by decide +kernel
theorem dX5_give_106 : decode cX5_give 106 = .ok (.iadd, 1) := by decide +kernel
theorem dX5_give_107 : decode cX5_give 107 = .ok (.iaload, 1) := by decide +kernel
theorem dX5_give_108 : decode cX5_give 108 = .ok (.ireturn, 1) := by decide +kernel
theorem dX5_minuteOf_0 : decode cX5_minuteOf 0 = .ok (.iconst 0, 1) := by decide +kernel
theorem dX5_minuteOf_1 : decode cX5_minuteOf 1 = .ok (.istore_n 1, 1) := by decide +kernel
theorem dX5_minuteOf_2 : decode cX5_minuteOf 2 = .ok (.iconst 0, 1) := by decide +kernel
theorem dX5_minuteOf_3 : decode cX5_minuteOf 3 = .ok (.istore_n 2, 1) := by decide +kernel
theorem dX5_minuteOf_4 : decode cX5_minuteOf 4 = .ok (.iload_n 2, 1) := by decide +kernel
theorem dX5_minuteOf_5 : decode cX5_minuteOf 5 = .ok (.aload_n 0, 1) := by decide +kernel
theorem dX5_minuteOf_6 : decode cX5_minuteOf 6 = .ok (.getfield 75, 3) := by decide +kernel
theorem dX5_minuteOf_9 : decode cX5_minuteOf 9 = .ok (.if_icmp .ge 67, 3) := by decide +kernel
theorem dX5_minuteOf_12 : decode cX5_minuteOf 12 = .ok (.aload_n 0, 1) := by decide +kernel
theorem dX5_minuteOf_13 : decode cX5_minuteOf 13 = .ok (.iload_n 2, 1) := by decide +kernel
theorem dX5_minuteOf_14 : decode cX5_minuteOf 14 = .ok (.invokevirtual 82, 3) := by decide +kernel
theorem dX5_minuteOf_17 : decode cX5_minuteOf 17 = .ok (.ifCond .ne 53, 3) := by decide +kernel
theorem dX5_minuteOf_20 : decode cX5_minuteOf 20 = .ok (.aload_n 0, 1) := by decide +kernel
theorem dX5_minuteOf_21 : decode cX5_minuteOf 21 = .ok (.getfield 16, 3) := by decide +kernel
theorem dX5_minuteOf_24 : decode cX5_minuteOf 24 = .ok (.bipush 12, 2) := by decide +kernel
theorem dX5_minuteOf_26 : decode cX5_minuteOf 26 = .ok (.iload_n 2, 1) := by decide +kernel
theorem dX5_minuteOf_27 : decode cX5_minuteOf 27 = .ok (.imul, 1) := by decide +kernel
theorem dX5_minuteOf_28 : decode cX5_minuteOf 28 = .ok (.bipush 11, 2) := by decide +kernel
theorem dX5_minuteOf_30 : decode cX5_minuteOf 30 = .ok (.iadd, 1) := by decide +kernel
theorem dX5_minuteOf_31 : decode cX5_minuteOf 31 = .ok (.dup2, 1) := by decide +kernel
theorem dX5_minuteOf_32 : decode cX5_minuteOf 32 = .ok (.iaload, 1) := by decide +kernel
theorem dX5_minuteOf_33 : decode cX5_minuteOf 33 = .ok (.iconst 1, 1) := by decide +kernel
theorem dX5_minuteOf_34 : decode cX5_minuteOf 34 = .ok (.isub, 1) := by decide +kernel
theorem dX5_minuteOf_35 : decode cX5_minuteOf 35 = .ok (.iastore, 1) := by decide +kernel
theorem dX5_minuteOf_36 : decode cX5_minuteOf 36 = .ok (.aload_n 0, 1) := by decide +kernel
theorem dX5_minuteOf_37 : decode cX5_minuteOf 37 = .ok (.getfield 16, 3) := by decide +kernel
theorem dX5_minuteOf_40 : decode cX5_minuteOf 40 = .ok (.bipush 12, 2) := by decide +kernel
theorem dX5_minuteOf_42 : decode cX5_minuteOf 42 = .ok (.iload_n 2, 1) := by decide +kernel
theorem dX5_minuteOf_43 : decode cX5_minuteOf 43 = .ok (.imul, 1) := by decide +kernel
theorem dX5_minuteOf_44 : decode cX5_minuteOf 44 = .ok (.bipush 11, 2) := by decide +kernel
theorem dX5_minuteOf_46 : decode cX5_minuteOf 46 = .ok (.iadd, 1) := by decide +kernel
theorem dX5_minuteOf_47 : decode cX5_minuteOf 47 = .ok (.iaload, 1) := by decide +kernel
theorem dX5_minuteOf_48 : decode cX5_minuteOf 48 = .ok (.ifCond .ne 22, 3) := by decide +kernel
theorem dX5_minuteOf_51 : decode cX5_minuteOf 51 = .ok (.aload_n 0, 1) := by decide +kernel
theorem dX5_minuteOf_52 : decode cX5_minuteOf 52 = .ok (.getfield 16, 3) := by decide +kernel
theorem dX5_minuteOf_55 : decode cX5_minuteOf 55 = .ok (.bipush 12, 2) := by decide +kernel
theorem dX5_minuteOf_57 : decode cX5_minuteOf 57 = .ok (.iload_n 2, 1) := by decide +kernel
theorem dX5_minuteOf_58 : decode cX5_minuteOf 58 = .ok (.imul, 1) := by decide +kernel
theorem dX5_minuteOf_59 : decode cX5_minuteOf 59 = .ok (.bipush 10, 2) := by decide +kernel
theorem dX5_minuteOf_61 : decode cX5_minuteOf 61 = .ok (.iadd, 1) := by decide +kernel
theorem dX5_minuteOf_62 : decode cX5_minuteOf 62 = .ok (.iconst (-1), 1) := by decide +kernel
theorem dX5_minuteOf_63 : decode cX5_minuteOf 63 = .ok (.iastore, 1) := by decide +kernel
theorem dX5_minuteOf_64 : decode cX5_minuteOf 64 = .ok (.iload_n 1, 1) := by decide +kernel
theorem dX5_minuteOf_65 : decode cX5_minuteOf 65 = .ok (.iconst 1, 1) := by decide +kernel
theorem dX5_minuteOf_66 : decode cX5_minuteOf 66 = .ok (.iload_n 2, 1) := by decide +kernel
theorem dX5_minuteOf_67 : decode cX5_minuteOf 67 = .ok (.ishl, 1) := by decide +kernel
theorem dX5_minuteOf_68 : decode cX5_minuteOf 68 = .ok (.ior, 1) := by decide +kernel
theorem dX5_minuteOf_69 : decode cX5_minuteOf 69 = .ok (.istore_n 1, 1) := by decide +kernel
theorem dX5_minuteOf_70 : decode cX5_minuteOf 70 = .ok (.iinc 2 1, 3) := by decide +kernel
theorem dX5_minuteOf_73 : decode cX5_minuteOf 73 = .ok (.goto (-69), 3) := by decide +kernel
theorem dX5_minuteOf_76 : decode cX5_minuteOf 76 = .ok (.aload_n 0, 1) := by decide +kernel
theorem dX5_minuteOf_77 : decode cX5_minuteOf 77 = .ok (.dup, 1) := by decide +kernel
theorem dX5_minuteOf_78 : decode cX5_minuteOf 78 = .ok (.getfield 86, 3) := by decide +kernel
theorem dX5_minuteOf_81 : decode cX5_minuteOf 81 = .ok (.iconst 1, 1) := by decide +kernel
theorem dX5_minuteOf_82 : decode cX5_minuteOf 82 = .ok (.iadd, 1) := by decide +kernel
theorem dX5_minuteOf_83 : decode cX5_minuteOf 83 = .ok (.putfield 86, 3) := by decide +kernel
theorem dX5_minuteOf_86 : decode cX5_minuteOf 86 = .ok (.iload_n 1, 1) := by decide +kernel
theorem dX5_minuteOf_87 : decode cX5_minuteOf 87 = .ok (.ireturn, 1) := by decide +kernel
theorem dX5_minute_0 : decode cX5_minute 0 = .ok (.aload_n 0, 1) := by decide +kernel
theorem dX5_minute_1 : decode cX5_minute 1 = .ok (.getfield 86, 3) := by decide +kernel
theorem dX5_minute_4 : decode cX5_minute 4 = .ok (.sipush 999, 3) := by decide +kernel
theorem dX5_minute_7 : decode cX5_minute 7 = .ok (.if_icmp .ne 8, 3) := by decide +kernel
theorem dX5_minute_10 : decode cX5_minute 10 = .ok (.bipush (-3), 2) := by decide +kernel
theorem dX5_minute_12 : decode cX5_minute 12 = .ok (.goto 7, 3) := by decide +kernel
theorem dX5_minute_15 : decode cX5_minute 15 = .ok (.aload_n 0, 1) := by decide +kernel
theorem dX5_minute_16 : decode cX5_minute 16 = .ok (.invokevirtual 199, 3) := by decide +kernel
theorem dX5_minute_19 : decode cX5_minute 19 = .ok (.ireturn, 1) := by decide +kernel
theorem dX5_whoIn_0 : decode cX5_whoIn 0 = .ok (.iconst 0, 1) := by decide +kernel
theorem dX5_whoIn_1 : decode cX5_whoIn 1 = .ok (.istore_n 2, 1) := by decide +kernel
theorem dX5_whoIn_2 : decode cX5_whoIn 2 = .ok (.iconst 0, 1) := by decide +kernel
theorem dX5_whoIn_3 : decode cX5_whoIn 3 = .ok (.istore_n 3, 1) := by decide +kernel
theorem dX5_whoIn_4 : decode cX5_whoIn 4 = .ok (.iload_n 3, 1) := by decide +kernel
theorem dX5_whoIn_5 : decode cX5_whoIn 5 = .ok (.aload_n 0, 1) := by decide +kernel
theorem dX5_whoIn_6 : decode cX5_whoIn 6 = .ok (.getfield 75, 3) := by decide +kernel
theorem dX5_whoIn_9 : decode cX5_whoIn 9 = .ok (.if_icmp .ge 35, 3) := by decide +kernel
theorem dX5_whoIn_12 : decode cX5_whoIn 12 = .ok (.iload_n 2, 1) := by decide +kernel
theorem dX5_whoIn_13 : decode cX5_whoIn 13 = .ok (.aload_n 0, 1) := by decide +kernel
theorem dX5_whoIn_14 : decode cX5_whoIn 14 = .ok (.getfield 16, 3) := by decide +kernel
theorem dX5_whoIn_17 : decode cX5_whoIn 17 = .ok (.bipush 12, 2) := by decide +kernel
theorem dX5_whoIn_19 : decode cX5_whoIn 19 = .ok (.iload_n 3, 1) := by decide +kernel
theorem dX5_whoIn_20 : decode cX5_whoIn 20 = .ok (.imul, 1) := by decide +kernel
theorem dX5_whoIn_21 : decode cX5_whoIn 21 = .ok (.bipush 10, 2) := by decide +kernel
theorem dX5_whoIn_23 : decode cX5_whoIn 23 = .ok (.iadd, 1) := by decide +kernel
theorem dX5_whoIn_24 : decode cX5_whoIn 24 = .ok (.iaload, 1) := by decide +kernel
theorem dX5_whoIn_25 : decode cX5_whoIn 25 = .ok (.iload_n 1, 1) := by decide +kernel
theorem dX5_whoIn_26 : decode cX5_whoIn 26 = .ok (.if_icmp .ne 9, 3) := by decide +kernel
theorem dX5_whoIn_29 : decode cX5_whoIn 29 = .ok (.iconst 1, 1) := by decide +kernel
theorem dX5_whoIn_30 : decode cX5_whoIn 30 = .ok (.iload_n 3, 1) := by decide +kernel
theorem dX5_whoIn_31 : decode cX5_whoIn 31 = .ok (.ishl, 1) := by decide +kernel
theorem dX5_whoIn_32 : decode cX5_whoIn 32 = .ok (.goto 4, 3) := by decide +kernel
theorem dX5_whoIn_35 : decode cX5_whoIn 35 = .ok (.iconst 0, 1) := by decide +kernel
theorem dX5_whoIn_36 : decode cX5_whoIn 36 = .ok (.ior, 1) := by decide +kernel
theorem dX5_whoIn_37 : decode cX5_whoIn 37 = .ok (.istore_n 2, 1) := by decide +kernel
theorem dX5_whoIn_38 : decode cX5_whoIn 38 = .ok (.iinc 3 1, 3) := by decide +kernel
theorem dX5_whoIn_41 : decode cX5_whoIn 41 = .ok (.goto (-37), 3) := by decide +kernel
theorem dX5_whoIn_44 : decode cX5_whoIn 44 = .ok (.iload_n 2, 1) := by decide +kernel
theorem dX5_whoIn_45 : decode cX5_whoIn 45 = .ok (.ireturn, 1) := by decide +kernel
theorem dX5_longest_0 : decode cX5_longest 0 = .ok (.iconst 0, 1) := by decide +kernel
theorem dX5_longest_1 : decode cX5_longest 1 = .ok (.istore_n 1, 1) := by decide +kernel
theorem dX5_longest_2 : decode cX5_longest 2 = .ok (.iconst 0, 1) := by decide +kernel
theorem dX5_longest_3 : decode cX5_longest 3 = .ok (.istore_n 2, 1) := by decide +kernel
theorem dX5_longest_4 : decode cX5_longest 4 = .ok (.iload_n 2, 1) := by decide +kernel
theorem dX5_longest_5 : decode cX5_longest 5 = .ok (.aload_n 0, 1) := by decide +kernel
theorem dX5_longest_6 : decode cX5_longest 6 = .ok (.getfield 75, 3) := by decide +kernel
theorem dX5_longest_9 : decode cX5_longest 9 = .ok (.if_icmp .ge 42, 3) := by decide +kernel
theorem dX5_longest_12 : decode cX5_longest 12 = .ok (.aload_n 0, 1) := by decide +kernel
theorem dX5_longest_13 : decode cX5_longest 13 = .ok (.getfield 16, 3) := by decide +kernel
theorem dX5_longest_16 : decode cX5_longest 16 = .ok (.bipush 12, 2) := by decide +kernel
theorem dX5_longest_18 : decode cX5_longest 18 = .ok (.iload_n 2, 1) := by decide +kernel
theorem dX5_longest_19 : decode cX5_longest 19 = .ok (.imul, 1) := by decide +kernel
theorem dX5_longest_20 : decode cX5_longest 20 = .ok (.bipush 11, 2) := by decide +kernel
theorem dX5_longest_22 : decode cX5_longest 22 = .ok (.iadd, 1) := by decide +kernel
theorem dX5_longest_23 : decode cX5_longest 23 = .ok (.iaload, 1) := by decide +kernel
theorem dX5_longest_24 : decode cX5_longest 24 = .ok (.iload_n 1, 1) := by decide +kernel
theorem dX5_longest_25 : decode cX5_longest 25 = .ok (.if_icmp .le 18, 3) := by decide +kernel
theorem dX5_longest_28 : decode cX5_longest 28 = .ok (.aload_n 0, 1) := by decide +kernel
theorem dX5_longest_29 : decode cX5_longest 29 = .ok (.getfield 16, 3) := by decide +kernel
theorem dX5_longest_32 : decode cX5_longest 32 = .ok (.bipush 12, 2) := by decide +kernel
theorem dX5_longest_34 : decode cX5_longest 34 = .ok (.iload_n 2, 1) := by decide +kernel
theorem dX5_longest_35 : decode cX5_longest 35 = .ok (.imul, 1) := by decide +kernel
theorem dX5_longest_36 : decode cX5_longest 36 = .ok (.bipush 11, 2) := by decide +kernel
theorem dX5_longest_38 : decode cX5_longest 38 = .ok (.iadd, 1) := by decide +kernel
theorem dX5_longest_39 : decode cX5_longest 39 = .ok (.iaload, 1) := by decide +kernel
theorem dX5_longest_40 : decode cX5_longest 40 = .ok (.goto 4, 3) := by decide +kernel
theorem dX5_longest_43 : decode cX5_longest 43 = .ok (.iload_n 1, 1) := by decide +kernel
theorem dX5_longest_44 : decode cX5_longest 44 = .ok (.istore_n 1, 1) := by decide +kernel
theorem dX5_longest_45 : decode cX5_longest 45 = .ok (.iinc 2 1, 3) := by decide +kernel
theorem dX5_longest_48 : decode cX5_longest 48 = .ok (.goto (-44), 3) := by decide +kernel
theorem dX5_longest_51 : decode cX5_longest 51 = .ok (.iload_n 1, 1) := by decide +kernel
theorem dX5_longest_52 : decode cX5_longest 52 = .ok (.ireturn, 1) := by decide +kernel
theorem dX5_room_0 : decode cX5_room 0 = .ok (.iload_n 1, 1) := by decide +kernel
theorem dX5_room_1 : decode cX5_room 1 = .ok (.iconst 0, 1) := by decide +kernel
theorem dX5_room_2 : decode cX5_room 2 = .ok (.bipush 9, 2) := by decide +kernel
theorem dX5_room_4 : decode cX5_room 4 = .ok (.invokestatic 78, 3) := by decide +kernel
theorem dX5_room_7 : decode cX5_room 7 = .ok (.ifCond .ne 6, 3) := by decide +kernel
theorem dX5_room_10 : decode cX5_room 10 = .ok (.bipush (-2), 2) := by decide +kernel
theorem dX5_room_12 : decode cX5_room 12 = .ok (.ireturn, 1) := by decide +kernel
theorem dX5_room_13 : decode cX5_room 13 = .ok (.iload_n 1, 1) := by decide +kernel
theorem dX5_room_14 : decode cX5_room 14 = .ok (.ifCond .ne 10, 3) := by decide +kernel
theorem dX5_room_17 : decode cX5_room 17 = .ok (.aload_n 0, 1) := by decide +kernel
theorem dX5_room_18 : decode cX5_room 18 = .ok (.invokevirtual 89, 3) := by decide +kernel
theorem dX5_room_21 : decode cX5_room 21 = .ok (.goto 23, 3) := by decide +kernel
theorem dX5_room_24 : decode cX5_room 24 = .ok (.iload_n 1, 1) := by decide +kernel
theorem dX5_room_25 : decode cX5_room 25 = .ok (.bipush 9, 2) := by decide +kernel
theorem dX5_room_27 : decode cX5_room 27 = .ok (.if_icmp .ne 10, 3) := by decide +kernel
theorem dX5_room_30 : decode cX5_room 30 = .ok (.aload_n 0, 1) := by decide +kernel
theorem dX5_room_31 : decode cX5_room 31 = .ok (.invokevirtual 202, 3) := by decide +kernel
theorem dX5_room_34 : decode cX5_room 34 = .ok (.goto 10, 3) := by decide +kernel
theorem dX5_room_37 : decode cX5_room 37 = .ok (.aload_n 0, 1) := by decide +kernel
theorem dX5_room_38 : decode cX5_room 38 = .ok (.iload_n 1, 1) := by decide +kernel
theorem dX5_room_39 : decode cX5_room 39 = .ok (.iconst 1, 1) := by decide +kernel
theorem dX5_room_40 : decode cX5_room 40 = .ok (.isub, 1) := by decide +kernel
theorem dX5_room_41 : decode cX5_room 41 = .ok (.invokevirtual 205, 3) := by decide +kernel
theorem dX5_room_44 : decode cX5_room 44 = .ok (.ireturn, 1) := by decide +kernel
theorem dX5_keeps_0 : decode cX5_keeps 0 = .ok (.iconst 0, 1) := by decide +kernel
theorem dX5_keeps_1 : decode cX5_keeps 1 = .ok (.istore_n 1, 1) := by decide +kernel
theorem dX5_keeps_2 : decode cX5_keeps 2 = .ok (.iload_n 1, 1) := by decide +kernel
theorem dX5_keeps_3 : decode cX5_keeps 3 = .ok (.bipush 72, 2) := by decide +kernel
theorem dX5_keeps_5 : decode cX5_keeps 5 = .ok (.if_icmp .ge 21, 3) := by decide +kernel
theorem dX5_keeps_8 : decode cX5_keeps 8 = .ok (.aload_n 0, 1) := by decide +kernel
theorem dX5_keeps_9 : decode cX5_keeps 9 = .ok (.getfield 58, 3) := by decide +kernel
theorem dX5_keeps_12 : decode cX5_keeps 12 = .ok (.iload_n 1, 1) := by decide +kernel
theorem dX5_keeps_13 : decode cX5_keeps 13 = .ok (.aload_n 0, 1) := by decide +kernel
theorem dX5_keeps_14 : decode cX5_keeps 14 = .ok (.getfield 16, 3) := by decide +kernel
theorem dX5_keeps_17 : decode cX5_keeps 17 = .ok (.iload_n 1, 1) := by decide +kernel
theorem dX5_keeps_18 : decode cX5_keeps 18 = .ok (.iaload, 1) := by decide +kernel
theorem dX5_keeps_19 : decode cX5_keeps 19 = .ok (.iastore, 1) := by decide +kernel
theorem dX5_keeps_20 : decode cX5_keeps 20 = .ok (.iinc 1 1, 3) := by decide +kernel
theorem dX5_keeps_23 : decode cX5_keeps 23 = .ok (.goto (-21), 3) := by decide +kernel
theorem dX5_keeps_26 : decode cX5_keeps 26 = .ok (.aload_n 0, 1) := by decide +kernel
theorem dX5_keeps_27 : decode cX5_keeps 27 = .ok (.getfield 58, 3) := by decide +kernel
theorem dX5_keeps_30 : decode cX5_keeps 30 = .ok (.bipush 72, 2) := by decide +kernel
theorem dX5_keeps_32 : decode cX5_keeps 32 = .ok (.aload_n 0, 1) := by decide +kernel
theorem dX5_keeps_33 : decode cX5_keeps 33 = .ok (.getfield 86, 3) := by decide +kernel
theorem dX5_keeps_36 : decode cX5_keeps 36 = .ok (.iastore, 1) := by decide +kernel
theorem dX5_keeps_37 : decode cX5_keeps 37 = .ok (.return_, 1) := by decide +kernel
theorem dX5_lays_0 : decode cX5_lays 0 = .ok (.iconst 0, 1) := by decide +kernel
theorem dX5_lays_1 : decode cX5_lays 1 = .ok (.istore_n 1, 1) := by decide +kernel
theorem dX5_lays_2 : decode cX5_lays 2 = .ok (.iload_n 1, 1) := by decide +kernel
theorem dX5_lays_3 : decode cX5_lays 3 = .ok (.bipush 72, 2) := by decide +kernel
theorem dX5_lays_5 : decode cX5_lays 5 = .ok (.if_icmp .ge 21, 3) := by decide +kernel
theorem dX5_lays_8 : decode cX5_lays 8 = .ok (.aload_n 0, 1) := by decide +kernel
theorem dX5_lays_9 : decode cX5_lays 9 = .ok (.getfield 16, 3) := by decide +kernel
theorem dX5_lays_12 : decode cX5_lays 12 = .ok (.iload_n 1, 1) := by decide +kernel
theorem dX5_lays_13 : decode cX5_lays 13 = .ok (.aload_n 0, 1) := by decide +kernel
theorem dX5_lays_14 : decode cX5_lays 14 = .ok (.getfield 58, 3) := by decide +kernel
theorem dX5_lays_17 : decode cX5_lays 17 = .ok (.iload_n 1, 1) := by decide +kernel
theorem dX5_lays_18 : decode cX5_lays 18 = .ok (.iaload, 1) := by decide +kernel
theorem dX5_lays_19 : decode cX5_lays 19 = .ok (.iastore, 1) := by decide +kernel
theorem dX5_lays_20 : decode cX5_lays 20 = .ok (.iinc 1 1, 3) := by decide +kernel
theorem dX5_lays_23 : decode cX5_lays 23 = .ok (.goto (-21), 3) := by decide +kernel
theorem dX5_lays_26 : decode cX5_lays 26 = .ok (.aload_n 0, 1) := by decide +kernel
theorem dX5_lays_27 : decode cX5_lays 27 = .ok (.aload_n 0, 1) := by decide +kernel
theorem dX5_lays_28 : decode cX5_lays 28 = .ok (.getfield 58, 3) := by decide +kernel
theorem dX5_lays_31 : decode cX5_lays 31 = .ok (.bipush 72, 2) := by decide +kernel
theorem dX5_lays_33 : decode cX5_lays 33 = .ok (.iaload, 1) := by decide +kernel
theorem dX5_lays_34 : decode cX5_lays 34 = .ok (.putfield 86, 3) := by decide +kernel
theorem dX5_lays_37 : decode cX5_lays 37 = .ok (.return_, 1) := by decide +kernel
theorem dX5_eveningWrong_0 : decode cX5_eveningWrong 0 = .ok (.iload_n 1, 1) := by decide +kernel
theorem dX5_eveningWrong_1 : decode cX5_eveningWrong 1 = .ok (.iconst 0, 1) := by decide +kernel
theorem dX5_eveningWrong_2 : decode cX5_eveningWrong 2 = .ok (.iconst 3, 1) := by decide +kernel
theorem dX5_eveningWrong_3 : decode cX5_eveningWrong 3 = .ok (.invokestatic 78, 3) := by decide +kernel
theorem dX5_eveningWrong_6 : decode cX5_eveningWrong 6 = .ok (.ifCond .ne 6, 3) := by decide +kernel
theorem dX5_eveningWrong_9 : decode cX5_eveningWrong 9 = .ok (.bipush (-2), 2) := by decide +kernel
theorem dX5_eveningWrong_11 : decode cX5_eveningWrong 11 = .ok (.ireturn, 1) := by decide +kernel
theorem dX5_eveningWrong_12 : decode cX5_eveningWrong 12 = .ok (.aload_n 0, 1) := by decide +kernel
theorem dX5_eveningWrong_13 : decode cX5_eveningWrong 13 = .ok (.getfield 34, 3) := by decide +kernel
theorem dX5_eveningWrong_16 : decode cX5_eveningWrong 16 = .ok (.iload_n 1, 1) := by decide +kernel
theorem dX5_eveningWrong_17 : decode cX5_eveningWrong 17 = .ok (.iaload, 1) := by decide +kernel
theorem dX5_eveningWrong_18 : decode cX5_eveningWrong 18 = .ok (.iconst (-1), 1) := by decide +kernel
theorem dX5_eveningWrong_19 : decode cX5_eveningWrong 19 = .ok (.if_icmp .ne 6, 3) := by decide +kernel
theorem dX5_eveningWrong_22 : decode cX5_eveningWrong 22 = .ok (.bipush (-11), 2) := by decide +kernel
theorem dX5_eveningWrong_24 : decode cX5_eveningWrong 24 = .ok (.ireturn, 1) := by decide +kernel
theorem dX5_eveningWrong_25 : decode cX5_eveningWrong 25 = .ok (.iconst 0, 1) := by decide +kernel
theorem dX5_eveningWrong_26 : decode cX5_eveningWrong 26 = .ok (.istore_n 2, 1) := by decide +kernel
theorem dX5_eveningWrong_27 : decode cX5_eveningWrong 27 = .ok (.iload_n 2, 1) := by decide +kernel
theorem dX5_eveningWrong_28 : decode cX5_eveningWrong 28 = .ok (.aload_n 0, 1) := by decide +kernel
theorem dX5_eveningWrong_29 : decode cX5_eveningWrong 29 = .ok (.getfield 37, 3) := by decide +kernel
theorem dX5_eveningWrong_32 : decode cX5_eveningWrong 32 = .ok (.iload_n 1, 1) := by decide +kernel
theorem dX5_eveningWrong_33 : decode cX5_eveningWrong 33 = .ok (.iaload, 1) := by decide +kernel
theorem dX5_eveningWrong_34 : decode cX5_eveningWrong 34 = .ok (.if_icmp .ge 54, 3) := by decide +kernel
theorem dX5_eveningWrong_37 : decode cX5_eveningWrong 37 = .ok (.aload_n 0, 1) := by decide +kernel
theorem dX5_eveningWrong_38 : decode cX5_eveningWrong 38 = .ok (.getfield 40, 3) := by decide +kernel
theorem dX5_eveningWrong_41 : decode cX5_eveningWrong 41 = .ok (.bipush 40, 2) := by decide +kernel
theorem dX5_eveningWrong_43 : decode cX5_eveningWrong 43 = .ok (.iload_n 1, 1) := by decide +kernel
theorem dX5_eveningWrong_44 : decode cX5_eveningWrong 44 = .ok (.imul, 1) := by decide +kernel
theorem dX5_eveningWrong_45 : decode cX5_eveningWrong 45 = .ok (.iload_n 2, 1) := by decide +kernel
theorem dX5_eveningWrong_46 : decode cX5_eveningWrong 46 = .ok (.iadd, 1) := by decide +kernel
theorem dX5_eveningWrong_47 : decode cX5_eveningWrong 47 = .ok (.iaload, 1) := by decide +kernel
theorem dX5_eveningWrong_48 : decode cX5_eveningWrong 48 = .ok (.istore_n 3, 1) := by decide +kernel
theorem dX5_eveningWrong_49 : decode cX5_eveningWrong 49 = .ok (.iload_n 3, 1) := by decide +kernel
theorem dX5_eveningWrong_50 : decode cX5_eveningWrong 50 = .ok (.iconst (-1), 1) := by decide +kernel
theorem dX5_eveningWrong_51 : decode cX5_eveningWrong 51 = .ok (.if_icmp .eq 31, 3) := by decide +kernel
theorem dX5_eveningWrong_54 : decode cX5_eveningWrong 54 = .ok (.iload_n 3, 1) := by decide +kernel
theorem dX5_eveningWrong_55 : decode cX5_eveningWrong 55 = .ok (.ifCond .lt 24, 3) := by decide +kernel
theorem dX5_eveningWrong_58 : decode cX5_eveningWrong 58 = .ok (.aload_n 0, 1) := by decide +kernel
theorem dX5_eveningWrong_59 : decode cX5_eveningWrong 59 = .ok (.iload_n 3, 1) := by decide +kernel
theorem dX5_eveningWrong_60 : decode cX5_eveningWrong 60 = .ok (.bipush 10, 2) := by decide +kernel
theorem dX5_eveningWrong_62 : decode cX5_eveningWrong 62 = .ok (.idiv, 1) := by decide +kernel
theorem dX5_eveningWrong_63 : decode cX5_eveningWrong 63 = .ok (.invokevirtual 170, 3) := by decide +kernel
theorem dX5_eveningWrong_66 : decode cX5_eveningWrong 66 = .ok (.ifCond .eq 13, 3) := by decide +kernel
theorem dX5_eveningWrong_69 : decode cX5_eveningWrong 69 = .ok (.iload_n 3, 1) := by decide +kernel
theorem dX5_eveningWrong_70 : decode cX5_eveningWrong 70 = .ok (.bipush 10, 2) := by decide +kernel
theorem dX5_eveningWrong_72 : decode cX5_eveningWrong 72 = .ok (.irem, 1) := by decide +kernel
theorem dX5_eveningWrong_73 : decode cX5_eveningWrong 73 = .ok (.invokestatic 173, 3) := by decide +kernel
theorem dX5_eveningWrong_76 : decode cX5_eveningWrong 76 = .ok (.ifCond .ne 6, 3) := by decide +kernel
theorem dX5_eveningWrong_79 : decode cX5_eveningWrong 79 = .ok (.bipush (-2), 2) := by decide +kernel
theorem dX5_eveningWrong_81 : decode cX5_eveningWrong 81 = .ok (.ireturn, 1) := by decide +kernel
theorem dX5_eveningWrong_82 : decode cX5_eveningWrong 82 = .ok (.iinc 2 1, 3) := by decide +kernel
theorem dX5_eveningWrong_85 : decode cX5_eveningWrong 85 = .ok (.goto (-58), 3) := by decide +kernel
theorem dX5_eveningWrong_88 : decode cX5_eveningWrong 88 = .ok (.iconst 0, 1) := by decide +kernel
theorem dX5_eveningWrong_89 : decode cX5_eveningWrong 89 = .ok (.ireturn, 1) := by decide +kernel
theorem dX5_takesOne_0 : decode cX5_takesOne 0 = .ok (.iload_n 1, 1) := by decide +kernel
theorem dX5_takesOne_1 : decode cX5_takesOne 1 = .ok (.iconst (-1), 1) := by decide +kernel
theorem dX5_takesOne_2 : decode cX5_takesOne 2 = .ok (.if_icmp .ne 5, 3) := by decide +kernel
theorem dX5_takesOne_5 : decode cX5_takesOne 5 = .ok (.iconst 0, 1) := by decide +kernel
theorem dX5_takesOne_6 : decode cX5_takesOne 6 = .ok (.ireturn, 1) := by decide +kernel
theorem dX5_takesOne_7 : decode cX5_takesOne 7 = .ok (.iload_n 1, 1) := by decide +kernel
theorem dX5_takesOne_8 : decode cX5_takesOne 8 = .ok (.bipush 10, 2) := by decide +kernel
theorem dX5_takesOne_10 : decode cX5_takesOne 10 = .ok (.idiv, 1) := by decide +kernel
theorem dX5_takesOne_11 : decode cX5_takesOne 11 = .ok (.iconst 0, 1) := by decide +kernel
theorem dX5_takesOne_12 : decode cX5_takesOne 12 = .ok (.iconst 5, 1) := by decide +kernel
theorem dX5_takesOne_13 : decode cX5_takesOne 13 = .ok (.invokestatic 167, 3) := by decide +kernel
theorem dX5_takesOne_16 : decode cX5_takesOne 16 = .ok (.istore_n 2, 1) := by decide +kernel
theorem dX5_takesOne_17 : decode cX5_takesOne 17 = .ok (.iload_n 1, 1) := by decide +kernel
theorem dX5_takesOne_18 : decode cX5_takesOne 18 = .ok (.bipush 10, 2) := by decide +kernel
theorem dX5_takesOne_20 : decode cX5_takesOne 20 = .ok (.irem, 1) := by decide +kernel
theorem dX5_takesOne_21 : decode cX5_takesOne 21 = .ok (.iconst 0, 1) := by decide +kernel
theorem dX5_takesOne_22 : decode cX5_takesOne 22 = .ok (.bipush 7, 2) := by decide +kernel
theorem dX5_takesOne_24 : decode cX5_takesOne 24 = .ok (.invokestatic 167, 3) := by decide +kernel
theorem dX5_takesOne_27 : decode cX5_takesOne 27 = .ok (.istore_n 3, 1) := by decide +kernel
theorem dX5_takesOne_28 : decode cX5_takesOne 28 = .ok (.aload_n 0, 1) := by decide +kernel
theorem dX5_takesOne_29 : decode cX5_takesOne 29 = .ok (.iload_n 2, 1) := by decide +kernel
theorem dX5_takesOne_30 : decode cX5_takesOne 30 = .ok (.iload_n 3, 1) := by decide +kernel
theorem dX5_takesOne_31 : decode cX5_takesOne 31 = .ok (.invokevirtual 192, 3) := by decide +kernel
theorem dX5_takesOne_34 : decode cX5_takesOne 34 = .ok (.istore 4, 2) := by decide +kernel
theorem dX5_takesOne_36 : decode cX5_takesOne 36 = .ok (.iload 4, 2) := by decide +kernel
theorem dX5_takesOne_38 : decode cX5_takesOne 38 = .ok (.ifCond .eq 9, 3) := by decide +kernel
theorem dX5_takesOne_41 : decode cX5_takesOne 41 = .ok (.aload_n 0, 1) := by decide +kernel
theorem dX5_takesOne_42 : decode cX5_takesOne 42 = .ok (.iload_n 2, 1) := by decide +kernel
theorem dX5_takesOne_43 : decode cX5_takesOne 43 = .ok (.iload_n 3, 1) := by decide +kernel
theorem dX5_takesOne_44 : decode cX5_takesOne 44 = .ok (.invokevirtual 195, 3) := by decide +kernel
theorem dX5_takesOne_47 : decode cX5_takesOne 47 = .ok (.iload 4, 2) := by decide +kernel
theorem dX5_takesOne_49 : decode cX5_takesOne 49 = .ok (.ireturn, 1) := by decide +kernel
theorem dX5_goes_0 : decode cX5_goes 0 = .ok (.aload_n 0, 1) := by decide +kernel
theorem dX5_goes_1 : decode cX5_goes 1 = .ok (.getfield 61, 3) := by decide +kernel
theorem dX5_goes_4 : decode cX5_goes 4 = .ok (.iconst 0, 1) := by decide +kernel
theorem dX5_goes_5 : decode cX5_goes 5 = .ok (.iconst 0, 1) := by decide +kernel
theorem dX5_goes_6 : decode cX5_goes 6 = .ok (.iastore, 1) := by decide +kernel
theorem dX5_goes_7 : decode cX5_goes 7 = .ok (.aload_n 0, 1) := by decide +kernel
theorem dX5_goes_8 : decode cX5_goes 8 = .ok (.getfield 61, 3) := by decide +kernel
theorem dX5_goes_11 : decode cX5_goes 11 = .ok (.iconst 1, 1) := by decide +kernel
theorem dX5_goes_12 : decode cX5_goes 12 = .ok (.iconst 0, 1) := by decide +kernel
theorem dX5_goes_13 : decode cX5_goes 13 = .ok (.iastore, 1) := by decide +kernel
theorem dX5_goes_14 : decode cX5_goes 14 = .ok (.aload_n 0, 1) := by decide +kernel
theorem dX5_goes_15 : decode cX5_goes 15 = .ok (.getfield 61, 3) := by decide +kernel
theorem dX5_goes_18 : decode cX5_goes 18 = .ok (.iconst 2, 1) := by decide +kernel
theorem dX5_goes_19 : decode cX5_goes 19 = .ok (.iconst 0, 1) := by decide +kernel
theorem dX5_goes_20 : decode cX5_goes 20 = .ok (.iastore, 1) := by decide +kernel
theorem dX5_goes_21 : decode cX5_goes 21 = .ok (.aload_n 0, 1) := by decide +kernel
theorem dX5_goes_22 : decode cX5_goes 22 = .ok (.getfield 61, 3) := by decide +kernel
theorem dX5_goes_25 : decode cX5_goes 25 = .ok (.iconst 3, 1) := by decide +kernel
theorem dX5_goes_26 : decode cX5_goes 26 = .ok (.iconst (-1), 1) := by decide +kernel
theorem dX5_goes_27 : decode cX5_goes 27 = .ok (.iastore, 1) := by decide +kernel
theorem dX5_goes_28 : decode cX5_goes 28 = .ok (.iconst 0, 1) := by decide +kernel
theorem dX5_goes_29 : decode cX5_goes 29 = .ok (.istore_n 2, 1) := by decide +kernel
theorem dX5_goes_30 : decode cX5_goes 30 = .ok (.iload_n 2, 1) := by decide +kernel
theorem dX5_goes_31 : decode cX5_goes 31 = .ok (.aload_n 0, 1) := by decide +kernel
theorem dX5_goes_32 : decode cX5_goes 32 = .ok (.getfield 37, 3) := by decide +kernel
theorem dX5_goes_35 : decode cX5_goes 35 = .ok (.iload_n 1, 1) := by decide +kernel
theorem dX5_goes_36 : decode cX5_goes 36 = .ok (.iaload, 1) := by decide +kernel
theorem dX5_goes_37 : decode cX5_goes 37 = .ok (.if_icmp .ge 137, 3) := by decide +kernel
theorem dX5_goes_40 : decode cX5_goes 40 = .ok (.aload_n 0, 1) := by decide +kernel
theorem dX5_goes_41 : decode cX5_goes 41 = .ok (.aload_n 0, 1) := by decide +kernel
theorem dX5_goes_42 : decode cX5_goes 42 = .ok (.getfield 40, 3) := by decide +kernel
theorem dX5_goes_45 : decode cX5_goes 45 = .ok (.bipush 40, 2) := by decide +kernel
theorem dX5_goes_47 : decode cX5_goes 47 = .ok (.iload_n 1, 1) := by decide +kernel
theorem dX5_goes_48 : decode cX5_goes 48 = .ok (.imul, 1) := by decide +kernel
theorem dX5_goes_49 : decode cX5_goes 49 = .ok (.iload_n 2, 1) := by decide +kernel
theorem dX5_goes_50 : decode cX5_goes 50 = .ok (.iadd, 1) := by decide +kernel
theorem dX5_goes_51 : decode cX5_goes 51 = .ok (.iaload, 1) := by decide +kernel
theorem dX5_goes_52 : decode cX5_goes 52 = .ok (.invokevirtual 208, 3) := by decide +kernel
theorem dX5_goes_55 : decode cX5_goes 55 = .ok (.istore_n 3, 1) := by decide +kernel
theorem dX5_goes_56 : decode cX5_goes 56 = .ok (.aload_n 0, 1) := by decide +kernel
theorem dX5_goes_57 : decode cX5_goes 57 = .ok (.getfield 61, 3) := by decide +kernel
theorem dX5_goes_60 : decode cX5_goes 60 = .ok (.iconst 0, 1) := by decide +kernel
theorem dX5_goes_61 : decode cX5_goes 61 = .ok (.dup2, 1) := by decide +kernel
theorem dX5_goes_62 : decode cX5_goes 62 = .ok (.iaload, 1) := by decide +kernel
theorem dX5_goes_63 : decode cX5_goes 63 = .ok (.iload_n 3, 1) := by decide +kernel
theorem dX5_goes_64 : decode cX5_goes 64 = .ok (.ifCond .eq 7, 3) := by decide +kernel
theorem dX5_goes_67 : decode cX5_goes 67 = .ok (.iconst 1, 1) := by decide +kernel
theorem dX5_goes_68 : decode cX5_goes 68 = .ok (.goto 4, 3) := by decide +kernel
theorem dX5_goes_71 : decode cX5_goes 71 = .ok (.iconst 0, 1) := by decide +kernel
theorem dX5_goes_72 : decode cX5_goes 72 = .ok (.iadd, 1) := by decide +kernel
theorem dX5_goes_73 : decode cX5_goes 73 = .ok (.iastore, 1) := by decide +kernel
theorem dX5_goes_74 : decode cX5_goes 74 = .ok (.iload_n 3, 1) := by decide +kernel
theorem dX5_goes_75 : decode cX5_goes 75 = .ok (.ifCond .ne 35, 3) := by decide +kernel
theorem dX5_goes_78 : decode cX5_goes 78 = .ok (.aload_n 0, 1) := by decide +kernel
theorem dX5_goes_79 : decode cX5_goes 79 = .ok (.getfield 40, 3) := by decide +kernel
theorem dX5_goes_82 : decode cX5_goes 82 = .ok (.bipush 40, 2) := by decide +kernel
theorem dX5_goes_84 : decode cX5_goes 84 = .ok (.iload_n 1, 1) := by decide +kernel
theorem dX5_goes_85 : decode cX5_goes 85 = .ok (.imul, 1) := by decide +kernel
theorem dX5_goes_86 : decode cX5_goes 86 = .ok (.iload_n 2, 1) := by decide +kernel
theorem dX5_goes_87 : decode cX5_goes 87 = .ok (.iadd, 1) := by decide +kernel
theorem dX5_goes_88 : decode cX5_goes 88 = .ok (.iaload, 1) := by decide +kernel
theorem dX5_goes_89 : decode cX5_goes 89 = .ok (.iconst (-1), 1) := by decide +kernel
theorem dX5_goes_90 : decode cX5_goes 90 = .ok (.if_icmp .eq 20, 3) := by decide +kernel
theorem dX5_goes_93 : decode cX5_goes 93 = .ok (.aload_n 0, 1) := by decide +kernel
theorem dX5_goes_94 : decode cX5_goes 94 = .ok (.getfield 61, 3) := by decide +kernel
theorem dX5_goes_97 : decode cX5_goes 97 = .ok (.iconst 3, 1) := by decide +kernel
theorem dX5_goes_98 : decode cX5_goes 98 = .ok (.iaload, 1) := by decide +kernel
theorem dX5_goes_99 : decode cX5_goes 99 = .ok (.iconst (-1), 1) := by decide +kernel
theorem dX5_goes_100 : decode cX5_goes 100 = .ok (.if_icmp .ne 10, 3) := by decide +kernel
theorem dX5_goes_103 : decode cX5_goes 103 = .ok (.aload_n 0, 1) := by decide +kernel
theorem dX5_goes_104 : decode cX5_goes 104 = .ok (.getfield 61, 3) := by decide +kernel
theorem dX5_goes_107 : decode cX5_goes 107 = .ok (.iconst 3, 1) := by decide +kernel
theorem dX5_goes_108 : decode cX5_goes 108 = .ok (.iload_n 2, 1) := by decide +kernel
theorem dX5_goes_109 : decode cX5_goes 109 = .ok (.iastore, 1) := by decide +kernel
theorem dX5_goes_110 : decode cX5_goes 110 = .ok (.aload_n 0, 1) := by decide +kernel
theorem dX5_goes_111 : decode cX5_goes 111 = .ok (.getfield 75, 3) := by decide +kernel
theorem dX5_goes_114 : decode cX5_goes 114 = .ok (.aload_n 0, 1) := by decide +kernel
theorem dX5_goes_115 : decode cX5_goes 115 = .ok (.invokevirtual 89, 3) := by decide +kernel
theorem dX5_goes_118 : decode cX5_goes 118 = .ok (.invokestatic 92, 3) := by decide +kernel
theorem dX5_goes_121 : decode cX5_goes 121 = .ok (.isub, 1) := by decide +kernel
theorem dX5_goes_122 : decode cX5_goes 122 = .ok (.istore 4, 2) := by decide +kernel
theorem dX5_goes_124 : decode cX5_goes 124 = .ok (.aload_n 0, 1) := by decide +kernel
theorem dX5_goes_125 : decode cX5_goes 125 = .ok (.getfield 61, 3) := by decide +kernel
theorem dX5_goes_128 : decode cX5_goes 128 = .ok (.iconst 1, 1) := by decide +kernel
theorem dX5_goes_129 : decode cX5_goes 129 = .ok (.iload 4, 2) := by decide +kernel
theorem dX5_goes_131 : decode cX5_goes 131 = .ok (.aload_n 0, 1) := by decide +kernel
theorem dX5_goes_132 : decode cX5_goes 132 = .ok (.getfield 61, 3) := by decide +kernel
theorem dX5_goes_135 : decode cX5_goes 135 = .ok (.iconst 1, 1) := by decide +kernel
theorem dX5_goes_136 : decode cX5_goes 136 = .ok (.iaload, 1) := by decide +kernel
theorem dX5_goes_137 : decode cX5_goes 137 = .ok (.if_icmp .le 8, 3) := by decide +kernel
theorem dX5_goes_140 : decode cX5_goes 140 = .ok (.iload 4, 2) := by decide +kernel
theorem dX5_goes_142 : decode cX5_goes 142 = .ok (.goto 9, 3) := by decide +kernel
theorem dX5_goes_145 : decode cX5_goes 145 = .ok (.aload_n 0, 1) := by decide +kernel
theorem dX5_goes_146 : decode cX5_goes 146 = .ok (.getfield 61, 3) := by decide +kernel
theorem dX5_goes_149 : decode cX5_goes 149 = .ok (.iconst 1, 1) := by decide +kernel
theorem dX5_goes_150 : decode cX5_goes 150 = .ok (.iaload, 1) := by decide +kernel
theorem dX5_goes_151 : decode cX5_goes 151 = .ok (.iastore, 1) := by decide +kernel
theorem dX5_goes_152 : decode cX5_goes 152 = .ok (.aload_n 0, 1) := by decide +kernel
theorem dX5_goes_153 : decode cX5_goes 153 = .ok (.getfield 61, 3) := by decide +kernel
theorem dX5_goes_156 : decode cX5_goes 156 = .ok (.iconst 2, 1) := by decide +kernel
theorem dX5_goes_157 : decode cX5_goes 157 = .ok (.dup2, 1) := by decide +kernel
theorem dX5_goes_158 : decode cX5_goes 158 = .ok (.iaload, 1) := by decide +kernel
theorem dX5_goes_159 : decode cX5_goes 159 = .ok (.iload 4, 2) := by decide +kernel
theorem dX5_goes_161 : decode cX5_goes 161 = .ok (.iadd, 1) := by decide +kernel
theorem dX5_goes_162 : decode cX5_goes 162 = .ok (.iastore, 1) := by decide +kernel
theorem dX5_goes_163 : decode cX5_goes 163 = .ok (.aload_n 0, 1) := by decide +kernel
theorem dX5_goes_164 : decode cX5_goes 164 = .ok (.invokevirtual 199, 3) := by decide +kernel
theorem dX5_goes_167 : decode cX5_goes 167 = .ok (.pop, 1) := by decide +kernel
theorem dX5_goes_168 : decode cX5_goes 168 = .ok (.iinc 2 1, 3) := by decide +kernel
theorem dX5_goes_171 : decode cX5_goes 171 = .ok (.goto (-141), 3) := by decide +kernel
theorem dX5_goes_174 : decode cX5_goes 174 = .ok (.return_, 1) := by decide +kernel
theorem dX5_evening_0 : decode cX5_evening 0 = .ok (.aload_n 0, 1) := by decide +kernel
theorem dX5_evening_1 : decode cX5_evening 1 = .ok (.iload_n 1, 1) := by decide +kernel
theorem dX5_evening_2 : decode cX5_evening 2 = .ok (.invokevirtual 211, 3) := by decide +kernel
theorem dX5_evening_5 : decode cX5_evening 5 = .ok (.istore_n 3, 1) := by decide +kernel
theorem dX5_evening_6 : decode cX5_evening 6 = .ok (.iload_n 3, 1) := by decide +kernel
theorem dX5_evening_7 : decode cX5_evening 7 = .ok (.ifCond .eq 5, 3) := by decide +kernel
theorem dX5_evening_10 : decode cX5_evening 10 = .ok (.iload_n 3, 1) := by decide +kernel
theorem dX5_evening_11 : decode cX5_evening 11 = .ok (.ireturn, 1) := by decide +kernel
theorem dX5_evening_12 : decode cX5_evening 12 = .ok (.iload_n 2, 1) := by decide +kernel
theorem dX5_evening_13 : decode cX5_evening 13 = .ok (.iconst 0, 1) := by decide +kernel
theorem dX5_evening_14 : decode cX5_evening 14 = .ok (.iconst 3, 1) := by decide +kernel
theorem dX5_evening_15 : decode cX5_evening 15 = .ok (.invokestatic 78, 3) := by decide +kernel
theorem dX5_evening_18 : decode cX5_evening 18 = .ok (.ifCond .ne 38, 3) := by decide +kernel
theorem dX5_evening_21 : decode cX5_evening 21 = .ok (.iload_n 2, 1) := by decide +kernel
theorem dX5_evening_22 : decode cX5_evening 22 = .ok (.bipush 10, 2) := by decide +kernel
theorem dX5_evening_24 : decode cX5_evening 24 = .ok (.bipush 9, 2) := by decide +kernel
theorem dX5_evening_26 : decode cX5_evening 26 = .ok (.aload_n 0, 1) := by decide +kernel
theorem dX5_evening_27 : decode cX5_evening 27 = .ok (.getfield 75, 3) := by decide +kernel
theorem dX5_evening_30 : decode cX5_evening 30 = .ok (.iadd, 1) := by decide +kernel
theorem dX5_evening_31 : decode cX5_evening 31 = .ok (.invokestatic 78, 3) := by decide +kernel
theorem dX5_evening_34 : decode cX5_evening 34 = .ok (.ifCond .ne 22, 3) := by decide +kernel
theorem dX5_evening_37 : decode cX5_evening 37 = .ok (.iload_n 2, 1) := by decide +kernel
theorem dX5_evening_38 : decode cX5_evening 38 = .ok (.bipush 20, 2) := by decide +kernel
theorem dX5_evening_40 : decode cX5_evening 40 = .ok (.bipush 19, 2) := by decide +kernel
theorem dX5_evening_42 : decode cX5_evening 42 = .ok (.aload_n 0, 1) := by decide +kernel
theorem dX5_evening_43 : decode cX5_evening 43 = .ok (.getfield 75, 3) := by decide +kernel
theorem dX5_evening_46 : decode cX5_evening 46 = .ok (.iadd, 1) := by decide +kernel
theorem dX5_evening_47 : decode cX5_evening 47 = .ok (.invokestatic 78, 3) := by decide +kernel
theorem dX5_evening_50 : decode cX5_evening 50 = .ok (.ifCond .ne 6, 3) := by decide +kernel
theorem dX5_evening_53 : decode cX5_evening 53 = .ok (.bipush (-7), 2) := by decide +kernel
theorem dX5_evening_55 : decode cX5_evening 55 = .ok (.ireturn, 1) := by decide +kernel
theorem dX5_evening_56 : decode cX5_evening 56 = .ok (.aload_n 0, 1) := by decide +kernel
theorem dX5_evening_57 : decode cX5_evening 57 = .ok (.invokevirtual 214, 3) := by decide +kernel
theorem dX5_evening_60 : decode cX5_evening 60 = .ok (.aload_n 0, 1) := by decide +kernel
theorem dX5_evening_61 : decode cX5_evening 61 = .ok (.iload_n 1, 1) := by decide +kernel
theorem dX5_evening_62 : decode cX5_evening 62 = .ok (.invokevirtual 217, 3) := by decide +kernel
theorem dX5_evening_65 : decode cX5_evening 65 = .ok (.iconst 0, 1) := by decide +kernel
theorem dX5_evening_66 : decode cX5_evening 66 = .ok (.istore 4, 2) := by decide +kernel
theorem dX5_evening_68 : decode cX5_evening 68 = .ok (.iload_n 2, 1) := by decide +kernel
theorem dX5_evening_69 : decode cX5_evening 69 = .ok (.iconst 4, 1) := by decide +kernel
theorem dX5_evening_70 : decode cX5_evening 70 = .ok (.if_icmp .ge 14, 3) := by decide +kernel
theorem dX5_evening_73 : decode cX5_evening 73 = .ok (.aload_n 0, 1) := by decide +kernel
theorem dX5_evening_74 : decode cX5_evening 74 = .ok (.getfield 61, 3) := by decide +kernel
theorem dX5_evening_77 : decode cX5_evening 77 = .ok (.iload_n 2, 1) := by decide +kernel
theorem dX5_evening_78 : decode cX5_evening 78 = .ok (.iaload, 1) := by decide +kernel
theorem dX5_evening_79 : decode cX5_evening 79 = .ok (.istore 4, 2) := by decide +kernel
theorem dX5_evening_81 : decode cX5_evening 81 = .ok (.goto 44, 3) := by decide +kernel
theorem dX5_evening_84 : decode cX5_evening 84 = .ok (.iload_n 2, 1) := by decide +kernel
theorem dX5_evening_85 : decode cX5_evening 85 = .ok (.bipush 20, 2) := by decide +kernel
theorem dX5_evening_87 : decode cX5_evening 87 = .ok (.if_icmp .ge 21, 3) := by decide +kernel
theorem dX5_evening_90 : decode cX5_evening 90 = .ok (.aload_n 0, 1) := by decide +kernel
theorem dX5_evening_91 : decode cX5_evening 91 = .ok (.getfield 16, 3) := by decide +kernel
theorem dX5_evening_94 : decode cX5_evening 94 = .ok (.bipush 12, 2) := by decide +kernel
theorem dX5_evening_96 : decode cX5_evening 96 = .ok (.iload_n 2, 1) := by decide +kernel
theorem dX5_evening_97 : decode cX5_evening 97 = .ok (.bipush 10, 2) := by decide +kernel
theorem dX5_evening_99 : decode cX5_evening 99 = .ok (.isub, 1) := by decide +kernel
theorem dX5_evening_100 : decode cX5_evening 100 = .ok (.imul, 1) := by decide +kernel
theorem dX5_evening_101 : decode cX5_evening 101 = .ok (.bipush 8, 2) := by decide +kernel
theorem dX5_evening_103 : decode cX5_evening 103 = .ok (.iadd, 1) := by decide +kernel
theorem dX5_evening_104 : decode cX5_evening 104 = .ok (.iaload, 1) := by decide +kernel
theorem dX5_evening_105 : decode cX5_evening 105 = .ok (.goto 18, 3) := by decide +kernel
theorem dX5_evening_108 : decode cX5_evening 108 = .ok (.aload_n 0, 1) := by decide +kernel
theorem dX5_evening_109 : decode cX5_evening 109 = .ok (.getfield 16, 3) := by decide +kernel
theorem dX5_evening_112 : decode cX5_evening 112 = .ok (.bipush 12, 2) := by decide +kernel
theorem dX5_evening_114 : decode cX5_evening 114 = .ok (.iload_n 2, 1) := by decide +kernel
theorem dX5_evening_115 : decode cX5_evening 115 = .ok (.bipush 20, 2) := by decide +kernel
theorem dX5_evening_117 : decode cX5_evening 117 = .ok (.isub, 1) := by decide +kernel
theorem dX5_evening_118 : decode cX5_evening 118 = .ok (.imul, 1) := by decide +kernel
theorem dX5_evening_119 : decode cX5_evening 119 = .ok (.bipush 9, 2) := by decide +kernel
theorem dX5_evening_121 : decode cX5_evening 121 = .ok (.iadd, 1) := by decide +kernel
theorem dX5_evening_122 : decode cX5_evening 122 = .ok (.iaload, 1) := by decide +kernel
theorem dX5_evening_123 : decode cX5_evening 123 = .ok (.istore 4, 2) := by decide +kernel
theorem dX5_evening_125 : decode cX5_evening 125 = .ok (.aload_n 0, 1) := by decide +kernel
theorem dX5_evening_126 : decode cX5_evening 126 = .ok (.invokevirtual 220, 3) := by decide +kernel
theorem dX5_evening_129 : decode cX5_evening 129 = .ok (.iload 4, 2) := by decide +kernel
theorem dX5_evening_131 : decode cX5_evening 131 = .ok (.ireturn, 1) := by decide +kernel
theorem dX5_spend_0 : decode cX5_spend 0 = .ok (.aload_n 0, 1) := by decide +kernel
theorem dX5_spend_1 : decode cX5_spend 1 = .ok (.iload_n 1, 1) := by decide +kernel
theorem dX5_spend_2 : decode cX5_spend 2 = .ok (.invokevirtual 211, 3) := by decide +kernel
theorem dX5_spend_5 : decode cX5_spend 5 = .ok (.istore_n 2, 1) := by decide +kernel
theorem dX5_spend_6 : decode cX5_spend 6 = .ok (.iload_n 2, 1) := by decide +kernel
theorem dX5_spend_7 : decode cX5_spend 7 = .ok (.ifCond .eq 5, 3) := by decide +kernel
theorem dX5_spend_10 : decode cX5_spend 10 = .ok (.iload_n 2, 1) := by decide +kernel
theorem dX5_spend_11 : decode cX5_spend 11 = .ok (.ireturn, 1) := by decide +kernel
theorem dX5_spend_12 : decode cX5_spend 12 = .ok (.aload_n 0, 1) := by decide +kernel
theorem dX5_spend_13 : decode cX5_spend 13 = .ok (.getfield 86, 3) := by decide +kernel
theorem dX5_spend_16 : decode cX5_spend 16 = .ok (.aload_n 0, 1) := by decide +kernel
theorem dX5_spend_17 : decode cX5_spend 17 = .ok (.getfield 37, 3) := by decide +kernel
theorem dX5_spend_20 : decode cX5_spend 20 = .ok (.iload_n 1, 1) := by decide +kernel
theorem dX5_spend_21 : decode cX5_spend 21 = .ok (.iaload, 1) := by decide +kernel
theorem dX5_spend_22 : decode cX5_spend 22 = .ok (.iadd, 1) := by decide +kernel
theorem dX5_spend_23 : decode cX5_spend 23 = .ok (.sipush 999, 3) := by decide +kernel
theorem dX5_spend_26 : decode cX5_spend 26 = .ok (.if_icmp .le 6, 3) := by decide +kernel
theorem dX5_spend_29 : decode cX5_spend 29 = .ok (.bipush (-3), 2) := by decide +kernel
theorem dX5_spend_31 : decode cX5_spend 31 = .ok (.ireturn, 1) := by decide +kernel
theorem dX5_spend_32 : decode cX5_spend 32 = .ok (.aload_n 0, 1) := by decide +kernel
theorem dX5_spend_33 : decode cX5_spend 33 = .ok (.iload_n 1, 1) := by decide +kernel
theorem dX5_spend_34 : decode cX5_spend 34 = .ok (.invokevirtual 217, 3) := by decide +kernel
theorem dX5_spend_37 : decode cX5_spend 37 = .ok (.aload_n 0, 1) := by decide +kernel
theorem dX5_spend_38 : decode cX5_spend 38 = .ok (.getfield 61, 3) := by decide +kernel
theorem dX5_spend_41 : decode cX5_spend 41 = .ok (.iconst 0, 1) := by decide +kernel
theorem dX5_spend_42 : decode cX5_spend 42 = .ok (.iaload, 1) := by decide +kernel
theorem dX5_spend_43 : decode cX5_spend 43 = .ok (.ireturn, 1) := by decide +kernel
theorem dX5_addsGrain_0 : decode cX5_addsGrain 0 = .ok (.bipush 60, 2) := by decide +kernel
theorem dX5_addsGrain_2 : decode cX5_addsGrain 2 = .ok (.istore_n 3, 1) := by decide +kernel
theorem dX5_addsGrain_3 : decode cX5_addsGrain 3 = .ok (.iload_n 3, 1) := by decide +kernel
theorem dX5_addsGrain_4 : decode cX5_addsGrain 4 = .ok (.iload_n 1, 1) := by decide +kernel
theorem dX5_addsGrain_5 : decode cX5_addsGrain 5 = .ok (.if_icmp .lt 63, 3) := by decide +kernel
theorem dX5_addsGrain_8 : decode cX5_addsGrain 8 = .ok (.aload_n 0, 1) := by decide +kernel
theorem dX5_addsGrain_9 : decode cX5_addsGrain 9 = .ok (.getfield 64, 3) := by decide +kernel
theorem dX5_addsGrain_12 : decode cX5_addsGrain 12 = .ok (.iload_n 3, 1) := by decide +kernel
theorem dX5_addsGrain_13 : decode cX5_addsGrain 13 = .ok (.iload_n 1, 1) := by decide +kernel
theorem dX5_addsGrain_14 : decode cX5_addsGrain 14 = .ok (.isub, 1) := by decide +kernel
theorem dX5_addsGrain_15 : decode cX5_addsGrain 15 = .ok (.iaload, 1) := by decide +kernel
theorem dX5_addsGrain_16 : decode cX5_addsGrain 16 = .ok (.sipush (-9999), 3) := by decide +kernel
theorem dX5_addsGrain_19 : decode cX5_addsGrain 19 = .ok (.if_icmp .le 43, 3) := by decide +kernel
theorem dX5_addsGrain_22 : decode cX5_addsGrain 22 = .ok (.aload_n 0, 1) := by decide +kernel
theorem dX5_addsGrain_23 : decode cX5_addsGrain 23 = .ok (.getfield 64, 3) := by decide +kernel
theorem dX5_addsGrain_26 : decode cX5_addsGrain 26 = .ok (.iload_n 3, 1) := by decide +kernel
theorem dX5_addsGrain_27 : decode cX5_addsGrain 27 = .ok (.iload_n 1, 1) := by decide +kernel
theorem dX5_addsGrain_28 : decode cX5_addsGrain 28 = .ok (.isub, 1) := by decide +kernel
theorem dX5_addsGrain_29 : decode cX5_addsGrain 29 = .ok (.iaload, 1) := by decide +kernel
theorem dX5_addsGrain_30 : decode cX5_addsGrain 30 = .ok (.iload_n 2, 1) := by decide +kernel
theorem dX5_addsGrain_31 : decode cX5_addsGrain 31 = .ok (.iadd, 1) := by decide +kernel
theorem dX5_addsGrain_32 : decode cX5_addsGrain 32 = .ok (.istore 4, 2) := by decide +kernel
theorem dX5_addsGrain_34 : decode cX5_addsGrain 34 = .ok (.aload_n 0, 1) := by decide +kernel
theorem dX5_addsGrain_35 : decode cX5_addsGrain 35 = .ok (.getfield 64, 3) := by decide +kernel
theorem dX5_addsGrain_38 : decode cX5_addsGrain 38 = .ok (.iload_n 3, 1) := by decide +kernel
theorem dX5_addsGrain_39 : decode cX5_addsGrain 39 = .ok (.iload 4, 2) := by decide +kernel
theorem dX5_addsGrain_41 : decode cX5_addsGrain 41 = .ok (.aload_n 0, 1) := by decide +kernel
theorem dX5_addsGrain_42 : decode cX5_addsGrain 42 = .ok (.getfield 64, 3) := by decide +kernel
theorem dX5_addsGrain_45 : decode cX5_addsGrain 45 = .ok (.iload_n 3, 1) := by decide +kernel
theorem dX5_addsGrain_46 : decode cX5_addsGrain 46 = .ok (.iaload, 1) := by decide +kernel
theorem dX5_addsGrain_47 : decode cX5_addsGrain 47 = .ok (.if_icmp .le 8, 3) := by decide +kernel
theorem dX5_addsGrain_50 : decode cX5_addsGrain 50 = .ok (.iload 4, 2) := by decide +kernel
theorem dX5_addsGrain_52 : decode cX5_addsGrain 52 = .ok (.goto 9, 3) := by decide +kernel
theorem dX5_addsGrain_55 : decode cX5_addsGrain 55 = .ok (.aload_n 0, 1) := by decide +kernel
theorem dX5_addsGrain_56 : decode cX5_addsGrain 56 = .ok (.getfield 64, 3) := by decide +kernel
theorem dX5_addsGrain_59 : decode cX5_addsGrain 59 = .ok (.iload_n 3, 1) := by decide +kernel
theorem dX5_addsGrain_60 : decode cX5_addsGrain 60 = .ok (.iaload, 1) := by decide +kernel
theorem dX5_addsGrain_61 : decode cX5_addsGrain 61 = .ok (.iastore, 1) := by decide +kernel
theorem dX5_addsGrain_62 : decode cX5_addsGrain 62 = .ok (.iinc 3 (-1), 3) := by decide +kernel
theorem dX5_addsGrain_65 : decode cX5_addsGrain 65 = .ok (.goto (-62), 3) := by decide +kernel
theorem dX5_addsGrain_68 : decode cX5_addsGrain 68 = .ok (.return_, 1) := by decide +kernel
theorem dX5_plan_0 : decode cX5_plan 0 = .ok (.aload_n 0, 1) := by decide +kernel
theorem dX5_plan_1 : decode cX5_plan 1 = .ok (.iload_n 1, 1) := by decide +kernel
theorem dX5_plan_2 : decode cX5_plan 2 = .ok (.invokevirtual 170, 3) := by decide +kernel
theorem dX5_plan_5 : decode cX5_plan 5 = .ok (.ifCond .ne 6, 3) := by decide +kernel
theorem dX5_plan_8 : decode cX5_plan 8 = .ok (.bipush (-5), 2) := by decide +kernel
theorem dX5_plan_10 : decode cX5_plan 10 = .ok (.ireturn, 1) := by decide +kernel
theorem dX5_plan_11 : decode cX5_plan 11 = .ok (.iload_n 2, 1) := by decide +kernel
theorem dX5_plan_12 : decode cX5_plan 12 = .ok (.iconst 0, 1) := by decide +kernel
theorem dX5_plan_13 : decode cX5_plan 13 = .ok (.bipush 60, 2) := by decide +kernel
theorem dX5_plan_15 : decode cX5_plan 15 = .ok (.invokestatic 78, 3) := by decide +kernel
theorem dX5_plan_18 : decode cX5_plan 18 = .ok (.ifCond .eq 12, 3) := by decide +kernel
theorem dX5_plan_21 : decode cX5_plan 21 = .ok (.iload_n 3, 1) := by decide +kernel
theorem dX5_plan_22 : decode cX5_plan 22 = .ok (.iconst 0, 1) := by decide +kernel
theorem dX5_plan_23 : decode cX5_plan 23 = .ok (.iconst 1, 1) := by decide +kernel
theorem dX5_plan_24 : decode cX5_plan 24 = .ok (.invokestatic 78, 3) := by decide +kernel
theorem dX5_plan_27 : decode cX5_plan 27 = .ok (.ifCond .ne 6, 3) := by decide +kernel
theorem dX5_plan_30 : decode cX5_plan 30 = .ok (.bipush (-7), 2) := by decide +kernel
theorem dX5_plan_32 : decode cX5_plan 32 = .ok (.ireturn, 1) := by decide +kernel
theorem dX5_plan_33 : decode cX5_plan 33 = .ok (.iconst 0, 1) := by decide +kernel
theorem dX5_plan_34 : decode cX5_plan 34 = .ok (.istore 4, 2) := by decide +kernel
theorem dX5_plan_36 : decode cX5_plan 36 = .ok (.iload 4, 2) := by decide +kernel
theorem dX5_plan_38 : decode cX5_plan 38 = .ok (.bipush 60, 2) := by decide +kernel
theorem dX5_plan_40 : decode cX5_plan 40 = .ok (.if_icmp .gt 28, 3) := by decide +kernel
theorem dX5_plan_43 : decode cX5_plan 43 = .ok (.aload_n 0, 1) := by decide +kernel
theorem dX5_plan_44 : decode cX5_plan 44 = .ok (.getfield 64, 3) := by decide +kernel
theorem dX5_plan_47 : decode cX5_plan 47 = .ok (.iload 4, 2) := by decide +kernel
theorem dX5_plan_49 : decode cX5_plan 49 = .ok (.iload 4, 2) := by decide +kernel
theorem dX5_plan_51 : decode cX5_plan 51 = .ok (.ifCond .ne 7, 3) := by decide +kernel
theorem dX5_plan_54 : decode cX5_plan 54 = .ok (.iconst 0, 1) := by decide +kernel
theorem dX5_plan_55 : decode cX5_plan 55 = .ok (.goto 6, 3) := by decide +kernel
theorem dX5_plan_58 : decode cX5_plan 58 = .ok (.sipush (-9999), 3) := by decide +kernel
theorem dX5_plan_61 : decode cX5_plan 61 = .ok (.iastore, 1) := by decide +kernel
theorem dX5_plan_62 : decode cX5_plan 62 = .ok (.iinc 4 1, 3) := by decide +kernel
theorem dX5_plan_65 : decode cX5_plan 65 = .ok (.goto (-29), 3) := by decide +kernel
theorem dX5_plan_68 : decode cX5_plan 68 = .ok (.iconst 0, 1) := by decide +kernel
theorem dX5_plan_69 : decode cX5_plan 69 = .ok (.istore 4, 2) := by decide +kernel
theorem dX5_plan_71 : decode cX5_plan 71 = .ok (.iload 4, 2) := by decide +kernel
theorem dX5_plan_73 : decode cX5_plan 73 = .ok (.bipush 8, 2) := by decide +kernel
theorem dX5_plan_75 : decode cX5_plan 75 = .ok (.if_icmp .ge 61, 3) := by decide +kernel
theorem dX5_plan_78 : decode cX5_plan 78 = .ok (.aload_n 0, 1) := by decide +kernel
theorem dX5_plan_79 : decode cX5_plan 79 = .ok (.iload_n 1, 1) := by decide +kernel
theorem dX5_plan_80 : decode cX5_plan 80 = .ok (.iload 4, 2) := by decide +kernel
theorem dX5_plan_82 : decode cX5_plan 82 = .ok (.invokevirtual 183, 3) := by decide +kernel
theorem dX5_plan_85 : decode cX5_plan 85 = .ok (.istore 5, 2) := by decide +kernel
theorem dX5_plan_87 : decode cX5_plan 87 = .ok (.aload_n 0, 1) := by decide +kernel
theorem dX5_plan_88 : decode cX5_plan 88 = .ok (.iload_n 1, 1) := by decide +kernel
theorem dX5_plan_89 : decode cX5_plan 89 = .ok (.iload 4, 2) := by decide +kernel
theorem dX5_plan_91 : decode cX5_plan 91 = .ok (.invokevirtual 186, 3) := by decide +kernel
theorem dX5_plan_94 : decode cX5_plan 94 = .ok (.istore 6, 2) := by decide +kernel
theorem dX5_plan_96 : decode cX5_plan 96 = .ok (.iconst 0, 1) := by decide +kernel
theorem dX5_plan_97 : decode cX5_plan 97 = .ok (.istore 7, 2) := by decide +kernel
theorem dX5_plan_99 : decode cX5_plan 99 = .ok (.iload 7, 2) := by decide +kernel
theorem dX5_plan_101 : decode cX5_plan 101 = .ok (.aload_n 0, 1) := by decide +kernel
theorem dX5_plan_102 : decode cX5_plan 102 = .ok (.getfield 16, 3) := by decide +kernel
theorem dX5_plan_105 : decode cX5_plan 105 = .ok (.bipush 12, 2) := by decide +kernel
theorem dX5_plan_107 : decode cX5_plan 107 = .ok (.iload_n 1, 1) := by decide +kernel
theorem dX5_plan_108 : decode cX5_plan 108 = .ok (.imul, 1) := by decide +kernel
theorem dX5_plan_109 : decode cX5_plan 109 = .ok (.iload 4, 2) := by decide +kernel
theorem dX5_plan_111 : decode cX5_plan 111 = .ok (.iadd, 1) := by decide +kernel
theorem dX5_plan_112 : decode cX5_plan 112 = .ok (.iaload, 1) := by decide +kernel
theorem dX5_plan_113 : decode cX5_plan 113 = .ok (.if_icmp .ge 17, 3) := by decide +kernel
theorem dX5_plan_116 : decode cX5_plan 116 = .ok (.aload_n 0, 1) := by decide +kernel
theorem dX5_plan_117 : decode cX5_plan 117 = .ok (.iload 5, 2) := by decide +kernel
theorem dX5_plan_119 : decode cX5_plan 119 = .ok (.iload 6, 2) := by decide +kernel
theorem dX5_plan_121 : decode cX5_plan 121 = .ok (.invokevirtual 223, 3) := by decide +kernel
theorem dX5_plan_124 : decode cX5_plan 124 = .ok (.iinc 7 1, 3) := by decide +kernel
theorem dX5_plan_127 : decode cX5_plan 127 = .ok (.goto (-28), 3) := by decide +kernel
theorem dX5_plan_130 : decode cX5_plan 130 = .ok (.iinc 4 1, 3) := by decide +kernel
theorem dX5_plan_133 : decode cX5_plan 133 = .ok (.goto (-62), 3) := by decide +kernel
theorem dX5_plan_136 : decode cX5_plan 136 = .ok (.iconst 0, 1) := by decide +kernel
theorem dX5_plan_137 : decode cX5_plan 137 = .ok (.istore 4, 2) := by decide +kernel
theorem dX5_plan_139 : decode cX5_plan 139 = .ok (.iconst 1, 1) := by decide +kernel
theorem dX5_plan_140 : decode cX5_plan 140 = .ok (.istore 5, 2) := by decide +kernel
theorem dX5_plan_142 : decode cX5_plan 142 = .ok (.iload 5, 2) := by decide +kernel
theorem dX5_plan_144 : decode cX5_plan 144 = .ok (.iload_n 2, 1) := by decide +kernel
theorem dX5_plan_145 : decode cX5_plan 145 = .ok (.if_icmp .gt 35, 3) := by decide +kernel
theorem dX5_plan_148 : decode cX5_plan 148 = .ok (.aload_n 0, 1) := by decide +kernel
theorem dX5_plan_149 : decode cX5_plan 149 = .ok (.getfield 64, 3) := by decide +kernel
theorem dX5_plan_152 : decode cX5_plan 152 = .ok (.iload 5, 2) := by decide +kernel
theorem dX5_plan_154 : decode cX5_plan 154 = .ok (.iaload, 1) := by decide +kernel
theorem dX5_plan_155 : decode cX5_plan 155 = .ok (.aload_n 0, 1) := by decide +kernel
theorem dX5_plan_156 : decode cX5_plan 156 = .ok (.getfield 64, 3) := by decide +kernel
theorem dX5_plan_159 : decode cX5_plan 159 = .ok (.iload 4, 2) := by decide +kernel
theorem dX5_plan_161 : decode cX5_plan 161 = .ok (.iaload, 1) := by decide +kernel
theorem dX5_plan_162 : decode cX5_plan 162 = .ok (.if_icmp .le 8, 3) := by decide +kernel
theorem dX5_plan_165 : decode cX5_plan 165 = .ok (.iload 5, 2) := by decide +kernel
theorem dX5_plan_167 : decode cX5_plan 167 = .ok (.goto 5, 3) := by decide +kernel
theorem dX5_plan_170 : decode cX5_plan 170 = .ok (.iload 4, 2) := by decide +kernel
theorem dX5_plan_172 : decode cX5_plan 172 = .ok (.istore 4, 2) := by decide +kernel
theorem dX5_plan_174 : decode cX5_plan 174 = .ok (.iinc 5 1, 3) := by decide +kernel
theorem dX5_plan_177 : decode cX5_plan 177 = .ok (.goto (-35), 3) := by decide +kernel
theorem dX5_plan_180 : decode cX5_plan 180 = .ok (.iload_n 3, 1) := by decide +kernel
theorem dX5_plan_181 : decode cX5_plan 181 = .ok (.ifCond .ne 13, 3) := by decide +kernel
theorem dX5_plan_184 : decode cX5_plan 184 = .ok (.aload_n 0, 1) := by decide +kernel
theorem dX5_plan_185 : decode cX5_plan 185 = .ok (.getfield 64, 3) := by decide +kernel
theorem dX5_plan_188 : decode cX5_plan 188 = .ok (.iload 4, 2) := by decide +kernel
theorem dX5_plan_190 : decode cX5_plan 190 = .ok (.iaload, 1) := by decide +kernel
theorem dX5_plan_191 : decode cX5_plan 191 = .ok (.goto 5, 3) := by decide +kernel
theorem dX5_plan_194 : decode cX5_plan 194 = .ok (.iload 4, 2) := by decide +kernel
theorem dX5_plan_196 : decode cX5_plan 196 = .ok (.ireturn, 1) := by decide +kernel
theorem dX5_which_0 : decode cX5_which 0 = .ok (.aload_n 0, 1) := by decide +kernel
theorem dX5_which_1 : decode cX5_which 1 = .ok (.iload_n 1, 1) := by decide +kernel
theorem dX5_which_2 : decode cX5_which 2 = .ok (.invokevirtual 170, 3) := by decide +kernel
theorem dX5_which_5 : decode cX5_which 5 = .ok (.ifCond .ne 6, 3) := by decide +kernel
theorem dX5_which_8 : decode cX5_which 8 = .ok (.bipush (-5), 2) := by decide +kernel
theorem dX5_which_10 : decode cX5_which 10 = .ok (.ireturn, 1) := by decide +kernel
theorem dX5_which_11 : decode cX5_which 11 = .ok (.iload_n 2, 1) := by decide +kernel
theorem dX5_which_12 : decode cX5_which 12 = .ok (.iconst 0, 1) := by decide +kernel
theorem dX5_which_13 : decode cX5_which 13 = .ok (.iconst 1, 1) := by decide +kernel
theorem dX5_which_14 : decode cX5_which 14 = .ok (.invokestatic 78, 3) := by decide +kernel
theorem dX5_which_17 : decode cX5_which 17 = .ok (.ifCond .ne 6, 3) := by decide +kernel
theorem dX5_which_20 : decode cX5_which 20 = .ok (.bipush (-7), 2) := by decide +kernel
theorem dX5_which_22 : decode cX5_which 22 = .ok (.ireturn, 1) := by decide +kernel
theorem dX5_which_23 : decode cX5_which 23 = .ok (.iconst (-1), 1) := by decide +kernel
theorem dX5_which_24 : decode cX5_which 24 = .ok (.istore_n 3, 1) := by decide +kernel
theorem dX5_which_25 : decode cX5_which 25 = .ok (.aload_n 0, 1) := by decide +kernel
theorem dX5_which_26 : decode cX5_which 26 = .ok (.getfield 16, 3) := by decide +kernel
theorem dX5_which_29 : decode cX5_which 29 = .ok (.bipush 12, 2) := by decide +kernel
theorem dX5_which_31 : decode cX5_which 31 = .ok (.iload_n 1, 1) := by decide +kernel
theorem dX5_which_32 : decode cX5_which 32 = .ok (.imul, 1) := by decide +kernel
theorem dX5_which_33 : decode cX5_which 33 = .ok (.bipush 8, 2) := by decide +kernel
theorem dX5_which_35 : decode cX5_which 35 = .ok (.iadd, 1) := by decide +kernel
theorem dX5_which_36 : decode cX5_which 36 = .ok (.iaload, 1) := by decide +kernel
theorem dX5_which_37 : decode cX5_which 37 = .ok (.istore 4, 2) := by decide +kernel
theorem dX5_which_39 : decode cX5_which 39 = .ok (.iconst 0, 1) := by decide +kernel
theorem dX5_which_40 : decode cX5_which 40 = .ok (.istore 5, 2) := by decide +kernel
theorem dX5_which_42 : decode cX5_which 42 = .ok (.iload 5, 2) := by decide +kernel
theorem dX5_which_44 : decode cX5_which 44 = .ok (.bipush 8, 2) := by decide +kernel
theorem dX5_which_46 : decode cX5_which 46 = .ok (.if_icmp .ge 92, 3) := by decide +kernel
theorem dX5_which_49 : decode cX5_which 49 = .ok (.aload_n 0, 1) := by decide +kernel
theorem dX5_which_50 : decode cX5_which 50 = .ok (.iload_n 1, 1) := by decide +kernel
theorem dX5_which_51 : decode cX5_which 51 = .ok (.iload 5, 2) := by decide +kernel
theorem dX5_which_53 : decode cX5_which 53 = .ok (.invokevirtual 192, 3) := by decide +kernel
theorem dX5_which_56 : decode cX5_which 56 = .ok (.ifCond .eq 76, 3) := by decide +kernel
theorem dX5_which_59 : decode cX5_which 59 = .ok (.aload_n 0, 1) := by decide +kernel
theorem dX5_which_60 : decode cX5_which 60 = .ok (.getfield 16, 3) := by decide +kernel
theorem dX5_which_63 : decode cX5_which 63 = .ok (.bipush 12, 2) := by decide +kernel
theorem dX5_which_65 : decode cX5_which 65 = .ok (.iload_n 1, 1) := by decide +kernel
theorem dX5_which_66 : decode cX5_which 66 = .ok (.imul, 1) := by decide +kernel
theorem dX5_which_67 : decode cX5_which 67 = .ok (.bipush 8, 2) := by decide +kernel
theorem dX5_which_69 : decode cX5_which 69 = .ok (.iadd, 1) := by decide +kernel
theorem dX5_which_70 : decode cX5_which 70 = .ok (.iaload, 1) := by decide +kernel
theorem dX5_which_71 : decode cX5_which 71 = .ok (.aload_n 0, 1) := by decide +kernel
theorem dX5_which_72 : decode cX5_which 72 = .ok (.iload_n 1, 1) := by decide +kernel
theorem dX5_which_73 : decode cX5_which 73 = .ok (.iload 5, 2) := by decide +kernel
theorem dX5_which_75 : decode cX5_which 75 = .ok (.invokevirtual 186, 3) := by decide +kernel
theorem dX5_which_78 : decode cX5_which 78 = .ok (.iadd, 1) := by decide +kernel
theorem dX5_which_79 : decode cX5_which 79 = .ok (.iconst 0, 1) := by decide +kernel
theorem dX5_which_80 : decode cX5_which 80 = .ok (.bipush 99, 2) := by decide +kernel
theorem dX5_which_82 : decode cX5_which 82 = .ok (.invokestatic 167, 3) := by decide +kernel
theorem dX5_which_85 : decode cX5_which 85 = .ok (.istore 6, 2) := by decide +kernel
theorem dX5_which_87 : decode cX5_which 87 = .ok (.iload_n 3, 1) := by decide +kernel
theorem dX5_which_88 : decode cX5_which 88 = .ok (.iconst (-1), 1) := by decide +kernel
theorem dX5_which_89 : decode cX5_which 89 = .ok (.if_icmp .eq 10, 3) := by decide +kernel
theorem dX5_which_92 : decode cX5_which 92 = .ok (.iload 6, 2) := by decide +kernel
theorem dX5_which_94 : decode cX5_which 94 = .ok (.iload 4, 2) := by decide +kernel
theorem dX5_which_96 : decode cX5_which 96 = .ok (.if_icmp .le 7, 3) := by decide +kernel
theorem dX5_which_99 : decode cX5_which 99 = .ok (.iconst 1, 1) := by decide +kernel
theorem dX5_which_100 : decode cX5_which 100 = .ok (.goto 4, 3) := by decide +kernel
theorem dX5_which_103 : decode cX5_which 103 = .ok (.iconst 0, 1) := by decide +kernel
theorem dX5_which_104 : decode cX5_which 104 = .ok (.istore 7, 2) := by decide +kernel
theorem dX5_which_106 : decode cX5_which 106 = .ok (.iload 7, 2) := by decide +kernel
theorem dX5_which_108 : decode cX5_which 108 = .ok (.ifCond .eq 8, 3) := by decide +kernel
theorem dX5_which_111 : decode cX5_which 111 = .ok (.iload 5, 2) := by decide +kernel
theorem dX5_which_113 : decode cX5_which 113 = .ok (.goto 4, 3) := by decide +kernel
theorem dX5_which_116 : decode cX5_which 116 = .ok (.iload_n 3, 1) := by decide +kernel
theorem dX5_which_117 : decode cX5_which 117 = .ok (.istore_n 3, 1) := by decide +kernel
theorem dX5_which_118 : decode cX5_which 118 = .ok (.iload 7, 2) := by decide +kernel
theorem dX5_which_120 : decode cX5_which 120 = .ok (.ifCond .eq 8, 3) := by decide +kernel
theorem dX5_which_123 : decode cX5_which 123 = .ok (.iload 6, 2) := by decide +kernel
theorem dX5_which_125 : decode cX5_which 125 = .ok (.goto 5, 3) := by decide +kernel
theorem dX5_which_128 : decode cX5_which 128 = .ok (.iload 4, 2) := by decide +kernel
theorem dX5_which_130 : decode cX5_which 130 = .ok (.istore 4, 2) := by decide +kernel
theorem dX5_which_132 : decode cX5_which 132 = .ok (.iinc 5 1, 3) := by decide +kernel
theorem dX5_which_135 : decode cX5_which 135 = .ok (.goto (-93), 3) := by decide +kernel
theorem dX5_which_138 : decode cX5_which 138 = .ok (.iload_n 2, 1) := by decide +kernel
theorem dX5_which_139 : decode cX5_which 139 = .ok (.ifCond .ne 7, 3) := by decide +kernel
theorem dX5_which_142 : decode cX5_which 142 = .ok (.iload_n 3, 1) := by decide +kernel
theorem dX5_which_143 : decode cX5_which 143 = .ok (.goto 5, 3) := by decide +kernel
theorem dX5_which_146 : decode cX5_which 146 = .ok (.iload 4, 2) := by decide +kernel
theorem dX5_which_148 : decode cX5_which 148 = .ok (.ireturn, 1) := by decide +kernel
theorem dX5_firstUnseen_0 : decode cX5_firstUnseen 0 = .ok (.iconst 0, 1) := by decide +kernel
theorem dX5_firstUnseen_1 : decode cX5_firstUnseen 1 = .ok (.istore_n 2, 1) := by decide +kernel
theorem dX5_firstUnseen_2 : decode cX5_firstUnseen 2 = .ok (.iload_n 2, 1) := by decide +kernel
theorem dX5_firstUnseen_3 : decode cX5_firstUnseen 3 = .ok (.bipush 8, 2) := by decide +kernel
theorem dX5_firstUnseen_5 : decode cX5_firstUnseen 5 = .ok (.if_icmp .ge 20, 3) := by decide +kernel
theorem dX5_firstUnseen_8 : decode cX5_firstUnseen 8 = .ok (.aload_n 0, 1) := by decide +kernel
theorem dX5_firstUnseen_9 : decode cX5_firstUnseen 9 = .ok (.iload_n 1, 1) := by decide +kernel
theorem dX5_firstUnseen_10 : decode cX5_firstUnseen 10 = .ok (.iload_n 2, 1) := by decide +kernel
theorem dX5_firstUnseen_11 : decode cX5_firstUnseen 11 = .ok (.invokevirtual 179, 3) := by decide +kernel
theorem dX5_firstUnseen_14 : decode cX5_firstUnseen 14 = .ok (.ifCond .ne 5, 3) := by decide +kernel
theorem dX5_firstUnseen_17 : decode cX5_firstUnseen 17 = .ok (.iload_n 2, 1) := by decide +kernel
theorem dX5_firstUnseen_18 : decode cX5_firstUnseen 18 = .ok (.ireturn, 1) := by decide +kernel
theorem dX5_firstUnseen_19 : decode cX5_firstUnseen 19 = .ok (.iinc 2 1, 3) := by decide +kernel
theorem dX5_firstUnseen_22 : decode cX5_firstUnseen 22 = .ok (.goto (-20), 3) := by decide +kernel
theorem dX5_firstUnseen_25 : decode cX5_firstUnseen 25 = .ok (.iconst (-1), 1) := by decide +kernel
theorem dX5_firstUnseen_26 : decode cX5_firstUnseen 26 = .ok (.ireturn, 1) := by decide +kernel
theorem dX5_unseen_0 : decode cX5_unseen 0 = .ok (.iconst 0, 1) := by decide +kernel
theorem dX5_unseen_1 : decode cX5_unseen 1 = .ok (.istore_n 2, 1) := by decide +kernel
theorem dX5_unseen_2 : decode cX5_unseen 2 = .ok (.iload_n 2, 1) := by decide +kernel
theorem dX5_unseen_3 : decode cX5_unseen 3 = .ok (.bipush 8, 2) := by decide +kernel
theorem dX5_unseen_5 : decode cX5_unseen 5 = .ok (.if_icmp .ge 34, 3) := by decide +kernel
theorem dX5_unseen_8 : decode cX5_unseen 8 = .ok (.aload_n 0, 1) := by decide +kernel
theorem dX5_unseen_9 : decode cX5_unseen 9 = .ok (.iload_n 1, 1) := by decide +kernel
theorem dX5_unseen_10 : decode cX5_unseen 10 = .ok (.iload_n 2, 1) := by decide +kernel
theorem dX5_unseen_11 : decode cX5_unseen 11 = .ok (.invokevirtual 179, 3) := by decide +kernel
theorem dX5_unseen_14 : decode cX5_unseen 14 = .ok (.ifCond .ne 19, 3) := by decide +kernel
theorem dX5_unseen_17 : decode cX5_unseen 17 = .ok (.aload_n 0, 1) := by decide +kernel
theorem dX5_unseen_18 : decode cX5_unseen 18 = .ok (.getfield 16, 3) := by decide +kernel
theorem dX5_unseen_21 : decode cX5_unseen 21 = .ok (.bipush 12, 2) := by decide +kernel
theorem dX5_unseen_23 : decode cX5_unseen 23 = .ok (.iload_n 1, 1) := by decide +kernel
theorem dX5_unseen_24 : decode cX5_unseen 24 = .ok (.imul, 1) := by decide +kernel
theorem dX5_unseen_25 : decode cX5_unseen 25 = .ok (.iload_n 2, 1) := by decide +kernel
theorem dX5_unseen_26 : decode cX5_unseen 26 = .ok (.iadd, 1) := by decide +kernel
theorem dX5_unseen_27 : decode cX5_unseen 27 = .ok (.iaload, 1) := by decide +kernel
theorem dX5_unseen_28 : decode cX5_unseen 28 = .ok (.ifCond .ne 5, 3) := by decide +kernel
theorem dX5_unseen_31 : decode cX5_unseen 31 = .ok (.iconst (-1), 1) := by decide +kernel
theorem dX5_unseen_32 : decode cX5_unseen 32 = .ok (.ireturn, 1) := by decide +kernel
theorem dX5_unseen_33 : decode cX5_unseen 33 = .ok (.iinc 2 1, 3) := by decide +kernel
theorem dX5_unseen_36 : decode cX5_unseen 36 = .ok (.goto (-34), 3) := by decide +kernel
theorem dX5_unseen_39 : decode cX5_unseen 39 = .ok (.bipush 8, 2) := by decide +kernel
theorem dX5_unseen_41 : decode cX5_unseen 41 = .ok (.aload_n 0, 1) := by decide +kernel
theorem dX5_unseen_42 : decode cX5_unseen 42 = .ok (.getfield 16, 3) := by decide +kernel
theorem dX5_unseen_45 : decode cX5_unseen 45 = .ok (.bipush 12, 2) := by decide +kernel
theorem dX5_unseen_47 : decode cX5_unseen 47 = .ok (.iload_n 1, 1) := by decide +kernel
theorem dX5_unseen_48 : decode cX5_unseen 48 = .ok (.imul, 1) := by decide +kernel
theorem dX5_unseen_49 : decode cX5_unseen 49 = .ok (.bipush 9, 2) := by decide +kernel
theorem dX5_unseen_51 : decode cX5_unseen 51 = .ok (.iadd, 1) := by decide +kernel
theorem dX5_unseen_52 : decode cX5_unseen 52 = .ok (.iaload, 1) := by decide +kernel
theorem dX5_unseen_53 : decode cX5_unseen 53 = .ok (.invokestatic 92, 3) := by decide +kernel
theorem dX5_unseen_56 : decode cX5_unseen 56 = .ok (.isub, 1) := by decide +kernel
theorem dX5_unseen_57 : decode cX5_unseen 57 = .ok (.ireturn, 1) := by decide +kernel
theorem dX5_tourOf_0 : decode cX5_tourOf 0 = .ok (.iconst 0, 1) := by decide +kernel
theorem dX5_tourOf_1 : decode cX5_tourOf 1 = .ok (.istore_n 2, 1) := by decide +kernel
theorem dX5_tourOf_2 : decode cX5_tourOf 2 = .ok (.iload_n 2, 1) := by decide +kernel
theorem dX5_tourOf_3 : decode cX5_tourOf 3 = .ok (.sipush 200, 3) := by decide +kernel
theorem dX5_tourOf_6 : decode cX5_tourOf 6 = .ok (.if_icmp .gt 52, 3) := by decide +kernel
theorem dX5_tourOf_9 : decode cX5_tourOf 9 = .ok (.aload_n 0, 1) := by decide +kernel
theorem dX5_tourOf_10 : decode cX5_tourOf 10 = .ok (.iload_n 1, 1) := by decide +kernel
theorem dX5_tourOf_11 : decode cX5_tourOf 11 = .ok (.invokevirtual 82, 3) := by decide +kernel
theorem dX5_tourOf_14 : decode cX5_tourOf 14 = .ok (.ifCond .eq 33, 3) := by decide +kernel
theorem dX5_tourOf_17 : decode cX5_tourOf 17 = .ok (.aload_n 0, 1) := by decide +kernel
theorem dX5_tourOf_18 : decode cX5_tourOf 18 = .ok (.iload_n 1, 1) := by decide +kernel
theorem dX5_tourOf_19 : decode cX5_tourOf 19 = .ok (.invokevirtual 226, 3) := by decide +kernel
theorem dX5_tourOf_22 : decode cX5_tourOf 22 = .ok (.istore_n 3, 1) := by decide +kernel
theorem dX5_tourOf_23 : decode cX5_tourOf 23 = .ok (.iload_n 3, 1) := by decide +kernel
theorem dX5_tourOf_24 : decode cX5_tourOf 24 = .ok (.iconst (-1), 1) := by decide +kernel
theorem dX5_tourOf_25 : decode cX5_tourOf 25 = .ok (.if_icmp .ne 5, 3) := by decide +kernel
theorem dX5_tourOf_28 : decode cX5_tourOf 28 = .ok (.iload_n 2, 1) := by decide +kernel
theorem dX5_tourOf_29 : decode cX5_tourOf 29 = .ok (.ireturn, 1) := by decide +kernel
theorem dX5_tourOf_30 : decode cX5_tourOf 30 = .ok (.aload_n 0, 1) := by decide +kernel
theorem dX5_tourOf_31 : decode cX5_tourOf 31 = .ok (.iload_n 1, 1) := by decide +kernel
theorem dX5_tourOf_32 : decode cX5_tourOf 32 = .ok (.iload_n 3, 1) := by decide +kernel
theorem dX5_tourOf_33 : decode cX5_tourOf 33 = .ok (.invokevirtual 192, 3) := by decide +kernel
theorem dX5_tourOf_36 : decode cX5_tourOf 36 = .ok (.ifCond .ne 5, 3) := by decide +kernel
theorem dX5_tourOf_39 : decode cX5_tourOf 39 = .ok (.iconst (-1), 1) := by decide +kernel
theorem dX5_tourOf_40 : decode cX5_tourOf 40 = .ok (.ireturn, 1) := by decide +kernel
theorem dX5_tourOf_41 : decode cX5_tourOf 41 = .ok (.aload_n 0, 1) := by decide +kernel
theorem dX5_tourOf_42 : decode cX5_tourOf 42 = .ok (.iload_n 1, 1) := by decide +kernel
theorem dX5_tourOf_43 : decode cX5_tourOf 43 = .ok (.iload_n 3, 1) := by decide +kernel
theorem dX5_tourOf_44 : decode cX5_tourOf 44 = .ok (.invokevirtual 195, 3) := by decide +kernel
theorem dX5_tourOf_47 : decode cX5_tourOf 47 = .ok (.aload_n 0, 1) := by decide +kernel
theorem dX5_tourOf_48 : decode cX5_tourOf 48 = .ok (.invokevirtual 199, 3) := by decide +kernel
theorem dX5_tourOf_51 : decode cX5_tourOf 51 = .ok (.pop, 1) := by decide +kernel
theorem dX5_tourOf_52 : decode cX5_tourOf 52 = .ok (.iinc 2 1, 3) := by decide +kernel
theorem dX5_tourOf_55 : decode cX5_tourOf 55 = .ok (.goto (-53), 3) := by decide +kernel
theorem dX5_tourOf_58 : decode cX5_tourOf 58 = .ok (.iconst (-1), 1) := by decide +kernel
theorem dX5_tourOf_59 : decode cX5_tourOf 59 = .ok (.ireturn, 1) := by decide +kernel
theorem dX5_tour_0 : decode cX5_tour 0 = .ok (.aload_n 0, 1) := by decide +kernel
theorem dX5_tour_1 : decode cX5_tour 1 = .ok (.iload_n 1, 1) := by decide +kernel
theorem dX5_tour_2 : decode cX5_tour 2 = .ok (.invokevirtual 170, 3) := by decide +kernel
theorem dX5_tour_5 : decode cX5_tour 5 = .ok (.ifCond .ne 6, 3) := by decide +kernel
theorem dX5_tour_8 : decode cX5_tour 8 = .ok (.bipush (-5), 2) := by decide +kernel
theorem dX5_tour_10 : decode cX5_tour 10 = .ok (.ireturn, 1) := by decide +kernel
theorem dX5_tour_11 : decode cX5_tour 11 = .ok (.iload_n 2, 1) := by decide +kernel
theorem dX5_tour_12 : decode cX5_tour 12 = .ok (.iconst 0, 1) := by decide +kernel
theorem dX5_tour_13 : decode cX5_tour 13 = .ok (.iconst 1, 1) := by decide +kernel
theorem dX5_tour_14 : decode cX5_tour 14 = .ok (.invokestatic 78, 3) := by decide +kernel
theorem dX5_tour_17 : decode cX5_tour 17 = .ok (.ifCond .ne 6, 3) := by decide +kernel
theorem dX5_tour_20 : decode cX5_tour 20 = .ok (.bipush (-7), 2) := by decide +kernel
theorem dX5_tour_22 : decode cX5_tour 22 = .ok (.ireturn, 1) := by decide +kernel
theorem dX5_tour_23 : decode cX5_tour 23 = .ok (.aload_n 0, 1) := by decide +kernel
theorem dX5_tour_24 : decode cX5_tour 24 = .ok (.iload_n 1, 1) := by decide +kernel
theorem dX5_tour_25 : decode cX5_tour 25 = .ok (.invokevirtual 229, 3) := by decide +kernel
theorem dX5_tour_28 : decode cX5_tour 28 = .ok (.istore_n 3, 1) := by decide +kernel
theorem dX5_tour_29 : decode cX5_tour 29 = .ok (.iload_n 2, 1) := by decide +kernel
theorem dX5_tour_30 : decode cX5_tour 30 = .ok (.ifCond .eq 8, 3) := by decide +kernel
theorem dX5_tour_33 : decode cX5_tour 33 = .ok (.iload_n 3, 1) := by decide +kernel
theorem dX5_tour_34 : decode cX5_tour 34 = .ok (.iconst (-1), 1) := by decide +kernel
theorem dX5_tour_35 : decode cX5_tour 35 = .ok (.if_icmp .ne 5, 3) := by decide +kernel
theorem dX5_tour_38 : decode cX5_tour 38 = .ok (.iload_n 3, 1) := by decide +kernel
theorem dX5_tour_39 : decode cX5_tour 39 = .ok (.ireturn, 1) := by decide +kernel
theorem dX5_tour_40 : decode cX5_tour 40 = .ok (.aload_n 0, 1) := by decide +kernel
theorem dX5_tour_41 : decode cX5_tour 41 = .ok (.invokevirtual 214, 3) := by decide +kernel
theorem dX5_tour_44 : decode cX5_tour 44 = .ok (.aload_n 0, 1) := by decide +kernel
theorem dX5_tour_45 : decode cX5_tour 45 = .ok (.iload_n 1, 1) := by decide +kernel
theorem dX5_tour_46 : decode cX5_tour 46 = .ok (.invokevirtual 232, 3) := by decide +kernel
theorem dX5_tour_49 : decode cX5_tour 49 = .ok (.istore 4, 2) := by decide +kernel
theorem dX5_tour_51 : decode cX5_tour 51 = .ok (.aload_n 0, 1) := by decide +kernel
theorem dX5_tour_52 : decode cX5_tour 52 = .ok (.invokevirtual 220, 3) := by decide +kernel
theorem dX5_tour_55 : decode cX5_tour 55 = .ok (.iload 4, 2) := by decide +kernel
theorem dX5_tour_57 : decode cX5_tour 57 = .ok (.ireturn, 1) := by decide +kernel
theorem dX5_witSharing_0 : decode cX5_witSharing 0 = .ok (.iconst 0, 1) := by decide +kernel
theorem dX5_witSharing_1 : decode cX5_witSharing 1 = .ok (.istore_n 2, 1) := by decide +kernel
theorem dX5_witSharing_2 : decode cX5_witSharing 2 = .ok (.iload_n 2, 1) := by decide +kernel
theorem dX5_witSharing_3 : decode cX5_witSharing 3 = .ok (.aload_n 0, 1) := by decide +kernel
theorem dX5_witSharing_4 : decode cX5_witSharing 4 = .ok (.getfield 75, 3) := by decide +kernel
theorem dX5_witSharing_7 : decode cX5_witSharing 7 = .ok (.if_icmp .ge 24, 3) := by decide +kernel
theorem dX5_witSharing_10 : decode cX5_witSharing 10 = .ok (.aload_n 0, 1) := by decide +kernel
theorem dX5_witSharing_11 : decode cX5_witSharing 11 = .ok (.iload_n 2, 1) := by decide +kernel
theorem dX5_witSharing_12 : decode cX5_witSharing 12 = .ok (.iload_n 1, 1) := by decide +kernel
theorem dX5_witSharing_13 : decode cX5_witSharing 13 = .ok (.invokevirtual 192, 3) := by decide +kernel
theorem dX5_witSharing_16 : decode cX5_witSharing 16 = .ok (.ifCond .eq 9, 3) := by decide +kernel
theorem dX5_witSharing_19 : decode cX5_witSharing 19 = .ok (.aload_n 0, 1) := by decide +kernel
theorem dX5_witSharing_20 : decode cX5_witSharing 20 = .ok (.iload_n 2, 1) := by decide +kernel
theorem dX5_witSharing_21 : decode cX5_witSharing 21 = .ok (.iload_n 1, 1) := by decide +kernel
theorem dX5_witSharing_22 : decode cX5_witSharing 22 = .ok (.invokevirtual 195, 3) := by decide +kernel
theorem dX5_witSharing_25 : decode cX5_witSharing 25 = .ok (.iinc 2 1, 3) := by decide +kernel
theorem dX5_witSharing_28 : decode cX5_witSharing 28 = .ok (.goto (-26), 3) := by decide +kernel
theorem dX5_witSharing_31 : decode cX5_witSharing 31 = .ok (.aload_n 0, 1) := by decide +kernel
theorem dX5_witSharing_32 : decode cX5_witSharing 32 = .ok (.invokevirtual 235, 3) := by decide +kernel
theorem dX5_witSharing_35 : decode cX5_witSharing 35 = .ok (.ireturn, 1) := by decide +kernel
theorem dX5_share_0 : decode cX5_share 0 = .ok (.iload_n 1, 1) := by decide +kernel
theorem dX5_share_1 : decode cX5_share 1 = .ok (.invokestatic 173, 3) := by decide +kernel
theorem dX5_share_4 : decode cX5_share 4 = .ok (.ifCond .eq 12, 3) := by decide +kernel
theorem dX5_share_7 : decode cX5_share 7 = .ok (.iload_n 2, 1) := by decide +kernel
theorem dX5_share_8 : decode cX5_share 8 = .ok (.iconst 0, 1) := by decide +kernel
theorem dX5_share_9 : decode cX5_share 9 = .ok (.iconst 1, 1) := by decide +kernel
theorem dX5_share_10 : decode cX5_share 10 = .ok (.invokestatic 78, 3) := by decide +kernel
theorem dX5_share_13 : decode cX5_share 13 = .ok (.ifCond .ne 6, 3) := by decide +kernel
theorem dX5_share_16 : decode cX5_share 16 = .ok (.bipush (-2), 2) := by decide +kernel
theorem dX5_share_18 : decode cX5_share 18 = .ok (.ireturn, 1) := by decide +kernel
theorem dX5_share_19 : decode cX5_share 19 = .ok (.iconst (-1), 1) := by decide +kernel
theorem dX5_share_20 : decode cX5_share 20 = .ok (.istore_n 3, 1) := by decide +kernel
theorem dX5_share_21 : decode cX5_share 21 = .ok (.aload_n 0, 1) := by decide +kernel
theorem dX5_share_22 : decode cX5_share 22 = .ok (.invokevirtual 235, 3) := by decide +kernel
theorem dX5_share_25 : decode cX5_share 25 = .ok (.istore 4, 2) := by decide +kernel
theorem dX5_share_27 : decode cX5_share 27 = .ok (.aload_n 0, 1) := by decide +kernel
theorem dX5_share_28 : decode cX5_share 28 = .ok (.invokevirtual 214, 3) := by decide +kernel
theorem dX5_share_31 : decode cX5_share 31 = .ok (.iconst 0, 1) := by decide +kernel
theorem dX5_share_32 : decode cX5_share 32 = .ok (.istore 5, 2) := by decide +kernel
theorem dX5_share_34 : decode cX5_share 34 = .ok (.iload 5, 2) := by decide +kernel
theorem dX5_share_36 : decode cX5_share 36 = .ok (.aload_n 0, 1) := by decide +kernel
theorem dX5_share_37 : decode cX5_share 37 = .ok (.getfield 75, 3) := by decide +kernel
theorem dX5_share_40 : decode cX5_share 40 = .ok (.if_icmp .ge 98, 3) := by decide +kernel
theorem dX5_share_43 : decode cX5_share 43 = .ok (.aload_n 0, 1) := by decide +kernel
theorem dX5_share_44 : decode cX5_share 44 = .ok (.getfield 16, 3) := by decide +kernel
theorem dX5_share_47 : decode cX5_share 47 = .ok (.bipush 12, 2) := by decide +kernel
theorem dX5_share_49 : decode cX5_share 49 = .ok (.iload 5, 2) := by decide +kernel
theorem dX5_share_51 : decode cX5_share 51 = .ok (.imul, 1) := by decide +kernel
theorem dX5_share_52 : decode cX5_share 52 = .ok (.iload_n 1, 1) := by decide +kernel
theorem dX5_share_53 : decode cX5_share 53 = .ok (.iadd, 1) := by decide +kernel
theorem dX5_share_54 : decode cX5_share 54 = .ok (.iaload, 1) := by decide +kernel
theorem dX5_share_55 : decode cX5_share 55 = .ok (.bipush 9, 2) := by decide +kernel
theorem dX5_share_57 : decode cX5_share 57 = .ok (.if_icmp .ge 75, 3) := by decide +kernel
theorem dX5_share_60 : decode cX5_share 60 = .ok (.aload_n 0, 1) := by decide +kernel
theorem dX5_share_61 : decode cX5_share 61 = .ok (.getfield 16, 3) := by decide +kernel
theorem dX5_share_64 : decode cX5_share 64 = .ok (.bipush 12, 2) := by decide +kernel
theorem dX5_share_66 : decode cX5_share 66 = .ok (.iload 5, 2) := by decide +kernel
theorem dX5_share_68 : decode cX5_share 68 = .ok (.imul, 1) := by decide +kernel
theorem dX5_share_69 : decode cX5_share 69 = .ok (.iload_n 1, 1) := by decide +kernel
theorem dX5_share_70 : decode cX5_share 70 = .ok (.iadd, 1) := by decide +kernel
theorem dX5_share_71 : decode cX5_share 71 = .ok (.dup2, 1) := by decide +kernel
theorem dX5_share_72 : decode cX5_share 72 = .ok (.iaload, 1) := by decide +kernel
theorem dX5_share_73 : decode cX5_share 73 = .ok (.iconst 1, 1) := by decide +kernel
theorem dX5_share_74 : decode cX5_share 74 = .ok (.iadd, 1) := by decide +kernel
theorem dX5_share_75 : decode cX5_share 75 = .ok (.iastore, 1) := by decide +kernel
theorem dX5_share_76 : decode cX5_share 76 = .ok (.aload_n 0, 1) := by decide +kernel
theorem dX5_share_77 : decode cX5_share 77 = .ok (.iload_n 1, 1) := by decide +kernel
theorem dX5_share_78 : decode cX5_share 78 = .ok (.invokevirtual 238, 3) := by decide +kernel
theorem dX5_share_81 : decode cX5_share 81 = .ok (.istore 6, 2) := by decide +kernel
theorem dX5_share_83 : decode cX5_share 83 = .ok (.aload_n 0, 1) := by decide +kernel
theorem dX5_share_84 : decode cX5_share 84 = .ok (.invokevirtual 220, 3) := by decide +kernel
theorem dX5_share_87 : decode cX5_share 87 = .ok (.iload_n 3, 1) := by decide +kernel
theorem dX5_share_88 : decode cX5_share 88 = .ok (.iconst (-1), 1) := by decide +kernel
theorem dX5_share_89 : decode cX5_share 89 = .ok (.if_icmp .eq 10, 3) := by decide +kernel
theorem dX5_share_92 : decode cX5_share 92 = .ok (.iload 6, 2) := by decide +kernel
theorem dX5_share_94 : decode cX5_share 94 = .ok (.iload 4, 2) := by decide +kernel
theorem dX5_share_96 : decode cX5_share 96 = .ok (.if_icmp .le 7, 3) := by decide +kernel
theorem dX5_share_99 : decode cX5_share 99 = .ok (.iconst 1, 1) := by decide +kernel
theorem dX5_share_100 : decode cX5_share 100 = .ok (.goto 4, 3) := by decide +kernel
theorem dX5_share_103 : decode cX5_share 103 = .ok (.iconst 0, 1) := by decide +kernel
theorem dX5_share_104 : decode cX5_share 104 = .ok (.istore 7, 2) := by decide +kernel
theorem dX5_share_106 : decode cX5_share 106 = .ok (.iload 7, 2) := by decide +kernel
theorem dX5_share_108 : decode cX5_share 108 = .ok (.ifCond .eq 8, 3) := by decide +kernel
theorem dX5_share_111 : decode cX5_share 111 = .ok (.iload 5, 2) := by decide +kernel
theorem dX5_share_113 : decode cX5_share 113 = .ok (.goto 4, 3) := by decide +kernel
theorem dX5_share_116 : decode cX5_share 116 = .ok (.iload_n 3, 1) := by decide +kernel
theorem dX5_share_117 : decode cX5_share 117 = .ok (.istore_n 3, 1) := by decide +kernel
theorem dX5_share_118 : decode cX5_share 118 = .ok (.iload 7, 2) := by decide +kernel
theorem dX5_share_120 : decode cX5_share 120 = .ok (.ifCond .eq 8, 3) := by decide +kernel
theorem dX5_share_123 : decode cX5_share 123 = .ok (.iload 6, 2) := by decide +kernel
theorem dX5_share_125 : decode cX5_share 125 = .ok (.goto 5, 3) := by decide +kernel
theorem dX5_share_128 : decode cX5_share 128 = .ok (.iload 4, 2) := by decide +kernel
theorem dX5_share_130 : decode cX5_share 130 = .ok (.istore 4, 2) := by decide +kernel
theorem dX5_share_132 : decode cX5_share 132 = .ok (.iinc 5 1, 3) := by decide +kernel
theorem dX5_share_135 : decode cX5_share 135 = .ok (.goto (-101), 3) := by decide +kernel
theorem dX5_share_138 : decode cX5_share 138 = .ok (.iload_n 2, 1) := by decide +kernel
theorem dX5_share_139 : decode cX5_share 139 = .ok (.ifCond .ne 7, 3) := by decide +kernel
theorem dX5_share_142 : decode cX5_share 142 = .ok (.iload_n 3, 1) := by decide +kernel
theorem dX5_share_143 : decode cX5_share 143 = .ok (.goto 5, 3) := by decide +kernel
theorem dX5_share_146 : decode cX5_share 146 = .ok (.iload 4, 2) := by decide +kernel
theorem dX5_share_148 : decode cX5_share 148 = .ok (.ireturn, 1) := by decide +kernel
theorem dX5_lowest_0 : decode cX5_lowest 0 = .ok (.lload_n 0, 1) := by decide +kernel
theorem dX5_lowest_1 : decode cX5_lowest 1 = .ok (.lconst 0, 1) := by decide +kernel
theorem dX5_lowest_2 : decode cX5_lowest 2 = .ok (.lcmp, 1) := by decide +kernel
theorem dX5_lowest_3 : decode cX5_lowest 3 = .ok (.ifCond .ne 7, 3) := by decide +kernel
theorem dX5_lowest_6 : decode cX5_lowest 6 = .ok (.iload 4, 2) := by decide +kernel
theorem dX5_lowest_8 : decode cX5_lowest 8 = .ok (.i2l, 1) := by decide +kernel
theorem dX5_lowest_9 : decode cX5_lowest 9 = .ok (.lreturn, 1) := by decide +kernel
theorem dX5_lowest_10 : decode cX5_lowest 10 = .ok (.lload_n 0, 1) := by decide +kernel
theorem dX5_lowest_11 : decode cX5_lowest 11 = .ok (.lstore 5, 2) := by decide +kernel
theorem dX5_lowest_13 : decode cX5_lowest 13 = .ok (.lload_n 2, 1) := by decide +kernel
theorem dX5_lowest_14 : decode cX5_lowest 14 = .ok (.lstore 7, 2) := by decide +kernel
theorem dX5_lowest_16 : decode cX5_lowest 16 = .ok (.lload 7, 2) := by decide +kernel
theorem dX5_lowest_18 : decode cX5_lowest 18 = .ok (.lconst 0, 1) := by decide +kernel
theorem dX5_lowest_19 : decode cX5_lowest 19 = .ok (.lcmp, 1) := by decide +kernel
theorem dX5_lowest_20 : decode cX5_lowest 20 = .ok (.ifCond .eq 21, 3) := by decide +kernel
theorem dX5_lowest_23 : decode cX5_lowest 23 = .ok (.lload 5, 2) := by decide +kernel
theorem dX5_lowest_25 : decode cX5_lowest 25 = .ok (.lload 7, 2) := by decide +kernel
theorem dX5_lowest_27 : decode cX5_lowest 27 = .ok (.lrem, 1) := by decide +kernel
theorem dX5_lowest_28 : decode cX5_lowest 28 = .ok (.lstore 9, 2) := by decide +kernel
theorem dX5_lowest_30 : decode cX5_lowest 30 = .ok (.lload 7, 2) := by decide +kernel
theorem dX5_lowest_32 : decode cX5_lowest 32 = .ok (.lstore 5, 2) := by decide +kernel
theorem dX5_lowest_34 : decode cX5_lowest 34 = .ok (.lload 9, 2) := by decide +kernel
theorem dX5_lowest_36 : decode cX5_lowest 36 = .ok (.lstore 7, 2) := by decide +kernel
theorem dX5_lowest_38 : decode cX5_lowest 38 = .ok (.goto (-22), 3) := by decide +kernel
theorem dX5_lowest_41 : decode cX5_lowest 41 = .ok (.iload 4, 2) := by decide +kernel
theorem dX5_lowest_43 : decode cX5_lowest 43 = .ok (.ifCond .ne 7, 3) := by decide +kernel
theorem dX5_lowest_46 : decode cX5_lowest 46 = .ok (.lload_n 0, 1) := by decide +kernel
theorem dX5_lowest_47 : decode cX5_lowest 47 = .ok (.goto 4, 3) := by decide +kernel
theorem dX5_lowest_50 : decode cX5_lowest 50 = .ok (.lload_n 2, 1) := by decide +kernel
theorem dX5_lowest_51 : decode cX5_lowest 51 = .ok (.lload 5, 2) := by decide +kernel
theorem dX5_lowest_53 : decode cX5_lowest 53 = .ok (.ldiv, 1) := by decide +kernel
theorem dX5_lowest_54 : decode cX5_lowest 54 = .ok (.lreturn, 1) := by decide +kernel
theorem dX5_grainsOf_0 : decode cX5_grainsOf 0 = .ok (.iconst 0, 1) := by decide +kernel
theorem dX5_grainsOf_1 : decode cX5_grainsOf 1 = .ok (.istore_n 2, 1) := by decide +kernel
theorem dX5_grainsOf_2 : decode cX5_grainsOf 2 = .ok (.iconst 0, 1) := by decide +kernel
theorem dX5_grainsOf_3 : decode cX5_grainsOf 3 = .ok (.istore_n 3, 1) := by decide +kernel
theorem dX5_grainsOf_4 : decode cX5_grainsOf 4 = .ok (.iload_n 3, 1) := by decide +kernel
theorem dX5_grainsOf_5 : decode cX5_grainsOf 5 = .ok (.bipush 8, 2) := by decide +kernel
theorem dX5_grainsOf_7 : decode cX5_grainsOf 7 = .ok (.if_icmp .ge 23, 3) := by decide +kernel
theorem dX5_grainsOf_10 : decode cX5_grainsOf 10 = .ok (.iload_n 2, 1) := by decide +kernel
theorem dX5_grainsOf_11 : decode cX5_grainsOf 11 = .ok (.aload_n 0, 1) := by decide +kernel
theorem dX5_grainsOf_12 : decode cX5_grainsOf 12 = .ok (.getfield 16, 3) := by decide +kernel
theorem dX5_grainsOf_15 : decode cX5_grainsOf 15 = .ok (.bipush 12, 2) := by decide +kernel
theorem dX5_grainsOf_17 : decode cX5_grainsOf 17 = .ok (.iload_n 1, 1) := by decide +kernel
theorem dX5_grainsOf_18 : decode cX5_grainsOf 18 = .ok (.imul, 1) := by decide +kernel
theorem dX5_grainsOf_19 : decode cX5_grainsOf 19 = .ok (.iload_n 3, 1) := by decide +kernel
theorem dX5_grainsOf_20 : decode cX5_grainsOf 20 = .ok (.iadd, 1) := by decide +kernel
theorem dX5_grainsOf_21 : decode cX5_grainsOf 21 = .ok (.iaload, 1) := by decide +kernel
theorem dX5_grainsOf_22 : decode cX5_grainsOf 22 = .ok (.iadd, 1) := by decide +kernel
theorem dX5_grainsOf_23 : decode cX5_grainsOf 23 = .ok (.istore_n 2, 1) := by decide +kernel
theorem dX5_grainsOf_24 : decode cX5_grainsOf 24 = .ok (.iinc 3 1, 3) := by decide +kernel
theorem dX5_grainsOf_27 : decode cX5_grainsOf 27 = .ok (.goto (-23), 3) := by decide +kernel
theorem dX5_grainsOf_30 : decode cX5_grainsOf 30 = .ok (.iload_n 2, 1) := by decide +kernel
theorem dX5_grainsOf_31 : decode cX5_grainsOf 31 = .ok (.ireturn, 1) := by decide +kernel
theorem dX5_box_0 : decode cX5_box 0 = .ok (.iconst 0, 1) := by decide +kernel
theorem dX5_box_1 : decode cX5_box 1 = .ok (.istore_n 3, 1) := by decide +kernel
theorem dX5_box_2 : decode cX5_box 2 = .ok (.iconst 0, 1) := by decide +kernel
theorem dX5_box_3 : decode cX5_box 3 = .ok (.istore 4, 2) := by decide +kernel
theorem dX5_box_5 : decode cX5_box 5 = .ok (.iload 4, 2) := by decide +kernel
theorem dX5_box_7 : decode cX5_box 7 = .ok (.aload_n 0, 1) := by decide +kernel
theorem dX5_box_8 : decode cX5_box 8 = .ok (.getfield 75, 3) := by decide +kernel
theorem dX5_box_11 : decode cX5_box 11 = .ok (.if_icmp .ge 18, 3) := by decide +kernel
theorem dX5_box_14 : decode cX5_box 14 = .ok (.iload_n 3, 1) := by decide +kernel
theorem dX5_box_15 : decode cX5_box 15 = .ok (.aload_n 0, 1) := by decide +kernel
theorem dX5_box_16 : decode cX5_box 16 = .ok (.iload 4, 2) := by decide +kernel
theorem dX5_box_18 : decode cX5_box 18 = .ok (.invokevirtual 241, 3) := by decide +kernel
theorem dX5_box_21 : decode cX5_box 21 = .ok (.iadd, 1) := by decide +kernel
theorem dX5_box_22 : decode cX5_box 22 = .ok (.istore_n 3, 1) := by decide +kernel
theorem dX5_box_23 : decode cX5_box 23 = .ok (.iinc 4 1, 3) := by decide +kernel
theorem dX5_box_26 : decode cX5_box 26 = .ok (.goto (-21), 3) := by decide +kernel
theorem dX5_box_29 : decode cX5_box 29 = .ok (.aload_n 0, 1) := by decide +kernel
theorem dX5_box_30 : decode cX5_box 30 = .ok (.iload_n 1, 1) := by decide +kernel
theorem dX5_box_31 : decode cX5_box 31 = .ok (.invokevirtual 170, 3) := by decide +kernel
theorem dX5_box_34 : decode cX5_box 34 = .ok (.ifCond .eq 31, 3) := by decide +kernel
theorem dX5_box_37 : decode cX5_box 37 = .ok (.iload_n 2, 1) := by decide +kernel
theorem dX5_box_38 : decode cX5_box 38 = .ok (.iconst 0, 1) := by decide +kernel
theorem dX5_box_39 : decode cX5_box 39 = .ok (.iconst 1, 1) := by decide +kernel
theorem dX5_box_40 : decode cX5_box 40 = .ok (.invokestatic 78, 3) := by decide +kernel
theorem dX5_box_43 : decode cX5_box 43 = .ok (.ifCond .eq 22, 3) := by decide +kernel
theorem dX5_box_46 : decode cX5_box 46 = .ok (.iload_n 3, 1) := by decide +kernel
theorem dX5_box_47 : decode cX5_box 47 = .ok (.ifCond .le 18, 3) := by decide +kernel
theorem dX5_box_50 : decode cX5_box 50 = .ok (.aload_n 0, 1) := by decide +kernel
theorem dX5_box_51 : decode cX5_box 51 = .ok (.iload_n 1, 1) := by decide +kernel
theorem dX5_box_52 : decode cX5_box 52 = .ok (.invokevirtual 241, 3) := by decide +kernel
theorem dX5_box_55 : decode cX5_box 55 = .ok (.i2l, 1) := by decide +kernel
theorem dX5_box_56 : decode cX5_box 56 = .ok (.iload_n 3, 1) := by decide +kernel
theorem dX5_box_57 : decode cX5_box 57 = .ok (.i2l, 1) := by decide +kernel
theorem dX5_box_58 : decode cX5_box 58 = .ok (.iload_n 2, 1) := by decide +kernel
theorem dX5_box_59 : decode cX5_box 59 = .ok (.invokestatic 244, 3) := by decide +kernel
theorem dX5_box_62 : decode cX5_box 62 = .ok (.goto 6, 3) := by decide +kernel
theorem dX5_box_65 : decode cX5_box 65 = .ok (.ldc2_w 248, 3) := by decide +kernel
theorem dX5_box_68 : decode cX5_box 68 = .ok (.lreturn, 1) := by decide +kernel
theorem dX5_twoWrong_0 : decode cX5_twoWrong 0 = .ok (.iload_n 2, 1) := by decide +kernel
theorem dX5_twoWrong_1 : decode cX5_twoWrong 1 = .ok (.iconst 0, 1) := by decide +kernel
theorem dX5_twoWrong_2 : decode cX5_twoWrong 2 = .ok (.iconst 3, 1) := by decide +kernel
theorem dX5_twoWrong_3 : decode cX5_twoWrong 3 = .ok (.invokestatic 78, 3) := by decide +kernel
theorem dX5_twoWrong_6 : decode cX5_twoWrong 6 = .ok (.ifCond .ne 6, 3) := by decide +kernel
theorem dX5_twoWrong_9 : decode cX5_twoWrong 9 = .ok (.bipush (-2), 2) := by decide +kernel
theorem dX5_twoWrong_11 : decode cX5_twoWrong 11 = .ok (.ireturn, 1) := by decide +kernel
theorem dX5_twoWrong_12 : decode cX5_twoWrong 12 = .ok (.aload_n 0, 1) := by decide +kernel
theorem dX5_twoWrong_13 : decode cX5_twoWrong 13 = .ok (.iload_n 1, 1) := by decide +kernel
theorem dX5_twoWrong_14 : decode cX5_twoWrong 14 = .ok (.invokevirtual 211, 3) := by decide +kernel
theorem dX5_twoWrong_17 : decode cX5_twoWrong 17 = .ok (.istore_n 3, 1) := by decide +kernel
theorem dX5_twoWrong_18 : decode cX5_twoWrong 18 = .ok (.iload_n 3, 1) := by decide +kernel
theorem dX5_twoWrong_19 : decode cX5_twoWrong 19 = .ok (.ifCond .eq 5, 3) := by decide +kernel
theorem dX5_twoWrong_22 : decode cX5_twoWrong 22 = .ok (.iload_n 3, 1) := by decide +kernel
theorem dX5_twoWrong_23 : decode cX5_twoWrong 23 = .ok (.ireturn, 1) := by decide +kernel
theorem dX5_twoWrong_24 : decode cX5_twoWrong 24 = .ok (.aload_n 0, 1) := by decide +kernel
theorem dX5_twoWrong_25 : decode cX5_twoWrong 25 = .ok (.getfield 34, 3) := by decide +kernel
theorem dX5_twoWrong_28 : decode cX5_twoWrong 28 = .ok (.iload_n 2, 1) := by decide +kernel
theorem dX5_twoWrong_29 : decode cX5_twoWrong 29 = .ok (.iaload, 1) := by decide +kernel
theorem dX5_twoWrong_30 : decode cX5_twoWrong 30 = .ok (.iconst (-1), 1) := by decide +kernel
theorem dX5_twoWrong_31 : decode cX5_twoWrong 31 = .ok (.if_icmp .ne 6, 3) := by decide +kernel
theorem dX5_twoWrong_34 : decode cX5_twoWrong 34 = .ok (.bipush (-11), 2) := by decide +kernel
theorem dX5_twoWrong_36 : decode cX5_twoWrong 36 = .ok (.ireturn, 1) := by decide +kernel
theorem dX5_twoWrong_37 : decode cX5_twoWrong 37 = .ok (.aload_n 0, 1) := by decide +kernel
theorem dX5_twoWrong_38 : decode cX5_twoWrong 38 = .ok (.getfield 37, 3) := by decide +kernel
theorem dX5_twoWrong_41 : decode cX5_twoWrong 41 = .ok (.iload_n 2, 1) := by decide +kernel
theorem dX5_twoWrong_42 : decode cX5_twoWrong 42 = .ok (.iaload, 1) := by decide +kernel
theorem dX5_twoWrong_43 : decode cX5_twoWrong 43 = .ok (.aload_n 0, 1) := by decide +kernel
theorem dX5_twoWrong_44 : decode cX5_twoWrong 44 = .ok (.getfield 37, 3) := by decide +kernel
theorem dX5_twoWrong_47 : decode cX5_twoWrong 47 = .ok (.iload_n 1, 1) := by decide +kernel
theorem dX5_twoWrong_48 : decode cX5_twoWrong 48 = .ok (.iaload, 1) := by decide +kernel
theorem dX5_twoWrong_49 : decode cX5_twoWrong 49 = .ok (.if_icmp .le 8, 3) := by decide +kernel
theorem dX5_twoWrong_52 : decode cX5_twoWrong 52 = .ok (.bipush (-2), 2) := by decide +kernel
theorem dX5_twoWrong_54 : decode cX5_twoWrong 54 = .ok (.goto 4, 3) := by decide +kernel
theorem dX5_twoWrong_57 : decode cX5_twoWrong 57 = .ok (.iconst 0, 1) := by decide +kernel
theorem dX5_twoWrong_58 : decode cX5_twoWrong 58 = .ok (.ireturn, 1) := by decide +kernel
theorem dX5_toldWrong_0 : decode cX5_toldWrong 0 = .ok (.aload_n 0, 1) := by decide +kernel
theorem dX5_toldWrong_1 : decode cX5_toldWrong 1 = .ok (.iload_n 1, 1) := by decide +kernel
theorem dX5_toldWrong_2 : decode cX5_toldWrong 2 = .ok (.iload_n 2, 1) := by decide +kernel
theorem dX5_toldWrong_3 : decode cX5_toldWrong 3 = .ok (.invokevirtual 250, 3) := by decide +kernel
theorem dX5_toldWrong_6 : decode cX5_toldWrong 6 = .ok (.istore 4, 2) := by decide +kernel
theorem dX5_toldWrong_8 : decode cX5_toldWrong 8 = .ok (.iload 4, 2) := by decide +kernel
theorem dX5_toldWrong_10 : decode cX5_toldWrong 10 = .ok (.ifCond .eq 8, 3) := by decide +kernel
theorem dX5_toldWrong_13 : decode cX5_toldWrong 13 = .ok (.iload 4, 2) := by decide +kernel
theorem dX5_toldWrong_15 : decode cX5_toldWrong 15 = .ok (.goto 17, 3) := by decide +kernel
theorem dX5_toldWrong_18 : decode cX5_toldWrong 18 = .ok (.aload_n 0, 1) := by decide +kernel
theorem dX5_toldWrong_19 : decode cX5_toldWrong 19 = .ok (.iload_n 3, 1) := by decide +kernel
theorem dX5_toldWrong_20 : decode cX5_toldWrong 20 = .ok (.invokevirtual 170, 3) := by decide +kernel
theorem dX5_toldWrong_23 : decode cX5_toldWrong 23 = .ok (.ifCond .eq 7, 3) := by decide +kernel
theorem dX5_toldWrong_26 : decode cX5_toldWrong 26 = .ok (.iconst 0, 1) := by decide +kernel
theorem dX5_toldWrong_27 : decode cX5_toldWrong 27 = .ok (.goto 5, 3) := by decide +kernel
theorem dX5_toldWrong_30 : decode cX5_toldWrong 30 = .ok (.bipush (-5), 2) := by decide +kernel
theorem dX5_toldWrong_32 : decode cX5_toldWrong 32 = .ok (.ireturn, 1) := by decide +kernel
theorem dX5_unlike_0 : decode cX5_unlike 0 = .ok (.iconst (-1), 1) := by decide +kernel
theorem dX5_unlike_1 : decode cX5_unlike 1 = .ok (.istore 4, 2) := by decide +kernel
theorem dX5_unlike_3 : decode cX5_unlike 3 = .ok (.aload_n 0, 1) := by decide +kernel
theorem dX5_unlike_4 : decode cX5_unlike 4 = .ok (.invokevirtual 214, 3) := by decide +kernel
theorem dX5_unlike_7 : decode cX5_unlike 7 = .ok (.iconst 0, 1) := by decide +kernel
theorem dX5_unlike_8 : decode cX5_unlike 8 = .ok (.istore 5, 2) := by decide +kernel
theorem dX5_unlike_10 : decode cX5_unlike 10 = .ok (.iload 5, 2) := by decide +kernel
theorem dX5_unlike_12 : decode cX5_unlike 12 = .ok (.aload_n 0, 1) := by decide +kernel
theorem dX5_unlike_13 : decode cX5_unlike 13 = .ok (.getfield 37, 3) := by decide +kernel
theorem dX5_unlike_16 : decode cX5_unlike 16 = .ok (.iload_n 2, 1) := by decide +kernel
theorem dX5_unlike_17 : decode cX5_unlike 17 = .ok (.iaload, 1) := by decide +kernel
theorem dX5_unlike_18 : decode cX5_unlike 18 = .ok (.if_icmp .ge 72, 3) := by decide +kernel
theorem dX5_unlike_21 : decode cX5_unlike 21 = .ok (.iload 4, 2) := by decide +kernel
theorem dX5_unlike_23 : decode cX5_unlike 23 = .ok (.iconst (-1), 1) := by decide +kernel
theorem dX5_unlike_24 : decode cX5_unlike 24 = .ok (.if_icmp .ne 66, 3) := by decide +kernel
theorem dX5_unlike_27 : decode cX5_unlike 27 = .ok (.aload_n 0, 1) := by decide +kernel
theorem dX5_unlike_28 : decode cX5_unlike 28 = .ok (.aload_n 0, 1) := by decide +kernel
theorem dX5_unlike_29 : decode cX5_unlike 29 = .ok (.getfield 40, 3) := by decide +kernel
theorem dX5_unlike_32 : decode cX5_unlike 32 = .ok (.bipush 40, 2) := by decide +kernel
theorem dX5_unlike_34 : decode cX5_unlike 34 = .ok (.iload_n 1, 1) := by decide +kernel
theorem dX5_unlike_35 : decode cX5_unlike 35 = .ok (.imul, 1) := by decide +kernel
theorem dX5_unlike_36 : decode cX5_unlike 36 = .ok (.iload 5, 2) := by decide +kernel
theorem dX5_unlike_38 : decode cX5_unlike 38 = .ok (.iadd, 1) := by decide +kernel
theorem dX5_unlike_39 : decode cX5_unlike 39 = .ok (.iaload, 1) := by decide +kernel
theorem dX5_unlike_40 : decode cX5_unlike 40 = .ok (.invokevirtual 208, 3) := by decide +kernel
theorem dX5_unlike_43 : decode cX5_unlike 43 = .ok (.pop, 1) := by decide +kernel
theorem dX5_unlike_44 : decode cX5_unlike 44 = .ok (.aload_n 0, 1) := by decide +kernel
theorem dX5_unlike_45 : decode cX5_unlike 45 = .ok (.invokevirtual 199, 3) := by decide +kernel
theorem dX5_unlike_48 : decode cX5_unlike 48 = .ok (.pop, 1) := by decide +kernel
theorem dX5_unlike_49 : decode cX5_unlike 49 = .ok (.aload_n 0, 1) := by decide +kernel
theorem dX5_unlike_50 : decode cX5_unlike 50 = .ok (.getfield 40, 3) := by decide +kernel
theorem dX5_unlike_53 : decode cX5_unlike 53 = .ok (.bipush 40, 2) := by decide +kernel
theorem dX5_unlike_55 : decode cX5_unlike 55 = .ok (.iload_n 2, 1) := by decide +kernel
theorem dX5_unlike_56 : decode cX5_unlike 56 = .ok (.imul, 1) := by decide +kernel
theorem dX5_unlike_57 : decode cX5_unlike 57 = .ok (.iload 5, 2) := by decide +kernel
theorem dX5_unlike_59 : decode cX5_unlike 59 = .ok (.iadd, 1) := by decide +kernel
theorem dX5_unlike_60 : decode cX5_unlike 60 = .ok (.iaload, 1) := by decide +kernel
theorem dX5_unlike_61 : decode cX5_unlike 61 = .ok (.aload_n 0, 1) := by decide +kernel
theorem dX5_unlike_62 : decode cX5_unlike 62 = .ok (.getfield 16, 3) := by decide +kernel
theorem dX5_unlike_65 : decode cX5_unlike 65 = .ok (.bipush 12, 2) := by decide +kernel
theorem dX5_unlike_67 : decode cX5_unlike 67 = .ok (.iload_n 3, 1) := by decide +kernel
theorem dX5_unlike_68 : decode cX5_unlike 68 = .ok (.imul, 1) := by decide +kernel
theorem dX5_unlike_69 : decode cX5_unlike 69 = .ok (.bipush 8, 2) := by decide +kernel
theorem dX5_unlike_71 : decode cX5_unlike 71 = .ok (.iadd, 1) := by decide +kernel
theorem dX5_unlike_72 : decode cX5_unlike 72 = .ok (.iaload, 1) := by decide +kernel
theorem dX5_unlike_73 : decode cX5_unlike 73 = .ok (.if_icmp .ne 7, 3) := by decide +kernel
theorem dX5_unlike_76 : decode cX5_unlike 76 = .ok (.iconst (-1), 1) := by decide +kernel
theorem dX5_unlike_77 : decode cX5_unlike 77 = .ok (.goto 5, 3) := by decide +kernel
theorem dX5_unlike_80 : decode cX5_unlike 80 = .ok (.iload 5, 2) := by decide +kernel
theorem dX5_unlike_82 : decode cX5_unlike 82 = .ok (.istore 4, 2) := by decide +kernel
theorem dX5_unlike_84 : decode cX5_unlike 84 = .ok (.iinc 5 1, 3) := by decide +kernel
theorem dX5_unlike_87 : decode cX5_unlike 87 = .ok (.goto (-77), 3) := by decide +kernel
theorem dX5_unlike_90 : decode cX5_unlike 90 = .ok (.aload_n 0, 1) := by decide +kernel
theorem dX5_unlike_91 : decode cX5_unlike 91 = .ok (.invokevirtual 220, 3) := by decide +kernel
theorem dX5_unlike_94 : decode cX5_unlike 94 = .ok (.iload 4, 2) := by decide +kernel
theorem dX5_unlike_96 : decode cX5_unlike 96 = .ok (.ireturn, 1) := by decide +kernel
theorem dX5_judge_0 : decode cX5_judge 0 = .ok (.aload_n 0, 1) := by decide +kernel
theorem dX5_judge_1 : decode cX5_judge 1 = .ok (.iload_n 1, 1) := by decide +kernel
theorem dX5_judge_2 : decode cX5_judge 2 = .ok (.iload_n 2, 1) := by decide +kernel
theorem dX5_judge_3 : decode cX5_judge 3 = .ok (.iload_n 3, 1) := by decide +kernel
theorem dX5_judge_4 : decode cX5_judge 4 = .ok (.invokevirtual 253, 3) := by decide +kernel
theorem dX5_judge_7 : decode cX5_judge 7 = .ok (.istore 4, 2) := by decide +kernel
theorem dX5_judge_9 : decode cX5_judge 9 = .ok (.iload 4, 2) := by decide +kernel
theorem dX5_judge_11 : decode cX5_judge 11 = .ok (.ifCond .ne 13, 3) := by decide +kernel
theorem dX5_judge_14 : decode cX5_judge 14 = .ok (.aload_n 0, 1) := by decide +kernel
theorem dX5_judge_15 : decode cX5_judge 15 = .ok (.iload_n 1, 1) := by decide +kernel
theorem dX5_judge_16 : decode cX5_judge 16 = .ok (.iload_n 2, 1) := by decide +kernel
theorem dX5_judge_17 : decode cX5_judge 17 = .ok (.iload_n 3, 1) := by decide +kernel
theorem dX5_judge_18 : decode cX5_judge 18 = .ok (.invokevirtual 256, 3) := by decide +kernel
theorem dX5_judge_21 : decode cX5_judge 21 = .ok (.goto 5, 3) := by decide +kernel
theorem dX5_judge_24 : decode cX5_judge 24 = .ok (.iload 4, 2) := by decide +kernel
theorem dX5_judge_26 : decode cX5_judge 26 = .ok (.ireturn, 1) := by decide +kernel
theorem dX5_kinds_0 : decode cX5_kinds 0 = .ok (.aload_n 0, 1) := by decide +kernel
theorem dX5_kinds_1 : decode cX5_kinds 1 = .ok (.iload_n 1, 1) := by decide +kernel
theorem dX5_kinds_2 : decode cX5_kinds 2 = .ok (.iload_n 2, 1) := by decide +kernel
theorem dX5_kinds_3 : decode cX5_kinds 3 = .ok (.iload_n 3, 1) := by decide +kernel
theorem dX5_kinds_4 : decode cX5_kinds 4 = .ok (.invokevirtual 253, 3) := by decide +kernel
theorem dX5_kinds_7 : decode cX5_kinds 7 = .ok (.istore 5, 2) := by decide +kernel
theorem dX5_kinds_9 : decode cX5_kinds 9 = .ok (.iload 5, 2) := by decide +kernel
theorem dX5_kinds_11 : decode cX5_kinds 11 = .ok (.ifCond .eq 6, 3) := by decide +kernel
theorem dX5_kinds_14 : decode cX5_kinds 14 = .ok (.iload 5, 2) := by decide +kernel
theorem dX5_kinds_16 : decode cX5_kinds 16 = .ok (.ireturn, 1) := by decide +kernel
theorem dX5_kinds_17 : decode cX5_kinds 17 = .ok (.iload 4, 2) := by decide +kernel
theorem dX5_kinds_19 : decode cX5_kinds 19 = .ok (.iconst 0, 1) := by decide +kernel
theorem dX5_kinds_20 : decode cX5_kinds 20 = .ok (.iconst 1, 1) := by decide +kernel
theorem dX5_kinds_21 : decode cX5_kinds 21 = .ok (.invokestatic 78, 3) := by decide +kernel
theorem dX5_kinds_24 : decode cX5_kinds 24 = .ok (.ifCond .ne 6, 3) := by decide +kernel
theorem dX5_kinds_27 : decode cX5_kinds 27 = .ok (.bipush (-7), 2) := by decide +kernel
theorem dX5_kinds_29 : decode cX5_kinds 29 = .ok (.ireturn, 1) := by decide +kernel
theorem dX5_kinds_30 : decode cX5_kinds 30 = .ok (.aload_n 0, 1) := by decide +kernel
theorem dX5_kinds_31 : decode cX5_kinds 31 = .ok (.getfield 7, 3) := by decide +kernel
theorem dX5_kinds_34 : decode cX5_kinds 34 = .ok (.iload_n 3, 1) := by decide +kernel
theorem dX5_kinds_35 : decode cX5_kinds 35 = .ok (.iaload, 1) := by decide +kernel
theorem dX5_kinds_36 : decode cX5_kinds 36 = .ok (.istore 6, 2) := by decide +kernel
theorem dX5_kinds_38 : decode cX5_kinds 38 = .ok (.aload_n 0, 1) := by decide +kernel
theorem dX5_kinds_39 : decode cX5_kinds 39 = .ok (.getfield 13, 3) := by decide +kernel
theorem dX5_kinds_42 : decode cX5_kinds 42 = .ok (.iload_n 3, 1) := by decide +kernel
theorem dX5_kinds_43 : decode cX5_kinds 43 = .ok (.iaload, 1) := by decide +kernel
theorem dX5_kinds_44 : decode cX5_kinds 44 = .ok (.istore 7, 2) := by decide +kernel
theorem dX5_kinds_46 : decode cX5_kinds 46 = .ok (.iconst 0, 1) := by decide +kernel
theorem dX5_kinds_47 : decode cX5_kinds 47 = .ok (.istore 8, 2) := by decide +kernel
theorem dX5_kinds_49 : decode cX5_kinds 49 = .ok (.iconst 0, 1) := by decide +kernel
theorem dX5_kinds_50 : decode cX5_kinds 50 = .ok (.istore 9, 2) := by decide +kernel
theorem dX5_kinds_52 : decode cX5_kinds 52 = .ok (.iload 9, 2) := by decide +kernel
theorem dX5_kinds_54 : decode cX5_kinds 54 = .ok (.iload 4, 2) := by decide +kernel
theorem dX5_kinds_56 : decode cX5_kinds 56 = .ok (.ifCond .ne 8, 3) := by decide +kernel
theorem dX5_kinds_59 : decode cX5_kinds 59 = .ok (.bipush 6, 2) := by decide +kernel
theorem dX5_kinds_61 : decode cX5_kinds 61 = .ok (.goto 5, 3) := by decide +kernel
theorem dX5_kinds_64 : decode cX5_kinds 64 = .ok (.bipush 10, 2) := by decide +kernel
theorem dX5_kinds_66 : decode cX5_kinds 66 = .ok (.if_icmp .ge 70, 3) := by decide +kernel
theorem dX5_kinds_69 : decode cX5_kinds 69 = .ok (.aload_n 0, 1) := by decide +kernel
theorem dX5_kinds_70 : decode cX5_kinds 70 = .ok (.getfield 7, 3) := by decide +kernel
theorem dX5_kinds_73 : decode cX5_kinds 73 = .ok (.iload_n 3, 1) := by decide +kernel
theorem dX5_kinds_74 : decode cX5_kinds 74 = .ok (.iload 4, 2) := by decide +kernel
theorem dX5_kinds_76 : decode cX5_kinds 76 = .ok (.ifCond .ne 8, 3) := by decide +kernel
theorem dX5_kinds_79 : decode cX5_kinds 79 = .ok (.iload 9, 2) := by decide +kernel
theorem dX5_kinds_81 : decode cX5_kinds 81 = .ok (.goto 5, 3) := by decide +kernel
theorem dX5_kinds_84 : decode cX5_kinds 84 = .ok (.iload 6, 2) := by decide +kernel
theorem dX5_kinds_86 : decode cX5_kinds 86 = .ok (.iastore, 1) := by decide +kernel
theorem dX5_kinds_87 : decode cX5_kinds 87 = .ok (.aload_n 0, 1) := by decide +kernel
theorem dX5_kinds_88 : decode cX5_kinds 88 = .ok (.getfield 13, 3) := by decide +kernel
theorem dX5_kinds_91 : decode cX5_kinds 91 = .ok (.iload_n 3, 1) := by decide +kernel
theorem dX5_kinds_92 : decode cX5_kinds 92 = .ok (.iload 4, 2) := by decide +kernel
theorem dX5_kinds_94 : decode cX5_kinds 94 = .ok (.iconst 1, 1) := by decide +kernel
theorem dX5_kinds_95 : decode cX5_kinds 95 = .ok (.if_icmp .ne 8, 3) := by decide +kernel
theorem dX5_kinds_98 : decode cX5_kinds 98 = .ok (.iload 9, 2) := by decide +kernel
theorem dX5_kinds_100 : decode cX5_kinds 100 = .ok (.goto 5, 3) := by decide +kernel
theorem dX5_kinds_103 : decode cX5_kinds 103 = .ok (.iload 7, 2) := by decide +kernel
theorem dX5_kinds_105 : decode cX5_kinds 105 = .ok (.iastore, 1) := by decide +kernel
theorem dX5_kinds_106 : decode cX5_kinds 106 = .ok (.iload 8, 2) := by decide +kernel
theorem dX5_kinds_108 : decode cX5_kinds 108 = .ok (.aload_n 0, 1) := by decide +kernel
theorem dX5_kinds_109 : decode cX5_kinds 109 = .ok (.iload_n 1, 1) := by decide +kernel
theorem dX5_kinds_110 : decode cX5_kinds 110 = .ok (.iload_n 2, 1) := by decide +kernel
theorem dX5_kinds_111 : decode cX5_kinds 111 = .ok (.iload_n 3, 1) := by decide +kernel
theorem dX5_kinds_112 : decode cX5_kinds 112 = .ok (.invokevirtual 256, 3) := by decide +kernel
theorem dX5_kinds_115 : decode cX5_kinds 115 = .ok (.iconst (-1), 1) := by decide +kernel
theorem dX5_kinds_116 : decode cX5_kinds 116 = .ok (.if_icmp .ne 10, 3) := by decide +kernel
theorem dX5_kinds_119 : decode cX5_kinds 119 = .ok (.iconst 1, 1) := by decide +kernel
theorem dX5_kinds_120 : decode cX5_kinds 120 = .ok (.iload 9, 2) := by decide +kernel
theorem dX5_kinds_122 : decode cX5_kinds 122 = .ok (.ishl, 1) := by decide +kernel
theorem dX5_kinds_123 : decode cX5_kinds 123 = .ok (.goto 4, 3) := by decide +kernel
theorem dX5_kinds_126 : decode cX5_kinds 126 = .ok (.iconst 0, 1) := by decide +kernel
theorem dX5_kinds_127 : decode cX5_kinds 127 = .ok (.ior, 1) := by decide +kernel
theorem dX5_kinds_128 : decode cX5_kinds 128 = .ok (.istore 8, 2) := by decide +kernel
theorem dX5_kinds_130 : decode cX5_kinds 130 = .ok (.iinc 9 1, 3) := by decide +kernel
theorem dX5_kinds_133 : decode cX5_kinds 133 = .ok (.goto (-81), 3) := by decide +kernel
theorem dX5_kinds_136 : decode cX5_kinds 136 = .ok (.aload_n 0, 1) := by decide +kernel
theorem dX5_kinds_137 : decode cX5_kinds 137 = .ok (.getfield 7, 3) := by decide +kernel
theorem dX5_kinds_140 : decode cX5_kinds 140 = .ok (.iload_n 3, 1) := by decide +kernel
theorem dX5_kinds_141 : decode cX5_kinds 141 = .ok (.iload 6, 2) := by decide +kernel
theorem dX5_kinds_143 : decode cX5_kinds 143 = .ok (.iastore, 1) := by decide +kernel
theorem dX5_kinds_144 : decode cX5_kinds 144 = .ok (.aload_n 0, 1) := by decide +kernel
theorem dX5_kinds_145 : decode cX5_kinds 145 = .ok (.getfield 13, 3) := by decide +kernel
theorem dX5_kinds_148 : decode cX5_kinds 148 = .ok (.iload_n 3, 1) := by decide +kernel
theorem dX5_kinds_149 : decode cX5_kinds 149 = .ok (.iload 7, 2) := by decide +kernel
theorem dX5_kinds_151 : decode cX5_kinds 151 = .ok (.iastore, 1) := by decide +kernel
theorem dX5_kinds_152 : decode cX5_kinds 152 = .ok (.iload 8, 2) := by decide +kernel
theorem dX5_kinds_154 : decode cX5_kinds 154 = .ok (.ireturn, 1) := by decide +kernel
theorem dX5_states_0 : decode cX5_states 0 = .ok (.aload_n 0, 1) := by decide +kernel
theorem dX5_states_1 : decode cX5_states 1 = .ok (.iload_n 1, 1) := by decide +kernel
theorem dX5_states_2 : decode cX5_states 2 = .ok (.iload_n 2, 1) := by decide +kernel
theorem dX5_states_3 : decode cX5_states 3 = .ok (.iload_n 3, 1) := by decide +kernel
theorem dX5_states_4 : decode cX5_states 4 = .ok (.invokevirtual 253, 3) := by decide +kernel
theorem dX5_states_7 : decode cX5_states 7 = .ok (.istore 6, 2) := by decide +kernel
theorem dX5_states_9 : decode cX5_states 9 = .ok (.iload 6, 2) := by decide +kernel
theorem dX5_states_11 : decode cX5_states 11 = .ok (.ifCond .eq 6, 3) := by decide +kernel
theorem dX5_states_14 : decode cX5_states 14 = .ok (.iload 6, 2) := by decide +kernel
theorem dX5_states_16 : decode cX5_states 16 = .ok (.ireturn, 1) := by decide +kernel
theorem dX5_states_17 : decode cX5_states 17 = .ok (.iload 4, 2) := by decide +kernel
theorem dX5_states_19 : decode cX5_states 19 = .ok (.iconst 0, 1) := by decide +kernel
theorem dX5_states_20 : decode cX5_states 20 = .ok (.bipush 8, 2) := by decide +kernel
theorem dX5_states_22 : decode cX5_states 22 = .ok (.invokestatic 78, 3) := by decide +kernel
theorem dX5_states_25 : decode cX5_states 25 = .ok (.ifCond .eq 13, 3) := by decide +kernel
theorem dX5_states_28 : decode cX5_states 28 = .ok (.iload 5, 2) := by decide +kernel
theorem dX5_states_30 : decode cX5_states 30 = .ok (.iconst 0, 1) := by decide +kernel
theorem dX5_states_31 : decode cX5_states 31 = .ok (.iconst 1, 1) := by decide +kernel
theorem dX5_states_32 : decode cX5_states 32 = .ok (.invokestatic 78, 3) := by decide +kernel
theorem dX5_states_35 : decode cX5_states 35 = .ok (.ifCond .ne 6, 3) := by decide +kernel
theorem dX5_states_38 : decode cX5_states 38 = .ok (.bipush (-7), 2) := by decide +kernel
theorem dX5_states_40 : decode cX5_states 40 = .ok (.ireturn, 1) := by decide +kernel
theorem dX5_states_41 : decode cX5_states 41 = .ok (.aload_n 0, 1) := by decide +kernel
theorem dX5_states_42 : decode cX5_states 42 = .ok (.getfield 16, 3) := by decide +kernel
theorem dX5_states_45 : decode cX5_states 45 = .ok (.bipush 12, 2) := by decide +kernel
theorem dX5_states_47 : decode cX5_states 47 = .ok (.iload_n 3, 1) := by decide +kernel
theorem dX5_states_48 : decode cX5_states 48 = .ok (.imul, 1) := by decide +kernel
theorem dX5_states_49 : decode cX5_states 49 = .ok (.iload 4, 2) := by decide +kernel
theorem dX5_states_51 : decode cX5_states 51 = .ok (.iadd, 1) := by decide +kernel
theorem dX5_states_52 : decode cX5_states 52 = .ok (.iaload, 1) := by decide +kernel
theorem dX5_states_53 : decode cX5_states 53 = .ok (.istore 7, 2) := by decide +kernel
theorem dX5_states_55 : decode cX5_states 55 = .ok (.iconst 0, 1) := by decide +kernel
theorem dX5_states_56 : decode cX5_states 56 = .ok (.istore 8, 2) := by decide +kernel
theorem dX5_states_58 : decode cX5_states 58 = .ok (.iconst (-1), 1) := by decide +kernel
theorem dX5_states_59 : decode cX5_states 59 = .ok (.istore 9, 2) := by decide +kernel
theorem dX5_states_61 : decode cX5_states 61 = .ok (.iconst 0, 1) := by decide +kernel
theorem dX5_states_62 : decode cX5_states 62 = .ok (.istore 10, 2) := by decide +kernel
theorem dX5_states_64 : decode cX5_states 64 = .ok (.iload 10, 2) := by decide +kernel
theorem dX5_states_66 : decode cX5_states 66 = .ok (.iload 4, 2) := by decide +kernel
theorem dX5_states_68 : decode cX5_states 68 = .ok (.bipush 8, 2) := by decide +kernel
theorem dX5_states_70 : decode cX5_states 70 = .ok (.if_icmp .ne 8, 3) := by decide +kernel
theorem dX5_states_73 : decode cX5_states 73 = .ok (.bipush 99, 2) := by decide +kernel
theorem dX5_states_75 : decode cX5_states 75 = .ok (.goto 5, 3) := by decide +kernel
theorem dX5_states_78 : decode cX5_states 78 = .ok (.bipush 9, 2) := by decide +kernel
theorem dX5_states_80 : decode cX5_states 80 = .ok (.if_icmp .gt 76, 3) := by decide +kernel
theorem dX5_states_83 : decode cX5_states 83 = .ok (.aload_n 0, 1) := by decide +kernel
theorem dX5_states_84 : decode cX5_states 84 = .ok (.getfield 16, 3) := by decide +kernel
theorem dX5_states_87 : decode cX5_states 87 = .ok (.bipush 12, 2) := by decide +kernel
theorem dX5_states_89 : decode cX5_states 89 = .ok (.iload_n 3, 1) := by decide +kernel
theorem dX5_states_90 : decode cX5_states 90 = .ok (.imul, 1) := by decide +kernel
theorem dX5_states_91 : decode cX5_states 91 = .ok (.iload 4, 2) := by decide +kernel
theorem dX5_states_93 : decode cX5_states 93 = .ok (.iadd, 1) := by decide +kernel
theorem dX5_states_94 : decode cX5_states 94 = .ok (.iload 10, 2) := by decide +kernel
theorem dX5_states_96 : decode cX5_states 96 = .ok (.iastore, 1) := by decide +kernel
theorem dX5_states_97 : decode cX5_states 97 = .ok (.aload_n 0, 1) := by decide +kernel
theorem dX5_states_98 : decode cX5_states 98 = .ok (.iload_n 1, 1) := by decide +kernel
theorem dX5_states_99 : decode cX5_states 99 = .ok (.iload_n 2, 1) := by decide +kernel
theorem dX5_states_100 : decode cX5_states 100 = .ok (.iload_n 3, 1) := by decide +kernel
theorem dX5_states_101 : decode cX5_states 101 = .ok (.invokevirtual 256, 3) := by decide +kernel
theorem dX5_states_104 : decode cX5_states 104 = .ok (.iconst (-1), 1) := by decide +kernel
theorem dX5_states_105 : decode cX5_states 105 = .ok (.if_icmp .ne 7, 3) := by decide +kernel
theorem dX5_states_108 : decode cX5_states 108 = .ok (.iconst 1, 1) := by decide +kernel
theorem dX5_states_109 : decode cX5_states 109 = .ok (.goto 4, 3) := by decide +kernel
theorem dX5_states_112 : decode cX5_states 112 = .ok (.iconst 0, 1) := by decide +kernel
theorem dX5_states_113 : decode cX5_states 113 = .ok (.istore 11, 2) := by decide +kernel
theorem dX5_states_115 : decode cX5_states 115 = .ok (.iload 8, 2) := by decide +kernel
theorem dX5_states_117 : decode cX5_states 117 = .ok (.iload 11, 2) := by decide +kernel
theorem dX5_states_119 : decode cX5_states 119 = .ok (.ifCond .eq 7, 3) := by decide +kernel
theorem dX5_states_122 : decode cX5_states 122 = .ok (.iconst 1, 1) := by decide +kernel
theorem dX5_states_123 : decode cX5_states 123 = .ok (.goto 4, 3) := by decide +kernel
theorem dX5_states_126 : decode cX5_states 126 = .ok (.iconst 0, 1) := by decide +kernel
theorem dX5_states_127 : decode cX5_states 127 = .ok (.iadd, 1) := by decide +kernel
theorem dX5_states_128 : decode cX5_states 128 = .ok (.istore 8, 2) := by decide +kernel
theorem dX5_states_130 : decode cX5_states 130 = .ok (.iload 11, 2) := by decide +kernel
theorem dX5_states_132 : decode cX5_states 132 = .ok (.ifCond .eq 14, 3) := by decide +kernel
theorem dX5_states_135 : decode cX5_states 135 = .ok (.iload 9, 2) := by decide +kernel
theorem dX5_states_137 : decode cX5_states 137 = .ok (.iconst (-1), 1) := by decide +kernel
theorem dX5_states_138 : decode cX5_states 138 = .ok (.if_icmp .ne 8, 3) := by decide +kernel
theorem dX5_states_141 : decode cX5_states 141 = .ok (.iload 10, 2) := by decide +kernel
theorem dX5_states_143 : decode cX5_states 143 = .ok (.goto 5, 3) := by decide +kernel
theorem dX5_states_146 : decode cX5_states 146 = .ok (.iload 9, 2) := by decide +kernel
theorem dX5_states_148 : decode cX5_states 148 = .ok (.istore 9, 2) := by decide +kernel
theorem dX5_states_150 : decode cX5_states 150 = .ok (.iinc 10 1, 3) := by decide +kernel
theorem dX5_states_153 : decode cX5_states 153 = .ok (.goto (-89), 3) := by decide +kernel
theorem dX5_states_156 : decode cX5_states 156 = .ok (.aload_n 0, 1) := by decide +kernel
theorem dX5_states_157 : decode cX5_states 157 = .ok (.getfield 16, 3) := by decide +kernel
theorem dX5_states_160 : decode cX5_states 160 = .ok (.bipush 12, 2) := by decide +kernel
theorem dX5_states_162 : decode cX5_states 162 = .ok (.iload_n 3, 1) := by decide +kernel
theorem dX5_states_163 : decode cX5_states 163 = .ok (.imul, 1) := by decide +kernel
theorem dX5_states_164 : decode cX5_states 164 = .ok (.iload 4, 2) := by decide +kernel
theorem dX5_states_166 : decode cX5_states 166 = .ok (.iadd, 1) := by decide +kernel
theorem dX5_states_167 : decode cX5_states 167 = .ok (.iload 7, 2) := by decide +kernel
theorem dX5_states_169 : decode cX5_states 169 = .ok (.iastore, 1) := by decide +kernel
theorem dX5_states_170 : decode cX5_states 170 = .ok (.iload 5, 2) := by decide +kernel
theorem dX5_states_172 : decode cX5_states 172 = .ok (.ifCond .ne 8, 3) := by decide +kernel
theorem dX5_states_175 : decode cX5_states 175 = .ok (.iload 8, 2) := by decide +kernel
theorem dX5_states_177 : decode cX5_states 177 = .ok (.goto 5, 3) := by decide +kernel
theorem dX5_states_180 : decode cX5_states 180 = .ok (.iload 9, 2) := by decide +kernel
theorem dX5_states_182 : decode cX5_states 182 = .ok (.ireturn, 1) := by decide +kernel
theorem dX5_whose_0 : decode cX5_whose 0 = .ok (.aload_n 0, 1) := by decide +kernel
theorem dX5_whose_1 : decode cX5_whose 1 = .ok (.iload_n 1, 1) := by decide +kernel
theorem dX5_whose_2 : decode cX5_whose 2 = .ok (.iload_n 2, 1) := by decide +kernel
theorem dX5_whose_3 : decode cX5_whose 3 = .ok (.invokevirtual 250, 3) := by decide +kernel
theorem dX5_whose_6 : decode cX5_whose 6 = .ok (.istore_n 3, 1) := by decide +kernel
theorem dX5_whose_7 : decode cX5_whose 7 = .ok (.iload_n 3, 1) := by decide +kernel
theorem dX5_whose_8 : decode cX5_whose 8 = .ok (.ifCond .eq 5, 3) := by decide +kernel
theorem dX5_whose_11 : decode cX5_whose 11 = .ok (.iload_n 3, 1) := by decide +kernel
theorem dX5_whose_12 : decode cX5_whose 12 = .ok (.ireturn, 1) := by decide +kernel
theorem dX5_whose_13 : decode cX5_whose 13 = .ok (.iconst 0, 1) := by decide +kernel
theorem dX5_whose_14 : decode cX5_whose 14 = .ok (.istore 4, 2) := by decide +kernel
theorem dX5_whose_16 : decode cX5_whose 16 = .ok (.iconst 0, 1) := by decide +kernel
theorem dX5_whose_17 : decode cX5_whose 17 = .ok (.istore 5, 2) := by decide +kernel
theorem dX5_whose_19 : decode cX5_whose 19 = .ok (.iload 5, 2) := by decide +kernel
theorem dX5_whose_21 : decode cX5_whose 21 = .ok (.aload_n 0, 1) := by decide +kernel
theorem dX5_whose_22 : decode cX5_whose 22 = .ok (.getfield 75, 3) := by decide +kernel
theorem dX5_whose_25 : decode cX5_whose 25 = .ok (.if_icmp .ge 34, 3) := by decide +kernel
theorem dX5_whose_28 : decode cX5_whose 28 = .ok (.iload 4, 2) := by decide +kernel
theorem dX5_whose_30 : decode cX5_whose 30 = .ok (.aload_n 0, 1) := by decide +kernel
theorem dX5_whose_31 : decode cX5_whose 31 = .ok (.iload_n 1, 1) := by decide +kernel
theorem dX5_whose_32 : decode cX5_whose 32 = .ok (.iload_n 2, 1) := by decide +kernel
theorem dX5_whose_33 : decode cX5_whose 33 = .ok (.iload 5, 2) := by decide +kernel
theorem dX5_whose_35 : decode cX5_whose 35 = .ok (.invokevirtual 256, 3) := by decide +kernel
theorem dX5_whose_38 : decode cX5_whose 38 = .ok (.iconst (-1), 1) := by decide +kernel
theorem dX5_whose_39 : decode cX5_whose 39 = .ok (.if_icmp .ne 10, 3) := by decide +kernel
theorem dX5_whose_42 : decode cX5_whose 42 = .ok (.iconst 1, 1) := by decide +kernel
theorem dX5_whose_43 : decode cX5_whose 43 = .ok (.iload 5, 2) := by decide +kernel
theorem dX5_whose_45 : decode cX5_whose 45 = .ok (.ishl, 1) := by decide +kernel
theorem dX5_whose_46 : decode cX5_whose 46 = .ok (.goto 4, 3) := by decide +kernel
theorem dX5_whose_49 : decode cX5_whose 49 = .ok (.iconst 0, 1) := by decide +kernel
theorem dX5_whose_50 : decode cX5_whose 50 = .ok (.ior, 1) := by decide +kernel
theorem dX5_whose_51 : decode cX5_whose 51 = .ok (.istore 4, 2) := by decide +kernel
theorem dX5_whose_53 : decode cX5_whose 53 = .ok (.iinc 5 1, 3) := by decide +kernel
theorem dX5_whose_56 : decode cX5_whose 56 = .ok (.goto (-37), 3) := by decide +kernel
theorem dX5_whose_59 : decode cX5_whose 59 = .ok (.iload 4, 2) := by decide +kernel
theorem dX5_whose_61 : decode cX5_whose 61 = .ok (.ireturn, 1) := by decide +kernel
theorem dX5_laws_0 : decode cX5_laws 0 = .ok (.aload_n 0, 1) := by decide +kernel
theorem dX5_laws_1 : decode cX5_laws 1 = .ok (.iload_n 1, 1) := by decide +kernel
theorem dX5_laws_2 : decode cX5_laws 2 = .ok (.iload_n 2, 1) := by decide +kernel
theorem dX5_laws_3 : decode cX5_laws 3 = .ok (.iload_n 3, 1) := by decide +kernel
theorem dX5_laws_4 : decode cX5_laws 4 = .ok (.invokevirtual 253, 3) := by decide +kernel
theorem dX5_laws_7 : decode cX5_laws 7 = .ok (.istore 4, 2) := by decide +kernel
theorem dX5_laws_9 : decode cX5_laws 9 = .ok (.iload 4, 2) := by decide +kernel
theorem dX5_laws_11 : decode cX5_laws 11 = .ok (.ifCond .eq 6, 3) := by decide +kernel
theorem dX5_laws_14 : decode cX5_laws 14 = .ok (.iload 4, 2) := by decide +kernel
theorem dX5_laws_16 : decode cX5_laws 16 = .ok (.ireturn, 1) := by decide +kernel
theorem dX5_laws_17 : decode cX5_laws 17 = .ok (.aload_n 0, 1) := by decide +kernel
theorem dX5_laws_18 : decode cX5_laws 18 = .ok (.getfield 99, 3) := by decide +kernel
theorem dX5_laws_21 : decode cX5_laws 21 = .ok (.istore 5, 2) := by decide +kernel
theorem dX5_laws_23 : decode cX5_laws 23 = .ok (.iconst 0, 1) := by decide +kernel
theorem dX5_laws_24 : decode cX5_laws 24 = .ok (.istore 6, 2) := by decide +kernel
theorem dX5_laws_26 : decode cX5_laws 26 = .ok (.iconst 0, 1) := by decide +kernel
theorem dX5_laws_27 : decode cX5_laws 27 = .ok (.istore 7, 2) := by decide +kernel
theorem dX5_laws_29 : decode cX5_laws 29 = .ok (.iload 7, 2) := by decide +kernel
theorem dX5_laws_31 : decode cX5_laws 31 = .ok (.aload_n 0, 1) := by decide +kernel
theorem dX5_laws_32 : decode cX5_laws 32 = .ok (.getfield 96, 3) := by decide +kernel
theorem dX5_laws_35 : decode cX5_laws 35 = .ok (.if_icmp .ge 39, 3) := by decide +kernel
theorem dX5_laws_38 : decode cX5_laws 38 = .ok (.aload_n 0, 1) := by decide +kernel
theorem dX5_laws_39 : decode cX5_laws 39 = .ok (.iload 7, 2) := by decide +kernel
theorem dX5_laws_41 : decode cX5_laws 41 = .ok (.putfield 99, 3) := by decide +kernel
theorem dX5_laws_44 : decode cX5_laws 44 = .ok (.iload 6, 2) := by decide +kernel
theorem dX5_laws_46 : decode cX5_laws 46 = .ok (.aload_n 0, 1) := by decide +kernel
theorem dX5_laws_47 : decode cX5_laws 47 = .ok (.iload_n 1, 1) := by decide +kernel
theorem dX5_laws_48 : decode cX5_laws 48 = .ok (.iload_n 2, 1) := by decide +kernel
theorem dX5_laws_49 : decode cX5_laws 49 = .ok (.iload_n 3, 1) := by decide +kernel
theorem dX5_laws_50 : decode cX5_laws 50 = .ok (.invokevirtual 256, 3) := by decide +kernel
theorem dX5_laws_53 : decode cX5_laws 53 = .ok (.iconst (-1), 1) := by decide +kernel
theorem dX5_laws_54 : decode cX5_laws 54 = .ok (.if_icmp .ne 10, 3) := by decide +kernel
theorem dX5_laws_57 : decode cX5_laws 57 = .ok (.iconst 1, 1) := by decide +kernel
theorem dX5_laws_58 : decode cX5_laws 58 = .ok (.iload 7, 2) := by decide +kernel
theorem dX5_laws_60 : decode cX5_laws 60 = .ok (.ishl, 1) := by decide +kernel
theorem dX5_laws_61 : decode cX5_laws 61 = .ok (.goto 4, 3) := by decide +kernel
theorem dX5_laws_64 : decode cX5_laws 64 = .ok (.iconst 0, 1) := by decide +kernel
theorem dX5_laws_65 : decode cX5_laws 65 = .ok (.ior, 1) := by decide +kernel
theorem dX5_laws_66 : decode cX5_laws 66 = .ok (.istore 6, 2) := by decide +kernel
theorem dX5_laws_68 : decode cX5_laws 68 = .ok (.iinc 7 1, 3) := by decide +kernel
theorem dX5_laws_71 : decode cX5_laws 71 = .ok (.goto (-42), 3) := by decide +kernel
theorem dX5_laws_74 : decode cX5_laws 74 = .ok (.aload_n 0, 1) := by decide +kernel
theorem dX5_laws_75 : decode cX5_laws 75 = .ok (.iload 5, 2) := by decide +kernel
theorem dX5_laws_77 : decode cX5_laws 77 = .ok (.putfield 99, 3) := by decide +kernel
theorem dX5_laws_80 : decode cX5_laws 80 = .ok (.iload 6, 2) := by decide +kernel
theorem dX5_laws_82 : decode cX5_laws 82 = .ok (.ireturn, 1) := by decide +kernel
theorem dX5_film_0 : decode cX5_film 0 = .ok (.iload_n 2, 1) := by decide +kernel
theorem dX5_film_1 : decode cX5_film 1 = .ok (.iconst 0, 1) := by decide +kernel
theorem dX5_film_2 : decode cX5_film 2 = .ok (.iconst 3, 1) := by decide +kernel
theorem dX5_film_3 : decode cX5_film 3 = .ok (.invokestatic 78, 3) := by decide +kernel
theorem dX5_film_6 : decode cX5_film 6 = .ok (.ifCond .eq 8, 3) := by decide +kernel
theorem dX5_film_9 : decode cX5_film 9 = .ok (.iload_n 1, 1) := by decide +kernel
theorem dX5_film_10 : decode cX5_film 10 = .ok (.iload_n 2, 1) := by decide +kernel
theorem dX5_film_11 : decode cX5_film 11 = .ok (.if_icmp .ne 6, 3) := by decide +kernel
theorem dX5_film_14 : decode cX5_film 14 = .ok (.bipush (-2), 2) := by decide +kernel
theorem dX5_film_16 : decode cX5_film 16 = .ok (.ireturn, 1) := by decide +kernel
theorem dX5_film_17 : decode cX5_film 17 = .ok (.aload_n 0, 1) := by decide +kernel
theorem dX5_film_18 : decode cX5_film 18 = .ok (.iload_n 1, 1) := by decide +kernel
theorem dX5_film_19 : decode cX5_film 19 = .ok (.invokevirtual 211, 3) := by decide +kernel
theorem dX5_film_22 : decode cX5_film 22 = .ok (.istore 4, 2) := by decide +kernel
theorem dX5_film_24 : decode cX5_film 24 = .ok (.iload 4, 2) := by decide +kernel
theorem dX5_film_26 : decode cX5_film 26 = .ok (.ifCond .eq 6, 3) := by decide +kernel
theorem dX5_film_29 : decode cX5_film 29 = .ok (.iload 4, 2) := by decide +kernel
theorem dX5_film_31 : decode cX5_film 31 = .ok (.ireturn, 1) := by decide +kernel
theorem dX5_film_32 : decode cX5_film 32 = .ok (.aload_n 0, 1) := by decide +kernel
theorem dX5_film_33 : decode cX5_film 33 = .ok (.iload_n 3, 1) := by decide +kernel
theorem dX5_film_34 : decode cX5_film 34 = .ok (.invokevirtual 170, 3) := by decide +kernel
theorem dX5_film_37 : decode cX5_film 37 = .ok (.ifCond .ne 6, 3) := by decide +kernel
theorem dX5_film_40 : decode cX5_film 40 = .ok (.bipush (-5), 2) := by decide +kernel
theorem dX5_film_42 : decode cX5_film 42 = .ok (.ireturn, 1) := by decide +kernel
theorem dX5_film_43 : decode cX5_film 43 = .ok (.aload_n 0, 1) := by decide +kernel
theorem dX5_film_44 : decode cX5_film 44 = .ok (.getfield 34, 3) := by decide +kernel
theorem dX5_film_47 : decode cX5_film 47 = .ok (.iload_n 2, 1) := by decide +kernel
theorem dX5_film_48 : decode cX5_film 48 = .ok (.iconst 0, 1) := by decide +kernel
theorem dX5_film_49 : decode cX5_film 49 = .ok (.iastore, 1) := by decide +kernel
theorem dX5_film_50 : decode cX5_film 50 = .ok (.aload_n 0, 1) := by decide +kernel
theorem dX5_film_51 : decode cX5_film 51 = .ok (.getfield 37, 3) := by decide +kernel
theorem dX5_film_54 : decode cX5_film 54 = .ok (.iload_n 2, 1) := by decide +kernel
theorem dX5_film_55 : decode cX5_film 55 = .ok (.aload_n 0, 1) := by decide +kernel
theorem dX5_film_56 : decode cX5_film 56 = .ok (.getfield 37, 3) := by decide +kernel
theorem dX5_film_59 : decode cX5_film 59 = .ok (.iload_n 1, 1) := by decide +kernel
theorem dX5_film_60 : decode cX5_film 60 = .ok (.iaload, 1) := by decide +kernel
theorem dX5_film_61 : decode cX5_film 61 = .ok (.iastore, 1) := by decide +kernel
theorem dX5_film_62 : decode cX5_film 62 = .ok (.aload_n 0, 1) := by decide +kernel
theorem dX5_film_63 : decode cX5_film 63 = .ok (.invokevirtual 214, 3) := by decide +kernel
theorem dX5_film_66 : decode cX5_film 66 = .ok (.iconst 0, 1) := by decide +kernel
theorem dX5_film_67 : decode cX5_film 67 = .ok (.istore 5, 2) := by decide +kernel
theorem dX5_film_69 : decode cX5_film 69 = .ok (.iload 5, 2) := by decide +kernel
theorem dX5_film_71 : decode cX5_film 71 = .ok (.bipush 40, 2) := by decide +kernel
theorem dX5_film_73 : decode cX5_film 73 = .ok (.if_icmp .ge 79, 3) := by decide +kernel
theorem dX5_film_76 : decode cX5_film 76 = .ok (.aload_n 0, 1) := by decide +kernel
theorem dX5_film_77 : decode cX5_film 77 = .ok (.getfield 40, 3) := by decide +kernel
theorem dX5_film_80 : decode cX5_film 80 = .ok (.bipush 40, 2) := by decide +kernel
theorem dX5_film_82 : decode cX5_film 82 = .ok (.iload_n 2, 1) := by decide +kernel
theorem dX5_film_83 : decode cX5_film 83 = .ok (.imul, 1) := by decide +kernel
theorem dX5_film_84 : decode cX5_film 84 = .ok (.iload 5, 2) := by decide +kernel
theorem dX5_film_86 : decode cX5_film 86 = .ok (.iadd, 1) := by decide +kernel
theorem dX5_film_87 : decode cX5_film 87 = .ok (.iconst 0, 1) := by decide +kernel
theorem dX5_film_88 : decode cX5_film 88 = .ok (.iastore, 1) := by decide +kernel
theorem dX5_film_89 : decode cX5_film 89 = .ok (.iload 5, 2) := by decide +kernel
theorem dX5_film_91 : decode cX5_film 91 = .ok (.aload_n 0, 1) := by decide +kernel
theorem dX5_film_92 : decode cX5_film 92 = .ok (.getfield 37, 3) := by decide +kernel
theorem dX5_film_95 : decode cX5_film 95 = .ok (.iload_n 1, 1) := by decide +kernel
theorem dX5_film_96 : decode cX5_film 96 = .ok (.iaload, 1) := by decide +kernel
theorem dX5_film_97 : decode cX5_film 97 = .ok (.if_icmp .ge 49, 3) := by decide +kernel
theorem dX5_film_100 : decode cX5_film 100 = .ok (.aload_n 0, 1) := by decide +kernel
theorem dX5_film_101 : decode cX5_film 101 = .ok (.aload_n 0, 1) := by decide +kernel
theorem dX5_film_102 : decode cX5_film 102 = .ok (.getfield 40, 3) := by decide +kernel
theorem dX5_film_105 : decode cX5_film 105 = .ok (.bipush 40, 2) := by decide +kernel
theorem dX5_film_107 : decode cX5_film 107 = .ok (.iload_n 1, 1) := by decide +kernel
theorem dX5_film_108 : decode cX5_film 108 = .ok (.imul, 1) := by decide +kernel
theorem dX5_film_109 : decode cX5_film 109 = .ok (.iload 5, 2) := by decide +kernel
theorem dX5_film_111 : decode cX5_film 111 = .ok (.iadd, 1) := by decide +kernel
theorem dX5_film_112 : decode cX5_film 112 = .ok (.iaload, 1) := by decide +kernel
theorem dX5_film_113 : decode cX5_film 113 = .ok (.invokevirtual 208, 3) := by decide +kernel
theorem dX5_film_116 : decode cX5_film 116 = .ok (.pop, 1) := by decide +kernel
theorem dX5_film_117 : decode cX5_film 117 = .ok (.aload_n 0, 1) := by decide +kernel
theorem dX5_film_118 : decode cX5_film 118 = .ok (.invokevirtual 199, 3) := by decide +kernel
theorem dX5_film_121 : decode cX5_film 121 = .ok (.pop, 1) := by decide +kernel
theorem dX5_film_122 : decode cX5_film 122 = .ok (.aload_n 0, 1) := by decide +kernel
theorem dX5_film_123 : decode cX5_film 123 = .ok (.getfield 40, 3) := by decide +kernel
theorem dX5_film_126 : decode cX5_film 126 = .ok (.bipush 40, 2) := by decide +kernel
theorem dX5_film_128 : decode cX5_film 128 = .ok (.iload_n 2, 1) := by decide +kernel
theorem dX5_film_129 : decode cX5_film 129 = .ok (.imul, 1) := by decide +kernel
theorem dX5_film_130 : decode cX5_film 130 = .ok (.iload 5, 2) := by decide +kernel
theorem dX5_film_132 : decode cX5_film 132 = .ok (.iadd, 1) := by decide +kernel
theorem dX5_film_133 : decode cX5_film 133 = .ok (.aload_n 0, 1) := by decide +kernel
theorem dX5_film_134 : decode cX5_film 134 = .ok (.getfield 16, 3) := by decide +kernel
theorem dX5_film_137 : decode cX5_film 137 = .ok (.bipush 12, 2) := by decide +kernel
theorem dX5_film_139 : decode cX5_film 139 = .ok (.iload_n 3, 1) := by decide +kernel
theorem dX5_film_140 : decode cX5_film 140 = .ok (.imul, 1) := by decide +kernel
theorem dX5_film_141 : decode cX5_film 141 = .ok (.bipush 8, 2) := by decide +kernel
theorem dX5_film_143 : decode cX5_film 143 = .ok (.iadd, 1) := by decide +kernel
theorem dX5_film_144 : decode cX5_film 144 = .ok (.iaload, 1) := by decide +kernel
theorem dX5_film_145 : decode cX5_film 145 = .ok (.iastore, 1) := by decide +kernel
theorem dX5_film_146 : decode cX5_film 146 = .ok (.iinc 5 1, 3) := by decide +kernel
theorem dX5_film_149 : decode cX5_film 149 = .ok (.goto (-80), 3) := by decide +kernel
theorem dX5_film_152 : decode cX5_film 152 = .ok (.aload_n 0, 1) := by decide +kernel
theorem dX5_film_153 : decode cX5_film 153 = .ok (.invokevirtual 220, 3) := by decide +kernel
theorem dX5_film_156 : decode cX5_film 156 = .ok (.aload_n 0, 1) := by decide +kernel
theorem dX5_film_157 : decode cX5_film 157 = .ok (.getfield 37, 3) := by decide +kernel
theorem dX5_film_160 : decode cX5_film 160 = .ok (.iload_n 1, 1) := by decide +kernel
theorem dX5_film_161 : decode cX5_film 161 = .ok (.iaload, 1) := by decide +kernel
theorem dX5_film_162 : decode cX5_film 162 = .ok (.ireturn, 1) := by decide +kernel
theorem dX5_lotEvening_0 : decode cX5_lotEvening 0 = .ok (.iload_n 1, 1) := by decide +kernel
theorem dX5_lotEvening_1 : decode cX5_lotEvening 1 = .ok (.i2l, 1) := by decide +kernel
theorem dX5_lotEvening_2 : decode cX5_lotEvening 2 = .ok (.lconst 1, 1) := by decide +kernel
theorem dX5_lotEvening_3 : decode cX5_lotEvening 3 = .ok (.ladd, 1) := by decide +kernel
theorem dX5_lotEvening_4 : decode cX5_lotEvening 4 = .ok (.lstore_n 3, 1) := by decide +kernel
theorem dX5_lotEvening_5 : decode cX5_lotEvening 5 = .ok (.aload_n 0, 1) := by decide +kernel
theorem dX5_lotEvening_6 : decode cX5_lotEvening 6 = .ok (.iconst 0, 1) := by decide +kernel
theorem dX5_lotEvening_7 : decode cX5_lotEvening 7 = .ok (.putfield 259, 3) := by decide +kernel
theorem dX5_lotEvening_10 : decode cX5_lotEvening 10 = .ok (.aload_n 0, 1) := by decide +kernel
theorem dX5_lotEvening_11 : decode cX5_lotEvening 11 = .ok (.invokevirtual 214, 3) := by decide +kernel
theorem dX5_lotEvening_14 : decode cX5_lotEvening 14 = .ok (.iconst 0, 1) := by decide +kernel
theorem dX5_lotEvening_15 : decode cX5_lotEvening 15 = .ok (.istore 5, 2) := by decide +kernel
theorem dX5_lotEvening_17 : decode cX5_lotEvening 17 = .ok (.iload 5, 2) := by decide +kernel
theorem dX5_lotEvening_19 : decode cX5_lotEvening 19 = .ok (.iload_n 2, 1) := by decide +kernel
theorem dX5_lotEvening_20 : decode cX5_lotEvening 20 = .ok (.if_icmp .ge 88, 3) := by decide +kernel
theorem dX5_lotEvening_23 : decode cX5_lotEvening 23 = .ok (.lload_n 3, 1) := by decide +kernel
theorem dX5_lotEvening_24 : decode cX5_lotEvening 24 = .ok (.ldc2_w 262, 3) := by decide +kernel
theorem dX5_lotEvening_27 : decode cX5_lotEvening 27 = .ok (.lmul, 1) := by decide +kernel
theorem dX5_lotEvening_28 : decode cX5_lotEvening 28 = .ok (.ldc2_w 264, 3) := by decide +kernel
theorem dX5_lotEvening_31 : decode cX5_lotEvening 31 = .ok (.lrem, 1) := by decide +kernel
theorem dX5_lotEvening_32 : decode cX5_lotEvening 32 = .ok (.lstore_n 3, 1) := by decide +kernel
theorem dX5_lotEvening_33 : decode cX5_lotEvening 33 = .ok (.lload_n 3, 1) := by decide +kernel
theorem dX5_lotEvening_34 : decode cX5_lotEvening 34 = .ok (.ldc2_w 266, 3) := by decide +kernel
theorem dX5_lotEvening_37 : decode cX5_lotEvening 37 = .ok (.lrem, 1) := by decide +kernel
theorem dX5_lotEvening_38 : decode cX5_lotEvening 38 = .ok (.l2i, 1) := by decide +kernel
theorem dX5_lotEvening_39 : decode cX5_lotEvening 39 = .ok (.istore 6, 2) := by decide +kernel
theorem dX5_lotEvening_41 : decode cX5_lotEvening 41 = .ok (.lload_n 3, 1) := by decide +kernel
theorem dX5_lotEvening_42 : decode cX5_lotEvening 42 = .ok (.ldc2_w 262, 3) := by decide +kernel
theorem dX5_lotEvening_45 : decode cX5_lotEvening 45 = .ok (.lmul, 1) := by decide +kernel
theorem dX5_lotEvening_46 : decode cX5_lotEvening 46 = .ok (.ldc2_w 264, 3) := by decide +kernel
theorem dX5_lotEvening_49 : decode cX5_lotEvening 49 = .ok (.lrem, 1) := by decide +kernel
theorem dX5_lotEvening_50 : decode cX5_lotEvening 50 = .ok (.lstore_n 3, 1) := by decide +kernel
theorem dX5_lotEvening_51 : decode cX5_lotEvening 51 = .ok (.lload_n 3, 1) := by decide +kernel
theorem dX5_lotEvening_52 : decode cX5_lotEvening 52 = .ok (.ldc2_w 268, 3) := by decide +kernel
theorem dX5_lotEvening_55 : decode cX5_lotEvening 55 = .ok (.lrem, 1) := by decide +kernel
theorem dX5_lotEvening_56 : decode cX5_lotEvening 56 = .ok (.l2i, 1) := by decide +kernel
theorem dX5_lotEvening_57 : decode cX5_lotEvening 57 = .ok (.istore 7, 2) := by decide +kernel
theorem dX5_lotEvening_59 : decode cX5_lotEvening 59 = .ok (.iload 6, 2) := by decide +kernel
theorem dX5_lotEvening_61 : decode cX5_lotEvening 61 = .ok (.aload_n 0, 1) := by decide +kernel
theorem dX5_lotEvening_62 : decode cX5_lotEvening 62 = .ok (.getfield 75, 3) := by decide +kernel
theorem dX5_lotEvening_65 : decode cX5_lotEvening 65 = .ok (.if_icmp .ge 32, 3) := by decide +kernel
theorem dX5_lotEvening_68 : decode cX5_lotEvening 68 = .ok (.aload_n 0, 1) := by decide +kernel
theorem dX5_lotEvening_69 : decode cX5_lotEvening 69 = .ok (.dup, 1) := by decide +kernel
theorem dX5_lotEvening_70 : decode cX5_lotEvening 70 = .ok (.getfield 259, 3) := by decide +kernel
theorem dX5_lotEvening_73 : decode cX5_lotEvening 73 = .ok (.aload_n 0, 1) := by decide +kernel
theorem dX5_lotEvening_74 : decode cX5_lotEvening 74 = .ok (.bipush 10, 2) := by decide +kernel
theorem dX5_lotEvening_76 : decode cX5_lotEvening 76 = .ok (.iload 6, 2) := by decide +kernel
theorem dX5_lotEvening_78 : decode cX5_lotEvening 78 = .ok (.imul, 1) := by decide +kernel
theorem dX5_lotEvening_79 : decode cX5_lotEvening 79 = .ok (.iload 7, 2) := by decide +kernel
theorem dX5_lotEvening_81 : decode cX5_lotEvening 81 = .ok (.iadd, 1) := by decide +kernel
theorem dX5_lotEvening_82 : decode cX5_lotEvening 82 = .ok (.invokevirtual 208, 3) := by decide +kernel
theorem dX5_lotEvening_85 : decode cX5_lotEvening 85 = .ok (.ifCond .eq 7, 3) := by decide +kernel
theorem dX5_lotEvening_88 : decode cX5_lotEvening 88 = .ok (.iconst 1, 1) := by decide +kernel
theorem dX5_lotEvening_89 : decode cX5_lotEvening 89 = .ok (.goto 4, 3) := by decide +kernel
theorem dX5_lotEvening_92 : decode cX5_lotEvening 92 = .ok (.iconst 0, 1) := by decide +kernel
theorem dX5_lotEvening_93 : decode cX5_lotEvening 93 = .ok (.iadd, 1) := by decide +kernel
theorem dX5_lotEvening_94 : decode cX5_lotEvening 94 = .ok (.putfield 259, 3) := by decide +kernel
theorem dX5_lotEvening_97 : decode cX5_lotEvening 97 = .ok (.aload_n 0, 1) := by decide +kernel
theorem dX5_lotEvening_98 : decode cX5_lotEvening 98 = .ok (.invokevirtual 199, 3) := by decide +kernel
theorem dX5_lotEvening_101 : decode cX5_lotEvening 101 = .ok (.pop, 1) := by decide +kernel
theorem dX5_lotEvening_102 : decode cX5_lotEvening 102 = .ok (.iinc 5 1, 3) := by decide +kernel
theorem dX5_lotEvening_105 : decode cX5_lotEvening 105 = .ok (.goto (-88), 3) := by decide +kernel
theorem dX5_lotEvening_108 : decode cX5_lotEvening 108 = .ok (.aload_n 0, 1) := by decide +kernel
theorem dX5_lotEvening_109 : decode cX5_lotEvening 109 = .ok (.invokevirtual 235, 3) := by decide +kernel
theorem dX5_lotEvening_112 : decode cX5_lotEvening 112 = .ok (.istore 5, 2) := by decide +kernel
theorem dX5_lotEvening_114 : decode cX5_lotEvening 114 = .ok (.aload_n 0, 1) := by decide +kernel
theorem dX5_lotEvening_115 : decode cX5_lotEvening 115 = .ok (.invokevirtual 220, 3) := by decide +kernel
theorem dX5_lotEvening_118 : decode cX5_lotEvening 118 = .ok (.iload 5, 2) := by decide +kernel
theorem dX5_lotEvening_120 : decode cX5_lotEvening 120 = .ok (.ireturn, 1) := by decide +kernel
theorem dX5_drawn_0 : decode cX5_drawn 0 = .ok (.iload_n 1, 1) := by decide +kernel
theorem dX5_drawn_1 : decode cX5_drawn 1 = .ok (.iconst 0, 1) := by decide +kernel
theorem dX5_drawn_2 : decode cX5_drawn 2 = .ok (.ldc_w 270, 3) := by decide +kernel
theorem dX5_drawn_5 : decode cX5_drawn 5 = .ok (.invokestatic 78, 3) := by decide +kernel
theorem dX5_drawn_8 : decode cX5_drawn 8 = .ok (.ifCond .eq 22, 3) := by decide +kernel
theorem dX5_drawn_11 : decode cX5_drawn 11 = .ok (.iload_n 2, 1) := by decide +kernel
theorem dX5_drawn_12 : decode cX5_drawn 12 = .ok (.iconst 0, 1) := by decide +kernel
theorem dX5_drawn_13 : decode cX5_drawn 13 = .ok (.bipush 60, 2) := by decide +kernel
theorem dX5_drawn_15 : decode cX5_drawn 15 = .ok (.invokestatic 78, 3) := by decide +kernel
theorem dX5_drawn_18 : decode cX5_drawn 18 = .ok (.ifCond .eq 12, 3) := by decide +kernel
theorem dX5_drawn_21 : decode cX5_drawn 21 = .ok (.iload_n 3, 1) := by decide +kernel
theorem dX5_drawn_22 : decode cX5_drawn 22 = .ok (.iconst 0, 1) := by decide +kernel
theorem dX5_drawn_23 : decode cX5_drawn 23 = .ok (.iconst 1, 1) := by decide +kernel
theorem dX5_drawn_24 : decode cX5_drawn 24 = .ok (.invokestatic 78, 3) := by decide +kernel
theorem dX5_drawn_27 : decode cX5_drawn 27 = .ok (.ifCond .ne 6, 3) := by decide +kernel
theorem dX5_drawn_30 : decode cX5_drawn 30 = .ok (.bipush (-2), 2) := by decide +kernel
theorem dX5_drawn_32 : decode cX5_drawn 32 = .ok (.ireturn, 1) := by decide +kernel
theorem dX5_drawn_33 : decode cX5_drawn 33 = .ok (.aload_n 0, 1) := by decide +kernel
theorem dX5_drawn_34 : decode cX5_drawn 34 = .ok (.iload_n 1, 1) := by decide +kernel
theorem dX5_drawn_35 : decode cX5_drawn 35 = .ok (.iload_n 2, 1) := by decide +kernel
theorem dX5_drawn_36 : decode cX5_drawn 36 = .ok (.invokevirtual 271, 3) := by decide +kernel
theorem dX5_drawn_39 : decode cX5_drawn 39 = .ok (.istore 4, 2) := by decide +kernel
theorem dX5_drawn_41 : decode cX5_drawn 41 = .ok (.iload_n 3, 1) := by decide +kernel
theorem dX5_drawn_42 : decode cX5_drawn 42 = .ok (.ifCond .ne 8, 3) := by decide +kernel
theorem dX5_drawn_45 : decode cX5_drawn 45 = .ok (.iload 4, 2) := by decide +kernel
theorem dX5_drawn_47 : decode cX5_drawn 47 = .ok (.goto 7, 3) := by decide +kernel
theorem dX5_drawn_50 : decode cX5_drawn 50 = .ok (.aload_n 0, 1) := by decide +kernel
theorem dX5_drawn_51 : decode cX5_drawn 51 = .ok (.getfield 259, 3) := by decide +kernel
theorem dX5_drawn_54 : decode cX5_drawn 54 = .ok (.ireturn, 1) := by decide +kernel
theorem dX5_odds_0 : decode cX5_odds 0 = .ok (.iload_n 1, 1) := by decide +kernel
theorem dX5_odds_1 : decode cX5_odds 1 = .ok (.iconst 0, 1) := by decide +kernel
theorem dX5_odds_2 : decode cX5_odds 2 = .ok (.ldc_w 270, 3) := by decide +kernel
theorem dX5_odds_5 : decode cX5_odds 5 = .ok (.invokestatic 78, 3) := by decide +kernel
theorem dX5_odds_8 : decode cX5_odds 8 = .ok (.ifCond .eq 34, 3) := by decide +kernel
theorem dX5_odds_11 : decode cX5_odds 11 = .ok (.iload_n 2, 1) := by decide +kernel
theorem dX5_odds_12 : decode cX5_odds 12 = .ok (.iconst 1, 1) := by decide +kernel
theorem dX5_odds_13 : decode cX5_odds 13 = .ok (.bipush 40, 2) := by decide +kernel
theorem dX5_odds_15 : decode cX5_odds 15 = .ok (.invokestatic 78, 3) := by decide +kernel
theorem dX5_odds_18 : decode cX5_odds 18 = .ok (.ifCond .eq 24, 3) := by decide +kernel
theorem dX5_odds_21 : decode cX5_odds 21 = .ok (.iload_n 3, 1) := by decide +kernel
theorem dX5_odds_22 : decode cX5_odds 22 = .ok (.iconst 0, 1) := by decide +kernel
theorem dX5_odds_23 : decode cX5_odds 23 = .ok (.sipush 999, 3) := by decide +kernel
theorem dX5_odds_26 : decode cX5_odds 26 = .ok (.invokestatic 78, 3) := by decide +kernel
theorem dX5_odds_29 : decode cX5_odds 29 = .ok (.ifCond .eq 13, 3) := by decide +kernel
theorem dX5_odds_32 : decode cX5_odds 32 = .ok (.iload 4, 2) := by decide +kernel
theorem dX5_odds_34 : decode cX5_odds 34 = .ok (.iconst 0, 1) := by decide +kernel
theorem dX5_odds_35 : decode cX5_odds 35 = .ok (.iconst 1, 1) := by decide +kernel
theorem dX5_odds_36 : decode cX5_odds 36 = .ok (.invokestatic 78, 3) := by decide +kernel
theorem dX5_odds_39 : decode cX5_odds 39 = .ok (.ifCond .ne 7, 3) := by decide +kernel
theorem dX5_odds_42 : decode cX5_odds 42 = .ok (.ldc2_w 248, 3) := by decide +kernel
theorem dX5_odds_45 : decode cX5_odds 45 = .ok (.lreturn, 1) := by decide +kernel
theorem dX5_odds_46 : decode cX5_odds 46 = .ok (.lconst 0, 1) := by decide +kernel
theorem dX5_odds_47 : decode cX5_odds 47 = .ok (.lstore 5, 2) := by decide +kernel
theorem dX5_odds_49 : decode cX5_odds 49 = .ok (.iconst 0, 1) := by decide +kernel
theorem dX5_odds_50 : decode cX5_odds 50 = .ok (.istore 7, 2) := by decide +kernel
theorem dX5_odds_52 : decode cX5_odds 52 = .ok (.iload 7, 2) := by decide +kernel
theorem dX5_odds_54 : decode cX5_odds 54 = .ok (.iload_n 2, 1) := by decide +kernel
theorem dX5_odds_55 : decode cX5_odds 55 = .ok (.if_icmp .ge 33, 3) := by decide +kernel
theorem dX5_odds_58 : decode cX5_odds 58 = .ok (.lload 5, 2) := by decide +kernel
theorem dX5_odds_60 : decode cX5_odds 60 = .ok (.aload_n 0, 1) := by decide +kernel
theorem dX5_odds_61 : decode cX5_odds 61 = .ok (.iload_n 1, 1) := by decide +kernel
theorem dX5_odds_62 : decode cX5_odds 62 = .ok (.iload 7, 2) := by decide +kernel
theorem dX5_odds_64 : decode cX5_odds 64 = .ok (.iadd, 1) := by decide +kernel
theorem dX5_odds_65 : decode cX5_odds 65 = .ok (.bipush 20, 2) := by decide +kernel
theorem dX5_odds_67 : decode cX5_odds 67 = .ok (.invokevirtual 271, 3) := by decide +kernel
theorem dX5_odds_70 : decode cX5_odds 70 = .ok (.iload_n 3, 1) := by decide +kernel
theorem dX5_odds_71 : decode cX5_odds 71 = .ok (.if_icmp .lt 7, 3) := by decide +kernel
theorem dX5_odds_74 : decode cX5_odds 74 = .ok (.lconst 1, 1) := by decide +kernel
theorem dX5_odds_75 : decode cX5_odds 75 = .ok (.goto 4, 3) := by decide +kernel
theorem dX5_odds_78 : decode cX5_odds 78 = .ok (.lconst 0, 1) := by decide +kernel
theorem dX5_odds_79 : decode cX5_odds 79 = .ok (.ladd, 1) := by decide +kernel
theorem dX5_odds_80 : decode cX5_odds 80 = .ok (.lstore 5, 2) := by decide +kernel
theorem dX5_odds_82 : decode cX5_odds 82 = .ok (.iinc 7 1, 3) := by decide +kernel
theorem dX5_odds_85 : decode cX5_odds 85 = .ok (.goto (-33), 3) := by decide +kernel
theorem dX5_odds_88 : decode cX5_odds 88 = .ok (.lload 5, 2) := by decide +kernel
theorem dX5_odds_90 : decode cX5_odds 90 = .ok (.iload_n 2, 1) := by decide +kernel
theorem dX5_odds_91 : decode cX5_odds 91 = .ok (.i2l, 1) := by decide +kernel
theorem dX5_odds_92 : decode cX5_odds 92 = .ok (.iload 4, 2) := by decide +kernel
theorem dX5_odds_94 : decode cX5_odds 94 = .ok (.invokestatic 244, 3) := by decide +kernel
theorem dX5_odds_97 : decode cX5_odds 97 = .ok (.lreturn, 1) := by decide +kernel
theorem dX5_image_0 : decode cX5_image 0 = .ok (.aload_n 0, 1) := by decide +kernel
theorem dX5_image_1 : decode cX5_image 1 = .ok (.iconst 1, 1) := by decide +kernel
theorem dX5_image_2 : decode cX5_image 2 = .ok (.putfield 274, 3) := by decide +kernel
theorem dX5_image_5 : decode cX5_image 5 = .ok (.iconst 0, 1) := by decide +kernel
theorem dX5_image_6 : decode cX5_image 6 = .ok (.istore_n 1, 1) := by decide +kernel
theorem dX5_image_7 : decode cX5_image 7 = .ok (.iload_n 1, 1) := by decide +kernel
theorem dX5_image_8 : decode cX5_image 8 = .ok (.bipush 72, 2) := by decide +kernel
theorem dX5_image_10 : decode cX5_image 10 = .ok (.if_icmp .ge 21, 3) := by decide +kernel
theorem dX5_image_13 : decode cX5_image 13 = .ok (.aload_n 0, 1) := by decide +kernel
theorem dX5_image_14 : decode cX5_image 14 = .ok (.getfield 28, 3) := by decide +kernel
theorem dX5_image_17 : decode cX5_image 17 = .ok (.iload_n 1, 1) := by decide +kernel
theorem dX5_image_18 : decode cX5_image 18 = .ok (.aload_n 0, 1) := by decide +kernel
theorem dX5_image_19 : decode cX5_image 19 = .ok (.getfield 16, 3) := by decide +kernel
theorem dX5_image_22 : decode cX5_image 22 = .ok (.iload_n 1, 1) := by decide +kernel
theorem dX5_image_23 : decode cX5_image 23 = .ok (.iaload, 1) := by decide +kernel
theorem dX5_image_24 : decode cX5_image 24 = .ok (.iastore, 1) := by decide +kernel
theorem dX5_image_25 : decode cX5_image 25 = .ok (.iinc 1 1, 3) := by decide +kernel
theorem dX5_image_28 : decode cX5_image 28 = .ok (.goto (-21), 3) := by decide +kernel
theorem dX5_image_31 : decode cX5_image 31 = .ok (.aload_n 0, 1) := by decide +kernel
theorem dX5_image_32 : decode cX5_image 32 = .ok (.getfield 31, 3) := by decide +kernel
theorem dX5_image_35 : decode cX5_image 35 = .ok (.iconst 0, 1) := by decide +kernel
theorem dX5_image_36 : decode cX5_image 36 = .ok (.aload_n 0, 1) := by decide +kernel
theorem dX5_image_37 : decode cX5_image 37 = .ok (.getfield 75, 3) := by decide +kernel
theorem dX5_image_40 : decode cX5_image 40 = .ok (.iastore, 1) := by decide +kernel
theorem dX5_image_41 : decode cX5_image 41 = .ok (.aload_n 0, 1) := by decide +kernel
theorem dX5_image_42 : decode cX5_image 42 = .ok (.getfield 31, 3) := by decide +kernel
theorem dX5_image_45 : decode cX5_image 45 = .ok (.iconst 1, 1) := by decide +kernel
theorem dX5_image_46 : decode cX5_image 46 = .ok (.aload_n 0, 1) := by decide +kernel
theorem dX5_image_47 : decode cX5_image 47 = .ok (.getfield 86, 3) := by decide +kernel
theorem dX5_image_50 : decode cX5_image 50 = .ok (.iastore, 1) := by decide +kernel
theorem dX5_image_51 : decode cX5_image 51 = .ok (.aload_n 0, 1) := by decide +kernel
theorem dX5_image_52 : decode cX5_image 52 = .ok (.getfield 31, 3) := by decide +kernel
theorem dX5_image_55 : decode cX5_image 55 = .ok (.iconst 2, 1) := by decide +kernel
theorem dX5_image_56 : decode cX5_image 56 = .ok (.aload_n 0, 1) := by decide +kernel
theorem dX5_image_57 : decode cX5_image 57 = .ok (.getfield 99, 3) := by decide +kernel
theorem dX5_image_60 : decode cX5_image 60 = .ok (.iastore, 1) := by decide +kernel
theorem dX5_image_61 : decode cX5_image 61 = .ok (.aload_n 0, 1) := by decide +kernel
theorem dX5_image_62 : decode cX5_image 62 = .ok (.getfield 75, 3) := by decide +kernel
theorem dX5_image_65 : decode cX5_image 65 = .ok (.ireturn, 1) := by decide +kernel
theorem dX5_back_0 : decode cX5_back 0 = .ok (.aload_n 0, 1) := by decide +kernel
theorem dX5_back_1 : decode cX5_back 1 = .ok (.getfield 274, 3) := by decide +kernel
theorem dX5_back_4 : decode cX5_back 4 = .ok (.ifCond .ne 6, 3) := by decide +kernel
theorem dX5_back_7 : decode cX5_back 7 = .ok (.bipush (-3), 2) := by decide +kernel
theorem dX5_back_9 : decode cX5_back 9 = .ok (.ireturn, 1) := by decide +kernel
theorem dX5_back_10 : decode cX5_back 10 = .ok (.iconst 0, 1) := by decide +kernel
theorem dX5_back_11 : decode cX5_back 11 = .ok (.istore_n 1, 1) := by decide +kernel
theorem dX5_back_12 : decode cX5_back 12 = .ok (.iload_n 1, 1) := by decide +kernel
theorem dX5_back_13 : decode cX5_back 13 = .ok (.bipush 72, 2) := by decide +kernel
theorem dX5_back_15 : decode cX5_back 15 = .ok (.if_icmp .ge 21, 3) := by decide +kernel
theorem dX5_back_18 : decode cX5_back 18 = .ok (.aload_n 0, 1) := by decide +kernel
theorem dX5_back_19 : decode cX5_back 19 = .ok (.getfield 16, 3) := by decide +kernel
theorem dX5_back_22 : decode cX5_back 22 = .ok (.iload_n 1, 1) := by decide +kernel
theorem dX5_back_23 : decode cX5_back 23 = .ok (.aload_n 0, 1) := by decide +kernel
theorem dX5_back_24 : decode cX5_back 24 = .ok (.getfield 28, 3) := by decide +kernel
theorem dX5_back_27 : decode cX5_back 27 = .ok (.iload_n 1, 1) := by decide +kernel
theorem dX5_back_28 : decode cX5_back 28 = .ok (.iaload, 1) := by decide +kernel
theorem dX5_back_29 : decode cX5_back 29 = .ok (.iastore, 1) := by decide +kernel
theorem dX5_back_30 : decode cX5_back 30 = .ok (.iinc 1 1, 3) := by decide +kernel
theorem dX5_back_33 : decode cX5_back 33 = .ok (.goto (-21), 3) := by decide +kernel
theorem dX5_back_36 : decode cX5_back 36 = .ok (.aload_n 0, 1) := by decide +kernel
theorem dX5_back_37 : decode cX5_back 37 = .ok (.aload_n 0, 1) := by decide +kernel
theorem dX5_back_38 : decode cX5_back 38 = .ok (.getfield 31, 3) := by decide +kernel
theorem dX5_back_41 : decode cX5_back 41 = .ok (.iconst 0, 1) := by decide +kernel
theorem dX5_back_42 : decode cX5_back 42 = .ok (.iaload, 1) := by decide +kernel
theorem dX5_back_43 : decode cX5_back 43 = .ok (.putfield 75, 3) := by decide +kernel
theorem dX5_back_46 : decode cX5_back 46 = .ok (.aload_n 0, 1) := by decide +kernel
theorem dX5_back_47 : decode cX5_back 47 = .ok (.aload_n 0, 1) := by decide +kernel
theorem dX5_back_48 : decode cX5_back 48 = .ok (.getfield 31, 3) := by decide +kernel
theorem dX5_back_51 : decode cX5_back 51 = .ok (.iconst 1, 1) := by decide +kernel
theorem dX5_back_52 : decode cX5_back 52 = .ok (.iaload, 1) := by decide +kernel
theorem dX5_back_53 : decode cX5_back 53 = .ok (.putfield 86, 3) := by decide +kernel
theorem dX5_back_56 : decode cX5_back 56 = .ok (.aload_n 0, 1) := by decide +kernel
theorem dX5_back_57 : decode cX5_back 57 = .ok (.aload_n 0, 1) := by decide +kernel
theorem dX5_back_58 : decode cX5_back 58 = .ok (.getfield 31, 3) := by decide +kernel
theorem dX5_back_61 : decode cX5_back 61 = .ok (.iconst 2, 1) := by decide +kernel
theorem dX5_back_62 : decode cX5_back 62 = .ok (.iaload, 1) := by decide +kernel
theorem dX5_back_63 : decode cX5_back 63 = .ok (.putfield 99, 3) := by decide +kernel
theorem dX5_back_66 : decode cX5_back 66 = .ok (.aload_n 0, 1) := by decide +kernel
theorem dX5_back_67 : decode cX5_back 67 = .ok (.getfield 75, 3) := by decide +kernel
theorem dX5_back_70 : decode cX5_back 70 = .ok (.ireturn, 1) := by decide +kernel
theorem dX5_sheet_0 : decode cX5_sheet 0 = .ok (.iload_n 1, 1) := by decide +kernel
theorem dX5_sheet_1 : decode cX5_sheet 1 = .ok (.iconst 0, 1) := by decide +kernel
theorem dX5_sheet_2 : decode cX5_sheet 2 = .ok (.iconst 3, 1) := by decide +kernel
theorem dX5_sheet_3 : decode cX5_sheet 3 = .ok (.invokestatic 78, 3) := by decide +kernel
theorem dX5_sheet_6 : decode cX5_sheet 6 = .ok (.ifCond .eq 23, 3) := by decide +kernel
theorem dX5_sheet_9 : decode cX5_sheet 9 = .ok (.iload_n 2, 1) := by decide +kernel
theorem dX5_sheet_10 : decode cX5_sheet 10 = .ok (.iconst (-1), 1) := by decide +kernel
theorem dX5_sheet_11 : decode cX5_sheet 11 = .ok (.iconst 2, 1) := by decide +kernel
theorem dX5_sheet_12 : decode cX5_sheet 12 = .ok (.invokestatic 78, 3) := by decide +kernel
theorem dX5_sheet_15 : decode cX5_sheet 15 = .ok (.ifCond .eq 14, 3) := by decide +kernel
theorem dX5_sheet_18 : decode cX5_sheet 18 = .ok (.iload_n 2, 1) := by decide +kernel
theorem dX5_sheet_19 : decode cX5_sheet 19 = .ok (.iconst (-1), 1) := by decide +kernel
theorem dX5_sheet_20 : decode cX5_sheet 20 = .ok (.if_icmp .eq 12, 3) := by decide +kernel
theorem dX5_sheet_23 : decode cX5_sheet 23 = .ok (.iload_n 3, 1) := by decide +kernel
theorem dX5_sheet_24 : decode cX5_sheet 24 = .ok (.bipush 40, 2) := by decide +kernel
theorem dX5_sheet_26 : decode cX5_sheet 26 = .ok (.if_icmp .le 6, 3) := by decide +kernel
theorem dX5_sheet_29 : decode cX5_sheet 29 = .ok (.bipush (-2), 2) := by decide +kernel
theorem dX5_sheet_31 : decode cX5_sheet 31 = .ok (.ireturn, 1) := by decide +kernel
theorem dX5_sheet_32 : decode cX5_sheet 32 = .ok (.iload_n 2, 1) := by decide +kernel
theorem dX5_sheet_33 : decode cX5_sheet 33 = .ok (.iconst (-1), 1) := by decide +kernel
theorem dX5_sheet_34 : decode cX5_sheet 34 = .ok (.if_icmp .eq 10, 3) := by decide +kernel
theorem dX5_sheet_37 : decode cX5_sheet 37 = .ok (.iload_n 3, 1) := by decide +kernel
theorem dX5_sheet_38 : decode cX5_sheet 38 = .ok (.ifCond .ge 6, 3) := by decide +kernel
theorem dX5_sheet_41 : decode cX5_sheet 41 = .ok (.bipush (-14), 2) := by decide +kernel
theorem dX5_sheet_43 : decode cX5_sheet 43 = .ok (.ireturn, 1) := by decide +kernel
theorem dX5_sheet_44 : decode cX5_sheet 44 = .ok (.aload_n 0, 1) := by decide +kernel
theorem dX5_sheet_45 : decode cX5_sheet 45 = .ok (.getfield 34, 3) := by decide +kernel
theorem dX5_sheet_48 : decode cX5_sheet 48 = .ok (.iload_n 1, 1) := by decide +kernel
theorem dX5_sheet_49 : decode cX5_sheet 49 = .ok (.iload_n 2, 1) := by decide +kernel
theorem dX5_sheet_50 : decode cX5_sheet 50 = .ok (.iastore, 1) := by decide +kernel
theorem dX5_sheet_51 : decode cX5_sheet 51 = .ok (.aload_n 0, 1) := by decide +kernel
theorem dX5_sheet_52 : decode cX5_sheet 52 = .ok (.getfield 37, 3) := by decide +kernel
theorem dX5_sheet_55 : decode cX5_sheet 55 = .ok (.iload_n 1, 1) := by decide +kernel
theorem dX5_sheet_56 : decode cX5_sheet 56 = .ok (.iload_n 2, 1) := by decide +kernel
theorem dX5_sheet_57 : decode cX5_sheet 57 = .ok (.iconst (-1), 1) := by decide +kernel
theorem dX5_sheet_58 : decode cX5_sheet 58 = .ok (.if_icmp .ne 7, 3) := by decide +kernel
theorem dX5_sheet_61 : decode cX5_sheet 61 = .ok (.iconst 0, 1) := by decide +kernel
theorem dX5_sheet_62 : decode cX5_sheet 62 = .ok (.goto 4, 3) := by decide +kernel
theorem dX5_sheet_65 : decode cX5_sheet 65 = .ok (.iload_n 3, 1) := by decide +kernel
theorem dX5_sheet_66 : decode cX5_sheet 66 = .ok (.iastore, 1) := by decide +kernel
theorem dX5_sheet_67 : decode cX5_sheet 67 = .ok (.iconst 0, 1) := by decide +kernel
theorem dX5_sheet_68 : decode cX5_sheet 68 = .ok (.istore 4, 2) := by decide +kernel
theorem dX5_sheet_70 : decode cX5_sheet 70 = .ok (.iload 4, 2) := by decide +kernel
theorem dX5_sheet_72 : decode cX5_sheet 72 = .ok (.bipush 40, 2) := by decide +kernel
theorem dX5_sheet_74 : decode cX5_sheet 74 = .ok (.if_icmp .ge 22, 3) := by decide +kernel
theorem dX5_sheet_77 : decode cX5_sheet 77 = .ok (.aload_n 0, 1) := by decide +kernel
theorem dX5_sheet_78 : decode cX5_sheet 78 = .ok (.getfield 40, 3) := by decide +kernel
theorem dX5_sheet_81 : decode cX5_sheet 81 = .ok (.bipush 40, 2) := by decide +kernel
theorem dX5_sheet_83 : decode cX5_sheet 83 = .ok (.iload_n 1, 1) := by decide +kernel
theorem dX5_sheet_84 : decode cX5_sheet 84 = .ok (.imul, 1) := by decide +kernel
theorem dX5_sheet_85 : decode cX5_sheet 85 = .ok (.iload 4, 2) := by decide +kernel
theorem dX5_sheet_87 : decode cX5_sheet 87 = .ok (.iadd, 1) := by decide +kernel
theorem dX5_sheet_88 : decode cX5_sheet 88 = .ok (.iconst 0, 1) := by decide +kernel
theorem dX5_sheet_89 : decode cX5_sheet 89 = .ok (.iastore, 1) := by decide +kernel
theorem dX5_sheet_90 : decode cX5_sheet 90 = .ok (.iinc 4 1, 3) := by decide +kernel
theorem dX5_sheet_93 : decode cX5_sheet 93 = .ok (.goto (-23), 3) := by decide +kernel
theorem dX5_sheet_96 : decode cX5_sheet 96 = .ok (.iconst 1, 1) := by decide +kernel
theorem dX5_sheet_97 : decode cX5_sheet 97 = .ok (.ireturn, 1) := by decide +kernel
theorem dX5_cell_0 : decode cX5_cell 0 = .ok (.iload_n 1, 1) := by decide +kernel
theorem dX5_cell_1 : decode cX5_cell 1 = .ok (.iconst 0, 1) := by decide +kernel
theorem dX5_cell_2 : decode cX5_cell 2 = .ok (.iconst 3, 1) := by decide +kernel
theorem dX5_cell_3 : decode cX5_cell 3 = .ok (.invokestatic 78, 3) := by decide +kernel
theorem dX5_cell_6 : decode cX5_cell 6 = .ok (.ifCond .ne 6, 3) := by decide +kernel
theorem dX5_cell_9 : decode cX5_cell 9 = .ok (.bipush (-2), 2) := by decide +kernel
theorem dX5_cell_11 : decode cX5_cell 11 = .ok (.ireturn, 1) := by decide +kernel
theorem dX5_cell_12 : decode cX5_cell 12 = .ok (.aload_n 0, 1) := by decide +kernel
theorem dX5_cell_13 : decode cX5_cell 13 = .ok (.getfield 34, 3) := by decide +kernel
theorem dX5_cell_16 : decode cX5_cell 16 = .ok (.iload_n 1, 1) := by decide +kernel
theorem dX5_cell_17 : decode cX5_cell 17 = .ok (.iaload, 1) := by decide +kernel
theorem dX5_cell_18 : decode cX5_cell 18 = .ok (.iconst (-1), 1) := by decide +kernel
theorem dX5_cell_19 : decode cX5_cell 19 = .ok (.if_icmp .ne 6, 3) := by decide +kernel
theorem dX5_cell_22 : decode cX5_cell 22 = .ok (.bipush (-11), 2) := by decide +kernel
theorem dX5_cell_24 : decode cX5_cell 24 = .ok (.ireturn, 1) := by decide +kernel
theorem dX5_cell_25 : decode cX5_cell 25 = .ok (.iload_n 2, 1) := by decide +kernel
theorem dX5_cell_26 : decode cX5_cell 26 = .ok (.iconst 0, 1) := by decide +kernel
theorem dX5_cell_27 : decode cX5_cell 27 = .ok (.aload_n 0, 1) := by decide +kernel
theorem dX5_cell_28 : decode cX5_cell 28 = .ok (.getfield 37, 3) := by decide +kernel
theorem dX5_cell_31 : decode cX5_cell 31 = .ok (.iload_n 1, 1) := by decide +kernel
theorem dX5_cell_32 : decode cX5_cell 32 = .ok (.iaload, 1) := by decide +kernel
theorem dX5_cell_33 : decode cX5_cell 33 = .ok (.iconst 1, 1) := by decide +kernel
theorem dX5_cell_34 : decode cX5_cell 34 = .ok (.isub, 1) := by decide +kernel
theorem dX5_cell_35 : decode cX5_cell 35 = .ok (.invokestatic 78, 3) := by decide +kernel
theorem dX5_cell_38 : decode cX5_cell 38 = .ok (.ifCond .ne 6, 3) := by decide +kernel
theorem dX5_cell_41 : decode cX5_cell 41 = .ok (.bipush (-12), 2) := by decide +kernel
theorem dX5_cell_43 : decode cX5_cell 43 = .ok (.ireturn, 1) := by decide +kernel
theorem dX5_cell_44 : decode cX5_cell 44 = .ok (.aload_n 0, 1) := by decide +kernel
theorem dX5_cell_45 : decode cX5_cell 45 = .ok (.getfield 40, 3) := by decide +kernel
theorem dX5_cell_48 : decode cX5_cell 48 = .ok (.bipush 40, 2) := by decide +kernel
theorem dX5_cell_50 : decode cX5_cell 50 = .ok (.iload_n 1, 1) := by decide +kernel
theorem dX5_cell_51 : decode cX5_cell 51 = .ok (.imul, 1) := by decide +kernel
theorem dX5_cell_52 : decode cX5_cell 52 = .ok (.iload_n 2, 1) := by decide +kernel
theorem dX5_cell_53 : decode cX5_cell 53 = .ok (.iadd, 1) := by decide +kernel
theorem dX5_cell_54 : decode cX5_cell 54 = .ok (.aload_n 0, 1) := by decide +kernel
theorem dX5_cell_55 : decode cX5_cell 55 = .ok (.getfield 34, 3) := by decide +kernel
theorem dX5_cell_58 : decode cX5_cell 58 = .ok (.iload_n 1, 1) := by decide +kernel
theorem dX5_cell_59 : decode cX5_cell 59 = .ok (.iaload, 1) := by decide +kernel
theorem dX5_cell_60 : decode cX5_cell 60 = .ok (.ifCond .ne 8, 3) := by decide +kernel
theorem dX5_cell_63 : decode cX5_cell 63 = .ok (.iload_n 3, 1) := by decide +kernel
theorem dX5_cell_64 : decode cX5_cell 64 = .ok (.i2b, 1) := by decide +kernel
theorem dX5_cell_65 : decode cX5_cell 65 = .ok (.goto 19, 3) := by decide +kernel
theorem dX5_cell_68 : decode cX5_cell 68 = .ok (.aload_n 0, 1) := by decide +kernel
theorem dX5_cell_69 : decode cX5_cell 69 = .ok (.getfield 34, 3) := by decide +kernel
theorem dX5_cell_72 : decode cX5_cell 72 = .ok (.iload_n 1, 1) := by decide +kernel
theorem dX5_cell_73 : decode cX5_cell 73 = .ok (.iaload, 1) := by decide +kernel
theorem dX5_cell_74 : decode cX5_cell 74 = .ok (.iconst 1, 1) := by decide +kernel
theorem dX5_cell_75 : decode cX5_cell 75 = .ok (.if_icmp .ne 8, 3) := by decide +kernel
theorem dX5_cell_78 : decode cX5_cell 78 = .ok (.iload_n 3, 1) := by decide +kernel
theorem dX5_cell_79 : decode cX5_cell 79 = .ok (.i2s, 1) := by decide +kernel
theorem dX5_cell_80 : decode cX5_cell 80 = .ok (.goto 4, 3) := by decide +kernel
theorem dX5_cell_83 : decode cX5_cell 83 = .ok (.iload_n 3, 1) := by decide +kernel
theorem dX5_cell_84 : decode cX5_cell 84 = .ok (.iastore, 1) := by decide +kernel
theorem dX5_cell_85 : decode cX5_cell 85 = .ok (.iconst 1, 1) := by decide +kernel
theorem dX5_cell_86 : decode cX5_cell 86 = .ok (.ireturn, 1) := by decide +kernel
theorem dX5_copy_0 : decode cX5_copy 0 = .ok (.iload_n 1, 1) := by decide +kernel
theorem dX5_copy_1 : decode cX5_copy 1 = .ok (.iconst 0, 1) := by decide +kernel
theorem dX5_copy_2 : decode cX5_copy 2 = .ok (.iconst 3, 1) := by decide +kernel
theorem dX5_copy_3 : decode cX5_copy 3 = .ok (.invokestatic 78, 3) := by decide +kernel
theorem dX5_copy_6 : decode cX5_copy 6 = .ok (.ifCond .eq 12, 3) := by decide +kernel
theorem dX5_copy_9 : decode cX5_copy 9 = .ok (.iload_n 3, 1) := by decide +kernel
theorem dX5_copy_10 : decode cX5_copy 10 = .ok (.iconst 0, 1) := by decide +kernel
theorem dX5_copy_11 : decode cX5_copy 11 = .ok (.iconst 3, 1) := by decide +kernel
theorem dX5_copy_12 : decode cX5_copy 12 = .ok (.invokestatic 78, 3) := by decide +kernel
theorem dX5_copy_15 : decode cX5_copy 15 = .ok (.ifCond .ne 6, 3) := by decide +kernel
theorem dX5_copy_18 : decode cX5_copy 18 = .ok (.bipush (-2), 2) := by decide +kernel
theorem dX5_copy_20 : decode cX5_copy 20 = .ok (.ireturn, 1) := by decide +kernel
theorem dX5_copy_21 : decode cX5_copy 21 = .ok (.aload_n 0, 1) := by decide +kernel
theorem dX5_copy_22 : decode cX5_copy 22 = .ok (.getfield 34, 3) := by decide +kernel
theorem dX5_copy_25 : decode cX5_copy 25 = .ok (.iload_n 1, 1) := by decide +kernel
theorem dX5_copy_26 : decode cX5_copy 26 = .ok (.iaload, 1) := by decide +kernel
theorem dX5_copy_27 : decode cX5_copy 27 = .ok (.iconst (-1), 1) := by decide +kernel
theorem dX5_copy_28 : decode cX5_copy 28 = .ok (.if_icmp .eq 13, 3) := by decide +kernel
theorem dX5_copy_31 : decode cX5_copy 31 = .ok (.aload_n 0, 1) := by decide +kernel
theorem dX5_copy_32 : decode cX5_copy 32 = .ok (.getfield 34, 3) := by decide +kernel
theorem dX5_copy_35 : decode cX5_copy 35 = .ok (.iload_n 3, 1) := by decide +kernel
theorem dX5_copy_36 : decode cX5_copy 36 = .ok (.iaload, 1) := by decide +kernel
theorem dX5_copy_37 : decode cX5_copy 37 = .ok (.iconst (-1), 1) := by decide +kernel
theorem dX5_copy_38 : decode cX5_copy 38 = .ok (.if_icmp .ne 6, 3) := by decide +kernel
theorem dX5_copy_41 : decode cX5_copy 41 = .ok (.bipush (-11), 2) := by decide +kernel
theorem dX5_copy_43 : decode cX5_copy 43 = .ok (.ireturn, 1) := by decide +kernel
theorem dX5_copy_44 : decode cX5_copy 44 = .ok (.aload_n 0, 1) := by decide +kernel
theorem dX5_copy_45 : decode cX5_copy 45 = .ok (.getfield 34, 3) := by decide +kernel
theorem dX5_copy_48 : decode cX5_copy 48 = .ok (.iload_n 1, 1) := by decide +kernel
theorem dX5_copy_49 : decode cX5_copy 49 = .ok (.iaload, 1) := by decide +kernel
theorem dX5_copy_50 : decode cX5_copy 50 = .ok (.aload_n 0, 1) := by decide +kernel
theorem dX5_copy_51 : decode cX5_copy 51 = .ok (.getfield 34, 3) := by decide +kernel
theorem dX5_copy_54 : decode cX5_copy 54 = .ok (.iload_n 3, 1) := by decide +kernel
theorem dX5_copy_55 : decode cX5_copy 55 = .ok (.iaload, 1) := by decide +kernel
theorem dX5_copy_56 : decode cX5_copy 56 = .ok (.if_icmp .eq 6, 3) := by decide +kernel
theorem dX5_copy_59 : decode cX5_copy 59 = .ok (.bipush (-13), 2) := by decide +kernel
theorem dX5_copy_61 : decode cX5_copy 61 = .ok (.ireturn, 1) := by decide +kernel
theorem dX5_copy_62 : decode cX5_copy 62 = .ok (.iload 5, 2) := by decide +kernel
theorem dX5_copy_64 : decode cX5_copy 64 = .ok (.ifCond .lt 60, 3) := by decide +kernel
theorem dX5_copy_67 : decode cX5_copy 67 = .ok (.iload_n 2, 1) := by decide +kernel
theorem dX5_copy_68 : decode cX5_copy 68 = .ok (.ifCond .lt 56, 3) := by decide +kernel
theorem dX5_copy_71 : decode cX5_copy 71 = .ok (.iload 4, 2) := by decide +kernel
theorem dX5_copy_73 : decode cX5_copy 73 = .ok (.ifCond .lt 51, 3) := by decide +kernel
theorem dX5_copy_76 : decode cX5_copy 76 = .ok (.iload_n 2, 1) := by decide +kernel
theorem dX5_copy_77 : decode cX5_copy 77 = .ok (.aload_n 0, 1) := by decide +kernel
theorem dX5_copy_78 : decode cX5_copy 78 = .ok (.getfield 37, 3) := by decide +kernel
theorem dX5_copy_81 : decode cX5_copy 81 = .ok (.iload_n 1, 1) := by decide +kernel
theorem dX5_copy_82 : decode cX5_copy 82 = .ok (.iaload, 1) := by decide +kernel
theorem dX5_copy_83 : decode cX5_copy 83 = .ok (.if_icmp .gt 41, 3) := by decide +kernel
theorem dX5_copy_86 : decode cX5_copy 86 = .ok (.iload 4, 2) := by decide +kernel
theorem dX5_copy_88 : decode cX5_copy 88 = .ok (.aload_n 0, 1) := by decide +kernel
theorem dX5_copy_89 : decode cX5_copy 89 = .ok (.getfield 37, 3) := by decide +kernel
theorem dX5_copy_92 : decode cX5_copy 92 = .ok (.iload_n 3, 1) := by decide +kernel
theorem dX5_copy_93 : decode cX5_copy 93 = .ok (.iaload, 1) := by decide +kernel
theorem dX5_copy_94 : decode cX5_copy 94 = .ok (.if_icmp .gt 30, 3) := by decide +kernel
theorem dX5_copy_97 : decode cX5_copy 97 = .ok (.iload 5, 2) := by decide +kernel
theorem dX5_copy_99 : decode cX5_copy 99 = .ok (.aload_n 0, 1) := by decide +kernel
theorem dX5_copy_100 : decode cX5_copy 100 = .ok (.getfield 37, 3) := by decide +kernel
theorem dX5_copy_103 : decode cX5_copy 103 = .ok (.iload_n 1, 1) := by decide +kernel
theorem dX5_copy_104 : decode cX5_copy 104 = .ok (.iaload, 1) := by decide +kernel
theorem dX5_copy_105 : decode cX5_copy 105 = .ok (.iload_n 2, 1) := by decide +kernel
theorem dX5_copy_106 : decode cX5_copy 106 = .ok (.isub, 1) := by decide +kernel
theorem dX5_copy_107 : decode cX5_copy 107 = .ok (.if_icmp .gt 17, 3) := by decide +kernel
theorem dX5_copy_110 : decode cX5_copy 110 = .ok (.iload 5, 2) := by decide +kernel
theorem dX5_copy_112 : decode cX5_copy 112 = .ok (.aload_n 0, 1) := by decide +kernel
theorem dX5_copy_113 : decode cX5_copy 113 = .ok (.getfield 37, 3) := by decide +kernel
theorem dX5_copy_116 : decode cX5_copy 116 = .ok (.iload_n 3, 1) := by decide +kernel
theorem dX5_copy_117 : decode cX5_copy 117 = .ok (.iaload, 1) := by decide +kernel
theorem dX5_copy_118 : decode cX5_copy 118 = .ok (.iload 4, 2) := by decide +kernel
theorem dX5_copy_120 : decode cX5_copy 120 = .ok (.isub, 1) := by decide +kernel
theorem dX5_copy_121 : decode cX5_copy 121 = .ok (.if_icmp .le 6, 3) := by decide +kernel
theorem dX5_copy_124 : decode cX5_copy 124 = .ok (.bipush (-12), 2) := by decide +kernel
theorem dX5_copy_126 : decode cX5_copy 126 = .ok (.ireturn, 1) := by decide +kernel
theorem dX5_copy_127 : decode cX5_copy 127 = .ok (.bipush 40, 2) := by decide +kernel
theorem dX5_copy_129 : decode cX5_copy 129 = .ok (.iload_n 1, 1) := by decide +kernel
theorem dX5_copy_130 : decode cX5_copy 130 = .ok (.imul, 1) := by decide +kernel
theorem dX5_copy_131 : decode cX5_copy 131 = .ok (.iload_n 2, 1) := by decide +kernel
theorem dX5_copy_132 : decode cX5_copy 132 = .ok (.iadd, 1) := by decide +kernel
theorem dX5_copy_133 : decode cX5_copy 133 = .ok (.istore 6, 2) := by decide +kernel
theorem dX5_copy_135 : decode cX5_copy 135 = .ok (.bipush 40, 2) := by decide +kernel
theorem dX5_copy_137 : decode cX5_copy 137 = .ok (.iload_n 3, 1) := by decide +kernel
theorem dX5_copy_138 : decode cX5_copy 138 = .ok (.imul, 1) := by decide +kernel
theorem dX5_copy_139 : decode cX5_copy 139 = .ok (.iload 4, 2) := by decide +kernel
theorem dX5_copy_141 : decode cX5_copy 141 = .ok (.iadd, 1) := by decide +kernel
theorem dX5_copy_142 : decode cX5_copy 142 = .ok (.istore 7, 2) := by decide +kernel
theorem dX5_copy_144 : decode cX5_copy 144 = .ok (.iconst 0, 1) := by decide +kernel
theorem dX5_copy_145 : decode cX5_copy 145 = .ok (.istore 8, 2) := by decide +kernel
theorem dX5_copy_147 : decode cX5_copy 147 = .ok (.iload 8, 2) := by decide +kernel
theorem dX5_copy_149 : decode cX5_copy 149 = .ok (.iload 5, 2) := by decide +kernel
theorem dX5_copy_151 : decode cX5_copy 151 = .ok (.if_icmp .ge 50, 3) := by decide +kernel
theorem dX5_copy_154 : decode cX5_copy 154 = .ok (.iload 6, 2) := by decide +kernel
theorem dX5_copy_156 : decode cX5_copy 156 = .ok (.iload 7, 2) := by decide +kernel
theorem dX5_copy_158 : decode cX5_copy 158 = .ok (.if_icmp .ge 13, 3) := by decide +kernel
theorem dX5_copy_161 : decode cX5_copy 161 = .ok (.iload 5, 2) := by decide +kernel
theorem dX5_copy_163 : decode cX5_copy 163 = .ok (.iconst 1, 1) := by decide +kernel
theorem dX5_copy_164 : decode cX5_copy 164 = .ok (.isub, 1) := by decide +kernel
theorem dX5_copy_165 : decode cX5_copy 165 = .ok (.iload 8, 2) := by decide +kernel
theorem dX5_copy_167 : decode cX5_copy 167 = .ok (.isub, 1) := by decide +kernel
theorem dX5_copy_168 : decode cX5_copy 168 = .ok (.goto 5, 3) := by decide +kernel
theorem dX5_copy_171 : decode cX5_copy 171 = .ok (.iload 8, 2) := by decide +kernel
theorem dX5_copy_173 : decode cX5_copy 173 = .ok (.istore 9, 2) := by decide +kernel
theorem dX5_copy_175 : decode cX5_copy 175 = .ok (.aload_n 0, 1) := by decide +kernel
theorem dX5_copy_176 : decode cX5_copy 176 = .ok (.getfield 40, 3) := by decide +kernel
theorem dX5_copy_179 : decode cX5_copy 179 = .ok (.iload 7, 2) := by decide +kernel
theorem dX5_copy_181 : decode cX5_copy 181 = .ok (.iload 9, 2) := by decide +kernel
theorem dX5_copy_183 : decode cX5_copy 183 = .ok (.iadd, 1) := by decide +kernel
theorem dX5_copy_184 : decode cX5_copy 184 = .ok (.aload_n 0, 1) := by decide +kernel
theorem dX5_copy_185 : decode cX5_copy 185 = .ok (.getfield 40, 3) := by decide +kernel
theorem dX5_copy_188 : decode cX5_copy 188 = .ok (.iload 6, 2) := by decide +kernel
theorem dX5_copy_190 : decode cX5_copy 190 = .ok (.iload 9, 2) := by decide +kernel
theorem dX5_copy_192 : decode cX5_copy 192 = .ok (.iadd, 1) := by decide +kernel
theorem dX5_copy_193 : decode cX5_copy 193 = .ok (.iaload, 1) := by decide +kernel
theorem dX5_copy_194 : decode cX5_copy 194 = .ok (.iastore, 1) := by decide +kernel
theorem dX5_copy_195 : decode cX5_copy 195 = .ok (.iinc 8 1, 3) := by decide +kernel
theorem dX5_copy_198 : decode cX5_copy 198 = .ok (.goto (-51), 3) := by decide +kernel
theorem dX5_copy_201 : decode cX5_copy 201 = .ok (.iload 5, 2) := by decide +kernel
theorem dX5_copy_203 : decode cX5_copy 203 = .ok (.ireturn, 1) := by decide +kernel
theorem dX5_setBy_0 : decode cX5_setBy 0 = .ok (.iload_n 1, 1) := by decide +kernel
theorem dX5_setBy_1 : decode cX5_setBy 1 = .ok (.iconst 0, 1) := by decide +kernel
theorem dX5_setBy_2 : decode cX5_setBy 2 = .ok (.iconst 3, 1) := by decide +kernel
theorem dX5_setBy_3 : decode cX5_setBy 3 = .ok (.invokestatic 78, 3) := by decide +kernel
theorem dX5_setBy_6 : decode cX5_setBy 6 = .ok (.ifCond .eq 23, 3) := by decide +kernel
theorem dX5_setBy_9 : decode cX5_setBy 9 = .ok (.iload_n 2, 1) := by decide +kernel
theorem dX5_setBy_10 : decode cX5_setBy 10 = .ok (.iconst 0, 1) := by decide +kernel
theorem dX5_setBy_11 : decode cX5_setBy 11 = .ok (.iconst 2, 1) := by decide +kernel
theorem dX5_setBy_12 : decode cX5_setBy 12 = .ok (.invokestatic 78, 3) := by decide +kernel
theorem dX5_setBy_15 : decode cX5_setBy 15 = .ok (.ifCond .eq 14, 3) := by decide +kernel
theorem dX5_setBy_18 : decode cX5_setBy 18 = .ok (.iload 4, 2) := by decide +kernel
theorem dX5_setBy_20 : decode cX5_setBy 20 = .ok (.iconst 0, 1) := by decide +kernel
theorem dX5_setBy_21 : decode cX5_setBy 21 = .ok (.bipush 6, 2) := by decide +kernel
theorem dX5_setBy_23 : decode cX5_setBy 23 = .ok (.invokestatic 78, 3) := by decide +kernel
theorem dX5_setBy_26 : decode cX5_setBy 26 = .ok (.ifCond .ne 6, 3) := by decide +kernel
theorem dX5_setBy_29 : decode cX5_setBy 29 = .ok (.bipush (-2), 2) := by decide +kernel
theorem dX5_setBy_31 : decode cX5_setBy 31 = .ok (.ireturn, 1) := by decide +kernel
theorem dX5_setBy_32 : decode cX5_setBy 32 = .ok (.aload_n 0, 1) := by decide +kernel
theorem dX5_setBy_33 : decode cX5_setBy 33 = .ok (.getfield 34, 3) := by decide +kernel
theorem dX5_setBy_36 : decode cX5_setBy 36 = .ok (.iload_n 1, 1) := by decide +kernel
theorem dX5_setBy_37 : decode cX5_setBy 37 = .ok (.iaload, 1) := by decide +kernel
theorem dX5_setBy_38 : decode cX5_setBy 38 = .ok (.iconst (-1), 1) := by decide +kernel
theorem dX5_setBy_39 : decode cX5_setBy 39 = .ok (.if_icmp .ne 6, 3) := by decide +kernel
theorem dX5_setBy_42 : decode cX5_setBy 42 = .ok (.bipush (-11), 2) := by decide +kernel
theorem dX5_setBy_44 : decode cX5_setBy 44 = .ok (.ireturn, 1) := by decide +kernel
theorem dX5_setBy_45 : decode cX5_setBy 45 = .ok (.aload_n 0, 1) := by decide +kernel
theorem dX5_setBy_46 : decode cX5_setBy 46 = .ok (.getfield 34, 3) := by decide +kernel
theorem dX5_setBy_49 : decode cX5_setBy 49 = .ok (.iload_n 1, 1) := by decide +kernel
theorem dX5_setBy_50 : decode cX5_setBy 50 = .ok (.iaload, 1) := by decide +kernel
theorem dX5_setBy_51 : decode cX5_setBy 51 = .ok (.iload_n 2, 1) := by decide +kernel
theorem dX5_setBy_52 : decode cX5_setBy 52 = .ok (.if_icmp .eq 6, 3) := by decide +kernel
theorem dX5_setBy_55 : decode cX5_setBy 55 = .ok (.bipush (-13), 2) := by decide +kernel
theorem dX5_setBy_57 : decode cX5_setBy 57 = .ok (.ireturn, 1) := by decide +kernel
theorem dX5_setBy_58 : decode cX5_setBy 58 = .ok (.iconst 0, 1) := by decide +kernel
theorem dX5_setBy_59 : decode cX5_setBy 59 = .ok (.istore 5, 2) := by decide +kernel
theorem dX5_setBy_61 : decode cX5_setBy 61 = .ok (.iconst 0, 1) := by decide +kernel
theorem dX5_setBy_62 : decode cX5_setBy 62 = .ok (.istore 6, 2) := by decide +kernel
theorem dX5_setBy_64 : decode cX5_setBy 64 = .ok (.iload 6, 2) := by decide +kernel
theorem dX5_setBy_66 : decode cX5_setBy 66 = .ok (.iload 4, 2) := by decide +kernel
theorem dX5_setBy_68 : decode cX5_setBy 68 = .ok (.if_icmp .ge 85, 3) := by decide +kernel
theorem dX5_setBy_71 : decode cX5_setBy 71 = .ok (.iload_n 3, 1) := by decide +kernel
theorem dX5_setBy_72 : decode cX5_setBy 72 = .ok (.iconst 2, 1) := by decide +kernel
theorem dX5_setBy_73 : decode cX5_setBy 73 = .ok (.iload 6, 2) := by decide +kernel
theorem dX5_setBy_75 : decode cX5_setBy 75 = .ok (.imul, 1) := by decide +kernel
theorem dX5_setBy_76 : decode cX5_setBy 76 = .ok (.iadd, 1) := by decide +kernel
theorem dX5_setBy_77 : decode cX5_setBy 77 = .ok (.istore 7, 2) := by decide +kernel
theorem dX5_setBy_79 : decode cX5_setBy 79 = .ok (.iload_n 3, 1) := by decide +kernel
theorem dX5_setBy_80 : decode cX5_setBy 80 = .ok (.ifCond .lt 22, 3) := by decide +kernel
theorem dX5_setBy_83 : decode cX5_setBy 83 = .ok (.iload 7, 2) := by decide +kernel
theorem dX5_setBy_85 : decode cX5_setBy 85 = .ok (.iload_n 3, 1) := by decide +kernel
theorem dX5_setBy_86 : decode cX5_setBy 86 = .ok (.if_icmp .lt 16, 3) := by decide +kernel
theorem dX5_setBy_89 : decode cX5_setBy 89 = .ok (.iload 7, 2) := by decide +kernel
theorem dX5_setBy_91 : decode cX5_setBy 91 = .ok (.aload_n 0, 1) := by decide +kernel
theorem dX5_setBy_92 : decode cX5_setBy 92 = .ok (.getfield 37, 3) := by decide +kernel
theorem dX5_setBy_95 : decode cX5_setBy 95 = .ok (.iload_n 1, 1) := by decide +kernel
theorem dX5_setBy_96 : decode cX5_setBy 96 = .ok (.iaload, 1) := by decide +kernel
theorem dX5_setBy_97 : decode cX5_setBy 97 = .ok (.iconst 2, 1) := by decide +kernel
theorem dX5_setBy_98 : decode cX5_setBy 98 = .ok (.isub, 1) := by decide +kernel
theorem dX5_setBy_99 : decode cX5_setBy 99 = .ok (.if_icmp .le 6, 3) := by decide +kernel
theorem dX5_setBy_102 : decode cX5_setBy 102 = .ok (.bipush (-12), 2) := by decide +kernel
theorem dX5_setBy_104 : decode cX5_setBy 104 = .ok (.ireturn, 1) := by decide +kernel
theorem dX5_setBy_105 : decode cX5_setBy 105 = .ok (.bipush 40, 2) := by decide +kernel
theorem dX5_setBy_107 : decode cX5_setBy 107 = .ok (.iload_n 1, 1) := by decide +kernel
theorem dX5_setBy_108 : decode cX5_setBy 108 = .ok (.imul, 1) := by decide +kernel
theorem dX5_setBy_109 : decode cX5_setBy 109 = .ok (.iload 7, 2) := by decide +kernel
theorem dX5_setBy_111 : decode cX5_setBy 111 = .ok (.iadd, 1) := by decide +kernel
theorem dX5_setBy_112 : decode cX5_setBy 112 = .ok (.istore 8, 2) := by decide +kernel
theorem dX5_setBy_114 : decode cX5_setBy 114 = .ok (.iload 5, 2) := by decide +kernel
theorem dX5_setBy_116 : decode cX5_setBy 116 = .ok (.aload_n 0, 1) := by decide +kernel
theorem dX5_setBy_117 : decode cX5_setBy 117 = .ok (.aload_n 0, 1) := by decide +kernel
theorem dX5_setBy_118 : decode cX5_setBy 118 = .ok (.getfield 40, 3) := by decide +kernel
theorem dX5_setBy_121 : decode cX5_setBy 121 = .ok (.iload 8, 2) := by decide +kernel
theorem dX5_setBy_123 : decode cX5_setBy 123 = .ok (.iaload, 1) := by decide +kernel
theorem dX5_setBy_124 : decode cX5_setBy 124 = .ok (.aload_n 0, 1) := by decide +kernel
theorem dX5_setBy_125 : decode cX5_setBy 125 = .ok (.getfield 40, 3) := by decide +kernel
theorem dX5_setBy_128 : decode cX5_setBy 128 = .ok (.iload 8, 2) := by decide +kernel
theorem dX5_setBy_130 : decode cX5_setBy 130 = .ok (.iconst 1, 1) := by decide +kernel
theorem dX5_setBy_131 : decode cX5_setBy 131 = .ok (.iadd, 1) := by decide +kernel
theorem dX5_setBy_132 : decode cX5_setBy 132 = .ok (.iaload, 1) := by decide +kernel
theorem dX5_setBy_133 : decode cX5_setBy 133 = .ok (.invokevirtual 278, 3) := by decide +kernel
theorem dX5_setBy_136 : decode cX5_setBy 136 = .ok (.ifCond .lt 7, 3) := by decide +kernel
theorem dX5_setBy_139 : decode cX5_setBy 139 = .ok (.iconst 1, 1) := by decide +kernel
theorem dX5_setBy_140 : decode cX5_setBy 140 = .ok (.goto 4, 3) := by decide +kernel
theorem dX5_setBy_143 : decode cX5_setBy 143 = .ok (.iconst 0, 1) := by decide +kernel
theorem dX5_setBy_144 : decode cX5_setBy 144 = .ok (.iadd, 1) := by decide +kernel
theorem dX5_setBy_145 : decode cX5_setBy 145 = .ok (.istore 5, 2) := by decide +kernel
theorem dX5_setBy_147 : decode cX5_setBy 147 = .ok (.iinc 6 1, 3) := by decide +kernel
theorem dX5_setBy_150 : decode cX5_setBy 150 = .ok (.goto (-86), 3) := by decide +kernel
theorem dX5_setBy_153 : decode cX5_setBy 153 = .ok (.iload 5, 2) := by decide +kernel
theorem dX5_setBy_155 : decode cX5_setBy 155 = .ok (.ireturn, 1) := by decide +kernel
theorem dX5_isUnder_0 : decode cX5_isUnder 0 = .ok (.iload_n 1, 1) := by decide +kernel
theorem dX5_isUnder_1 : decode cX5_isUnder 1 = .ok (.ifCond .eq 28, 3) := by decide +kernel
theorem dX5_isUnder_4 : decode cX5_isUnder 4 = .ok (.iload_n 0, 1) := by decide +kernel
theorem dX5_isUnder_5 : decode cX5_isUnder 5 = .ok (.iload_n 1, 1) := by decide +kernel
theorem dX5_isUnder_6 : decode cX5_isUnder 6 = .ok (.if_icmp .eq 23, 3) := by decide +kernel
theorem dX5_isUnder_9 : decode cX5_isUnder 9 = .ok (.iload_n 1, 1) := by decide +kernel
theorem dX5_isUnder_10 : decode cX5_isUnder 10 = .ok (.iconst 1, 1) := by decide +kernel
theorem dX5_isUnder_11 : decode cX5_isUnder 11 = .ok (.if_icmp .ne 8, 3) := by decide +kernel
theorem dX5_isUnder_14 : decode cX5_isUnder 14 = .ok (.iload_n 0, 1) := by decide +kernel
theorem dX5_isUnder_15 : decode cX5_isUnder 15 = .ok (.iconst 3, 1) := by decide +kernel
theorem dX5_isUnder_16 : decode cX5_isUnder 16 = .ok (.if_icmp .eq 13, 3) := by decide +kernel
theorem dX5_isUnder_19 : decode cX5_isUnder 19 = .ok (.iload_n 1, 1) := by decide +kernel
theorem dX5_isUnder_20 : decode cX5_isUnder 20 = .ok (.iconst 2, 1) := by decide +kernel
theorem dX5_isUnder_21 : decode cX5_isUnder 21 = .ok (.if_icmp .ne 12, 3) := by decide +kernel
theorem dX5_isUnder_24 : decode cX5_isUnder 24 = .ok (.iload_n 0, 1) := by decide +kernel
theorem dX5_isUnder_25 : decode cX5_isUnder 25 = .ok (.iconst 4, 1) := by decide +kernel
theorem dX5_isUnder_26 : decode cX5_isUnder 26 = .ok (.if_icmp .ne 7, 3) := by decide +kernel
theorem dX5_isUnder_29 : decode cX5_isUnder 29 = .ok (.iconst 1, 1) := by decide +kernel
theorem dX5_isUnder_30 : decode cX5_isUnder 30 = .ok (.goto 4, 3) := by decide +kernel
theorem dX5_isUnder_33 : decode cX5_isUnder 33 = .ok (.iconst 0, 1) := by decide +kernel
theorem dX5_isUnder_34 : decode cX5_isUnder 34 = .ok (.ireturn, 1) := by decide +kernel
theorem dX5_taken_0 : decode cX5_taken 0 = .ok (.iload_n 2, 1) := by decide +kernel
theorem dX5_taken_1 : decode cX5_taken 1 = .ok (.iconst 0, 1) := by decide +kernel
theorem dX5_taken_2 : decode cX5_taken 2 = .ok (.bipush 6, 2) := by decide +kernel
theorem dX5_taken_4 : decode cX5_taken 4 = .ok (.invokestatic 78, 3) := by decide +kernel
theorem dX5_taken_7 : decode cX5_taken 7 = .ok (.ifCond .ne 6, 3) := by decide +kernel
theorem dX5_taken_10 : decode cX5_taken 10 = .ok (.bipush (-2), 2) := by decide +kernel
theorem dX5_taken_12 : decode cX5_taken 12 = .ok (.ireturn, 1) := by decide +kernel
theorem dX5_taken_13 : decode cX5_taken 13 = .ok (.iload_n 1, 1) := by decide +kernel
theorem dX5_taken_14 : decode cX5_taken 14 = .ok (.iconst 0, 1) := by decide +kernel
theorem dX5_taken_15 : decode cX5_taken 15 = .ok (.bipush 11, 2) := by decide +kernel
theorem dX5_taken_17 : decode cX5_taken 17 = .ok (.invokestatic 78, 3) := by decide +kernel
theorem dX5_taken_20 : decode cX5_taken 20 = .ok (.ifCond .ne 6, 3) := by decide +kernel
theorem dX5_taken_23 : decode cX5_taken 23 = .ok (.bipush (-12), 2) := by decide +kernel
theorem dX5_taken_25 : decode cX5_taken 25 = .ok (.ireturn, 1) := by decide +kernel
theorem dX5_taken_26 : decode cX5_taken 26 = .ok (.iload_n 1, 1) := by decide +kernel
theorem dX5_taken_27 : decode cX5_taken 27 = .ok (.bipush 6, 2) := by decide +kernel
theorem dX5_taken_29 : decode cX5_taken 29 = .ok (.irem, 1) := by decide +kernel
theorem dX5_taken_30 : decode cX5_taken 30 = .ok (.aload_n 0, 1) := by decide +kernel
theorem dX5_taken_31 : decode cX5_taken 31 = .ok (.getfield 75, 3) := by decide +kernel
theorem dX5_taken_34 : decode cX5_taken 34 = .ok (.if_icmp .lt 6, 3) := by decide +kernel
theorem dX5_taken_37 : decode cX5_taken 37 = .ok (.bipush (-11), 2) := by decide +kernel
theorem dX5_taken_39 : decode cX5_taken 39 = .ok (.ireturn, 1) := by decide +kernel
theorem dX5_taken_40 : decode cX5_taken 40 = .ok (.iload_n 1, 1) := by decide +kernel
theorem dX5_taken_41 : decode cX5_taken 41 = .ok (.bipush 6, 2) := by decide +kernel
theorem dX5_taken_43 : decode cX5_taken 43 = .ok (.if_icmp .lt 30, 3) := by decide +kernel
theorem dX5_taken_46 : decode cX5_taken 46 = .ok (.iload_n 2, 1) := by decide +kernel
theorem dX5_taken_47 : decode cX5_taken 47 = .ok (.bipush 6, 2) := by decide +kernel
theorem dX5_taken_49 : decode cX5_taken 49 = .ok (.if_icmp .ne 21, 3) := by decide +kernel
theorem dX5_taken_52 : decode cX5_taken 52 = .ok (.aload_n 0, 1) := by decide +kernel
theorem dX5_taken_53 : decode cX5_taken 53 = .ok (.getfield 16, 3) := by decide +kernel
theorem dX5_taken_56 : decode cX5_taken 56 = .ok (.bipush 12, 2) := by decide +kernel
theorem dX5_taken_58 : decode cX5_taken 58 = .ok (.iload_n 1, 1) := by decide +kernel
theorem dX5_taken_59 : decode cX5_taken 59 = .ok (.bipush 6, 2) := by decide +kernel
theorem dX5_taken_61 : decode cX5_taken 61 = .ok (.isub, 1) := by decide +kernel
theorem dX5_taken_62 : decode cX5_taken 62 = .ok (.imul, 1) := by decide +kernel
theorem dX5_taken_63 : decode cX5_taken 63 = .ok (.bipush 8, 2) := by decide +kernel
theorem dX5_taken_65 : decode cX5_taken 65 = .ok (.iadd, 1) := by decide +kernel
theorem dX5_taken_66 : decode cX5_taken 66 = .ok (.iaload, 1) := by decide +kernel
theorem dX5_taken_67 : decode cX5_taken 67 = .ok (.goto 5, 3) := by decide +kernel
theorem dX5_taken_70 : decode cX5_taken 70 = .ok (.bipush (-13), 2) := by decide +kernel
theorem dX5_taken_72 : decode cX5_taken 72 = .ok (.ireturn, 1) := by decide +kernel
theorem dX5_taken_73 : decode cX5_taken 73 = .ok (.iload_n 2, 1) := by decide +kernel
theorem dX5_taken_74 : decode cX5_taken 74 = .ok (.bipush 6, 2) := by decide +kernel
theorem dX5_taken_76 : decode cX5_taken 76 = .ok (.if_icmp .ge 20, 3) := by decide +kernel
theorem dX5_taken_79 : decode cX5_taken 79 = .ok (.aload_n 0, 1) := by decide +kernel
theorem dX5_taken_80 : decode cX5_taken 80 = .ok (.getfield 7, 3) := by decide +kernel
theorem dX5_taken_83 : decode cX5_taken 83 = .ok (.iload_n 1, 1) := by decide +kernel
theorem dX5_taken_84 : decode cX5_taken 84 = .ok (.iaload, 1) := by decide +kernel
theorem dX5_taken_85 : decode cX5_taken 85 = .ok (.iload_n 2, 1) := by decide +kernel
theorem dX5_taken_86 : decode cX5_taken 86 = .ok (.invokestatic 281, 3) := by decide +kernel
theorem dX5_taken_89 : decode cX5_taken 89 = .ok (.ifCond .eq 7, 3) := by decide +kernel
theorem dX5_taken_92 : decode cX5_taken 92 = .ok (.iload_n 1, 1) := by decide +kernel
theorem dX5_taken_93 : decode cX5_taken 93 = .ok (.goto 5, 3) := by decide +kernel
theorem dX5_taken_96 : decode cX5_taken 96 = .ok (.bipush (-13), 2) := by decide +kernel
theorem dX5_taken_98 : decode cX5_taken 98 = .ok (.ireturn, 1) := by decide +kernel
