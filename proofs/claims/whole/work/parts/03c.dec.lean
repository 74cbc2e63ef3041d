theorem dX9_init_0 : decode cX9_init 0 = .ok (.aload_n 0, 1) := by decide +kernel
theorem dX9_init_1 : decode cX9_init 1 = .ok (.invokespecial 1, 3) := by decide +kernel
theorem dX9_init_4 : decode cX9_init 4 = .ok (.aload_n 0, 1) := by decide +kernel
theorem dX9_init_5 : decode cX9_init 5 = .ok (.bipush 8, 2) := by decide +kernel
theorem dX9_init_7 : decode cX9_init 7 = .ok (.putfield 7, 3) := by decide +kernel
theorem dX9_init_10 : decode cX9_init 10 = .ok (.aload_n 0, 1) := by decide +kernel
theorem dX9_init_11 : decode cX9_init 11 = .ok (.bipush 13, 2) := by decide +kernel
theorem dX9_init_13 : decode cX9_init 13 = .ok (.newarray .int, 2) := by decide +kernel
theorem dX9_init_15 : decode cX9_init 15 = .ok (.putfield 13, 3) := by decide +kernel
theorem dX9_init_18 : decode cX9_init 18 = .ok (.aload_n 0, 1) := by decide +kernel
theorem dX9_init_19 : decode cX9_init 19 = .ok (.bipush 13, 2) := by decide +kernel
theorem dX9_init_21 : decode cX9_init 21 = .ok (.newarray .int, 2) := by decide +kernel
theorem dX9_init_23 : decode cX9_init 23 = .ok (.putfield 17, 3) := by decide +kernel
theorem dX9_init_26 : decode cX9_init 26 = .ok (.aload_n 0, 1) := by decide +kernel
theorem dX9_init_27 : decode cX9_init 27 = .ok (.bipush 13, 2) := by decide +kernel
theorem dX9_init_29 : decode cX9_init 29 = .ok (.newarray .int, 2) := by decide +kernel
theorem dX9_init_31 : decode cX9_init 31 = .ok (.putfield 20, 3) := by decide +kernel
theorem dX9_init_34 : decode cX9_init 34 = .ok (.aload_n 0, 1) := by decide +kernel
theorem dX9_init_35 : decode cX9_init 35 = .ok (.bipush 13, 2) := by decide +kernel
theorem dX9_init_37 : decode cX9_init 37 = .ok (.newarray .int, 2) := by decide +kernel
theorem dX9_init_39 : decode cX9_init 39 = .ok (.putfield 23, 3) := by decide +kernel
theorem dX9_init_42 : decode cX9_init 42 = .ok (.aload_n 0, 1) := by decide +kernel
theorem dX9_init_43 : decode cX9_init 43 = .ok (.bipush 13, 2) := by decide +kernel
theorem dX9_init_45 : decode cX9_init 45 = .ok (.newarray .int, 2) := by decide +kernel
theorem dX9_init_47 : decode cX9_init 47 = .ok (.putfield 26, 3) := by decide +kernel
theorem dX9_init_50 : decode cX9_init 50 = .ok (.aload_n 0, 1) := by decide +kernel
theorem dX9_init_51 : decode cX9_init 51 = .ok (.sipush 160, 3) := by decide +kernel
theorem dX9_init_54 : decode cX9_init 54 = .ok (.newarray .int, 2) := by decide +kernel
theorem dX9_init_56 : decode cX9_init 56 = .ok (.putfield 29, 3) := by decide +kernel
theorem dX9_init_59 : decode cX9_init 59 = .ok (.aload_n 0, 1) := by decide +kernel
theorem dX9_init_60 : decode cX9_init 60 = .ok (.sipush 1200, 3) := by decide +kernel
theorem dX9_init_63 : decode cX9_init 63 = .ok (.newarray .int, 2) := by decide +kernel
theorem dX9_init_65 : decode cX9_init 65 = .ok (.putfield 32, 3) := by decide +kernel
theorem dX9_init_68 : decode cX9_init 68 = .ok (.aload_n 0, 1) := by decide +kernel
theorem dX9_init_69 : decode cX9_init 69 = .ok (.bipush 24, 2) := by decide +kernel
theorem dX9_init_71 : decode cX9_init 71 = .ok (.newarray .int, 2) := by decide +kernel
theorem dX9_init_73 : decode cX9_init 73 = .ok (.putfield 35, 3) := by decide +kernel
theorem dX9_init_76 : decode cX9_init 76 = .ok (.aload_n 0, 1) := by decide +kernel
theorem dX9_init_77 : decode cX9_init 77 = .ok (.iconst 4, 1) := by decide +kernel
theorem dX9_init_78 : decode cX9_init 78 = .ok (.newarray .int, 2) := by decide +kernel
theorem dX9_init_80 : decode cX9_init 80 = .ok (.dup, 1) := by decide +kernel
theorem dX9_init_81 : decode cX9_init 81 = .ok (.iconst 0, 1) := by decide +kernel
theorem dX9_init_82 : decode cX9_init 82 = .ok (.iconst (-1), 1) := by decide +kernel
theorem dX9_init_83 : decode cX9_init 83 = .ok (.iastore, 1) := by decide +kernel
theorem dX9_init_84 : decode cX9_init 84 = .ok (.dup, 1) := by decide +kernel
theorem dX9_init_85 : decode cX9_init 85 = .ok (.iconst 1, 1) := by decide +kernel
theorem dX9_init_86 : decode cX9_init 86 = .ok (.iconst (-1), 1) := by decide +kernel
theorem dX9_init_87 : decode cX9_init 87 = .ok (.iastore, 1) := by decide +kernel
theorem dX9_init_88 : decode cX9_init 88 = .ok (.dup, 1) := by decide +kernel
theorem dX9_init_89 : decode cX9_init 89 = .ok (.iconst 2, 1) := by decide +kernel
theorem dX9_init_90 : decode cX9_init 90 = .ok (.iconst (-1), 1) := by decide +kernel
theorem dX9_init_91 : decode cX9_init 91 = .ok (.iastore, 1) := by decide +kernel
theorem dX9_init_92 : decode cX9_init 92 = .ok (.dup, 1) := by decide +kernel
theorem dX9_init_93 : decode cX9_init 93 = .ok (.iconst 3, 1) := by decide +kernel
theorem dX9_init_94 : decode cX9_init 94 = .ok (.iconst (-1), 1) := by decide +kernel
theorem dX9_init_95 : decode cX9_init 95 = .ok (.iastore, 1) := by decide +kernel
theorem dX9_init_96 : decode cX9_init 96 = .ok (.putfield 38, 3) := by decide +kernel
theorem dX9_init_99 : decode cX9_init 99 = .ok (.aload_n 0, 1) := by decide +kernel
theorem dX9_init_100 : decode cX9_init 100 = .ok (.iconst 4, 1) := by decide +kernel
theorem dX9_init_101 : decode cX9_init 101 = .ok (.newarray .int, 2) := by decide +kernel
theorem dX9_init_103 : decode cX9_init 103 = .ok (.putfield 41, 3) := by decide +kernel
theorem dX9_init_106 : decode cX9_init 106 = .ok (.aload_n 0, 1) := by decide +kernel
theorem dX9_init_107 : decode cX9_init 107 = .ok (.sipush 160, 3) := by decide +kernel
theorem dX9_init_110 : decode cX9_init 110 = .ok (.newarray .int, 2) := by decide +kernel
theorem dX9_init_112 : decode cX9_init 112 = .ok (.putfield 44, 3) := by decide +kernel
theorem dX9_init_115 : decode cX9_init 115 = .ok (.aload_n 0, 1) := by decide +kernel
theorem dX9_init_116 : decode cX9_init 116 = .ok (.bipush 39, 2) := by decide +kernel
theorem dX9_init_118 : decode cX9_init 118 = .ok (.newarray .int, 2) := by decide +kernel
theorem dX9_init_120 : decode cX9_init 120 = .ok (.dup, 1) := by decide +kernel
theorem dX9_init_121 : decode cX9_init 121 = .ok (.iconst 0, 1) := by decide +kernel
theorem dX9_init_122 : decode cX9_init 122 = .ok (.bipush 119, 2) := by decide +kernel
theorem dX9_init_124 : decode cX9_init 124 = .ok (.iastore, 1) := by decide +kernel
theorem dX9_init_125 : decode cX9_init 125 = .ok (.dup, 1) := by decide +kernel
theorem dX9_init_126 : decode cX9_init 126 = .ok (.iconst 1, 1) := by decide +kernel
theorem dX9_init_127 : decode cX9_init 127 = .ok (.bipush 97, 2) := by decide +kernel
theorem dX9_init_129 : decode cX9_init 129 = .ok (.iastore, 1) := by decide +kernel
theorem dX9_init_130 : decode cX9_init 130 = .ok (.dup, 1) := by decide +kernel
theorem dX9_init_131 : decode cX9_init 131 = .ok (.iconst 2, 1) := by decide +kernel
theorem dX9_init_132 : decode cX9_init 132 = .ok (.bipush 108, 2) := by decide +kernel
theorem dX9_init_134 : decode cX9_init 134 = .ok (.iastore, 1) := by decide +kernel
theorem dX9_init_135 : decode cX9_init 135 = .ok (.dup, 1) := by decide +kernel
theorem dX9_init_136 : decode cX9_init 136 = .ok (.iconst 3, 1) := by decide +kernel
theorem dX9_init_137 : decode cX9_init 137 = .ok (.bipush 107, 2) := by decide +kernel
theorem dX9_init_139 : decode cX9_init 139 = .ok (.iastore, 1) := by decide +kernel
theorem dX9_init_140 : decode cX9_init 140 = .ok (.dup, 1) := by decide +kernel
theorem dX9_init_141 : decode cX9_init 141 = .ok (.iconst 4, 1) := by decide +kernel
theorem dX9_init_142 : decode cX9_init 142 = .ok (.bipush 32, 2) := by decide +kernel
theorem dX9_init_144 : decode cX9_init 144 = .ok (.iastore, 1) := by decide +kernel
theorem dX9_init_145 : decode cX9_init 145 = .ok (.dup, 1) := by decide +kernel
theorem dX9_init_146 : decode cX9_init 146 = .ok (.iconst 5, 1) := by decide +kernel
theorem dX9_init_147 : decode cX9_init 147 = .ok (.bipush 98, 2) := by decide +kernel
theorem dX9_init_149 : decode cX9_init 149 = .ok (.iastore, 1) := by decide +kernel
theorem dX9_init_150 : decode cX9_init 150 = .ok (.dup, 1) := by decide +kernel
theorem dX9_init_151 : decode cX9_init 151 = .ok (.bipush 6, 2) := by decide +kernel
theorem dX9_init_153 : decode cX9_init 153 = .ok (.bipush 97, 2) := by decide +kernel
theorem dX9_init_155 : decode cX9_init 155 = .ok (.iastore, 1) := by decide +kernel
theorem dX9_init_156 : decode cX9_init 156 = .ok (.dup, 1) := by decide +kernel
theorem dX9_init_157 : decode cX9_init 157 = .ok (.bipush 7, 2) := by decide +kernel
theorem dX9_init_159 : decode cX9_init 159 = .ok (.bipush 115, 2) := by decide +kernel
theorem dX9_init_161 : decode cX9_init 161 = .ok (.iastore, 1) := by decide +kernel
theorem dX9_init_162 : decode cX9_init 162 = .ok (.dup, 1) := by decide +kernel
theorem dX9_init_163 : decode cX9_init 163 = .ok (.bipush 8, 2) := by decide +kernel
theorem dX9_init_165 : decode cX9_init 165 = .ok (.bipush 101, 2) := by decide +kernel
theorem dX9_init_167 : decode cX9_init 167 = .ok (.iastore, 1) := by decide +kernel
theorem dX9_init_168 : decode cX9_init 168 = .ok (.dup, 1) := by decide +kernel
theorem dX9_init_169 : decode cX9_init 169 = .ok (.bipush 9, 2) := by decide +kernel
theorem dX9_init_171 : decode cX9_init 171 = .ok (.bipush 32, 2) := by decide +kernel
theorem dX9_init_173 : decode cX9_init 173 = .ok (.iastore, 1) := by decide +kernel
theorem dX9_init_174 : decode cX9_init 174 = .ok (.dup, 1) := by decide +kernel
theorem dX9_init_175 : decode cX9_init 175 = .ok (.bipush 10, 2) := by decide +kernel
theorem dX9_init_177 : decode cX9_init 177 = .ok (.bipush 59, 2) := by decide +kernel
theorem dX9_init_179 : decode cX9_init 179 = .ok (.iastore, 1) := by decide +kernel
theorem dX9_init_180 : decode cX9_init 180 = .ok (.dup, 1) := by decide +kernel
theorem dX9_init_181 : decode cX9_init 181 = .ok (.bipush 11, 2) := by decide +kernel
theorem dX9_init_183 : decode cX9_init 183 = .ok (.bipush 32, 2) := by decide +kernel
theorem dX9_init_185 : decode cX9_init 185 = .ok (.iastore, 1) := by decide +kernel
theorem dX9_init_186 : decode cX9_init 186 = .ok (.dup, 1) := by decide +kernel
theorem dX9_init_187 : decode cX9_init 187 = .ok (.bipush 12, 2) := by decide +kernel
theorem dX9_init_189 : decode cX9_init 189 = .ok (.bipush 99, 2) := by decide +kernel
theorem dX9_init_191 : decode cX9_init 191 = .ok (.iastore, 1) := by decide +kernel
theorem dX9_init_192 : decode cX9_init 192 = .ok (.dup, 1) := by decide +kernel
theorem dX9_init_193 : decode cX9_init 193 = .ok (.bipush 13, 2) := by decide +kernel
theorem dX9_init_195 : decode cX9_init 195 = .ok (.bipush 97, 2) := by decide +kernel
theorem dX9_init_197 : decode cX9_init 197 = .ok (.iastore, 1) := by decide +kernel
theorem dX9_init_198 : decode cX9_init 198 = .ok (.dup, 1) := by decide +kernel
theorem dX9_init_199 : decode cX9_init 199 = .ok (.bipush 14, 2) := by decide +kernel
theorem dX9_init_201 : decode cX9_init 201 = .ok (.bipush 114, 2) := by decide +kernel
theorem dX9_init_203 : decode cX9_init 203 = .ok (.iastore, 1) := by decide +kernel
theorem dX9_init_204 : decode cX9_init 204 = .ok (.dup, 1) := by decide +kernel
theorem dX9_init_205 : decode cX9_init 205 = .ok (.bipush 15, 2) := by decide +kernel
theorem dX9_init_207 : decode cX9_init 207 = .ok (.bipush 114, 2) := by decide +kernel
theorem dX9_init_209 : decode cX9_init 209 = .ok (.iastore, 1) := by decide +kernel
theorem dX9_init_210 : decode cX9_init 210 = .ok (.dup, 1) := by decide +kernel
theorem dX9_init_211 : decode cX9_init 211 = .ok (.bipush 16, 2) := by decide +kernel
theorem dX9_init_213 : decode cX9_init 213 = .ok (.bipush 121, 2) := by decide +kernel
theorem dX9_init_215 : decode cX9_init 215 = .ok (.iastore, 1) := by decide +kernel
theorem dX9_init_216 : decode cX9_init 216 = .ok (.dup, 1) := by decide +kernel
theorem dX9_init_217 : decode cX9_init 217 = .ok (.bipush 17, 2) := by decide +kernel
theorem dX9_init_219 : decode cX9_init 219 = .ok (.bipush 32, 2) := by decide +kernel
theorem dX9_init_221 : decode cX9_init 221 = .ok (.iastore, 1) := by decide +kernel
theorem dX9_init_222 : decode cX9_init 222 = .ok (.dup, 1) := by decide +kernel
theorem dX9_init_223 : decode cX9_init 223 = .ok (.bipush 18, 2) := by decide +kernel
theorem dX9_init_225 : decode cX9_init 225 = .ok (.bipush 98, 2) := by decide +kernel
theorem dX9_init_227 : decode cX9_init 227 = .ok (.iastore, 1) := by decide +kernel
theorem dX9_init_228 : decode cX9_init 228 = .ok (.dup, 1) := by decide +kernel
theorem dX9_init_229 : decode cX9_init 229 = .ok (.bipush 19, 2) := by decide +kernel
theorem dX9_init_231 : decode cX9_init 231 = .ok (.bipush 97, 2) := by decide +kernel
theorem dX9_init_233 : decode cX9_init 233 = .ok (.iastore, 1) := by decide +kernel
theorem dX9_init_234 : decode cX9_init 234 = .ok (.dup, 1) := by decide +kernel
theorem dX9_init_235 : decode cX9_init 235 = .ok (.bipush 20, 2) := by decide +kernel
theorem dX9_init_237 : decode cX9_init 237 = .ok (.bipush 115, 2) := by decide +kernel
theorem dX9_init_239 : decode cX9_init 239 = .ok (.iastore, 1) := by decide +kernel
theorem dX9_init_240 : decode cX9_init 240 = .ok (.dup, 1) := by decide +kernel
theorem dX9_init_241 : decode cX9_init 241 = .ok (.bipush 21, 2) := by decide +kernel
theorem dX9_init_243 : decode cX9_init 243 = .ok (.bipush 101, 2) := by decide +kernel
theorem dX9_init_245 : decode cX9_init 245 = .ok (.iastore, 1) := by decide +kernel
theorem dX9_init_246 : decode cX9_init 246 = .ok (.dup, 1) := by decide +kernel
theorem dX9_init_247 : decode cX9_init 247 = .ok (.bipush 22, 2) := by decide +kernel
theorem dX9_init_249 : decode cX9_init 249 = .ok (.bipush 32, 2) := by decide +kernel
theorem dX9_init_251 : decode cX9_init 251 = .ok (.iastore, 1) := by decide +kernel
theorem dX9_init_252 : decode cX9_init 252 = .ok (.dup, 1) := by decide +kernel
theorem dX9_init_253 : decode cX9_init 253 = .ok (.bipush 23, 2) := by decide +kernel
theorem dX9_init_255 : decode cX9_init 255 = .ok (.bipush 43, 2) := by decide +kernel
theorem dX9_init_257 : decode cX9_init 257 = .ok (.iastore, 1) := by decide +kernel
theorem dX9_init_258 : decode cX9_init 258 = .ok (.dup, 1) := by decide +kernel
theorem dX9_init_259 : decode cX9_init 259 = .ok (.bipush 24, 2) := by decide +kernel
theorem dX9_init_261 : decode cX9_init 261 = .ok (.bipush 32, 2) := by decide +kernel
theorem dX9_init_263 : decode cX9_init 263 = .ok (.iastore, 1) := by decide +kernel
theorem dX9_init_264 : decode cX9_init 264 = .ok (.dup, 1) := by decide +kernel
theorem dX9_init_265 : decode cX9_init 265 = .ok (.bipush 25, 2) := by decide +kernel
theorem dX9_init_267 : decode cX9_init 267 = .ok (.bipush 109, 2) := by decide +kernel
theorem dX9_init_269 : decode cX9_init 269 = .ok (.iastore, 1) := by decide +kernel
theorem dX9_init_270 : decode cX9_init 270 = .ok (.dup, 1) := by decide +kernel
theorem dX9_init_271 : decode cX9_init 271 = .ok (.bipush 26, 2) := by decide +kernel
theorem dX9_init_273 : decode cX9_init 273 = .ok (.bipush 111, 2) := by decide +kernel
theorem dX9_init_275 : decode cX9_init 275 = .ok (.iastore, 1) := by decide +kernel
theorem dX9_init_276 : decode cX9_init 276 = .ok (.dup, 1) := by decide +kernel
theorem dX9_init_277 : decode cX9_init 277 = .ok (.bipush 27, 2) := by decide +kernel
theorem dX9_init_279 : decode cX9_init 279 = .ok (.bipush 114, 2) := by decide +kernel
theorem dX9_init_281 : decode cX9_init 281 = .ok (.iastore, 1) := by decide +kernel
theorem dX9_init_282 : decode cX9_init 282 = .ok (.dup, 1) := by decide +kernel
theorem dX9_init_283 : decode cX9_init 283 = .ok (.bipush 28, 2) := by decide +kernel
theorem dX9_init_285 : decode cX9_init 285 = .ok (.bipush 101, 2) := by decide +kernel
theorem dX9_init_287 : decode cX9_init 287 = .ok (.iastore, 1) := by decide +kernel
theorem dX9_init_288 : decode cX9_init 288 = .ok (.dup, 1) := by decide +kernel
theorem dX9_init_289 : decode cX9_init 289 = .ok (.bipush 29, 2) := by decide +kernel
theorem dX9_init_291 : decode cX9_init 291 = .ok (.bipush 32, 2) := by decide +kernel
theorem dX9_init_293 : decode cX9_init 293 = .ok (.iastore, 1) := by decide +kernel
theorem dX9_init_294 : decode cX9_init 294 = .ok (.dup, 1) := by decide +kernel
theorem dX9_init_295 : decode cX9_init 295 = .ok (.bipush 30, 2) := by decide +kernel
theorem dX9_init_297 : decode cX9_init 297 = .ok (.bipush 59, 2) := by decide +kernel
theorem dX9_init_299 : decode cX9_init 299 = .ok (.iastore, 1) := by decide +kernel
theorem dX9_init_300 : decode cX9_init 300 = .ok (.dup, 1) := by decide +kernel
theorem dX9_init_301 : decode cX9_init 301 = .ok (.bipush 31, 2) := by decide +kernel
theorem dX9_init_303 : decode cX9_init 303 = .ok (.bipush 32, 2) := by decide +kernel
theorem dX9_init_305 : decode cX9_init 305 = .ok (.iastore, 1) := by decide +kernel
theorem dX9_init_306 : decode cX9_init 306 = .ok (.dup, 1) := by decide +kernel
theorem dX9_init_307 : decode cX9_init 307 = .ok (.bipush 32, 2) := by decide +kernel
theorem dX9_init_309 : decode cX9_init 309 = .ok (.bipush 109, 2) := by decide +kernel
theorem dX9_init_311 : decode cX9_init 311 = .ok (.iastore, 1) := by decide +kernel
theorem dX9_init_312 : decode cX9_init 312 = .ok (.dup, 1) := by decide +kernel
theorem dX9_init_313 : decode cX9_init 313 = .ok (.bipush 33, 2) := by decide +kernel
theorem dX9_init_315 : decode cX9_init 315 = .ok (.bipush 97, 2) := by decide +kernel
theorem dX9_init_317 : decode cX9_init 317 = .ok (.iastore, 1) := by decide +kernel
theorem dX9_init_318 : decode cX9_init 318 = .ok (.dup, 1) := by decide +kernel
theorem dX9_init_319 : decode cX9_init 319 = .ok (.bipush 34, 2) := by decide +kernel
theorem dX9_init_321 : decode cX9_init 321 = .ok (.bipush 121, 2) := by decide +kernel
theorem dX9_init_323 : decode cX9_init 323 = .ok (.iastore, 1) := by decide +kernel
theorem dX9_init_324 : decode cX9_init 324 = .ok (.dup, 1) := by decide +kernel
theorem dX9_init_325 : decode cX9_init 325 = .ok (.bipush 35, 2) := by decide +kernel
theorem dX9_init_327 : decode cX9_init 327 = .ok (.bipush 32, 2) := by decide +kernel
theorem dX9_init_329 : decode cX9_init 329 = .ok (.iastore, 1) := by decide +kernel
theorem dX9_init_330 : decode cX9_init 330 = .ok (.dup, 1) := by decide +kernel
theorem dX9_init_331 : decode cX9_init 331 = .ok (.bipush 36, 2) := by decide +kernel
theorem dX9_init_333 : decode cX9_init 333 = .ok (.bipush 49, 2) := by decide +kernel
theorem dX9_init_335 : decode cX9_init 335 = .ok (.iastore, 1) := by decide +kernel
theorem dX9_init_336 : decode cX9_init 336 = .ok (.dup, 1) := by decide +kernel
theorem dX9_init_337 : decode cX9_init 337 = .ok (.bipush 37, 2) := by decide +kernel
theorem dX9_init_339 : decode cX9_init 339 = .ok (.bipush 32, 2) := by decide +kernel
theorem dX9_init_341 : decode cX9_init 341 = .ok (.iastore, 1) := by decide +kernel
theorem dX9_init_342 : decode cX9_init 342 = .ok (.dup, 1) := by decide +kernel
theorem dX9_init_343 : decode cX9_init 343 = .ok (.bipush 38, 2) := by decide +kernel
theorem dX9_init_345 : decode cX9_init 345 = .ok (.bipush 59, 2) := by decide +kernel
theorem dX9_init_347 : decode cX9_init 347 = .ok (.iastore, 1) := by decide +kernel
theorem dX9_init_348 : decode cX9_init 348 = .ok (.putfield 47, 3) := by decide +kernel
theorem dX9_init_351 : decode cX9_init 351 = .ok (.aload_n 0, 1) := by decide +kernel
theorem dX9_init_352 : decode cX9_init 352 = .ok (.bipush 96, 2) := by decide +kernel
theorem dX9_init_354 : decode cX9_init 354 = .ok (.newarray .int, 2) := by decide +kernel
theorem dX9_init_356 : decode cX9_init 356 = .ok (.dup, 1) := by decide +kernel
theorem dX9_init_357 : decode cX9_init 357 = .ok (.iconst 0, 1) := by decide +kernel
theorem dX9_init_358 : decode cX9_init 358 = .ok (.bipush 119, 2) := by decide +kernel
theorem dX9_init_360 : decode cX9_init 360 = .ok (.iastore, 1) := by decide +kernel
theorem dX9_init_361 : decode cX9_init 361 = .ok (.dup, 1) := by decide +kernel
theorem dX9_init_362 : decode cX9_init 362 = .ok (.iconst 1, 1) := by decide +kernel
theorem dX9_init_363 : decode cX9_init 363 = .ok (.bipush 97, 2) := by decide +kernel
theorem dX9_init_365 : decode cX9_init 365 = .ok (.iastore, 1) := by decide +kernel
theorem dX9_init_366 : decode cX9_init 366 = .ok (.dup, 1) := by decide +kernel
theorem dX9_init_367 : decode cX9_init 367 = .ok (.iconst 2, 1) := by decide +kernel
theorem dX9_init_368 : decode cX9_init 368 = .ok (.bipush 108, 2) := by decide +kernel
theorem dX9_init_370 : decode cX9_init 370 = .ok (.iastore, 1) := by decide +kernel
theorem dX9_init_371 : decode cX9_init 371 = .ok (.dup, 1) := by decide +kernel
theorem dX9_init_372 : decode cX9_init 372 = .ok (.iconst 3, 1) := by decide +kernel
theorem dX9_init_373 : decode cX9_init 373 = .ok (.bipush 107, 2) := by decide +kernel
theorem dX9_init_375 : decode cX9_init 375 = .ok (.iastore, 1) := by decide +kernel
theorem dX9_init_376 : decode cX9_init 376 = .ok (.dup, 1) := by decide +kernel
theorem dX9_init_377 : decode cX9_init 377 = .ok (.iconst 4, 1) := by decide +kernel
theorem dX9_init_378 : decode cX9_init 378 = .ok (.bipush 32, 2) := by decide +kernel
theorem dX9_init_380 : decode cX9_init 380 = .ok (.iastore, 1) := by decide +kernel
theorem dX9_init_381 : decode cX9_init 381 = .ok (.dup, 1) := by decide +kernel
theorem dX9_init_382 : decode cX9_init 382 = .ok (.iconst 5, 1) := by decide +kernel
theorem dX9_init_383 : decode cX9_init 383 = .ok (.bipush 32, 2) := by decide +kernel
theorem dX9_init_385 : decode cX9_init 385 = .ok (.iastore, 1) := by decide +kernel
theorem dX9_init_386 : decode cX9_init 386 = .ok (.dup, 1) := by decide +kernel
theorem dX9_init_387 : decode cX9_init 387 = .ok (.bipush 6, 2) := by decide +kernel
theorem dX9_init_389 : decode cX9_init 389 = .ok (.bipush 32, 2) := by decide +kernel
theorem dX9_init_391 : decode cX9_init 391 = .ok (.iastore, 1) := by decide +kernel
theorem dX9_init_392 : decode cX9_init 392 = .ok (.dup, 1) := by decide +kernel
theorem dX9_init_393 : decode cX9_init 393 = .ok (.bipush 7, 2) := by decide +kernel
theorem dX9_init_395 : decode cX9_init 395 = .ok (.bipush 32, 2) := by decide +kernel
theorem dX9_init_397 : decode cX9_init 397 = .ok (.iastore, 1) := by decide +kernel
theorem dX9_init_398 : decode cX9_init 398 = .ok (.dup, 1) := by decide +kernel
theorem dX9_init_399 : decode cX9_init 399 = .ok (.bipush 8, 2) := by decide +kernel
theorem dX9_init_401 : decode cX9_init 401 = .ok (.bipush 99, 2) := by decide +kernel
theorem dX9_init_403 : decode cX9_init 403 = .ok (.iastore, 1) := by decide +kernel
theorem dX9_init_404 : decode cX9_init 404 = .ok (.dup, 1) := by decide +kernel
theorem dX9_init_405 : decode cX9_init 405 = .ok (.bipush 9, 2) := by decide +kernel
theorem dX9_init_407 : decode cX9_init 407 = .ok (.bipush 97, 2) := by decide +kernel
theorem dX9_init_409 : decode cX9_init 409 = .ok (.iastore, 1) := by decide +kernel
theorem dX9_init_410 : decode cX9_init 410 = .ok (.dup, 1) := by decide +kernel
theorem dX9_init_411 : decode cX9_init 411 = .ok (.bipush 10, 2) := by decide +kernel
theorem dX9_init_413 : decode cX9_init 413 = .ok (.bipush 114, 2) := by decide +kernel
theorem dX9_init_415 : decode cX9_init 415 = .ok (.iastore, 1) := by decide +kernel
theorem dX9_init_416 : decode cX9_init 416 = .ok (.dup, 1) := by decide +kernel
theorem dX9_init_417 : decode cX9_init 417 = .ok (.bipush 11, 2) := by decide +kernel
theorem dX9_init_419 : decode cX9_init 419 = .ok (.bipush 114, 2) := by decide +kernel
theorem dX9_init_421 : decode cX9_init 421 = .ok (.iastore, 1) := by decide +kernel
theorem dX9_init_422 : decode cX9_init 422 = .ok (.dup, 1) := by decide +kernel
theorem dX9_init_423 : decode cX9_init 423 = .ok (.bipush 12, 2) := by decide +kernel
theorem dX9_init_425 : decode cX9_init 425 = .ok (.bipush 121, 2) := by decide +kernel
theorem dX9_init_427 : decode cX9_init 427 = .ok (.iastore, 1) := by decide +kernel
theorem dX9_init_428 : decode cX9_init 428 = .ok (.dup, 1) := by decide +kernel
theorem dX9_init_429 : decode cX9_init 429 = .ok (.bipush 13, 2) := by decide +kernel
theorem dX9_init_431 : decode cX9_init 431 = .ok (.bipush 32, 2) := by decide +kernel
theorem dX9_init_433 : decode cX9_init 433 = .ok (.iastore, 1) := by decide +kernel
theorem dX9_init_434 : decode cX9_init 434 = .ok (.dup, 1) := by decide +kernel
theorem dX9_init_435 : decode cX9_init 435 = .ok (.bipush 14, 2) := by decide +kernel
theorem dX9_init_437 : decode cX9_init 437 = .ok (.bipush 32, 2) := by decide +kernel
theorem dX9_init_439 : decode cX9_init 439 = .ok (.iastore, 1) := by decide +kernel
theorem dX9_init_440 : decode cX9_init 440 = .ok (.dup, 1) := by decide +kernel
theorem dX9_init_441 : decode cX9_init 441 = .ok (.bipush 15, 2) := by decide +kernel
theorem dX9_init_443 : decode cX9_init 443 = .ok (.bipush 32, 2) := by decide +kernel
theorem dX9_init_445 : decode cX9_init 445 = .ok (.iastore, 1) := by decide +kernel
theorem dX9_init_446 : decode cX9_init 446 = .ok (.dup, 1) := by decide +kernel
theorem dX9_init_447 : decode cX9_init 447 = .ok (.bipush 16, 2) := by decide +kernel
theorem dX9_init_449 : decode cX9_init 449 = .ok (.bipush 109, 2) := by decide +kernel
theorem dX9_init_451 : decode cX9_init 451 = .ok (.iastore, 1) := by decide +kernel
theorem dX9_init_452 : decode cX9_init 452 = .ok (.dup, 1) := by decide +kernel
theorem dX9_init_453 : decode cX9_init 453 = .ok (.bipush 17, 2) := by decide +kernel
theorem dX9_init_455 : decode cX9_init 455 = .ok (.bipush 97, 2) := by decide +kernel
theorem dX9_init_457 : decode cX9_init 457 = .ok (.iastore, 1) := by decide +kernel
theorem dX9_init_458 : decode cX9_init 458 = .ok (.dup, 1) := by decide +kernel
theorem dX9_init_459 : decode cX9_init 459 = .ok (.bipush 18, 2) := by decide +kernel
theorem dX9_init_461 : decode cX9_init 461 = .ok (.bipush 121, 2) := by decide +kernel
theorem dX9_init_463 : decode cX9_init 463 = .ok (.iastore, 1) := by decide +kernel
theorem dX9_init_464 : decode cX9_init 464 = .ok (.dup, 1) := by decide +kernel
theorem dX9_init_465 : decode cX9_init 465 = .ok (.bipush 19, 2) := by decide +kernel
theorem dX9_init_467 : decode cX9_init 467 = .ok (.bipush 32, 2) := by decide +kernel
theorem dX9_init_469 : decode cX9_init 469 = .ok (.iastore, 1) := by decide +kernel
theorem dX9_init_470 : decode cX9_init 470 = .ok (.dup, 1) := by decide +kernel
theorem dX9_init_471 : decode cX9_init 471 = .ok (.bipush 20, 2) := by decide +kernel
theorem dX9_init_473 : decode cX9_init 473 = .ok (.bipush 32, 2) := by decide +kernel
theorem dX9_init_475 : decode cX9_init 475 = .ok (.iastore, 1) := by decide +kernel
theorem dX9_init_476 : decode cX9_init 476 = .ok (.dup, 1) := by decide +kernel
theorem dX9_init_477 : decode cX9_init 477 = .ok (.bipush 21, 2) := by decide +kernel
theorem dX9_init_479 : decode cX9_init 479 = .ok (.bipush 32, 2) := by decide +kernel
theorem dX9_init_481 : decode cX9_init 481 = .ok (.iastore, 1) := by decide +kernel
theorem dX9_init_482 : decode cX9_init 482 = .ok (.dup, 1) := by decide +kernel
theorem dX9_init_483 : decode cX9_init 483 = .ok (.bipush 22, 2) := by decide +kernel
theorem dX9_init_485 : decode cX9_init 485 = .ok (.bipush 32, 2) := by decide +kernel
theorem dX9_init_487 : decode cX9_init 487 = .ok (.iastore, 1) := by decide +kernel
theorem dX9_init_488 : decode cX9_init 488 = .ok (.dup, 1) := by decide +kernel
theorem dX9_init_489 : decode cX9_init 489 = .ok (.bipush 23, 2) := by decide +kernel
theorem dX9_init_491 : decode cX9_init 491 = .ok (.bipush 32, 2) := by decide +kernel
theorem dX9_init_493 : decode cX9_init 493 = .ok (.iastore, 1) := by decide +kernel
theorem dX9_init_494 : decode cX9_init 494 = .ok (.dup, 1) := by decide +kernel
theorem dX9_init_495 : decode cX9_init 495 = .ok (.bipush 24, 2) := by decide +kernel
theorem dX9_init_497 : decode cX9_init 497 = .ok (.bipush 98, 2) := by decide +kernel
theorem dX9_init_499 : decode cX9_init 499 = .ok (.iastore, 1) := by decide +kernel
theorem dX9_init_500 : decode cX9_init 500 = .ok (.dup, 1) := by decide +kernel
theorem dX9_init_501 : decode cX9_init 501 = .ok (.bipush 25, 2) := by decide +kernel
theorem dX9_init_503 : decode cX9_init 503 = .ok (.bipush 97, 2) := by decide +kernel
theorem dX9_init_505 : decode cX9_init 505 = .ok (.iastore, 1) := by decide +kernel
theorem dX9_init_506 : decode cX9_init 506 = .ok (.dup, 1) := by decide +kernel
theorem dX9_init_507 : decode cX9_init 507 = .ok (.bipush 26, 2) := by decide +kernel
theorem dX9_init_509 : decode cX9_init 509 = .ok (.bipush 115, 2) := by decide +kernel
theorem dX9_init_511 : decode cX9_init 511 = .ok (.iastore, 1) := by decide +kernel
theorem dX9_init_512 : decode cX9_init 512 = .ok (.dup, 1) := by decide +kernel
theorem dX9_init_513 : decode cX9_init 513 = .ok (.bipush 27, 2) := by decide +kernel
theorem dX9_init_515 : decode cX9_init 515 = .ok (.bipush 101, 2) := by decide +kernel
theorem dX9_init_517 : decode cX9_init 517 = .ok (.iastore, 1) := by decide +kernel
theorem dX9_init_518 : decode cX9_init 518 = .ok (.dup, 1) := by decide +kernel
theorem dX9_init_519 : decode cX9_init 519 = .ok (.bipush 28, 2) := by decide +kernel
theorem dX9_init_521 : decode cX9_init 521 = .ok (.bipush 32, 2) := by decide +kernel
theorem dX9_init_523 : decode cX9_init 523 = .ok (.iastore, 1) := by decide +kernel
theorem dX9_init_524 : decode cX9_init 524 = .ok (.dup, 1) := by decide +kernel
theorem dX9_init_525 : decode cX9_init 525 = .ok (.bipush 29, 2) := by decide +kernel
theorem dX9_init_527 : decode cX9_init 527 = .ok (.bipush 32, 2) := by decide +kernel
theorem dX9_init_529 : decode cX9_init 529 = .ok (.iastore, 1) := by decide +kernel
theorem dX9_init_530 : decode cX9_init 530 = .ok (.dup, 1) := by decide +kernel
theorem dX9_init_531 : decode cX9_init 531 = .ok (.bipush 30, 2) := by decide +kernel
theorem dX9_init_533 : decode cX9_init 533 = .ok (.bipush 32, 2) := by decide +kernel
theorem dX9_init_535 : decode cX9_init 535 = .ok (.iastore, 1) := by decide +kernel
theorem dX9_init_536 : decode cX9_init 536 = .ok (.dup, 1) := by decide +kernel
theorem dX9_init_537 : decode cX9_init 537 = .ok (.bipush 31, 2) := by decide +kernel
theorem dX9_init_539 : decode cX9_init 539 = .ok (.bipush 32, 2) := by decide +kernel
theorem dX9_init_541 : decode cX9_init 541 = .ok (.iastore, 1) := by decide +kernel
theorem dX9_init_542 : decode cX9_init 542 = .ok (.dup, 1) := by decide +kernel
theorem dX9_init_543 : decode cX9_init 543 = .ok (.bipush 32, 2) := by decide +kernel
theorem dX9_init_545 : decode cX9_init 545 = .ok (.bipush 109, 2) := by decide +kernel
theorem dX9_init_547 : decode cX9_init 547 = .ok (.iastore, 1) := by decide +kernel
theorem dX9_init_548 : decode cX9_init 548 = .ok (.dup, 1) := by decide +kernel
theorem dX9_init_549 : decode cX9_init 549 = .ok (.bipush 33, 2) := by decide +kernel
theorem dX9_init_551 : decode cX9_init 551 = .ok (.bipush 111, 2) := by decide +kernel
theorem dX9_init_553 : decode cX9_init 553 = .ok (.iastore, 1) := by decide +kernel
theorem dX9_init_554 : decode cX9_init 554 = .ok (.dup, 1) := by decide +kernel
theorem dX9_init_555 : decode cX9_init 555 = .ok (.bipush 34, 2) := by decide +kernel
theorem dX9_init_557 : decode cX9_init 557 = .ok (.bipush 114, 2) := by decide +kernel
theorem dX9_init_559 : decode cX9_init 559 = .ok (.iastore, 1) := by decide +kernel
theorem dX9_init_560 : decode cX9_init 560 = .ok (.dup, 1) := by decide +kernel
theorem dX9_init_561 : decode cX9_init 561 = .ok (.bipush 35, 2) := by decide +kernel
theorem dX9_init_563 : decode cX9_init 563 = .ok (.bipush 101, 2) := by decide +kernel
theorem dX9_init_565 : decode cX9_init 565 = .ok (.iastore, 1) := by decide +kernel
theorem dX9_init_566 : decode cX9_init 566 = .ok (.dup, 1) := by decide +kernel
theorem dX9_init_567 : decode cX9_init 567 = .ok (.bipush 36, 2) := by decide +kernel
theorem dX9_init_569 : decode cX9_init 569 = .ok (.bipush 32, 2) := by decide +kernel
theorem dX9_init_571 : decode cX9_init 571 = .ok (.iastore, 1) := by decide +kernel
theorem dX9_init_572 : decode cX9_init 572 = .ok (.dup, 1) := by decide +kernel
theorem dX9_init_573 : decode cX9_init 573 = .ok (.bipush 37, 2) := by decide +kernel
theorem dX9_init_575 : decode cX9_init 575 = .ok (.bipush 32, 2) := by decide +kernel
theorem dX9_init_577 : decode cX9_init 577 = .ok (.iastore, 1) := by decide +kernel
theorem dX9_init_578 : decode cX9_init 578 = .ok (.dup, 1) := by decide +kernel
theorem dX9_init_579 : decode cX9_init 579 = .ok (.bipush 38, 2) := by decide +kernel
theorem dX9_init_581 : decode cX9_init 581 = .ok (.bipush 32, 2) := by decide +kernel
theorem dX9_init_583 : decode cX9_init 583 = .ok (.iastore, 1) := by decide +kernel
theorem dX9_init_584 : decode cX9_init 584 = .ok (.dup, 1) := by decide +kernel
theorem dX9_init_585 : decode cX9_init 585 = .ok (.bipush 39, 2) := by decide +kernel
theorem dX9_init_587 : decode cX9_init 587 = .ok (.bipush 32, 2) := by decide +kernel
theorem dX9_init_589 : decode cX9_init 589 = .ok (.iastore, 1) := by decide +kernel
theorem dX9_init_590 : decode cX9_init 590 = .ok (.dup, 1) := by decide +kernel
theorem dX9_init_591 : decode cX9_init 591 = .ok (.bipush 40, 2) := by decide +kernel
theorem dX9_init_593 : decode cX9_init 593 = .ok (.bipush 104, 2) := by decide +kernel
theorem dX9_init_595 : decode cX9_init 595 = .ok (.iastore, 1) := by decide +kernel
theorem dX9_init_596 : decode cX9_init 596 = .ok (.dup, 1) := by decide +kernel
theorem dX9_init_597 : decode cX9_init 597 = .ok (.bipush 41, 2) := by decide +kernel
theorem dX9_init_599 : decode cX9_init 599 = .ok (.bipush 111, 2) := by decide +kernel
theorem dX9_init_601 : decode cX9_init 601 = .ok (.iastore, 1) := by decide +kernel
theorem dX9_init_602 : decode cX9_init 602 = .ok (.dup, 1) := by decide +kernel
theorem dX9_init_603 : decode cX9_init 603 = .ok (.bipush 42, 2) := by decide +kernel
theorem dX9_init_605 : decode cX9_init 605 = .ok (.bipush 117, 2) := by decide +kernel
theorem dX9_init_607 : decode cX9_init 607 = .ok (.iastore, 1) := by decide +kernel
theorem dX9_init_608 : decode cX9_init 608 = .ok (.dup, 1) := by decide +kernel
theorem dX9_init_609 : decode cX9_init 609 = .ok (.bipush 43, 2) := by decide +kernel
theorem dX9_init_611 : decode cX9_init 611 = .ok (.bipush 114, 2) := by decide +kernel
theorem dX9_init_613 : decode cX9_init 613 = .ok (.iastore, 1) := by decide +kernel
theorem dX9_init_614 : decode cX9_init 614 = .ok (.dup, 1) := by decide +kernel
theorem dX9_init_615 : decode cX9_init 615 = .ok (.bipush 44, 2) := by decide +kernel
theorem dX9_init_617 : decode cX9_init 617 = .ok (.bipush 32, 2) := by decide +kernel
theorem dX9_init_619 : decode cX9_init 619 = .ok (.iastore, 1) := by decide +kernel
theorem dX9_init_620 : decode cX9_init 620 = .ok (.dup, 1) := by decide +kernel
theorem dX9_init_621 : decode cX9_init 621 = .ok (.bipush 45, 2) := by decide +kernel
theorem dX9_init_623 : decode cX9_init 623 = .ok (.bipush 32, 2) := by decide +kernel
theorem dX9_init_625 : decode cX9_init 625 = .ok (.iastore, 1) := by decide +kernel
theorem dX9_init_626 : decode cX9_init 626 = .ok (.dup, 1) := by decide +kernel
theorem dX9_init_627 : decode cX9_init 627 = .ok (.bipush 46, 2) := by decide +kernel
theorem dX9_init_629 : decode cX9_init 629 = .ok (.bipush 32, 2) := by decide +kernel
theorem dX9_init_631 : decode cX9_init 631 = .ok (.iastore, 1) := by decide +kernel
theorem dX9_init_632 : decode cX9_init 632 = .ok (.dup, 1) := by decide +kernel
theorem dX9_init_633 : decode cX9_init 633 = .ok (.bipush 47, 2) := by decide +kernel
theorem dX9_init_635 : decode cX9_init 635 = .ok (.bipush 32, 2) := by decide +kernel
theorem dX9_init_637 : decode cX9_init 637 = .ok (.iastore, 1) := by decide +kernel
theorem dX9_init_638 : decode cX9_init 638 = .ok (.dup, 1) := by decide +kernel
theorem dX9_init_639 : decode cX9_init 639 = .ok (.bipush 48, 2) := by decide +kernel
theorem dX9_init_641 : decode cX9_init 641 = .ok (.bipush 102, 2) := by decide +kernel
theorem dX9_init_643 : decode cX9_init 643 = .ok (.iastore, 1) := by decide +kernel
theorem dX9_init_644 : decode cX9_init 644 = .ok (.dup, 1) := by decide +kernel
theorem dX9_init_645 : decode cX9_init 645 = .ok (.bipush 49, 2) := by decide +kernel
theorem dX9_init_647 : decode cX9_init 647 = .ok (.bipush 114, 2) := by decide +kernel
theorem dX9_init_649 : decode cX9_init 649 = .ok (.iastore, 1) := by decide +kernel
theorem dX9_init_650 : decode cX9_init 650 = .ok (.dup, 1) := by decide +kernel
theorem dX9_init_651 : decode cX9_init 651 = .ok (.bipush 50, 2) := by decide +kernel
theorem dX9_init_653 : decode cX9_init 653 = .ok (.bipush 111, 2) := by decide +kernel
theorem dX9_init_655 : decode cX9_init 655 = .ok (.iastore, 1) := by decide +kernel
theorem dX9_init_656 : decode cX9_init 656 = .ok (.dup, 1) := by decide +kernel
theorem dX9_init_657 : decode cX9_init 657 = .ok (.bipush 51, 2) := by decide +kernel
theorem dX9_init_659 : decode cX9_init 659 = .ok (.bipush 109, 2) := by decide +kernel
theorem dX9_init_661 : decode cX9_init 661 = .ok (.iastore, 1) := by decide +kernel
theorem dX9_init_662 : decode cX9_init 662 = .ok (.dup, 1) := by decide +kernel
theorem dX9_init_663 : decode cX9_init 663 = .ok (.bipush 52, 2) := by decide +kernel
theorem dX9_init_665 : decode cX9_init 665 = .ok (.bipush 32, 2) := by decide +kernel
theorem dX9_init_667 : decode cX9_init 667 = .ok (.iastore, 1) := by decide +kernel
theorem dX9_init_668 : decode cX9_init 668 = .ok (.dup, 1) := by decide +kernel
theorem dX9_init_669 : decode cX9_init 669 = .ok (.bipush 53, 2) := by decide +kernel
theorem dX9_init_671 : decode cX9_init 671 = .ok (.bipush 32, 2) := by decide +kernel
theorem dX9_init_673 : decode cX9_init 673 = .ok (.iastore, 1) := by decide +kernel
theorem dX9_init_674 : decode cX9_init 674 = .ok (.dup, 1) := by decide +kernel
theorem dX9_init_675 : decode cX9_init 675 = .ok (.bipush 54, 2) := by decide +kernel
theorem dX9_init_677 : decode cX9_init 677 = .ok (.bipush 32, 2) := by decide +kernel
theorem dX9_init_679 : decode cX9_init 679 = .ok (.iastore, 1) := by decide +kernel
theorem dX9_init_680 : decode cX9_init 680 = .ok (.dup, 1) := by decide +kernel
theorem dX9_init_681 : decode cX9_init 681 = .ok (.bipush 55, 2) := by decide +kernel
theorem dX9_init_683 : decode cX9_init 683 = .ok (.bipush 32, 2) := by decide +kernel
theorem dX9_init_685 : decode cX9_init 685 = .ok (.iastore, 1) := by decide +kernel
theorem dX9_init_686 : decode cX9_init 686 = .ok (.dup, 1) := by decide +kernel
theorem dX9_init_687 : decode cX9_init 687 = .ok (.bipush 56, 2) := by decide +kernel
theorem dX9_init_689 : decode cX9_init 689 = .ok (.bipush 116, 2) := by decide +kernel
theorem dX9_init_691 : decode cX9_init 691 = .ok (.iastore, 1) := by decide +kernel
theorem dX9_init_692 : decode cX9_init 692 = .ok (.dup, 1) := by decide +kernel
theorem dX9_init_693 : decode cX9_init 693 = .ok (.bipush 57, 2) := by decide +kernel
theorem dX9_init_695 : decode cX9_init 695 = .ok (.bipush 111, 2) := by decide +kernel
theorem dX9_init_697 : decode cX9_init 697 = .ok (.iastore, 1) := by decide +kernel
theorem dX9_init_698 : decode cX9_init 698 = .ok (.dup, 1) := by decide +kernel
theorem dX9_init_699 : decode cX9_init 699 = .ok (.bipush 58, 2) := by decide +kernel
theorem dX9_init_701 : decode cX9_init 701 = .ok (.bipush 32, 2) := by decide +kernel
theorem dX9_init_703 : decode cX9_init 703 = .ok (.iastore, 1) := by decide +kernel
theorem dX9_init_704 : decode cX9_init 704 = .ok (.dup, 1) := by decide +kernel
theorem dX9_init_705 : decode cX9_init 705 = .ok (.bipush 59, 2) := by decide +kernel
theorem dX9_init_707 : decode cX9_init 707 = .ok (.bipush 32, 2) := by decide +kernel
theorem dX9_init_709 : decode cX9_init 709 = .ok (.iastore, 1) := by decide +kernel
theorem dX9_init_710 : decode cX9_init 710 = .ok (.dup, 1) := by decide +kernel
theorem dX9_init_711 : decode cX9_init 711 = .ok (.bipush 60, 2) := by decide +kernel
theorem dX9_init_713 : decode cX9_init 713 = .ok (.bipush 32, 2) := by decide +kernel
theorem dX9_init_715 : decode cX9_init 715 = .ok (.iastore, 1) := by decide +kernel
theorem dX9_init_716 : decode cX9_init 716 = .ok (.dup, 1) := by decide +kernel
theorem dX9_init_717 : decode cX9_init 717 = .ok (.bipush 61, 2) := by decide +kernel
theorem dX9_init_719 : decode cX9_init 719 = .ok (.bipush 32, 2) := by decide +kernel
theorem dX9_init_721 : decode cX9_init 721 = .ok (.iastore, 1) := by decide +kernel
theorem dX9_init_722 : decode cX9_init 722 = .ok (.dup, 1) := by decide +kernel
theorem dX9_init_723 : decode cX9_init 723 = .ok (.bipush 62, 2) := by decide +kernel
theorem dX9_init_725 : decode cX9_init 725 = .ok (.bipush 32, 2) := by decide +kernel
theorem dX9_init_727 : decode cX9_init 727 = .ok (.iastore, 1) := by decide +kernel
theorem dX9_init_728 : decode cX9_init 728 = .ok (.dup, 1) := by decide +kernel
theorem dX9_init_729 : decode cX9_init 729 = .ok (.bipush 63, 2) := by decide +kernel
theorem dX9_init_731 : decode cX9_init 731 = .ok (.bipush 32, 2) := by decide +kernel
theorem dX9_init_733 : decode cX9_init 733 = .ok (.iastore, 1) := by decide +kernel
theorem dX9_init_734 : decode cX9_init 734 = .ok (.dup, 1) := by decide +kernel
theorem dX9_init_735 : decode cX9_init 735 = .ok (.bipush 64, 2) := by decide +kernel
theorem dX9_init_737 : decode cX9_init 737 = .ok (.bipush 115, 2) := by decide +kernel
theorem dX9_init_739 : decode cX9_init 739 = .ok (.iastore, 1) := by decide +kernel
theorem dX9_init_740 : decode cX9_init 740 = .ok (.dup, 1) := by decide +kernel
theorem dX9_init_741 : decode cX9_init 741 = .ok (.bipush 65, 2) := by decide +kernel
theorem dX9_init_743 : decode cX9_init 743 = .ok (.bipush 116, 2) := by decide +kernel
theorem dX9_init_745 : decode cX9_init 745 = .ok (.iastore, 1) := by decide +kernel
theorem dX9_init_746 : decode cX9_init 746 = .ok (.dup, 1) := by decide +kernel
theorem dX9_init_747 : decode cX9_init 747 = .ok (.bipush 66, 2) := by decide +kernel
theorem dX9_init_749 : decode cX9_init 749 = .ok (.bipush 114, 2) := by decide +kernel
theorem dX9_init_751 : decode cX9_init 751 = .ok (.iastore, 1) := by decide +kernel
theorem dX9_init_752 : decode cX9_init 752 = .ok (.dup, 1) := by decide +kernel
theorem dX9_init_753 : decode cX9_init 753 = .ok (.bipush 67, 2) := by decide +kernel
theorem dX9_init_755 : decode cX9_init 755 = .ok (.bipush 101, 2) := by decide +kernel
theorem dX9_init_757 : decode cX9_init 757 = .ok (.iastore, 1) := by decide +kernel
theorem dX9_init_758 : decode cX9_init 758 = .ok (.dup, 1) := by decide +kernel
theorem dX9_init_759 : decode cX9_init 759 = .ok (.bipush 68, 2) := by decide +kernel
theorem dX9_init_761 : decode cX9_init 761 = .ok (.bipush 101, 2) := by decide +kernel
theorem dX9_init_763 : decode cX9_init 763 = .ok (.iastore, 1) := by decide +kernel
theorem dX9_init_764 : decode cX9_init 764 = .ok (.dup, 1) := by decide +kernel
theorem dX9_init_765 : decode cX9_init 765 = .ok (.bipush 69, 2) := by decide +kernel
theorem dX9_init_767 : decode cX9_init 767 = .ok (.bipush 116, 2) := by decide +kernel
theorem dX9_init_769 : decode cX9_init 769 = .ok (.iastore, 1) := by decide +kernel
theorem dX9_init_770 : decode cX9_init 770 = .ok (.dup, 1) := by decide +kernel
theorem dX9_init_771 : decode cX9_init 771 = .ok (.bipush 70, 2) := by decide +kernel
theorem dX9_init_773 : decode cX9_init 773 = .ok (.bipush 32, 2) := by decide +kernel
theorem dX9_init_775 : decode cX9_init 775 = .ok (.iastore, 1) := by decide +kernel
theorem dX9_init_776 : decode cX9_init 776 = .ok (.dup, 1) := by decide +kernel
theorem dX9_init_777 : decode cX9_init 777 = .ok (.bipush 71, 2) := by decide +kernel
theorem dX9_init_779 : decode cX9_init 779 = .ok (.bipush 32, 2) := by decide +kernel
theorem dX9_init_781 : decode cX9_init 781 = .ok (.iastore, 1) := by decide +kernel
theorem dX9_init_782 : decode cX9_init 782 = .ok (.dup, 1) := by decide +kernel
theorem dX9_init_783 : decode cX9_init 783 = .ok (.bipush 72, 2) := by decide +kernel
theorem dX9_init_785 : decode cX9_init 785 = .ok (.bipush 111, 2) := by decide +kernel
theorem dX9_init_787 : decode cX9_init 787 = .ok (.iastore, 1) := by decide +kernel
theorem dX9_init_788 : decode cX9_init 788 = .ok (.dup, 1) := by decide +kernel
theorem dX9_init_789 : decode cX9_init 789 = .ok (.bipush 73, 2) := by decide +kernel
theorem dX9_init_791 : decode cX9_init 791 = .ok (.bipush 114, 2) := by decide +kernel
theorem dX9_init_793 : decode cX9_init 793 = .ok (.iastore, 1) := by decide +kernel
theorem dX9_init_794 : decode cX9_init 794 = .ok (.dup, 1) := by decide +kernel
theorem dX9_init_795 : decode cX9_init 795 = .ok (.bipush 74, 2) := by decide +kernel
theorem dX9_init_797 : decode cX9_init 797 = .ok (.bipush 32, 2) := by decide +kernel
theorem dX9_init_799 : decode cX9_init 799 = .ok (.iastore, 1) := by decide +kernel
theorem dX9_init_800 : decode cX9_init 800 = .ok (.dup, 1) := by decide +kernel
theorem dX9_init_801 : decode cX9_init 801 = .ok (.bipush 75, 2) := by decide +kernel
theorem dX9_init_803 : decode cX9_init 803 = .ok (.bipush 32, 2) := by decide +kernel
theorem dX9_init_805 : decode cX9_init 805 = .ok (.iastore, 1) := by decide +kernel
theorem dX9_init_806 : decode cX9_init 806 = .ok (.dup, 1) := by decide +kernel
theorem dX9_init_807 : decode cX9_init 807 = .ok (.bipush 76, 2) := by decide +kernel
theorem dX9_init_809 : decode cX9_init 809 = .ok (.bipush 32, 2) := by decide +kernel
theorem dX9_init_811 : decode cX9_init 811 = .ok (.iastore, 1) := by decide +kernel
theorem dX9_init_812 : decode cX9_init 812 = .ok (.dup, 1) := by decide +kernel
theorem dX9_init_813 : decode cX9_init 813 = .ok (.bipush 77, 2) := by decide +kernel
theorem dX9_init_815 : decode cX9_init 815 = .ok (.bipush 32, 2) := by decide +kernel
theorem dX9_init_817 : decode cX9_init 817 = .ok (.iastore, 1) := by decide +kernel
theorem dX9_init_818 : decode cX9_init 818 = .ok (.dup, 1) := by decide +kernel
theorem dX9_init_819 : decode cX9_init 819 = .ok (.bipush 78, 2) := by decide +kernel
theorem dX9_init_821 : decode cX9_init 821 = .ok (.bipush 32, 2) := by decide +kernel
theorem dX9_init_823 : decode cX9_init 823 = .ok (.iastore, 1) := by decide +kernel
theorem dX9_init_824 : decode cX9_init 824 = .ok (.dup, 1) := by decide +kernel
theorem dX9_init_825 : decode cX9_init 825 = .ok (.bipush 79, 2) := by decide +kernel
theorem dX9_init_827 : decode cX9_init 827 = .ok (.bipush 32, 2) := by decide +kernel
theorem dX9_init_829 : decode cX9_init 829 = .ok (.iastore, 1) := by decide +kernel
theorem dX9_init_830 : decode cX9_init 830 = .ok (.dup, 1) := by decide +kernel
theorem dX9_init_831 : decode cX9_init 831 = .ok (.bipush 80, 2) := by decide +kernel
theorem dX9_init_833 : decode cX9_init 833 = .ok (.bipush 97, 2) := by decide +kernel
theorem dX9_init_835 : decode cX9_init 835 = .ok (.iastore, 1) := by decide +kernel
theorem dX9_init_836 : decode cX9_init 836 = .ok (.dup, 1) := by decide +kernel
theorem dX9_init_837 : decode cX9_init 837 = .ok (.bipush 81, 2) := by decide +kernel
theorem dX9_init_839 : decode cX9_init 839 = .ok (.bipush 110, 2) := by decide +kernel
theorem dX9_init_841 : decode cX9_init 841 = .ok (.iastore, 1) := by decide +kernel
theorem dX9_init_842 : decode cX9_init 842 = .ok (.dup, 1) := by decide +kernel
theorem dX9_init_843 : decode cX9_init 843 = .ok (.bipush 82, 2) := by decide +kernel
theorem dX9_init_845 : decode cX9_init 845 = .ok (.bipush 100, 2) := by decide +kernel
theorem dX9_init_847 : decode cX9_init 847 = .ok (.iastore, 1) := by decide +kernel
theorem dX9_init_848 : decode cX9_init 848 = .ok (.dup, 1) := by decide +kernel
theorem dX9_init_849 : decode cX9_init 849 = .ok (.bipush 83, 2) := by decide +kernel
theorem dX9_init_851 : decode cX9_init 851 = .ok (.bipush 32, 2) := by decide +kernel
theorem dX9_init_853 : decode cX9_init 853 = .ok (.iastore, 1) := by decide +kernel
theorem dX9_init_854 : decode cX9_init 854 = .ok (.dup, 1) := by decide +kernel
theorem dX9_init_855 : decode cX9_init 855 = .ok (.bipush 84, 2) := by decide +kernel
theorem dX9_init_857 : decode cX9_init 857 = .ok (.bipush 32, 2) := by decide +kernel
theorem dX9_init_859 : decode cX9_init 859 = .ok (.iastore, 1) := by decide +kernel
theorem dX9_init_860 : decode cX9_init 860 = .ok (.dup, 1) := by decide +kernel
theorem dX9_init_861 : decode cX9_init 861 = .ok (.bipush 85, 2) := by decide +kernel
theorem dX9_init_863 : decode cX9_init 863 = .ok (.bipush 32, 2) := by decide +kernel
theorem dX9_init_865 : decode cX9_init 865 = .ok (.iastore, 1) := by decide +kernel
theorem dX9_init_866 : decode cX9_init 866 = .ok (.dup, 1) := by decide +kernel
theorem dX9_init_867 : decode cX9_init 867 = .ok (.bipush 86, 2) := by decide +kernel
theorem dX9_init_869 : decode cX9_init 869 = .ok (.bipush 32, 2) := by decide +kernel
theorem dX9_init_871 : decode cX9_init 871 = .ok (.iastore, 1) := by decide +kernel
theorem dX9_init_872 : decode cX9_init 872 = .ok (.dup, 1) := by decide +kernel
theorem dX9_init_873 : decode cX9_init 873 = .ok (.bipush 87, 2) := by decide +kernel
theorem dX9_init_875 : decode cX9_init 875 = .ok (.bipush 32, 2) := by decide +kernel
theorem dX9_init_877 : decode cX9_init 877 = .ok (.iastore, 1) := by decide +kernel
theorem dX9_init_878 : decode cX9_init 878 = .ok (.dup, 1) := by decide +kernel
theorem dX9_init_879 : decode cX9_init 879 = .ok (.bipush 88, 2) := by decide +kernel
theorem dX9_init_881 : decode cX9_init 881 = .ok (.bipush 110, 2) := by decide +kernel
theorem dX9_init_883 : decode cX9_init 883 = .ok (.iastore, 1) := by decide +kernel
theorem dX9_init_884 : decode cX9_init 884 = .ok (.dup, 1) := by decide +kernel
theorem dX9_init_885 : decode cX9_init 885 = .ok (.bipush 89, 2) := by decide +kernel
theorem dX9_init_887 : decode cX9_init 887 = .ok (.bipush 111, 2) := by decide +kernel
theorem dX9_init_889 : decode cX9_init 889 = .ok (.iastore, 1) := by decide +kernel
theorem dX9_init_890 : decode cX9_init 890 = .ok (.dup, 1) := by decide +kernel
theorem dX9_init_891 : decode cX9_init 891 = .ok (.bipush 90, 2) := by decide +kernel
theorem dX9_init_893 : decode cX9_init 893 = .ok (.bipush 116, 2) := by decide +kernel
theorem dX9_init_895 : decode cX9_init 895 = .ok (.iastore, 1) := by decide +kernel
theorem dX9_init_896 : decode cX9_init 896 = .ok (.dup, 1) := by decide +kernel
theorem dX9_init_897 : decode cX9_init 897 = .ok (.bipush 91, 2) := by decide +kernel
theorem dX9_init_899 : decode cX9_init 899 = .ok (.bipush 32, 2) := by decide +kernel
theorem dX9_init_901 : decode cX9_init 901 = .ok (.iastore, 1) := by decide +kernel
theorem dX9_init_902 : decode cX9_init 902 = .ok (.dup, 1) := by decide +kernel
theorem dX9_init_903 : decode cX9_init 903 = .ok (.bipush 92, 2) := by decide +kernel
theorem dX9_init_905 : decode cX9_init 905 = .ok (.bipush 32, 2) := by decide +kernel
theorem dX9_init_907 : decode cX9_init 907 = .ok (.iastore, 1) := by decide +kernel
theorem dX9_init_908 : decode cX9_init 908 = .ok (.dup, 1) := by decide +kernel
theorem dX9_init_909 : decode cX9_init 909 = .ok (.bipush 93, 2) := by decide +kernel
theorem dX9_init_911 : decode cX9_init 911 = .ok (.bipush 32, 2) := by decide +kernel
theorem dX9_init_913 : decode cX9_init 913 = .ok (.iastore, 1) := by decide +kernel
theorem dX9_init_914 : decode cX9_init 914 = .ok (.dup, 1) := by decide +kernel
theorem dX9_init_915 : decode cX9_init 915 = .ok (.bipush 94, 2) := by decide +kernel
theorem dX9_init_917 : decode cX9_init 917 = .ok (.bipush 32, 2) := by decide +kernel
theorem dX9_init_919 : decode cX9_init 919 = .ok (.iastore, 1) := by decide +kernel
theorem dX9_init_920 : decode cX9_init 920 = .ok (.dup, 1) := by decide +kernel
theorem dX9_init_921 : decode cX9_init 921 = .ok (.bipush 95, 2) := by decide +kernel
theorem dX9_init_923 : decode cX9_init 923 = .ok (.bipush 32, 2) := by decide +kernel
theorem dX9_init_925 : decode cX9_init 925 = .ok (.iastore, 1) := by decide +kernel
theorem dX9_init_926 : decode cX9_init 926 = .ok (.putfield 50, 3) := by decide +kernel
theorem dX9_init_929 : decode cX9_init 929 = .ok (.aload_n 0, 1) := by decide +kernel
theorem dX9_init_930 : decode cX9_init 930 = .ok (.sipush 200, 3) := by decide +kernel
theorem dX9_init_933 : decode cX9_init 933 = .ok (.newarray .int, 2) := by decide +kernel
theorem dX9_init_935 : decode cX9_init 935 = .ok (.putfield 53, 3) := by decide +kernel
theorem dX9_init_938 : decode cX9_init 938 = .ok (.aload_n 0, 1) := by decide +kernel
theorem dX9_init_939 : decode cX9_init 939 = .ok (.sipush 200, 3) := by decide +kernel
theorem dX9_init_942 : decode cX9_init 942 = .ok (.newarray .int, 2) := by decide +kernel
theorem dX9_init_944 : decode cX9_init 944 = .ok (.putfield 56, 3) := by decide +kernel
theorem dX9_init_947 : decode cX9_init 947 = .ok (.aload_n 0, 1) := by decide +kernel
theorem dX9_init_948 : decode cX9_init 948 = .ok (.bipush 6, 2) := by decide +kernel
theorem dX9_init_950 : decode cX9_init 950 = .ok (.newarray .int, 2) := by decide +kernel
theorem dX9_init_952 : decode cX9_init 952 = .ok (.putfield 59, 3) := by decide +kernel
theorem dX9_init_955 : decode cX9_init 955 = .ok (.aload_n 0, 1) := by decide +kernel
theorem dX9_init_956 : decode cX9_init 956 = .ok (.bipush 52, 2) := by decide +kernel
theorem dX9_init_958 : decode cX9_init 958 = .ok (.newarray .int, 2) := by decide +kernel
theorem dX9_init_960 : decode cX9_init 960 = .ok (.putfield 62, 3) := by decide +kernel
theorem dX9_init_963 : decode cX9_init 963 = .ok (.aload_n 0, 1) := by decide +kernel
theorem dX9_init_964 : decode cX9_init 964 = .ok (.bipush 13, 2) := by decide +kernel
theorem dX9_init_966 : decode cX9_init 966 = .ok (.newarray .int, 2) := by decide +kernel
theorem dX9_init_968 : decode cX9_init 968 = .ok (.putfield 65, 3) := by decide +kernel
theorem dX9_init_971 : decode cX9_init 971 = .ok (.aload_n 0, 1) := by decide +kernel
theorem dX9_init_972 : decode cX9_init 972 = .ok (.ldc 68, 2) := by decide +kernel
theorem dX9_init_974 : decode cX9_init 974 = .ok (.newarray .int, 2) := by decide +kernel
theorem dX9_init_976 : decode cX9_init 976 = .ok (.putfield 69, 3) := by decide +kernel
theorem dX9_init_979 : decode cX9_init 979 = .ok (.aload_n 0, 1) := by decide +kernel
theorem dX9_init_980 : decode cX9_init 980 = .ok (.ldc 68, 2) := by decide +kernel
theorem dX9_init_982 : decode cX9_init 982 = .ok (.newarray .int, 2) := by decide +kernel
theorem dX9_init_984 : decode cX9_init 984 = .ok (.putfield 72, 3) := by decide +kernel
theorem dX9_init_987 : decode cX9_init 987 = .ok (.aload_n 0, 1) := by decide +kernel
theorem dX9_init_988 : decode cX9_init 988 = .ok (.bipush 12, 2) := by decide +kernel
theorem dX9_init_990 : decode cX9_init 990 = .ok (.newarray .int, 2) := by decide +kernel
theorem dX9_init_992 : decode cX9_init 992 = .ok (.putfield 75, 3) := by decide +kernel
theorem dX9_init_995 : decode cX9_init 995 = .ok (.aload_n 0, 1) := by decide +kernel
theorem dX9_init_996 : decode cX9_init 996 = .ok (.sipush 4096, 3) := by decide +kernel
theorem dX9_init_999 : decode cX9_init 999 = .ok (.newarray .int, 2) := by decide +kernel
theorem dX9_init_1001 : decode cX9_init 1001 = .ok (.putfield 78, 3) := by decide +kernel
theorem dX9_init_1004 : decode cX9_init 1004 = .ok (.iconst 0, 1) := by decide +kernel
theorem dX9_init_1005 : decode cX9_init 1005 = .ok (.istore_n 1, 1) := by decide +kernel
theorem dX9_init_1006 : decode cX9_init 1006 = .ok (.iload_n 1, 1) := by decide +kernel
theorem dX9_init_1007 : decode cX9_init 1007 = .ok (.bipush 39, 2) := by decide +kernel
theorem dX9_init_1009 : decode cX9_init 1009 = .ok (.if_icmp .ge 21, 3) := by decide +kernel
theorem dX9_init_1012 : decode cX9_init 1012 = .ok (.aload_n 0, 1) := by decide +kernel
theorem dX9_init_1013 : decode cX9_init 1013 = .ok (.getfield 29, 3) := by decide +kernel
theorem dX9_init_1016 : decode cX9_init 1016 = .ok (.iload_n 1, 1) := by decide +kernel
theorem dX9_init_1017 : decode cX9_init 1017 = .ok (.aload_n 0, 1) := by decide +kernel
theorem dX9_init_1018 : decode cX9_init 1018 = .ok (.getfield 47, 3) := by decide +kernel
theorem dX9_init_1021 : decode cX9_init 1021 = .ok (.iload_n 1, 1) := by decide +kernel
theorem dX9_init_1022 : decode cX9_init 1022 = .ok (.iaload, 1) := by decide +kernel
theorem dX9_init_1023 : decode cX9_init 1023 = .ok (.iastore, 1) := by decide +kernel
theorem dX9_init_1024 : decode cX9_init 1024 = .ok (.iinc 1 1, 3) := by decide +kernel
theorem dX9_init_1027 : decode cX9_init 1027 = .ok (.goto (-21), 3) := by decide +kernel
theorem dX9_init_1030 : decode cX9_init 1030 = .ok (.aload_n 0, 1) := by decide +kernel
theorem dX9_init_1031 : decode cX9_init 1031 = .ok (.bipush 39, 2) := by decide +kernel
theorem dX9_init_1033 : decode cX9_init 1033 = .ok (.putfield 81, 3) := by decide +kernel
theorem dX9_init_1036 : decode cX9_init 1036 = .ok (.aload_n 0, 1) := by decide +kernel
theorem dX9_init_1037 : decode cX9_init 1037 = .ok (.invokevirtual 84, 3) := by decide +kernel
theorem dX9_init_1040 : decode cX9_init 1040 = .ok (.pop, 1) := by decide +kernel
theorem dX9_init_1041 : decode cX9_init 1041 = .ok (.return_, 1) := by decide +kernel
theorem dX9_in_0 : decode cX9_in 0 = .ok (.iload_n 0, 1) := by decide +kernel
theorem dX9_in_1 : decode cX9_in 1 = .ok (.iload_n 1, 1) := by decide +kernel
theorem dX9_in_2 : decode cX9_in 2 = .ok (.if_icmp .lt 12, 3) := by decide +kernel
theorem dX9_in_5 : decode cX9_in 5 = .ok (.iload_n 0, 1) := by decide +kernel
theorem dX9_in_6 : decode cX9_in 6 = .ok (.iload_n 2, 1) := by decide +kernel
theorem dX9_in_7 : decode cX9_in 7 = .ok (.if_icmp .gt 7, 3) := by decide +kernel
theorem dX9_in_10 : decode cX9_in 10 = .ok (.iconst 1, 1) := by decide +kernel
theorem dX9_in_11 : decode cX9_in 11 = .ok (.goto 4, 3) := by decide +kernel
theorem dX9_in_14 : decode cX9_in 14 = .ok (.iconst 0, 1) := by decide +kernel
theorem dX9_in_15 : decode cX9_in 15 = .ok (.ireturn, 1) := by decide +kernel
theorem dX9_within_0 : decode cX9_within 0 = .ok (.iload_n 0, 1) := by decide +kernel
theorem dX9_within_1 : decode cX9_within 1 = .ok (.iload_n 1, 1) := by decide +kernel
theorem dX9_within_2 : decode cX9_within 2 = .ok (.if_icmp .ge 7, 3) := by decide +kernel
theorem dX9_within_5 : decode cX9_within 5 = .ok (.iload_n 1, 1) := by decide +kernel
theorem dX9_within_6 : decode cX9_within 6 = .ok (.goto 13, 3) := by decide +kernel
theorem dX9_within_9 : decode cX9_within 9 = .ok (.iload_n 0, 1) := by decide +kernel
theorem dX9_within_10 : decode cX9_within 10 = .ok (.iload_n 2, 1) := by decide +kernel
theorem dX9_within_11 : decode cX9_within 11 = .ok (.if_icmp .le 7, 3) := by decide +kernel
theorem dX9_within_14 : decode cX9_within 14 = .ok (.iload_n 2, 1) := by decide +kernel
theorem dX9_within_15 : decode cX9_within 15 = .ok (.goto 4, 3) := by decide +kernel
theorem dX9_within_18 : decode cX9_within 18 = .ok (.iload_n 0, 1) := by decide +kernel
theorem dX9_within_19 : decode cX9_within 19 = .ok (.ireturn, 1) := by decide +kernel
theorem dX9_isCorner_0 : decode cX9_isCorner 0 = .ok (.iload_n 0, 1) := by decide +kernel
theorem dX9_isCorner_1 : decode cX9_isCorner 1 = .ok (.iconst 0, 1) := by decide +kernel
theorem dX9_isCorner_2 : decode cX9_isCorner 2 = .ok (.bipush 8, 2) := by decide +kernel
theorem dX9_isCorner_4 : decode cX9_isCorner 4 = .ok (.invokestatic 88, 3) := by decide +kernel
theorem dX9_isCorner_7 : decode cX9_isCorner 7 = .ok (.ireturn, 1) := by decide +kernel
theorem dX9_isStreet_0 : decode cX9_isStreet 0 = .ok (.iload_n 1, 1) := by decide +kernel
theorem dX9_isStreet_1 : decode cX9_isStreet 1 = .ok (.iconst 0, 1) := by decide +kernel
theorem dX9_isStreet_2 : decode cX9_isStreet 2 = .ok (.aload_n 0, 1) := by decide +kernel
theorem dX9_isStreet_3 : decode cX9_isStreet 3 = .ok (.getfield 92, 3) := by decide +kernel
theorem dX9_isStreet_6 : decode cX9_isStreet 6 = .ok (.iconst 1, 1) := by decide +kernel
theorem dX9_isStreet_7 : decode cX9_isStreet 7 = .ok (.isub, 1) := by decide +kernel
theorem dX9_isStreet_8 : decode cX9_isStreet 8 = .ok (.invokestatic 88, 3) := by decide +kernel
theorem dX9_isStreet_11 : decode cX9_isStreet 11 = .ok (.ireturn, 1) := by decide +kernel
theorem dX9_ones_0 : decode cX9_ones 0 = .ok (.iconst 0, 1) := by decide +kernel
theorem dX9_ones_1 : decode cX9_ones 1 = .ok (.istore_n 1, 1) := by decide +kernel
theorem dX9_ones_2 : decode cX9_ones 2 = .ok (.iconst 0, 1) := by decide +kernel
theorem dX9_ones_3 : decode cX9_ones 3 = .ok (.istore_n 2, 1) := by decide +kernel
theorem dX9_ones_4 : decode cX9_ones 4 = .ok (.iload_n 2, 1) := by decide +kernel
theorem dX9_ones_5 : decode cX9_ones 5 = .ok (.bipush 13, 2) := by decide +kernel
theorem dX9_ones_7 : decode cX9_ones 7 = .ok (.if_icmp .ge 17, 3) := by decide +kernel
theorem dX9_ones_10 : decode cX9_ones 10 = .ok (.iload_n 1, 1) := by decide +kernel
theorem dX9_ones_11 : decode cX9_ones 11 = .ok (.iload_n 0, 1) := by decide +kernel
theorem dX9_ones_12 : decode cX9_ones 12 = .ok (.iload_n 2, 1) := by decide +kernel
theorem dX9_ones_13 : decode cX9_ones 13 = .ok (.ishr, 1) := by decide +kernel
theorem dX9_ones_14 : decode cX9_ones 14 = .ok (.iconst 1, 1) := by decide +kernel
theorem dX9_ones_15 : decode cX9_ones 15 = .ok (.iand, 1) := by decide +kernel
theorem dX9_ones_16 : decode cX9_ones 16 = .ok (.iadd, 1) := by decide +kernel
theorem dX9_ones_17 : decode cX9_ones 17 = .ok (.istore_n 1, 1) := by decide +kernel
theorem dX9_ones_18 : decode cX9_ones 18 = .ok (.iinc 2 1, 3) := by decide +kernel
theorem dX9_ones_21 : decode cX9_ones 21 = .ok (.goto (-17), 3) := by decide +kernel
theorem dX9_ones_24 : decode cX9_ones 24 = .ok (.iload_n 1, 1) := by decide +kernel
theorem dX9_ones_25 : decode cX9_ones 25 = .ok (.ireturn, 1) := by decide +kernel
theorem dX9_set_0 : decode cX9_set 0 = .ok (.iload_n 1, 1) := by decide +kernel
theorem dX9_set_1 : decode cX9_set 1 = .ok (.iconst 0, 1) := by decide +kernel
theorem dX9_set_2 : decode cX9_set 2 = .ok (.iconst 2, 1) := by decide +kernel
theorem dX9_set_3 : decode cX9_set 3 = .ok (.invokestatic 88, 3) := by decide +kernel
theorem dX9_set_6 : decode cX9_set 6 = .ok (.ifCond .ne 5, 3) := by decide +kernel
theorem dX9_set_9 : decode cX9_set 9 = .ok (.iconst (-1), 1) := by decide +kernel
theorem dX9_set_10 : decode cX9_set 10 = .ok (.ireturn, 1) := by decide +kernel
theorem dX9_set_11 : decode cX9_set 11 = .ok (.iload_n 2, 1) := by decide +kernel
theorem dX9_set_12 : decode cX9_set 12 = .ok (.iconst 0, 1) := by decide +kernel
theorem dX9_set_13 : decode cX9_set 13 = .ok (.iload_n 1, 1) := by decide +kernel
theorem dX9_set_14 : decode cX9_set 14 = .ok (.ifCond .ne 8, 3) := by decide +kernel
theorem dX9_set_17 : decode cX9_set 17 = .ok (.bipush 8, 2) := by decide +kernel
theorem dX9_set_19 : decode cX9_set 19 = .ok (.goto 14, 3) := by decide +kernel
theorem dX9_set_22 : decode cX9_set 22 = .ok (.iload_n 1, 1) := by decide +kernel
theorem dX9_set_23 : decode cX9_set 23 = .ok (.iconst 1, 1) := by decide +kernel
theorem dX9_set_24 : decode cX9_set 24 = .ok (.if_icmp .ne 8, 3) := by decide +kernel
theorem dX9_set_27 : decode cX9_set 27 = .ok (.bipush 23, 2) := by decide +kernel
theorem dX9_set_29 : decode cX9_set 29 = .ok (.goto 4, 3) := by decide +kernel
theorem dX9_set_32 : decode cX9_set 32 = .ok (.iconst 1, 1) := by decide +kernel
theorem dX9_set_33 : decode cX9_set 33 = .ok (.invokestatic 88, 3) := by decide +kernel
theorem dX9_set_36 : decode cX9_set 36 = .ok (.ifCond .ne 6, 3) := by decide +kernel
theorem dX9_set_39 : decode cX9_set 39 = .ok (.bipush (-2), 2) := by decide +kernel
theorem dX9_set_41 : decode cX9_set 41 = .ok (.ireturn, 1) := by decide +kernel
theorem dX9_set_42 : decode cX9_set 42 = .ok (.aload_n 0, 1) := by decide +kernel
theorem dX9_set_43 : decode cX9_set 43 = .ok (.iload_n 1, 1) := by decide +kernel
theorem dX9_set_44 : decode cX9_set 44 = .ok (.invokevirtual 95, 3) := by decide +kernel
theorem dX9_set_47 : decode cX9_set 47 = .ok (.istore_n 3, 1) := by decide +kernel
theorem dX9_set_48 : decode cX9_set 48 = .ok (.aload_n 0, 1) := by decide +kernel
theorem dX9_set_49 : decode cX9_set 49 = .ok (.iload_n 1, 1) := by decide +kernel
theorem dX9_set_50 : decode cX9_set 50 = .ok (.ifCond .ne 7, 3) := by decide +kernel
theorem dX9_set_53 : decode cX9_set 53 = .ok (.iload_n 2, 1) := by decide +kernel
theorem dX9_set_54 : decode cX9_set 54 = .ok (.goto 7, 3) := by decide +kernel
theorem dX9_set_57 : decode cX9_set 57 = .ok (.aload_n 0, 1) := by decide +kernel
theorem dX9_set_58 : decode cX9_set 58 = .ok (.getfield 99, 3) := by decide +kernel
theorem dX9_set_61 : decode cX9_set 61 = .ok (.putfield 99, 3) := by decide +kernel
theorem dX9_set_64 : decode cX9_set 64 = .ok (.aload_n 0, 1) := by decide +kernel
theorem dX9_set_65 : decode cX9_set 65 = .ok (.iload_n 1, 1) := by decide +kernel
theorem dX9_set_66 : decode cX9_set 66 = .ok (.iconst 1, 1) := by decide +kernel
theorem dX9_set_67 : decode cX9_set 67 = .ok (.if_icmp .ne 7, 3) := by decide +kernel
theorem dX9_set_70 : decode cX9_set 70 = .ok (.iload_n 2, 1) := by decide +kernel
theorem dX9_set_71 : decode cX9_set 71 = .ok (.goto 7, 3) := by decide +kernel
theorem dX9_set_74 : decode cX9_set 74 = .ok (.aload_n 0, 1) := by decide +kernel
theorem dX9_set_75 : decode cX9_set 75 = .ok (.getfield 7, 3) := by decide +kernel
theorem dX9_set_78 : decode cX9_set 78 = .ok (.putfield 7, 3) := by decide +kernel
theorem dX9_set_81 : decode cX9_set 81 = .ok (.aload_n 0, 1) := by decide +kernel
theorem dX9_set_82 : decode cX9_set 82 = .ok (.iload_n 1, 1) := by decide +kernel
theorem dX9_set_83 : decode cX9_set 83 = .ok (.iconst 2, 1) := by decide +kernel
theorem dX9_set_84 : decode cX9_set 84 = .ok (.if_icmp .ne 7, 3) := by decide +kernel
theorem dX9_set_87 : decode cX9_set 87 = .ok (.iload_n 2, 1) := by decide +kernel
theorem dX9_set_88 : decode cX9_set 88 = .ok (.goto 7, 3) := by decide +kernel
theorem dX9_set_91 : decode cX9_set 91 = .ok (.aload_n 0, 1) := by decide +kernel
theorem dX9_set_92 : decode cX9_set 92 = .ok (.getfield 102, 3) := by decide +kernel
theorem dX9_set_95 : decode cX9_set 95 = .ok (.putfield 102, 3) := by decide +kernel
theorem dX9_set_98 : decode cX9_set 98 = .ok (.iload_n 3, 1) := by decide +kernel
theorem dX9_set_99 : decode cX9_set 99 = .ok (.ireturn, 1) := by decide +kernel
theorem dX9_count_0 : decode cX9_count 0 = .ok (.iload_n 1, 1) := by decide +kernel
theorem dX9_count_1 : decode cX9_count 1 = .ok (.tableswitch 87 0 7 #[47, 52, 57, 62, 67, 72, 77, 82], 47) := by decide +kernel
theorem dX9_count_48 : decode cX9_count 48 = .ok (.aload_n 0, 1) := by decide +kernel
theorem dX9_count_49 : decode cX9_count 49 = .ok (.getfield 99, 3) := by decide +kernel
theorem dX9_count_52 : decode cX9_count 52 = .ok (.ireturn, 1) := by decide +kernel
theorem dX9_count_53 : decode cX9_count 53 = .ok (.aload_n 0, 1) := by decide +kernel
theorem dX9_count_54 : decode cX9_count 54 = .ok (.getfield 7, 3) := by decide +kernel
theorem dX9_count_57 : decode cX9_count 57 = .ok (.ireturn, 1) := by decide +kernel
theorem dX9_count_58 : decode cX9_count 58 = .ok (.aload_n 0, 1) := by decide +kernel
theorem dX9_count_59 : decode cX9_count 59 = .ok (.getfield 102, 3) := by decide +kernel
theorem dX9_count_62 : decode cX9_count 62 = .ok (.ireturn, 1) := by decide +kernel
theorem dX9_count_63 : decode cX9_count 63 = .ok (.aload_n 0, 1) := by decide +kernel
theorem dX9_count_64 : decode cX9_count 64 = .ok (.getfield 92, 3) := by decide +kernel
theorem dX9_count_67 : decode cX9_count 67 = .ok (.ireturn, 1) := by decide +kernel
theorem dX9_count_68 : decode cX9_count 68 = .ok (.aload_n 0, 1) := by decide +kernel
theorem dX9_count_69 : decode cX9_count 69 = .ok (.getfield 105, 3) := by decide +kernel
theorem dX9_count_72 : decode cX9_count 72 = .ok (.ireturn, 1) := by decide +kernel
theorem dX9_count_73 : decode cX9_count 73 = .ok (.aload_n 0, 1) := by decide +kernel
theorem dX9_count_74 : decode cX9_count 74 = .ok (.getfield 108, 3) := by decide +kernel
theorem dX9_count_77 : decode cX9_count 77 = .ok (.ireturn, 1) := by decide +kernel
theorem dX9_count_78 : decode cX9_count 78 = .ok (.aload_n 0, 1) := by decide +kernel
theorem dX9_count_79 : decode cX9_count 79 = .ok (.getfield 111, 3) := by decide +kernel
theorem dX9_count_82 : decode cX9_count 82 = .ok (.ireturn, 1) := by decide +kernel
theorem dX9_count_83 : decode cX9_count 83 = .ok (.aload_n 0, 1) := by decide +kernel
theorem dX9_count_84 : decode cX9_count 84 = .ok (.getfield 81, 3) := by decide +kernel
theorem dX9_count_87 : decode cX9_count 87 = .ok (.ireturn, 1) := by decide +kernel
theorem dX9_count_88 : decode cX9_count 88 = .ok (.bipush (-2), 2) := by decide +kernel
theorem dX9_count_90 : decode cX9_count 90 = .ok (.ireturn, 1) := by decide +kernel
theorem dX9_isByte_0 : decode cX9_isByte 0 = .ok (.iload_n 0, 1) := by decide +kernel
theorem dX9_isByte_1 : decode cX9_isByte 1 = .ok (.iconst 0, 1) := by decide +kernel
theorem dX9_isByte_2 : decode cX9_isByte 2 = .ok (.sipush 255, 3) := by decide +kernel
theorem dX9_isByte_5 : decode cX9_isByte 5 = .ok (.invokestatic 88, 3) := by decide +kernel
theorem dX9_isByte_8 : decode cX9_isByte 8 = .ok (.ireturn, 1) := by decide +kernel
theorem dX9_feed_0 : decode cX9_feed 0 = .ok (.iload_n 1, 1) := by decide +kernel
theorem dX9_feed_1 : decode cX9_feed 1 = .ok (.iconst 1, 1) := by decide +kernel
theorem dX9_feed_2 : decode cX9_feed 2 = .ok (.iconst 5, 1) := by decide +kernel
theorem dX9_feed_3 : decode cX9_feed 3 = .ok (.invokestatic 88, 3) := by decide +kernel
theorem dX9_feed_6 : decode cX9_feed 6 = .ok (.ifCond .eq 41, 3) := by decide +kernel
theorem dX9_feed_9 : decode cX9_feed 9 = .ok (.iload_n 2, 1) := by decide +kernel
theorem dX9_feed_10 : decode cX9_feed 10 = .ok (.invokestatic 114, 3) := by decide +kernel
theorem dX9_feed_13 : decode cX9_feed 13 = .ok (.ifCond .eq 34, 3) := by decide +kernel
theorem dX9_feed_16 : decode cX9_feed 16 = .ok (.iload_n 3, 1) := by decide +kernel
theorem dX9_feed_17 : decode cX9_feed 17 = .ok (.invokestatic 114, 3) := by decide +kernel
theorem dX9_feed_20 : decode cX9_feed 20 = .ok (.ifCond .eq 27, 3) := by decide +kernel
theorem dX9_feed_23 : decode cX9_feed 23 = .ok (.iload 4, 2) := by decide +kernel
theorem dX9_feed_25 : decode cX9_feed 25 = .ok (.invokestatic 114, 3) := by decide +kernel
theorem dX9_feed_28 : decode cX9_feed 28 = .ok (.ifCond .eq 19, 3) := by decide +kernel
theorem dX9_feed_31 : decode cX9_feed 31 = .ok (.iload 5, 2) := by decide +kernel
theorem dX9_feed_33 : decode cX9_feed 33 = .ok (.invokestatic 114, 3) := by decide +kernel
theorem dX9_feed_36 : decode cX9_feed 36 = .ok (.ifCond .eq 11, 3) := by decide +kernel
theorem dX9_feed_39 : decode cX9_feed 39 = .ok (.iload 6, 2) := by decide +kernel
theorem dX9_feed_41 : decode cX9_feed 41 = .ok (.invokestatic 114, 3) := by decide +kernel
theorem dX9_feed_44 : decode cX9_feed 44 = .ok (.ifCond .ne 6, 3) := by decide +kernel
theorem dX9_feed_47 : decode cX9_feed 47 = .ok (.bipush (-2), 2) := by decide +kernel
theorem dX9_feed_49 : decode cX9_feed 49 = .ok (.ireturn, 1) := by decide +kernel
theorem dX9_feed_50 : decode cX9_feed 50 = .ok (.aload_n 0, 1) := by decide +kernel
theorem dX9_feed_51 : decode cX9_feed 51 = .ok (.getfield 81, 3) := by decide +kernel
theorem dX9_feed_54 : decode cX9_feed 54 = .ok (.iload_n 1, 1) := by decide +kernel
theorem dX9_feed_55 : decode cX9_feed 55 = .ok (.iadd, 1) := by decide +kernel
theorem dX9_feed_56 : decode cX9_feed 56 = .ok (.sipush 160, 3) := by decide +kernel
theorem dX9_feed_59 : decode cX9_feed 59 = .ok (.if_icmp .le 6, 3) := by decide +kernel
theorem dX9_feed_62 : decode cX9_feed 62 = .ok (.bipush (-4), 2) := by decide +kernel
theorem dX9_feed_64 : decode cX9_feed 64 = .ok (.ireturn, 1) := by decide +kernel
theorem dX9_feed_65 : decode cX9_feed 65 = .ok (.iconst 0, 1) := by decide +kernel
theorem dX9_feed_66 : decode cX9_feed 66 = .ok (.istore 7, 2) := by decide +kernel
theorem dX9_feed_68 : decode cX9_feed 68 = .ok (.iload 7, 2) := by decide +kernel
theorem dX9_feed_70 : decode cX9_feed 70 = .ok (.iload_n 1, 1) := by decide +kernel
theorem dX9_feed_71 : decode cX9_feed 71 = .ok (.if_icmp .ge 71, 3) := by decide +kernel
theorem dX9_feed_74 : decode cX9_feed 74 = .ok (.aload_n 0, 1) := by decide +kernel
theorem dX9_feed_75 : decode cX9_feed 75 = .ok (.getfield 29, 3) := by decide +kernel
theorem dX9_feed_78 : decode cX9_feed 78 = .ok (.aload_n 0, 1) := by decide +kernel
theorem dX9_feed_79 : decode cX9_feed 79 = .ok (.getfield 81, 3) := by decide +kernel
theorem dX9_feed_82 : decode cX9_feed 82 = .ok (.iload 7, 2) := by decide +kernel
theorem dX9_feed_84 : decode cX9_feed 84 = .ok (.ifCond .ne 7, 3) := by decide +kernel
theorem dX9_feed_87 : decode cX9_feed 87 = .ok (.iload_n 2, 1) := by decide +kernel
theorem dX9_feed_88 : decode cX9_feed 88 = .ok (.goto 37, 3) := by decide +kernel
theorem dX9_feed_91 : decode cX9_feed 91 = .ok (.iload 7, 2) := by decide +kernel
theorem dX9_feed_93 : decode cX9_feed 93 = .ok (.iconst 1, 1) := by decide +kernel
theorem dX9_feed_94 : decode cX9_feed 94 = .ok (.if_icmp .ne 7, 3) := by decide +kernel
theorem dX9_feed_97 : decode cX9_feed 97 = .ok (.iload_n 3, 1) := by decide +kernel
theorem dX9_feed_98 : decode cX9_feed 98 = .ok (.goto 27, 3) := by decide +kernel
theorem dX9_feed_101 : decode cX9_feed 101 = .ok (.iload 7, 2) := by decide +kernel
theorem dX9_feed_103 : decode cX9_feed 103 = .ok (.iconst 2, 1) := by decide +kernel
theorem dX9_feed_104 : decode cX9_feed 104 = .ok (.if_icmp .ne 8, 3) := by decide +kernel
theorem dX9_feed_107 : decode cX9_feed 107 = .ok (.iload 4, 2) := by decide +kernel
theorem dX9_feed_109 : decode cX9_feed 109 = .ok (.goto 16, 3) := by decide +kernel
theorem dX9_feed_112 : decode cX9_feed 112 = .ok (.iload 7, 2) := by decide +kernel
theorem dX9_feed_114 : decode cX9_feed 114 = .ok (.iconst 3, 1) := by decide +kernel
theorem dX9_feed_115 : decode cX9_feed 115 = .ok (.if_icmp .ne 8, 3) := by decide +kernel
theorem dX9_feed_118 : decode cX9_feed 118 = .ok (.iload 5, 2) := by decide +kernel
theorem dX9_feed_120 : decode cX9_feed 120 = .ok (.goto 5, 3) := by decide +kernel
theorem dX9_feed_123 : decode cX9_feed 123 = .ok (.iload 6, 2) := by decide +kernel
theorem dX9_feed_125 : decode cX9_feed 125 = .ok (.iastore, 1) := by decide +kernel
theorem dX9_feed_126 : decode cX9_feed 126 = .ok (.aload_n 0, 1) := by decide +kernel
theorem dX9_feed_127 : decode cX9_feed 127 = .ok (.dup, 1) := by decide +kernel
theorem dX9_feed_128 : decode cX9_feed 128 = .ok (.getfield 81, 3) := by decide +kernel
theorem dX9_feed_131 : decode cX9_feed 131 = .ok (.iconst 1, 1) := by decide +kernel
theorem dX9_feed_132 : decode cX9_feed 132 = .ok (.iadd, 1) := by decide +kernel
theorem dX9_feed_133 : decode cX9_feed 133 = .ok (.putfield 81, 3) := by decide +kernel
theorem dX9_feed_136 : decode cX9_feed 136 = .ok (.iinc 7 1, 3) := by decide +kernel
theorem dX9_feed_139 : decode cX9_feed 139 = .ok (.goto (-71), 3) := by decide +kernel
theorem dX9_feed_142 : decode cX9_feed 142 = .ok (.aload_n 0, 1) := by decide +kernel
theorem dX9_feed_143 : decode cX9_feed 143 = .ok (.getfield 81, 3) := by decide +kernel
theorem dX9_feed_146 : decode cX9_feed 146 = .ok (.ireturn, 1) := by decide +kernel
theorem dX9_wordFrom_0 : decode cX9_wordFrom 0 = .ok (.iconst 0, 1) := by decide +kernel
theorem dX9_wordFrom_1 : decode cX9_wordFrom 1 = .ok (.istore_n 3, 1) := by decide +kernel
theorem dX9_wordFrom_2 : decode cX9_wordFrom 2 = .ok (.iload_n 3, 1) := by decide +kernel
theorem dX9_wordFrom_3 : decode cX9_wordFrom 3 = .ok (.bipush 12, 2) := by decide +kernel
theorem dX9_wordFrom_5 : decode cX9_wordFrom 5 = .ok (.if_icmp .ge 96, 3) := by decide +kernel
theorem dX9_wordFrom_8 : decode cX9_wordFrom 8 = .ok (.iload_n 2, 1) := by decide +kernel
theorem dX9_wordFrom_9 : decode cX9_wordFrom 9 = .ok (.iload_n 1, 1) := by decide +kernel
theorem dX9_wordFrom_10 : decode cX9_wordFrom 10 = .ok (.isub, 1) := by decide +kernel
theorem dX9_wordFrom_11 : decode cX9_wordFrom 11 = .ok (.bipush 8, 2) := by decide +kernel
theorem dX9_wordFrom_13 : decode cX9_wordFrom 13 = .ok (.if_icmp .gt 7, 3) := by decide +kernel
theorem dX9_wordFrom_16 : decode cX9_wordFrom 16 = .ok (.iconst 1, 1) := by decide +kernel
theorem dX9_wordFrom_17 : decode cX9_wordFrom 17 = .ok (.goto 4, 3) := by decide +kernel
theorem dX9_wordFrom_20 : decode cX9_wordFrom 20 = .ok (.iconst 0, 1) := by decide +kernel
theorem dX9_wordFrom_21 : decode cX9_wordFrom 21 = .ok (.istore 4, 2) := by decide +kernel
theorem dX9_wordFrom_23 : decode cX9_wordFrom 23 = .ok (.iconst 0, 1) := by decide +kernel
theorem dX9_wordFrom_24 : decode cX9_wordFrom 24 = .ok (.istore 5, 2) := by decide +kernel
theorem dX9_wordFrom_26 : decode cX9_wordFrom 26 = .ok (.iload 5, 2) := by decide +kernel
theorem dX9_wordFrom_28 : decode cX9_wordFrom 28 = .ok (.bipush 8, 2) := by decide +kernel
theorem dX9_wordFrom_30 : decode cX9_wordFrom 30 = .ok (.if_icmp .ge 58, 3) := by decide +kernel
theorem dX9_wordFrom_33 : decode cX9_wordFrom 33 = .ok (.iload 4, 2) := by decide +kernel
theorem dX9_wordFrom_35 : decode cX9_wordFrom 35 = .ok (.ifCond .eq 53, 3) := by decide +kernel
theorem dX9_wordFrom_38 : decode cX9_wordFrom 38 = .ok (.aload_n 0, 1) := by decide +kernel
theorem dX9_wordFrom_39 : decode cX9_wordFrom 39 = .ok (.getfield 50, 3) := by decide +kernel
theorem dX9_wordFrom_42 : decode cX9_wordFrom 42 = .ok (.bipush 8, 2) := by decide +kernel
theorem dX9_wordFrom_44 : decode cX9_wordFrom 44 = .ok (.iload_n 3, 1) := by decide +kernel
theorem dX9_wordFrom_45 : decode cX9_wordFrom 45 = .ok (.imul, 1) := by decide +kernel
theorem dX9_wordFrom_46 : decode cX9_wordFrom 46 = .ok (.iload 5, 2) := by decide +kernel
theorem dX9_wordFrom_48 : decode cX9_wordFrom 48 = .ok (.iadd, 1) := by decide +kernel
theorem dX9_wordFrom_49 : decode cX9_wordFrom 49 = .ok (.iaload, 1) := by decide +kernel
theorem dX9_wordFrom_50 : decode cX9_wordFrom 50 = .ok (.iload_n 1, 1) := by decide +kernel
theorem dX9_wordFrom_51 : decode cX9_wordFrom 51 = .ok (.iload 5, 2) := by decide +kernel
theorem dX9_wordFrom_53 : decode cX9_wordFrom 53 = .ok (.iadd, 1) := by decide +kernel
theorem dX9_wordFrom_54 : decode cX9_wordFrom 54 = .ok (.iload_n 2, 1) := by decide +kernel
theorem dX9_wordFrom_55 : decode cX9_wordFrom 55 = .ok (.if_icmp .ge 15, 3) := by decide +kernel
theorem dX9_wordFrom_58 : decode cX9_wordFrom 58 = .ok (.aload_n 0, 1) := by decide +kernel
theorem dX9_wordFrom_59 : decode cX9_wordFrom 59 = .ok (.getfield 29, 3) := by decide +kernel
theorem dX9_wordFrom_62 : decode cX9_wordFrom 62 = .ok (.iload_n 1, 1) := by decide +kernel
theorem dX9_wordFrom_63 : decode cX9_wordFrom 63 = .ok (.iload 5, 2) := by decide +kernel
theorem dX9_wordFrom_65 : decode cX9_wordFrom 65 = .ok (.iadd, 1) := by decide +kernel
theorem dX9_wordFrom_66 : decode cX9_wordFrom 66 = .ok (.iaload, 1) := by decide +kernel
theorem dX9_wordFrom_67 : decode cX9_wordFrom 67 = .ok (.goto 5, 3) := by decide +kernel
theorem dX9_wordFrom_70 : decode cX9_wordFrom 70 = .ok (.bipush 32, 2) := by decide +kernel
theorem dX9_wordFrom_72 : decode cX9_wordFrom 72 = .ok (.if_icmp .ne 7, 3) := by decide +kernel
theorem dX9_wordFrom_75 : decode cX9_wordFrom 75 = .ok (.iconst 1, 1) := by decide +kernel
theorem dX9_wordFrom_76 : decode cX9_wordFrom 76 = .ok (.goto 4, 3) := by decide +kernel
theorem dX9_wordFrom_79 : decode cX9_wordFrom 79 = .ok (.iconst 0, 1) := by decide +kernel
theorem dX9_wordFrom_80 : decode cX9_wordFrom 80 = .ok (.istore 4, 2) := by decide +kernel
theorem dX9_wordFrom_82 : decode cX9_wordFrom 82 = .ok (.iinc 5 1, 3) := by decide +kernel
theorem dX9_wordFrom_85 : decode cX9_wordFrom 85 = .ok (.goto (-59), 3) := by decide +kernel
theorem dX9_wordFrom_88 : decode cX9_wordFrom 88 = .ok (.iload 4, 2) := by decide +kernel
theorem dX9_wordFrom_90 : decode cX9_wordFrom 90 = .ok (.ifCond .eq 5, 3) := by decide +kernel
theorem dX9_wordFrom_93 : decode cX9_wordFrom 93 = .ok (.iload_n 3, 1) := by decide +kernel
theorem dX9_wordFrom_94 : decode cX9_wordFrom 94 = .ok (.ireturn, 1) := by decide +kernel
theorem dX9_wordFrom_95 : decode cX9_wordFrom 95 = .ok (.iinc 3 1, 3) := by decide +kernel
theorem dX9_wordFrom_98 : decode cX9_wordFrom 98 = .ok (.goto (-96), 3) := by decide +kernel
theorem dX9_wordFrom_101 : decode cX9_wordFrom 101 = .ok (.bipush 12, 2) := by decide +kernel
theorem dX9_wordFrom_103 : decode cX9_wordFrom 103 = .ok (.ireturn, 1) := by decide +kernel
theorem dX9_next_0 : decode cX9_next 0 = .ok (.aload_n 0, 1) := by decide +kernel
theorem dX9_next_1 : decode cX9_next 1 = .ok (.getfield 118, 3) := by decide +kernel
theorem dX9_next_4 : decode cX9_next 4 = .ok (.aload_n 0, 1) := by decide +kernel
theorem dX9_next_5 : decode cX9_next 5 = .ok (.getfield 81, 3) := by decide +kernel
theorem dX9_next_8 : decode cX9_next 8 = .ok (.if_icmp .ge 44, 3) := by decide +kernel
theorem dX9_next_11 : decode cX9_next 11 = .ok (.aload_n 0, 1) := by decide +kernel
theorem dX9_next_12 : decode cX9_next 12 = .ok (.getfield 29, 3) := by decide +kernel
theorem dX9_next_15 : decode cX9_next 15 = .ok (.aload_n 0, 1) := by decide +kernel
theorem dX9_next_16 : decode cX9_next 16 = .ok (.getfield 118, 3) := by decide +kernel
theorem dX9_next_19 : decode cX9_next 19 = .ok (.iaload, 1) := by decide +kernel
theorem dX9_next_20 : decode cX9_next 20 = .ok (.bipush 32, 2) := by decide +kernel
theorem dX9_next_22 : decode cX9_next 22 = .ok (.if_icmp .eq 17, 3) := by decide +kernel
theorem dX9_next_25 : decode cX9_next 25 = .ok (.aload_n 0, 1) := by decide +kernel
theorem dX9_next_26 : decode cX9_next 26 = .ok (.getfield 29, 3) := by decide +kernel
theorem dX9_next_29 : decode cX9_next 29 = .ok (.aload_n 0, 1) := by decide +kernel
theorem dX9_next_30 : decode cX9_next 30 = .ok (.getfield 118, 3) := by decide +kernel
theorem dX9_next_33 : decode cX9_next 33 = .ok (.iaload, 1) := by decide +kernel
theorem dX9_next_34 : decode cX9_next 34 = .ok (.bipush 10, 2) := by decide +kernel
theorem dX9_next_36 : decode cX9_next 36 = .ok (.if_icmp .ne 16, 3) := by decide +kernel
theorem dX9_next_39 : decode cX9_next 39 = .ok (.aload_n 0, 1) := by decide +kernel
theorem dX9_next_40 : decode cX9_next 40 = .ok (.dup, 1) := by decide +kernel
theorem dX9_next_41 : decode cX9_next 41 = .ok (.getfield 118, 3) := by decide +kernel
theorem dX9_next_44 : decode cX9_next 44 = .ok (.iconst 1, 1) := by decide +kernel
theorem dX9_next_45 : decode cX9_next 45 = .ok (.iadd, 1) := by decide +kernel
theorem dX9_next_46 : decode cX9_next 46 = .ok (.putfield 118, 3) := by decide +kernel
theorem dX9_next_49 : decode cX9_next 49 = .ok (.goto (-49), 3) := by decide +kernel
theorem dX9_next_52 : decode cX9_next 52 = .ok (.aload_n 0, 1) := by decide +kernel
theorem dX9_next_53 : decode cX9_next 53 = .ok (.aload_n 0, 1) := by decide +kernel
theorem dX9_next_54 : decode cX9_next 54 = .ok (.getfield 118, 3) := by decide +kernel
theorem dX9_next_57 : decode cX9_next 57 = .ok (.putfield 121, 3) := by decide +kernel
theorem dX9_next_60 : decode cX9_next 60 = .ok (.aload_n 0, 1) := by decide +kernel
theorem dX9_next_61 : decode cX9_next 61 = .ok (.iconst 0, 1) := by decide +kernel
theorem dX9_next_62 : decode cX9_next 62 = .ok (.putfield 124, 3) := by decide +kernel
theorem dX9_next_65 : decode cX9_next 65 = .ok (.aload_n 0, 1) := by decide +kernel
theorem dX9_next_66 : decode cX9_next 66 = .ok (.iconst 0, 1) := by decide +kernel
theorem dX9_next_67 : decode cX9_next 67 = .ok (.putfield 127, 3) := by decide +kernel
theorem dX9_next_70 : decode cX9_next 70 = .ok (.aload_n 0, 1) := by decide +kernel
theorem dX9_next_71 : decode cX9_next 71 = .ok (.getfield 118, 3) := by decide +kernel
theorem dX9_next_74 : decode cX9_next 74 = .ok (.aload_n 0, 1) := by decide +kernel
theorem dX9_next_75 : decode cX9_next 75 = .ok (.getfield 81, 3) := by decide +kernel
theorem dX9_next_78 : decode cX9_next 78 = .ok (.if_icmp .ne 4, 3) := by decide +kernel
theorem dX9_next_81 : decode cX9_next 81 = .ok (.return_, 1) := by decide +kernel
theorem dX9_next_82 : decode cX9_next 82 = .ok (.aload_n 0, 1) := by decide +kernel
theorem dX9_next_83 : decode cX9_next 83 = .ok (.getfield 29, 3) := by decide +kernel
theorem dX9_next_86 : decode cX9_next 86 = .ok (.aload_n 0, 1) := by decide +kernel
theorem dX9_next_87 : decode cX9_next 87 = .ok (.getfield 118, 3) := by decide +kernel
theorem dX9_next_90 : decode cX9_next 90 = .ok (.iaload, 1) := by decide +kernel
theorem dX9_next_91 : decode cX9_next 91 = .ok (.istore_n 1, 1) := by decide +kernel
theorem dX9_next_92 : decode cX9_next 92 = .ok (.iload_n 1, 1) := by decide +kernel
theorem dX9_next_93 : decode cX9_next 93 = .ok (.bipush 97, 2) := by decide +kernel
theorem dX9_next_95 : decode cX9_next 95 = .ok (.bipush 122, 2) := by decide +kernel
theorem dX9_next_97 : decode cX9_next 97 = .ok (.invokestatic 88, 3) := by decide +kernel
theorem dX9_next_100 : decode cX9_next 100 = .ok (.ifCond .eq 117, 3) := by decide +kernel
theorem dX9_next_103 : decode cX9_next 103 = .ok (.aload_n 0, 1) := by decide +kernel
theorem dX9_next_104 : decode cX9_next 104 = .ok (.getfield 118, 3) := by decide +kernel
theorem dX9_next_107 : decode cX9_next 107 = .ok (.aload_n 0, 1) := by decide +kernel
theorem dX9_next_108 : decode cX9_next 108 = .ok (.getfield 81, 3) := by decide +kernel
theorem dX9_next_111 : decode cX9_next 111 = .ok (.if_icmp .ge 35, 3) := by decide +kernel
theorem dX9_next_114 : decode cX9_next 114 = .ok (.aload_n 0, 1) := by decide +kernel
theorem dX9_next_115 : decode cX9_next 115 = .ok (.getfield 29, 3) := by decide +kernel
theorem dX9_next_118 : decode cX9_next 118 = .ok (.aload_n 0, 1) := by decide +kernel
theorem dX9_next_119 : decode cX9_next 119 = .ok (.getfield 118, 3) := by decide +kernel
theorem dX9_next_122 : decode cX9_next 122 = .ok (.iaload, 1) := by decide +kernel
theorem dX9_next_123 : decode cX9_next 123 = .ok (.bipush 97, 2) := by decide +kernel
theorem dX9_next_125 : decode cX9_next 125 = .ok (.bipush 122, 2) := by decide +kernel
theorem dX9_next_127 : decode cX9_next 127 = .ok (.invokestatic 88, 3) := by decide +kernel
theorem dX9_next_130 : decode cX9_next 130 = .ok (.ifCond .eq 16, 3) := by decide +kernel
theorem dX9_next_133 : decode cX9_next 133 = .ok (.aload_n 0, 1) := by decide +kernel
theorem dX9_next_134 : decode cX9_next 134 = .ok (.dup, 1) := by decide +kernel
theorem dX9_next_135 : decode cX9_next 135 = .ok (.getfield 118, 3) := by decide +kernel
theorem dX9_next_138 : decode cX9_next 138 = .ok (.iconst 1, 1) := by decide +kernel
theorem dX9_next_139 : decode cX9_next 139 = .ok (.iadd, 1) := by decide +kernel
theorem dX9_next_140 : decode cX9_next 140 = .ok (.putfield 118, 3) := by decide +kernel
theorem dX9_next_143 : decode cX9_next 143 = .ok (.goto (-40), 3) := by decide +kernel
theorem dX9_next_146 : decode cX9_next 146 = .ok (.aload_n 0, 1) := by decide +kernel
theorem dX9_next_147 : decode cX9_next 147 = .ok (.aload_n 0, 1) := by decide +kernel
theorem dX9_next_148 : decode cX9_next 148 = .ok (.getfield 121, 3) := by decide +kernel
theorem dX9_next_151 : decode cX9_next 151 = .ok (.aload_n 0, 1) := by decide +kernel
theorem dX9_next_152 : decode cX9_next 152 = .ok (.getfield 118, 3) := by decide +kernel
theorem dX9_next_155 : decode cX9_next 155 = .ok (.invokevirtual 130, 3) := by decide +kernel
theorem dX9_next_158 : decode cX9_next 158 = .ok (.istore_n 2, 1) := by decide +kernel
theorem dX9_next_159 : decode cX9_next 159 = .ok (.aload_n 0, 1) := by decide +kernel
theorem dX9_next_160 : decode cX9_next 160 = .ok (.iload_n 2, 1) := by decide +kernel
theorem dX9_next_161 : decode cX9_next 161 = .ok (.iconst 3, 1) := by decide +kernel
theorem dX9_next_162 : decode cX9_next 162 = .ok (.if_icmp .ge 7, 3) := by decide +kernel
theorem dX9_next_165 : decode cX9_next 165 = .ok (.iconst 3, 1) := by decide +kernel
theorem dX9_next_166 : decode cX9_next 166 = .ok (.goto 29, 3) := by decide +kernel
theorem dX9_next_169 : decode cX9_next 169 = .ok (.iload_n 2, 1) := by decide +kernel
theorem dX9_next_170 : decode cX9_next 170 = .ok (.bipush 9, 2) := by decide +kernel
theorem dX9_next_172 : decode cX9_next 172 = .ok (.if_icmp .ge 7, 3) := by decide +kernel
theorem dX9_next_175 : decode cX9_next 175 = .ok (.iconst 2, 1) := by decide +kernel
theorem dX9_next_176 : decode cX9_next 176 = .ok (.goto 19, 3) := by decide +kernel
theorem dX9_next_179 : decode cX9_next 179 = .ok (.iload_n 2, 1) := by decide +kernel
theorem dX9_next_180 : decode cX9_next 180 = .ok (.bipush 12, 2) := by decide +kernel
theorem dX9_next_182 : decode cX9_next 182 = .ok (.if_icmp .ne 7, 3) := by decide +kernel
theorem dX9_next_185 : decode cX9_next 185 = .ok (.iconst (-1), 1) := by decide +kernel
theorem dX9_next_186 : decode cX9_next 186 = .ok (.goto 9, 3) := by decide +kernel
theorem dX9_next_189 : decode cX9_next 189 = .ok (.iconst 4, 1) := by decide +kernel
theorem dX9_next_190 : decode cX9_next 190 = .ok (.iload_n 2, 1) := by decide +kernel
theorem dX9_next_191 : decode cX9_next 191 = .ok (.iadd, 1) := by decide +kernel
theorem dX9_next_192 : decode cX9_next 192 = .ok (.bipush 9, 2) := by decide +kernel
theorem dX9_next_194 : decode cX9_next 194 = .ok (.isub, 1) := by decide +kernel
theorem dX9_next_195 : decode cX9_next 195 = .ok (.putfield 124, 3) := by decide +kernel
theorem dX9_next_198 : decode cX9_next 198 = .ok (.aload_n 0, 1) := by decide +kernel
theorem dX9_next_199 : decode cX9_next 199 = .ok (.iload_n 2, 1) := by decide +kernel
theorem dX9_next_200 : decode cX9_next 200 = .ok (.iconst 3, 1) := by decide +kernel
theorem dX9_next_201 : decode cX9_next 201 = .ok (.if_icmp .ge 7, 3) := by decide +kernel
theorem dX9_next_204 : decode cX9_next 204 = .ok (.iload_n 2, 1) := by decide +kernel
theorem dX9_next_205 : decode cX9_next 205 = .ok (.goto 6, 3) := by decide +kernel
theorem dX9_next_208 : decode cX9_next 208 = .ok (.iload_n 2, 1) := by decide +kernel
theorem dX9_next_209 : decode cX9_next 209 = .ok (.iconst 3, 1) := by decide +kernel
theorem dX9_next_210 : decode cX9_next 210 = .ok (.isub, 1) := by decide +kernel
theorem dX9_next_211 : decode cX9_next 211 = .ok (.putfield 127, 3) := by decide +kernel
theorem dX9_next_214 : decode cX9_next 214 = .ok (.goto 189, 3) := by decide +kernel
theorem dX9_next_217 : decode cX9_next 217 = .ok (.iload_n 1, 1) := by decide +kernel
theorem dX9_next_218 : decode cX9_next 218 = .ok (.bipush 48, 2) := by decide +kernel
theorem dX9_next_220 : decode cX9_next 220 = .ok (.bipush 57, 2) := by decide +kernel
theorem dX9_next_222 : decode cX9_next 222 = .ok (.invokestatic 88, 3) := by decide +kernel
theorem dX9_next_225 : decode cX9_next 225 = .ok (.ifCond .eq 101, 3) := by decide +kernel
theorem dX9_next_228 : decode cX9_next 228 = .ok (.iconst 0, 1) := by decide +kernel
theorem dX9_next_229 : decode cX9_next 229 = .ok (.istore_n 2, 1) := by decide +kernel
theorem dX9_next_230 : decode cX9_next 230 = .ok (.aload_n 0, 1) := by decide +kernel
theorem dX9_next_231 : decode cX9_next 231 = .ok (.getfield 118, 3) := by decide +kernel
theorem dX9_next_234 : decode cX9_next 234 = .ok (.aload_n 0, 1) := by decide +kernel
theorem dX9_next_235 : decode cX9_next 235 = .ok (.getfield 81, 3) := by decide +kernel
theorem dX9_next_238 : decode cX9_next 238 = .ok (.if_icmp .ge 71, 3) := by decide +kernel
theorem dX9_next_241 : decode cX9_next 241 = .ok (.aload_n 0, 1) := by decide +kernel
theorem dX9_next_242 : decode cX9_next 242 = .ok (.getfield 29, 3) := by decide +kernel
theorem dX9_next_245 : decode cX9_next 245 = .ok (.aload_n 0, 1) := by decide +kernel
theorem dX9_next_246 : decode cX9_next 246 = .ok (.getfield 118, 3) := by decide +kernel
theorem dX9_next_249 : decode cX9_next 249 = .ok (.iaload, 1) := by decide +kernel
theorem dX9_next_250 : decode cX9_next 250 = .ok (.bipush 48, 2) := by decide +kernel
theorem dX9_next_252 : decode cX9_next 252 = .ok (.bipush 57, 2) := by decide +kernel
theorem dX9_next_254 : decode cX9_next 254 = .ok (.invokestatic 88, 3) := by decide +kernel
theorem dX9_next_257 : decode cX9_next 257 = .ok (.ifCond .eq 52, 3) := by decide +kernel
theorem dX9_next_260 : decode cX9_next 260 = .ok (.aload_n 0, 1) := by decide +kernel
theorem dX9_next_261 : decode cX9_next 261 = .ok (.iload_n 2, 1) := by decide +kernel
theorem dX9_next_262 : decode cX9_next 262 = .ok (.iconst 4, 1) := by decide +kernel
theorem dX9_next_263 : decode cX9_next 263 = .ok (.if_icmp .ge 26, 3) := by decide +kernel
theorem dX9_next_266 : decode cX9_next 266 = .ok (.bipush 10, 2) := by decide +kernel
theorem dX9_next_268 : decode cX9_next 268 = .ok (.aload_n 0, 1) := by decide +kernel
theorem dX9_next_269 : decode cX9_next 269 = .ok (.getfield 127, 3) := by decide +kernel
theorem dX9_next_272 : decode cX9_next 272 = .ok (.imul, 1) := by decide +kernel
theorem dX9_next_273 : decode cX9_next 273 = .ok (.aload_n 0, 1) := by decide +kernel
theorem dX9_next_274 : decode cX9_next 274 = .ok (.getfield 29, 3) := by decide +kernel
theorem dX9_next_277 : decode cX9_next 277 = .ok (.aload_n 0, 1) := by decide +kernel
theorem dX9_next_278 : decode cX9_next 278 = .ok (.getfield 118, 3) := by decide +kernel
theorem dX9_next_281 : decode cX9_next 281 = .ok (.iaload, 1) := by decide +kernel
theorem dX9_next_282 : decode cX9_next 282 = .ok (.iadd, 1) := by decide +kernel
theorem dX9_next_283 : decode cX9_next 283 = .ok (.bipush 48, 2) := by decide +kernel
theorem dX9_next_285 : decode cX9_next 285 = .ok (.isub, 1) := by decide +kernel
theorem dX9_next_286 : decode cX9_next 286 = .ok (.goto 4, 3) := by decide +kernel
theorem dX9_next_289 : decode cX9_next 289 = .ok (.iconst 0, 1) := by decide +kernel
theorem dX9_next_290 : decode cX9_next 290 = .ok (.putfield 127, 3) := by decide +kernel
theorem dX9_next_293 : decode cX9_next 293 = .ok (.iinc 2 1, 3) := by decide +kernel
theorem dX9_next_296 : decode cX9_next 296 = .ok (.aload_n 0, 1) := by decide +kernel
theorem dX9_next_297 : decode cX9_next 297 = .ok (.dup, 1) := by decide +kernel
theorem dX9_next_298 : decode cX9_next 298 = .ok (.getfield 118, 3) := by decide +kernel
theorem dX9_next_301 : decode cX9_next 301 = .ok (.iconst 1, 1) := by decide +kernel
theorem dX9_next_302 : decode cX9_next 302 = .ok (.iadd, 1) := by decide +kernel
theorem dX9_next_303 : decode cX9_next 303 = .ok (.putfield 118, 3) := by decide +kernel
theorem dX9_next_306 : decode cX9_next 306 = .ok (.goto (-76), 3) := by decide +kernel
theorem dX9_next_309 : decode cX9_next 309 = .ok (.aload_n 0, 1) := by decide +kernel
theorem dX9_next_310 : decode cX9_next 310 = .ok (.iload_n 2, 1) := by decide +kernel
theorem dX9_next_311 : decode cX9_next 311 = .ok (.iconst 4, 1) := by decide +kernel
theorem dX9_next_312 : decode cX9_next 312 = .ok (.if_icmp .le 7, 3) := by decide +kernel
theorem dX9_next_315 : decode cX9_next 315 = .ok (.iconst (-1), 1) := by decide +kernel
theorem dX9_next_316 : decode cX9_next 316 = .ok (.goto 4, 3) := by decide +kernel
theorem dX9_next_319 : decode cX9_next 319 = .ok (.iconst 1, 1) := by decide +kernel
theorem dX9_next_320 : decode cX9_next 320 = .ok (.putfield 124, 3) := by decide +kernel
theorem dX9_next_323 : decode cX9_next 323 = .ok (.goto 80, 3) := by decide +kernel
theorem dX9_next_326 : decode cX9_next 326 = .ok (.iload_n 1, 1) := by decide +kernel
theorem dX9_next_327 : decode cX9_next 327 = .ok (.bipush 40, 2) := by decide +kernel
theorem dX9_next_329 : decode cX9_next 329 = .ok (.if_icmp .eq 45, 3) := by decide +kernel
theorem dX9_next_332 : decode cX9_next 332 = .ok (.iload_n 1, 1) := by decide +kernel
theorem dX9_next_333 : decode cX9_next 333 = .ok (.bipush 41, 2) := by decide +kernel
theorem dX9_next_335 : decode cX9_next 335 = .ok (.if_icmp .eq 39, 3) := by decide +kernel
theorem dX9_next_338 : decode cX9_next 338 = .ok (.iload_n 1, 1) := by decide +kernel
theorem dX9_next_339 : decode cX9_next 339 = .ok (.bipush 59, 2) := by decide +kernel
theorem dX9_next_341 : decode cX9_next 341 = .ok (.if_icmp .eq 33, 3) := by decide +kernel
theorem dX9_next_344 : decode cX9_next 344 = .ok (.iload_n 1, 1) := by decide +kernel
theorem dX9_next_345 : decode cX9_next 345 = .ok (.bipush 43, 2) := by decide +kernel
theorem dX9_next_347 : decode cX9_next 347 = .ok (.if_icmp .eq 27, 3) := by decide +kernel
theorem dX9_next_350 : decode cX9_next 350 = .ok (.iload_n 1, 1) := by decide +kernel
theorem dX9_next_351 : decode cX9_next 351 = .ok (.bipush 45, 2) := by decide +kernel
theorem dX9_next_353 : decode cX9_next 353 = .ok (.if_icmp .eq 21, 3) := by decide +kernel
theorem dX9_next_356 : decode cX9_next 356 = .ok (.iload_n 1, 1) := by decide +kernel
theorem dX9_next_357 : decode cX9_next 357 = .ok (.bipush 42, 2) := by decide +kernel
theorem dX9_next_359 : decode cX9_next 359 = .ok (.if_icmp .eq 15, 3) := by decide +kernel
theorem dX9_next_362 : decode cX9_next 362 = .ok (.iload_n 1, 1) := by decide +kernel
theorem dX9_next_363 : decode cX9_next 363 = .ok (.bipush 60, 2) := by decide +kernel
theorem dX9_next_365 : decode cX9_next 365 = .ok (.if_icmp .eq 9, 3) := by decide +kernel
theorem dX9_next_368 : decode cX9_next 368 = .ok (.iload_n 1, 1) := by decide +kernel
theorem dX9_next_369 : decode cX9_next 369 = .ok (.bipush 61, 2) := by decide +kernel
theorem dX9_next_371 : decode cX9_next 371 = .ok (.if_icmp .ne 7, 3) := by decide +kernel
theorem dX9_next_374 : decode cX9_next 374 = .ok (.iconst 1, 1) := by decide +kernel
theorem dX9_next_375 : decode cX9_next 375 = .ok (.goto 4, 3) := by decide +kernel
theorem dX9_next_378 : decode cX9_next 378 = .ok (.iconst 0, 1) := by decide +kernel
theorem dX9_next_379 : decode cX9_next 379 = .ok (.istore_n 2, 1) := by decide +kernel
theorem dX9_next_380 : decode cX9_next 380 = .ok (.aload_n 0, 1) := by decide +kernel
theorem dX9_next_381 : decode cX9_next 381 = .ok (.iload_n 2, 1) := by decide +kernel
theorem dX9_next_382 : decode cX9_next 382 = .ok (.ifCond .eq 7, 3) := by decide +kernel
theorem dX9_next_385 : decode cX9_next 385 = .ok (.iload_n 1, 1) := by decide +kernel
theorem dX9_next_386 : decode cX9_next 386 = .ok (.goto 4, 3) := by decide +kernel
theorem dX9_next_389 : decode cX9_next 389 = .ok (.iconst (-1), 1) := by decide +kernel
theorem dX9_next_390 : decode cX9_next 390 = .ok (.putfield 124, 3) := by decide +kernel
theorem dX9_next_393 : decode cX9_next 393 = .ok (.aload_n 0, 1) := by decide +kernel
theorem dX9_next_394 : decode cX9_next 394 = .ok (.dup, 1) := by decide +kernel
theorem dX9_next_395 : decode cX9_next 395 = .ok (.getfield 118, 3) := by decide +kernel
theorem dX9_next_398 : decode cX9_next 398 = .ok (.iconst 1, 1) := by decide +kernel
theorem dX9_next_399 : decode cX9_next 399 = .ok (.iadd, 1) := by decide +kernel
theorem dX9_next_400 : decode cX9_next 400 = .ok (.putfield 118, 3) := by decide +kernel
theorem dX9_next_403 : decode cX9_next 403 = .ok (.return_, 1) := by decide +kernel
theorem dX9_rank_0 : decode cX9_rank 0 = .ok (.iload_n 0, 1) := by decide +kernel
theorem dX9_rank_1 : decode cX9_rank 1 = .ok (.ifCond .ne 7, 3) := by decide +kernel
theorem dX9_rank_4 : decode cX9_rank 4 = .ok (.iconst 0, 1) := by decide +kernel
theorem dX9_rank_5 : decode cX9_rank 5 = .ok (.goto 66, 3) := by decide +kernel
theorem dX9_rank_8 : decode cX9_rank 8 = .ok (.iload_n 0, 1) := by decide +kernel
theorem dX9_rank_9 : decode cX9_rank 9 = .ok (.bipush 11, 2) := by decide +kernel
theorem dX9_rank_11 : decode cX9_rank 11 = .ok (.if_icmp .ne 7, 3) := by decide +kernel
theorem dX9_rank_14 : decode cX9_rank 14 = .ok (.iconst 1, 1) := by decide +kernel
theorem dX9_rank_15 : decode cX9_rank 15 = .ok (.goto 56, 3) := by decide +kernel
theorem dX9_rank_18 : decode cX9_rank 18 = .ok (.iload_n 0, 1) := by decide +kernel
theorem dX9_rank_19 : decode cX9_rank 19 = .ok (.bipush 12, 2) := by decide +kernel
theorem dX9_rank_21 : decode cX9_rank 21 = .ok (.if_icmp .ne 7, 3) := by decide +kernel
theorem dX9_rank_24 : decode cX9_rank 24 = .ok (.iconst 2, 1) := by decide +kernel
theorem dX9_rank_25 : decode cX9_rank 25 = .ok (.goto 46, 3) := by decide +kernel
theorem dX9_rank_28 : decode cX9_rank 28 = .ok (.iload_n 0, 1) := by decide +kernel
theorem dX9_rank_29 : decode cX9_rank 29 = .ok (.bipush 13, 2) := by decide +kernel
theorem dX9_rank_31 : decode cX9_rank 31 = .ok (.if_icmp .ne 7, 3) := by decide +kernel
theorem dX9_rank_34 : decode cX9_rank 34 = .ok (.iconst 3, 1) := by decide +kernel
theorem dX9_rank_35 : decode cX9_rank 35 = .ok (.goto 36, 3) := by decide +kernel
theorem dX9_rank_38 : decode cX9_rank 38 = .ok (.iload_n 0, 1) := by decide +kernel
theorem dX9_rank_39 : decode cX9_rank 39 = .ok (.bipush 15, 2) := by decide +kernel
theorem dX9_rank_41 : decode cX9_rank 41 = .ok (.if_icmp .gt 7, 3) := by decide +kernel
theorem dX9_rank_44 : decode cX9_rank 44 = .ok (.iconst 4, 1) := by decide +kernel
theorem dX9_rank_45 : decode cX9_rank 45 = .ok (.goto 26, 3) := by decide +kernel
theorem dX9_rank_48 : decode cX9_rank 48 = .ok (.iload_n 0, 1) := by decide +kernel
theorem dX9_rank_49 : decode cX9_rank 49 = .ok (.bipush 17, 2) := by decide +kernel
theorem dX9_rank_51 : decode cX9_rank 51 = .ok (.if_icmp .gt 7, 3) := by decide +kernel
theorem dX9_rank_54 : decode cX9_rank 54 = .ok (.iconst 5, 1) := by decide +kernel
theorem dX9_rank_55 : decode cX9_rank 55 = .ok (.goto 16, 3) := by decide +kernel
theorem dX9_rank_58 : decode cX9_rank 58 = .ok (.iload_n 0, 1) := by decide +kernel
theorem dX9_rank_59 : decode cX9_rank 59 = .ok (.bipush 18, 2) := by decide +kernel
theorem dX9_rank_61 : decode cX9_rank 61 = .ok (.if_icmp .ne 8, 3) := by decide +kernel
theorem dX9_rank_64 : decode cX9_rank 64 = .ok (.bipush 6, 2) := by decide +kernel
theorem dX9_rank_66 : decode cX9_rank 66 = .ok (.goto 5, 3) := by decide +kernel
theorem dX9_rank_69 : decode cX9_rank 69 = .ok (.bipush 7, 2) := by decide +kernel
theorem dX9_rank_71 : decode cX9_rank 71 = .ok (.ireturn, 1) := by decide +kernel
theorem dX9_puts_0 : decode cX9_puts 0 = .ok (.aload_n 0, 1) := by decide +kernel
theorem dX9_puts_1 : decode cX9_puts 1 = .ok (.getfield 32, 3) := by decide +kernel
theorem dX9_puts_4 : decode cX9_puts 4 = .ok (.sipush 200, 3) := by decide +kernel
theorem dX9_puts_7 : decode cX9_puts 7 = .ok (.aload_n 0, 1) := by decide +kernel
theorem dX9_puts_8 : decode cX9_puts 8 = .ok (.getfield 108, 3) := by decide +kernel
theorem dX9_puts_11 : decode cX9_puts 11 = .ok (.imul, 1) := by decide +kernel
theorem dX9_puts_12 : decode cX9_puts 12 = .ok (.aload_n 0, 1) := by decide +kernel
theorem dX9_puts_13 : decode cX9_puts 13 = .ok (.getfield 134, 3) := by decide +kernel
theorem dX9_puts_16 : decode cX9_puts 16 = .ok (.iadd, 1) := by decide +kernel
theorem dX9_puts_17 : decode cX9_puts 17 = .ok (.iload_n 1, 1) := by decide +kernel
theorem dX9_puts_18 : decode cX9_puts 18 = .ok (.iastore, 1) := by decide +kernel
theorem dX9_puts_19 : decode cX9_puts 19 = .ok (.aload_n 0, 1) := by decide +kernel
theorem dX9_puts_20 : decode cX9_puts 20 = .ok (.dup, 1) := by decide +kernel
theorem dX9_puts_21 : decode cX9_puts 21 = .ok (.getfield 134, 3) := by decide +kernel
theorem dX9_puts_24 : decode cX9_puts 24 = .ok (.iconst 1, 1) := by decide +kernel
theorem dX9_puts_25 : decode cX9_puts 25 = .ok (.iadd, 1) := by decide +kernel
theorem dX9_puts_26 : decode cX9_puts 26 = .ok (.putfield 134, 3) := by decide +kernel
theorem dX9_puts_29 : decode cX9_puts 29 = .ok (.return_, 1) := by decide +kernel
theorem dX9_unwinds_0 : decode cX9_unwinds 0 = .ok (.aload_n 0, 1) := by decide +kernel
theorem dX9_unwinds_1 : decode cX9_unwinds 1 = .ok (.getfield 137, 3) := by decide +kernel
theorem dX9_unwinds_4 : decode cX9_unwinds 4 = .ok (.ifCond .le 75, 3) := by decide +kernel
theorem dX9_unwinds_7 : decode cX9_unwinds 7 = .ok (.aload_n 0, 1) := by decide +kernel
theorem dX9_unwinds_8 : decode cX9_unwinds 8 = .ok (.getfield 53, 3) := by decide +kernel
theorem dX9_unwinds_11 : decode cX9_unwinds 11 = .ok (.aload_n 0, 1) := by decide +kernel
theorem dX9_unwinds_12 : decode cX9_unwinds 12 = .ok (.getfield 137, 3) := by decide +kernel
theorem dX9_unwinds_15 : decode cX9_unwinds 15 = .ok (.iconst 1, 1) := by decide +kernel
theorem dX9_unwinds_16 : decode cX9_unwinds 16 = .ok (.isub, 1) := by decide +kernel
theorem dX9_unwinds_17 : decode cX9_unwinds 17 = .ok (.iaload, 1) := by decide +kernel
theorem dX9_unwinds_18 : decode cX9_unwinds 18 = .ok (.invokestatic 140, 3) := by decide +kernel
theorem dX9_unwinds_21 : decode cX9_unwinds 21 = .ok (.iload_n 1, 1) := by decide +kernel
theorem dX9_unwinds_22 : decode cX9_unwinds 22 = .ok (.if_icmp .lt 57, 3) := by decide +kernel
theorem dX9_unwinds_25 : decode cX9_unwinds 25 = .ok (.aload_n 0, 1) := by decide +kernel
theorem dX9_unwinds_26 : decode cX9_unwinds 26 = .ok (.dup, 1) := by decide +kernel
theorem dX9_unwinds_27 : decode cX9_unwinds 27 = .ok (.getfield 137, 3) := by decide +kernel
theorem dX9_unwinds_30 : decode cX9_unwinds 30 = .ok (.iconst 1, 1) := by decide +kernel
theorem dX9_unwinds_31 : decode cX9_unwinds 31 = .ok (.isub, 1) := by decide +kernel
theorem dX9_unwinds_32 : decode cX9_unwinds 32 = .ok (.putfield 137, 3) := by decide +kernel
theorem dX9_unwinds_35 : decode cX9_unwinds 35 = .ok (.aload_n 0, 1) := by decide +kernel
theorem dX9_unwinds_36 : decode cX9_unwinds 36 = .ok (.getfield 53, 3) := by decide +kernel
theorem dX9_unwinds_39 : decode cX9_unwinds 39 = .ok (.aload_n 0, 1) := by decide +kernel
theorem dX9_unwinds_40 : decode cX9_unwinds 40 = .ok (.getfield 137, 3) := by decide +kernel
theorem dX9_unwinds_43 : decode cX9_unwinds 43 = .ok (.iaload, 1) := by decide +kernel
theorem dX9_unwinds_44 : decode cX9_unwinds 44 = .ok (.istore_n 2, 1) := by decide +kernel
theorem dX9_unwinds_45 : decode cX9_unwinds 45 = .ok (.aload_n 0, 1) := by decide +kernel
theorem dX9_unwinds_46 : decode cX9_unwinds 46 = .ok (.dup, 1) := by decide +kernel
theorem dX9_unwinds_47 : decode cX9_unwinds 47 = .ok (.getfield 143, 3) := by decide +kernel
theorem dX9_unwinds_50 : decode cX9_unwinds 50 = .ok (.iload_n 2, 1) := by decide +kernel
theorem dX9_unwinds_51 : decode cX9_unwinds 51 = .ok (.bipush 13, 2) := by decide +kernel
theorem dX9_unwinds_53 : decode cX9_unwinds 53 = .ok (.if_icmp .eq 9, 3) := by decide +kernel
theorem dX9_unwinds_56 : decode cX9_unwinds 56 = .ok (.iload_n 2, 1) := by decide +kernel
theorem dX9_unwinds_57 : decode cX9_unwinds 57 = .ok (.bipush 19, 2) := by decide +kernel
theorem dX9_unwinds_59 : decode cX9_unwinds 59 = .ok (.if_icmp .ne 7, 3) := by decide +kernel
theorem dX9_unwinds_62 : decode cX9_unwinds 62 = .ok (.iconst 1, 1) := by decide +kernel
theorem dX9_unwinds_63 : decode cX9_unwinds 63 = .ok (.goto 4, 3) := by decide +kernel
theorem dX9_unwinds_66 : decode cX9_unwinds 66 = .ok (.iconst 0, 1) := by decide +kernel
theorem dX9_unwinds_67 : decode cX9_unwinds 67 = .ok (.isub, 1) := by decide +kernel
theorem dX9_unwinds_68 : decode cX9_unwinds 68 = .ok (.putfield 143, 3) := by decide +kernel
theorem dX9_unwinds_71 : decode cX9_unwinds 71 = .ok (.aload_n 0, 1) := by decide +kernel
theorem dX9_unwinds_72 : decode cX9_unwinds 72 = .ok (.iload_n 2, 1) := by decide +kernel
theorem dX9_unwinds_73 : decode cX9_unwinds 73 = .ok (.invokevirtual 146, 3) := by decide +kernel
theorem dX9_unwinds_76 : decode cX9_unwinds 76 = .ok (.goto (-76), 3) := by decide +kernel
theorem dX9_unwinds_79 : decode cX9_unwinds 79 = .ok (.return_, 1) := by decide +kernel
theorem dX9_holds_0 : decode cX9_holds 0 = .ok (.aload_n 0, 1) := by decide +kernel
theorem dX9_holds_1 : decode cX9_holds 1 = .ok (.getfield 53, 3) := by decide +kernel
theorem dX9_holds_4 : decode cX9_holds 4 = .ok (.aload_n 0, 1) := by decide +kernel
theorem dX9_holds_5 : decode cX9_holds 5 = .ok (.getfield 137, 3) := by decide +kernel
theorem dX9_holds_8 : decode cX9_holds 8 = .ok (.iload_n 1, 1) := by decide +kernel
theorem dX9_holds_9 : decode cX9_holds 9 = .ok (.iastore, 1) := by decide +kernel
theorem dX9_holds_10 : decode cX9_holds 10 = .ok (.aload_n 0, 1) := by decide +kernel
theorem dX9_holds_11 : decode cX9_holds 11 = .ok (.dup, 1) := by decide +kernel
theorem dX9_holds_12 : decode cX9_holds 12 = .ok (.getfield 137, 3) := by decide +kernel
theorem dX9_holds_15 : decode cX9_holds 15 = .ok (.iconst 1, 1) := by decide +kernel
theorem dX9_holds_16 : decode cX9_holds 16 = .ok (.iadd, 1) := by decide +kernel
theorem dX9_holds_17 : decode cX9_holds 17 = .ok (.putfield 137, 3) := by decide +kernel
theorem dX9_holds_20 : decode cX9_holds 20 = .ok (.return_, 1) := by decide +kernel
theorem dX9_opensOne_0 : decode cX9_opensOne 0 = .ok (.aload_n 0, 1) := by decide +kernel
theorem dX9_opensOne_1 : decode cX9_opensOne 1 = .ok (.getfield 143, 3) := by decide +kernel
theorem dX9_opensOne_4 : decode cX9_opensOne 4 = .ok (.iconst 5, 1) := by decide +kernel
theorem dX9_opensOne_5 : decode cX9_opensOne 5 = .ok (.if_icmp .ne 5, 3) := by decide +kernel
theorem dX9_opensOne_8 : decode cX9_opensOne 8 = .ok (.iconst 0, 1) := by decide +kernel
theorem dX9_opensOne_9 : decode cX9_opensOne 9 = .ok (.ireturn, 1) := by decide +kernel
theorem dX9_opensOne_10 : decode cX9_opensOne 10 = .ok (.aload_n 0, 1) := by decide +kernel
theorem dX9_opensOne_11 : decode cX9_opensOne 11 = .ok (.dup, 1) := by decide +kernel
theorem dX9_opensOne_12 : decode cX9_opensOne 12 = .ok (.getfield 143, 3) := by decide +kernel
theorem dX9_opensOne_15 : decode cX9_opensOne 15 = .ok (.iconst 1, 1) := by decide +kernel
theorem dX9_opensOne_16 : decode cX9_opensOne 16 = .ok (.iadd, 1) := by decide +kernel
theorem dX9_opensOne_17 : decode cX9_opensOne 17 = .ok (.putfield 143, 3) := by decide +kernel
theorem dX9_opensOne_20 : decode cX9_opensOne 20 = .ok (.aload_n 0, 1) := by decide +kernel
theorem dX9_opensOne_21 : decode cX9_opensOne 21 = .ok (.iload_n 1, 1) := by decide +kernel
theorem dX9_opensOne_22 : decode cX9_opensOne 22 = .ok (.invokevirtual 150, 3) := by decide +kernel
theorem dX9_opensOne_25 : decode cX9_opensOne 25 = .ok (.iconst 1, 1) := by decide +kernel
theorem dX9_opensOne_26 : decode cX9_opensOne 26 = .ok (.ireturn, 1) := by decide +kernel
theorem dX9_between_0 : decode cX9_between 0 = .ok (.aload_n 0, 1) := by decide +kernel
theorem dX9_between_1 : decode cX9_between 1 = .ok (.iload_n 1, 1) := by decide +kernel
theorem dX9_between_2 : decode cX9_between 2 = .ok (.invokestatic 140, 3) := by decide +kernel
theorem dX9_between_5 : decode cX9_between 5 = .ok (.iconst 4, 1) := by decide +kernel
theorem dX9_between_6 : decode cX9_between 6 = .ok (.if_icmp .ne 7, 3) := by decide +kernel
theorem dX9_between_9 : decode cX9_between 9 = .ok (.iconst 5, 1) := by decide +kernel
theorem dX9_between_10 : decode cX9_between 10 = .ok (.goto 7, 3) := by decide +kernel
theorem dX9_between_13 : decode cX9_between 13 = .ok (.iload_n 1, 1) := by decide +kernel
theorem dX9_between_14 : decode cX9_between 14 = .ok (.invokestatic 140, 3) := by decide +kernel
theorem dX9_between_17 : decode cX9_between 17 = .ok (.invokevirtual 153, 3) := by decide +kernel
theorem dX9_between_20 : decode cX9_between 20 = .ok (.iload_n 1, 1) := by decide +kernel
theorem dX9_between_21 : decode cX9_between 21 = .ok (.invokestatic 140, 3) := by decide +kernel
theorem dX9_between_24 : decode cX9_between 24 = .ok (.iconst 4, 1) := by decide +kernel
theorem dX9_between_25 : decode cX9_between 25 = .ok (.if_icmp .ne 30, 3) := by decide +kernel
theorem dX9_between_28 : decode cX9_between 28 = .ok (.aload_n 0, 1) := by decide +kernel
theorem dX9_between_29 : decode cX9_between 29 = .ok (.getfield 137, 3) := by decide +kernel
theorem dX9_between_32 : decode cX9_between 32 = .ok (.ifCond .le 23, 3) := by decide +kernel
theorem dX9_between_35 : decode cX9_between 35 = .ok (.aload_n 0, 1) := by decide +kernel
theorem dX9_between_36 : decode cX9_between 36 = .ok (.getfield 53, 3) := by decide +kernel
theorem dX9_between_39 : decode cX9_between 39 = .ok (.aload_n 0, 1) := by decide +kernel
theorem dX9_between_40 : decode cX9_between 40 = .ok (.getfield 137, 3) := by decide +kernel
theorem dX9_between_43 : decode cX9_between 43 = .ok (.iconst 1, 1) := by decide +kernel
theorem dX9_between_44 : decode cX9_between 44 = .ok (.isub, 1) := by decide +kernel
theorem dX9_between_45 : decode cX9_between 45 = .ok (.iaload, 1) := by decide +kernel
theorem dX9_between_46 : decode cX9_between 46 = .ok (.invokestatic 140, 3) := by decide +kernel
theorem dX9_between_49 : decode cX9_between 49 = .ok (.iconst 4, 1) := by decide +kernel
theorem dX9_between_50 : decode cX9_between 50 = .ok (.if_icmp .ne 5, 3) := by decide +kernel
theorem dX9_between_53 : decode cX9_between 53 = .ok (.iconst 0, 1) := by decide +kernel
theorem dX9_between_54 : decode cX9_between 54 = .ok (.ireturn, 1) := by decide +kernel
theorem dX9_between_55 : decode cX9_between 55 = .ok (.aload_n 0, 1) := by decide +kernel
theorem dX9_between_56 : decode cX9_between 56 = .ok (.iload_n 1, 1) := by decide +kernel
theorem dX9_between_57 : decode cX9_between 57 = .ok (.invokevirtual 150, 3) := by decide +kernel
theorem dX9_between_60 : decode cX9_between 60 = .ok (.iconst 1, 1) := by decide +kernel
theorem dX9_between_61 : decode cX9_between 61 = .ok (.ireturn, 1) := by decide +kernel
theorem dX9_signOf_0 : decode cX9_signOf 0 = .ok (.aload_n 0, 1) := by decide +kernel
theorem dX9_signOf_1 : decode cX9_signOf 1 = .ok (.getfield 124, 3) := by decide +kernel
theorem dX9_signOf_4 : decode cX9_signOf 4 = .ok (.iconst 4, 1) := by decide +kernel
theorem dX9_signOf_5 : decode cX9_signOf 5 = .ok (.if_icmp .ne 8, 3) := by decide +kernel
theorem dX9_signOf_8 : decode cX9_signOf 8 = .ok (.bipush 11, 2) := by decide +kernel
theorem dX9_signOf_10 : decode cX9_signOf 10 = .ok (.goto 87, 3) := by decide +kernel
theorem dX9_signOf_13 : decode cX9_signOf 13 = .ok (.aload_n 0, 1) := by decide +kernel
theorem dX9_signOf_14 : decode cX9_signOf 14 = .ok (.getfield 124, 3) := by decide +kernel
theorem dX9_signOf_17 : decode cX9_signOf 17 = .ok (.iconst 5, 1) := by decide +kernel
theorem dX9_signOf_18 : decode cX9_signOf 18 = .ok (.if_icmp .ne 8, 3) := by decide +kernel
theorem dX9_signOf_21 : decode cX9_signOf 21 = .ok (.bipush 12, 2) := by decide +kernel
theorem dX9_signOf_23 : decode cX9_signOf 23 = .ok (.goto 74, 3) := by decide +kernel
theorem dX9_signOf_26 : decode cX9_signOf 26 = .ok (.aload_n 0, 1) := by decide +kernel
theorem dX9_signOf_27 : decode cX9_signOf 27 = .ok (.getfield 124, 3) := by decide +kernel
theorem dX9_signOf_30 : decode cX9_signOf 30 = .ok (.bipush 60, 2) := by decide +kernel
theorem dX9_signOf_32 : decode cX9_signOf 32 = .ok (.if_icmp .ne 8, 3) := by decide +kernel
theorem dX9_signOf_35 : decode cX9_signOf 35 = .ok (.bipush 14, 2) := by decide +kernel
theorem dX9_signOf_37 : decode cX9_signOf 37 = .ok (.goto 60, 3) := by decide +kernel
theorem dX9_signOf_40 : decode cX9_signOf 40 = .ok (.aload_n 0, 1) := by decide +kernel
theorem dX9_signOf_41 : decode cX9_signOf 41 = .ok (.getfield 124, 3) := by decide +kernel
theorem dX9_signOf_44 : decode cX9_signOf 44 = .ok (.bipush 61, 2) := by decide +kernel
theorem dX9_signOf_46 : decode cX9_signOf 46 = .ok (.if_icmp .ne 8, 3) := by decide +kernel
theorem dX9_signOf_49 : decode cX9_signOf 49 = .ok (.bipush 15, 2) := by decide +kernel
theorem dX9_signOf_51 : decode cX9_signOf 51 = .ok (.goto 46, 3) := by decide +kernel
theorem dX9_signOf_54 : decode cX9_signOf 54 = .ok (.aload_n 0, 1) := by decide +kernel
theorem dX9_signOf_55 : decode cX9_signOf 55 = .ok (.getfield 124, 3) := by decide +kernel
theorem dX9_signOf_58 : decode cX9_signOf 58 = .ok (.bipush 43, 2) := by decide +kernel
theorem dX9_signOf_60 : decode cX9_signOf 60 = .ok (.if_icmp .ne 8, 3) := by decide +kernel
theorem dX9_signOf_63 : decode cX9_signOf 63 = .ok (.bipush 16, 2) := by decide +kernel
theorem dX9_signOf_65 : decode cX9_signOf 65 = .ok (.goto 32, 3) := by decide +kernel
theorem dX9_signOf_68 : decode cX9_signOf 68 = .ok (.aload_n 0, 1) := by decide +kernel
theorem dX9_signOf_69 : decode cX9_signOf 69 = .ok (.getfield 124, 3) := by decide +kernel
theorem dX9_signOf_72 : decode cX9_signOf 72 = .ok (.bipush 45, 2) := by decide +kernel
theorem dX9_signOf_74 : decode cX9_signOf 74 = .ok (.if_icmp .ne 8, 3) := by decide +kernel
theorem dX9_signOf_77 : decode cX9_signOf 77 = .ok (.bipush 17, 2) := by decide +kernel
theorem dX9_signOf_79 : decode cX9_signOf 79 = .ok (.goto 18, 3) := by decide +kernel
theorem dX9_signOf_82 : decode cX9_signOf 82 = .ok (.aload_n 0, 1) := by decide +kernel
theorem dX9_signOf_83 : decode cX9_signOf 83 = .ok (.getfield 124, 3) := by decide +kernel
theorem dX9_signOf_86 : decode cX9_signOf 86 = .ok (.bipush 42, 2) := by decide +kernel
theorem dX9_signOf_88 : decode cX9_signOf 88 = .ok (.if_icmp .ne 8, 3) := by decide +kernel
theorem dX9_signOf_91 : decode cX9_signOf 91 = .ok (.bipush 18, 2) := by decide +kernel
theorem dX9_signOf_93 : decode cX9_signOf 93 = .ok (.goto 4, 3) := by decide +kernel
theorem dX9_signOf_96 : decode cX9_signOf 96 = .ok (.iconst (-1), 1) := by decide +kernel
theorem dX9_signOf_97 : decode cX9_signOf 97 = .ok (.ireturn, 1) := by decide +kernel
theorem dX9_eRead_0 : decode cX9_eRead 0 = .ok (.aload_n 0, 1) := by decide +kernel
theorem dX9_eRead_1 : decode cX9_eRead 1 = .ok (.iconst 0, 1) := by decide +kernel
theorem dX9_eRead_2 : decode cX9_eRead 2 = .ok (.putfield 137, 3) := by decide +kernel
theorem dX9_eRead_5 : decode cX9_eRead 5 = .ok (.aload_n 0, 1) := by decide +kernel
theorem dX9_eRead_6 : decode cX9_eRead 6 = .ok (.iconst 0, 1) := by decide +kernel
theorem dX9_eRead_7 : decode cX9_eRead 7 = .ok (.putfield 143, 3) := by decide +kernel
theorem dX9_eRead_10 : decode cX9_eRead 10 = .ok (.iconst 1, 1) := by decide +kernel
theorem dX9_eRead_11 : decode cX9_eRead 11 = .ok (.istore_n 1, 1) := by decide +kernel
theorem dX9_eRead_12 : decode cX9_eRead 12 = .ok (.iconst 1, 1) := by decide +kernel
theorem dX9_eRead_13 : decode cX9_eRead 13 = .ok (.istore_n 2, 1) := by decide +kernel
theorem dX9_eRead_14 : decode cX9_eRead 14 = .ok (.aload_n 0, 1) := by decide +kernel
theorem dX9_eRead_15 : decode cX9_eRead 15 = .ok (.invokevirtual 156, 3) := by decide +kernel
theorem dX9_eRead_18 : decode cX9_eRead 18 = .ok (.iload_n 1, 1) := by decide +kernel
theorem dX9_eRead_19 : decode cX9_eRead 19 = .ok (.ifCond .eq 131, 3) := by decide +kernel
theorem dX9_eRead_22 : decode cX9_eRead 22 = .ok (.aload_n 0, 1) := by decide +kernel
theorem dX9_eRead_23 : decode cX9_eRead 23 = .ok (.getfield 124, 3) := by decide +kernel
theorem dX9_eRead_26 : decode cX9_eRead 26 = .ok (.iconst 1, 1) := by decide +kernel
theorem dX9_eRead_27 : decode cX9_eRead 27 = .ok (.if_icmp .eq 11, 3) := by decide +kernel
theorem dX9_eRead_30 : decode cX9_eRead 30 = .ok (.aload_n 0, 1) := by decide +kernel
theorem dX9_eRead_31 : decode cX9_eRead 31 = .ok (.getfield 124, 3) := by decide +kernel
theorem dX9_eRead_34 : decode cX9_eRead 34 = .ok (.iconst 2, 1) := by decide +kernel
theorem dX9_eRead_35 : decode cX9_eRead 35 = .ok (.if_icmp .ne 40, 3) := by decide +kernel
theorem dX9_eRead_38 : decode cX9_eRead 38 = .ok (.aload_n 0, 1) := by decide +kernel
theorem dX9_eRead_39 : decode cX9_eRead 39 = .ok (.aload_n 0, 1) := by decide +kernel
theorem dX9_eRead_40 : decode cX9_eRead 40 = .ok (.getfield 124, 3) := by decide +kernel
theorem dX9_eRead_43 : decode cX9_eRead 43 = .ok (.iconst 1, 1) := by decide +kernel
theorem dX9_eRead_44 : decode cX9_eRead 44 = .ok (.if_icmp .ne 13, 3) := by decide +kernel
theorem dX9_eRead_47 : decode cX9_eRead 47 = .ok (.ldc 159, 2) := by decide +kernel
theorem dX9_eRead_49 : decode cX9_eRead 49 = .ok (.aload_n 0, 1) := by decide +kernel
theorem dX9_eRead_50 : decode cX9_eRead 50 = .ok (.getfield 127, 3) := by decide +kernel
theorem dX9_eRead_53 : decode cX9_eRead 53 = .ok (.iadd, 1) := by decide +kernel
theorem dX9_eRead_54 : decode cX9_eRead 54 = .ok (.goto 7, 3) := by decide +kernel
theorem dX9_eRead_57 : decode cX9_eRead 57 = .ok (.aload_n 0, 1) := by decide +kernel
theorem dX9_eRead_58 : decode cX9_eRead 58 = .ok (.getfield 127, 3) := by decide +kernel
theorem dX9_eRead_61 : decode cX9_eRead 61 = .ok (.invokevirtual 146, 3) := by decide +kernel
theorem dX9_eRead_64 : decode cX9_eRead 64 = .ok (.aload_n 0, 1) := by decide +kernel
theorem dX9_eRead_65 : decode cX9_eRead 65 = .ok (.bipush 7, 2) := by decide +kernel
theorem dX9_eRead_67 : decode cX9_eRead 67 = .ok (.invokevirtual 153, 3) := by decide +kernel
theorem dX9_eRead_70 : decode cX9_eRead 70 = .ok (.iconst 0, 1) := by decide +kernel
theorem dX9_eRead_71 : decode cX9_eRead 71 = .ok (.istore_n 1, 1) := by decide +kernel
theorem dX9_eRead_72 : decode cX9_eRead 72 = .ok (.goto (-58), 3) := by decide +kernel
theorem dX9_eRead_75 : decode cX9_eRead 75 = .ok (.aload_n 0, 1) := by decide +kernel
theorem dX9_eRead_76 : decode cX9_eRead 76 = .ok (.getfield 124, 3) := by decide +kernel
theorem dX9_eRead_79 : decode cX9_eRead 79 = .ok (.bipush 6, 2) := by decide +kernel
theorem dX9_eRead_81 : decode cX9_eRead 81 = .ok (.if_icmp .ne 18, 3) := by decide +kernel
theorem dX9_eRead_84 : decode cX9_eRead 84 = .ok (.iload_n 2, 1) := by decide +kernel
theorem dX9_eRead_85 : decode cX9_eRead 85 = .ok (.ifCond .eq 14, 3) := by decide +kernel
theorem dX9_eRead_88 : decode cX9_eRead 88 = .ok (.aload_n 0, 1) := by decide +kernel
theorem dX9_eRead_89 : decode cX9_eRead 89 = .ok (.bipush 13, 2) := by decide +kernel
theorem dX9_eRead_91 : decode cX9_eRead 91 = .ok (.invokevirtual 160, 3) := by decide +kernel
theorem dX9_eRead_94 : decode cX9_eRead 94 = .ok (.ifCond .ne (-80), 3) := by decide +kernel
theorem dX9_eRead_97 : decode cX9_eRead 97 = .ok (.iconst 0, 1) := by decide +kernel
theorem dX9_eRead_98 : decode cX9_eRead 98 = .ok (.ireturn, 1) := by decide +kernel
theorem dX9_eRead_99 : decode cX9_eRead 99 = .ok (.aload_n 0, 1) := by decide +kernel
theorem dX9_eRead_100 : decode cX9_eRead 100 = .ok (.getfield 124, 3) := by decide +kernel
theorem dX9_eRead_103 : decode cX9_eRead 103 = .ok (.bipush 45, 2) := by decide +kernel
theorem dX9_eRead_105 : decode cX9_eRead 105 = .ok (.if_icmp .ne 19, 3) := by decide +kernel
theorem dX9_eRead_108 : decode cX9_eRead 108 = .ok (.aload_n 0, 1) := by decide +kernel
theorem dX9_eRead_109 : decode cX9_eRead 109 = .ok (.bipush 19, 2) := by decide +kernel
theorem dX9_eRead_111 : decode cX9_eRead 111 = .ok (.invokevirtual 160, 3) := by decide +kernel
theorem dX9_eRead_114 : decode cX9_eRead 114 = .ok (.ifCond .ne 5, 3) := by decide +kernel
theorem dX9_eRead_117 : decode cX9_eRead 117 = .ok (.iconst 0, 1) := by decide +kernel
theorem dX9_eRead_118 : decode cX9_eRead 118 = .ok (.ireturn, 1) := by decide +kernel
theorem dX9_eRead_119 : decode cX9_eRead 119 = .ok (.iconst 0, 1) := by decide +kernel
theorem dX9_eRead_120 : decode cX9_eRead 120 = .ok (.istore_n 2, 1) := by decide +kernel
theorem dX9_eRead_121 : decode cX9_eRead 121 = .ok (.goto (-107), 3) := by decide +kernel
theorem dX9_eRead_124 : decode cX9_eRead 124 = .ok (.aload_n 0, 1) := by decide +kernel
theorem dX9_eRead_125 : decode cX9_eRead 125 = .ok (.getfield 124, 3) := by decide +kernel
theorem dX9_eRead_128 : decode cX9_eRead 128 = .ok (.bipush 40, 2) := by decide +kernel
theorem dX9_eRead_130 : decode cX9_eRead 130 = .ok (.if_icmp .ne 18, 3) := by decide +kernel
theorem dX9_eRead_133 : decode cX9_eRead 133 = .ok (.aload_n 0, 1) := by decide +kernel
theorem dX9_eRead_134 : decode cX9_eRead 134 = .ok (.iconst 0, 1) := by decide +kernel
theorem dX9_eRead_135 : decode cX9_eRead 135 = .ok (.invokevirtual 160, 3) := by decide +kernel
theorem dX9_eRead_138 : decode cX9_eRead 138 = .ok (.ifCond .ne 5, 3) := by decide +kernel
theorem dX9_eRead_141 : decode cX9_eRead 141 = .ok (.iconst 0, 1) := by decide +kernel
theorem dX9_eRead_142 : decode cX9_eRead 142 = .ok (.ireturn, 1) := by decide +kernel
theorem dX9_eRead_143 : decode cX9_eRead 143 = .ok (.iconst 1, 1) := by decide +kernel
theorem dX9_eRead_144 : decode cX9_eRead 144 = .ok (.istore_n 2, 1) := by decide +kernel
theorem dX9_eRead_145 : decode cX9_eRead 145 = .ok (.goto (-131), 3) := by decide +kernel
theorem dX9_eRead_148 : decode cX9_eRead 148 = .ok (.iconst 0, 1) := by decide +kernel
theorem dX9_eRead_149 : decode cX9_eRead 149 = .ok (.ireturn, 1) := by decide +kernel
theorem dX9_eRead_150 : decode cX9_eRead 150 = .ok (.aload_n 0, 1) := by decide +kernel
theorem dX9_eRead_151 : decode cX9_eRead 151 = .ok (.getfield 124, 3) := by decide +kernel
theorem dX9_eRead_154 : decode cX9_eRead 154 = .ok (.bipush 59, 2) := by decide +kernel
theorem dX9_eRead_156 : decode cX9_eRead 156 = .ok (.if_icmp .ne 21, 3) := by decide +kernel
theorem dX9_eRead_159 : decode cX9_eRead 159 = .ok (.aload_n 0, 1) := by decide +kernel
theorem dX9_eRead_160 : decode cX9_eRead 160 = .ok (.iconst 1, 1) := by decide +kernel
theorem dX9_eRead_161 : decode cX9_eRead 161 = .ok (.invokevirtual 153, 3) := by decide +kernel
theorem dX9_eRead_164 : decode cX9_eRead 164 = .ok (.aload_n 0, 1) := by decide +kernel
theorem dX9_eRead_165 : decode cX9_eRead 165 = .ok (.getfield 137, 3) := by decide +kernel
theorem dX9_eRead_168 : decode cX9_eRead 168 = .ok (.ifCond .ne 7, 3) := by decide +kernel
theorem dX9_eRead_171 : decode cX9_eRead 171 = .ok (.iconst 1, 1) := by decide +kernel
theorem dX9_eRead_172 : decode cX9_eRead 172 = .ok (.goto 4, 3) := by decide +kernel
theorem dX9_eRead_175 : decode cX9_eRead 175 = .ok (.iconst 0, 1) := by decide +kernel
theorem dX9_eRead_176 : decode cX9_eRead 176 = .ok (.ireturn, 1) := by decide +kernel
theorem dX9_eRead_177 : decode cX9_eRead 177 = .ok (.aload_n 0, 1) := by decide +kernel
theorem dX9_eRead_178 : decode cX9_eRead 178 = .ok (.getfield 124, 3) := by decide +kernel
theorem dX9_eRead_181 : decode cX9_eRead 181 = .ok (.bipush 41, 2) := by decide +kernel
theorem dX9_eRead_183 : decode cX9_eRead 183 = .ok (.if_icmp .ne 46, 3) := by decide +kernel
theorem dX9_eRead_186 : decode cX9_eRead 186 = .ok (.aload_n 0, 1) := by decide +kernel
theorem dX9_eRead_187 : decode cX9_eRead 187 = .ok (.iconst 1, 1) := by decide +kernel
theorem dX9_eRead_188 : decode cX9_eRead 188 = .ok (.invokevirtual 153, 3) := by decide +kernel
theorem dX9_eRead_191 : decode cX9_eRead 191 = .ok (.aload_n 0, 1) := by decide +kernel
theorem dX9_eRead_192 : decode cX9_eRead 192 = .ok (.getfield 137, 3) := by decide +kernel
theorem dX9_eRead_195 : decode cX9_eRead 195 = .ok (.ifCond .ne 5, 3) := by decide +kernel
theorem dX9_eRead_198 : decode cX9_eRead 198 = .ok (.iconst 0, 1) := by decide +kernel
theorem dX9_eRead_199 : decode cX9_eRead 199 = .ok (.ireturn, 1) := by decide +kernel
theorem dX9_eRead_200 : decode cX9_eRead 200 = .ok (.aload_n 0, 1) := by decide +kernel
theorem dX9_eRead_201 : decode cX9_eRead 201 = .ok (.dup, 1) := by decide +kernel
theorem dX9_eRead_202 : decode cX9_eRead 202 = .ok (.getfield 137, 3) := by decide +kernel
theorem dX9_eRead_205 : decode cX9_eRead 205 = .ok (.iconst 1, 1) := by decide +kernel
theorem dX9_eRead_206 : decode cX9_eRead 206 = .ok (.isub, 1) := by decide +kernel
theorem dX9_eRead_207 : decode cX9_eRead 207 = .ok (.putfield 137, 3) := by decide +kernel
theorem dX9_eRead_210 : decode cX9_eRead 210 = .ok (.aload_n 0, 1) := by decide +kernel
theorem dX9_eRead_211 : decode cX9_eRead 211 = .ok (.dup, 1) := by decide +kernel
theorem dX9_eRead_212 : decode cX9_eRead 212 = .ok (.getfield 143, 3) := by decide +kernel
theorem dX9_eRead_215 : decode cX9_eRead 215 = .ok (.iconst 1, 1) := by decide +kernel
theorem dX9_eRead_216 : decode cX9_eRead 216 = .ok (.isub, 1) := by decide +kernel
theorem dX9_eRead_217 : decode cX9_eRead 217 = .ok (.putfield 143, 3) := by decide +kernel
theorem dX9_eRead_220 : decode cX9_eRead 220 = .ok (.aload_n 0, 1) := by decide +kernel
theorem dX9_eRead_221 : decode cX9_eRead 221 = .ok (.bipush 7, 2) := by decide +kernel
theorem dX9_eRead_223 : decode cX9_eRead 223 = .ok (.invokevirtual 153, 3) := by decide +kernel
theorem dX9_eRead_226 : decode cX9_eRead 226 = .ok (.goto (-212), 3) := by decide +kernel
theorem dX9_eRead_229 : decode cX9_eRead 229 = .ok (.aload_n 0, 1) := by decide +kernel
theorem dX9_eRead_230 : decode cX9_eRead 230 = .ok (.invokevirtual 163, 3) := by decide +kernel
theorem dX9_eRead_233 : decode cX9_eRead 233 = .ok (.istore_n 3, 1) := by decide +kernel
theorem dX9_eRead_234 : decode cX9_eRead 234 = .ok (.iload_n 3, 1) := by decide +kernel
theorem dX9_eRead_235 : decode cX9_eRead 235 = .ok (.iconst (-1), 1) := by decide +kernel
theorem dX9_eRead_236 : decode cX9_eRead 236 = .ok (.if_icmp .eq 11, 3) := by decide +kernel
theorem dX9_eRead_239 : decode cX9_eRead 239 = .ok (.aload_n 0, 1) := by decide +kernel
theorem dX9_eRead_240 : decode cX9_eRead 240 = .ok (.iload_n 3, 1) := by decide +kernel
theorem dX9_eRead_241 : decode cX9_eRead 241 = .ok (.invokevirtual 166, 3) := by decide +kernel
theorem dX9_eRead_244 : decode cX9_eRead 244 = .ok (.ifCond .ne 5, 3) := by decide +kernel
theorem dX9_eRead_247 : decode cX9_eRead 247 = .ok (.iconst 0, 1) := by decide +kernel
theorem dX9_eRead_248 : decode cX9_eRead 248 = .ok (.ireturn, 1) := by decide +kernel
theorem dX9_eRead_249 : decode cX9_eRead 249 = .ok (.iconst 1, 1) := by decide +kernel
theorem dX9_eRead_250 : decode cX9_eRead 250 = .ok (.istore_n 1, 1) := by decide +kernel
theorem dX9_eRead_251 : decode cX9_eRead 251 = .ok (.iload_n 3, 1) := by decide +kernel
theorem dX9_eRead_252 : decode cX9_eRead 252 = .ok (.bipush 12, 2) := by decide +kernel
theorem dX9_eRead_254 : decode cX9_eRead 254 = .ok (.if_icmp .gt 7, 3) := by decide +kernel
theorem dX9_eRead_257 : decode cX9_eRead 257 = .ok (.iconst 1, 1) := by decide +kernel
theorem dX9_eRead_258 : decode cX9_eRead 258 = .ok (.goto 4, 3) := by decide +kernel
theorem dX9_eRead_261 : decode cX9_eRead 261 = .ok (.iconst 0, 1) := by decide +kernel
theorem dX9_eRead_262 : decode cX9_eRead 262 = .ok (.istore_n 2, 1) := by decide +kernel
theorem dX9_eRead_263 : decode cX9_eRead 263 = .ok (.goto (-249), 3) := by decide +kernel
theorem dX9_text_0 : decode cX9_text 0 = .ok (.aload_n 0, 1) := by decide +kernel
theorem dX9_text_1 : decode cX9_text 1 = .ok (.getfield 108, 3) := by decide +kernel
theorem dX9_text_4 : decode cX9_text 4 = .ok (.bipush 6, 2) := by decide +kernel
theorem dX9_text_6 : decode cX9_text 6 = .ok (.if_icmp .ne 6, 3) := by decide +kernel
theorem dX9_text_9 : decode cX9_text 9 = .ok (.bipush (-4), 2) := by decide +kernel
theorem dX9_text_11 : decode cX9_text 11 = .ok (.ireturn, 1) := by decide +kernel
theorem dX9_text_12 : decode cX9_text 12 = .ok (.aload_n 0, 1) := by decide +kernel
theorem dX9_text_13 : decode cX9_text 13 = .ok (.iconst 0, 1) := by decide +kernel
theorem dX9_text_14 : decode cX9_text 14 = .ok (.putfield 118, 3) := by decide +kernel
theorem dX9_text_17 : decode cX9_text 17 = .ok (.aload_n 0, 1) := by decide +kernel
theorem dX9_text_18 : decode cX9_text 18 = .ok (.iconst 0, 1) := by decide +kernel
theorem dX9_text_19 : decode cX9_text 19 = .ok (.putfield 134, 3) := by decide +kernel
theorem dX9_text_22 : decode cX9_text 22 = .ok (.iconst 1, 1) := by decide +kernel
theorem dX9_text_23 : decode cX9_text 23 = .ok (.istore_n 1, 1) := by decide +kernel
theorem dX9_text_24 : decode cX9_text 24 = .ok (.iconst 0, 1) := by decide +kernel
theorem dX9_text_25 : decode cX9_text 25 = .ok (.istore_n 2, 1) := by decide +kernel
theorem dX9_text_26 : decode cX9_text 26 = .ok (.iload_n 2, 1) := by decide +kernel
theorem dX9_text_27 : decode cX9_text 27 = .ok (.iconst 3, 1) := by decide +kernel
theorem dX9_text_28 : decode cX9_text 28 = .ok (.if_icmp .ge 73, 3) := by decide +kernel
theorem dX9_text_31 : decode cX9_text 31 = .ok (.iload_n 1, 1) := by decide +kernel
theorem dX9_text_32 : decode cX9_text 32 = .ok (.ifCond .eq 69, 3) := by decide +kernel
theorem dX9_text_35 : decode cX9_text 35 = .ok (.aload_n 0, 1) := by decide +kernel
theorem dX9_text_36 : decode cX9_text 36 = .ok (.invokevirtual 156, 3) := by decide +kernel
theorem dX9_text_39 : decode cX9_text 39 = .ok (.aload_n 0, 1) := by decide +kernel
theorem dX9_text_40 : decode cX9_text 40 = .ok (.getfield 124, 3) := by decide +kernel
theorem dX9_text_43 : decode cX9_text 43 = .ok (.iconst 3, 1) := by decide +kernel
theorem dX9_text_44 : decode cX9_text 44 = .ok (.if_icmp .ne 15, 3) := by decide +kernel
theorem dX9_text_47 : decode cX9_text 47 = .ok (.aload_n 0, 1) := by decide +kernel
theorem dX9_text_48 : decode cX9_text 48 = .ok (.getfield 127, 3) := by decide +kernel
theorem dX9_text_51 : decode cX9_text 51 = .ok (.iload_n 2, 1) := by decide +kernel
theorem dX9_text_52 : decode cX9_text 52 = .ok (.if_icmp .ne 7, 3) := by decide +kernel
theorem dX9_text_55 : decode cX9_text 55 = .ok (.iconst 1, 1) := by decide +kernel
theorem dX9_text_56 : decode cX9_text 56 = .ok (.goto 4, 3) := by decide +kernel
theorem dX9_text_59 : decode cX9_text 59 = .ok (.iconst 0, 1) := by decide +kernel
theorem dX9_text_60 : decode cX9_text 60 = .ok (.istore_n 1, 1) := by decide +kernel
theorem dX9_text_61 : decode cX9_text 61 = .ok (.aload_n 0, 1) := by decide +kernel
theorem dX9_text_62 : decode cX9_text 62 = .ok (.getfield 35, 3) := by decide +kernel
theorem dX9_text_65 : decode cX9_text 65 = .ok (.iconst 4, 1) := by decide +kernel
theorem dX9_text_66 : decode cX9_text 66 = .ok (.aload_n 0, 1) := by decide +kernel
theorem dX9_text_67 : decode cX9_text 67 = .ok (.getfield 108, 3) := by decide +kernel
theorem dX9_text_70 : decode cX9_text 70 = .ok (.imul, 1) := by decide +kernel
theorem dX9_text_71 : decode cX9_text 71 = .ok (.iload_n 2, 1) := by decide +kernel
theorem dX9_text_72 : decode cX9_text 72 = .ok (.iadd, 1) := by decide +kernel
theorem dX9_text_73 : decode cX9_text 73 = .ok (.aload_n 0, 1) := by decide +kernel
theorem dX9_text_74 : decode cX9_text 74 = .ok (.getfield 134, 3) := by decide +kernel
theorem dX9_text_77 : decode cX9_text 77 = .ok (.iastore, 1) := by decide +kernel
theorem dX9_text_78 : decode cX9_text 78 = .ok (.iload_n 1, 1) := by decide +kernel
theorem dX9_text_79 : decode cX9_text 79 = .ok (.ifCond .eq 14, 3) := by decide +kernel
theorem dX9_text_82 : decode cX9_text 82 = .ok (.aload_n 0, 1) := by decide +kernel
theorem dX9_text_83 : decode cX9_text 83 = .ok (.invokevirtual 169, 3) := by decide +kernel
theorem dX9_text_86 : decode cX9_text 86 = .ok (.ifCond .eq 7, 3) := by decide +kernel
theorem dX9_text_89 : decode cX9_text 89 = .ok (.iconst 1, 1) := by decide +kernel
theorem dX9_text_90 : decode cX9_text 90 = .ok (.goto 4, 3) := by decide +kernel
theorem dX9_text_93 : decode cX9_text 93 = .ok (.iconst 0, 1) := by decide +kernel
theorem dX9_text_94 : decode cX9_text 94 = .ok (.istore_n 1, 1) := by decide +kernel
theorem dX9_text_95 : decode cX9_text 95 = .ok (.iinc 2 1, 3) := by decide +kernel
theorem dX9_text_98 : decode cX9_text 98 = .ok (.goto (-72), 3) := by decide +kernel
theorem dX9_text_101 : decode cX9_text 101 = .ok (.iload_n 1, 1) := by decide +kernel
theorem dX9_text_102 : decode cX9_text 102 = .ok (.ifCond .eq 20, 3) := by decide +kernel
theorem dX9_text_105 : decode cX9_text 105 = .ok (.aload_n 0, 1) := by decide +kernel
theorem dX9_text_106 : decode cX9_text 106 = .ok (.invokevirtual 156, 3) := by decide +kernel
theorem dX9_text_109 : decode cX9_text 109 = .ok (.aload_n 0, 1) := by decide +kernel
theorem dX9_text_110 : decode cX9_text 110 = .ok (.getfield 124, 3) := by decide +kernel
theorem dX9_text_113 : decode cX9_text 113 = .ok (.ifCond .ne 7, 3) := by decide +kernel
theorem dX9_text_116 : decode cX9_text 116 = .ok (.iconst 1, 1) := by decide +kernel
theorem dX9_text_117 : decode cX9_text 117 = .ok (.goto 4, 3) := by decide +kernel
theorem dX9_text_120 : decode cX9_text 120 = .ok (.iconst 0, 1) := by decide +kernel
theorem dX9_text_121 : decode cX9_text 121 = .ok (.istore_n 1, 1) := by decide +kernel
theorem dX9_text_122 : decode cX9_text 122 = .ok (.aload_n 0, 1) := by decide +kernel
theorem dX9_text_123 : decode cX9_text 123 = .ok (.getfield 35, 3) := by decide +kernel
theorem dX9_text_126 : decode cX9_text 126 = .ok (.iconst 4, 1) := by decide +kernel
theorem dX9_text_127 : decode cX9_text 127 = .ok (.aload_n 0, 1) := by decide +kernel
theorem dX9_text_128 : decode cX9_text 128 = .ok (.getfield 108, 3) := by decide +kernel
theorem dX9_text_131 : decode cX9_text 131 = .ok (.imul, 1) := by decide +kernel
theorem dX9_text_132 : decode cX9_text 132 = .ok (.iconst 3, 1) := by decide +kernel
theorem dX9_text_133 : decode cX9_text 133 = .ok (.iadd, 1) := by decide +kernel
theorem dX9_text_134 : decode cX9_text 134 = .ok (.aload_n 0, 1) := by decide +kernel
theorem dX9_text_135 : decode cX9_text 135 = .ok (.getfield 134, 3) := by decide +kernel
theorem dX9_text_138 : decode cX9_text 138 = .ok (.iastore, 1) := by decide +kernel
theorem dX9_text_139 : decode cX9_text 139 = .ok (.aload_n 0, 1) := by decide +kernel
theorem dX9_text_140 : decode cX9_text 140 = .ok (.iconst 0, 1) := by decide +kernel
theorem dX9_text_141 : decode cX9_text 141 = .ok (.putfield 81, 3) := by decide +kernel
theorem dX9_text_144 : decode cX9_text 144 = .ok (.iload_n 1, 1) := by decide +kernel
theorem dX9_text_145 : decode cX9_text 145 = .ok (.ifCond .ne 11, 3) := by decide +kernel
theorem dX9_text_148 : decode cX9_text 148 = .ok (.bipush (-100), 2) := by decide +kernel
theorem dX9_text_150 : decode cX9_text 150 = .ok (.aload_n 0, 1) := by decide +kernel
theorem dX9_text_151 : decode cX9_text 151 = .ok (.getfield 121, 3) := by decide +kernel
theorem dX9_text_154 : decode cX9_text 154 = .ok (.isub, 1) := by decide +kernel
theorem dX9_text_155 : decode cX9_text 155 = .ok (.ireturn, 1) := by decide +kernel
theorem dX9_text_156 : decode cX9_text 156 = .ok (.aload_n 0, 1) := by decide +kernel
theorem dX9_text_157 : decode cX9_text 157 = .ok (.dup, 1) := by decide +kernel
theorem dX9_text_158 : decode cX9_text 158 = .ok (.getfield 108, 3) := by decide +kernel
theorem dX9_text_161 : decode cX9_text 161 = .ok (.iconst 1, 1) := by decide +kernel
theorem dX9_text_162 : decode cX9_text 162 = .ok (.iadd, 1) := by decide +kernel
theorem dX9_text_163 : decode cX9_text 163 = .ok (.putfield 108, 3) := by decide +kernel
theorem dX9_text_166 : decode cX9_text 166 = .ok (.aload_n 0, 1) := by decide +kernel
theorem dX9_text_167 : decode cX9_text 167 = .ok (.getfield 108, 3) := by decide +kernel
theorem dX9_text_170 : decode cX9_text 170 = .ok (.iconst 1, 1) := by decide +kernel
theorem dX9_text_171 : decode cX9_text 171 = .ok (.isub, 1) := by decide +kernel
theorem dX9_text_172 : decode cX9_text 172 = .ok (.ireturn, 1) := by decide +kernel
theorem dX9_bothOf_0 : decode cX9_bothOf 0 = .ok (.iload_n 0, 1) := by decide +kernel
theorem dX9_bothOf_1 : decode cX9_bothOf 1 = .ok (.tableswitch 101 11 17 #[43, 57, 101, 71, 82, 93, 97], 43) := by decide +kernel
theorem dX9_bothOf_44 : decode cX9_bothOf 44 = .ok (.iload_n 1, 1) := by decide +kernel
theorem dX9_bothOf_45 : decode cX9_bothOf 45 = .ok (.ifCond .ne 7, 3) := by decide +kernel
theorem dX9_bothOf_48 : decode cX9_bothOf 48 = .ok (.iload_n 2, 1) := by decide +kernel
theorem dX9_bothOf_49 : decode cX9_bothOf 49 = .ok (.ifCond .eq 7, 3) := by decide +kernel
theorem dX9_bothOf_52 : decode cX9_bothOf 52 = .ok (.iconst 1, 1) := by decide +kernel
theorem dX9_bothOf_53 : decode cX9_bothOf 53 = .ok (.goto 4, 3) := by decide +kernel
theorem dX9_bothOf_56 : decode cX9_bothOf 56 = .ok (.iconst 0, 1) := by decide +kernel
theorem dX9_bothOf_57 : decode cX9_bothOf 57 = .ok (.ireturn, 1) := by decide +kernel
theorem dX9_bothOf_58 : decode cX9_bothOf 58 = .ok (.iload_n 1, 1) := by decide +kernel
theorem dX9_bothOf_59 : decode cX9_bothOf 59 = .ok (.ifCond .eq 11, 3) := by decide +kernel
theorem dX9_bothOf_62 : decode cX9_bothOf 62 = .ok (.iload_n 2, 1) := by decide +kernel
theorem dX9_bothOf_63 : decode cX9_bothOf 63 = .ok (.ifCond .eq 7, 3) := by decide +kernel
theorem dX9_bothOf_66 : decode cX9_bothOf 66 = .ok (.iconst 1, 1) := by decide +kernel
theorem dX9_bothOf_67 : decode cX9_bothOf 67 = .ok (.goto 4, 3) := by decide +kernel
theorem dX9_bothOf_70 : decode cX9_bothOf 70 = .ok (.iconst 0, 1) := by decide +kernel
theorem dX9_bothOf_71 : decode cX9_bothOf 71 = .ok (.ireturn, 1) := by decide +kernel
theorem dX9_bothOf_72 : decode cX9_bothOf 72 = .ok (.iload_n 1, 1) := by decide +kernel
theorem dX9_bothOf_73 : decode cX9_bothOf 73 = .ok (.iload_n 2, 1) := by decide +kernel
theorem dX9_bothOf_74 : decode cX9_bothOf 74 = .ok (.if_icmp .ge 7, 3) := by decide +kernel
theorem dX9_bothOf_77 : decode cX9_bothOf 77 = .ok (.iconst 1, 1) := by decide +kernel
theorem dX9_bothOf_78 : decode cX9_bothOf 78 = .ok (.goto 4, 3) := by decide +kernel
theorem dX9_bothOf_81 : decode cX9_bothOf 81 = .ok (.iconst 0, 1) := by decide +kernel
theorem dX9_bothOf_82 : decode cX9_bothOf 82 = .ok (.ireturn, 1) := by decide +kernel
theorem dX9_bothOf_83 : decode cX9_bothOf 83 = .ok (.iload_n 1, 1) := by decide +kernel
theorem dX9_bothOf_84 : decode cX9_bothOf 84 = .ok (.iload_n 2, 1) := by decide +kernel
theorem dX9_bothOf_85 : decode cX9_bothOf 85 = .ok (.if_icmp .ne 7, 3) := by decide +kernel
theorem dX9_bothOf_88 : decode cX9_bothOf 88 = .ok (.iconst 1, 1) := by decide +kernel
theorem dX9_bothOf_89 : decode cX9_bothOf 89 = .ok (.goto 4, 3) := by decide +kernel
theorem dX9_bothOf_92 : decode cX9_bothOf 92 = .ok (.iconst 0, 1) := by decide +kernel
theorem dX9_bothOf_93 : decode cX9_bothOf 93 = .ok (.ireturn, 1) := by decide +kernel
theorem dX9_bothOf_94 : decode cX9_bothOf 94 = .ok (.iload_n 1, 1) := by decide +kernel
theorem dX9_bothOf_95 : decode cX9_bothOf 95 = .ok (.iload_n 2, 1) := by decide +kernel
theorem dX9_bothOf_96 : decode cX9_bothOf 96 = .ok (.iadd, 1) := by decide +kernel
theorem dX9_bothOf_97 : decode cX9_bothOf 97 = .ok (.ireturn, 1) := by decide +kernel
theorem dX9_bothOf_98 : decode cX9_bothOf 98 = .ok (.iload_n 1, 1) := by decide +kernel
theorem dX9_bothOf_99 : decode cX9_bothOf 99 = .ok (.iload_n 2, 1) := by decide +kernel
theorem dX9_bothOf_100 : decode cX9_bothOf 100 = .ok (.isub, 1) := by decide +kernel
theorem dX9_bothOf_101 : decode cX9_bothOf 101 = .ok (.ireturn, 1) := by decide +kernel
theorem dX9_bothOf_102 : decode cX9_bothOf 102 = .ok (.iload_n 1, 1) := by decide +kernel
theorem dX9_bothOf_103 : decode cX9_bothOf 103 = .ok (.iload_n 2, 1) := by decide +kernel
theorem dX9_bothOf_104 : decode cX9_bothOf 104 = .ok (.imul, 1) := by decide +kernel
theorem dX9_bothOf_105 : decode cX9_bothOf 105 = .ok (.ireturn, 1) := by decide +kernel
theorem dX9_worth_0 : decode cX9_worth 0 = .ok (.iconst 0, 1) := by decide +kernel
theorem dX9_worth_1 : decode cX9_worth 1 = .ok (.istore_n 2, 1) := by decide +kernel
theorem dX9_worth_2 : decode cX9_worth 2 = .ok (.aload_n 0, 1) := by decide +kernel
theorem dX9_worth_3 : decode cX9_worth 3 = .ok (.getfield 35, 3) := by decide +kernel
theorem dX9_worth_6 : decode cX9_worth 6 = .ok (.iconst 4, 1) := by decide +kernel
theorem dX9_worth_7 : decode cX9_worth 7 = .ok (.aload_n 0, 1) := by decide +kernel
theorem dX9_worth_8 : decode cX9_worth 8 = .ok (.getfield 111, 3) := by decide +kernel
theorem dX9_worth_11 : decode cX9_worth 11 = .ok (.imul, 1) := by decide +kernel
theorem dX9_worth_12 : decode cX9_worth 12 = .ok (.iload_n 1, 1) := by decide +kernel
theorem dX9_worth_13 : decode cX9_worth 13 = .ok (.iadd, 1) := by decide +kernel
theorem dX9_worth_14 : decode cX9_worth 14 = .ok (.iaload, 1) := by decide +kernel
theorem dX9_worth_15 : decode cX9_worth 15 = .ok (.istore_n 3, 1) := by decide +kernel
theorem dX9_worth_16 : decode cX9_worth 16 = .ok (.iload_n 3, 1) := by decide +kernel
theorem dX9_worth_17 : decode cX9_worth 17 = .ok (.aload_n 0, 1) := by decide +kernel
theorem dX9_worth_18 : decode cX9_worth 18 = .ok (.getfield 35, 3) := by decide +kernel
theorem dX9_worth_21 : decode cX9_worth 21 = .ok (.iconst 4, 1) := by decide +kernel
theorem dX9_worth_22 : decode cX9_worth 22 = .ok (.aload_n 0, 1) := by decide +kernel
theorem dX9_worth_23 : decode cX9_worth 23 = .ok (.getfield 111, 3) := by decide +kernel
theorem dX9_worth_26 : decode cX9_worth 26 = .ok (.imul, 1) := by decide +kernel
theorem dX9_worth_27 : decode cX9_worth 27 = .ok (.iload_n 1, 1) := by decide +kernel
theorem dX9_worth_28 : decode cX9_worth 28 = .ok (.iadd, 1) := by decide +kernel
theorem dX9_worth_29 : decode cX9_worth 29 = .ok (.iconst 1, 1) := by decide +kernel
theorem dX9_worth_30 : decode cX9_worth 30 = .ok (.iadd, 1) := by decide +kernel
theorem dX9_worth_31 : decode cX9_worth 31 = .ok (.iaload, 1) := by decide +kernel
theorem dX9_worth_32 : decode cX9_worth 32 = .ok (.if_icmp .ge 165, 3) := by decide +kernel
theorem dX9_worth_35 : decode cX9_worth 35 = .ok (.aload_n 0, 1) := by decide +kernel
theorem dX9_worth_36 : decode cX9_worth 36 = .ok (.getfield 32, 3) := by decide +kernel
theorem dX9_worth_39 : decode cX9_worth 39 = .ok (.sipush 200, 3) := by decide +kernel
theorem dX9_worth_42 : decode cX9_worth 42 = .ok (.aload_n 0, 1) := by decide +kernel
theorem dX9_worth_43 : decode cX9_worth 43 = .ok (.getfield 111, 3) := by decide +kernel
theorem dX9_worth_46 : decode cX9_worth 46 = .ok (.imul, 1) := by decide +kernel
theorem dX9_worth_47 : decode cX9_worth 47 = .ok (.iload_n 3, 1) := by decide +kernel
theorem dX9_worth_48 : decode cX9_worth 48 = .ok (.iadd, 1) := by decide +kernel
theorem dX9_worth_49 : decode cX9_worth 49 = .ok (.iaload, 1) := by decide +kernel
theorem dX9_worth_50 : decode cX9_worth 50 = .ok (.istore 4, 2) := by decide +kernel
theorem dX9_worth_52 : decode cX9_worth 52 = .ok (.iload 4, 2) := by decide +kernel
theorem dX9_worth_54 : decode cX9_worth 54 = .ok (.ldc 159, 2) := by decide +kernel
theorem dX9_worth_56 : decode cX9_worth 56 = .ok (.if_icmp .ge 10, 3) := by decide +kernel
theorem dX9_worth_59 : decode cX9_worth 59 = .ok (.iload 4, 2) := by decide +kernel
theorem dX9_worth_61 : decode cX9_worth 61 = .ok (.bipush 11, 2) := by decide +kernel
theorem dX9_worth_63 : decode cX9_worth 63 = .ok (.if_icmp .ge 37, 3) := by decide +kernel
theorem dX9_worth_66 : decode cX9_worth 66 = .ok (.aload_n 0, 1) := by decide +kernel
theorem dX9_worth_67 : decode cX9_worth 67 = .ok (.getfield 56, 3) := by decide +kernel
theorem dX9_worth_70 : decode cX9_worth 70 = .ok (.iload_n 2, 1) := by decide +kernel
theorem dX9_worth_71 : decode cX9_worth 71 = .ok (.iload 4, 2) := by decide +kernel
theorem dX9_worth_73 : decode cX9_worth 73 = .ok (.bipush 11, 2) := by decide +kernel
theorem dX9_worth_75 : decode cX9_worth 75 = .ok (.if_icmp .ge 13, 3) := by decide +kernel
theorem dX9_worth_78 : decode cX9_worth 78 = .ok (.aload_n 0, 1) := by decide +kernel
theorem dX9_worth_79 : decode cX9_worth 79 = .ok (.getfield 59, 3) := by decide +kernel
theorem dX9_worth_82 : decode cX9_worth 82 = .ok (.iload 4, 2) := by decide +kernel
theorem dX9_worth_84 : decode cX9_worth 84 = .ok (.iaload, 1) := by decide +kernel
theorem dX9_worth_85 : decode cX9_worth 85 = .ok (.goto 8, 3) := by decide +kernel
theorem dX9_worth_88 : decode cX9_worth 88 = .ok (.iload 4, 2) := by decide +kernel
theorem dX9_worth_90 : decode cX9_worth 90 = .ok (.ldc 159, 2) := by decide +kernel
theorem dX9_worth_92 : decode cX9_worth 92 = .ok (.isub, 1) := by decide +kernel
theorem dX9_worth_93 : decode cX9_worth 93 = .ok (.iastore, 1) := by decide +kernel
theorem dX9_worth_94 : decode cX9_worth 94 = .ok (.iinc 2 1, 3) := by decide +kernel
theorem dX9_worth_97 : decode cX9_worth 97 = .ok (.goto 94, 3) := by decide +kernel
theorem dX9_worth_100 : decode cX9_worth 100 = .ok (.iload 4, 2) := by decide +kernel
theorem dX9_worth_102 : decode cX9_worth 102 = .ok (.bipush 13, 2) := by decide +kernel
theorem dX9_worth_104 : decode cX9_worth 104 = .ok (.if_icmp .ne 30, 3) := by decide +kernel
theorem dX9_worth_107 : decode cX9_worth 107 = .ok (.aload_n 0, 1) := by decide +kernel
theorem dX9_worth_108 : decode cX9_worth 108 = .ok (.getfield 56, 3) := by decide +kernel
theorem dX9_worth_111 : decode cX9_worth 111 = .ok (.iload_n 2, 1) := by decide +kernel
theorem dX9_worth_112 : decode cX9_worth 112 = .ok (.iconst 1, 1) := by decide +kernel
theorem dX9_worth_113 : decode cX9_worth 113 = .ok (.isub, 1) := by decide +kernel
theorem dX9_worth_114 : decode cX9_worth 114 = .ok (.aload_n 0, 1) := by decide +kernel
theorem dX9_worth_115 : decode cX9_worth 115 = .ok (.getfield 56, 3) := by decide +kernel
theorem dX9_worth_118 : decode cX9_worth 118 = .ok (.iload_n 2, 1) := by decide +kernel
theorem dX9_worth_119 : decode cX9_worth 119 = .ok (.iconst 1, 1) := by decide +kernel
theorem dX9_worth_120 : decode cX9_worth 120 = .ok (.isub, 1) := by decide +kernel
theorem dX9_worth_121 : decode cX9_worth 121 = .ok (.iaload, 1) := by decide +kernel
theorem dX9_worth_122 : decode cX9_worth 122 = .ok (.ifCond .ne 7, 3) := by decide +kernel
theorem dX9_worth_125 : decode cX9_worth 125 = .ok (.iconst 1, 1) := by decide +kernel
theorem dX9_worth_126 : decode cX9_worth 126 = .ok (.goto 4, 3) := by decide +kernel
theorem dX9_worth_129 : decode cX9_worth 129 = .ok (.iconst 0, 1) := by decide +kernel
theorem dX9_worth_130 : decode cX9_worth 130 = .ok (.iastore, 1) := by decide +kernel
theorem dX9_worth_131 : decode cX9_worth 131 = .ok (.goto 60, 3) := by decide +kernel
theorem dX9_worth_134 : decode cX9_worth 134 = .ok (.iload 4, 2) := by decide +kernel
theorem dX9_worth_136 : decode cX9_worth 136 = .ok (.bipush 19, 2) := by decide +kernel
theorem dX9_worth_138 : decode cX9_worth 138 = .ok (.if_icmp .ne 23, 3) := by decide +kernel
theorem dX9_worth_141 : decode cX9_worth 141 = .ok (.aload_n 0, 1) := by decide +kernel
theorem dX9_worth_142 : decode cX9_worth 142 = .ok (.getfield 56, 3) := by decide +kernel
theorem dX9_worth_145 : decode cX9_worth 145 = .ok (.iload_n 2, 1) := by decide +kernel
theorem dX9_worth_146 : decode cX9_worth 146 = .ok (.iconst 1, 1) := by decide +kernel
theorem dX9_worth_147 : decode cX9_worth 147 = .ok (.isub, 1) := by decide +kernel
theorem dX9_worth_148 : decode cX9_worth 148 = .ok (.aload_n 0, 1) := by decide +kernel
theorem dX9_worth_149 : decode cX9_worth 149 = .ok (.getfield 56, 3) := by decide +kernel
theorem dX9_worth_152 : decode cX9_worth 152 = .ok (.iload_n 2, 1) := by decide +kernel
theorem dX9_worth_153 : decode cX9_worth 153 = .ok (.iconst 1, 1) := by decide +kernel
theorem dX9_worth_154 : decode cX9_worth 154 = .ok (.isub, 1) := by decide +kernel
theorem dX9_worth_155 : decode cX9_worth 155 = .ok (.iaload, 1) := by decide +kernel
theorem dX9_worth_156 : decode cX9_worth 156 = .ok (.ineg, 1) := by decide +kernel
theorem dX9_worth_157 : decode cX9_worth 157 = .ok (.iastore, 1) := by decide +kernel
theorem dX9_worth_158 : decode cX9_worth 158 = .ok (.goto 33, 3) := by decide +kernel
theorem dX9_worth_161 : decode cX9_worth 161 = .ok (.iinc 2 (-1), 3) := by decide +kernel
theorem dX9_worth_164 : decode cX9_worth 164 = .ok (.aload_n 0, 1) := by decide +kernel
theorem dX9_worth_165 : decode cX9_worth 165 = .ok (.getfield 56, 3) := by decide +kernel
theorem dX9_worth_168 : decode cX9_worth 168 = .ok (.iload_n 2, 1) := by decide +kernel
theorem dX9_worth_169 : decode cX9_worth 169 = .ok (.iconst 1, 1) := by decide +kernel
theorem dX9_worth_170 : decode cX9_worth 170 = .ok (.isub, 1) := by decide +kernel
theorem dX9_worth_171 : decode cX9_worth 171 = .ok (.iload 4, 2) := by decide +kernel
theorem dX9_worth_173 : decode cX9_worth 173 = .ok (.aload_n 0, 1) := by decide +kernel
theorem dX9_worth_174 : decode cX9_worth 174 = .ok (.getfield 56, 3) := by decide +kernel
theorem dX9_worth_177 : decode cX9_worth 177 = .ok (.iload_n 2, 1) := by decide +kernel
theorem dX9_worth_178 : decode cX9_worth 178 = .ok (.iconst 1, 1) := by decide +kernel
theorem dX9_worth_179 : decode cX9_worth 179 = .ok (.isub, 1) := by decide +kernel
theorem dX9_worth_180 : decode cX9_worth 180 = .ok (.iaload, 1) := by decide +kernel
theorem dX9_worth_181 : decode cX9_worth 181 = .ok (.aload_n 0, 1) := by decide +kernel
theorem dX9_worth_182 : decode cX9_worth 182 = .ok (.getfield 56, 3) := by decide +kernel
theorem dX9_worth_185 : decode cX9_worth 185 = .ok (.iload_n 2, 1) := by decide +kernel
theorem dX9_worth_186 : decode cX9_worth 186 = .ok (.iaload, 1) := by decide +kernel
theorem dX9_worth_187 : decode cX9_worth 187 = .ok (.invokestatic 173, 3) := by decide +kernel
theorem dX9_worth_190 : decode cX9_worth 190 = .ok (.iastore, 1) := by decide +kernel
theorem dX9_worth_191 : decode cX9_worth 191 = .ok (.iinc 3 1, 3) := by decide +kernel
theorem dX9_worth_194 : decode cX9_worth 194 = .ok (.goto (-178), 3) := by decide +kernel
theorem dX9_worth_197 : decode cX9_worth 197 = .ok (.aload_n 0, 1) := by decide +kernel
theorem dX9_worth_198 : decode cX9_worth 198 = .ok (.getfield 56, 3) := by decide +kernel
theorem dX9_worth_201 : decode cX9_worth 201 = .ok (.iconst 0, 1) := by decide +kernel
theorem dX9_worth_202 : decode cX9_worth 202 = .ok (.iaload, 1) := by decide +kernel
theorem dX9_worth_203 : decode cX9_worth 203 = .ok (.ireturn, 1) := by decide +kernel
theorem dX9_force_0 : decode cX9_force 0 = .ok (.iload_n 1, 1) := by decide +kernel
theorem dX9_force_1 : decode cX9_force 1 = .ok (.iconst 0, 1) := by decide +kernel
theorem dX9_force_2 : decode cX9_force 2 = .ok (.aload_n 0, 1) := by decide +kernel
theorem dX9_force_3 : decode cX9_force 3 = .ok (.getfield 108, 3) := by decide +kernel
theorem dX9_force_6 : decode cX9_force 6 = .ok (.iconst 1, 1) := by decide +kernel
theorem dX9_force_7 : decode cX9_force 7 = .ok (.isub, 1) := by decide +kernel
theorem dX9_force_8 : decode cX9_force 8 = .ok (.invokestatic 88, 3) := by decide +kernel
theorem dX9_force_11 : decode cX9_force 11 = .ok (.ifCond .ne 6, 3) := by decide +kernel
theorem dX9_force_14 : decode cX9_force 14 = .ok (.bipush (-2), 2) := by decide +kernel
theorem dX9_force_16 : decode cX9_force 16 = .ok (.ireturn, 1) := by decide +kernel
theorem dX9_force_17 : decode cX9_force 17 = .ok (.aload_n 0, 1) := by decide +kernel
theorem dX9_force_18 : decode cX9_force 18 = .ok (.getfield 111, 3) := by decide +kernel
theorem dX9_force_21 : decode cX9_force 21 = .ok (.istore_n 2, 1) := by decide +kernel
theorem dX9_force_22 : decode cX9_force 22 = .ok (.aload_n 0, 1) := by decide +kernel
theorem dX9_force_23 : decode cX9_force 23 = .ok (.iload_n 1, 1) := by decide +kernel
theorem dX9_force_24 : decode cX9_force 24 = .ok (.putfield 111, 3) := by decide +kernel
theorem dX9_force_27 : decode cX9_force 27 = .ok (.iload_n 2, 1) := by decide +kernel
theorem dX9_force_28 : decode cX9_force 28 = .ok (.ireturn, 1) := by decide +kernel
theorem dX9_street_0 : decode cX9_street 0 = .ok (.iload_n 2, 1) := by decide +kernel
theorem dX9_street_1 : decode cX9_street 1 = .ok (.iconst 0, 1) := by decide +kernel
theorem dX9_street_2 : decode cX9_street 2 = .ok (.bipush 88, 2) := by decide +kernel
theorem dX9_street_4 : decode cX9_street 4 = .ok (.invokestatic 88, 3) := by decide +kernel
theorem dX9_street_7 : decode cX9_street 7 = .ok (.ifCond .eq 27, 3) := by decide +kernel
theorem dX9_street_10 : decode cX9_street 10 = .ok (.iload_n 2, 1) := by decide +kernel
theorem dX9_street_11 : decode cX9_street 11 = .ok (.bipush 10, 2) := by decide +kernel
theorem dX9_street_13 : decode cX9_street 13 = .ok (.irem, 1) := by decide +kernel
theorem dX9_street_14 : decode cX9_street 14 = .ok (.bipush 8, 2) := by decide +kernel
theorem dX9_street_16 : decode cX9_street 16 = .ok (.if_icmp .gt 18, 3) := by decide +kernel
theorem dX9_street_19 : decode cX9_street 19 = .ok (.iload_n 2, 1) := by decide +kernel
theorem dX9_street_20 : decode cX9_street 20 = .ok (.bipush 10, 2) := by decide +kernel
theorem dX9_street_22 : decode cX9_street 22 = .ok (.idiv, 1) := by decide +kernel
theorem dX9_street_23 : decode cX9_street 23 = .ok (.iload_n 2, 1) := by decide +kernel
theorem dX9_street_24 : decode cX9_street 24 = .ok (.bipush 10, 2) := by decide +kernel
theorem dX9_street_26 : decode cX9_street 26 = .ok (.irem, 1) := by decide +kernel
theorem dX9_street_27 : decode cX9_street 27 = .ok (.if_icmp .eq 7, 3) := by decide +kernel
theorem dX9_street_30 : decode cX9_street 30 = .ok (.iconst 1, 1) := by decide +kernel
theorem dX9_street_31 : decode cX9_street 31 = .ok (.goto 4, 3) := by decide +kernel
theorem dX9_street_34 : decode cX9_street 34 = .ok (.iconst 0, 1) := by decide +kernel
theorem dX9_street_35 : decode cX9_street 35 = .ok (.istore 5, 2) := by decide +kernel
theorem dX9_street_37 : decode cX9_street 37 = .ok (.iload_n 1, 1) := by decide +kernel
theorem dX9_street_38 : decode cX9_street 38 = .ok (.iconst 0, 1) := by decide +kernel
theorem dX9_street_39 : decode cX9_street 39 = .ok (.iconst 5, 1) := by decide +kernel
theorem dX9_street_40 : decode cX9_street 40 = .ok (.invokestatic 88, 3) := by decide +kernel
theorem dX9_street_43 : decode cX9_street 43 = .ok (.ifCond .eq 29, 3) := by decide +kernel
theorem dX9_street_46 : decode cX9_street 46 = .ok (.iload 5, 2) := by decide +kernel
theorem dX9_street_48 : decode cX9_street 48 = .ok (.ifCond .eq 24, 3) := by decide +kernel
theorem dX9_street_51 : decode cX9_street 51 = .ok (.iload_n 3, 1) := by decide +kernel
theorem dX9_street_52 : decode cX9_street 52 = .ok (.iconst 1, 1) := by decide +kernel
theorem dX9_street_53 : decode cX9_street 53 = .ok (.bipush 99, 2) := by decide +kernel
theorem dX9_street_55 : decode cX9_street 55 = .ok (.invokestatic 88, 3) := by decide +kernel
theorem dX9_street_58 : decode cX9_street 58 = .ok (.ifCond .eq 14, 3) := by decide +kernel
theorem dX9_street_61 : decode cX9_street 61 = .ok (.iload 4, 2) := by decide +kernel
theorem dX9_street_63 : decode cX9_street 63 = .ok (.iconst 0, 1) := by decide +kernel
theorem dX9_street_64 : decode cX9_street 64 = .ok (.bipush 99, 2) := by decide +kernel
theorem dX9_street_66 : decode cX9_street 66 = .ok (.invokestatic 88, 3) := by decide +kernel
theorem dX9_street_69 : decode cX9_street 69 = .ok (.ifCond .ne 6, 3) := by decide +kernel
theorem dX9_street_72 : decode cX9_street 72 = .ok (.bipush (-2), 2) := by decide +kernel
theorem dX9_street_74 : decode cX9_street 74 = .ok (.ireturn, 1) := by decide +kernel
theorem dX9_street_75 : decode cX9_street 75 = .ok (.aload_n 0, 1) := by decide +kernel
theorem dX9_street_76 : decode cX9_street 76 = .ok (.getfield 92, 3) := by decide +kernel
theorem dX9_street_79 : decode cX9_street 79 = .ok (.bipush 12, 2) := by decide +kernel
theorem dX9_street_81 : decode cX9_street 81 = .ok (.if_icmp .ne 6, 3) := by decide +kernel
theorem dX9_street_84 : decode cX9_street 84 = .ok (.bipush (-4), 2) := by decide +kernel
theorem dX9_street_86 : decode cX9_street 86 = .ok (.ireturn, 1) := by decide +kernel
theorem dX9_street_87 : decode cX9_street 87 = .ok (.aload_n 0, 1) := by decide +kernel
theorem dX9_street_88 : decode cX9_street 88 = .ok (.getfield 13, 3) := by decide +kernel
theorem dX9_street_91 : decode cX9_street 91 = .ok (.aload_n 0, 1) := by decide +kernel
theorem dX9_street_92 : decode cX9_street 92 = .ok (.getfield 92, 3) := by decide +kernel
theorem dX9_street_95 : decode cX9_street 95 = .ok (.iload_n 1, 1) := by decide +kernel
theorem dX9_street_96 : decode cX9_street 96 = .ok (.iastore, 1) := by decide +kernel
theorem dX9_street_97 : decode cX9_street 97 = .ok (.aload_n 0, 1) := by decide +kernel
theorem dX9_street_98 : decode cX9_street 98 = .ok (.getfield 17, 3) := by decide +kernel
theorem dX9_street_101 : decode cX9_street 101 = .ok (.aload_n 0, 1) := by decide +kernel
theorem dX9_street_102 : decode cX9_street 102 = .ok (.getfield 92, 3) := by decide +kernel
theorem dX9_street_105 : decode cX9_street 105 = .ok (.iload_n 2, 1) := by decide +kernel
theorem dX9_street_106 : decode cX9_street 106 = .ok (.bipush 10, 2) := by decide +kernel
theorem dX9_street_108 : decode cX9_street 108 = .ok (.idiv, 1) := by decide +kernel
theorem dX9_street_109 : decode cX9_street 109 = .ok (.iastore, 1) := by decide +kernel
theorem dX9_street_110 : decode cX9_street 110 = .ok (.aload_n 0, 1) := by decide +kernel
theorem dX9_street_111 : decode cX9_street 111 = .ok (.getfield 20, 3) := by decide +kernel
theorem dX9_street_114 : decode cX9_street 114 = .ok (.aload_n 0, 1) := by decide +kernel
theorem dX9_street_115 : decode cX9_street 115 = .ok (.getfield 92, 3) := by decide +kernel
theorem dX9_street_118 : decode cX9_street 118 = .ok (.iload_n 2, 1) := by decide +kernel
theorem dX9_street_119 : decode cX9_street 119 = .ok (.bipush 10, 2) := by decide +kernel
theorem dX9_street_121 : decode cX9_street 121 = .ok (.irem, 1) := by decide +kernel
theorem dX9_street_122 : decode cX9_street 122 = .ok (.iastore, 1) := by decide +kernel
theorem dX9_street_123 : decode cX9_street 123 = .ok (.aload_n 0, 1) := by decide +kernel
theorem dX9_street_124 : decode cX9_street 124 = .ok (.getfield 23, 3) := by decide +kernel
theorem dX9_street_127 : decode cX9_street 127 = .ok (.aload_n 0, 1) := by decide +kernel
theorem dX9_street_128 : decode cX9_street 128 = .ok (.getfield 92, 3) := by decide +kernel
theorem dX9_street_131 : decode cX9_street 131 = .ok (.iload_n 3, 1) := by decide +kernel
theorem dX9_street_132 : decode cX9_street 132 = .ok (.iastore, 1) := by decide +kernel
theorem dX9_street_133 : decode cX9_street 133 = .ok (.aload_n 0, 1) := by decide +kernel
theorem dX9_street_134 : decode cX9_street 134 = .ok (.getfield 26, 3) := by decide +kernel
theorem dX9_street_137 : decode cX9_street 137 = .ok (.aload_n 0, 1) := by decide +kernel
theorem dX9_street_138 : decode cX9_street 138 = .ok (.getfield 92, 3) := by decide +kernel
theorem dX9_street_141 : decode cX9_street 141 = .ok (.iload 4, 2) := by decide +kernel
theorem dX9_street_143 : decode cX9_street 143 = .ok (.iastore, 1) := by decide +kernel
theorem dX9_street_144 : decode cX9_street 144 = .ok (.aload_n 0, 1) := by decide +kernel
theorem dX9_street_145 : decode cX9_street 145 = .ok (.dup, 1) := by decide +kernel
theorem dX9_street_146 : decode cX9_street 146 = .ok (.getfield 92, 3) := by decide +kernel
theorem dX9_street_149 : decode cX9_street 149 = .ok (.iconst 1, 1) := by decide +kernel
theorem dX9_street_150 : decode cX9_street 150 = .ok (.iadd, 1) := by decide +kernel
theorem dX9_street_151 : decode cX9_street 151 = .ok (.putfield 92, 3) := by decide +kernel
theorem dX9_street_154 : decode cX9_street 154 = .ok (.aload_n 0, 1) := by decide +kernel
theorem dX9_street_155 : decode cX9_street 155 = .ok (.getfield 92, 3) := by decide +kernel
theorem dX9_street_158 : decode cX9_street 158 = .ok (.iconst 1, 1) := by decide +kernel
theorem dX9_street_159 : decode cX9_street 159 = .ok (.isub, 1) := by decide +kernel
theorem dX9_street_160 : decode cX9_street 160 = .ok (.ireturn, 1) := by decide +kernel
theorem dX9_close_0 : decode cX9_close 0 = .ok (.aload_n 0, 1) := by decide +kernel
theorem dX9_close_1 : decode cX9_close 1 = .ok (.getfield 92, 3) := by decide +kernel
theorem dX9_close_4 : decode cX9_close 4 = .ok (.ifCond .ne 6, 3) := by decide +kernel
theorem dX9_close_7 : decode cX9_close 7 = .ok (.bipush (-3), 2) := by decide +kernel
theorem dX9_close_9 : decode cX9_close 9 = .ok (.ireturn, 1) := by decide +kernel
theorem dX9_close_10 : decode cX9_close 10 = .ok (.aload_n 0, 1) := by decide +kernel
theorem dX9_close_11 : decode cX9_close 11 = .ok (.dup, 1) := by decide +kernel
theorem dX9_close_12 : decode cX9_close 12 = .ok (.getfield 92, 3) := by decide +kernel
theorem dX9_close_15 : decode cX9_close 15 = .ok (.iconst 1, 1) := by decide +kernel
theorem dX9_close_16 : decode cX9_close 16 = .ok (.isub, 1) := by decide +kernel
theorem dX9_close_17 : decode cX9_close 17 = .ok (.putfield 92, 3) := by decide +kernel
theorem dX9_close_20 : decode cX9_close 20 = .ok (.aload_n 0, 1) := by decide +kernel
theorem dX9_close_21 : decode cX9_close 21 = .ok (.dup, 1) := by decide +kernel
theorem dX9_close_22 : decode cX9_close 22 = .ok (.getfield 105, 3) := by decide +kernel
theorem dX9_close_25 : decode cX9_close 25 = .ok (.iconst 1, 1) := by decide +kernel
theorem dX9_close_26 : decode cX9_close 26 = .ok (.aload_n 0, 1) := by decide +kernel
theorem dX9_close_27 : decode cX9_close 27 = .ok (.getfield 92, 3) := by decide +kernel
theorem dX9_close_30 : decode cX9_close 30 = .ok (.ishl, 1) := by decide +kernel
theorem dX9_close_31 : decode cX9_close 31 = .ok (.iconst 1, 1) := by decide +kernel
theorem dX9_close_32 : decode cX9_close 32 = .ok (.isub, 1) := by decide +kernel
theorem dX9_close_33 : decode cX9_close 33 = .ok (.iand, 1) := by decide +kernel
theorem dX9_close_34 : decode cX9_close 34 = .ok (.putfield 105, 3) := by decide +kernel
theorem dX9_close_37 : decode cX9_close 37 = .ok (.aload_n 0, 1) := by decide +kernel
theorem dX9_close_38 : decode cX9_close 38 = .ok (.aload_n 0, 1) := by decide +kernel
theorem dX9_close_39 : decode cX9_close 39 = .ok (.getfield 177, 3) := by decide +kernel
theorem dX9_close_42 : decode cX9_close 42 = .ok (.ifCond .eq 18, 3) := by decide +kernel
theorem dX9_close_45 : decode cX9_close 45 = .ok (.aload_n 0, 1) := by decide +kernel
theorem dX9_close_46 : decode cX9_close 46 = .ok (.getfield 181, 3) := by decide +kernel
theorem dX9_close_49 : decode cX9_close 49 = .ok (.aload_n 0, 1) := by decide +kernel
theorem dX9_close_50 : decode cX9_close 50 = .ok (.getfield 92, 3) := by decide +kernel
theorem dX9_close_53 : decode cX9_close 53 = .ok (.if_icmp .gt 7, 3) := by decide +kernel
theorem dX9_close_56 : decode cX9_close 56 = .ok (.iconst 1, 1) := by decide +kernel
theorem dX9_close_57 : decode cX9_close 57 = .ok (.goto 4, 3) := by decide +kernel
theorem dX9_close_60 : decode cX9_close 60 = .ok (.iconst 0, 1) := by decide +kernel
theorem dX9_close_61 : decode cX9_close 61 = .ok (.putfield 177, 3) := by decide +kernel
theorem dX9_close_64 : decode cX9_close 64 = .ok (.aload_n 0, 1) := by decide +kernel
theorem dX9_close_65 : decode cX9_close 65 = .ok (.getfield 92, 3) := by decide +kernel
theorem dX9_close_68 : decode cX9_close 68 = .ok (.ireturn, 1) := by decide +kernel
theorem dX9_isBridge_0 : decode cX9_isBridge 0 = .ok (.aload_n 0, 1) := by decide +kernel
theorem dX9_isBridge_1 : decode cX9_isBridge 1 = .ok (.getfield 13, 3) := by decide +kernel
theorem dX9_isBridge_4 : decode cX9_isBridge 4 = .ok (.iload_n 1, 1) := by decide +kernel
theorem dX9_isBridge_5 : decode cX9_isBridge 5 = .ok (.iaload, 1) := by decide +kernel
theorem dX9_isBridge_6 : decode cX9_isBridge 6 = .ok (.iconst 3, 1) := by decide +kernel
theorem dX9_isBridge_7 : decode cX9_isBridge 7 = .ok (.if_icmp .eq 13, 3) := by decide +kernel
theorem dX9_isBridge_10 : decode cX9_isBridge 10 = .ok (.aload_n 0, 1) := by decide +kernel
theorem dX9_isBridge_11 : decode cX9_isBridge 11 = .ok (.getfield 13, 3) := by decide +kernel
theorem dX9_isBridge_14 : decode cX9_isBridge 14 = .ok (.iload_n 1, 1) := by decide +kernel
theorem dX9_isBridge_15 : decode cX9_isBridge 15 = .ok (.iaload, 1) := by decide +kernel
theorem dX9_isBridge_16 : decode cX9_isBridge 16 = .ok (.iconst 5, 1) := by decide +kernel
theorem dX9_isBridge_17 : decode cX9_isBridge 17 = .ok (.if_icmp .ne 7, 3) := by decide +kernel
theorem dX9_isBridge_20 : decode cX9_isBridge 20 = .ok (.iconst 1, 1) := by decide +kernel
theorem dX9_isBridge_21 : decode cX9_isBridge 21 = .ok (.goto 4, 3) := by decide +kernel
theorem dX9_isBridge_24 : decode cX9_isBridge 24 = .ok (.iconst 0, 1) := by decide +kernel
theorem dX9_isBridge_25 : decode cX9_isBridge 25 = .ok (.ireturn, 1) := by decide +kernel
theorem dX9_spendsOf_0 : decode cX9_spendsOf 0 = .ok (.iconst 1, 1) := by decide +kernel
theorem dX9_spendsOf_1 : decode cX9_spendsOf 1 = .ok (.iload_n 1, 1) := by decide +kernel
theorem dX9_spendsOf_2 : decode cX9_spendsOf 2 = .ok (.ishl, 1) := by decide +kernel
theorem dX9_spendsOf_3 : decode cX9_spendsOf 3 = .ok (.istore_n 2, 1) := by decide +kernel
theorem dX9_spendsOf_4 : decode cX9_spendsOf 4 = .ok (.iconst 0, 1) := by decide +kernel
theorem dX9_spendsOf_5 : decode cX9_spendsOf 5 = .ok (.istore_n 3, 1) := by decide +kernel
theorem dX9_spendsOf_6 : decode cX9_spendsOf 6 = .ok (.iload_n 3, 1) := by decide +kernel
theorem dX9_spendsOf_7 : decode cX9_spendsOf 7 = .ok (.aload_n 0, 1) := by decide +kernel
theorem dX9_spendsOf_8 : decode cX9_spendsOf 8 = .ok (.getfield 92, 3) := by decide +kernel
theorem dX9_spendsOf_11 : decode cX9_spendsOf 11 = .ok (.if_icmp .ge 58, 3) := by decide +kernel
theorem dX9_spendsOf_14 : decode cX9_spendsOf 14 = .ok (.iload_n 1, 1) := by decide +kernel
theorem dX9_spendsOf_15 : decode cX9_spendsOf 15 = .ok (.aload_n 0, 1) := by decide +kernel
theorem dX9_spendsOf_16 : decode cX9_spendsOf 16 = .ok (.getfield 92, 3) := by decide +kernel
theorem dX9_spendsOf_19 : decode cX9_spendsOf 19 = .ok (.if_icmp .ge 50, 3) := by decide +kernel
theorem dX9_spendsOf_22 : decode cX9_spendsOf 22 = .ok (.iload_n 2, 1) := by decide +kernel
theorem dX9_spendsOf_23 : decode cX9_spendsOf 23 = .ok (.aload_n 0, 1) := by decide +kernel
theorem dX9_spendsOf_24 : decode cX9_spendsOf 24 = .ok (.iload_n 1, 1) := by decide +kernel
theorem dX9_spendsOf_25 : decode cX9_spendsOf 25 = .ok (.invokevirtual 184, 3) := by decide +kernel
theorem dX9_spendsOf_28 : decode cX9_spendsOf 28 = .ok (.ifCond .eq 32, 3) := by decide +kernel
theorem dX9_spendsOf_31 : decode cX9_spendsOf 31 = .ok (.aload_n 0, 1) := by decide +kernel
theorem dX9_spendsOf_32 : decode cX9_spendsOf 32 = .ok (.iload_n 3, 1) := by decide +kernel
theorem dX9_spendsOf_33 : decode cX9_spendsOf 33 = .ok (.invokevirtual 184, 3) := by decide +kernel
theorem dX9_spendsOf_36 : decode cX9_spendsOf 36 = .ok (.ifCond .eq 24, 3) := by decide +kernel
theorem dX9_spendsOf_39 : decode cX9_spendsOf 39 = .ok (.aload_n 0, 1) := by decide +kernel
theorem dX9_spendsOf_40 : decode cX9_spendsOf 40 = .ok (.getfield 26, 3) := by decide +kernel
theorem dX9_spendsOf_43 : decode cX9_spendsOf 43 = .ok (.iload_n 3, 1) := by decide +kernel
theorem dX9_spendsOf_44 : decode cX9_spendsOf 44 = .ok (.iaload, 1) := by decide +kernel
theorem dX9_spendsOf_45 : decode cX9_spendsOf 45 = .ok (.aload_n 0, 1) := by decide +kernel
theorem dX9_spendsOf_46 : decode cX9_spendsOf 46 = .ok (.getfield 26, 3) := by decide +kernel
theorem dX9_spendsOf_49 : decode cX9_spendsOf 49 = .ok (.iload_n 1, 1) := by decide +kernel
theorem dX9_spendsOf_50 : decode cX9_spendsOf 50 = .ok (.iaload, 1) := by decide +kernel
theorem dX9_spendsOf_51 : decode cX9_spendsOf 51 = .ok (.if_icmp .ne 9, 3) := by decide +kernel
theorem dX9_spendsOf_54 : decode cX9_spendsOf 54 = .ok (.iconst 1, 1) := by decide +kernel
theorem dX9_spendsOf_55 : decode cX9_spendsOf 55 = .ok (.iload_n 3, 1) := by decide +kernel
theorem dX9_spendsOf_56 : decode cX9_spendsOf 56 = .ok (.ishl, 1) := by decide +kernel
theorem dX9_spendsOf_57 : decode cX9_spendsOf 57 = .ok (.goto 4, 3) := by decide +kernel
theorem dX9_spendsOf_60 : decode cX9_spendsOf 60 = .ok (.iconst 0, 1) := by decide +kernel
theorem dX9_spendsOf_61 : decode cX9_spendsOf 61 = .ok (.ior, 1) := by decide +kernel
theorem dX9_spendsOf_62 : decode cX9_spendsOf 62 = .ok (.istore_n 2, 1) := by decide +kernel
theorem dX9_spendsOf_63 : decode cX9_spendsOf 63 = .ok (.iinc 3 1, 3) := by decide +kernel
theorem dX9_spendsOf_66 : decode cX9_spendsOf 66 = .ok (.goto (-60), 3) := by decide +kernel
theorem dX9_spendsOf_69 : decode cX9_spendsOf 69 = .ok (.iload_n 2, 1) := by decide +kernel
theorem dX9_spendsOf_70 : decode cX9_spendsOf 70 = .ok (.ireturn, 1) := by decide +kernel
theorem dX9_told_0 : decode cX9_told 0 = .ok (.aload_n 0, 1) := by decide +kernel
theorem dX9_told_1 : decode cX9_told 1 = .ok (.iload_n 1, 1) := by decide +kernel
theorem dX9_told_2 : decode cX9_told 2 = .ok (.invokevirtual 187, 3) := by decide +kernel
theorem dX9_told_5 : decode cX9_told 5 = .ok (.ifCond .ne 6, 3) := by decide +kernel
theorem dX9_told_8 : decode cX9_told 8 = .ok (.bipush (-5), 2) := by decide +kernel
theorem dX9_told_10 : decode cX9_told 10 = .ok (.ireturn, 1) := by decide +kernel
theorem dX9_told_11 : decode cX9_told 11 = .ok (.iload_n 2, 1) := by decide +kernel
theorem dX9_told_12 : decode cX9_told 12 = .ok (.tableswitch 81 0 5 #[40, 47, 54, 61, 68, 75], 40) := by decide +kernel
theorem dX9_told_52 : decode cX9_told 52 = .ok (.aload_n 0, 1) := by decide +kernel
theorem dX9_told_53 : decode cX9_told 53 = .ok (.getfield 13, 3) := by decide +kernel
theorem dX9_told_56 : decode cX9_told 56 = .ok (.iload_n 1, 1) := by decide +kernel
theorem dX9_told_57 : decode cX9_told 57 = .ok (.iaload, 1) := by decide +kernel
theorem dX9_told_58 : decode cX9_told 58 = .ok (.ireturn, 1) := by decide +kernel
theorem dX9_told_59 : decode cX9_told 59 = .ok (.aload_n 0, 1) := by decide +kernel
theorem dX9_told_60 : decode cX9_told 60 = .ok (.getfield 17, 3) := by decide +kernel
theorem dX9_told_63 : decode cX9_told 63 = .ok (.iload_n 1, 1) := by decide +kernel
theorem dX9_told_64 : decode cX9_told 64 = .ok (.iaload, 1) := by decide +kernel
theorem dX9_told_65 : decode cX9_told 65 = .ok (.ireturn, 1) := by decide +kernel
theorem dX9_told_66 : decode cX9_told 66 = .ok (.aload_n 0, 1) := by decide +kernel
theorem dX9_told_67 : decode cX9_told 67 = .ok (.getfield 20, 3) := by decide +kernel
theorem dX9_told_70 : decode cX9_told 70 = .ok (.iload_n 1, 1) := by decide +kernel
theorem dX9_told_71 : decode cX9_told 71 = .ok (.iaload, 1) := by decide +kernel
theorem dX9_told_72 : decode cX9_told 72 = .ok (.ireturn, 1) := by decide +kernel
theorem dX9_told_73 : decode cX9_told 73 = .ok (.aload_n 0, 1) := by decide +kernel
theorem dX9_told_74 : decode cX9_told 74 = .ok (.getfield 23, 3) := by decide +kernel
theorem dX9_told_77 : decode cX9_told 77 = .ok (.iload_n 1, 1) := by decide +kernel
theorem dX9_told_78 : decode cX9_told 78 = .ok (.iaload, 1) := by decide +kernel
theorem dX9_told_79 : decode cX9_told 79 = .ok (.ireturn, 1) := by decide +kernel
theorem dX9_told_80 : decode cX9_told 80 = .ok (.aload_n 0, 1) := by decide +kernel
theorem dX9_told_81 : decode cX9_told 81 = .ok (.getfield 26, 3) := by decide +kernel
theorem dX9_told_84 : decode cX9_told 84 = .ok (.iload_n 1, 1) := by decide +kernel
theorem dX9_told_85 : decode cX9_told 85 = .ok (.iaload, 1) := by decide +kernel
theorem dX9_told_86 : decode cX9_told 86 = .ok (.ireturn, 1) := by decide +kernel
theorem dX9_told_87 : decode cX9_told 87 = .ok (.aload_n 0, 1) := by decide +kernel
theorem dX9_told_88 : decode cX9_told 88 = .ok (.iload_n 1, 1) := by decide +kernel
theorem dX9_told_89 : decode cX9_told 89 = .ok (.invokevirtual 190, 3) := by decide +kernel
theorem dX9_told_92 : decode cX9_told 92 = .ok (.ireturn, 1) := by decide +kernel
theorem dX9_told_93 : decode cX9_told 93 = .ok (.bipush (-7), 2) := by decide +kernel
theorem dX9_told_95 : decode cX9_told 95 = .ok (.ireturn, 1) := by decide +kernel
theorem dX9_gone_0 : decode cX9_gone 0 = .ok (.iload_n 1, 1) := by decide +kernel
theorem dX9_gone_1 : decode cX9_gone 1 = .ok (.iconst 0, 1) := by decide +kernel
theorem dX9_gone_2 : decode cX9_gone 2 = .ok (.iconst 1, 1) := by decide +kernel
theorem dX9_gone_3 : decode cX9_gone 3 = .ok (.aload_n 0, 1) := by decide +kernel
theorem dX9_gone_4 : decode cX9_gone 4 = .ok (.getfield 92, 3) := by decide +kernel
theorem dX9_gone_7 : decode cX9_gone 7 = .ok (.ishl, 1) := by decide +kernel
theorem dX9_gone_8 : decode cX9_gone 8 = .ok (.iconst 1, 1) := by decide +kernel
theorem dX9_gone_9 : decode cX9_gone 9 = .ok (.isub, 1) := by decide +kernel
theorem dX9_gone_10 : decode cX9_gone 10 = .ok (.invokestatic 88, 3) := by decide +kernel
theorem dX9_gone_13 : decode cX9_gone 13 = .ok (.ifCond .ne 6, 3) := by decide +kernel
theorem dX9_gone_16 : decode cX9_gone 16 = .ok (.bipush (-2), 2) := by decide +kernel
theorem dX9_gone_18 : decode cX9_gone 18 = .ok (.ireturn, 1) := by decide +kernel
theorem dX9_gone_19 : decode cX9_gone 19 = .ok (.aload_n 0, 1) := by decide +kernel
theorem dX9_gone_20 : decode cX9_gone 20 = .ok (.getfield 105, 3) := by decide +kernel
theorem dX9_gone_23 : decode cX9_gone 23 = .ok (.istore_n 2, 1) := by decide +kernel
theorem dX9_gone_24 : decode cX9_gone 24 = .ok (.aload_n 0, 1) := by decide +kernel
theorem dX9_gone_25 : decode cX9_gone 25 = .ok (.iload_n 1, 1) := by decide +kernel
theorem dX9_gone_26 : decode cX9_gone 26 = .ok (.putfield 105, 3) := by decide +kernel
theorem dX9_gone_29 : decode cX9_gone 29 = .ok (.iload_n 2, 1) := by decide +kernel
theorem dX9_gone_30 : decode cX9_gone 30 = .ok (.ireturn, 1) := by decide +kernel
theorem dX9_namesOf_0 : decode cX9_namesOf 0 = .ok (.aload_n 0, 1) := by decide +kernel
theorem dX9_namesOf_1 : decode cX9_namesOf 1 = .ok (.getfield 59, 3) := by decide +kernel
theorem dX9_namesOf_4 : decode cX9_namesOf 4 = .ok (.iconst 0, 1) := by decide +kernel
theorem dX9_namesOf_5 : decode cX9_namesOf 5 = .ok (.aload_n 0, 1) := by decide +kernel
theorem dX9_namesOf_6 : decode cX9_namesOf 6 = .ok (.getfield 23, 3) := by decide +kernel
theorem dX9_namesOf_9 : decode cX9_namesOf 9 = .ok (.iload_n 1, 1) := by decide +kernel
theorem dX9_namesOf_10 : decode cX9_namesOf 10 = .ok (.iaload, 1) := by decide +kernel
theorem dX9_namesOf_11 : decode cX9_namesOf 11 = .ok (.iastore, 1) := by decide +kernel
theorem dX9_namesOf_12 : decode cX9_namesOf 12 = .ok (.aload_n 0, 1) := by decide +kernel
theorem dX9_namesOf_13 : decode cX9_namesOf 13 = .ok (.getfield 59, 3) := by decide +kernel
theorem dX9_namesOf_16 : decode cX9_namesOf 16 = .ok (.iconst 1, 1) := by decide +kernel
theorem dX9_namesOf_17 : decode cX9_namesOf 17 = .ok (.aload_n 0, 1) := by decide +kernel
theorem dX9_namesOf_18 : decode cX9_namesOf 18 = .ok (.getfield 26, 3) := by decide +kernel
theorem dX9_namesOf_21 : decode cX9_namesOf 21 = .ok (.iload_n 1, 1) := by decide +kernel
theorem dX9_namesOf_22 : decode cX9_namesOf 22 = .ok (.iaload, 1) := by decide +kernel
theorem dX9_namesOf_23 : decode cX9_namesOf 23 = .ok (.iastore, 1) := by decide +kernel
theorem dX9_namesOf_24 : decode cX9_namesOf 24 = .ok (.aload_n 0, 1) := by decide +kernel
theorem dX9_namesOf_25 : decode cX9_namesOf 25 = .ok (.getfield 59, 3) := by decide +kernel
theorem dX9_namesOf_28 : decode cX9_namesOf 28 = .ok (.iconst 2, 1) := by decide +kernel
theorem dX9_namesOf_29 : decode cX9_namesOf 29 = .ok (.aload_n 0, 1) := by decide +kernel
theorem dX9_namesOf_30 : decode cX9_namesOf 30 = .ok (.getfield 7, 3) := by decide +kernel
theorem dX9_namesOf_33 : decode cX9_namesOf 33 = .ok (.iastore, 1) := by decide +kernel
theorem dX9_namesOf_34 : decode cX9_namesOf 34 = .ok (.aload_n 0, 1) := by decide +kernel
theorem dX9_namesOf_35 : decode cX9_namesOf 35 = .ok (.getfield 59, 3) := by decide +kernel
theorem dX9_namesOf_38 : decode cX9_namesOf 38 = .ok (.iconst 3, 1) := by decide +kernel
theorem dX9_namesOf_39 : decode cX9_namesOf 39 = .ok (.iload_n 2, 1) := by decide +kernel
theorem dX9_namesOf_40 : decode cX9_namesOf 40 = .ok (.iastore, 1) := by decide +kernel
theorem dX9_namesOf_41 : decode cX9_namesOf 41 = .ok (.aload_n 0, 1) := by decide +kernel
theorem dX9_namesOf_42 : decode cX9_namesOf 42 = .ok (.getfield 59, 3) := by decide +kernel
theorem dX9_namesOf_45 : decode cX9_namesOf 45 = .ok (.iconst 4, 1) := by decide +kernel
theorem dX9_namesOf_46 : decode cX9_namesOf 46 = .ok (.aload_n 0, 1) := by decide +kernel
theorem dX9_namesOf_47 : decode cX9_namesOf 47 = .ok (.getfield 17, 3) := by decide +kernel
theorem dX9_namesOf_50 : decode cX9_namesOf 50 = .ok (.iload_n 1, 1) := by decide +kernel
theorem dX9_namesOf_51 : decode cX9_namesOf 51 = .ok (.iaload, 1) := by decide +kernel
theorem dX9_namesOf_52 : decode cX9_namesOf 52 = .ok (.iload_n 2, 1) := by decide +kernel
theorem dX9_namesOf_53 : decode cX9_namesOf 53 = .ok (.if_icmp .ne 12, 3) := by decide +kernel
theorem dX9_namesOf_56 : decode cX9_namesOf 56 = .ok (.aload_n 0, 1) := by decide +kernel
theorem dX9_namesOf_57 : decode cX9_namesOf 57 = .ok (.getfield 20, 3) := by decide +kernel
theorem dX9_namesOf_60 : decode cX9_namesOf 60 = .ok (.iload_n 1, 1) := by decide +kernel
theorem dX9_namesOf_61 : decode cX9_namesOf 61 = .ok (.iaload, 1) := by decide +kernel
theorem dX9_namesOf_62 : decode cX9_namesOf 62 = .ok (.goto 9, 3) := by decide +kernel
theorem dX9_namesOf_65 : decode cX9_namesOf 65 = .ok (.aload_n 0, 1) := by decide +kernel
theorem dX9_namesOf_66 : decode cX9_namesOf 66 = .ok (.getfield 17, 3) := by decide +kernel
theorem dX9_namesOf_69 : decode cX9_namesOf 69 = .ok (.iload_n 1, 1) := by decide +kernel
theorem dX9_namesOf_70 : decode cX9_namesOf 70 = .ok (.iaload, 1) := by decide +kernel
theorem dX9_namesOf_71 : decode cX9_namesOf 71 = .ok (.iastore, 1) := by decide +kernel
theorem dX9_namesOf_72 : decode cX9_namesOf 72 = .ok (.aload_n 0, 1) := by decide +kernel
theorem dX9_namesOf_73 : decode cX9_namesOf 73 = .ok (.getfield 59, 3) := by decide +kernel
theorem dX9_namesOf_76 : decode cX9_namesOf 76 = .ok (.iconst 5, 1) := by decide +kernel
theorem dX9_namesOf_77 : decode cX9_namesOf 77 = .ok (.iload_n 1, 1) := by decide +kernel
theorem dX9_namesOf_78 : decode cX9_namesOf 78 = .ok (.iastore, 1) := by decide +kernel
theorem dX9_namesOf_79 : decode cX9_namesOf 79 = .ok (.return_, 1) := by decide +kernel
theorem dX9_mayGo_0 : decode cX9_mayGo 0 = .ok (.iload_n 1, 1) := by decide +kernel
theorem dX9_mayGo_1 : decode cX9_mayGo 1 = .ok (.aload_n 0, 1) := by decide +kernel
theorem dX9_mayGo_2 : decode cX9_mayGo 2 = .ok (.getfield 92, 3) := by decide +kernel
theorem dX9_mayGo_5 : decode cX9_mayGo 5 = .ok (.if_icmp .lt 5, 3) := by decide +kernel
theorem dX9_mayGo_8 : decode cX9_mayGo 8 = .ok (.iconst 1, 1) := by decide +kernel
theorem dX9_mayGo_9 : decode cX9_mayGo 9 = .ok (.ireturn, 1) := by decide +kernel
theorem dX9_mayGo_10 : decode cX9_mayGo 10 = .ok (.aload_n 0, 1) := by decide +kernel
theorem dX9_mayGo_11 : decode cX9_mayGo 11 = .ok (.getfield 13, 3) := by decide +kernel
theorem dX9_mayGo_14 : decode cX9_mayGo 14 = .ok (.iload_n 1, 1) := by decide +kernel
theorem dX9_mayGo_15 : decode cX9_mayGo 15 = .ok (.iaload, 1) := by decide +kernel
theorem dX9_mayGo_16 : decode cX9_mayGo 16 = .ok (.istore 4, 2) := by decide +kernel
theorem dX9_mayGo_18 : decode cX9_mayGo 18 = .ok (.iload 4, 2) := by decide +kernel
theorem dX9_mayGo_20 : decode cX9_mayGo 20 = .ok (.iconst 1, 1) := by decide +kernel
theorem dX9_mayGo_21 : decode cX9_mayGo 21 = .ok (.if_icmp .ne 13, 3) := by decide +kernel
theorem dX9_mayGo_24 : decode cX9_mayGo 24 = .ok (.iload_n 2, 1) := by decide +kernel
theorem dX9_mayGo_25 : decode cX9_mayGo 25 = .ok (.aload_n 0, 1) := by decide +kernel
theorem dX9_mayGo_26 : decode cX9_mayGo 26 = .ok (.getfield 17, 3) := by decide +kernel
theorem dX9_mayGo_29 : decode cX9_mayGo 29 = .ok (.iload_n 1, 1) := by decide +kernel
theorem dX9_mayGo_30 : decode cX9_mayGo 30 = .ok (.iaload, 1) := by decide +kernel
theorem dX9_mayGo_31 : decode cX9_mayGo 31 = .ok (.if_icmp .ne 28, 3) := by decide +kernel
theorem dX9_mayGo_34 : decode cX9_mayGo 34 = .ok (.iload 4, 2) := by decide +kernel
theorem dX9_mayGo_36 : decode cX9_mayGo 36 = .ok (.iconst 2, 1) := by decide +kernel
theorem dX9_mayGo_37 : decode cX9_mayGo 37 = .ok (.if_icmp .ne 7, 3) := by decide +kernel
theorem dX9_mayGo_40 : decode cX9_mayGo 40 = .ok (.iload_n 3, 1) := by decide +kernel
theorem dX9_mayGo_41 : decode cX9_mayGo 41 = .ok (.ifCond .ne 18, 3) := by decide +kernel
theorem dX9_mayGo_44 : decode cX9_mayGo 44 = .ok (.iload 4, 2) := by decide +kernel
theorem dX9_mayGo_46 : decode cX9_mayGo 46 = .ok (.iconst 5, 1) := by decide +kernel
theorem dX9_mayGo_47 : decode cX9_mayGo 47 = .ok (.if_icmp .ne 14, 3) := by decide +kernel
theorem dX9_mayGo_50 : decode cX9_mayGo 50 = .ok (.aload_n 0, 1) := by decide +kernel
theorem dX9_mayGo_51 : decode cX9_mayGo 51 = .ok (.getfield 7, 3) := by decide +kernel
theorem dX9_mayGo_54 : decode cX9_mayGo 54 = .ok (.bipush 12, 2) := by decide +kernel
theorem dX9_mayGo_56 : decode cX9_mayGo 56 = .ok (.if_icmp .lt 5, 3) := by decide +kernel
theorem dX9_mayGo_59 : decode cX9_mayGo 59 = .ok (.iconst 0, 1) := by decide +kernel
theorem dX9_mayGo_60 : decode cX9_mayGo 60 = .ok (.ireturn, 1) := by decide +kernel
theorem dX9_mayGo_61 : decode cX9_mayGo 61 = .ok (.aload_n 0, 1) := by decide +kernel
theorem dX9_mayGo_62 : decode cX9_mayGo 62 = .ok (.iload_n 1, 1) := by decide +kernel
theorem dX9_mayGo_63 : decode cX9_mayGo 63 = .ok (.iload_n 2, 1) := by decide +kernel
theorem dX9_mayGo_64 : decode cX9_mayGo 64 = .ok (.invokevirtual 193, 3) := by decide +kernel
theorem dX9_mayGo_67 : decode cX9_mayGo 67 = .ok (.aload_n 0, 1) := by decide +kernel
theorem dX9_mayGo_68 : decode cX9_mayGo 68 = .ok (.iconst 2, 1) := by decide +kernel
theorem dX9_mayGo_69 : decode cX9_mayGo 69 = .ok (.invokevirtual 197, 3) := by decide +kernel
theorem dX9_mayGo_72 : decode cX9_mayGo 72 = .ok (.ifCond .eq 7, 3) := by decide +kernel
theorem dX9_mayGo_75 : decode cX9_mayGo 75 = .ok (.iconst 1, 1) := by decide +kernel
theorem dX9_mayGo_76 : decode cX9_mayGo 76 = .ok (.goto 4, 3) := by decide +kernel
theorem dX9_mayGo_79 : decode cX9_mayGo 79 = .ok (.iconst 0, 1) := by decide +kernel
theorem dX9_mayGo_80 : decode cX9_mayGo 80 = .ok (.ireturn, 1) := by decide +kernel
theorem dX9_minutesOf_0 : decode cX9_minutesOf 0 = .ok (.iload_n 1, 1) := by decide +kernel
theorem dX9_minutesOf_1 : decode cX9_minutesOf 1 = .ok (.aload_n 0, 1) := by decide +kernel
theorem dX9_minutesOf_2 : decode cX9_minutesOf 2 = .ok (.getfield 92, 3) := by decide +kernel
theorem dX9_minutesOf_5 : decode cX9_minutesOf 5 = .ok (.if_icmp .lt 10, 3) := by decide +kernel
theorem dX9_minutesOf_8 : decode cX9_minutesOf 8 = .ok (.aload_n 0, 1) := by decide +kernel
theorem dX9_minutesOf_9 : decode cX9_minutesOf 9 = .ok (.getfield 23, 3) := by decide +kernel
theorem dX9_minutesOf_12 : decode cX9_minutesOf 12 = .ok (.iload_n 1, 1) := by decide +kernel
theorem dX9_minutesOf_13 : decode cX9_minutesOf 13 = .ok (.iaload, 1) := by decide +kernel
theorem dX9_minutesOf_14 : decode cX9_minutesOf 14 = .ok (.ireturn, 1) := by decide +kernel
theorem dX9_minutesOf_15 : decode cX9_minutesOf 15 = .ok (.aload_n 0, 1) := by decide +kernel
theorem dX9_minutesOf_16 : decode cX9_minutesOf 16 = .ok (.iload_n 1, 1) := by decide +kernel
theorem dX9_minutesOf_17 : decode cX9_minutesOf 17 = .ok (.iload_n 2, 1) := by decide +kernel
theorem dX9_minutesOf_18 : decode cX9_minutesOf 18 = .ok (.invokevirtual 193, 3) := by decide +kernel
theorem dX9_minutesOf_21 : decode cX9_minutesOf 21 = .ok (.aload_n 0, 1) := by decide +kernel
theorem dX9_minutesOf_22 : decode cX9_minutesOf 22 = .ok (.iload_n 3, 1) := by decide +kernel
theorem dX9_minutesOf_23 : decode cX9_minutesOf 23 = .ok (.ifCond .eq 7, 3) := by decide +kernel
theorem dX9_minutesOf_26 : decode cX9_minutesOf 26 = .ok (.iconst 1, 1) := by decide +kernel
theorem dX9_minutesOf_27 : decode cX9_minutesOf 27 = .ok (.goto 4, 3) := by decide +kernel
theorem dX9_minutesOf_30 : decode cX9_minutesOf 30 = .ok (.iconst 0, 1) := by decide +kernel
theorem dX9_minutesOf_31 : decode cX9_minutesOf 31 = .ok (.invokevirtual 197, 3) := by decide +kernel
theorem dX9_minutesOf_34 : decode cX9_minutesOf 34 = .ok (.iconst 1, 1) := by decide +kernel
theorem dX9_minutesOf_35 : decode cX9_minutesOf 35 = .ok (.bipush 99, 2) := by decide +kernel
theorem dX9_minutesOf_37 : decode cX9_minutesOf 37 = .ok (.invokestatic 200, 3) := by decide +kernel
theorem dX9_minutesOf_40 : decode cX9_minutesOf 40 = .ok (.istore 4, 2) := by decide +kernel
theorem dX9_minutesOf_42 : decode cX9_minutesOf 42 = .ok (.aload_n 0, 1) := by decide +kernel
theorem dX9_minutesOf_43 : decode cX9_minutesOf 43 = .ok (.getfield 13, 3) := by decide +kernel
theorem dX9_minutesOf_46 : decode cX9_minutesOf 46 = .ok (.iload_n 1, 1) := by decide +kernel
theorem dX9_minutesOf_47 : decode cX9_minutesOf 47 = .ok (.iaload, 1) := by decide +kernel
theorem dX9_minutesOf_48 : decode cX9_minutesOf 48 = .ok (.iconst 2, 1) := by decide +kernel
theorem dX9_minutesOf_49 : decode cX9_minutesOf 49 = .ok (.if_icmp .ne 25, 3) := by decide +kernel
theorem dX9_minutesOf_52 : decode cX9_minutesOf 52 = .ok (.iload_n 2, 1) := by decide +kernel
theorem dX9_minutesOf_53 : decode cX9_minutesOf 53 = .ok (.aload_n 0, 1) := by decide +kernel
theorem dX9_minutesOf_54 : decode cX9_minutesOf 54 = .ok (.getfield 20, 3) := by decide +kernel
theorem dX9_minutesOf_57 : decode cX9_minutesOf 57 = .ok (.iload_n 1, 1) := by decide +kernel
theorem dX9_minutesOf_58 : decode cX9_minutesOf 58 = .ok (.iaload, 1) := by decide +kernel
theorem dX9_minutesOf_59 : decode cX9_minutesOf 59 = .ok (.if_icmp .ne 15, 3) := by decide +kernel
theorem dX9_minutesOf_62 : decode cX9_minutesOf 62 = .ok (.iconst 2, 1) := by decide +kernel
theorem dX9_minutesOf_63 : decode cX9_minutesOf 63 = .ok (.iload 4, 2) := by decide +kernel
theorem dX9_minutesOf_65 : decode cX9_minutesOf 65 = .ok (.imul, 1) := by decide +kernel
theorem dX9_minutesOf_66 : decode cX9_minutesOf 66 = .ok (.iconst 1, 1) := by decide +kernel
theorem dX9_minutesOf_67 : decode cX9_minutesOf 67 = .ok (.bipush 99, 2) := by decide +kernel
theorem dX9_minutesOf_69 : decode cX9_minutesOf 69 = .ok (.invokestatic 200, 3) := by decide +kernel
theorem dX9_minutesOf_72 : decode cX9_minutesOf 72 = .ok (.istore 4, 2) := by decide +kernel
theorem dX9_minutesOf_74 : decode cX9_minutesOf 74 = .ok (.aload_n 0, 1) := by decide +kernel
theorem dX9_minutesOf_75 : decode cX9_minutesOf 75 = .ok (.getfield 13, 3) := by decide +kernel
theorem dX9_minutesOf_78 : decode cX9_minutesOf 78 = .ok (.iload_n 1, 1) := by decide +kernel
theorem dX9_minutesOf_79 : decode cX9_minutesOf 79 = .ok (.iaload, 1) := by decide +kernel
theorem dX9_minutesOf_80 : decode cX9_minutesOf 80 = .ok (.iconst 4, 1) := by decide +kernel
theorem dX9_minutesOf_81 : decode cX9_minutesOf 81 = .ok (.if_icmp .ne 30, 3) := by decide +kernel
theorem dX9_minutesOf_84 : decode cX9_minutesOf 84 = .ok (.aload_n 0, 1) := by decide +kernel
theorem dX9_minutesOf_85 : decode cX9_minutesOf 85 = .ok (.getfield 7, 3) := by decide +kernel
theorem dX9_minutesOf_88 : decode cX9_minutesOf 88 = .ok (.bipush 12, 2) := by decide +kernel
theorem dX9_minutesOf_90 : decode cX9_minutesOf 90 = .ok (.if_icmp .lt 21, 3) := by decide +kernel
theorem dX9_minutesOf_93 : decode cX9_minutesOf 93 = .ok (.iload 4, 2) := by decide +kernel
theorem dX9_minutesOf_95 : decode cX9_minutesOf 95 = .ok (.aload_n 0, 1) := by decide +kernel
theorem dX9_minutesOf_96 : decode cX9_minutesOf 96 = .ok (.getfield 26, 3) := by decide +kernel
theorem dX9_minutesOf_99 : decode cX9_minutesOf 99 = .ok (.iload_n 1, 1) := by decide +kernel
theorem dX9_minutesOf_100 : decode cX9_minutesOf 100 = .ok (.iaload, 1) := by decide +kernel
theorem dX9_minutesOf_101 : decode cX9_minutesOf 101 = .ok (.iadd, 1) := by decide +kernel
theorem dX9_minutesOf_102 : decode cX9_minutesOf 102 = .ok (.iconst 1, 1) := by decide +kernel
theorem dX9_minutesOf_103 : decode cX9_minutesOf 103 = .ok (.bipush 99, 2) := by decide +kernel
theorem dX9_minutesOf_105 : decode cX9_minutesOf 105 = .ok (.invokestatic 200, 3) := by decide +kernel
theorem dX9_minutesOf_108 : decode cX9_minutesOf 108 = .ok (.goto 5, 3) := by decide +kernel
theorem dX9_minutesOf_111 : decode cX9_minutesOf 111 = .ok (.iload 4, 2) := by decide +kernel
theorem dX9_minutesOf_113 : decode cX9_minutesOf 113 = .ok (.ireturn, 1) := by decide +kernel
theorem dX9_asks_0 : decode cX9_asks 0 = .ok (.aload_n 0, 1) := by decide +kernel
theorem dX9_asks_1 : decode cX9_asks 1 = .ok (.iload_n 1, 1) := by decide +kernel
theorem dX9_asks_2 : decode cX9_asks 2 = .ok (.invokevirtual 187, 3) := by decide +kernel
theorem dX9_asks_5 : decode cX9_asks 5 = .ok (.ifCond .eq 23, 3) := by decide +kernel
theorem dX9_asks_8 : decode cX9_asks 8 = .ok (.iload_n 2, 1) := by decide +kernel
theorem dX9_asks_9 : decode cX9_asks 9 = .ok (.aload_n 0, 1) := by decide +kernel
theorem dX9_asks_10 : decode cX9_asks 10 = .ok (.getfield 17, 3) := by decide +kernel
theorem dX9_asks_13 : decode cX9_asks 13 = .ok (.iload_n 1, 1) := by decide +kernel
theorem dX9_asks_14 : decode cX9_asks 14 = .ok (.iaload, 1) := by decide +kernel
theorem dX9_asks_15 : decode cX9_asks 15 = .ok (.if_icmp .eq 16, 3) := by decide +kernel
theorem dX9_asks_18 : decode cX9_asks 18 = .ok (.iload_n 2, 1) := by decide +kernel
theorem dX9_asks_19 : decode cX9_asks 19 = .ok (.aload_n 0, 1) := by decide +kernel
theorem dX9_asks_20 : decode cX9_asks 20 = .ok (.getfield 20, 3) := by decide +kernel
theorem dX9_asks_23 : decode cX9_asks 23 = .ok (.iload_n 1, 1) := by decide +kernel
theorem dX9_asks_24 : decode cX9_asks 24 = .ok (.iaload, 1) := by decide +kernel
theorem dX9_asks_25 : decode cX9_asks 25 = .ok (.if_icmp .eq 6, 3) := by decide +kernel
theorem dX9_asks_28 : decode cX9_asks 28 = .ok (.bipush (-5), 2) := by decide +kernel
theorem dX9_asks_30 : decode cX9_asks 30 = .ok (.ireturn, 1) := by decide +kernel
theorem dX9_asks_31 : decode cX9_asks 31 = .ok (.iload_n 3, 1) := by decide +kernel
theorem dX9_asks_32 : decode cX9_asks 32 = .ok (.iconst 0, 1) := by decide +kernel
theorem dX9_asks_33 : decode cX9_asks 33 = .ok (.iconst 3, 1) := by decide +kernel
theorem dX9_asks_34 : decode cX9_asks 34 = .ok (.invokestatic 88, 3) := by decide +kernel
theorem dX9_asks_37 : decode cX9_asks 37 = .ok (.ifCond .ne 6, 3) := by decide +kernel
theorem dX9_asks_40 : decode cX9_asks 40 = .ok (.bipush (-7), 2) := by decide +kernel
theorem dX9_asks_42 : decode cX9_asks 42 = .ok (.ireturn, 1) := by decide +kernel
theorem dX9_asks_43 : decode cX9_asks 43 = .ok (.iload_n 3, 1) := by decide +kernel
theorem dX9_asks_44 : decode cX9_asks 44 = .ok (.iconst 2, 1) := by decide +kernel
theorem dX9_asks_45 : decode cX9_asks 45 = .ok (.if_icmp .ge 30, 3) := by decide +kernel
theorem dX9_asks_48 : decode cX9_asks 48 = .ok (.aload_n 0, 1) := by decide +kernel
theorem dX9_asks_49 : decode cX9_asks 49 = .ok (.iload_n 1, 1) := by decide +kernel
theorem dX9_asks_50 : decode cX9_asks 50 = .ok (.iload_n 2, 1) := by decide +kernel
theorem dX9_asks_51 : decode cX9_asks 51 = .ok (.iload_n 3, 1) := by decide +kernel
theorem dX9_asks_52 : decode cX9_asks 52 = .ok (.iconst 1, 1) := by decide +kernel
theorem dX9_asks_53 : decode cX9_asks 53 = .ok (.if_icmp .ne 7, 3) := by decide +kernel
theorem dX9_asks_56 : decode cX9_asks 56 = .ok (.iconst 1, 1) := by decide +kernel
theorem dX9_asks_57 : decode cX9_asks 57 = .ok (.goto 4, 3) := by decide +kernel
theorem dX9_asks_60 : decode cX9_asks 60 = .ok (.iconst 0, 1) := by decide +kernel
theorem dX9_asks_61 : decode cX9_asks 61 = .ok (.invokevirtual 203, 3) := by decide +kernel
theorem dX9_asks_64 : decode cX9_asks 64 = .ok (.ifCond .eq 7, 3) := by decide +kernel
theorem dX9_asks_67 : decode cX9_asks 67 = .ok (.iconst 1, 1) := by decide +kernel
theorem dX9_asks_68 : decode cX9_asks 68 = .ok (.goto 23, 3) := by decide +kernel
theorem dX9_asks_71 : decode cX9_asks 71 = .ok (.iconst 0, 1) := by decide +kernel
theorem dX9_asks_72 : decode cX9_asks 72 = .ok (.goto 19, 3) := by decide +kernel
theorem dX9_asks_75 : decode cX9_asks 75 = .ok (.aload_n 0, 1) := by decide +kernel
theorem dX9_asks_76 : decode cX9_asks 76 = .ok (.iload_n 1, 1) := by decide +kernel
theorem dX9_asks_77 : decode cX9_asks 77 = .ok (.iload_n 2, 1) := by decide +kernel
theorem dX9_asks_78 : decode cX9_asks 78 = .ok (.iload_n 3, 1) := by decide +kernel
theorem dX9_asks_79 : decode cX9_asks 79 = .ok (.iconst 3, 1) := by decide +kernel
theorem dX9_asks_80 : decode cX9_asks 80 = .ok (.if_icmp .ne 7, 3) := by decide +kernel
theorem dX9_asks_83 : decode cX9_asks 83 = .ok (.iconst 1, 1) := by decide +kernel
theorem dX9_asks_84 : decode cX9_asks 84 = .ok (.goto 4, 3) := by decide +kernel
theorem dX9_asks_87 : decode cX9_asks 87 = .ok (.iconst 0, 1) := by decide +kernel
theorem dX9_asks_88 : decode cX9_asks 88 = .ok (.invokevirtual 207, 3) := by decide +kernel
theorem dX9_asks_91 : decode cX9_asks 91 = .ok (.ireturn, 1) := by decide +kernel
theorem dX9_looks_0 : decode cX9_looks 0 = .ok (.aload_n 0, 1) := by decide +kernel
theorem dX9_looks_1 : decode cX9_looks 1 = .ok (.aload_n 0, 1) := by decide +kernel
theorem dX9_looks_2 : decode cX9_looks 2 = .ok (.getfield 92, 3) := by decide +kernel
theorem dX9_looks_5 : decode cX9_looks 5 = .ok (.iload_n 1, 1) := by decide +kernel
theorem dX9_looks_6 : decode cX9_looks 6 = .ok (.ifCond .eq 7, 3) := by decide +kernel
theorem dX9_looks_9 : decode cX9_looks 9 = .ok (.iconst 1, 1) := by decide +kernel
theorem dX9_looks_10 : decode cX9_looks 10 = .ok (.goto 4, 3) := by decide +kernel
theorem dX9_looks_13 : decode cX9_looks 13 = .ok (.iconst 0, 1) := by decide +kernel
theorem dX9_looks_14 : decode cX9_looks 14 = .ok (.iadd, 1) := by decide +kernel
theorem dX9_looks_15 : decode cX9_looks 15 = .ok (.putfield 211, 3) := by decide +kernel
theorem dX9_looks_18 : decode cX9_looks 18 = .ok (.iconst 0, 1) := by decide +kernel
theorem dX9_looks_19 : decode cX9_looks 19 = .ok (.istore_n 2, 1) := by decide +kernel
theorem dX9_looks_20 : decode cX9_looks 20 = .ok (.iload_n 2, 1) := by decide +kernel
theorem dX9_looks_21 : decode cX9_looks 21 = .ok (.aload_n 0, 1) := by decide +kernel
theorem dX9_looks_22 : decode cX9_looks 22 = .ok (.getfield 211, 3) := by decide +kernel
theorem dX9_looks_25 : decode cX9_looks 25 = .ok (.if_icmp .ge 107, 3) := by decide +kernel
theorem dX9_looks_28 : decode cX9_looks 28 = .ok (.aload_n 0, 1) := by decide +kernel
theorem dX9_looks_29 : decode cX9_looks 29 = .ok (.getfield 65, 3) := by decide +kernel
theorem dX9_looks_32 : decode cX9_looks 32 = .ok (.iload_n 2, 1) := by decide +kernel
theorem dX9_looks_33 : decode cX9_looks 33 = .ok (.aload_n 0, 1) := by decide +kernel
theorem dX9_looks_34 : decode cX9_looks 34 = .ok (.iload_n 2, 1) := by decide +kernel
theorem dX9_looks_35 : decode cX9_looks 35 = .ok (.invokevirtual 190, 3) := by decide +kernel
theorem dX9_looks_38 : decode cX9_looks 38 = .ok (.iastore, 1) := by decide +kernel
theorem dX9_looks_39 : decode cX9_looks 39 = .ok (.iconst 0, 1) := by decide +kernel
theorem dX9_looks_40 : decode cX9_looks 40 = .ok (.istore_n 3, 1) := by decide +kernel
theorem dX9_looks_41 : decode cX9_looks 41 = .ok (.iload_n 3, 1) := by decide +kernel
theorem dX9_looks_42 : decode cX9_looks 42 = .ok (.iconst 4, 1) := by decide +kernel
theorem dX9_looks_43 : decode cX9_looks 43 = .ok (.if_icmp .ge 83, 3) := by decide +kernel
theorem dX9_looks_46 : decode cX9_looks 46 = .ok (.iload_n 3, 1) := by decide +kernel
theorem dX9_looks_47 : decode cX9_looks 47 = .ok (.iconst 2, 1) := by decide +kernel
theorem dX9_looks_48 : decode cX9_looks 48 = .ok (.irem, 1) := by decide +kernel
theorem dX9_looks_49 : decode cX9_looks 49 = .ok (.ifCond .ne 12, 3) := by decide +kernel
theorem dX9_looks_52 : decode cX9_looks 52 = .ok (.aload_n 0, 1) := by decide +kernel
theorem dX9_looks_53 : decode cX9_looks 53 = .ok (.getfield 17, 3) := by decide +kernel
theorem dX9_looks_56 : decode cX9_looks 56 = .ok (.iload_n 2, 1) := by decide +kernel
theorem dX9_looks_57 : decode cX9_looks 57 = .ok (.iaload, 1) := by decide +kernel
theorem dX9_looks_58 : decode cX9_looks 58 = .ok (.goto 9, 3) := by decide +kernel
theorem dX9_looks_61 : decode cX9_looks 61 = .ok (.aload_n 0, 1) := by decide +kernel
theorem dX9_looks_62 : decode cX9_looks 62 = .ok (.getfield 20, 3) := by decide +kernel
theorem dX9_looks_65 : decode cX9_looks 65 = .ok (.iload_n 2, 1) := by decide +kernel
theorem dX9_looks_66 : decode cX9_looks 66 = .ok (.iaload, 1) := by decide +kernel
theorem dX9_looks_67 : decode cX9_looks 67 = .ok (.istore 4, 2) := by decide +kernel
theorem dX9_looks_69 : decode cX9_looks 69 = .ok (.aload_n 0, 1) := by decide +kernel
theorem dX9_looks_70 : decode cX9_looks 70 = .ok (.getfield 62, 3) := by decide +kernel
theorem dX9_looks_73 : decode cX9_looks 73 = .ok (.iconst 4, 1) := by decide +kernel
theorem dX9_looks_74 : decode cX9_looks 74 = .ok (.iload_n 2, 1) := by decide +kernel
theorem dX9_looks_75 : decode cX9_looks 75 = .ok (.imul, 1) := by decide +kernel
theorem dX9_looks_76 : decode cX9_looks 76 = .ok (.iload_n 3, 1) := by decide +kernel
theorem dX9_looks_77 : decode cX9_looks 77 = .ok (.iadd, 1) := by decide +kernel
theorem dX9_looks_78 : decode cX9_looks 78 = .ok (.aload_n 0, 1) := by decide +kernel
theorem dX9_looks_79 : decode cX9_looks 79 = .ok (.iload_n 2, 1) := by decide +kernel
theorem dX9_looks_80 : decode cX9_looks 80 = .ok (.iload 4, 2) := by decide +kernel
theorem dX9_looks_82 : decode cX9_looks 82 = .ok (.iload_n 3, 1) := by decide +kernel
theorem dX9_looks_83 : decode cX9_looks 83 = .ok (.iconst 1, 1) := by decide +kernel
theorem dX9_looks_84 : decode cX9_looks 84 = .ok (.if_icmp .le 7, 3) := by decide +kernel
theorem dX9_looks_87 : decode cX9_looks 87 = .ok (.iconst 1, 1) := by decide +kernel
theorem dX9_looks_88 : decode cX9_looks 88 = .ok (.goto 4, 3) := by decide +kernel
theorem dX9_looks_91 : decode cX9_looks 91 = .ok (.iconst 0, 1) := by decide +kernel
theorem dX9_looks_92 : decode cX9_looks 92 = .ok (.invokevirtual 203, 3) := by decide +kernel
theorem dX9_looks_95 : decode cX9_looks 95 = .ok (.ifCond .eq 23, 3) := by decide +kernel
theorem dX9_looks_98 : decode cX9_looks 98 = .ok (.aload_n 0, 1) := by decide +kernel
theorem dX9_looks_99 : decode cX9_looks 99 = .ok (.iload_n 2, 1) := by decide +kernel
theorem dX9_looks_100 : decode cX9_looks 100 = .ok (.iload 4, 2) := by decide +kernel
theorem dX9_looks_102 : decode cX9_looks 102 = .ok (.iload_n 3, 1) := by decide +kernel
theorem dX9_looks_103 : decode cX9_looks 103 = .ok (.iconst 1, 1) := by decide +kernel
theorem dX9_looks_104 : decode cX9_looks 104 = .ok (.if_icmp .le 7, 3) := by decide +kernel
theorem dX9_looks_107 : decode cX9_looks 107 = .ok (.iconst 1, 1) := by decide +kernel
theorem dX9_looks_108 : decode cX9_looks 108 = .ok (.goto 4, 3) := by decide +kernel
theorem dX9_looks_111 : decode cX9_looks 111 = .ok (.iconst 0, 1) := by decide +kernel
theorem dX9_looks_112 : decode cX9_looks 112 = .ok (.invokevirtual 207, 3) := by decide +kernel
theorem dX9_looks_115 : decode cX9_looks 115 = .ok (.goto 4, 3) := by decide +kernel
theorem dX9_looks_118 : decode cX9_looks 118 = .ok (.iconst 0, 1) := by decide +kernel
theorem dX9_looks_119 : decode cX9_looks 119 = .ok (.iastore, 1) := by decide +kernel
theorem dX9_looks_120 : decode cX9_looks 120 = .ok (.iinc 3 1, 3) := by decide +kernel
theorem dX9_looks_123 : decode cX9_looks 123 = .ok (.goto (-82), 3) := by decide +kernel
theorem dX9_looks_126 : decode cX9_looks 126 = .ok (.iinc 2 1, 3) := by decide +kernel
theorem dX9_looks_129 : decode cX9_looks 129 = .ok (.goto (-109), 3) := by decide +kernel
theorem dX9_looks_132 : decode cX9_looks 132 = .ok (.return_, 1) := by decide +kernel
theorem dX9_spentBy_0 : decode cX9_spentBy 0 = .ok (.aload_n 0, 1) := by decide +kernel
theorem dX9_spentBy_1 : decode cX9_spentBy 1 = .ok (.getfield 105, 3) := by decide +kernel
theorem dX9_spentBy_4 : decode cX9_spentBy 4 = .ok (.istore_n 2, 1) := by decide +kernel
theorem dX9_spentBy_5 : decode cX9_spentBy 5 = .ok (.iconst 0, 1) := by decide +kernel
theorem dX9_spentBy_6 : decode cX9_spentBy 6 = .ok (.istore_n 3, 1) := by decide +kernel
theorem dX9_spentBy_7 : decode cX9_spentBy 7 = .ok (.iload_n 3, 1) := by decide +kernel
theorem dX9_spentBy_8 : decode cX9_spentBy 8 = .ok (.aload_n 0, 1) := by decide +kernel
theorem dX9_spentBy_9 : decode cX9_spentBy 9 = .ok (.getfield 211, 3) := by decide +kernel
theorem dX9_spentBy_12 : decode cX9_spentBy 12 = .ok (.if_icmp .ge 31, 3) := by decide +kernel
theorem dX9_spentBy_15 : decode cX9_spentBy 15 = .ok (.iload_n 2, 1) := by decide +kernel
theorem dX9_spentBy_16 : decode cX9_spentBy 16 = .ok (.iload_n 1, 1) := by decide +kernel
theorem dX9_spentBy_17 : decode cX9_spentBy 17 = .ok (.iload_n 3, 1) := by decide +kernel
theorem dX9_spentBy_18 : decode cX9_spentBy 18 = .ok (.ishr, 1) := by decide +kernel
theorem dX9_spentBy_19 : decode cX9_spentBy 19 = .ok (.iconst 1, 1) := by decide +kernel
theorem dX9_spentBy_20 : decode cX9_spentBy 20 = .ok (.iand, 1) := by decide +kernel
theorem dX9_spentBy_21 : decode cX9_spentBy 21 = .ok (.iconst 1, 1) := by decide +kernel
theorem dX9_spentBy_22 : decode cX9_spentBy 22 = .ok (.if_icmp .ne 12, 3) := by decide +kernel
theorem dX9_spentBy_25 : decode cX9_spentBy 25 = .ok (.aload_n 0, 1) := by decide +kernel
theorem dX9_spentBy_26 : decode cX9_spentBy 26 = .ok (.getfield 65, 3) := by decide +kernel
theorem dX9_spentBy_29 : decode cX9_spentBy 29 = .ok (.iload_n 3, 1) := by decide +kernel
theorem dX9_spentBy_30 : decode cX9_spentBy 30 = .ok (.iaload, 1) := by decide +kernel
theorem dX9_spentBy_31 : decode cX9_spentBy 31 = .ok (.goto 4, 3) := by decide +kernel
theorem dX9_spentBy_34 : decode cX9_spentBy 34 = .ok (.iconst 0, 1) := by decide +kernel
theorem dX9_spentBy_35 : decode cX9_spentBy 35 = .ok (.ior, 1) := by decide +kernel
theorem dX9_spentBy_36 : decode cX9_spentBy 36 = .ok (.istore_n 2, 1) := by decide +kernel
theorem dX9_spentBy_37 : decode cX9_spentBy 37 = .ok (.iinc 3 1, 3) := by decide +kernel
theorem dX9_spentBy_40 : decode cX9_spentBy 40 = .ok (.goto (-33), 3) := by decide +kernel
theorem dX9_spentBy_43 : decode cX9_spentBy 43 = .ok (.iload_n 2, 1) := by decide +kernel
theorem dX9_spentBy_44 : decode cX9_spentBy 44 = .ok (.ireturn, 1) := by decide +kernel
theorem dX9_passedBy_0 : decode cX9_passedBy 0 = .ok (.iconst 1, 1) := by decide +kernel
theorem dX9_passedBy_1 : decode cX9_passedBy 1 = .ok (.aload_n 0, 1) := by decide +kernel
theorem dX9_passedBy_2 : decode cX9_passedBy 2 = .ok (.getfield 99, 3) := by decide +kernel
theorem dX9_passedBy_5 : decode cX9_passedBy 5 = .ok (.ishl, 1) := by decide +kernel
theorem dX9_passedBy_6 : decode cX9_passedBy 6 = .ok (.istore_n 2, 1) := by decide +kernel
theorem dX9_passedBy_7 : decode cX9_passedBy 7 = .ok (.iconst 0, 1) := by decide +kernel
theorem dX9_passedBy_8 : decode cX9_passedBy 8 = .ok (.istore_n 3, 1) := by decide +kernel
theorem dX9_passedBy_9 : decode cX9_passedBy 9 = .ok (.iload_n 3, 1) := by decide +kernel
theorem dX9_passedBy_10 : decode cX9_passedBy 10 = .ok (.aload_n 0, 1) := by decide +kernel
theorem dX9_passedBy_11 : decode cX9_passedBy 11 = .ok (.getfield 211, 3) := by decide +kernel
theorem dX9_passedBy_14 : decode cX9_passedBy 14 = .ok (.if_icmp .ge 42, 3) := by decide +kernel
theorem dX9_passedBy_17 : decode cX9_passedBy 17 = .ok (.iload_n 2, 1) := by decide +kernel
theorem dX9_passedBy_18 : decode cX9_passedBy 18 = .ok (.iload_n 1, 1) := by decide +kernel
theorem dX9_passedBy_19 : decode cX9_passedBy 19 = .ok (.iload_n 3, 1) := by decide +kernel
theorem dX9_passedBy_20 : decode cX9_passedBy 20 = .ok (.ishr, 1) := by decide +kernel
theorem dX9_passedBy_21 : decode cX9_passedBy 21 = .ok (.iconst 1, 1) := by decide +kernel
theorem dX9_passedBy_22 : decode cX9_passedBy 22 = .ok (.iand, 1) := by decide +kernel
theorem dX9_passedBy_23 : decode cX9_passedBy 23 = .ok (.iconst 1, 1) := by decide +kernel
theorem dX9_passedBy_24 : decode cX9_passedBy 24 = .ok (.if_icmp .ne 23, 3) := by decide +kernel
theorem dX9_passedBy_27 : decode cX9_passedBy 27 = .ok (.iconst 1, 1) := by decide +kernel
theorem dX9_passedBy_28 : decode cX9_passedBy 28 = .ok (.aload_n 0, 1) := by decide +kernel
theorem dX9_passedBy_29 : decode cX9_passedBy 29 = .ok (.getfield 17, 3) := by decide +kernel
theorem dX9_passedBy_32 : decode cX9_passedBy 32 = .ok (.iload_n 3, 1) := by decide +kernel
theorem dX9_passedBy_33 : decode cX9_passedBy 33 = .ok (.iaload, 1) := by decide +kernel
theorem dX9_passedBy_34 : decode cX9_passedBy 34 = .ok (.ishl, 1) := by decide +kernel
theorem dX9_passedBy_35 : decode cX9_passedBy 35 = .ok (.iconst 1, 1) := by decide +kernel
theorem dX9_passedBy_36 : decode cX9_passedBy 36 = .ok (.aload_n 0, 1) := by decide +kernel
theorem dX9_passedBy_37 : decode cX9_passedBy 37 = .ok (.getfield 20, 3) := by decide +kernel
theorem dX9_passedBy_40 : decode cX9_passedBy 40 = .ok (.iload_n 3, 1) := by decide +kernel
theorem dX9_passedBy_41 : decode cX9_passedBy 41 = .ok (.iaload, 1) := by decide +kernel
theorem dX9_passedBy_42 : decode cX9_passedBy 42 = .ok (.ishl, 1) := by decide +kernel
theorem dX9_passedBy_43 : decode cX9_passedBy 43 = .ok (.ior, 1) := by decide +kernel
theorem dX9_passedBy_44 : decode cX9_passedBy 44 = .ok (.goto 4, 3) := by decide +kernel
theorem dX9_passedBy_47 : decode cX9_passedBy 47 = .ok (.iconst 0, 1) := by decide +kernel
theorem dX9_passedBy_48 : decode cX9_passedBy 48 = .ok (.ior, 1) := by decide +kernel
theorem dX9_passedBy_49 : decode cX9_passedBy 49 = .ok (.istore_n 2, 1) := by decide +kernel
theorem dX9_passedBy_50 : decode cX9_passedBy 50 = .ok (.iinc 3 1, 3) := by decide +kernel
theorem dX9_passedBy_53 : decode cX9_passedBy 53 = .ok (.goto (-44), 3) := by decide +kernel
theorem dX9_passedBy_56 : decode cX9_passedBy 56 = .ok (.iload_n 2, 1) := by decide +kernel
theorem dX9_passedBy_57 : decode cX9_passedBy 57 = .ok (.ireturn, 1) := by decide +kernel
theorem dX9_sideOf_0 : decode cX9_sideOf 0 = .ok (.aload_n 0, 1) := by decide +kernel
theorem dX9_sideOf_1 : decode cX9_sideOf 1 = .ok (.getfield 17, 3) := by decide +kernel
theorem dX9_sideOf_4 : decode cX9_sideOf 4 = .ok (.iload_n 1, 1) := by decide +kernel
theorem dX9_sideOf_5 : decode cX9_sideOf 5 = .ok (.iaload, 1) := by decide +kernel
theorem dX9_sideOf_6 : decode cX9_sideOf 6 = .ok (.iload_n 2, 1) := by decide +kernel
theorem dX9_sideOf_7 : decode cX9_sideOf 7 = .ok (.if_icmp .ne 7, 3) := by decide +kernel
theorem dX9_sideOf_10 : decode cX9_sideOf 10 = .ok (.iconst 0, 1) := by decide +kernel
theorem dX9_sideOf_11 : decode cX9_sideOf 11 = .ok (.goto 18, 3) := by decide +kernel
theorem dX9_sideOf_14 : decode cX9_sideOf 14 = .ok (.aload_n 0, 1) := by decide +kernel
theorem dX9_sideOf_15 : decode cX9_sideOf 15 = .ok (.getfield 20, 3) := by decide +kernel
theorem dX9_sideOf_18 : decode cX9_sideOf 18 = .ok (.iload_n 1, 1) := by decide +kernel
theorem dX9_sideOf_19 : decode cX9_sideOf 19 = .ok (.iaload, 1) := by decide +kernel
theorem dX9_sideOf_20 : decode cX9_sideOf 20 = .ok (.iload_n 2, 1) := by decide +kernel
theorem dX9_sideOf_21 : decode cX9_sideOf 21 = .ok (.if_icmp .ne 7, 3) := by decide +kernel
theorem dX9_sideOf_24 : decode cX9_sideOf 24 = .ok (.iconst 1, 1) := by decide +kernel
theorem dX9_sideOf_25 : decode cX9_sideOf 25 = .ok (.goto 4, 3) := by decide +kernel
theorem dX9_sideOf_28 : decode cX9_sideOf 28 = .ok (.iconst (-1), 1) := by decide +kernel
theorem dX9_sideOf_29 : decode cX9_sideOf 29 = .ok (.ireturn, 1) := by decide +kernel
theorem dX9_beyond_0 : decode cX9_beyond 0 = .ok (.iload_n 2, 1) := by decide +kernel
theorem dX9_beyond_1 : decode cX9_beyond 1 = .ok (.ifCond .ne 12, 3) := by decide +kernel
theorem dX9_beyond_4 : decode cX9_beyond 4 = .ok (.aload_n 0, 1) := by decide +kernel
theorem dX9_beyond_5 : decode cX9_beyond 5 = .ok (.getfield 20, 3) := by decide +kernel
theorem dX9_beyond_8 : decode cX9_beyond 8 = .ok (.iload_n 1, 1) := by decide +kernel
theorem dX9_beyond_9 : decode cX9_beyond 9 = .ok (.iaload, 1) := by decide +kernel
theorem dX9_beyond_10 : decode cX9_beyond 10 = .ok (.goto 9, 3) := by decide +kernel
theorem dX9_beyond_13 : decode cX9_beyond 13 = .ok (.aload_n 0, 1) := by decide +kernel
theorem dX9_beyond_14 : decode cX9_beyond 14 = .ok (.getfield 17, 3) := by decide +kernel
theorem dX9_beyond_17 : decode cX9_beyond 17 = .ok (.iload_n 1, 1) := by decide +kernel
theorem dX9_beyond_18 : decode cX9_beyond 18 = .ok (.iaload, 1) := by decide +kernel
theorem dX9_beyond_19 : decode cX9_beyond 19 = .ok (.ireturn, 1) := by decide +kernel
theorem dX9_mayCome_0 : decode cX9_mayCome 0 = .ok (.aload_n 0, 1) := by decide +kernel
theorem dX9_mayCome_1 : decode cX9_mayCome 1 = .ok (.getfield 102, 3) := by decide +kernel
theorem dX9_mayCome_4 : decode cX9_mayCome 4 = .ok (.ifCond .eq 19, 3) := by decide +kernel
theorem dX9_mayCome_7 : decode cX9_mayCome 7 = .ok (.iload_n 1, 1) := by decide +kernel
theorem dX9_mayCome_8 : decode cX9_mayCome 8 = .ok (.aload_n 0, 1) := by decide +kernel
theorem dX9_mayCome_9 : decode cX9_mayCome 9 = .ok (.getfield 99, 3) := by decide +kernel
theorem dX9_mayCome_12 : decode cX9_mayCome 12 = .ok (.if_icmp .eq 11, 3) := by decide +kernel
theorem dX9_mayCome_15 : decode cX9_mayCome 15 = .ok (.iload_n 2, 1) := by decide +kernel
theorem dX9_mayCome_16 : decode cX9_mayCome 16 = .ok (.iload_n 1, 1) := by decide +kernel
theorem dX9_mayCome_17 : decode cX9_mayCome 17 = .ok (.ishr, 1) := by decide +kernel
theorem dX9_mayCome_18 : decode cX9_mayCome 18 = .ok (.iconst 1, 1) := by decide +kernel
theorem dX9_mayCome_19 : decode cX9_mayCome 19 = .ok (.iand, 1) := by decide +kernel
theorem dX9_mayCome_20 : decode cX9_mayCome 20 = .ok (.ifCond .ne 7, 3) := by decide +kernel
theorem dX9_mayCome_23 : decode cX9_mayCome 23 = .ok (.iconst 1, 1) := by decide +kernel
theorem dX9_mayCome_24 : decode cX9_mayCome 24 = .ok (.goto 4, 3) := by decide +kernel
theorem dX9_mayCome_27 : decode cX9_mayCome 27 = .ok (.iconst 0, 1) := by decide +kernel
theorem dX9_mayCome_28 : decode cX9_mayCome 28 = .ok (.ireturn, 1) := by decide +kernel
theorem dX9_goesOn_0 : decode cX9_goesOn 0 = .ok (.iconst 0, 1) := by decide +kernel
theorem dX9_goesOn_1 : decode cX9_goesOn 1 = .ok (.istore 5, 2) := by decide +kernel
theorem dX9_goesOn_3 : decode cX9_goesOn 3 = .ok (.iload 5, 2) := by decide +kernel
theorem dX9_goesOn_5 : decode cX9_goesOn 5 = .ok (.aload_n 0, 1) := by decide +kernel
theorem dX9_goesOn_6 : decode cX9_goesOn 6 = .ok (.getfield 211, 3) := by decide +kernel
theorem dX9_goesOn_9 : decode cX9_goesOn 9 = .ok (.if_icmp .ge 156, 3) := by decide +kernel
theorem dX9_goesOn_12 : decode cX9_goesOn 12 = .ok (.iload_n 3, 1) := by decide +kernel
theorem dX9_goesOn_13 : decode cX9_goesOn 13 = .ok (.iload 5, 2) := by decide +kernel
theorem dX9_goesOn_15 : decode cX9_goesOn 15 = .ok (.ishr, 1) := by decide +kernel
theorem dX9_goesOn_16 : decode cX9_goesOn 16 = .ok (.iconst 1, 1) := by decide +kernel
theorem dX9_goesOn_17 : decode cX9_goesOn 17 = .ok (.iand, 1) := by decide +kernel
theorem dX9_goesOn_18 : decode cX9_goesOn 18 = .ok (.iconst 1, 1) := by decide +kernel
theorem dX9_goesOn_19 : decode cX9_goesOn 19 = .ok (.if_icmp .ne 7, 3) := by decide +kernel
theorem dX9_goesOn_22 : decode cX9_goesOn 22 = .ok (.iconst (-1), 1) := by decide +kernel
theorem dX9_goesOn_23 : decode cX9_goesOn 23 = .ok (.goto 10, 3) := by decide +kernel
theorem dX9_goesOn_26 : decode cX9_goesOn 26 = .ok (.aload_n 0, 1) := by decide +kernel
theorem dX9_goesOn_27 : decode cX9_goesOn 27 = .ok (.iload 5, 2) := by decide +kernel
theorem dX9_goesOn_29 : decode cX9_goesOn 29 = .ok (.iload_n 2, 1) := by decide +kernel
theorem dX9_goesOn_30 : decode cX9_goesOn 30 = .ok (.invokevirtual 214, 3) := by decide +kernel
theorem dX9_goesOn_33 : decode cX9_goesOn 33 = .ok (.istore 6, 2) := by decide +kernel
theorem dX9_goesOn_35 : decode cX9_goesOn 35 = .ok (.iload 6, 2) := by decide +kernel
theorem dX9_goesOn_37 : decode cX9_goesOn 37 = .ok (.iconst (-1), 1) := by decide +kernel
theorem dX9_goesOn_38 : decode cX9_goesOn 38 = .ok (.if_icmp .ne 7, 3) := by decide +kernel
theorem dX9_goesOn_41 : decode cX9_goesOn 41 = .ok (.iconst 0, 1) := by decide +kernel
theorem dX9_goesOn_42 : decode cX9_goesOn 42 = .ok (.goto 15, 3) := by decide +kernel
theorem dX9_goesOn_45 : decode cX9_goesOn 45 = .ok (.aload_n 0, 1) := by decide +kernel
theorem dX9_goesOn_46 : decode cX9_goesOn 46 = .ok (.getfield 62, 3) := by decide +kernel
theorem dX9_goesOn_49 : decode cX9_goesOn 49 = .ok (.iconst 4, 1) := by decide +kernel
theorem dX9_goesOn_50 : decode cX9_goesOn 50 = .ok (.iload 5, 2) := by decide +kernel
theorem dX9_goesOn_52 : decode cX9_goesOn 52 = .ok (.imul, 1) := by decide +kernel
theorem dX9_goesOn_53 : decode cX9_goesOn 53 = .ok (.iload 6, 2) := by decide +kernel
theorem dX9_goesOn_55 : decode cX9_goesOn 55 = .ok (.iadd, 1) := by decide +kernel
theorem dX9_goesOn_56 : decode cX9_goesOn 56 = .ok (.iaload, 1) := by decide +kernel
theorem dX9_goesOn_57 : decode cX9_goesOn 57 = .ok (.istore 7, 2) := by decide +kernel
theorem dX9_goesOn_59 : decode cX9_goesOn 59 = .ok (.iload 7, 2) := by decide +kernel
theorem dX9_goesOn_61 : decode cX9_goesOn 61 = .ok (.ifCond .le 98, 3) := by decide +kernel
theorem dX9_goesOn_64 : decode cX9_goesOn 64 = .ok (.aload_n 0, 1) := by decide +kernel
theorem dX9_goesOn_65 : decode cX9_goesOn 65 = .ok (.aload_n 0, 1) := by decide +kernel
theorem dX9_goesOn_66 : decode cX9_goesOn 66 = .ok (.iload 5, 2) := by decide +kernel
theorem dX9_goesOn_68 : decode cX9_goesOn 68 = .ok (.iload 6, 2) := by decide +kernel
theorem dX9_goesOn_70 : decode cX9_goesOn 70 = .ok (.invokevirtual 217, 3) := by decide +kernel
theorem dX9_goesOn_73 : decode cX9_goesOn 73 = .ok (.iload 4, 2) := by decide +kernel
theorem dX9_goesOn_75 : decode cX9_goesOn 75 = .ok (.invokevirtual 220, 3) := by decide +kernel
theorem dX9_goesOn_78 : decode cX9_goesOn 78 = .ok (.ifCond .eq 81, 3) := by decide +kernel
theorem dX9_goesOn_81 : decode cX9_goesOn 81 = .ok (.bipush 9, 2) := by decide +kernel
theorem dX9_goesOn_83 : decode cX9_goesOn 83 = .ok (.iload_n 1, 1) := by decide +kernel
theorem dX9_goesOn_84 : decode cX9_goesOn 84 = .ok (.iconst 1, 1) := by decide +kernel
theorem dX9_goesOn_85 : decode cX9_goesOn 85 = .ok (.iload 5, 2) := by decide +kernel
theorem dX9_goesOn_87 : decode cX9_goesOn 87 = .ok (.ishl, 1) := by decide +kernel
theorem dX9_goesOn_88 : decode cX9_goesOn 88 = .ok (.ior, 1) := by decide +kernel
theorem dX9_goesOn_89 : decode cX9_goesOn 89 = .ok (.imul, 1) := by decide +kernel
theorem dX9_goesOn_90 : decode cX9_goesOn 90 = .ok (.aload_n 0, 1) := by decide +kernel
theorem dX9_goesOn_91 : decode cX9_goesOn 91 = .ok (.iload 5, 2) := by decide +kernel
theorem dX9_goesOn_93 : decode cX9_goesOn 93 = .ok (.iload 6, 2) := by decide +kernel
theorem dX9_goesOn_95 : decode cX9_goesOn 95 = .ok (.invokevirtual 217, 3) := by decide +kernel
theorem dX9_goesOn_98 : decode cX9_goesOn 98 = .ok (.iadd, 1) := by decide +kernel
theorem dX9_goesOn_99 : decode cX9_goesOn 99 = .ok (.istore 8, 2) := by decide +kernel
theorem dX9_goesOn_101 : decode cX9_goesOn 101 = .ok (.aload_n 0, 1) := by decide +kernel
theorem dX9_goesOn_102 : decode cX9_goesOn 102 = .ok (.getfield 69, 3) := by decide +kernel
theorem dX9_goesOn_105 : decode cX9_goesOn 105 = .ok (.bipush 9, 2) := by decide +kernel
theorem dX9_goesOn_107 : decode cX9_goesOn 107 = .ok (.iload_n 1, 1) := by decide +kernel
theorem dX9_goesOn_108 : decode cX9_goesOn 108 = .ok (.imul, 1) := by decide +kernel
theorem dX9_goesOn_109 : decode cX9_goesOn 109 = .ok (.iload_n 2, 1) := by decide +kernel
theorem dX9_goesOn_110 : decode cX9_goesOn 110 = .ok (.iadd, 1) := by decide +kernel
theorem dX9_goesOn_111 : decode cX9_goesOn 111 = .ok (.iaload, 1) := by decide +kernel
theorem dX9_goesOn_112 : decode cX9_goesOn 112 = .ok (.iload 7, 2) := by decide +kernel
theorem dX9_goesOn_114 : decode cX9_goesOn 114 = .ok (.iadd, 1) := by decide +kernel
theorem dX9_goesOn_115 : decode cX9_goesOn 115 = .ok (.istore 9, 2) := by decide +kernel
theorem dX9_goesOn_117 : decode cX9_goesOn 117 = .ok (.aload_n 0, 1) := by decide +kernel
theorem dX9_goesOn_118 : decode cX9_goesOn 118 = .ok (.getfield 69, 3) := by decide +kernel
theorem dX9_goesOn_121 : decode cX9_goesOn 121 = .ok (.iload 8, 2) := by decide +kernel
theorem dX9_goesOn_123 : decode cX9_goesOn 123 = .ok (.aload_n 0, 1) := by decide +kernel
theorem dX9_goesOn_124 : decode cX9_goesOn 124 = .ok (.getfield 69, 3) := by decide +kernel
theorem dX9_goesOn_127 : decode cX9_goesOn 127 = .ok (.iload 8, 2) := by decide +kernel
theorem dX9_goesOn_129 : decode cX9_goesOn 129 = .ok (.iaload, 1) := by decide +kernel
theorem dX9_goesOn_130 : decode cX9_goesOn 130 = .ok (.iconst (-1), 1) := by decide +kernel
theorem dX9_goesOn_131 : decode cX9_goesOn 131 = .ok (.if_icmp .eq 15, 3) := by decide +kernel
theorem dX9_goesOn_134 : decode cX9_goesOn 134 = .ok (.iload 9, 2) := by decide +kernel
theorem dX9_goesOn_136 : decode cX9_goesOn 136 = .ok (.aload_n 0, 1) := by decide +kernel
theorem dX9_goesOn_137 : decode cX9_goesOn 137 = .ok (.getfield 69, 3) := by decide +kernel
theorem dX9_goesOn_140 : decode cX9_goesOn 140 = .ok (.iload 8, 2) := by decide +kernel
theorem dX9_goesOn_142 : decode cX9_goesOn 142 = .ok (.iaload, 1) := by decide +kernel
theorem dX9_goesOn_143 : decode cX9_goesOn 143 = .ok (.if_icmp .ge 8, 3) := by decide +kernel
theorem dX9_goesOn_146 : decode cX9_goesOn 146 = .ok (.iload 9, 2) := by decide +kernel
theorem dX9_goesOn_148 : decode cX9_goesOn 148 = .ok (.goto 10, 3) := by decide +kernel
theorem dX9_goesOn_151 : decode cX9_goesOn 151 = .ok (.aload_n 0, 1) := by decide +kernel
theorem dX9_goesOn_152 : decode cX9_goesOn 152 = .ok (.getfield 69, 3) := by decide +kernel
theorem dX9_goesOn_155 : decode cX9_goesOn 155 = .ok (.iload 8, 2) := by decide +kernel
theorem dX9_goesOn_157 : decode cX9_goesOn 157 = .ok (.iaload, 1) := by decide +kernel
theorem dX9_goesOn_158 : decode cX9_goesOn 158 = .ok (.iastore, 1) := by decide +kernel
theorem dX9_goesOn_159 : decode cX9_goesOn 159 = .ok (.iinc 5 1, 3) := by decide +kernel
theorem dX9_goesOn_162 : decode cX9_goesOn 162 = .ok (.goto (-159), 3) := by decide +kernel
theorem dX9_goesOn_165 : decode cX9_goesOn 165 = .ok (.return_, 1) := by decide +kernel
theorem dX9_forward_0 : decode cX9_forward 0 = .ok (.iconst 0, 1) := by decide +kernel
theorem dX9_forward_1 : decode cX9_forward 1 = .ok (.istore_n 1, 1) := by decide +kernel
theorem dX9_forward_2 : decode cX9_forward 2 = .ok (.iload_n 1, 1) := by decide +kernel
theorem dX9_forward_3 : decode cX9_forward 3 = .ok (.bipush 9, 2) := by decide +kernel
theorem dX9_forward_5 : decode cX9_forward 5 = .ok (.aload_n 0, 1) := by decide +kernel
theorem dX9_forward_6 : decode cX9_forward 6 = .ok (.getfield 211, 3) := by decide +kernel
theorem dX9_forward_9 : decode cX9_forward 9 = .ok (.ishl, 1) := by decide +kernel
theorem dX9_forward_10 : decode cX9_forward 10 = .ok (.if_icmp .ge 16, 3) := by decide +kernel
theorem dX9_forward_13 : decode cX9_forward 13 = .ok (.aload_n 0, 1) := by decide +kernel
theorem dX9_forward_14 : decode cX9_forward 14 = .ok (.getfield 69, 3) := by decide +kernel
theorem dX9_forward_17 : decode cX9_forward 17 = .ok (.iload_n 1, 1) := by decide +kernel
theorem dX9_forward_18 : decode cX9_forward 18 = .ok (.iconst (-1), 1) := by decide +kernel
theorem dX9_forward_19 : decode cX9_forward 19 = .ok (.iastore, 1) := by decide +kernel
theorem dX9_forward_20 : decode cX9_forward 20 = .ok (.iinc 1 1, 3) := by decide +kernel
theorem dX9_forward_23 : decode cX9_forward 23 = .ok (.goto (-21), 3) := by decide +kernel
theorem dX9_forward_26 : decode cX9_forward 26 = .ok (.aload_n 0, 1) := by decide +kernel
theorem dX9_forward_27 : decode cX9_forward 27 = .ok (.getfield 69, 3) := by decide +kernel
theorem dX9_forward_30 : decode cX9_forward 30 = .ok (.aload_n 0, 1) := by decide +kernel
theorem dX9_forward_31 : decode cX9_forward 31 = .ok (.getfield 99, 3) := by decide +kernel
theorem dX9_forward_34 : decode cX9_forward 34 = .ok (.iconst 0, 1) := by decide +kernel
theorem dX9_forward_35 : decode cX9_forward 35 = .ok (.iastore, 1) := by decide +kernel
theorem dX9_forward_36 : decode cX9_forward 36 = .ok (.iconst 0, 1) := by decide +kernel
theorem dX9_forward_37 : decode cX9_forward 37 = .ok (.istore_n 1, 1) := by decide +kernel
theorem dX9_forward_38 : decode cX9_forward 38 = .ok (.iload_n 1, 1) := by decide +kernel
theorem dX9_forward_39 : decode cX9_forward 39 = .ok (.iconst 1, 1) := by decide +kernel
theorem dX9_forward_40 : decode cX9_forward 40 = .ok (.aload_n 0, 1) := by decide +kernel
theorem dX9_forward_41 : decode cX9_forward 41 = .ok (.getfield 211, 3) := by decide +kernel
theorem dX9_forward_44 : decode cX9_forward 44 = .ok (.ishl, 1) := by decide +kernel
theorem dX9_forward_45 : decode cX9_forward 45 = .ok (.if_icmp .ge 95, 3) := by decide +kernel
theorem dX9_forward_48 : decode cX9_forward 48 = .ok (.aload_n 0, 1) := by decide +kernel
theorem dX9_forward_49 : decode cX9_forward 49 = .ok (.iload_n 1, 1) := by decide +kernel
theorem dX9_forward_50 : decode cX9_forward 50 = .ok (.invokevirtual 224, 3) := by decide +kernel
theorem dX9_forward_53 : decode cX9_forward 53 = .ok (.istore_n 2, 1) := by decide +kernel
theorem dX9_forward_54 : decode cX9_forward 54 = .ok (.aload_n 0, 1) := by decide +kernel
theorem dX9_forward_55 : decode cX9_forward 55 = .ok (.iload_n 1, 1) := by decide +kernel
theorem dX9_forward_56 : decode cX9_forward 56 = .ok (.invokevirtual 227, 3) := by decide +kernel
theorem dX9_forward_59 : decode cX9_forward 59 = .ok (.istore_n 3, 1) := by decide +kernel
theorem dX9_forward_60 : decode cX9_forward 60 = .ok (.iconst 0, 1) := by decide +kernel
theorem dX9_forward_61 : decode cX9_forward 61 = .ok (.istore 4, 2) := by decide +kernel
theorem dX9_forward_63 : decode cX9_forward 63 = .ok (.iload 4, 2) := by decide +kernel
theorem dX9_forward_65 : decode cX9_forward 65 = .ok (.bipush 9, 2) := by decide +kernel
theorem dX9_forward_67 : decode cX9_forward 67 = .ok (.if_icmp .ge 67, 3) := by decide +kernel
theorem dX9_forward_70 : decode cX9_forward 70 = .ok (.aload_n 0, 1) := by decide +kernel
theorem dX9_forward_71 : decode cX9_forward 71 = .ok (.getfield 102, 3) := by decide +kernel
theorem dX9_forward_74 : decode cX9_forward 74 = .ok (.iconst 1, 1) := by decide +kernel
theorem dX9_forward_75 : decode cX9_forward 75 = .ok (.if_icmp .ne 20, 3) := by decide +kernel
theorem dX9_forward_78 : decode cX9_forward 78 = .ok (.iload_n 1, 1) := by decide +kernel
theorem dX9_forward_79 : decode cX9_forward 79 = .ok (.ifCond .eq 16, 3) := by decide +kernel
theorem dX9_forward_82 : decode cX9_forward 82 = .ok (.iload 4, 2) := by decide +kernel
theorem dX9_forward_84 : decode cX9_forward 84 = .ok (.aload_n 0, 1) := by decide +kernel
theorem dX9_forward_85 : decode cX9_forward 85 = .ok (.getfield 99, 3) := by decide +kernel
theorem dX9_forward_88 : decode cX9_forward 88 = .ok (.if_icmp .ne 7, 3) := by decide +kernel
theorem dX9_forward_91 : decode cX9_forward 91 = .ok (.iconst 1, 1) := by decide +kernel
theorem dX9_forward_92 : decode cX9_forward 92 = .ok (.goto 4, 3) := by decide +kernel
theorem dX9_forward_95 : decode cX9_forward 95 = .ok (.iconst 0, 1) := by decide +kernel
theorem dX9_forward_96 : decode cX9_forward 96 = .ok (.istore 5, 2) := by decide +kernel
theorem dX9_forward_98 : decode cX9_forward 98 = .ok (.aload_n 0, 1) := by decide +kernel
theorem dX9_forward_99 : decode cX9_forward 99 = .ok (.getfield 69, 3) := by decide +kernel
theorem dX9_forward_102 : decode cX9_forward 102 = .ok (.bipush 9, 2) := by decide +kernel
theorem dX9_forward_104 : decode cX9_forward 104 = .ok (.iload_n 1, 1) := by decide +kernel
theorem dX9_forward_105 : decode cX9_forward 105 = .ok (.imul, 1) := by decide +kernel
theorem dX9_forward_106 : decode cX9_forward 106 = .ok (.iload 4, 2) := by decide +kernel
theorem dX9_forward_108 : decode cX9_forward 108 = .ok (.iadd, 1) := by decide +kernel
theorem dX9_forward_109 : decode cX9_forward 109 = .ok (.iaload, 1) := by decide +kernel
theorem dX9_forward_110 : decode cX9_forward 110 = .ok (.iconst (-1), 1) := by decide +kernel
theorem dX9_forward_111 : decode cX9_forward 111 = .ok (.if_icmp .eq 17, 3) := by decide +kernel
theorem dX9_forward_114 : decode cX9_forward 114 = .ok (.iload 5, 2) := by decide +kernel
theorem dX9_forward_116 : decode cX9_forward 116 = .ok (.ifCond .ne 12, 3) := by decide +kernel
theorem dX9_forward_119 : decode cX9_forward 119 = .ok (.aload_n 0, 1) := by decide +kernel
theorem dX9_forward_120 : decode cX9_forward 120 = .ok (.iload_n 1, 1) := by decide +kernel
theorem dX9_forward_121 : decode cX9_forward 121 = .ok (.iload 4, 2) := by decide +kernel
theorem dX9_forward_123 : decode cX9_forward 123 = .ok (.iload_n 2, 1) := by decide +kernel
theorem dX9_forward_124 : decode cX9_forward 124 = .ok (.iload_n 3, 1) := by decide +kernel
theorem dX9_forward_125 : decode cX9_forward 125 = .ok (.invokevirtual 230, 3) := by decide +kernel
theorem dX9_forward_128 : decode cX9_forward 128 = .ok (.iinc 4 1, 3) := by decide +kernel
theorem dX9_forward_131 : decode cX9_forward 131 = .ok (.goto (-68), 3) := by decide +kernel
theorem dX9_forward_134 : decode cX9_forward 134 = .ok (.iinc 1 1, 3) := by decide +kernel
theorem dX9_forward_137 : decode cX9_forward 137 = .ok (.goto (-99), 3) := by decide +kernel
theorem dX9_forward_140 : decode cX9_forward 140 = .ok (.return_, 1) := by decide +kernel
theorem dX9_ringed_0 : decode cX9_ringed 0 = .ok (.iconst 0, 1) := by decide +kernel
theorem dX9_ringed_1 : decode cX9_ringed 1 = .ok (.istore_n 2, 1) := by decide +kernel
theorem dX9_ringed_2 : decode cX9_ringed 2 = .ok (.iconst 1, 1) := by decide +kernel
theorem dX9_ringed_3 : decode cX9_ringed 3 = .ok (.istore_n 3, 1) := by decide +kernel
theorem dX9_ringed_4 : decode cX9_ringed 4 = .ok (.iload_n 3, 1) := by decide +kernel
theorem dX9_ringed_5 : decode cX9_ringed 5 = .ok (.iconst 1, 1) := by decide +kernel
theorem dX9_ringed_6 : decode cX9_ringed 6 = .ok (.aload_n 0, 1) := by decide +kernel
theorem dX9_ringed_7 : decode cX9_ringed 7 = .ok (.getfield 211, 3) := by decide +kernel
theorem dX9_ringed_10 : decode cX9_ringed 10 = .ok (.ishl, 1) := by decide +kernel
theorem dX9_ringed_11 : decode cX9_ringed 11 = .ok (.if_icmp .ge 45, 3) := by decide +kernel
theorem dX9_ringed_14 : decode cX9_ringed 14 = .ok (.iload_n 2, 1) := by decide +kernel
theorem dX9_ringed_15 : decode cX9_ringed 15 = .ok (.iload_n 3, 1) := by decide +kernel
theorem dX9_ringed_16 : decode cX9_ringed 16 = .ok (.iload_n 1, 1) := by decide +kernel
theorem dX9_ringed_17 : decode cX9_ringed 17 = .ok (.iand, 1) := by decide +kernel
theorem dX9_ringed_18 : decode cX9_ringed 18 = .ok (.ifCond .ne 29, 3) := by decide +kernel
theorem dX9_ringed_21 : decode cX9_ringed 21 = .ok (.aload_n 0, 1) := by decide +kernel
theorem dX9_ringed_22 : decode cX9_ringed 22 = .ok (.getfield 69, 3) := by decide +kernel
theorem dX9_ringed_25 : decode cX9_ringed 25 = .ok (.bipush 9, 2) := by decide +kernel
theorem dX9_ringed_27 : decode cX9_ringed 27 = .ok (.iload_n 3, 1) := by decide +kernel
theorem dX9_ringed_28 : decode cX9_ringed 28 = .ok (.imul, 1) := by decide +kernel
theorem dX9_ringed_29 : decode cX9_ringed 29 = .ok (.aload_n 0, 1) := by decide +kernel
theorem dX9_ringed_30 : decode cX9_ringed 30 = .ok (.getfield 99, 3) := by decide +kernel
theorem dX9_ringed_33 : decode cX9_ringed 33 = .ok (.iadd, 1) := by decide +kernel
theorem dX9_ringed_34 : decode cX9_ringed 34 = .ok (.iaload, 1) := by decide +kernel
theorem dX9_ringed_35 : decode cX9_ringed 35 = .ok (.iconst (-1), 1) := by decide +kernel
theorem dX9_ringed_36 : decode cX9_ringed 36 = .ok (.if_icmp .eq 11, 3) := by decide +kernel
theorem dX9_ringed_39 : decode cX9_ringed 39 = .ok (.aload_n 0, 1) := by decide +kernel
theorem dX9_ringed_40 : decode cX9_ringed 40 = .ok (.iload_n 3, 1) := by decide +kernel
theorem dX9_ringed_41 : decode cX9_ringed 41 = .ok (.invokevirtual 227, 3) := by decide +kernel
theorem dX9_ringed_44 : decode cX9_ringed 44 = .ok (.goto 4, 3) := by decide +kernel
theorem dX9_ringed_47 : decode cX9_ringed 47 = .ok (.iconst 0, 1) := by decide +kernel
theorem dX9_ringed_48 : decode cX9_ringed 48 = .ok (.ior, 1) := by decide +kernel
theorem dX9_ringed_49 : decode cX9_ringed 49 = .ok (.istore_n 2, 1) := by decide +kernel
theorem dX9_ringed_50 : decode cX9_ringed 50 = .ok (.iinc 3 1, 3) := by decide +kernel
theorem dX9_ringed_53 : decode cX9_ringed 53 = .ok (.goto (-49), 3) := by decide +kernel
theorem dX9_ringed_56 : decode cX9_ringed 56 = .ok (.iload_n 2, 1) := by decide +kernel
theorem dX9_ringed_57 : decode cX9_ringed 57 = .ok (.iconst 1, 1) := by decide +kernel
theorem dX9_ringed_58 : decode cX9_ringed 58 = .ok (.aload_n 0, 1) := by decide +kernel
theorem dX9_ringed_59 : decode cX9_ringed 59 = .ok (.getfield 99, 3) := by decide +kernel
theorem dX9_ringed_62 : decode cX9_ringed 62 = .ok (.ishl, 1) := by decide +kernel
theorem dX9_ringed_63 : decode cX9_ringed 63 = .ok (.iconst (-1), 1) := by decide +kernel
theorem dX9_ringed_64 : decode cX9_ringed 64 = .ok (.ixor, 1) := by decide +kernel
theorem dX9_ringed_65 : decode cX9_ringed 65 = .ok (.iand, 1) := by decide +kernel
theorem dX9_ringed_66 : decode cX9_ringed 66 = .ok (.ireturn, 1) := by decide +kernel
theorem dX9_fewest_0 : decode cX9_fewest 0 = .ok (.iconst (-1), 1) := by decide +kernel
theorem dX9_fewest_1 : decode cX9_fewest 1 = .ok (.istore_n 2, 1) := by decide +kernel
theorem dX9_fewest_2 : decode cX9_fewest 2 = .ok (.iconst 1, 1) := by decide +kernel
theorem dX9_fewest_3 : decode cX9_fewest 3 = .ok (.istore_n 3, 1) := by decide +kernel
theorem dX9_fewest_4 : decode cX9_fewest 4 = .ok (.iload_n 3, 1) := by decide +kernel
theorem dX9_fewest_5 : decode cX9_fewest 5 = .ok (.iconst 1, 1) := by decide +kernel
theorem dX9_fewest_6 : decode cX9_fewest 6 = .ok (.aload_n 0, 1) := by decide +kernel
theorem dX9_fewest_7 : decode cX9_fewest 7 = .ok (.getfield 211, 3) := by decide +kernel
theorem dX9_fewest_10 : decode cX9_fewest 10 = .ok (.ishl, 1) := by decide +kernel
theorem dX9_fewest_11 : decode cX9_fewest 11 = .ok (.if_icmp .ge 72, 3) := by decide +kernel
theorem dX9_fewest_14 : decode cX9_fewest 14 = .ok (.aload_n 0, 1) := by decide +kernel
theorem dX9_fewest_15 : decode cX9_fewest 15 = .ok (.getfield 69, 3) := by decide +kernel
theorem dX9_fewest_18 : decode cX9_fewest 18 = .ok (.bipush 9, 2) := by decide +kernel
theorem dX9_fewest_20 : decode cX9_fewest 20 = .ok (.iload_n 3, 1) := by decide +kernel
theorem dX9_fewest_21 : decode cX9_fewest 21 = .ok (.imul, 1) := by decide +kernel
theorem dX9_fewest_22 : decode cX9_fewest 22 = .ok (.aload_n 0, 1) := by decide +kernel
theorem dX9_fewest_23 : decode cX9_fewest 23 = .ok (.getfield 99, 3) := by decide +kernel
theorem dX9_fewest_26 : decode cX9_fewest 26 = .ok (.iadd, 1) := by decide +kernel
theorem dX9_fewest_27 : decode cX9_fewest 27 = .ok (.iaload, 1) := by decide +kernel
theorem dX9_fewest_28 : decode cX9_fewest 28 = .ok (.istore 4, 2) := by decide +kernel
theorem dX9_fewest_30 : decode cX9_fewest 30 = .ok (.iload 4, 2) := by decide +kernel
theorem dX9_fewest_32 : decode cX9_fewest 32 = .ok (.iconst (-1), 1) := by decide +kernel
theorem dX9_fewest_33 : decode cX9_fewest 33 = .ok (.if_icmp .eq 18, 3) := by decide +kernel
theorem dX9_fewest_36 : decode cX9_fewest 36 = .ok (.aload_n 0, 1) := by decide +kernel
theorem dX9_fewest_37 : decode cX9_fewest 37 = .ok (.iload_n 3, 1) := by decide +kernel
theorem dX9_fewest_38 : decode cX9_fewest 38 = .ok (.invokevirtual 227, 3) := by decide +kernel
theorem dX9_fewest_41 : decode cX9_fewest 41 = .ok (.iload_n 1, 1) := by decide +kernel
theorem dX9_fewest_42 : decode cX9_fewest 42 = .ok (.iand, 1) := by decide +kernel
theorem dX9_fewest_43 : decode cX9_fewest 43 = .ok (.iload_n 1, 1) := by decide +kernel
theorem dX9_fewest_44 : decode cX9_fewest 44 = .ok (.if_icmp .ne 7, 3) := by decide +kernel
theorem dX9_fewest_47 : decode cX9_fewest 47 = .ok (.iconst 1, 1) := by decide +kernel
theorem dX9_fewest_48 : decode cX9_fewest 48 = .ok (.goto 4, 3) := by decide +kernel
theorem dX9_fewest_51 : decode cX9_fewest 51 = .ok (.iconst 0, 1) := by decide +kernel
theorem dX9_fewest_52 : decode cX9_fewest 52 = .ok (.istore 5, 2) := by decide +kernel
theorem dX9_fewest_54 : decode cX9_fewest 54 = .ok (.iload 5, 2) := by decide +kernel
theorem dX9_fewest_56 : decode cX9_fewest 56 = .ok (.ifCond .eq 19, 3) := by decide +kernel
theorem dX9_fewest_59 : decode cX9_fewest 59 = .ok (.iload_n 2, 1) := by decide +kernel
theorem dX9_fewest_60 : decode cX9_fewest 60 = .ok (.iconst (-1), 1) := by decide +kernel
