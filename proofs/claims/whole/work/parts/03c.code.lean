theorem dX11_init_0 : decode cX11_init 0 = .ok (.aload_n 0, 1) := by decide +kernel
theorem dX11_init_1 : decode cX11_init 1 = .ok (.invokespecial 1, 3) := by decide +kernel
theorem dX11_init_4 : decode cX11_init 4 = .ok (.aload_n 0, 1) := by decide +kernel
theorem dX11_init_5 : decode cX11_init 5 = .ok (.bipush 6, 2) := by decide +kernel
theorem dX11_init_7 : decode cX11_init 7 = .ok (.newarray .int, 2) := by decide +kernel
theorem dX11_init_9 : decode cX11_init 9 = .ok (.putfield 7, 3) := by decide +kernel
theorem dX11_init_12 : decode cX11_init 12 = .ok (.aload_n 0, 1) := by decide +kernel
theorem dX11_init_13 : decode cX11_init 13 = .ok (.bipush 6, 2) := by decide +kernel
theorem dX11_init_15 : decode cX11_init 15 = .ok (.newarray .int, 2) := by decide +kernel
theorem dX11_init_17 : decode cX11_init 17 = .ok (.putfield 13, 3) := by decide +kernel
theorem dX11_init_20 : decode cX11_init 20 = .ok (.aload_n 0, 1) := by decide +kernel
theorem dX11_init_21 : decode cX11_init 21 = .ok (.bipush 6, 2) := by decide +kernel
theorem dX11_init_23 : decode cX11_init 23 = .ok (.newarray .int, 2) := by decide +kernel
theorem dX11_init_25 : decode cX11_init 25 = .ok (.putfield 16, 3) := by decide +kernel
theorem dX11_init_28 : decode cX11_init 28 = .ok (.aload_n 0, 1) := by decide +kernel
theorem dX11_init_29 : decode cX11_init 29 = .ok (.bipush 9, 2) := by decide +kernel
theorem dX11_init_31 : decode cX11_init 31 = .ok (.newarray .int, 2) := by decide +kernel
theorem dX11_init_33 : decode cX11_init 33 = .ok (.putfield 19, 3) := by decide +kernel
theorem dX11_init_36 : decode cX11_init 36 = .ok (.aload_n 0, 1) := by decide +kernel
theorem dX11_init_37 : decode cX11_init 37 = .ok (.bipush 54, 2) := by decide +kernel
theorem dX11_init_39 : decode cX11_init 39 = .ok (.newarray .int, 2) := by decide +kernel
theorem dX11_init_41 : decode cX11_init 41 = .ok (.putfield 22, 3) := by decide +kernel
theorem dX11_init_44 : decode cX11_init 44 = .ok (.aload_n 0, 1) := by decide +kernel
theorem dX11_init_45 : decode cX11_init 45 = .ok (.sipush 160, 3) := by decide +kernel
theorem dX11_init_48 : decode cX11_init 48 = .ok (.newarray .int, 2) := by decide +kernel
theorem dX11_init_50 : decode cX11_init 50 = .ok (.putfield 25, 3) := by decide +kernel
theorem dX11_init_53 : decode cX11_init 53 = .ok (.aload_n 0, 1) := by decide +kernel
theorem dX11_init_54 : decode cX11_init 54 = .ok (.bipush 6, 2) := by decide +kernel
theorem dX11_init_56 : decode cX11_init 56 = .ok (.newarray .int, 2) := by decide +kernel
theorem dX11_init_58 : decode cX11_init 58 = .ok (.putfield 28, 3) := by decide +kernel
theorem dX11_init_61 : decode cX11_init 61 = .ok (.aload_n 0, 1) := by decide +kernel
theorem dX11_init_62 : decode cX11_init 62 = .ok (.bipush 36, 2) := by decide +kernel
theorem dX11_init_64 : decode cX11_init 64 = .ok (.newarray .int, 2) := by decide +kernel
theorem dX11_init_66 : decode cX11_init 66 = .ok (.putfield 31, 3) := by decide +kernel
theorem dX11_init_69 : decode cX11_init 69 = .ok (.aload_n 0, 1) := by decide +kernel
theorem dX11_init_70 : decode cX11_init 70 = .ok (.bipush 6, 2) := by decide +kernel
theorem dX11_init_72 : decode cX11_init 72 = .ok (.newarray .int, 2) := by decide +kernel
theorem dX11_init_74 : decode cX11_init 74 = .ok (.putfield 34, 3) := by decide +kernel
theorem dX11_init_77 : decode cX11_init 77 = .ok (.aload_n 0, 1) := by decide +kernel
theorem dX11_init_78 : decode cX11_init 78 = .ok (.bipush 24, 2) := by decide +kernel
theorem dX11_init_80 : decode cX11_init 80 = .ok (.newarray .int, 2) := by decide +kernel
theorem dX11_init_82 : decode cX11_init 82 = .ok (.putfield 37, 3) := by decide +kernel
theorem dX11_init_85 : decode cX11_init 85 = .ok (.aload_n 0, 1) := by decide +kernel
theorem dX11_init_86 : decode cX11_init 86 = .ok (.bipush 24, 2) := by decide +kernel
theorem dX11_init_88 : decode cX11_init 88 = .ok (.newarray .int, 2) := by decide +kernel
theorem dX11_init_90 : decode cX11_init 90 = .ok (.putfield 40, 3) := by decide +kernel
theorem dX11_init_93 : decode cX11_init 93 = .ok (.aload_n 0, 1) := by decide +kernel
theorem dX11_init_94 : decode cX11_init 94 = .ok (.bipush 24, 2) := by decide +kernel
theorem dX11_init_96 : decode cX11_init 96 = .ok (.newarray .int, 2) := by decide +kernel
theorem dX11_init_98 : decode cX11_init 98 = .ok (.putfield 43, 3) := by decide +kernel
theorem dX11_init_101 : decode cX11_init 101 = .ok (.aload_n 0, 1) := by decide +kernel
theorem dX11_init_102 : decode cX11_init 102 = .ok (.bipush 6, 2) := by decide +kernel
theorem dX11_init_104 : decode cX11_init 104 = .ok (.newarray .int, 2) := by decide +kernel
theorem dX11_init_106 : decode cX11_init 106 = .ok (.putfield 46, 3) := by decide +kernel
theorem dX11_init_109 : decode cX11_init 109 = .ok (.aload_n 0, 1) := by decide +kernel
theorem dX11_init_110 : decode cX11_init 110 = .ok (.bipush 11, 2) := by decide +kernel
theorem dX11_init_112 : decode cX11_init 112 = .ok (.newarray .int, 2) := by decide +kernel
theorem dX11_init_114 : decode cX11_init 114 = .ok (.dup, 1) := by decide +kernel
theorem dX11_init_115 : decode cX11_init 115 = .ok (.iconst 0, 1) := by decide +kernel
theorem dX11_init_116 : decode cX11_init 116 = .ok (.iconst 0, 1) := by decide +kernel
theorem dX11_init_117 : decode cX11_init 117 = .ok (.iastore, 1) := by decide +kernel
theorem dX11_init_118 : decode cX11_init 118 = .ok (.dup, 1) := by decide +kernel
theorem dX11_init_119 : decode cX11_init 119 = .ok (.iconst 1, 1) := by decide +kernel
theorem dX11_init_120 : decode cX11_init 120 = .ok (.iconst 5, 1) := by decide +kernel
theorem dX11_init_121 : decode cX11_init 121 = .ok (.iastore, 1) := by decide +kernel
theorem dX11_init_122 : decode cX11_init 122 = .ok (.dup, 1) := by decide +kernel
theorem dX11_init_123 : decode cX11_init 123 = .ok (.iconst 2, 1) := by decide +kernel
theorem dX11_init_124 : decode cX11_init 124 = .ok (.bipush 9, 2) := by decide +kernel
theorem dX11_init_126 : decode cX11_init 126 = .ok (.iastore, 1) := by decide +kernel
theorem dX11_init_127 : decode cX11_init 127 = .ok (.dup, 1) := by decide +kernel
theorem dX11_init_128 : decode cX11_init 128 = .ok (.iconst 3, 1) := by decide +kernel
theorem dX11_init_129 : decode cX11_init 129 = .ok (.bipush 13, 2) := by decide +kernel
theorem dX11_init_131 : decode cX11_init 131 = .ok (.iastore, 1) := by decide +kernel
theorem dX11_init_132 : decode cX11_init 132 = .ok (.dup, 1) := by decide +kernel
theorem dX11_init_133 : decode cX11_init 133 = .ok (.iconst 4, 1) := by decide +kernel
theorem dX11_init_134 : decode cX11_init 134 = .ok (.bipush 17, 2) := by decide +kernel
theorem dX11_init_136 : decode cX11_init 136 = .ok (.iastore, 1) := by decide +kernel
theorem dX11_init_137 : decode cX11_init 137 = .ok (.dup, 1) := by decide +kernel
theorem dX11_init_138 : decode cX11_init 138 = .ok (.iconst 5, 1) := by decide +kernel
theorem dX11_init_139 : decode cX11_init 139 = .ok (.bipush 21, 2) := by decide +kernel
theorem dX11_init_141 : decode cX11_init 141 = .ok (.iastore, 1) := by decide +kernel
theorem dX11_init_142 : decode cX11_init 142 = .ok (.dup, 1) := by decide +kernel
theorem dX11_init_143 : decode cX11_init 143 = .ok (.bipush 6, 2) := by decide +kernel
theorem dX11_init_145 : decode cX11_init 145 = .ok (.bipush 27, 2) := by decide +kernel
theorem dX11_init_147 : decode cX11_init 147 = .ok (.iastore, 1) := by decide +kernel
theorem dX11_init_148 : decode cX11_init 148 = .ok (.dup, 1) := by decide +kernel
theorem dX11_init_149 : decode cX11_init 149 = .ok (.bipush 7, 2) := by decide +kernel
theorem dX11_init_151 : decode cX11_init 151 = .ok (.bipush 29, 2) := by decide +kernel
theorem dX11_init_153 : decode cX11_init 153 = .ok (.iastore, 1) := by decide +kernel
theorem dX11_init_154 : decode cX11_init 154 = .ok (.dup, 1) := by decide +kernel
theorem dX11_init_155 : decode cX11_init 155 = .ok (.bipush 8, 2) := by decide +kernel
theorem dX11_init_157 : decode cX11_init 157 = .ok (.bipush 31, 2) := by decide +kernel
theorem dX11_init_159 : decode cX11_init 159 = .ok (.iastore, 1) := by decide +kernel
theorem dX11_init_160 : decode cX11_init 160 = .ok (.dup, 1) := by decide +kernel
theorem dX11_init_161 : decode cX11_init 161 = .ok (.bipush 9, 2) := by decide +kernel
theorem dX11_init_163 : decode cX11_init 163 = .ok (.bipush 34, 2) := by decide +kernel
theorem dX11_init_165 : decode cX11_init 165 = .ok (.iastore, 1) := by decide +kernel
theorem dX11_init_166 : decode cX11_init 166 = .ok (.dup, 1) := by decide +kernel
theorem dX11_init_167 : decode cX11_init 167 = .ok (.bipush 10, 2) := by decide +kernel
theorem dX11_init_169 : decode cX11_init 169 = .ok (.bipush 38, 2) := by decide +kernel
theorem dX11_init_171 : decode cX11_init 171 = .ok (.iastore, 1) := by decide +kernel
theorem dX11_init_172 : decode cX11_init 172 = .ok (.putfield 49, 3) := by decide +kernel
theorem dX11_init_175 : decode cX11_init 175 = .ok (.aload_n 0, 1) := by decide +kernel
theorem dX11_init_176 : decode cX11_init 176 = .ok (.bipush 38, 2) := by decide +kernel
theorem dX11_init_178 : decode cX11_init 178 = .ok (.newarray .int, 2) := by decide +kernel
theorem dX11_init_180 : decode cX11_init 180 = .ok (.dup, 1) := by decide +kernel
theorem dX11_init_181 : decode cX11_init 181 = .ok (.iconst 0, 1) := by decide +kernel
theorem dX11_init_182 : decode cX11_init 182 = .ok (.bipush 119, 2) := by decide +kernel
theorem dX11_init_184 : decode cX11_init 184 = .ok (.iastore, 1) := by decide +kernel
theorem dX11_init_185 : decode cX11_init 185 = .ok (.dup, 1) := by decide +kernel
theorem dX11_init_186 : decode cX11_init 186 = .ok (.iconst 1, 1) := by decide +kernel
theorem dX11_init_187 : decode cX11_init 187 = .ok (.bipush 111, 2) := by decide +kernel
theorem dX11_init_189 : decode cX11_init 189 = .ok (.iastore, 1) := by decide +kernel
theorem dX11_init_190 : decode cX11_init 190 = .ok (.dup, 1) := by decide +kernel
theorem dX11_init_191 : decode cX11_init 191 = .ok (.iconst 2, 1) := by decide +kernel
theorem dX11_init_192 : decode cX11_init 192 = .ok (.bipush 114, 2) := by decide +kernel
theorem dX11_init_194 : decode cX11_init 194 = .ok (.iastore, 1) := by decide +kernel
theorem dX11_init_195 : decode cX11_init 195 = .ok (.dup, 1) := by decide +kernel
theorem dX11_init_196 : decode cX11_init 196 = .ok (.iconst 3, 1) := by decide +kernel
theorem dX11_init_197 : decode cX11_init 197 = .ok (.bipush 116, 2) := by decide +kernel
theorem dX11_init_199 : decode cX11_init 199 = .ok (.iastore, 1) := by decide +kernel
theorem dX11_init_200 : decode cX11_init 200 = .ok (.dup, 1) := by decide +kernel
theorem dX11_init_201 : decode cX11_init 201 = .ok (.iconst 4, 1) := by decide +kernel
theorem dX11_init_202 : decode cX11_init 202 = .ok (.bipush 104, 2) := by decide +kernel
theorem dX11_init_204 : decode cX11_init 204 = .ok (.iastore, 1) := by decide +kernel
theorem dX11_init_205 : decode cX11_init 205 = .ok (.dup, 1) := by decide +kernel
theorem dX11_init_206 : decode cX11_init 206 = .ok (.iconst 5, 1) := by decide +kernel
theorem dX11_init_207 : decode cX11_init 207 = .ok (.bipush 108, 2) := by decide +kernel
theorem dX11_init_209 : decode cX11_init 209 = .ok (.iastore, 1) := by decide +kernel
theorem dX11_init_210 : decode cX11_init 210 = .ok (.dup, 1) := by decide +kernel
theorem dX11_init_211 : decode cX11_init 211 = .ok (.bipush 6, 2) := by decide +kernel
theorem dX11_init_213 : decode cX11_init 213 = .ok (.bipush 101, 2) := by decide +kernel
theorem dX11_init_215 : decode cX11_init 215 = .ok (.iastore, 1) := by decide +kernel
theorem dX11_init_216 : decode cX11_init 216 = .ok (.dup, 1) := by decide +kernel
theorem dX11_init_217 : decode cX11_init 217 = .ok (.bipush 7, 2) := by decide +kernel
theorem dX11_init_219 : decode cX11_init 219 = .ok (.bipush 102, 2) := by decide +kernel
theorem dX11_init_221 : decode cX11_init 221 = .ok (.iastore, 1) := by decide +kernel
theorem dX11_init_222 : decode cX11_init 222 = .ok (.dup, 1) := by decide +kernel
theorem dX11_init_223 : decode cX11_init 223 = .ok (.bipush 8, 2) := by decide +kernel
theorem dX11_init_225 : decode cX11_init 225 = .ok (.bipush 116, 2) := by decide +kernel
theorem dX11_init_227 : decode cX11_init 227 = .ok (.iastore, 1) := by decide +kernel
theorem dX11_init_228 : decode cX11_init 228 = .ok (.dup, 1) := by decide +kernel
theorem dX11_init_229 : decode cX11_init 229 = .ok (.bipush 9, 2) := by decide +kernel
theorem dX11_init_231 : decode cX11_init 231 = .ok (.bipush 114, 2) := by decide +kernel
theorem dX11_init_233 : decode cX11_init 233 = .ok (.iastore, 1) := by decide +kernel
theorem dX11_init_234 : decode cX11_init 234 = .ok (.dup, 1) := by decide +kernel
theorem dX11_init_235 : decode cX11_init 235 = .ok (.bipush 10, 2) := by decide +kernel
theorem dX11_init_237 : decode cX11_init 237 = .ok (.bipush 111, 2) := by decide +kernel
theorem dX11_init_239 : decode cX11_init 239 = .ok (.iastore, 1) := by decide +kernel
theorem dX11_init_240 : decode cX11_init 240 = .ok (.dup, 1) := by decide +kernel
theorem dX11_init_241 : decode cX11_init 241 = .ok (.bipush 11, 2) := by decide +kernel
theorem dX11_init_243 : decode cX11_init 243 = .ok (.bipush 111, 2) := by decide +kernel
theorem dX11_init_245 : decode cX11_init 245 = .ok (.iastore, 1) := by decide +kernel
theorem dX11_init_246 : decode cX11_init 246 = .ok (.dup, 1) := by decide +kernel
theorem dX11_init_247 : decode cX11_init 247 = .ok (.bipush 12, 2) := by decide +kernel
theorem dX11_init_249 : decode cX11_init 249 = .ok (.bipush 109, 2) := by decide +kernel
theorem dX11_init_251 : decode cX11_init 251 = .ok (.iastore, 1) := by decide +kernel
theorem dX11_init_252 : decode cX11_init 252 = .ok (.dup, 1) := by decide +kernel
theorem dX11_init_253 : decode cX11_init 253 = .ok (.bipush 13, 2) := by decide +kernel
theorem dX11_init_255 : decode cX11_init 255 = .ok (.bipush 114, 2) := by decide +kernel
theorem dX11_init_257 : decode cX11_init 257 = .ok (.iastore, 1) := by decide +kernel
theorem dX11_init_258 : decode cX11_init 258 = .ok (.dup, 1) := by decide +kernel
theorem dX11_init_259 : decode cX11_init 259 = .ok (.bipush 14, 2) := by decide +kernel
theorem dX11_init_261 : decode cX11_init 261 = .ok (.bipush 97, 2) := by decide +kernel
theorem dX11_init_263 : decode cX11_init 263 = .ok (.iastore, 1) := by decide +kernel
theorem dX11_init_264 : decode cX11_init 264 = .ok (.dup, 1) := by decide +kernel
theorem dX11_init_265 : decode cX11_init 265 = .ok (.bipush 15, 2) := by decide +kernel
theorem dX11_init_267 : decode cX11_init 267 = .ok (.bipush 110, 2) := by decide +kernel
theorem dX11_init_269 : decode cX11_init 269 = .ok (.iastore, 1) := by decide +kernel
theorem dX11_init_270 : decode cX11_init 270 = .ok (.dup, 1) := by decide +kernel
theorem dX11_init_271 : decode cX11_init 271 = .ok (.bipush 16, 2) := by decide +kernel
theorem dX11_init_273 : decode cX11_init 273 = .ok (.bipush 107, 2) := by decide +kernel
theorem dX11_init_275 : decode cX11_init 275 = .ok (.iastore, 1) := by decide +kernel
theorem dX11_init_276 : decode cX11_init 276 = .ok (.dup, 1) := by decide +kernel
theorem dX11_init_277 : decode cX11_init 277 = .ok (.bipush 17, 2) := by decide +kernel
theorem dX11_init_279 : decode cX11_init 279 = .ok (.bipush 112, 2) := by decide +kernel
theorem dX11_init_281 : decode cX11_init 281 = .ok (.iastore, 1) := by decide +kernel
theorem dX11_init_282 : decode cX11_init 282 = .ok (.dup, 1) := by decide +kernel
theorem dX11_init_283 : decode cX11_init 283 = .ok (.bipush 18, 2) := by decide +kernel
theorem dX11_init_285 : decode cX11_init 285 = .ok (.bipush 97, 2) := by decide +kernel
theorem dX11_init_287 : decode cX11_init 287 = .ok (.iastore, 1) := by decide +kernel
theorem dX11_init_288 : decode cX11_init 288 = .ok (.dup, 1) := by decide +kernel
theorem dX11_init_289 : decode cX11_init 289 = .ok (.bipush 19, 2) := by decide +kernel
theorem dX11_init_291 : decode cX11_init 291 = .ok (.bipush 105, 2) := by decide +kernel
theorem dX11_init_293 : decode cX11_init 293 = .ok (.iastore, 1) := by decide +kernel
theorem dX11_init_294 : decode cX11_init 294 = .ok (.dup, 1) := by decide +kernel
theorem dX11_init_295 : decode cX11_init 295 = .ok (.bipush 20, 2) := by decide +kernel
theorem dX11_init_297 : decode cX11_init 297 = .ok (.bipush 100, 2) := by decide +kernel
theorem dX11_init_299 : decode cX11_init 299 = .ok (.iastore, 1) := by decide +kernel
theorem dX11_init_300 : decode cX11_init 300 = .ok (.dup, 1) := by decide +kernel
theorem dX11_init_301 : decode cX11_init 301 = .ok (.bipush 21, 2) := by decide +kernel
theorem dX11_init_303 : decode cX11_init 303 = .ok (.bipush 110, 2) := by decide +kernel
theorem dX11_init_305 : decode cX11_init 305 = .ok (.iastore, 1) := by decide +kernel
theorem dX11_init_306 : decode cX11_init 306 = .ok (.dup, 1) := by decide +kernel
theorem dX11_init_307 : decode cX11_init 307 = .ok (.bipush 22, 2) := by decide +kernel
theorem dX11_init_309 : decode cX11_init 309 = .ok (.bipush 117, 2) := by decide +kernel
theorem dX11_init_311 : decode cX11_init 311 = .ok (.iastore, 1) := by decide +kernel
theorem dX11_init_312 : decode cX11_init 312 = .ok (.dup, 1) := by decide +kernel
theorem dX11_init_313 : decode cX11_init 313 = .ok (.bipush 23, 2) := by decide +kernel
theorem dX11_init_315 : decode cX11_init 315 = .ok (.bipush 109, 2) := by decide +kernel
theorem dX11_init_317 : decode cX11_init 317 = .ok (.iastore, 1) := by decide +kernel
theorem dX11_init_318 : decode cX11_init 318 = .ok (.dup, 1) := by decide +kernel
theorem dX11_init_319 : decode cX11_init 319 = .ok (.bipush 24, 2) := by decide +kernel
theorem dX11_init_321 : decode cX11_init 321 = .ok (.bipush 98, 2) := by decide +kernel
theorem dX11_init_323 : decode cX11_init 323 = .ok (.iastore, 1) := by decide +kernel
theorem dX11_init_324 : decode cX11_init 324 = .ok (.dup, 1) := by decide +kernel
theorem dX11_init_325 : decode cX11_init 325 = .ok (.bipush 25, 2) := by decide +kernel
theorem dX11_init_327 : decode cX11_init 327 = .ok (.bipush 101, 2) := by decide +kernel
theorem dX11_init_329 : decode cX11_init 329 = .ok (.iastore, 1) := by decide +kernel
theorem dX11_init_330 : decode cX11_init 330 = .ok (.dup, 1) := by decide +kernel
theorem dX11_init_331 : decode cX11_init 331 = .ok (.bipush 26, 2) := by decide +kernel
theorem dX11_init_333 : decode cX11_init 333 = .ok (.bipush 114, 2) := by decide +kernel
theorem dX11_init_335 : decode cX11_init 335 = .ok (.iastore, 1) := by decide +kernel
theorem dX11_init_336 : decode cX11_init 336 = .ok (.dup, 1) := by decide +kernel
theorem dX11_init_337 : decode cX11_init 337 = .ok (.bipush 27, 2) := by decide +kernel
theorem dX11_init_339 : decode cX11_init 339 = .ok (.bipush 98, 2) := by decide +kernel
theorem dX11_init_341 : decode cX11_init 341 = .ok (.iastore, 1) := by decide +kernel
theorem dX11_init_342 : decode cX11_init 342 = .ok (.dup, 1) := by decide +kernel
theorem dX11_init_343 : decode cX11_init 343 = .ok (.bipush 28, 2) := by decide +kernel
theorem dX11_init_345 : decode cX11_init 345 = .ok (.bipush 121, 2) := by decide +kernel
theorem dX11_init_347 : decode cX11_init 347 = .ok (.iastore, 1) := by decide +kernel
theorem dX11_init_348 : decode cX11_init 348 = .ok (.dup, 1) := by decide +kernel
theorem dX11_init_349 : decode cX11_init 349 = .ok (.bipush 29, 2) := by decide +kernel
theorem dX11_init_351 : decode cX11_init 351 = .ok (.bipush 105, 2) := by decide +kernel
theorem dX11_init_353 : decode cX11_init 353 = .ok (.iastore, 1) := by decide +kernel
theorem dX11_init_354 : decode cX11_init 354 = .ok (.dup, 1) := by decide +kernel
theorem dX11_init_355 : decode cX11_init 355 = .ok (.bipush 30, 2) := by decide +kernel
theorem dX11_init_357 : decode cX11_init 357 = .ok (.bipush 102, 2) := by decide +kernel
theorem dX11_init_359 : decode cX11_init 359 = .ok (.iastore, 1) := by decide +kernel
theorem dX11_init_360 : decode cX11_init 360 = .ok (.dup, 1) := by decide +kernel
theorem dX11_init_361 : decode cX11_init 361 = .ok (.bipush 31, 2) := by decide +kernel
theorem dX11_init_363 : decode cX11_init 363 = .ok (.bipush 97, 2) := by decide +kernel
theorem dX11_init_365 : decode cX11_init 365 = .ok (.iastore, 1) := by decide +kernel
theorem dX11_init_366 : decode cX11_init 366 = .ok (.dup, 1) := by decide +kernel
theorem dX11_init_367 : decode cX11_init 367 = .ok (.bipush 32, 2) := by decide +kernel
theorem dX11_init_369 : decode cX11_init 369 = .ok (.bipush 110, 2) := by decide +kernel
theorem dX11_init_371 : decode cX11_init 371 = .ok (.iastore, 1) := by decide +kernel
theorem dX11_init_372 : decode cX11_init 372 = .ok (.dup, 1) := by decide +kernel
theorem dX11_init_373 : decode cX11_init 373 = .ok (.bipush 33, 2) := by decide +kernel
theorem dX11_init_375 : decode cX11_init 375 = .ok (.bipush 100, 2) := by decide +kernel
theorem dX11_init_377 : decode cX11_init 377 = .ok (.iastore, 1) := by decide +kernel
theorem dX11_init_378 : decode cX11_init 378 = .ok (.dup, 1) := by decide +kernel
theorem dX11_init_379 : decode cX11_init 379 = .ok (.bipush 34, 2) := by decide +kernel
theorem dX11_init_381 : decode cX11_init 381 = .ok (.bipush 100, 2) := by decide +kernel
theorem dX11_init_383 : decode cX11_init 383 = .ok (.iastore, 1) := by decide +kernel
theorem dX11_init_384 : decode cX11_init 384 = .ok (.dup, 1) := by decide +kernel
theorem dX11_init_385 : decode cX11_init 385 = .ok (.bipush 35, 2) := by decide +kernel
theorem dX11_init_387 : decode cX11_init 387 = .ok (.bipush 114, 2) := by decide +kernel
theorem dX11_init_389 : decode cX11_init 389 = .ok (.iastore, 1) := by decide +kernel
theorem dX11_init_390 : decode cX11_init 390 = .ok (.dup, 1) := by decide +kernel
theorem dX11_init_391 : decode cX11_init 391 = .ok (.bipush 36, 2) := by decide +kernel
theorem dX11_init_393 : decode cX11_init 393 = .ok (.bipush 111, 2) := by decide +kernel
theorem dX11_init_395 : decode cX11_init 395 = .ok (.iastore, 1) := by decide +kernel
theorem dX11_init_396 : decode cX11_init 396 = .ok (.dup, 1) := by decide +kernel
theorem dX11_init_397 : decode cX11_init 397 = .ok (.bipush 37, 2) := by decide +kernel
theorem dX11_init_399 : decode cX11_init 399 = .ok (.bipush 112, 2) := by decide +kernel
theorem dX11_init_401 : decode cX11_init 401 = .ok (.iastore, 1) := by decide +kernel
theorem dX11_init_402 : decode cX11_init 402 = .ok (.putfield 52, 3) := by decide +kernel
theorem dX11_init_405 : decode cX11_init 405 = .ok (.aload_n 0, 1) := by decide +kernel
theorem dX11_init_406 : decode cX11_init 406 = .ok (.bipush 6, 2) := by decide +kernel
theorem dX11_init_408 : decode cX11_init 408 = .ok (.newarray .int, 2) := by decide +kernel
theorem dX11_init_410 : decode cX11_init 410 = .ok (.putfield 55, 3) := by decide +kernel
theorem dX11_init_413 : decode cX11_init 413 = .ok (.aload_n 0, 1) := by decide +kernel
theorem dX11_init_414 : decode cX11_init 414 = .ok (.bipush 6, 2) := by decide +kernel
theorem dX11_init_416 : decode cX11_init 416 = .ok (.newarray .int, 2) := by decide +kernel
theorem dX11_init_418 : decode cX11_init 418 = .ok (.putfield 58, 3) := by decide +kernel
theorem dX11_init_421 : decode cX11_init 421 = .ok (.aload_n 0, 1) := by decide +kernel
theorem dX11_init_422 : decode cX11_init 422 = .ok (.bipush 6, 2) := by decide +kernel
theorem dX11_init_424 : decode cX11_init 424 = .ok (.newarray .int, 2) := by decide +kernel
theorem dX11_init_426 : decode cX11_init 426 = .ok (.putfield 61, 3) := by decide +kernel
theorem dX11_init_429 : decode cX11_init 429 = .ok (.aload_n 0, 1) := by decide +kernel
theorem dX11_init_430 : decode cX11_init 430 = .ok (.bipush 54, 2) := by decide +kernel
theorem dX11_init_432 : decode cX11_init 432 = .ok (.newarray .int, 2) := by decide +kernel
theorem dX11_init_434 : decode cX11_init 434 = .ok (.putfield 64, 3) := by decide +kernel
theorem dX11_init_437 : decode cX11_init 437 = .ok (.aload_n 0, 1) := by decide +kernel
theorem dX11_init_438 : decode cX11_init 438 = .ok (.bipush 6, 2) := by decide +kernel
theorem dX11_init_440 : decode cX11_init 440 = .ok (.newarray .int, 2) := by decide +kernel
theorem dX11_init_442 : decode cX11_init 442 = .ok (.putfield 67, 3) := by decide +kernel
theorem dX11_init_445 : decode cX11_init 445 = .ok (.aload_n 0, 1) := by decide +kernel
theorem dX11_init_446 : decode cX11_init 446 = .ok (.bipush 9, 2) := by decide +kernel
theorem dX11_init_448 : decode cX11_init 448 = .ok (.newarray .int, 2) := by decide +kernel
theorem dX11_init_450 : decode cX11_init 450 = .ok (.putfield 70, 3) := by decide +kernel
theorem dX11_init_453 : decode cX11_init 453 = .ok (.aload_n 0, 1) := by decide +kernel
theorem dX11_init_454 : decode cX11_init 454 = .ok (.bipush 9, 2) := by decide +kernel
theorem dX11_init_456 : decode cX11_init 456 = .ok (.newarray .int, 2) := by decide +kernel
theorem dX11_init_458 : decode cX11_init 458 = .ok (.putfield 73, 3) := by decide +kernel
theorem dX11_init_461 : decode cX11_init 461 = .ok (.aload_n 0, 1) := by decide +kernel
theorem dX11_init_462 : decode cX11_init 462 = .ok (.bipush 9, 2) := by decide +kernel
theorem dX11_init_464 : decode cX11_init 464 = .ok (.newarray .int, 2) := by decide +kernel
theorem dX11_init_466 : decode cX11_init 466 = .ok (.putfield 76, 3) := by decide +kernel
theorem dX11_init_469 : decode cX11_init 469 = .ok (.aload_n 0, 1) := by decide +kernel
theorem dX11_init_470 : decode cX11_init 470 = .ok (.bipush 6, 2) := by decide +kernel
theorem dX11_init_472 : decode cX11_init 472 = .ok (.newarray .int, 2) := by decide +kernel
theorem dX11_init_474 : decode cX11_init 474 = .ok (.putfield 79, 3) := by decide +kernel
theorem dX11_init_477 : decode cX11_init 477 = .ok (.aload_n 0, 1) := by decide +kernel
theorem dX11_init_478 : decode cX11_init 478 = .ok (.bipush 6, 2) := by decide +kernel
theorem dX11_init_480 : decode cX11_init 480 = .ok (.newarray .int, 2) := by decide +kernel
theorem dX11_init_482 : decode cX11_init 482 = .ok (.putfield 82, 3) := by decide +kernel
theorem dX11_init_485 : decode cX11_init 485 = .ok (.aload_n 0, 1) := by decide +kernel
theorem dX11_init_486 : decode cX11_init 486 = .ok (.sipush 5120, 3) := by decide +kernel
theorem dX11_init_489 : decode cX11_init 489 = .ok (.newarray .int, 2) := by decide +kernel
theorem dX11_init_491 : decode cX11_init 491 = .ok (.putfield 85, 3) := by decide +kernel
theorem dX11_init_494 : decode cX11_init 494 = .ok (.aload_n 0, 1) := by decide +kernel
theorem dX11_init_495 : decode cX11_init 495 = .ok (.bipush 9, 2) := by decide +kernel
theorem dX11_init_497 : decode cX11_init 497 = .ok (.newarray .int, 2) := by decide +kernel
theorem dX11_init_499 : decode cX11_init 499 = .ok (.putfield 88, 3) := by decide +kernel
theorem dX11_init_502 : decode cX11_init 502 = .ok (.aload_n 0, 1) := by decide +kernel
theorem dX11_init_503 : decode cX11_init 503 = .ok (.sipush 3584, 3) := by decide +kernel
theorem dX11_init_506 : decode cX11_init 506 = .ok (.newarray .long, 2) := by decide +kernel
theorem dX11_init_508 : decode cX11_init 508 = .ok (.putfield 91, 3) := by decide +kernel
theorem dX11_init_511 : decode cX11_init 511 = .ok (.aload_n 0, 1) := by decide +kernel
theorem dX11_init_512 : decode cX11_init 512 = .ok (.bipush 7, 2) := by decide +kernel
theorem dX11_init_514 : decode cX11_init 514 = .ok (.newarray .long, 2) := by decide +kernel
theorem dX11_init_516 : decode cX11_init 516 = .ok (.putfield 95, 3) := by decide +kernel
theorem dX11_init_519 : decode cX11_init 519 = .ok (.aload_n 0, 1) := by decide +kernel
theorem dX11_init_520 : decode cX11_init 520 = .ok (.bipush 9, 2) := by decide +kernel
theorem dX11_init_522 : decode cX11_init 522 = .ok (.newarray .int, 2) := by decide +kernel
theorem dX11_init_524 : decode cX11_init 524 = .ok (.putfield 98, 3) := by decide +kernel
theorem dX11_init_527 : decode cX11_init 527 = .ok (.aload_n 0, 1) := by decide +kernel
theorem dX11_init_528 : decode cX11_init 528 = .ok (.bipush 9, 2) := by decide +kernel
theorem dX11_init_530 : decode cX11_init 530 = .ok (.newarray .int, 2) := by decide +kernel
theorem dX11_init_532 : decode cX11_init 532 = .ok (.putfield 101, 3) := by decide +kernel
theorem dX11_init_535 : decode cX11_init 535 = .ok (.aload_n 0, 1) := by decide +kernel
theorem dX11_init_536 : decode cX11_init 536 = .ok (.bipush 9, 2) := by decide +kernel
theorem dX11_init_538 : decode cX11_init 538 = .ok (.newarray .int, 2) := by decide +kernel
theorem dX11_init_540 : decode cX11_init 540 = .ok (.putfield 104, 3) := by decide +kernel
theorem dX11_init_543 : decode cX11_init 543 = .ok (.aload_n 0, 1) := by decide +kernel
theorem dX11_init_544 : decode cX11_init 544 = .ok (.bipush 6, 2) := by decide +kernel
theorem dX11_init_546 : decode cX11_init 546 = .ok (.newarray .int, 2) := by decide +kernel
theorem dX11_init_548 : decode cX11_init 548 = .ok (.putfield 107, 3) := by decide +kernel
theorem dX11_init_551 : decode cX11_init 551 = .ok (.aload_n 0, 1) := by decide +kernel
theorem dX11_init_552 : decode cX11_init 552 = .ok (.sipush 1200, 3) := by decide +kernel
theorem dX11_init_555 : decode cX11_init 555 = .ok (.newarray .int, 2) := by decide +kernel
theorem dX11_init_557 : decode cX11_init 557 = .ok (.putfield 110, 3) := by decide +kernel
theorem dX11_init_560 : decode cX11_init 560 = .ok (.aload_n 0, 1) := by decide +kernel
theorem dX11_init_561 : decode cX11_init 561 = .ok (.iconst 4, 1) := by decide +kernel
theorem dX11_init_562 : decode cX11_init 562 = .ok (.newarray .int, 2) := by decide +kernel
theorem dX11_init_564 : decode cX11_init 564 = .ok (.dup, 1) := by decide +kernel
theorem dX11_init_565 : decode cX11_init 565 = .ok (.iconst 0, 1) := by decide +kernel
theorem dX11_init_566 : decode cX11_init 566 = .ok (.bipush (-4), 2) := by decide +kernel
theorem dX11_init_568 : decode cX11_init 568 = .ok (.iastore, 1) := by decide +kernel
theorem dX11_init_569 : decode cX11_init 569 = .ok (.dup, 1) := by decide +kernel
theorem dX11_init_570 : decode cX11_init 570 = .ok (.iconst 1, 1) := by decide +kernel
theorem dX11_init_571 : decode cX11_init 571 = .ok (.bipush (-4), 2) := by decide +kernel
theorem dX11_init_573 : decode cX11_init 573 = .ok (.iastore, 1) := by decide +kernel
theorem dX11_init_574 : decode cX11_init 574 = .ok (.dup, 1) := by decide +kernel
theorem dX11_init_575 : decode cX11_init 575 = .ok (.iconst 2, 1) := by decide +kernel
theorem dX11_init_576 : decode cX11_init 576 = .ok (.bipush (-4), 2) := by decide +kernel
theorem dX11_init_578 : decode cX11_init 578 = .ok (.iastore, 1) := by decide +kernel
theorem dX11_init_579 : decode cX11_init 579 = .ok (.dup, 1) := by decide +kernel
theorem dX11_init_580 : decode cX11_init 580 = .ok (.iconst 3, 1) := by decide +kernel
theorem dX11_init_581 : decode cX11_init 581 = .ok (.bipush (-4), 2) := by decide +kernel
theorem dX11_init_583 : decode cX11_init 583 = .ok (.iastore, 1) := by decide +kernel
theorem dX11_init_584 : decode cX11_init 584 = .ok (.putfield 113, 3) := by decide +kernel
theorem dX11_init_587 : decode cX11_init 587 = .ok (.aload_n 0, 1) := by decide +kernel
theorem dX11_init_588 : decode cX11_init 588 = .ok (.iconst 4, 1) := by decide +kernel
theorem dX11_init_589 : decode cX11_init 589 = .ok (.newarray .int, 2) := by decide +kernel
theorem dX11_init_591 : decode cX11_init 591 = .ok (.putfield 116, 3) := by decide +kernel
theorem dX11_init_594 : decode cX11_init 594 = .ok (.aload_n 0, 1) := by decide +kernel
theorem dX11_init_595 : decode cX11_init 595 = .ok (.sipush 256, 3) := by decide +kernel
theorem dX11_init_598 : decode cX11_init 598 = .ok (.newarray .int, 2) := by decide +kernel
theorem dX11_init_600 : decode cX11_init 600 = .ok (.putfield 119, 3) := by decide +kernel
theorem dX11_init_603 : decode cX11_init 603 = .ok (.return_, 1) := by decide +kernel
theorem dX11_in_0 : decode cX11_in 0 = .ok (.lload_n 0, 1) := by decide +kernel
theorem dX11_in_1 : decode cX11_in 1 = .ok (.lload_n 2, 1) := by decide +kernel
theorem dX11_in_2 : decode cX11_in 2 = .ok (.lcmp, 1) := by decide +kernel
theorem dX11_in_3 : decode cX11_in 3 = .ok (.ifCond .lt 14, 3) := by decide +kernel
theorem dX11_in_6 : decode cX11_in 6 = .ok (.lload_n 0, 1) := by decide +kernel
theorem dX11_in_7 : decode cX11_in 7 = .ok (.lload 4, 2) := by decide +kernel
theorem dX11_in_9 : decode cX11_in 9 = .ok (.lcmp, 1) := by decide +kernel
theorem dX11_in_10 : decode cX11_in 10 = .ok (.ifCond .gt 7, 3) := by decide +kernel
theorem dX11_in_13 : decode cX11_in 13 = .ok (.iconst 1, 1) := by decide +kernel
theorem dX11_in_14 : decode cX11_in 14 = .ok (.goto 4, 3) := by decide +kernel
theorem dX11_in_17 : decode cX11_in 17 = .ok (.iconst 0, 1) := by decide +kernel
theorem dX11_in_18 : decode cX11_in 18 = .ok (.ireturn, 1) := by decide +kernel
theorem dX11_isPost_0 : decode cX11_isPost 0 = .ok (.iload_n 1, 1) := by decide +kernel
theorem dX11_isPost_1 : decode cX11_isPost 1 = .ok (.i2l, 1) := by decide +kernel
theorem dX11_isPost_2 : decode cX11_isPost 2 = .ok (.lconst 0, 1) := by decide +kernel
theorem dX11_isPost_3 : decode cX11_isPost 3 = .ok (.aload_n 0, 1) := by decide +kernel
theorem dX11_isPost_4 : decode cX11_isPost 4 = .ok (.getfield 122, 3) := by decide +kernel
theorem dX11_isPost_7 : decode cX11_isPost 7 = .ok (.iconst 1, 1) := by decide +kernel
theorem dX11_isPost_8 : decode cX11_isPost 8 = .ok (.isub, 1) := by decide +kernel
theorem dX11_isPost_9 : decode cX11_isPost 9 = .ok (.i2l, 1) := by decide +kernel
theorem dX11_isPost_10 : decode cX11_isPost 10 = .ok (.invokestatic 126, 3) := by decide +kernel
theorem dX11_isPost_13 : decode cX11_isPost 13 = .ok (.ireturn, 1) := by decide +kernel
theorem dX11_isGuest_0 : decode cX11_isGuest 0 = .ok (.iload_n 1, 1) := by decide +kernel
theorem dX11_isGuest_1 : decode cX11_isGuest 1 = .ok (.i2l, 1) := by decide +kernel
theorem dX11_isGuest_2 : decode cX11_isGuest 2 = .ok (.lconst 0, 1) := by decide +kernel
theorem dX11_isGuest_3 : decode cX11_isGuest 3 = .ok (.aload_n 0, 1) := by decide +kernel
theorem dX11_isGuest_4 : decode cX11_isGuest 4 = .ok (.getfield 130, 3) := by decide +kernel
theorem dX11_isGuest_7 : decode cX11_isGuest 7 = .ok (.iconst 1, 1) := by decide +kernel
theorem dX11_isGuest_8 : decode cX11_isGuest 8 = .ok (.isub, 1) := by decide +kernel
theorem dX11_isGuest_9 : decode cX11_isGuest 9 = .ok (.i2l, 1) := by decide +kernel
theorem dX11_isGuest_10 : decode cX11_isGuest 10 = .ok (.invokestatic 126, 3) := by decide +kernel
theorem dX11_isGuest_13 : decode cX11_isGuest 13 = .ok (.ireturn, 1) := by decide +kernel
theorem dX11_roomSum_0 : decode cX11_roomSum 0 = .ok (.iconst 0, 1) := by decide +kernel
theorem dX11_roomSum_1 : decode cX11_roomSum 1 = .ok (.istore_n 1, 1) := by decide +kernel
theorem dX11_roomSum_2 : decode cX11_roomSum 2 = .ok (.iconst 0, 1) := by decide +kernel
theorem dX11_roomSum_3 : decode cX11_roomSum 3 = .ok (.istore_n 2, 1) := by decide +kernel
theorem dX11_roomSum_4 : decode cX11_roomSum 4 = .ok (.iload_n 2, 1) := by decide +kernel
theorem dX11_roomSum_5 : decode cX11_roomSum 5 = .ok (.aload_n 0, 1) := by decide +kernel
theorem dX11_roomSum_6 : decode cX11_roomSum 6 = .ok (.getfield 122, 3) := by decide +kernel
theorem dX11_roomSum_9 : decode cX11_roomSum 9 = .ok (.if_icmp .ge 18, 3) := by decide +kernel
theorem dX11_roomSum_12 : decode cX11_roomSum 12 = .ok (.iload_n 1, 1) := by decide +kernel
theorem dX11_roomSum_13 : decode cX11_roomSum 13 = .ok (.aload_n 0, 1) := by decide +kernel
theorem dX11_roomSum_14 : decode cX11_roomSum 14 = .ok (.getfield 7, 3) := by decide +kernel
theorem dX11_roomSum_17 : decode cX11_roomSum 17 = .ok (.iload_n 2, 1) := by decide +kernel
theorem dX11_roomSum_18 : decode cX11_roomSum 18 = .ok (.iaload, 1) := by decide +kernel
theorem dX11_roomSum_19 : decode cX11_roomSum 19 = .ok (.iadd, 1) := by decide +kernel
theorem dX11_roomSum_20 : decode cX11_roomSum 20 = .ok (.istore_n 1, 1) := by decide +kernel
theorem dX11_roomSum_21 : decode cX11_roomSum 21 = .ok (.iinc 2 1, 3) := by decide +kernel
theorem dX11_roomSum_24 : decode cX11_roomSum 24 = .ok (.goto (-20), 3) := by decide +kernel
theorem dX11_roomSum_27 : decode cX11_roomSum 27 = .ok (.iload_n 1, 1) := by decide +kernel
theorem dX11_roomSum_28 : decode cX11_roomSum 28 = .ok (.ireturn, 1) := by decide +kernel
theorem dX11_post_0 : decode cX11_post 0 = .ok (.iload_n 1, 1) := by decide +kernel
theorem dX11_post_1 : decode cX11_post 1 = .ok (.i2l, 1) := by decide +kernel
theorem dX11_post_2 : decode cX11_post 2 = .ok (.lconst 1, 1) := by decide +kernel
theorem dX11_post_3 : decode cX11_post 3 = .ok (.ldc2_w 133, 3) := by decide +kernel
theorem dX11_post_6 : decode cX11_post 6 = .ok (.invokestatic 126, 3) := by decide +kernel
theorem dX11_post_9 : decode cX11_post 9 = .ok (.ifCond .eq 27, 3) := by decide +kernel
theorem dX11_post_12 : decode cX11_post 12 = .ok (.iload_n 2, 1) := by decide +kernel
theorem dX11_post_13 : decode cX11_post 13 = .ok (.i2l, 1) := by decide +kernel
theorem dX11_post_14 : decode cX11_post 14 = .ok (.lconst 0, 1) := by decide +kernel
theorem dX11_post_15 : decode cX11_post 15 = .ok (.ldc2_w 135, 3) := by decide +kernel
theorem dX11_post_18 : decode cX11_post 18 = .ok (.invokestatic 126, 3) := by decide +kernel
theorem dX11_post_21 : decode cX11_post 21 = .ok (.ifCond .eq 15, 3) := by decide +kernel
theorem dX11_post_24 : decode cX11_post 24 = .ok (.iload_n 3, 1) := by decide +kernel
theorem dX11_post_25 : decode cX11_post 25 = .ok (.i2l, 1) := by decide +kernel
theorem dX11_post_26 : decode cX11_post 26 = .ok (.lconst 1, 1) := by decide +kernel
theorem dX11_post_27 : decode cX11_post 27 = .ok (.ldc2_w 137, 3) := by decide +kernel
theorem dX11_post_30 : decode cX11_post 30 = .ok (.invokestatic 126, 3) := by decide +kernel
theorem dX11_post_33 : decode cX11_post 33 = .ok (.ifCond .ne 5, 3) := by decide +kernel
theorem dX11_post_36 : decode cX11_post 36 = .ok (.iconst (-1), 1) := by decide +kernel
theorem dX11_post_37 : decode cX11_post 37 = .ok (.ireturn, 1) := by decide +kernel
theorem dX11_post_38 : decode cX11_post 38 = .ok (.aload_n 0, 1) := by decide +kernel
theorem dX11_post_39 : decode cX11_post 39 = .ok (.invokevirtual 139, 3) := by decide +kernel
theorem dX11_post_42 : decode cX11_post 42 = .ok (.ifCond .le 6, 3) := by decide +kernel
theorem dX11_post_45 : decode cX11_post 45 = .ok (.bipush (-2), 2) := by decide +kernel
theorem dX11_post_47 : decode cX11_post 47 = .ok (.ireturn, 1) := by decide +kernel
theorem dX11_post_48 : decode cX11_post 48 = .ok (.aload_n 0, 1) := by decide +kernel
theorem dX11_post_49 : decode cX11_post 49 = .ok (.getfield 122, 3) := by decide +kernel
theorem dX11_post_52 : decode cX11_post 52 = .ok (.bipush 6, 2) := by decide +kernel
theorem dX11_post_54 : decode cX11_post 54 = .ok (.if_icmp .eq 14, 3) := by decide +kernel
theorem dX11_post_57 : decode cX11_post 57 = .ok (.aload_n 0, 1) := by decide +kernel
theorem dX11_post_58 : decode cX11_post 58 = .ok (.invokevirtual 143, 3) := by decide +kernel
theorem dX11_post_61 : decode cX11_post 61 = .ok (.iload_n 1, 1) := by decide +kernel
theorem dX11_post_62 : decode cX11_post 62 = .ok (.iadd, 1) := by decide +kernel
theorem dX11_post_63 : decode cX11_post 63 = .ok (.bipush 10, 2) := by decide +kernel
theorem dX11_post_65 : decode cX11_post 65 = .ok (.if_icmp .le 6, 3) := by decide +kernel
theorem dX11_post_68 : decode cX11_post 68 = .ok (.bipush (-3), 2) := by decide +kernel
theorem dX11_post_70 : decode cX11_post 70 = .ok (.ireturn, 1) := by decide +kernel
theorem dX11_post_71 : decode cX11_post 71 = .ok (.aload_n 0, 1) := by decide +kernel
theorem dX11_post_72 : decode cX11_post 72 = .ok (.getfield 7, 3) := by decide +kernel
theorem dX11_post_75 : decode cX11_post 75 = .ok (.aload_n 0, 1) := by decide +kernel
theorem dX11_post_76 : decode cX11_post 76 = .ok (.getfield 122, 3) := by decide +kernel
theorem dX11_post_79 : decode cX11_post 79 = .ok (.iload_n 1, 1) := by decide +kernel
theorem dX11_post_80 : decode cX11_post 80 = .ok (.iastore, 1) := by decide +kernel
theorem dX11_post_81 : decode cX11_post 81 = .ok (.aload_n 0, 1) := by decide +kernel
theorem dX11_post_82 : decode cX11_post 82 = .ok (.getfield 13, 3) := by decide +kernel
theorem dX11_post_85 : decode cX11_post 85 = .ok (.aload_n 0, 1) := by decide +kernel
theorem dX11_post_86 : decode cX11_post 86 = .ok (.getfield 122, 3) := by decide +kernel
theorem dX11_post_89 : decode cX11_post 89 = .ok (.iload_n 2, 1) := by decide +kernel
theorem dX11_post_90 : decode cX11_post 90 = .ok (.iastore, 1) := by decide +kernel
theorem dX11_post_91 : decode cX11_post 91 = .ok (.aload_n 0, 1) := by decide +kernel
theorem dX11_post_92 : decode cX11_post 92 = .ok (.getfield 16, 3) := by decide +kernel
theorem dX11_post_95 : decode cX11_post 95 = .ok (.aload_n 0, 1) := by decide +kernel
theorem dX11_post_96 : decode cX11_post 96 = .ok (.getfield 122, 3) := by decide +kernel
theorem dX11_post_99 : decode cX11_post 99 = .ok (.iload_n 3, 1) := by decide +kernel
theorem dX11_post_100 : decode cX11_post 100 = .ok (.iastore, 1) := by decide +kernel
theorem dX11_post_101 : decode cX11_post 101 = .ok (.iconst 0, 1) := by decide +kernel
theorem dX11_post_102 : decode cX11_post 102 = .ok (.istore 4, 2) := by decide +kernel
theorem dX11_post_104 : decode cX11_post 104 = .ok (.iload 4, 2) := by decide +kernel
theorem dX11_post_106 : decode cX11_post 106 = .ok (.bipush 9, 2) := by decide +kernel
theorem dX11_post_108 : decode cX11_post 108 = .ok (.if_icmp .ge 25, 3) := by decide +kernel
theorem dX11_post_111 : decode cX11_post 111 = .ok (.aload_n 0, 1) := by decide +kernel
theorem dX11_post_112 : decode cX11_post 112 = .ok (.getfield 22, 3) := by decide +kernel
theorem dX11_post_115 : decode cX11_post 115 = .ok (.bipush 6, 2) := by decide +kernel
theorem dX11_post_117 : decode cX11_post 117 = .ok (.iload 4, 2) := by decide +kernel
theorem dX11_post_119 : decode cX11_post 119 = .ok (.imul, 1) := by decide +kernel
theorem dX11_post_120 : decode cX11_post 120 = .ok (.aload_n 0, 1) := by decide +kernel
theorem dX11_post_121 : decode cX11_post 121 = .ok (.getfield 122, 3) := by decide +kernel
theorem dX11_post_124 : decode cX11_post 124 = .ok (.iadd, 1) := by decide +kernel
theorem dX11_post_125 : decode cX11_post 125 = .ok (.iconst 0, 1) := by decide +kernel
theorem dX11_post_126 : decode cX11_post 126 = .ok (.iastore, 1) := by decide +kernel
theorem dX11_post_127 : decode cX11_post 127 = .ok (.iinc 4 1, 3) := by decide +kernel
theorem dX11_post_130 : decode cX11_post 130 = .ok (.goto (-26), 3) := by decide +kernel
theorem dX11_post_133 : decode cX11_post 133 = .ok (.aload_n 0, 1) := by decide +kernel
theorem dX11_post_134 : decode cX11_post 134 = .ok (.dup, 1) := by decide +kernel
theorem dX11_post_135 : decode cX11_post 135 = .ok (.getfield 122, 3) := by decide +kernel
theorem dX11_post_138 : decode cX11_post 138 = .ok (.iconst 1, 1) := by decide +kernel
theorem dX11_post_139 : decode cX11_post 139 = .ok (.iadd, 1) := by decide +kernel
theorem dX11_post_140 : decode cX11_post 140 = .ok (.putfield 122, 3) := by decide +kernel
theorem dX11_post_143 : decode cX11_post 143 = .ok (.aload_n 0, 1) := by decide +kernel
theorem dX11_post_144 : decode cX11_post 144 = .ok (.getfield 122, 3) := by decide +kernel
theorem dX11_post_147 : decode cX11_post 147 = .ok (.iconst 1, 1) := by decide +kernel
theorem dX11_post_148 : decode cX11_post 148 = .ok (.isub, 1) := by decide +kernel
theorem dX11_post_149 : decode cX11_post 149 = .ok (.ireturn, 1) := by decide +kernel
theorem dX11_guest_0 : decode cX11_guest 0 = .ok (.aload_n 0, 1) := by decide +kernel
theorem dX11_guest_1 : decode cX11_guest 1 = .ok (.getfield 130, 3) := by decide +kernel
theorem dX11_guest_4 : decode cX11_guest 4 = .ok (.bipush 9, 2) := by decide +kernel
theorem dX11_guest_6 : decode cX11_guest 6 = .ok (.if_icmp .ne 6, 3) := by decide +kernel
theorem dX11_guest_9 : decode cX11_guest 9 = .ok (.bipush (-3), 2) := by decide +kernel
theorem dX11_guest_11 : decode cX11_guest 11 = .ok (.ireturn, 1) := by decide +kernel
theorem dX11_guest_12 : decode cX11_guest 12 = .ok (.aload_n 0, 1) := by decide +kernel
theorem dX11_guest_13 : decode cX11_guest 13 = .ok (.getfield 19, 3) := by decide +kernel
theorem dX11_guest_16 : decode cX11_guest 16 = .ok (.aload_n 0, 1) := by decide +kernel
theorem dX11_guest_17 : decode cX11_guest 17 = .ok (.getfield 130, 3) := by decide +kernel
theorem dX11_guest_20 : decode cX11_guest 20 = .ok (.iconst 1, 1) := by decide +kernel
theorem dX11_guest_21 : decode cX11_guest 21 = .ok (.iastore, 1) := by decide +kernel
theorem dX11_guest_22 : decode cX11_guest 22 = .ok (.iconst 0, 1) := by decide +kernel
theorem dX11_guest_23 : decode cX11_guest 23 = .ok (.istore_n 1, 1) := by decide +kernel
theorem dX11_guest_24 : decode cX11_guest 24 = .ok (.iload_n 1, 1) := by decide +kernel
theorem dX11_guest_25 : decode cX11_guest 25 = .ok (.bipush 6, 2) := by decide +kernel
theorem dX11_guest_27 : decode cX11_guest 27 = .ok (.if_icmp .ge 24, 3) := by decide +kernel
theorem dX11_guest_30 : decode cX11_guest 30 = .ok (.aload_n 0, 1) := by decide +kernel
theorem dX11_guest_31 : decode cX11_guest 31 = .ok (.getfield 22, 3) := by decide +kernel
theorem dX11_guest_34 : decode cX11_guest 34 = .ok (.bipush 6, 2) := by decide +kernel
theorem dX11_guest_36 : decode cX11_guest 36 = .ok (.aload_n 0, 1) := by decide +kernel
theorem dX11_guest_37 : decode cX11_guest 37 = .ok (.getfield 130, 3) := by decide +kernel
theorem dX11_guest_40 : decode cX11_guest 40 = .ok (.imul, 1) := by decide +kernel
theorem dX11_guest_41 : decode cX11_guest 41 = .ok (.iload_n 1, 1) := by decide +kernel
theorem dX11_guest_42 : decode cX11_guest 42 = .ok (.iadd, 1) := by decide +kernel
theorem dX11_guest_43 : decode cX11_guest 43 = .ok (.iconst 0, 1) := by decide +kernel
theorem dX11_guest_44 : decode cX11_guest 44 = .ok (.iastore, 1) := by decide +kernel
theorem dX11_guest_45 : decode cX11_guest 45 = .ok (.iinc 1 1, 3) := by decide +kernel
theorem dX11_guest_48 : decode cX11_guest 48 = .ok (.goto (-24), 3) := by decide +kernel
theorem dX11_guest_51 : decode cX11_guest 51 = .ok (.aload_n 0, 1) := by decide +kernel
theorem dX11_guest_52 : decode cX11_guest 52 = .ok (.getfield 98, 3) := by decide +kernel
theorem dX11_guest_55 : decode cX11_guest 55 = .ok (.aload_n 0, 1) := by decide +kernel
theorem dX11_guest_56 : decode cX11_guest 56 = .ok (.getfield 130, 3) := by decide +kernel
theorem dX11_guest_59 : decode cX11_guest 59 = .ok (.iconst 0, 1) := by decide +kernel
theorem dX11_guest_60 : decode cX11_guest 60 = .ok (.iastore, 1) := by decide +kernel
theorem dX11_guest_61 : decode cX11_guest 61 = .ok (.aload_n 0, 1) := by decide +kernel
theorem dX11_guest_62 : decode cX11_guest 62 = .ok (.getfield 101, 3) := by decide +kernel
theorem dX11_guest_65 : decode cX11_guest 65 = .ok (.aload_n 0, 1) := by decide +kernel
theorem dX11_guest_66 : decode cX11_guest 66 = .ok (.getfield 130, 3) := by decide +kernel
theorem dX11_guest_69 : decode cX11_guest 69 = .ok (.bipush (-4), 2) := by decide +kernel
theorem dX11_guest_71 : decode cX11_guest 71 = .ok (.iastore, 1) := by decide +kernel
theorem dX11_guest_72 : decode cX11_guest 72 = .ok (.aload_n 0, 1) := by decide +kernel
theorem dX11_guest_73 : decode cX11_guest 73 = .ok (.getfield 104, 3) := by decide +kernel
theorem dX11_guest_76 : decode cX11_guest 76 = .ok (.aload_n 0, 1) := by decide +kernel
theorem dX11_guest_77 : decode cX11_guest 77 = .ok (.getfield 130, 3) := by decide +kernel
theorem dX11_guest_80 : decode cX11_guest 80 = .ok (.iconst 0, 1) := by decide +kernel
theorem dX11_guest_81 : decode cX11_guest 81 = .ok (.iastore, 1) := by decide +kernel
theorem dX11_guest_82 : decode cX11_guest 82 = .ok (.aload_n 0, 1) := by decide +kernel
theorem dX11_guest_83 : decode cX11_guest 83 = .ok (.dup, 1) := by decide +kernel
theorem dX11_guest_84 : decode cX11_guest 84 = .ok (.getfield 130, 3) := by decide +kernel
theorem dX11_guest_87 : decode cX11_guest 87 = .ok (.iconst 1, 1) := by decide +kernel
theorem dX11_guest_88 : decode cX11_guest 88 = .ok (.iadd, 1) := by decide +kernel
theorem dX11_guest_89 : decode cX11_guest 89 = .ok (.putfield 130, 3) := by decide +kernel
theorem dX11_guest_92 : decode cX11_guest 92 = .ok (.aload_n 0, 1) := by decide +kernel
theorem dX11_guest_93 : decode cX11_guest 93 = .ok (.getfield 130, 3) := by decide +kernel
theorem dX11_guest_96 : decode cX11_guest 96 = .ok (.iconst 1, 1) := by decide +kernel
theorem dX11_guest_97 : decode cX11_guest 97 = .ok (.isub, 1) := by decide +kernel
theorem dX11_guest_98 : decode cX11_guest 98 = .ok (.ireturn, 1) := by decide +kernel
theorem dX11_worth_0 : decode cX11_worth 0 = .ok (.aload_n 0, 1) := by decide +kernel
theorem dX11_worth_1 : decode cX11_worth 1 = .ok (.iload_n 1, 1) := by decide +kernel
theorem dX11_worth_2 : decode cX11_worth 2 = .ok (.invokevirtual 146, 3) := by decide +kernel
theorem dX11_worth_5 : decode cX11_worth 5 = .ok (.ifCond .eq 23, 3) := by decide +kernel
theorem dX11_worth_8 : decode cX11_worth 8 = .ok (.aload_n 0, 1) := by decide +kernel
theorem dX11_worth_9 : decode cX11_worth 9 = .ok (.iload_n 2, 1) := by decide +kernel
theorem dX11_worth_10 : decode cX11_worth 10 = .ok (.invokevirtual 150, 3) := by decide +kernel
theorem dX11_worth_13 : decode cX11_worth 13 = .ok (.ifCond .eq 15, 3) := by decide +kernel
theorem dX11_worth_16 : decode cX11_worth 16 = .ok (.iload_n 3, 1) := by decide +kernel
theorem dX11_worth_17 : decode cX11_worth 17 = .ok (.i2l, 1) := by decide +kernel
theorem dX11_worth_18 : decode cX11_worth 18 = .ok (.lconst 0, 1) := by decide +kernel
theorem dX11_worth_19 : decode cX11_worth 19 = .ok (.ldc2_w 135, 3) := by decide +kernel
theorem dX11_worth_22 : decode cX11_worth 22 = .ok (.invokestatic 126, 3) := by decide +kernel
theorem dX11_worth_25 : decode cX11_worth 25 = .ok (.ifCond .ne 5, 3) := by decide +kernel
theorem dX11_worth_28 : decode cX11_worth 28 = .ok (.iconst (-1), 1) := by decide +kernel
theorem dX11_worth_29 : decode cX11_worth 29 = .ok (.ireturn, 1) := by decide +kernel
theorem dX11_worth_30 : decode cX11_worth 30 = .ok (.aload_n 0, 1) := by decide +kernel
theorem dX11_worth_31 : decode cX11_worth 31 = .ok (.getfield 98, 3) := by decide +kernel
theorem dX11_worth_34 : decode cX11_worth 34 = .ok (.iload_n 1, 1) := by decide +kernel
theorem dX11_worth_35 : decode cX11_worth 35 = .ok (.iaload, 1) := by decide +kernel
theorem dX11_worth_36 : decode cX11_worth 36 = .ok (.iconst 1, 1) := by decide +kernel
theorem dX11_worth_37 : decode cX11_worth 37 = .ok (.if_icmp .ne 6, 3) := by decide +kernel
theorem dX11_worth_40 : decode cX11_worth 40 = .ok (.bipush (-2), 2) := by decide +kernel
theorem dX11_worth_42 : decode cX11_worth 42 = .ok (.ireturn, 1) := by decide +kernel
theorem dX11_worth_43 : decode cX11_worth 43 = .ok (.aload_n 0, 1) := by decide +kernel
theorem dX11_worth_44 : decode cX11_worth 44 = .ok (.getfield 22, 3) := by decide +kernel
theorem dX11_worth_47 : decode cX11_worth 47 = .ok (.bipush 6, 2) := by decide +kernel
theorem dX11_worth_49 : decode cX11_worth 49 = .ok (.iload_n 1, 1) := by decide +kernel
theorem dX11_worth_50 : decode cX11_worth 50 = .ok (.imul, 1) := by decide +kernel
theorem dX11_worth_51 : decode cX11_worth 51 = .ok (.iload_n 2, 1) := by decide +kernel
theorem dX11_worth_52 : decode cX11_worth 52 = .ok (.iadd, 1) := by decide +kernel
theorem dX11_worth_53 : decode cX11_worth 53 = .ok (.iaload, 1) := by decide +kernel
theorem dX11_worth_54 : decode cX11_worth 54 = .ok (.istore 4, 2) := by decide +kernel
theorem dX11_worth_56 : decode cX11_worth 56 = .ok (.aload_n 0, 1) := by decide +kernel
theorem dX11_worth_57 : decode cX11_worth 57 = .ok (.getfield 22, 3) := by decide +kernel
theorem dX11_worth_60 : decode cX11_worth 60 = .ok (.bipush 6, 2) := by decide +kernel
theorem dX11_worth_62 : decode cX11_worth 62 = .ok (.iload_n 1, 1) := by decide +kernel
theorem dX11_worth_63 : decode cX11_worth 63 = .ok (.imul, 1) := by decide +kernel
theorem dX11_worth_64 : decode cX11_worth 64 = .ok (.iload_n 2, 1) := by decide +kernel
theorem dX11_worth_65 : decode cX11_worth 65 = .ok (.iadd, 1) := by decide +kernel
theorem dX11_worth_66 : decode cX11_worth 66 = .ok (.iload_n 3, 1) := by decide +kernel
theorem dX11_worth_67 : decode cX11_worth 67 = .ok (.iastore, 1) := by decide +kernel
theorem dX11_worth_68 : decode cX11_worth 68 = .ok (.iload 4, 2) := by decide +kernel
theorem dX11_worth_70 : decode cX11_worth 70 = .ok (.ireturn, 1) := by decide +kernel
theorem dX11_chance_0 : decode cX11_chance 0 = .ok (.aload_n 0, 1) := by decide +kernel
theorem dX11_chance_1 : decode cX11_chance 1 = .ok (.iload_n 1, 1) := by decide +kernel
theorem dX11_chance_2 : decode cX11_chance 2 = .ok (.invokevirtual 146, 3) := by decide +kernel
theorem dX11_chance_5 : decode cX11_chance 5 = .ok (.ifCond .eq 15, 3) := by decide +kernel
theorem dX11_chance_8 : decode cX11_chance 8 = .ok (.iload_n 2, 1) := by decide +kernel
theorem dX11_chance_9 : decode cX11_chance 9 = .ok (.i2l, 1) := by decide +kernel
theorem dX11_chance_10 : decode cX11_chance 10 = .ok (.lconst 0, 1) := by decide +kernel
theorem dX11_chance_11 : decode cX11_chance 11 = .ok (.ldc2_w 153, 3) := by decide +kernel
theorem dX11_chance_14 : decode cX11_chance 14 = .ok (.invokestatic 126, 3) := by decide +kernel
theorem dX11_chance_17 : decode cX11_chance 17 = .ok (.ifCond .ne 5, 3) := by decide +kernel
theorem dX11_chance_20 : decode cX11_chance 20 = .ok (.iconst (-1), 1) := by decide +kernel
theorem dX11_chance_21 : decode cX11_chance 21 = .ok (.ireturn, 1) := by decide +kernel
theorem dX11_chance_22 : decode cX11_chance 22 = .ok (.aload_n 0, 1) := by decide +kernel
theorem dX11_chance_23 : decode cX11_chance 23 = .ok (.getfield 19, 3) := by decide +kernel
theorem dX11_chance_26 : decode cX11_chance 26 = .ok (.iload_n 1, 1) := by decide +kernel
theorem dX11_chance_27 : decode cX11_chance 27 = .ok (.iaload, 1) := by decide +kernel
theorem dX11_chance_28 : decode cX11_chance 28 = .ok (.istore_n 3, 1) := by decide +kernel
theorem dX11_chance_29 : decode cX11_chance 29 = .ok (.aload_n 0, 1) := by decide +kernel
theorem dX11_chance_30 : decode cX11_chance 30 = .ok (.getfield 19, 3) := by decide +kernel
theorem dX11_chance_33 : decode cX11_chance 33 = .ok (.iload_n 1, 1) := by decide +kernel
theorem dX11_chance_34 : decode cX11_chance 34 = .ok (.iload_n 2, 1) := by decide +kernel
theorem dX11_chance_35 : decode cX11_chance 35 = .ok (.iastore, 1) := by decide +kernel
theorem dX11_chance_36 : decode cX11_chance 36 = .ok (.iload_n 3, 1) := by decide +kernel
theorem dX11_chance_37 : decode cX11_chance 37 = .ok (.ireturn, 1) := by decide +kernel
theorem dX11_rank_0 : decode cX11_rank 0 = .ok (.aload_n 0, 1) := by decide +kernel
theorem dX11_rank_1 : decode cX11_rank 1 = .ok (.iload_n 1, 1) := by decide +kernel
theorem dX11_rank_2 : decode cX11_rank 2 = .ok (.invokevirtual 150, 3) := by decide +kernel
theorem dX11_rank_5 : decode cX11_rank 5 = .ok (.ifCond .eq 15, 3) := by decide +kernel
theorem dX11_rank_8 : decode cX11_rank 8 = .ok (.iload_n 2, 1) := by decide +kernel
theorem dX11_rank_9 : decode cX11_rank 9 = .ok (.i2l, 1) := by decide +kernel
theorem dX11_rank_10 : decode cX11_rank 10 = .ok (.lconst 0, 1) := by decide +kernel
theorem dX11_rank_11 : decode cX11_rank 11 = .ok (.ldc2_w 135, 3) := by decide +kernel
theorem dX11_rank_14 : decode cX11_rank 14 = .ok (.invokestatic 126, 3) := by decide +kernel
theorem dX11_rank_17 : decode cX11_rank 17 = .ok (.ifCond .ne 5, 3) := by decide +kernel
theorem dX11_rank_20 : decode cX11_rank 20 = .ok (.iconst (-1), 1) := by decide +kernel
theorem dX11_rank_21 : decode cX11_rank 21 = .ok (.ireturn, 1) := by decide +kernel
theorem dX11_rank_22 : decode cX11_rank 22 = .ok (.aload_n 0, 1) := by decide +kernel
theorem dX11_rank_23 : decode cX11_rank 23 = .ok (.invokevirtual 139, 3) := by decide +kernel
theorem dX11_rank_26 : decode cX11_rank 26 = .ok (.ifCond .le 6, 3) := by decide +kernel
theorem dX11_rank_29 : decode cX11_rank 29 = .ok (.bipush (-2), 2) := by decide +kernel
theorem dX11_rank_31 : decode cX11_rank 31 = .ok (.ireturn, 1) := by decide +kernel
theorem dX11_rank_32 : decode cX11_rank 32 = .ok (.aload_n 0, 1) := by decide +kernel
theorem dX11_rank_33 : decode cX11_rank 33 = .ok (.getfield 13, 3) := by decide +kernel
theorem dX11_rank_36 : decode cX11_rank 36 = .ok (.iload_n 1, 1) := by decide +kernel
theorem dX11_rank_37 : decode cX11_rank 37 = .ok (.iaload, 1) := by decide +kernel
theorem dX11_rank_38 : decode cX11_rank 38 = .ok (.istore_n 3, 1) := by decide +kernel
theorem dX11_rank_39 : decode cX11_rank 39 = .ok (.aload_n 0, 1) := by decide +kernel
theorem dX11_rank_40 : decode cX11_rank 40 = .ok (.getfield 13, 3) := by decide +kernel
theorem dX11_rank_43 : decode cX11_rank 43 = .ok (.iload_n 1, 1) := by decide +kernel
theorem dX11_rank_44 : decode cX11_rank 44 = .ok (.iload_n 2, 1) := by decide +kernel
theorem dX11_rank_45 : decode cX11_rank 45 = .ok (.iastore, 1) := by decide +kernel
theorem dX11_rank_46 : decode cX11_rank 46 = .ok (.iload_n 3, 1) := by decide +kernel
theorem dX11_rank_47 : decode cX11_rank 47 = .ok (.ireturn, 1) := by decide +kernel
theorem dX11_linksOf_0 : decode cX11_linksOf 0 = .ok (.iconst 0, 1) := by decide +kernel
theorem dX11_linksOf_1 : decode cX11_linksOf 1 = .ok (.istore_n 2, 1) := by decide +kernel
theorem dX11_linksOf_2 : decode cX11_linksOf 2 = .ok (.iconst 0, 1) := by decide +kernel
theorem dX11_linksOf_3 : decode cX11_linksOf 3 = .ok (.istore_n 3, 1) := by decide +kernel
theorem dX11_linksOf_4 : decode cX11_linksOf 4 = .ok (.iload_n 3, 1) := by decide +kernel
theorem dX11_linksOf_5 : decode cX11_linksOf 5 = .ok (.aload_n 0, 1) := by decide +kernel
theorem dX11_linksOf_6 : decode cX11_linksOf 6 = .ok (.getfield 130, 3) := by decide +kernel
theorem dX11_linksOf_9 : decode cX11_linksOf 9 = .ok (.if_icmp .ge 31, 3) := by decide +kernel
theorem dX11_linksOf_12 : decode cX11_linksOf 12 = .ok (.iload_n 2, 1) := by decide +kernel
theorem dX11_linksOf_13 : decode cX11_linksOf 13 = .ok (.aload_n 0, 1) := by decide +kernel
theorem dX11_linksOf_14 : decode cX11_linksOf 14 = .ok (.getfield 22, 3) := by decide +kernel
theorem dX11_linksOf_17 : decode cX11_linksOf 17 = .ok (.bipush 6, 2) := by decide +kernel
theorem dX11_linksOf_19 : decode cX11_linksOf 19 = .ok (.iload_n 3, 1) := by decide +kernel
theorem dX11_linksOf_20 : decode cX11_linksOf 20 = .ok (.imul, 1) := by decide +kernel
theorem dX11_linksOf_21 : decode cX11_linksOf 21 = .ok (.iload_n 1, 1) := by decide +kernel
theorem dX11_linksOf_22 : decode cX11_linksOf 22 = .ok (.iadd, 1) := by decide +kernel
theorem dX11_linksOf_23 : decode cX11_linksOf 23 = .ok (.iaload, 1) := by decide +kernel
theorem dX11_linksOf_24 : decode cX11_linksOf 24 = .ok (.ifCond .le 7, 3) := by decide +kernel
theorem dX11_linksOf_27 : decode cX11_linksOf 27 = .ok (.iconst 1, 1) := by decide +kernel
theorem dX11_linksOf_28 : decode cX11_linksOf 28 = .ok (.goto 4, 3) := by decide +kernel
theorem dX11_linksOf_31 : decode cX11_linksOf 31 = .ok (.iconst 0, 1) := by decide +kernel
theorem dX11_linksOf_32 : decode cX11_linksOf 32 = .ok (.iadd, 1) := by decide +kernel
theorem dX11_linksOf_33 : decode cX11_linksOf 33 = .ok (.istore_n 2, 1) := by decide +kernel
theorem dX11_linksOf_34 : decode cX11_linksOf 34 = .ok (.iinc 3 1, 3) := by decide +kernel
theorem dX11_linksOf_37 : decode cX11_linksOf 37 = .ok (.goto (-33), 3) := by decide +kernel
theorem dX11_linksOf_40 : decode cX11_linksOf 40 = .ok (.iload_n 2, 1) := by decide +kernel
theorem dX11_linksOf_41 : decode cX11_linksOf 41 = .ok (.ireturn, 1) := by decide +kernel
theorem dX11_told_0 : decode cX11_told 0 = .ok (.aload_n 0, 1) := by decide +kernel
theorem dX11_told_1 : decode cX11_told 1 = .ok (.iload_n 1, 1) := by decide +kernel
theorem dX11_told_2 : decode cX11_told 2 = .ok (.invokevirtual 150, 3) := by decide +kernel
theorem dX11_told_5 : decode cX11_told 5 = .ok (.ifCond .eq 15, 3) := by decide +kernel
theorem dX11_told_8 : decode cX11_told 8 = .ok (.iload_n 2, 1) := by decide +kernel
theorem dX11_told_9 : decode cX11_told 9 = .ok (.i2l, 1) := by decide +kernel
theorem dX11_told_10 : decode cX11_told 10 = .ok (.lconst 0, 1) := by decide +kernel
theorem dX11_told_11 : decode cX11_told 11 = .ok (.ldc2_w 155, 3) := by decide +kernel
theorem dX11_told_14 : decode cX11_told 14 = .ok (.invokestatic 126, 3) := by decide +kernel
theorem dX11_told_17 : decode cX11_told 17 = .ok (.ifCond .ne 5, 3) := by decide +kernel
theorem dX11_told_20 : decode cX11_told 20 = .ok (.iconst (-1), 1) := by decide +kernel
theorem dX11_told_21 : decode cX11_told 21 = .ok (.ireturn, 1) := by decide +kernel
theorem dX11_told_22 : decode cX11_told 22 = .ok (.iconst 0, 1) := by decide +kernel
theorem dX11_told_23 : decode cX11_told 23 = .ok (.istore_n 3, 1) := by decide +kernel
theorem dX11_told_24 : decode cX11_told 24 = .ok (.iconst 0, 1) := by decide +kernel
theorem dX11_told_25 : decode cX11_told 25 = .ok (.istore 4, 2) := by decide +kernel
theorem dX11_told_27 : decode cX11_told 27 = .ok (.iconst 0, 1) := by decide +kernel
theorem dX11_told_28 : decode cX11_told 28 = .ok (.istore 5, 2) := by decide +kernel
theorem dX11_told_30 : decode cX11_told 30 = .ok (.iload 5, 2) := by decide +kernel
theorem dX11_told_32 : decode cX11_told 32 = .ok (.aload_n 0, 1) := by decide +kernel
theorem dX11_told_33 : decode cX11_told 33 = .ok (.getfield 130, 3) := by decide +kernel
theorem dX11_told_36 : decode cX11_told 36 = .ok (.if_icmp .ge 52, 3) := by decide +kernel
theorem dX11_told_39 : decode cX11_told 39 = .ok (.iload_n 3, 1) := by decide +kernel
theorem dX11_told_40 : decode cX11_told 40 = .ok (.aload_n 0, 1) := by decide +kernel
theorem dX11_told_41 : decode cX11_told 41 = .ok (.getfield 101, 3) := by decide +kernel
theorem dX11_told_44 : decode cX11_told 44 = .ok (.iload 5, 2) := by decide +kernel
theorem dX11_told_46 : decode cX11_told 46 = .ok (.iaload, 1) := by decide +kernel
theorem dX11_told_47 : decode cX11_told 47 = .ok (.iload_n 1, 1) := by decide +kernel
theorem dX11_told_48 : decode cX11_told 48 = .ok (.if_icmp .ne 10, 3) := by decide +kernel
theorem dX11_told_51 : decode cX11_told 51 = .ok (.iconst 1, 1) := by decide +kernel
theorem dX11_told_52 : decode cX11_told 52 = .ok (.iload 5, 2) := by decide +kernel
theorem dX11_told_54 : decode cX11_told 54 = .ok (.ishl, 1) := by decide +kernel
theorem dX11_told_55 : decode cX11_told 55 = .ok (.goto 4, 3) := by decide +kernel
theorem dX11_told_58 : decode cX11_told 58 = .ok (.iconst 0, 1) := by decide +kernel
theorem dX11_told_59 : decode cX11_told 59 = .ok (.ior, 1) := by decide +kernel
theorem dX11_told_60 : decode cX11_told 60 = .ok (.istore_n 3, 1) := by decide +kernel
theorem dX11_told_61 : decode cX11_told 61 = .ok (.iload 4, 2) := by decide +kernel
theorem dX11_told_63 : decode cX11_told 63 = .ok (.aload_n 0, 1) := by decide +kernel
theorem dX11_told_64 : decode cX11_told 64 = .ok (.getfield 101, 3) := by decide +kernel
theorem dX11_told_67 : decode cX11_told 67 = .ok (.iload 5, 2) := by decide +kernel
theorem dX11_told_69 : decode cX11_told 69 = .ok (.iaload, 1) := by decide +kernel
theorem dX11_told_70 : decode cX11_told 70 = .ok (.iload_n 1, 1) := by decide +kernel
theorem dX11_told_71 : decode cX11_told 71 = .ok (.if_icmp .ne 7, 3) := by decide +kernel
theorem dX11_told_74 : decode cX11_told 74 = .ok (.iconst 1, 1) := by decide +kernel
theorem dX11_told_75 : decode cX11_told 75 = .ok (.goto 4, 3) := by decide +kernel
theorem dX11_told_78 : decode cX11_told 78 = .ok (.iconst 0, 1) := by decide +kernel
theorem dX11_told_79 : decode cX11_told 79 = .ok (.iadd, 1) := by decide +kernel
theorem dX11_told_80 : decode cX11_told 80 = .ok (.istore 4, 2) := by decide +kernel
theorem dX11_told_82 : decode cX11_told 82 = .ok (.iinc 5 1, 3) := by decide +kernel
theorem dX11_told_85 : decode cX11_told 85 = .ok (.goto (-55), 3) := by decide +kernel
theorem dX11_told_88 : decode cX11_told 88 = .ok (.iload_n 2, 1) := by decide +kernel
theorem dX11_told_89 : decode cX11_told 89 = .ok (.tableswitch 79 0 5 #[39, 46, 53, 60, 70, 77], 39) := by decide +kernel
theorem dX11_told_128 : decode cX11_told 128 = .ok (.aload_n 0, 1) := by decide +kernel
theorem dX11_told_129 : decode cX11_told 129 = .ok (.getfield 7, 3) := by decide +kernel
theorem dX11_told_132 : decode cX11_told 132 = .ok (.iload_n 1, 1) := by decide +kernel
theorem dX11_told_133 : decode cX11_told 133 = .ok (.iaload, 1) := by decide +kernel
theorem dX11_told_134 : decode cX11_told 134 = .ok (.ireturn, 1) := by decide +kernel
theorem dX11_told_135 : decode cX11_told 135 = .ok (.aload_n 0, 1) := by decide +kernel
theorem dX11_told_136 : decode cX11_told 136 = .ok (.getfield 13, 3) := by decide +kernel
theorem dX11_told_139 : decode cX11_told 139 = .ok (.iload_n 1, 1) := by decide +kernel
theorem dX11_told_140 : decode cX11_told 140 = .ok (.iaload, 1) := by decide +kernel
theorem dX11_told_141 : decode cX11_told 141 = .ok (.ireturn, 1) := by decide +kernel
theorem dX11_told_142 : decode cX11_told 142 = .ok (.aload_n 0, 1) := by decide +kernel
theorem dX11_told_143 : decode cX11_told 143 = .ok (.getfield 16, 3) := by decide +kernel
theorem dX11_told_146 : decode cX11_told 146 = .ok (.iload_n 1, 1) := by decide +kernel
theorem dX11_told_147 : decode cX11_told 147 = .ok (.iaload, 1) := by decide +kernel
theorem dX11_told_148 : decode cX11_told 148 = .ok (.ireturn, 1) := by decide +kernel
theorem dX11_told_149 : decode cX11_told 149 = .ok (.aload_n 0, 1) := by decide +kernel
theorem dX11_told_150 : decode cX11_told 150 = .ok (.getfield 7, 3) := by decide +kernel
theorem dX11_told_153 : decode cX11_told 153 = .ok (.iload_n 1, 1) := by decide +kernel
theorem dX11_told_154 : decode cX11_told 154 = .ok (.iaload, 1) := by decide +kernel
theorem dX11_told_155 : decode cX11_told 155 = .ok (.iload 4, 2) := by decide +kernel
theorem dX11_told_157 : decode cX11_told 157 = .ok (.isub, 1) := by decide +kernel
theorem dX11_told_158 : decode cX11_told 158 = .ok (.ireturn, 1) := by decide +kernel
theorem dX11_told_159 : decode cX11_told 159 = .ok (.aload_n 0, 1) := by decide +kernel
theorem dX11_told_160 : decode cX11_told 160 = .ok (.getfield 107, 3) := by decide +kernel
theorem dX11_told_163 : decode cX11_told 163 = .ok (.iload_n 1, 1) := by decide +kernel
theorem dX11_told_164 : decode cX11_told 164 = .ok (.iaload, 1) := by decide +kernel
theorem dX11_told_165 : decode cX11_told 165 = .ok (.ireturn, 1) := by decide +kernel
theorem dX11_told_166 : decode cX11_told 166 = .ok (.iload_n 3, 1) := by decide +kernel
theorem dX11_told_167 : decode cX11_told 167 = .ok (.ireturn, 1) := by decide +kernel
theorem dX11_told_168 : decode cX11_told 168 = .ok (.aload_n 0, 1) := by decide +kernel
theorem dX11_told_169 : decode cX11_told 169 = .ok (.iload_n 1, 1) := by decide +kernel
theorem dX11_told_170 : decode cX11_told 170 = .ok (.invokevirtual 157, 3) := by decide +kernel
theorem dX11_told_173 : decode cX11_told 173 = .ok (.ireturn, 1) := by decide +kernel
theorem dX11_feed_0 : decode cX11_feed 0 = .ok (.aload_n 0, 1) := by decide +kernel
theorem dX11_feed_1 : decode cX11_feed 1 = .ok (.getfield 161, 3) := by decide +kernel
theorem dX11_feed_4 : decode cX11_feed 4 = .ok (.bipush 8, 2) := by decide +kernel
theorem dX11_feed_6 : decode cX11_feed 6 = .ok (.iadd, 1) := by decide +kernel
theorem dX11_feed_7 : decode cX11_feed 7 = .ok (.sipush 160, 3) := by decide +kernel
theorem dX11_feed_10 : decode cX11_feed 10 = .ok (.if_icmp .le 6, 3) := by decide +kernel
theorem dX11_feed_13 : decode cX11_feed 13 = .ok (.bipush (-3), 2) := by decide +kernel
theorem dX11_feed_15 : decode cX11_feed 15 = .ok (.ireturn, 1) := by decide +kernel
theorem dX11_feed_16 : decode cX11_feed 16 = .ok (.bipush 56, 2) := by decide +kernel
theorem dX11_feed_18 : decode cX11_feed 18 = .ok (.istore_n 3, 1) := by decide +kernel
theorem dX11_feed_19 : decode cX11_feed 19 = .ok (.iload_n 3, 1) := by decide +kernel
theorem dX11_feed_20 : decode cX11_feed 20 = .ok (.ifCond .lt 36, 3) := by decide +kernel
theorem dX11_feed_23 : decode cX11_feed 23 = .ok (.aload_n 0, 1) := by decide +kernel
theorem dX11_feed_24 : decode cX11_feed 24 = .ok (.getfield 25, 3) := by decide +kernel
theorem dX11_feed_27 : decode cX11_feed 27 = .ok (.aload_n 0, 1) := by decide +kernel
theorem dX11_feed_28 : decode cX11_feed 28 = .ok (.getfield 161, 3) := by decide +kernel
theorem dX11_feed_31 : decode cX11_feed 31 = .ok (.lload_n 1, 1) := by decide +kernel
theorem dX11_feed_32 : decode cX11_feed 32 = .ok (.iload_n 3, 1) := by decide +kernel
theorem dX11_feed_33 : decode cX11_feed 33 = .ok (.lshr, 1) := by decide +kernel
theorem dX11_feed_34 : decode cX11_feed 34 = .ok (.l2i, 1) := by decide +kernel
theorem dX11_feed_35 : decode cX11_feed 35 = .ok (.sipush 255, 3) := by decide +kernel
theorem dX11_feed_38 : decode cX11_feed 38 = .ok (.iand, 1) := by decide +kernel
theorem dX11_feed_39 : decode cX11_feed 39 = .ok (.iastore, 1) := by decide +kernel
theorem dX11_feed_40 : decode cX11_feed 40 = .ok (.aload_n 0, 1) := by decide +kernel
theorem dX11_feed_41 : decode cX11_feed 41 = .ok (.dup, 1) := by decide +kernel
theorem dX11_feed_42 : decode cX11_feed 42 = .ok (.getfield 161, 3) := by decide +kernel
theorem dX11_feed_45 : decode cX11_feed 45 = .ok (.iconst 1, 1) := by decide +kernel
theorem dX11_feed_46 : decode cX11_feed 46 = .ok (.iadd, 1) := by decide +kernel
theorem dX11_feed_47 : decode cX11_feed 47 = .ok (.putfield 161, 3) := by decide +kernel
theorem dX11_feed_50 : decode cX11_feed 50 = .ok (.iinc 3 (-8), 3) := by decide +kernel
theorem dX11_feed_53 : decode cX11_feed 53 = .ok (.goto (-34), 3) := by decide +kernel
theorem dX11_feed_56 : decode cX11_feed 56 = .ok (.aload_n 0, 1) := by decide +kernel
theorem dX11_feed_57 : decode cX11_feed 57 = .ok (.getfield 161, 3) := by decide +kernel
theorem dX11_feed_60 : decode cX11_feed 60 = .ok (.ireturn, 1) := by decide +kernel
theorem dX11_end_0 : decode cX11_end 0 = .ok (.iload_n 1, 1) := by decide +kernel
theorem dX11_end_1 : decode cX11_end 1 = .ok (.i2l, 1) := by decide +kernel
theorem dX11_end_2 : decode cX11_end 2 = .ok (.lconst 0, 1) := by decide +kernel
theorem dX11_end_3 : decode cX11_end 3 = .ok (.aload_n 0, 1) := by decide +kernel
theorem dX11_end_4 : decode cX11_end 4 = .ok (.getfield 161, 3) := by decide +kernel
theorem dX11_end_7 : decode cX11_end 7 = .ok (.i2l, 1) := by decide +kernel
theorem dX11_end_8 : decode cX11_end 8 = .ok (.invokestatic 126, 3) := by decide +kernel
theorem dX11_end_11 : decode cX11_end 11 = .ok (.ifCond .ne 5, 3) := by decide +kernel
theorem dX11_end_14 : decode cX11_end 14 = .ok (.iconst (-1), 1) := by decide +kernel
theorem dX11_end_15 : decode cX11_end 15 = .ok (.ireturn, 1) := by decide +kernel
theorem dX11_end_16 : decode cX11_end 16 = .ok (.aload_n 0, 1) := by decide +kernel
theorem dX11_end_17 : decode cX11_end 17 = .ok (.getfield 161, 3) := by decide +kernel
theorem dX11_end_20 : decode cX11_end 20 = .ok (.istore_n 2, 1) := by decide +kernel
theorem dX11_end_21 : decode cX11_end 21 = .ok (.aload_n 0, 1) := by decide +kernel
theorem dX11_end_22 : decode cX11_end 22 = .ok (.iload_n 1, 1) := by decide +kernel
theorem dX11_end_23 : decode cX11_end 23 = .ok (.putfield 161, 3) := by decide +kernel
theorem dX11_end_26 : decode cX11_end 26 = .ok (.iload_n 2, 1) := by decide +kernel
theorem dX11_end_27 : decode cX11_end 27 = .ok (.ireturn, 1) := by decide +kernel
theorem dX11_byteAt_0 : decode cX11_byteAt 0 = .ok (.iload_n 1, 1) := by decide +kernel
theorem dX11_byteAt_1 : decode cX11_byteAt 1 = .ok (.aload_n 0, 1) := by decide +kernel
theorem dX11_byteAt_2 : decode cX11_byteAt 2 = .ok (.getfield 161, 3) := by decide +kernel
theorem dX11_byteAt_5 : decode cX11_byteAt 5 = .ok (.if_icmp .ge 12, 3) := by decide +kernel
theorem dX11_byteAt_8 : decode cX11_byteAt 8 = .ok (.aload_n 0, 1) := by decide +kernel
theorem dX11_byteAt_9 : decode cX11_byteAt 9 = .ok (.getfield 25, 3) := by decide +kernel
theorem dX11_byteAt_12 : decode cX11_byteAt 12 = .ok (.iload_n 1, 1) := by decide +kernel
theorem dX11_byteAt_13 : decode cX11_byteAt 13 = .ok (.iaload, 1) := by decide +kernel
theorem dX11_byteAt_14 : decode cX11_byteAt 14 = .ok (.goto 5, 3) := by decide +kernel
theorem dX11_byteAt_17 : decode cX11_byteAt 17 = .ok (.bipush (-4), 2) := by decide +kernel
theorem dX11_byteAt_19 : decode cX11_byteAt 19 = .ok (.ireturn, 1) := by decide +kernel
theorem dX11_fails_0 : decode cX11_fails 0 = .ok (.aload_n 0, 1) := by decide +kernel
theorem dX11_fails_1 : decode cX11_fails 1 = .ok (.getfield 164, 3) := by decide +kernel
theorem dX11_fails_4 : decode cX11_fails 4 = .ok (.ifCond .ne 16, 3) := by decide +kernel
theorem dX11_fails_7 : decode cX11_fails 7 = .ok (.aload_n 0, 1) := by decide +kernel
theorem dX11_fails_8 : decode cX11_fails 8 = .ok (.iload_n 1, 1) := by decide +kernel
theorem dX11_fails_9 : decode cX11_fails 9 = .ok (.putfield 164, 3) := by decide +kernel
theorem dX11_fails_12 : decode cX11_fails 12 = .ok (.aload_n 0, 1) := by decide +kernel
theorem dX11_fails_13 : decode cX11_fails 13 = .ok (.aload_n 0, 1) := by decide +kernel
theorem dX11_fails_14 : decode cX11_fails 14 = .ok (.getfield 167, 3) := by decide +kernel
theorem dX11_fails_17 : decode cX11_fails 17 = .ok (.putfield 170, 3) := by decide +kernel
theorem dX11_fails_20 : decode cX11_fails 20 = .ok (.return_, 1) := by decide +kernel
theorem dX11_nameAt_0 : decode cX11_nameAt 0 = .ok (.iconst 0, 1) := by decide +kernel
theorem dX11_nameAt_1 : decode cX11_nameAt 1 = .ok (.istore_n 3, 1) := by decide +kernel
theorem dX11_nameAt_2 : decode cX11_nameAt 2 = .ok (.iload_n 3, 1) := by decide +kernel
theorem dX11_nameAt_3 : decode cX11_nameAt 3 = .ok (.bipush 10, 2) := by decide +kernel
theorem dX11_nameAt_5 : decode cX11_nameAt 5 = .ok (.if_icmp .ge 98, 3) := by decide +kernel
theorem dX11_nameAt_8 : decode cX11_nameAt 8 = .ok (.iload_n 2, 1) := by decide +kernel
theorem dX11_nameAt_9 : decode cX11_nameAt 9 = .ok (.iload_n 1, 1) := by decide +kernel
theorem dX11_nameAt_10 : decode cX11_nameAt 10 = .ok (.isub, 1) := by decide +kernel
theorem dX11_nameAt_11 : decode cX11_nameAt 11 = .ok (.aload_n 0, 1) := by decide +kernel
theorem dX11_nameAt_12 : decode cX11_nameAt 12 = .ok (.getfield 49, 3) := by decide +kernel
theorem dX11_nameAt_15 : decode cX11_nameAt 15 = .ok (.iload_n 3, 1) := by decide +kernel
theorem dX11_nameAt_16 : decode cX11_nameAt 16 = .ok (.iconst 1, 1) := by decide +kernel
theorem dX11_nameAt_17 : decode cX11_nameAt 17 = .ok (.iadd, 1) := by decide +kernel
theorem dX11_nameAt_18 : decode cX11_nameAt 18 = .ok (.iaload, 1) := by decide +kernel
theorem dX11_nameAt_19 : decode cX11_nameAt 19 = .ok (.aload_n 0, 1) := by decide +kernel
theorem dX11_nameAt_20 : decode cX11_nameAt 20 = .ok (.getfield 49, 3) := by decide +kernel
theorem dX11_nameAt_23 : decode cX11_nameAt 23 = .ok (.iload_n 3, 1) := by decide +kernel
theorem dX11_nameAt_24 : decode cX11_nameAt 24 = .ok (.iaload, 1) := by decide +kernel
theorem dX11_nameAt_25 : decode cX11_nameAt 25 = .ok (.isub, 1) := by decide +kernel
theorem dX11_nameAt_26 : decode cX11_nameAt 26 = .ok (.if_icmp .ne 7, 3) := by decide +kernel
theorem dX11_nameAt_29 : decode cX11_nameAt 29 = .ok (.iconst 1, 1) := by decide +kernel
theorem dX11_nameAt_30 : decode cX11_nameAt 30 = .ok (.goto 4, 3) := by decide +kernel
theorem dX11_nameAt_33 : decode cX11_nameAt 33 = .ok (.iconst 0, 1) := by decide +kernel
theorem dX11_nameAt_34 : decode cX11_nameAt 34 = .ok (.istore 4, 2) := by decide +kernel
theorem dX11_nameAt_36 : decode cX11_nameAt 36 = .ok (.iconst 0, 1) := by decide +kernel
theorem dX11_nameAt_37 : decode cX11_nameAt 37 = .ok (.istore 5, 2) := by decide +kernel
theorem dX11_nameAt_39 : decode cX11_nameAt 39 = .ok (.iload 5, 2) := by decide +kernel
theorem dX11_nameAt_41 : decode cX11_nameAt 41 = .ok (.iload_n 2, 1) := by decide +kernel
theorem dX11_nameAt_42 : decode cX11_nameAt 42 = .ok (.iload_n 1, 1) := by decide +kernel
theorem dX11_nameAt_43 : decode cX11_nameAt 43 = .ok (.isub, 1) := by decide +kernel
theorem dX11_nameAt_44 : decode cX11_nameAt 44 = .ok (.if_icmp .ge 46, 3) := by decide +kernel
theorem dX11_nameAt_47 : decode cX11_nameAt 47 = .ok (.iload 4, 2) := by decide +kernel
theorem dX11_nameAt_49 : decode cX11_nameAt 49 = .ok (.ifCond .eq 41, 3) := by decide +kernel
theorem dX11_nameAt_52 : decode cX11_nameAt 52 = .ok (.aload_n 0, 1) := by decide +kernel
theorem dX11_nameAt_53 : decode cX11_nameAt 53 = .ok (.iload_n 1, 1) := by decide +kernel
theorem dX11_nameAt_54 : decode cX11_nameAt 54 = .ok (.iload 5, 2) := by decide +kernel
theorem dX11_nameAt_56 : decode cX11_nameAt 56 = .ok (.iadd, 1) := by decide +kernel
theorem dX11_nameAt_57 : decode cX11_nameAt 57 = .ok (.invokevirtual 173, 3) := by decide +kernel
theorem dX11_nameAt_60 : decode cX11_nameAt 60 = .ok (.aload_n 0, 1) := by decide +kernel
theorem dX11_nameAt_61 : decode cX11_nameAt 61 = .ok (.getfield 52, 3) := by decide +kernel
theorem dX11_nameAt_64 : decode cX11_nameAt 64 = .ok (.aload_n 0, 1) := by decide +kernel
theorem dX11_nameAt_65 : decode cX11_nameAt 65 = .ok (.getfield 49, 3) := by decide +kernel
theorem dX11_nameAt_68 : decode cX11_nameAt 68 = .ok (.iload_n 3, 1) := by decide +kernel
theorem dX11_nameAt_69 : decode cX11_nameAt 69 = .ok (.iaload, 1) := by decide +kernel
theorem dX11_nameAt_70 : decode cX11_nameAt 70 = .ok (.iload 5, 2) := by decide +kernel
theorem dX11_nameAt_72 : decode cX11_nameAt 72 = .ok (.iadd, 1) := by decide +kernel
theorem dX11_nameAt_73 : decode cX11_nameAt 73 = .ok (.iaload, 1) := by decide +kernel
theorem dX11_nameAt_74 : decode cX11_nameAt 74 = .ok (.if_icmp .ne 7, 3) := by decide +kernel
theorem dX11_nameAt_77 : decode cX11_nameAt 77 = .ok (.iconst 1, 1) := by decide +kernel
theorem dX11_nameAt_78 : decode cX11_nameAt 78 = .ok (.goto 4, 3) := by decide +kernel
theorem dX11_nameAt_81 : decode cX11_nameAt 81 = .ok (.iconst 0, 1) := by decide +kernel
theorem dX11_nameAt_82 : decode cX11_nameAt 82 = .ok (.istore 4, 2) := by decide +kernel
theorem dX11_nameAt_84 : decode cX11_nameAt 84 = .ok (.iinc 5 1, 3) := by decide +kernel
theorem dX11_nameAt_87 : decode cX11_nameAt 87 = .ok (.goto (-48), 3) := by decide +kernel
theorem dX11_nameAt_90 : decode cX11_nameAt 90 = .ok (.iload 4, 2) := by decide +kernel
theorem dX11_nameAt_92 : decode cX11_nameAt 92 = .ok (.ifCond .eq 5, 3) := by decide +kernel
theorem dX11_nameAt_95 : decode cX11_nameAt 95 = .ok (.iload_n 3, 1) := by decide +kernel
theorem dX11_nameAt_96 : decode cX11_nameAt 96 = .ok (.ireturn, 1) := by decide +kernel
theorem dX11_nameAt_97 : decode cX11_nameAt 97 = .ok (.iinc 3 1, 3) := by decide +kernel
theorem dX11_nameAt_100 : decode cX11_nameAt 100 = .ok (.goto (-98), 3) := by decide +kernel
theorem dX11_nameAt_103 : decode cX11_nameAt 103 = .ok (.bipush (-4), 2) := by decide +kernel
theorem dX11_nameAt_105 : decode cX11_nameAt 105 = .ok (.ireturn, 1) := by decide +kernel
theorem dX11_next_0 : decode cX11_next 0 = .ok (.aload_n 0, 1) := by decide +kernel
theorem dX11_next_1 : decode cX11_next 1 = .ok (.getfield 164, 3) := by decide +kernel
theorem dX11_next_4 : decode cX11_next 4 = .ok (.ifCond .le 4, 3) := by decide +kernel
theorem dX11_next_7 : decode cX11_next 7 = .ok (.return_, 1) := by decide +kernel
theorem dX11_next_8 : decode cX11_next 8 = .ok (.aload_n 0, 1) := by decide +kernel
theorem dX11_next_9 : decode cX11_next 9 = .ok (.aload_n 0, 1) := by decide +kernel
theorem dX11_next_10 : decode cX11_next 10 = .ok (.getfield 176, 3) := by decide +kernel
theorem dX11_next_13 : decode cX11_next 13 = .ok (.invokevirtual 173, 3) := by decide +kernel
theorem dX11_next_16 : decode cX11_next 16 = .ok (.bipush 32, 2) := by decide +kernel
theorem dX11_next_18 : decode cX11_next 18 = .ok (.if_icmp .ne 16, 3) := by decide +kernel
theorem dX11_next_21 : decode cX11_next 21 = .ok (.aload_n 0, 1) := by decide +kernel
theorem dX11_next_22 : decode cX11_next 22 = .ok (.dup, 1) := by decide +kernel
theorem dX11_next_23 : decode cX11_next 23 = .ok (.getfield 176, 3) := by decide +kernel
theorem dX11_next_26 : decode cX11_next 26 = .ok (.iconst 1, 1) := by decide +kernel
theorem dX11_next_27 : decode cX11_next 27 = .ok (.iadd, 1) := by decide +kernel
theorem dX11_next_28 : decode cX11_next 28 = .ok (.putfield 176, 3) := by decide +kernel
theorem dX11_next_31 : decode cX11_next 31 = .ok (.goto (-23), 3) := by decide +kernel
theorem dX11_next_34 : decode cX11_next 34 = .ok (.aload_n 0, 1) := by decide +kernel
theorem dX11_next_35 : decode cX11_next 35 = .ok (.aload_n 0, 1) := by decide +kernel
theorem dX11_next_36 : decode cX11_next 36 = .ok (.getfield 176, 3) := by decide +kernel
theorem dX11_next_39 : decode cX11_next 39 = .ok (.putfield 167, 3) := by decide +kernel
theorem dX11_next_42 : decode cX11_next 42 = .ok (.aload_n 0, 1) := by decide +kernel
theorem dX11_next_43 : decode cX11_next 43 = .ok (.aload_n 0, 1) := by decide +kernel
theorem dX11_next_44 : decode cX11_next 44 = .ok (.getfield 176, 3) := by decide +kernel
theorem dX11_next_47 : decode cX11_next 47 = .ok (.invokevirtual 173, 3) := by decide +kernel
theorem dX11_next_50 : decode cX11_next 50 = .ok (.istore_n 1, 1) := by decide +kernel
theorem dX11_next_51 : decode cX11_next 51 = .ok (.aload_n 0, 1) := by decide +kernel
theorem dX11_next_52 : decode cX11_next 52 = .ok (.iconst 0, 1) := by decide +kernel
theorem dX11_next_53 : decode cX11_next 53 = .ok (.putfield 179, 3) := by decide +kernel
theorem dX11_next_56 : decode cX11_next 56 = .ok (.iload_n 1, 1) := by decide +kernel
theorem dX11_next_57 : decode cX11_next 57 = .ok (.bipush (-4), 2) := by decide +kernel
theorem dX11_next_59 : decode cX11_next 59 = .ok (.if_icmp .ne 11, 3) := by decide +kernel
theorem dX11_next_62 : decode cX11_next 62 = .ok (.aload_n 0, 1) := by decide +kernel
theorem dX11_next_63 : decode cX11_next 63 = .ok (.iconst 0, 1) := by decide +kernel
theorem dX11_next_64 : decode cX11_next 64 = .ok (.putfield 182, 3) := by decide +kernel
theorem dX11_next_67 : decode cX11_next 67 = .ok (.goto 267, 3) := by decide +kernel
theorem dX11_next_70 : decode cX11_next 70 = .ok (.iload_n 1, 1) := by decide +kernel
theorem dX11_next_71 : decode cX11_next 71 = .ok (.i2l, 1) := by decide +kernel
theorem dX11_next_72 : decode cX11_next 72 = .ok (.ldc2_w 185, 3) := by decide +kernel
theorem dX11_next_75 : decode cX11_next 75 = .ok (.ldc2_w 187, 3) := by decide +kernel
theorem dX11_next_78 : decode cX11_next 78 = .ok (.invokestatic 126, 3) := by decide +kernel
theorem dX11_next_81 : decode cX11_next 81 = .ok (.ifCond .eq 75, 3) := by decide +kernel
theorem dX11_next_84 : decode cX11_next 84 = .ok (.aload_n 0, 1) := by decide +kernel
theorem dX11_next_85 : decode cX11_next 85 = .ok (.aload_n 0, 1) := by decide +kernel
theorem dX11_next_86 : decode cX11_next 86 = .ok (.getfield 176, 3) := by decide +kernel
theorem dX11_next_89 : decode cX11_next 89 = .ok (.invokevirtual 173, 3) := by decide +kernel
theorem dX11_next_92 : decode cX11_next 92 = .ok (.i2l, 1) := by decide +kernel
theorem dX11_next_93 : decode cX11_next 93 = .ok (.ldc2_w 185, 3) := by decide +kernel
theorem dX11_next_96 : decode cX11_next 96 = .ok (.ldc2_w 187, 3) := by decide +kernel
theorem dX11_next_99 : decode cX11_next 99 = .ok (.invokestatic 126, 3) := by decide +kernel
theorem dX11_next_102 : decode cX11_next 102 = .ok (.ifCond .eq 16, 3) := by decide +kernel
theorem dX11_next_105 : decode cX11_next 105 = .ok (.aload_n 0, 1) := by decide +kernel
theorem dX11_next_106 : decode cX11_next 106 = .ok (.dup, 1) := by decide +kernel
theorem dX11_next_107 : decode cX11_next 107 = .ok (.getfield 176, 3) := by decide +kernel
theorem dX11_next_110 : decode cX11_next 110 = .ok (.iconst 1, 1) := by decide +kernel
theorem dX11_next_111 : decode cX11_next 111 = .ok (.iadd, 1) := by decide +kernel
theorem dX11_next_112 : decode cX11_next 112 = .ok (.putfield 176, 3) := by decide +kernel
theorem dX11_next_115 : decode cX11_next 115 = .ok (.goto (-31), 3) := by decide +kernel
theorem dX11_next_118 : decode cX11_next 118 = .ok (.aload_n 0, 1) := by decide +kernel
theorem dX11_next_119 : decode cX11_next 119 = .ok (.iconst 1, 1) := by decide +kernel
theorem dX11_next_120 : decode cX11_next 120 = .ok (.putfield 182, 3) := by decide +kernel
theorem dX11_next_123 : decode cX11_next 123 = .ok (.aload_n 0, 1) := by decide +kernel
theorem dX11_next_124 : decode cX11_next 124 = .ok (.aload_n 0, 1) := by decide +kernel
theorem dX11_next_125 : decode cX11_next 125 = .ok (.aload_n 0, 1) := by decide +kernel
theorem dX11_next_126 : decode cX11_next 126 = .ok (.getfield 167, 3) := by decide +kernel
theorem dX11_next_129 : decode cX11_next 129 = .ok (.aload_n 0, 1) := by decide +kernel
theorem dX11_next_130 : decode cX11_next 130 = .ok (.getfield 176, 3) := by decide +kernel
theorem dX11_next_133 : decode cX11_next 133 = .ok (.invokevirtual 189, 3) := by decide +kernel
theorem dX11_next_136 : decode cX11_next 136 = .ok (.putfield 179, 3) := by decide +kernel
theorem dX11_next_139 : decode cX11_next 139 = .ok (.aload_n 0, 1) := by decide +kernel
theorem dX11_next_140 : decode cX11_next 140 = .ok (.getfield 179, 3) := by decide +kernel
theorem dX11_next_143 : decode cX11_next 143 = .ok (.bipush (-4), 2) := by decide +kernel
theorem dX11_next_145 : decode cX11_next 145 = .ok (.if_icmp .ne 189, 3) := by decide +kernel
theorem dX11_next_148 : decode cX11_next 148 = .ok (.aload_n 0, 1) := by decide +kernel
theorem dX11_next_149 : decode cX11_next 149 = .ok (.iconst 1, 1) := by decide +kernel
theorem dX11_next_150 : decode cX11_next 150 = .ok (.invokevirtual 193, 3) := by decide +kernel
theorem dX11_next_153 : decode cX11_next 153 = .ok (.goto 181, 3) := by decide +kernel
theorem dX11_next_156 : decode cX11_next 156 = .ok (.iload_n 1, 1) := by decide +kernel
theorem dX11_next_157 : decode cX11_next 157 = .ok (.i2l, 1) := by decide +kernel
theorem dX11_next_158 : decode cX11_next 158 = .ok (.ldc2_w 197, 3) := by decide +kernel
theorem dX11_next_161 : decode cX11_next 161 = .ok (.ldc2_w 199, 3) := by decide +kernel
theorem dX11_next_164 : decode cX11_next 164 = .ok (.invokestatic 126, 3) := by decide +kernel
theorem dX11_next_167 : decode cX11_next 167 = .ok (.ifCond .eq 106, 3) := by decide +kernel
theorem dX11_next_170 : decode cX11_next 170 = .ok (.aload_n 0, 1) := by decide +kernel
theorem dX11_next_171 : decode cX11_next 171 = .ok (.aload_n 0, 1) := by decide +kernel
theorem dX11_next_172 : decode cX11_next 172 = .ok (.getfield 176, 3) := by decide +kernel
theorem dX11_next_175 : decode cX11_next 175 = .ok (.invokevirtual 173, 3) := by decide +kernel
theorem dX11_next_178 : decode cX11_next 178 = .ok (.i2l, 1) := by decide +kernel
theorem dX11_next_179 : decode cX11_next 179 = .ok (.ldc2_w 197, 3) := by decide +kernel
theorem dX11_next_182 : decode cX11_next 182 = .ok (.ldc2_w 199, 3) := by decide +kernel
theorem dX11_next_185 : decode cX11_next 185 = .ok (.invokestatic 126, 3) := by decide +kernel
theorem dX11_next_188 : decode cX11_next 188 = .ok (.ifCond .eq 59, 3) := by decide +kernel
theorem dX11_next_191 : decode cX11_next 191 = .ok (.aload_n 0, 1) := by decide +kernel
theorem dX11_next_192 : decode cX11_next 192 = .ok (.aload_n 0, 1) := by decide +kernel
theorem dX11_next_193 : decode cX11_next 193 = .ok (.getfield 176, 3) := by decide +kernel
theorem dX11_next_196 : decode cX11_next 196 = .ok (.aload_n 0, 1) := by decide +kernel
theorem dX11_next_197 : decode cX11_next 197 = .ok (.getfield 167, 3) := by decide +kernel
theorem dX11_next_200 : decode cX11_next 200 = .ok (.isub, 1) := by decide +kernel
theorem dX11_next_201 : decode cX11_next 201 = .ok (.iconst 3, 1) := by decide +kernel
theorem dX11_next_202 : decode cX11_next 202 = .ok (.if_icmp .ge 25, 3) := by decide +kernel
theorem dX11_next_205 : decode cX11_next 205 = .ok (.bipush 10, 2) := by decide +kernel
theorem dX11_next_207 : decode cX11_next 207 = .ok (.aload_n 0, 1) := by decide +kernel
theorem dX11_next_208 : decode cX11_next 208 = .ok (.getfield 179, 3) := by decide +kernel
theorem dX11_next_211 : decode cX11_next 211 = .ok (.imul, 1) := by decide +kernel
theorem dX11_next_212 : decode cX11_next 212 = .ok (.aload_n 0, 1) := by decide +kernel
theorem dX11_next_213 : decode cX11_next 213 = .ok (.aload_n 0, 1) := by decide +kernel
theorem dX11_next_214 : decode cX11_next 214 = .ok (.getfield 176, 3) := by decide +kernel
theorem dX11_next_217 : decode cX11_next 217 = .ok (.invokevirtual 173, 3) := by decide +kernel
theorem dX11_next_220 : decode cX11_next 220 = .ok (.iadd, 1) := by decide +kernel
theorem dX11_next_221 : decode cX11_next 221 = .ok (.bipush 48, 2) := by decide +kernel
theorem dX11_next_223 : decode cX11_next 223 = .ok (.isub, 1) := by decide +kernel
theorem dX11_next_224 : decode cX11_next 224 = .ok (.goto 7, 3) := by decide +kernel
theorem dX11_next_227 : decode cX11_next 227 = .ok (.aload_n 0, 1) := by decide +kernel
theorem dX11_next_228 : decode cX11_next 228 = .ok (.getfield 179, 3) := by decide +kernel
theorem dX11_next_231 : decode cX11_next 231 = .ok (.putfield 179, 3) := by decide +kernel
theorem dX11_next_234 : decode cX11_next 234 = .ok (.aload_n 0, 1) := by decide +kernel
theorem dX11_next_235 : decode cX11_next 235 = .ok (.dup, 1) := by decide +kernel
theorem dX11_next_236 : decode cX11_next 236 = .ok (.getfield 176, 3) := by decide +kernel
theorem dX11_next_239 : decode cX11_next 239 = .ok (.iconst 1, 1) := by decide +kernel
theorem dX11_next_240 : decode cX11_next 240 = .ok (.iadd, 1) := by decide +kernel
theorem dX11_next_241 : decode cX11_next 241 = .ok (.putfield 176, 3) := by decide +kernel
theorem dX11_next_244 : decode cX11_next 244 = .ok (.goto (-74), 3) := by decide +kernel
theorem dX11_next_247 : decode cX11_next 247 = .ok (.aload_n 0, 1) := by decide +kernel
theorem dX11_next_248 : decode cX11_next 248 = .ok (.iconst 2, 1) := by decide +kernel
theorem dX11_next_249 : decode cX11_next 249 = .ok (.putfield 182, 3) := by decide +kernel
theorem dX11_next_252 : decode cX11_next 252 = .ok (.aload_n 0, 1) := by decide +kernel
theorem dX11_next_253 : decode cX11_next 253 = .ok (.getfield 176, 3) := by decide +kernel
theorem dX11_next_256 : decode cX11_next 256 = .ok (.aload_n 0, 1) := by decide +kernel
theorem dX11_next_257 : decode cX11_next 257 = .ok (.getfield 167, 3) := by decide +kernel
theorem dX11_next_260 : decode cX11_next 260 = .ok (.isub, 1) := by decide +kernel
theorem dX11_next_261 : decode cX11_next 261 = .ok (.iconst 3, 1) := by decide +kernel
theorem dX11_next_262 : decode cX11_next 262 = .ok (.if_icmp .le 72, 3) := by decide +kernel
theorem dX11_next_265 : decode cX11_next 265 = .ok (.aload_n 0, 1) := by decide +kernel
theorem dX11_next_266 : decode cX11_next 266 = .ok (.iconst 1, 1) := by decide +kernel
theorem dX11_next_267 : decode cX11_next 267 = .ok (.invokevirtual 193, 3) := by decide +kernel
theorem dX11_next_270 : decode cX11_next 270 = .ok (.goto 64, 3) := by decide +kernel
theorem dX11_next_273 : decode cX11_next 273 = .ok (.aload_n 0, 1) := by decide +kernel
theorem dX11_next_274 : decode cX11_next 274 = .ok (.iconst 3, 1) := by decide +kernel
theorem dX11_next_275 : decode cX11_next 275 = .ok (.putfield 182, 3) := by decide +kernel
theorem dX11_next_278 : decode cX11_next 278 = .ok (.aload_n 0, 1) := by decide +kernel
theorem dX11_next_279 : decode cX11_next 279 = .ok (.iload_n 1, 1) := by decide +kernel
theorem dX11_next_280 : decode cX11_next 280 = .ok (.putfield 179, 3) := by decide +kernel
theorem dX11_next_283 : decode cX11_next 283 = .ok (.aload_n 0, 1) := by decide +kernel
theorem dX11_next_284 : decode cX11_next 284 = .ok (.dup, 1) := by decide +kernel
theorem dX11_next_285 : decode cX11_next 285 = .ok (.getfield 176, 3) := by decide +kernel
theorem dX11_next_288 : decode cX11_next 288 = .ok (.iconst 1, 1) := by decide +kernel
theorem dX11_next_289 : decode cX11_next 289 = .ok (.iadd, 1) := by decide +kernel
theorem dX11_next_290 : decode cX11_next 290 = .ok (.putfield 176, 3) := by decide +kernel
theorem dX11_next_293 : decode cX11_next 293 = .ok (.iload_n 1, 1) := by decide +kernel
theorem dX11_next_294 : decode cX11_next 294 = .ok (.bipush 43, 2) := by decide +kernel
theorem dX11_next_296 : decode cX11_next 296 = .ok (.if_icmp .eq 38, 3) := by decide +kernel
theorem dX11_next_299 : decode cX11_next 299 = .ok (.iload_n 1, 1) := by decide +kernel
theorem dX11_next_300 : decode cX11_next 300 = .ok (.bipush 45, 2) := by decide +kernel
theorem dX11_next_302 : decode cX11_next 302 = .ok (.if_icmp .eq 32, 3) := by decide +kernel
theorem dX11_next_305 : decode cX11_next 305 = .ok (.iload_n 1, 1) := by decide +kernel
theorem dX11_next_306 : decode cX11_next 306 = .ok (.bipush 44, 2) := by decide +kernel
theorem dX11_next_308 : decode cX11_next 308 = .ok (.if_icmp .eq 26, 3) := by decide +kernel
theorem dX11_next_311 : decode cX11_next 311 = .ok (.iload_n 1, 1) := by decide +kernel
theorem dX11_next_312 : decode cX11_next 312 = .ok (.bipush 60, 2) := by decide +kernel
theorem dX11_next_314 : decode cX11_next 314 = .ok (.if_icmp .eq 20, 3) := by decide +kernel
theorem dX11_next_317 : decode cX11_next 317 = .ok (.iload_n 1, 1) := by decide +kernel
theorem dX11_next_318 : decode cX11_next 318 = .ok (.bipush 62, 2) := by decide +kernel
theorem dX11_next_320 : decode cX11_next 320 = .ok (.if_icmp .eq 14, 3) := by decide +kernel
theorem dX11_next_323 : decode cX11_next 323 = .ok (.iload_n 1, 1) := by decide +kernel
theorem dX11_next_324 : decode cX11_next 324 = .ok (.bipush 59, 2) := by decide +kernel
theorem dX11_next_326 : decode cX11_next 326 = .ok (.if_icmp .eq 8, 3) := by decide +kernel
theorem dX11_next_329 : decode cX11_next 329 = .ok (.aload_n 0, 1) := by decide +kernel
theorem dX11_next_330 : decode cX11_next 330 = .ok (.iconst 1, 1) := by decide +kernel
theorem dX11_next_331 : decode cX11_next 331 = .ok (.invokevirtual 193, 3) := by decide +kernel
theorem dX11_next_334 : decode cX11_next 334 = .ok (.return_, 1) := by decide +kernel
theorem dX11_isName_0 : decode cX11_isName 0 = .ok (.aload_n 0, 1) := by decide +kernel
theorem dX11_isName_1 : decode cX11_isName 1 = .ok (.getfield 182, 3) := by decide +kernel
theorem dX11_isName_4 : decode cX11_isName 4 = .ok (.iconst 1, 1) := by decide +kernel
theorem dX11_isName_5 : decode cX11_isName 5 = .ok (.if_icmp .ne 15, 3) := by decide +kernel
theorem dX11_isName_8 : decode cX11_isName 8 = .ok (.aload_n 0, 1) := by decide +kernel
theorem dX11_isName_9 : decode cX11_isName 9 = .ok (.getfield 179, 3) := by decide +kernel
theorem dX11_isName_12 : decode cX11_isName 12 = .ok (.iload_n 1, 1) := by decide +kernel
theorem dX11_isName_13 : decode cX11_isName 13 = .ok (.if_icmp .ne 7, 3) := by decide +kernel
theorem dX11_isName_16 : decode cX11_isName 16 = .ok (.iconst 1, 1) := by decide +kernel
theorem dX11_isName_17 : decode cX11_isName 17 = .ok (.goto 4, 3) := by decide +kernel
theorem dX11_isName_20 : decode cX11_isName 20 = .ok (.iconst 0, 1) := by decide +kernel
theorem dX11_isName_21 : decode cX11_isName 21 = .ok (.ireturn, 1) := by decide +kernel
theorem dX11_isSign_0 : decode cX11_isSign 0 = .ok (.aload_n 0, 1) := by decide +kernel
theorem dX11_isSign_1 : decode cX11_isSign 1 = .ok (.getfield 182, 3) := by decide +kernel
theorem dX11_isSign_4 : decode cX11_isSign 4 = .ok (.iconst 3, 1) := by decide +kernel
theorem dX11_isSign_5 : decode cX11_isSign 5 = .ok (.if_icmp .ne 15, 3) := by decide +kernel
theorem dX11_isSign_8 : decode cX11_isSign 8 = .ok (.aload_n 0, 1) := by decide +kernel
theorem dX11_isSign_9 : decode cX11_isSign 9 = .ok (.getfield 179, 3) := by decide +kernel
theorem dX11_isSign_12 : decode cX11_isSign 12 = .ok (.iload_n 1, 1) := by decide +kernel
theorem dX11_isSign_13 : decode cX11_isSign 13 = .ok (.if_icmp .ne 7, 3) := by decide +kernel
theorem dX11_isSign_16 : decode cX11_isSign 16 = .ok (.iconst 1, 1) := by decide +kernel
theorem dX11_isSign_17 : decode cX11_isSign 17 = .ok (.goto 4, 3) := by decide +kernel
theorem dX11_isSign_20 : decode cX11_isSign 20 = .ok (.iconst 0, 1) := by decide +kernel
theorem dX11_isSign_21 : decode cX11_isSign 21 = .ok (.ireturn, 1) := by decide +kernel
theorem dX11_isKey_0 : decode cX11_isKey 0 = .ok (.aload_n 0, 1) := by decide +kernel
theorem dX11_isKey_1 : decode cX11_isKey 1 = .ok (.getfield 182, 3) := by decide +kernel
theorem dX11_isKey_4 : decode cX11_isKey 4 = .ok (.iconst 1, 1) := by decide +kernel
theorem dX11_isKey_5 : decode cX11_isKey 5 = .ok (.if_icmp .ne 15, 3) := by decide +kernel
theorem dX11_isKey_8 : decode cX11_isKey 8 = .ok (.aload_n 0, 1) := by decide +kernel
theorem dX11_isKey_9 : decode cX11_isKey 9 = .ok (.getfield 179, 3) := by decide +kernel
theorem dX11_isKey_12 : decode cX11_isKey 12 = .ok (.iconst 5, 1) := by decide +kernel
theorem dX11_isKey_13 : decode cX11_isKey 13 = .ok (.if_icmp .gt 7, 3) := by decide +kernel
theorem dX11_isKey_16 : decode cX11_isKey 16 = .ok (.iconst 1, 1) := by decide +kernel
theorem dX11_isKey_17 : decode cX11_isKey 17 = .ok (.goto 4, 3) := by decide +kernel
theorem dX11_isKey_20 : decode cX11_isKey 20 = .ok (.iconst 0, 1) := by decide +kernel
theorem dX11_isKey_21 : decode cX11_isKey 21 = .ok (.ireturn, 1) := by decide +kernel
theorem dX11_key_0 : decode cX11_key 0 = .ok (.aload_n 0, 1) := by decide +kernel
theorem dX11_key_1 : decode cX11_key 1 = .ok (.bipush 45, 2) := by decide +kernel
theorem dX11_key_3 : decode cX11_key 3 = .ok (.invokevirtual 201, 3) := by decide +kernel
theorem dX11_key_6 : decode cX11_key 6 = .ok (.istore_n 1, 1) := by decide +kernel
theorem dX11_key_7 : decode cX11_key 7 = .ok (.iload_n 1, 1) := by decide +kernel
theorem dX11_key_8 : decode cX11_key 8 = .ok (.ifCond .ne 17, 3) := by decide +kernel
theorem dX11_key_11 : decode cX11_key 11 = .ok (.aload_n 0, 1) := by decide +kernel
theorem dX11_key_12 : decode cX11_key 12 = .ok (.bipush 43, 2) := by decide +kernel
theorem dX11_key_14 : decode cX11_key 14 = .ok (.invokevirtual 201, 3) := by decide +kernel
theorem dX11_key_17 : decode cX11_key 17 = .ok (.ifCond .ne 8, 3) := by decide +kernel
theorem dX11_key_20 : decode cX11_key 20 = .ok (.aload_n 0, 1) := by decide +kernel
theorem dX11_key_21 : decode cX11_key 21 = .ok (.iconst 2, 1) := by decide +kernel
theorem dX11_key_22 : decode cX11_key 22 = .ok (.invokevirtual 193, 3) := by decide +kernel
theorem dX11_key_25 : decode cX11_key 25 = .ok (.aload_n 0, 1) := by decide +kernel
theorem dX11_key_26 : decode cX11_key 26 = .ok (.invokevirtual 204, 3) := by decide +kernel
theorem dX11_key_29 : decode cX11_key 29 = .ok (.aload_n 0, 1) := by decide +kernel
theorem dX11_key_30 : decode cX11_key 30 = .ok (.getfield 164, 3) := by decide +kernel
theorem dX11_key_33 : decode cX11_key 33 = .ok (.ifCond .ne 15, 3) := by decide +kernel
theorem dX11_key_36 : decode cX11_key 36 = .ok (.aload_n 0, 1) := by decide +kernel
theorem dX11_key_37 : decode cX11_key 37 = .ok (.invokevirtual 207, 3) := by decide +kernel
theorem dX11_key_40 : decode cX11_key 40 = .ok (.ifCond .ne 8, 3) := by decide +kernel
theorem dX11_key_43 : decode cX11_key 43 = .ok (.aload_n 0, 1) := by decide +kernel
theorem dX11_key_44 : decode cX11_key 44 = .ok (.iconst 2, 1) := by decide +kernel
theorem dX11_key_45 : decode cX11_key 45 = .ok (.invokevirtual 193, 3) := by decide +kernel
theorem dX11_key_48 : decode cX11_key 48 = .ok (.iconst 0, 1) := by decide +kernel
theorem dX11_key_49 : decode cX11_key 49 = .ok (.istore_n 2, 1) := by decide +kernel
theorem dX11_key_50 : decode cX11_key 50 = .ok (.iload_n 2, 1) := by decide +kernel
theorem dX11_key_51 : decode cX11_key 51 = .ok (.aload_n 0, 1) := by decide +kernel
theorem dX11_key_52 : decode cX11_key 52 = .ok (.getfield 28, 3) := by decide +kernel
theorem dX11_key_55 : decode cX11_key 55 = .ok (.aload_n 0, 1) := by decide +kernel
theorem dX11_key_56 : decode cX11_key 56 = .ok (.getfield 211, 3) := by decide +kernel
theorem dX11_key_59 : decode cX11_key 59 = .ok (.iaload, 1) := by decide +kernel
theorem dX11_key_60 : decode cX11_key 60 = .ok (.if_icmp .ge 45, 3) := by decide +kernel
theorem dX11_key_63 : decode cX11_key 63 = .ok (.aload_n 0, 1) := by decide +kernel
theorem dX11_key_64 : decode cX11_key 64 = .ok (.getfield 164, 3) := by decide +kernel
theorem dX11_key_67 : decode cX11_key 67 = .ok (.ifCond .ne 38, 3) := by decide +kernel
theorem dX11_key_70 : decode cX11_key 70 = .ok (.aload_n 0, 1) := by decide +kernel
theorem dX11_key_71 : decode cX11_key 71 = .ok (.getfield 31, 3) := by decide +kernel
theorem dX11_key_74 : decode cX11_key 74 = .ok (.bipush 6, 2) := by decide +kernel
theorem dX11_key_76 : decode cX11_key 76 = .ok (.aload_n 0, 1) := by decide +kernel
theorem dX11_key_77 : decode cX11_key 77 = .ok (.getfield 211, 3) := by decide +kernel
theorem dX11_key_80 : decode cX11_key 80 = .ok (.imul, 1) := by decide +kernel
theorem dX11_key_81 : decode cX11_key 81 = .ok (.iload_n 2, 1) := by decide +kernel
theorem dX11_key_82 : decode cX11_key 82 = .ok (.iadd, 1) := by decide +kernel
theorem dX11_key_83 : decode cX11_key 83 = .ok (.iaload, 1) := by decide +kernel
theorem dX11_key_84 : decode cX11_key 84 = .ok (.bipush 10, 2) := by decide +kernel
theorem dX11_key_86 : decode cX11_key 86 = .ok (.irem, 1) := by decide +kernel
theorem dX11_key_87 : decode cX11_key 87 = .ok (.aload_n 0, 1) := by decide +kernel
theorem dX11_key_88 : decode cX11_key 88 = .ok (.getfield 179, 3) := by decide +kernel
theorem dX11_key_91 : decode cX11_key 91 = .ok (.if_icmp .ne 8, 3) := by decide +kernel
theorem dX11_key_94 : decode cX11_key 94 = .ok (.aload_n 0, 1) := by decide +kernel
theorem dX11_key_95 : decode cX11_key 95 = .ok (.iconst 3, 1) := by decide +kernel
theorem dX11_key_96 : decode cX11_key 96 = .ok (.invokevirtual 193, 3) := by decide +kernel
theorem dX11_key_99 : decode cX11_key 99 = .ok (.iinc 2 1, 3) := by decide +kernel
theorem dX11_key_102 : decode cX11_key 102 = .ok (.goto (-52), 3) := by decide +kernel
theorem dX11_key_105 : decode cX11_key 105 = .ok (.aload_n 0, 1) := by decide +kernel
theorem dX11_key_106 : decode cX11_key 106 = .ok (.getfield 164, 3) := by decide +kernel
theorem dX11_key_109 : decode cX11_key 109 = .ok (.ifCond .ne 57, 3) := by decide +kernel
theorem dX11_key_112 : decode cX11_key 112 = .ok (.aload_n 0, 1) := by decide +kernel
theorem dX11_key_113 : decode cX11_key 113 = .ok (.getfield 31, 3) := by decide +kernel
theorem dX11_key_116 : decode cX11_key 116 = .ok (.bipush 6, 2) := by decide +kernel
theorem dX11_key_118 : decode cX11_key 118 = .ok (.aload_n 0, 1) := by decide +kernel
theorem dX11_key_119 : decode cX11_key 119 = .ok (.getfield 211, 3) := by decide +kernel
theorem dX11_key_122 : decode cX11_key 122 = .ok (.imul, 1) := by decide +kernel
theorem dX11_key_123 : decode cX11_key 123 = .ok (.aload_n 0, 1) := by decide +kernel
theorem dX11_key_124 : decode cX11_key 124 = .ok (.getfield 28, 3) := by decide +kernel
theorem dX11_key_127 : decode cX11_key 127 = .ok (.aload_n 0, 1) := by decide +kernel
theorem dX11_key_128 : decode cX11_key 128 = .ok (.getfield 211, 3) := by decide +kernel
theorem dX11_key_131 : decode cX11_key 131 = .ok (.iaload, 1) := by decide +kernel
theorem dX11_key_132 : decode cX11_key 132 = .ok (.iadd, 1) := by decide +kernel
theorem dX11_key_133 : decode cX11_key 133 = .ok (.aload_n 0, 1) := by decide +kernel
theorem dX11_key_134 : decode cX11_key 134 = .ok (.getfield 179, 3) := by decide +kernel
theorem dX11_key_137 : decode cX11_key 137 = .ok (.iload_n 1, 1) := by decide +kernel
theorem dX11_key_138 : decode cX11_key 138 = .ok (.ifCond .eq 8, 3) := by decide +kernel
theorem dX11_key_141 : decode cX11_key 141 = .ok (.bipush 10, 2) := by decide +kernel
theorem dX11_key_143 : decode cX11_key 143 = .ok (.goto 4, 3) := by decide +kernel
theorem dX11_key_146 : decode cX11_key 146 = .ok (.iconst 0, 1) := by decide +kernel
theorem dX11_key_147 : decode cX11_key 147 = .ok (.iadd, 1) := by decide +kernel
theorem dX11_key_148 : decode cX11_key 148 = .ok (.iastore, 1) := by decide +kernel
theorem dX11_key_149 : decode cX11_key 149 = .ok (.aload_n 0, 1) := by decide +kernel
theorem dX11_key_150 : decode cX11_key 150 = .ok (.getfield 28, 3) := by decide +kernel
theorem dX11_key_153 : decode cX11_key 153 = .ok (.aload_n 0, 1) := by decide +kernel
theorem dX11_key_154 : decode cX11_key 154 = .ok (.getfield 211, 3) := by decide +kernel
theorem dX11_key_157 : decode cX11_key 157 = .ok (.dup2, 1) := by decide +kernel
theorem dX11_key_158 : decode cX11_key 158 = .ok (.iaload, 1) := by decide +kernel
theorem dX11_key_159 : decode cX11_key 159 = .ok (.iconst 1, 1) := by decide +kernel
theorem dX11_key_160 : decode cX11_key 160 = .ok (.iadd, 1) := by decide +kernel
theorem dX11_key_161 : decode cX11_key 161 = .ok (.iastore, 1) := by decide +kernel
theorem dX11_key_162 : decode cX11_key 162 = .ok (.aload_n 0, 1) := by decide +kernel
theorem dX11_key_163 : decode cX11_key 163 = .ok (.invokevirtual 204, 3) := by decide +kernel
theorem dX11_key_166 : decode cX11_key 166 = .ok (.return_, 1) := by decide +kernel
theorem dX11_test_0 : decode cX11_test 0 = .ok (.aload_n 0, 1) := by decide +kernel
theorem dX11_test_1 : decode cX11_test 1 = .ok (.getfield 164, 3) := by decide +kernel
theorem dX11_test_4 : decode cX11_test 4 = .ok (.ifCond .ne 15, 3) := by decide +kernel
theorem dX11_test_7 : decode cX11_test 7 = .ok (.aload_n 0, 1) := by decide +kernel
theorem dX11_test_8 : decode cX11_test 8 = .ok (.invokevirtual 207, 3) := by decide +kernel
theorem dX11_test_11 : decode cX11_test 11 = .ok (.ifCond .ne 8, 3) := by decide +kernel
theorem dX11_test_14 : decode cX11_test 14 = .ok (.aload_n 0, 1) := by decide +kernel
theorem dX11_test_15 : decode cX11_test 15 = .ok (.iconst 2, 1) := by decide +kernel
theorem dX11_test_16 : decode cX11_test 16 = .ok (.invokevirtual 193, 3) := by decide +kernel
theorem dX11_test_19 : decode cX11_test 19 = .ok (.aload_n 0, 1) := by decide +kernel
theorem dX11_test_20 : decode cX11_test 20 = .ok (.getfield 164, 3) := by decide +kernel
theorem dX11_test_23 : decode cX11_test 23 = .ok (.ifCond .ne 21, 3) := by decide +kernel
theorem dX11_test_26 : decode cX11_test 26 = .ok (.aload_n 0, 1) := by decide +kernel
theorem dX11_test_27 : decode cX11_test 27 = .ok (.getfield 34, 3) := by decide +kernel
theorem dX11_test_30 : decode cX11_test 30 = .ok (.aload_n 0, 1) := by decide +kernel
theorem dX11_test_31 : decode cX11_test 31 = .ok (.getfield 211, 3) := by decide +kernel
theorem dX11_test_34 : decode cX11_test 34 = .ok (.iaload, 1) := by decide +kernel
theorem dX11_test_35 : decode cX11_test 35 = .ok (.iconst 4, 1) := by decide +kernel
theorem dX11_test_36 : decode cX11_test 36 = .ok (.if_icmp .ne 8, 3) := by decide +kernel
theorem dX11_test_39 : decode cX11_test 39 = .ok (.aload_n 0, 1) := by decide +kernel
theorem dX11_test_40 : decode cX11_test 40 = .ok (.iconst 4, 1) := by decide +kernel
theorem dX11_test_41 : decode cX11_test 41 = .ok (.invokevirtual 193, 3) := by decide +kernel
theorem dX11_test_44 : decode cX11_test 44 = .ok (.aload_n 0, 1) := by decide +kernel
theorem dX11_test_45 : decode cX11_test 45 = .ok (.getfield 164, 3) := by decide +kernel
theorem dX11_test_48 : decode cX11_test 48 = .ok (.ifCond .le 4, 3) := by decide +kernel
theorem dX11_test_51 : decode cX11_test 51 = .ok (.return_, 1) := by decide +kernel
theorem dX11_test_52 : decode cX11_test 52 = .ok (.iconst 4, 1) := by decide +kernel
theorem dX11_test_53 : decode cX11_test 53 = .ok (.aload_n 0, 1) := by decide +kernel
theorem dX11_test_54 : decode cX11_test 54 = .ok (.getfield 211, 3) := by decide +kernel
theorem dX11_test_57 : decode cX11_test 57 = .ok (.imul, 1) := by decide +kernel
theorem dX11_test_58 : decode cX11_test 58 = .ok (.aload_n 0, 1) := by decide +kernel
theorem dX11_test_59 : decode cX11_test 59 = .ok (.getfield 34, 3) := by decide +kernel
theorem dX11_test_62 : decode cX11_test 62 = .ok (.aload_n 0, 1) := by decide +kernel
theorem dX11_test_63 : decode cX11_test 63 = .ok (.getfield 211, 3) := by decide +kernel
theorem dX11_test_66 : decode cX11_test 66 = .ok (.iaload, 1) := by decide +kernel
theorem dX11_test_67 : decode cX11_test 67 = .ok (.iadd, 1) := by decide +kernel
theorem dX11_test_68 : decode cX11_test 68 = .ok (.istore_n 1, 1) := by decide +kernel
theorem dX11_test_69 : decode cX11_test 69 = .ok (.aload_n 0, 1) := by decide +kernel
theorem dX11_test_70 : decode cX11_test 70 = .ok (.getfield 37, 3) := by decide +kernel
theorem dX11_test_73 : decode cX11_test 73 = .ok (.iload_n 1, 1) := by decide +kernel
theorem dX11_test_74 : decode cX11_test 74 = .ok (.aload_n 0, 1) := by decide +kernel
theorem dX11_test_75 : decode cX11_test 75 = .ok (.getfield 179, 3) := by decide +kernel
theorem dX11_test_78 : decode cX11_test 78 = .ok (.iastore, 1) := by decide +kernel
theorem dX11_test_79 : decode cX11_test 79 = .ok (.aload_n 0, 1) := by decide +kernel
theorem dX11_test_80 : decode cX11_test 80 = .ok (.invokevirtual 204, 3) := by decide +kernel
theorem dX11_test_83 : decode cX11_test 83 = .ok (.aload_n 0, 1) := by decide +kernel
theorem dX11_test_84 : decode cX11_test 84 = .ok (.getfield 164, 3) := by decide +kernel
theorem dX11_test_87 : decode cX11_test 87 = .ok (.ifCond .ne 26, 3) := by decide +kernel
theorem dX11_test_90 : decode cX11_test 90 = .ok (.aload_n 0, 1) := by decide +kernel
theorem dX11_test_91 : decode cX11_test 91 = .ok (.bipush 60, 2) := by decide +kernel
theorem dX11_test_93 : decode cX11_test 93 = .ok (.invokevirtual 201, 3) := by decide +kernel
theorem dX11_test_96 : decode cX11_test 96 = .ok (.ifCond .ne 17, 3) := by decide +kernel
theorem dX11_test_99 : decode cX11_test 99 = .ok (.aload_n 0, 1) := by decide +kernel
theorem dX11_test_100 : decode cX11_test 100 = .ok (.bipush 62, 2) := by decide +kernel
theorem dX11_test_102 : decode cX11_test 102 = .ok (.invokevirtual 201, 3) := by decide +kernel
theorem dX11_test_105 : decode cX11_test 105 = .ok (.ifCond .ne 8, 3) := by decide +kernel
theorem dX11_test_108 : decode cX11_test 108 = .ok (.aload_n 0, 1) := by decide +kernel
theorem dX11_test_109 : decode cX11_test 109 = .ok (.iconst 2, 1) := by decide +kernel
theorem dX11_test_110 : decode cX11_test 110 = .ok (.invokevirtual 193, 3) := by decide +kernel
theorem dX11_test_113 : decode cX11_test 113 = .ok (.aload_n 0, 1) := by decide +kernel
theorem dX11_test_114 : decode cX11_test 114 = .ok (.getfield 40, 3) := by decide +kernel
theorem dX11_test_117 : decode cX11_test 117 = .ok (.iload_n 1, 1) := by decide +kernel
theorem dX11_test_118 : decode cX11_test 118 = .ok (.aload_n 0, 1) := by decide +kernel
theorem dX11_test_119 : decode cX11_test 119 = .ok (.getfield 179, 3) := by decide +kernel
theorem dX11_test_122 : decode cX11_test 122 = .ok (.iastore, 1) := by decide +kernel
theorem dX11_test_123 : decode cX11_test 123 = .ok (.aload_n 0, 1) := by decide +kernel
theorem dX11_test_124 : decode cX11_test 124 = .ok (.invokevirtual 204, 3) := by decide +kernel
theorem dX11_test_127 : decode cX11_test 127 = .ok (.aload_n 0, 1) := by decide +kernel
theorem dX11_test_128 : decode cX11_test 128 = .ok (.getfield 164, 3) := by decide +kernel
theorem dX11_test_131 : decode cX11_test 131 = .ok (.ifCond .ne 16, 3) := by decide +kernel
theorem dX11_test_134 : decode cX11_test 134 = .ok (.aload_n 0, 1) := by decide +kernel
theorem dX11_test_135 : decode cX11_test 135 = .ok (.getfield 182, 3) := by decide +kernel
theorem dX11_test_138 : decode cX11_test 138 = .ok (.iconst 2, 1) := by decide +kernel
theorem dX11_test_139 : decode cX11_test 139 = .ok (.if_icmp .eq 8, 3) := by decide +kernel
theorem dX11_test_142 : decode cX11_test 142 = .ok (.aload_n 0, 1) := by decide +kernel
theorem dX11_test_143 : decode cX11_test 143 = .ok (.iconst 2, 1) := by decide +kernel
theorem dX11_test_144 : decode cX11_test 144 = .ok (.invokevirtual 193, 3) := by decide +kernel
theorem dX11_test_147 : decode cX11_test 147 = .ok (.aload_n 0, 1) := by decide +kernel
theorem dX11_test_148 : decode cX11_test 148 = .ok (.getfield 43, 3) := by decide +kernel
theorem dX11_test_151 : decode cX11_test 151 = .ok (.iload_n 1, 1) := by decide +kernel
theorem dX11_test_152 : decode cX11_test 152 = .ok (.aload_n 0, 1) := by decide +kernel
theorem dX11_test_153 : decode cX11_test 153 = .ok (.getfield 179, 3) := by decide +kernel
theorem dX11_test_156 : decode cX11_test 156 = .ok (.iastore, 1) := by decide +kernel
theorem dX11_test_157 : decode cX11_test 157 = .ok (.aload_n 0, 1) := by decide +kernel
theorem dX11_test_158 : decode cX11_test 158 = .ok (.getfield 34, 3) := by decide +kernel
theorem dX11_test_161 : decode cX11_test 161 = .ok (.aload_n 0, 1) := by decide +kernel
theorem dX11_test_162 : decode cX11_test 162 = .ok (.getfield 211, 3) := by decide +kernel
theorem dX11_test_165 : decode cX11_test 165 = .ok (.dup2, 1) := by decide +kernel
theorem dX11_test_166 : decode cX11_test 166 = .ok (.iaload, 1) := by decide +kernel
theorem dX11_test_167 : decode cX11_test 167 = .ok (.iconst 1, 1) := by decide +kernel
theorem dX11_test_168 : decode cX11_test 168 = .ok (.iadd, 1) := by decide +kernel
theorem dX11_test_169 : decode cX11_test 169 = .ok (.iastore, 1) := by decide +kernel
theorem dX11_test_170 : decode cX11_test 170 = .ok (.aload_n 0, 1) := by decide +kernel
theorem dX11_test_171 : decode cX11_test 171 = .ok (.invokevirtual 204, 3) := by decide +kernel
theorem dX11_test_174 : decode cX11_test 174 = .ok (.return_, 1) := by decide +kernel
theorem dX11_readRule_0 : decode cX11_readRule 0 = .ok (.aload_n 0, 1) := by decide +kernel
theorem dX11_readRule_1 : decode cX11_readRule 1 = .ok (.invokevirtual 204, 3) := by decide +kernel
theorem dX11_readRule_4 : decode cX11_readRule 4 = .ok (.aload_n 0, 1) := by decide +kernel
theorem dX11_readRule_5 : decode cX11_readRule 5 = .ok (.getfield 164, 3) := by decide +kernel
theorem dX11_readRule_8 : decode cX11_readRule 8 = .ok (.ifCond .ne 17, 3) := by decide +kernel
theorem dX11_readRule_11 : decode cX11_readRule 11 = .ok (.aload_n 0, 1) := by decide +kernel
theorem dX11_readRule_12 : decode cX11_readRule 12 = .ok (.bipush 6, 2) := by decide +kernel
theorem dX11_readRule_14 : decode cX11_readRule 14 = .ok (.invokevirtual 214, 3) := by decide +kernel
theorem dX11_readRule_17 : decode cX11_readRule 17 = .ok (.ifCond .ne 8, 3) := by decide +kernel
theorem dX11_readRule_20 : decode cX11_readRule 20 = .ok (.aload_n 0, 1) := by decide +kernel
theorem dX11_readRule_21 : decode cX11_readRule 21 = .ok (.iconst 2, 1) := by decide +kernel
theorem dX11_readRule_22 : decode cX11_readRule 22 = .ok (.invokevirtual 193, 3) := by decide +kernel
theorem dX11_readRule_25 : decode cX11_readRule 25 = .ok (.aload_n 0, 1) := by decide +kernel
theorem dX11_readRule_26 : decode cX11_readRule 26 = .ok (.invokevirtual 204, 3) := by decide +kernel
theorem dX11_readRule_29 : decode cX11_readRule 29 = .ok (.aload_n 0, 1) := by decide +kernel
theorem dX11_readRule_30 : decode cX11_readRule 30 = .ok (.getfield 164, 3) := by decide +kernel
theorem dX11_readRule_33 : decode cX11_readRule 33 = .ok (.ifCond .ne 7, 3) := by decide +kernel
theorem dX11_readRule_36 : decode cX11_readRule 36 = .ok (.aload_n 0, 1) := by decide +kernel
theorem dX11_readRule_37 : decode cX11_readRule 37 = .ok (.invokevirtual 217, 3) := by decide +kernel
theorem dX11_readRule_40 : decode cX11_readRule 40 = .ok (.aload_n 0, 1) := by decide +kernel
theorem dX11_readRule_41 : decode cX11_readRule 41 = .ok (.getfield 164, 3) := by decide +kernel
theorem dX11_readRule_44 : decode cX11_readRule 44 = .ok (.ifCond .ne 30, 3) := by decide +kernel
theorem dX11_readRule_47 : decode cX11_readRule 47 = .ok (.aload_n 0, 1) := by decide +kernel
theorem dX11_readRule_48 : decode cX11_readRule 48 = .ok (.bipush 44, 2) := by decide +kernel
theorem dX11_readRule_50 : decode cX11_readRule 50 = .ok (.invokevirtual 201, 3) := by decide +kernel
theorem dX11_readRule_53 : decode cX11_readRule 53 = .ok (.ifCond .eq 21, 3) := by decide +kernel
theorem dX11_readRule_56 : decode cX11_readRule 56 = .ok (.aload_n 0, 1) := by decide +kernel
theorem dX11_readRule_57 : decode cX11_readRule 57 = .ok (.invokevirtual 204, 3) := by decide +kernel
theorem dX11_readRule_60 : decode cX11_readRule 60 = .ok (.aload_n 0, 1) := by decide +kernel
theorem dX11_readRule_61 : decode cX11_readRule 61 = .ok (.getfield 164, 3) := by decide +kernel
theorem dX11_readRule_64 : decode cX11_readRule 64 = .ok (.ifCond .ne (-24), 3) := by decide +kernel
theorem dX11_readRule_67 : decode cX11_readRule 67 = .ok (.aload_n 0, 1) := by decide +kernel
theorem dX11_readRule_68 : decode cX11_readRule 68 = .ok (.invokevirtual 217, 3) := by decide +kernel
theorem dX11_readRule_71 : decode cX11_readRule 71 = .ok (.goto (-31), 3) := by decide +kernel
theorem dX11_readRule_74 : decode cX11_readRule 74 = .ok (.aload_n 0, 1) := by decide +kernel
theorem dX11_readRule_75 : decode cX11_readRule 75 = .ok (.getfield 164, 3) := by decide +kernel
theorem dX11_readRule_78 : decode cX11_readRule 78 = .ok (.ifCond .ne 47, 3) := by decide +kernel
theorem dX11_readRule_81 : decode cX11_readRule 81 = .ok (.aload_n 0, 1) := by decide +kernel
theorem dX11_readRule_82 : decode cX11_readRule 82 = .ok (.bipush 7, 2) := by decide +kernel
theorem dX11_readRule_84 : decode cX11_readRule 84 = .ok (.invokevirtual 214, 3) := by decide +kernel
theorem dX11_readRule_87 : decode cX11_readRule 87 = .ok (.ifCond .eq 38, 3) := by decide +kernel
theorem dX11_readRule_90 : decode cX11_readRule 90 = .ok (.aload_n 0, 1) := by decide +kernel
theorem dX11_readRule_91 : decode cX11_readRule 91 = .ok (.invokevirtual 204, 3) := by decide +kernel
theorem dX11_readRule_94 : decode cX11_readRule 94 = .ok (.aload_n 0, 1) := by decide +kernel
theorem dX11_readRule_95 : decode cX11_readRule 95 = .ok (.invokevirtual 220, 3) := by decide +kernel
theorem dX11_readRule_98 : decode cX11_readRule 98 = .ok (.aload_n 0, 1) := by decide +kernel
theorem dX11_readRule_99 : decode cX11_readRule 99 = .ok (.getfield 164, 3) := by decide +kernel
theorem dX11_readRule_102 : decode cX11_readRule 102 = .ok (.ifCond .ne 23, 3) := by decide +kernel
theorem dX11_readRule_105 : decode cX11_readRule 105 = .ok (.aload_n 0, 1) := by decide +kernel
theorem dX11_readRule_106 : decode cX11_readRule 106 = .ok (.bipush 8, 2) := by decide +kernel
theorem dX11_readRule_108 : decode cX11_readRule 108 = .ok (.invokevirtual 214, 3) := by decide +kernel
theorem dX11_readRule_111 : decode cX11_readRule 111 = .ok (.ifCond .eq 14, 3) := by decide +kernel
theorem dX11_readRule_114 : decode cX11_readRule 114 = .ok (.aload_n 0, 1) := by decide +kernel
theorem dX11_readRule_115 : decode cX11_readRule 115 = .ok (.invokevirtual 204, 3) := by decide +kernel
theorem dX11_readRule_118 : decode cX11_readRule 118 = .ok (.aload_n 0, 1) := by decide +kernel
theorem dX11_readRule_119 : decode cX11_readRule 119 = .ok (.invokevirtual 220, 3) := by decide +kernel
theorem dX11_readRule_122 : decode cX11_readRule 122 = .ok (.goto (-24), 3) := by decide +kernel
theorem dX11_readRule_125 : decode cX11_readRule 125 = .ok (.aload_n 0, 1) := by decide +kernel
theorem dX11_readRule_126 : decode cX11_readRule 126 = .ok (.getfield 164, 3) := by decide +kernel
theorem dX11_readRule_129 : decode cX11_readRule 129 = .ok (.ifCond .ne 26, 3) := by decide +kernel
theorem dX11_readRule_132 : decode cX11_readRule 132 = .ok (.aload_n 0, 1) := by decide +kernel
theorem dX11_readRule_133 : decode cX11_readRule 133 = .ok (.bipush 9, 2) := by decide +kernel
theorem dX11_readRule_135 : decode cX11_readRule 135 = .ok (.invokevirtual 214, 3) := by decide +kernel
theorem dX11_readRule_138 : decode cX11_readRule 138 = .ok (.ifCond .eq 17, 3) := by decide +kernel
theorem dX11_readRule_141 : decode cX11_readRule 141 = .ok (.aload_n 0, 1) := by decide +kernel
theorem dX11_readRule_142 : decode cX11_readRule 142 = .ok (.getfield 46, 3) := by decide +kernel
theorem dX11_readRule_145 : decode cX11_readRule 145 = .ok (.aload_n 0, 1) := by decide +kernel
theorem dX11_readRule_146 : decode cX11_readRule 146 = .ok (.getfield 211, 3) := by decide +kernel
theorem dX11_readRule_149 : decode cX11_readRule 149 = .ok (.iconst 1, 1) := by decide +kernel
theorem dX11_readRule_150 : decode cX11_readRule 150 = .ok (.iastore, 1) := by decide +kernel
theorem dX11_readRule_151 : decode cX11_readRule 151 = .ok (.aload_n 0, 1) := by decide +kernel
theorem dX11_readRule_152 : decode cX11_readRule 152 = .ok (.invokevirtual 204, 3) := by decide +kernel
theorem dX11_readRule_155 : decode cX11_readRule 155 = .ok (.aload_n 0, 1) := by decide +kernel
theorem dX11_readRule_156 : decode cX11_readRule 156 = .ok (.getfield 164, 3) := by decide +kernel
theorem dX11_readRule_159 : decode cX11_readRule 159 = .ok (.ifCond .ne 17, 3) := by decide +kernel
theorem dX11_readRule_162 : decode cX11_readRule 162 = .ok (.aload_n 0, 1) := by decide +kernel
theorem dX11_readRule_163 : decode cX11_readRule 163 = .ok (.bipush 59, 2) := by decide +kernel
theorem dX11_readRule_165 : decode cX11_readRule 165 = .ok (.invokevirtual 201, 3) := by decide +kernel
theorem dX11_readRule_168 : decode cX11_readRule 168 = .ok (.ifCond .ne 8, 3) := by decide +kernel
theorem dX11_readRule_171 : decode cX11_readRule 171 = .ok (.aload_n 0, 1) := by decide +kernel
theorem dX11_readRule_172 : decode cX11_readRule 172 = .ok (.iconst 2, 1) := by decide +kernel
theorem dX11_readRule_173 : decode cX11_readRule 173 = .ok (.invokevirtual 193, 3) := by decide +kernel
theorem dX11_readRule_176 : decode cX11_readRule 176 = .ok (.aload_n 0, 1) := by decide +kernel
theorem dX11_readRule_177 : decode cX11_readRule 177 = .ok (.invokevirtual 204, 3) := by decide +kernel
theorem dX11_readRule_180 : decode cX11_readRule 180 = .ok (.aload_n 0, 1) := by decide +kernel
theorem dX11_readRule_181 : decode cX11_readRule 181 = .ok (.getfield 164, 3) := by decide +kernel
theorem dX11_readRule_184 : decode cX11_readRule 184 = .ok (.ifCond .ne 15, 3) := by decide +kernel
theorem dX11_readRule_187 : decode cX11_readRule 187 = .ok (.aload_n 0, 1) := by decide +kernel
theorem dX11_readRule_188 : decode cX11_readRule 188 = .ok (.getfield 182, 3) := by decide +kernel
theorem dX11_readRule_191 : decode cX11_readRule 191 = .ok (.ifCond .eq 8, 3) := by decide +kernel
theorem dX11_readRule_194 : decode cX11_readRule 194 = .ok (.aload_n 0, 1) := by decide +kernel
theorem dX11_readRule_195 : decode cX11_readRule 195 = .ok (.iconst 5, 1) := by decide +kernel
theorem dX11_readRule_196 : decode cX11_readRule 196 = .ok (.invokevirtual 193, 3) := by decide +kernel
theorem dX11_readRule_199 : decode cX11_readRule 199 = .ok (.return_, 1) := by decide +kernel
theorem dX11_rule_0 : decode cX11_rule 0 = .ok (.aload_n 0, 1) := by decide +kernel
theorem dX11_rule_1 : decode cX11_rule 1 = .ok (.getfield 211, 3) := by decide +kernel
theorem dX11_rule_4 : decode cX11_rule 4 = .ok (.bipush 6, 2) := by decide +kernel
theorem dX11_rule_6 : decode cX11_rule 6 = .ok (.if_icmp .ne 6, 3) := by decide +kernel
theorem dX11_rule_9 : decode cX11_rule 9 = .ok (.bipush (-3), 2) := by decide +kernel
theorem dX11_rule_11 : decode cX11_rule 11 = .ok (.ireturn, 1) := by decide +kernel
theorem dX11_rule_12 : decode cX11_rule 12 = .ok (.aload_n 0, 1) := by decide +kernel
theorem dX11_rule_13 : decode cX11_rule 13 = .ok (.iconst 0, 1) := by decide +kernel
theorem dX11_rule_14 : decode cX11_rule 14 = .ok (.putfield 164, 3) := by decide +kernel
theorem dX11_rule_17 : decode cX11_rule 17 = .ok (.aload_n 0, 1) := by decide +kernel
theorem dX11_rule_18 : decode cX11_rule 18 = .ok (.iconst 0, 1) := by decide +kernel
theorem dX11_rule_19 : decode cX11_rule 19 = .ok (.putfield 176, 3) := by decide +kernel
theorem dX11_rule_22 : decode cX11_rule 22 = .ok (.aload_n 0, 1) := by decide +kernel
theorem dX11_rule_23 : decode cX11_rule 23 = .ok (.getfield 28, 3) := by decide +kernel
theorem dX11_rule_26 : decode cX11_rule 26 = .ok (.aload_n 0, 1) := by decide +kernel
theorem dX11_rule_27 : decode cX11_rule 27 = .ok (.getfield 211, 3) := by decide +kernel
theorem dX11_rule_30 : decode cX11_rule 30 = .ok (.iconst 0, 1) := by decide +kernel
theorem dX11_rule_31 : decode cX11_rule 31 = .ok (.iastore, 1) := by decide +kernel
theorem dX11_rule_32 : decode cX11_rule 32 = .ok (.aload_n 0, 1) := by decide +kernel
theorem dX11_rule_33 : decode cX11_rule 33 = .ok (.getfield 34, 3) := by decide +kernel
theorem dX11_rule_36 : decode cX11_rule 36 = .ok (.aload_n 0, 1) := by decide +kernel
theorem dX11_rule_37 : decode cX11_rule 37 = .ok (.getfield 211, 3) := by decide +kernel
theorem dX11_rule_40 : decode cX11_rule 40 = .ok (.iconst 0, 1) := by decide +kernel
theorem dX11_rule_41 : decode cX11_rule 41 = .ok (.iastore, 1) := by decide +kernel
theorem dX11_rule_42 : decode cX11_rule 42 = .ok (.aload_n 0, 1) := by decide +kernel
theorem dX11_rule_43 : decode cX11_rule 43 = .ok (.getfield 46, 3) := by decide +kernel
theorem dX11_rule_46 : decode cX11_rule 46 = .ok (.aload_n 0, 1) := by decide +kernel
theorem dX11_rule_47 : decode cX11_rule 47 = .ok (.getfield 211, 3) := by decide +kernel
theorem dX11_rule_50 : decode cX11_rule 50 = .ok (.iconst 0, 1) := by decide +kernel
theorem dX11_rule_51 : decode cX11_rule 51 = .ok (.iastore, 1) := by decide +kernel
theorem dX11_rule_52 : decode cX11_rule 52 = .ok (.aload_n 0, 1) := by decide +kernel
theorem dX11_rule_53 : decode cX11_rule 53 = .ok (.invokevirtual 223, 3) := by decide +kernel
theorem dX11_rule_56 : decode cX11_rule 56 = .ok (.aload_n 0, 1) := by decide +kernel
theorem dX11_rule_57 : decode cX11_rule 57 = .ok (.iconst 0, 1) := by decide +kernel
theorem dX11_rule_58 : decode cX11_rule 58 = .ok (.putfield 161, 3) := by decide +kernel
theorem dX11_rule_61 : decode cX11_rule 61 = .ok (.aload_n 0, 1) := by decide +kernel
theorem dX11_rule_62 : decode cX11_rule 62 = .ok (.aload_n 0, 1) := by decide +kernel
theorem dX11_rule_63 : decode cX11_rule 63 = .ok (.getfield 164, 3) := by decide +kernel
theorem dX11_rule_66 : decode cX11_rule 66 = .ok (.putfield 226, 3) := by decide +kernel
theorem dX11_rule_69 : decode cX11_rule 69 = .ok (.aload_n 0, 1) := by decide +kernel
theorem dX11_rule_70 : decode cX11_rule 70 = .ok (.getfield 164, 3) := by decide +kernel
theorem dX11_rule_73 : decode cX11_rule 73 = .ok (.ifCond .le 11, 3) := by decide +kernel
theorem dX11_rule_76 : decode cX11_rule 76 = .ok (.bipush (-10), 2) := by decide +kernel
theorem dX11_rule_78 : decode cX11_rule 78 = .ok (.aload_n 0, 1) := by decide +kernel
theorem dX11_rule_79 : decode cX11_rule 79 = .ok (.getfield 170, 3) := by decide +kernel
theorem dX11_rule_82 : decode cX11_rule 82 = .ok (.isub, 1) := by decide +kernel
theorem dX11_rule_83 : decode cX11_rule 83 = .ok (.ireturn, 1) := by decide +kernel
theorem dX11_rule_84 : decode cX11_rule 84 = .ok (.aload_n 0, 1) := by decide +kernel
theorem dX11_rule_85 : decode cX11_rule 85 = .ok (.dup, 1) := by decide +kernel
theorem dX11_rule_86 : decode cX11_rule 86 = .ok (.getfield 211, 3) := by decide +kernel
theorem dX11_rule_89 : decode cX11_rule 89 = .ok (.iconst 1, 1) := by decide +kernel
theorem dX11_rule_90 : decode cX11_rule 90 = .ok (.iadd, 1) := by decide +kernel
theorem dX11_rule_91 : decode cX11_rule 91 = .ok (.putfield 211, 3) := by decide +kernel
theorem dX11_rule_94 : decode cX11_rule 94 = .ok (.aload_n 0, 1) := by decide +kernel
theorem dX11_rule_95 : decode cX11_rule 95 = .ok (.getfield 211, 3) := by decide +kernel
theorem dX11_rule_98 : decode cX11_rule 98 = .ok (.iconst 1, 1) := by decide +kernel
theorem dX11_rule_99 : decode cX11_rule 99 = .ok (.isub, 1) := by decide +kernel
theorem dX11_rule_100 : decode cX11_rule 100 = .ok (.ireturn, 1) := by decide +kernel
theorem dX11_fault_0 : decode cX11_fault 0 = .ok (.aload_n 0, 1) := by decide +kernel
theorem dX11_fault_1 : decode cX11_fault 1 = .ok (.getfield 226, 3) := by decide +kernel
theorem dX11_fault_4 : decode cX11_fault 4 = .ok (.ireturn, 1) := by decide +kernel
theorem dX11_isRule_0 : decode cX11_isRule 0 = .ok (.iload_n 1, 1) := by decide +kernel
theorem dX11_isRule_1 : decode cX11_isRule 1 = .ok (.i2l, 1) := by decide +kernel
theorem dX11_isRule_2 : decode cX11_isRule 2 = .ok (.lconst 0, 1) := by decide +kernel
theorem dX11_isRule_3 : decode cX11_isRule 3 = .ok (.aload_n 0, 1) := by decide +kernel
theorem dX11_isRule_4 : decode cX11_isRule 4 = .ok (.getfield 211, 3) := by decide +kernel
theorem dX11_isRule_7 : decode cX11_isRule 7 = .ok (.iconst 1, 1) := by decide +kernel
theorem dX11_isRule_8 : decode cX11_isRule 8 = .ok (.isub, 1) := by decide +kernel
theorem dX11_isRule_9 : decode cX11_isRule 9 = .ok (.i2l, 1) := by decide +kernel
theorem dX11_isRule_10 : decode cX11_isRule 10 = .ok (.invokestatic 126, 3) := by decide +kernel
theorem dX11_isRule_13 : decode cX11_isRule 13 = .ok (.ireturn, 1) := by decide +kernel
theorem dX11_ruleOf_0 : decode cX11_ruleOf 0 = .ok (.aload_n 0, 1) := by decide +kernel
theorem dX11_ruleOf_1 : decode cX11_ruleOf 1 = .ok (.iload_n 1, 1) := by decide +kernel
theorem dX11_ruleOf_2 : decode cX11_ruleOf 2 = .ok (.invokevirtual 229, 3) := by decide +kernel
theorem dX11_ruleOf_5 : decode cX11_ruleOf 5 = .ok (.ifCond .ne 5, 3) := by decide +kernel
theorem dX11_ruleOf_8 : decode cX11_ruleOf 8 = .ok (.iconst (-1), 1) := by decide +kernel
theorem dX11_ruleOf_9 : decode cX11_ruleOf 9 = .ok (.ireturn, 1) := by decide +kernel
theorem dX11_ruleOf_10 : decode cX11_ruleOf 10 = .ok (.iload_n 2, 1) := by decide +kernel
theorem dX11_ruleOf_11 : decode cX11_ruleOf 11 = .ok (.i2l, 1) := by decide +kernel
theorem dX11_ruleOf_12 : decode cX11_ruleOf 12 = .ok (.ldc2_w 232, 3) := by decide +kernel
theorem dX11_ruleOf_15 : decode cX11_ruleOf 15 = .ok (.bipush 9, 2) := by decide +kernel
theorem dX11_ruleOf_17 : decode cX11_ruleOf 17 = .ok (.aload_n 0, 1) := by decide +kernel
theorem dX11_ruleOf_18 : decode cX11_ruleOf 18 = .ok (.getfield 28, 3) := by decide +kernel
theorem dX11_ruleOf_21 : decode cX11_ruleOf 21 = .ok (.iload_n 1, 1) := by decide +kernel
theorem dX11_ruleOf_22 : decode cX11_ruleOf 22 = .ok (.iaload, 1) := by decide +kernel
theorem dX11_ruleOf_23 : decode cX11_ruleOf 23 = .ok (.iadd, 1) := by decide +kernel
theorem dX11_ruleOf_24 : decode cX11_ruleOf 24 = .ok (.i2l, 1) := by decide +kernel
theorem dX11_ruleOf_25 : decode cX11_ruleOf 25 = .ok (.invokestatic 126, 3) := by decide +kernel
theorem dX11_ruleOf_28 : decode cX11_ruleOf 28 = .ok (.ifCond .eq 18, 3) := by decide +kernel
theorem dX11_ruleOf_31 : decode cX11_ruleOf 31 = .ok (.aload_n 0, 1) := by decide +kernel
theorem dX11_ruleOf_32 : decode cX11_ruleOf 32 = .ok (.getfield 31, 3) := by decide +kernel
theorem dX11_ruleOf_35 : decode cX11_ruleOf 35 = .ok (.bipush 6, 2) := by decide +kernel
theorem dX11_ruleOf_37 : decode cX11_ruleOf 37 = .ok (.iload_n 1, 1) := by decide +kernel
theorem dX11_ruleOf_38 : decode cX11_ruleOf 38 = .ok (.imul, 1) := by decide +kernel
theorem dX11_ruleOf_39 : decode cX11_ruleOf 39 = .ok (.iload_n 2, 1) := by decide +kernel
theorem dX11_ruleOf_40 : decode cX11_ruleOf 40 = .ok (.iadd, 1) := by decide +kernel
theorem dX11_ruleOf_41 : decode cX11_ruleOf 41 = .ok (.bipush 10, 2) := by decide +kernel
theorem dX11_ruleOf_43 : decode cX11_ruleOf 43 = .ok (.isub, 1) := by decide +kernel
theorem dX11_ruleOf_44 : decode cX11_ruleOf 44 = .ok (.iaload, 1) := by decide +kernel
theorem dX11_ruleOf_45 : decode cX11_ruleOf 45 = .ok (.ireturn, 1) := by decide +kernel
theorem dX11_ruleOf_46 : decode cX11_ruleOf 46 = .ok (.iload_n 2, 1) := by decide +kernel
theorem dX11_ruleOf_47 : decode cX11_ruleOf 47 = .ok (.ifCond .ne 12, 3) := by decide +kernel
theorem dX11_ruleOf_50 : decode cX11_ruleOf 50 = .ok (.aload_n 0, 1) := by decide +kernel
theorem dX11_ruleOf_51 : decode cX11_ruleOf 51 = .ok (.getfield 28, 3) := by decide +kernel
theorem dX11_ruleOf_54 : decode cX11_ruleOf 54 = .ok (.iload_n 1, 1) := by decide +kernel
theorem dX11_ruleOf_55 : decode cX11_ruleOf 55 = .ok (.iaload, 1) := by decide +kernel
theorem dX11_ruleOf_56 : decode cX11_ruleOf 56 = .ok (.goto 32, 3) := by decide +kernel
theorem dX11_ruleOf_59 : decode cX11_ruleOf 59 = .ok (.iload_n 2, 1) := by decide +kernel
theorem dX11_ruleOf_60 : decode cX11_ruleOf 60 = .ok (.iconst 1, 1) := by decide +kernel
theorem dX11_ruleOf_61 : decode cX11_ruleOf 61 = .ok (.if_icmp .ne 12, 3) := by decide +kernel
theorem dX11_ruleOf_64 : decode cX11_ruleOf 64 = .ok (.aload_n 0, 1) := by decide +kernel
theorem dX11_ruleOf_65 : decode cX11_ruleOf 65 = .ok (.getfield 34, 3) := by decide +kernel
theorem dX11_ruleOf_68 : decode cX11_ruleOf 68 = .ok (.iload_n 1, 1) := by decide +kernel
theorem dX11_ruleOf_69 : decode cX11_ruleOf 69 = .ok (.iaload, 1) := by decide +kernel
theorem dX11_ruleOf_70 : decode cX11_ruleOf 70 = .ok (.goto 18, 3) := by decide +kernel
theorem dX11_ruleOf_73 : decode cX11_ruleOf 73 = .ok (.iload_n 2, 1) := by decide +kernel
theorem dX11_ruleOf_74 : decode cX11_ruleOf 74 = .ok (.iconst 2, 1) := by decide +kernel
theorem dX11_ruleOf_75 : decode cX11_ruleOf 75 = .ok (.if_icmp .ne 12, 3) := by decide +kernel
theorem dX11_ruleOf_78 : decode cX11_ruleOf 78 = .ok (.aload_n 0, 1) := by decide +kernel
theorem dX11_ruleOf_79 : decode cX11_ruleOf 79 = .ok (.getfield 46, 3) := by decide +kernel
theorem dX11_ruleOf_82 : decode cX11_ruleOf 82 = .ok (.iload_n 1, 1) := by decide +kernel
theorem dX11_ruleOf_83 : decode cX11_ruleOf 83 = .ok (.iaload, 1) := by decide +kernel
theorem dX11_ruleOf_84 : decode cX11_ruleOf 84 = .ok (.goto 4, 3) := by decide +kernel
theorem dX11_ruleOf_87 : decode cX11_ruleOf 87 = .ok (.iconst (-1), 1) := by decide +kernel
theorem dX11_ruleOf_88 : decode cX11_ruleOf 88 = .ok (.ireturn, 1) := by decide +kernel
theorem dX11_fresh_0 : decode cX11_fresh 0 = .ok (.iconst 0, 1) := by decide +kernel
theorem dX11_fresh_1 : decode cX11_fresh 1 = .ok (.istore_n 1, 1) := by decide +kernel
theorem dX11_fresh_2 : decode cX11_fresh 2 = .ok (.iload_n 1, 1) := by decide +kernel
theorem dX11_fresh_3 : decode cX11_fresh 3 = .ok (.bipush 6, 2) := by decide +kernel
theorem dX11_fresh_5 : decode cX11_fresh 5 = .ok (.if_icmp .ge 16, 3) := by decide +kernel
theorem dX11_fresh_8 : decode cX11_fresh 8 = .ok (.aload_n 0, 1) := by decide +kernel
theorem dX11_fresh_9 : decode cX11_fresh 9 = .ok (.getfield 67, 3) := by decide +kernel
theorem dX11_fresh_12 : decode cX11_fresh 12 = .ok (.iload_n 1, 1) := by decide +kernel
theorem dX11_fresh_13 : decode cX11_fresh 13 = .ok (.iconst 0, 1) := by decide +kernel
theorem dX11_fresh_14 : decode cX11_fresh 14 = .ok (.iastore, 1) := by decide +kernel
theorem dX11_fresh_15 : decode cX11_fresh 15 = .ok (.iinc 1 1, 3) := by decide +kernel
theorem dX11_fresh_18 : decode cX11_fresh 18 = .ok (.goto (-16), 3) := by decide +kernel
theorem dX11_fresh_21 : decode cX11_fresh 21 = .ok (.iconst 0, 1) := by decide +kernel
theorem dX11_fresh_22 : decode cX11_fresh 22 = .ok (.istore_n 1, 1) := by decide +kernel
theorem dX11_fresh_23 : decode cX11_fresh 23 = .ok (.iload_n 1, 1) := by decide +kernel
theorem dX11_fresh_24 : decode cX11_fresh 24 = .ok (.bipush 9, 2) := by decide +kernel
theorem dX11_fresh_26 : decode cX11_fresh 26 = .ok (.if_icmp .ge 24, 3) := by decide +kernel
theorem dX11_fresh_29 : decode cX11_fresh 29 = .ok (.aload_n 0, 1) := by decide +kernel
theorem dX11_fresh_30 : decode cX11_fresh 30 = .ok (.getfield 70, 3) := by decide +kernel
theorem dX11_fresh_33 : decode cX11_fresh 33 = .ok (.iload_n 1, 1) := by decide +kernel
theorem dX11_fresh_34 : decode cX11_fresh 34 = .ok (.bipush (-4), 2) := by decide +kernel
theorem dX11_fresh_36 : decode cX11_fresh 36 = .ok (.iastore, 1) := by decide +kernel
theorem dX11_fresh_37 : decode cX11_fresh 37 = .ok (.aload_n 0, 1) := by decide +kernel
theorem dX11_fresh_38 : decode cX11_fresh 38 = .ok (.getfield 73, 3) := by decide +kernel
theorem dX11_fresh_41 : decode cX11_fresh 41 = .ok (.iload_n 1, 1) := by decide +kernel
theorem dX11_fresh_42 : decode cX11_fresh 42 = .ok (.iconst 0, 1) := by decide +kernel
theorem dX11_fresh_43 : decode cX11_fresh 43 = .ok (.iastore, 1) := by decide +kernel
theorem dX11_fresh_44 : decode cX11_fresh 44 = .ok (.iinc 1 1, 3) := by decide +kernel
theorem dX11_fresh_47 : decode cX11_fresh 47 = .ok (.goto (-24), 3) := by decide +kernel
theorem dX11_fresh_50 : decode cX11_fresh 50 = .ok (.aload_n 0, 1) := by decide +kernel
theorem dX11_fresh_51 : decode cX11_fresh 51 = .ok (.iconst 0, 1) := by decide +kernel
theorem dX11_fresh_52 : decode cX11_fresh 52 = .ok (.putfield 234, 3) := by decide +kernel
theorem dX11_fresh_55 : decode cX11_fresh 55 = .ok (.aload_n 0, 1) := by decide +kernel
theorem dX11_fresh_56 : decode cX11_fresh 56 = .ok (.iconst 0, 1) := by decide +kernel
theorem dX11_fresh_57 : decode cX11_fresh 57 = .ok (.putfield 237, 3) := by decide +kernel
theorem dX11_fresh_60 : decode cX11_fresh 60 = .ok (.return_, 1) := by decide +kernel
theorem dX11_loadMain_0 : decode cX11_loadMain 0 = .ok (.aload_n 0, 1) := by decide +kernel
theorem dX11_loadMain_1 : decode cX11_loadMain 1 = .ok (.aload_n 0, 1) := by decide +kernel
theorem dX11_loadMain_2 : decode cX11_loadMain 2 = .ok (.getfield 122, 3) := by decide +kernel
theorem dX11_loadMain_5 : decode cX11_loadMain 5 = .ok (.putfield 240, 3) := by decide +kernel
theorem dX11_loadMain_8 : decode cX11_loadMain 8 = .ok (.aload_n 0, 1) := by decide +kernel
theorem dX11_loadMain_9 : decode cX11_loadMain 9 = .ok (.aload_n 0, 1) := by decide +kernel
theorem dX11_loadMain_10 : decode cX11_loadMain 10 = .ok (.getfield 130, 3) := by decide +kernel
theorem dX11_loadMain_13 : decode cX11_loadMain 13 = .ok (.putfield 243, 3) := by decide +kernel
theorem dX11_loadMain_16 : decode cX11_loadMain 16 = .ok (.iconst 0, 1) := by decide +kernel
theorem dX11_loadMain_17 : decode cX11_loadMain 17 = .ok (.istore_n 1, 1) := by decide +kernel
theorem dX11_loadMain_18 : decode cX11_loadMain 18 = .ok (.iload_n 1, 1) := by decide +kernel
theorem dX11_loadMain_19 : decode cX11_loadMain 19 = .ok (.bipush 6, 2) := by decide +kernel
theorem dX11_loadMain_21 : decode cX11_loadMain 21 = .ok (.if_icmp .ge 45, 3) := by decide +kernel
theorem dX11_loadMain_24 : decode cX11_loadMain 24 = .ok (.aload_n 0, 1) := by decide +kernel
theorem dX11_loadMain_25 : decode cX11_loadMain 25 = .ok (.getfield 55, 3) := by decide +kernel
theorem dX11_loadMain_28 : decode cX11_loadMain 28 = .ok (.iload_n 1, 1) := by decide +kernel
theorem dX11_loadMain_29 : decode cX11_loadMain 29 = .ok (.aload_n 0, 1) := by decide +kernel
theorem dX11_loadMain_30 : decode cX11_loadMain 30 = .ok (.getfield 7, 3) := by decide +kernel
theorem dX11_loadMain_33 : decode cX11_loadMain 33 = .ok (.iload_n 1, 1) := by decide +kernel
theorem dX11_loadMain_34 : decode cX11_loadMain 34 = .ok (.iaload, 1) := by decide +kernel
theorem dX11_loadMain_35 : decode cX11_loadMain 35 = .ok (.iastore, 1) := by decide +kernel
theorem dX11_loadMain_36 : decode cX11_loadMain 36 = .ok (.aload_n 0, 1) := by decide +kernel
theorem dX11_loadMain_37 : decode cX11_loadMain 37 = .ok (.getfield 58, 3) := by decide +kernel
theorem dX11_loadMain_40 : decode cX11_loadMain 40 = .ok (.iload_n 1, 1) := by decide +kernel
theorem dX11_loadMain_41 : decode cX11_loadMain 41 = .ok (.aload_n 0, 1) := by decide +kernel
theorem dX11_loadMain_42 : decode cX11_loadMain 42 = .ok (.getfield 13, 3) := by decide +kernel
theorem dX11_loadMain_45 : decode cX11_loadMain 45 = .ok (.iload_n 1, 1) := by decide +kernel
theorem dX11_loadMain_46 : decode cX11_loadMain 46 = .ok (.iaload, 1) := by decide +kernel
theorem dX11_loadMain_47 : decode cX11_loadMain 47 = .ok (.iastore, 1) := by decide +kernel
theorem dX11_loadMain_48 : decode cX11_loadMain 48 = .ok (.aload_n 0, 1) := by decide +kernel
theorem dX11_loadMain_49 : decode cX11_loadMain 49 = .ok (.getfield 61, 3) := by decide +kernel
theorem dX11_loadMain_52 : decode cX11_loadMain 52 = .ok (.iload_n 1, 1) := by decide +kernel
theorem dX11_loadMain_53 : decode cX11_loadMain 53 = .ok (.aload_n 0, 1) := by decide +kernel
theorem dX11_loadMain_54 : decode cX11_loadMain 54 = .ok (.getfield 16, 3) := by decide +kernel
theorem dX11_loadMain_57 : decode cX11_loadMain 57 = .ok (.iload_n 1, 1) := by decide +kernel
theorem dX11_loadMain_58 : decode cX11_loadMain 58 = .ok (.iaload, 1) := by decide +kernel
theorem dX11_loadMain_59 : decode cX11_loadMain 59 = .ok (.iastore, 1) := by decide +kernel
theorem dX11_loadMain_60 : decode cX11_loadMain 60 = .ok (.iinc 1 1, 3) := by decide +kernel
theorem dX11_loadMain_63 : decode cX11_loadMain 63 = .ok (.goto (-45), 3) := by decide +kernel
theorem dX11_loadMain_66 : decode cX11_loadMain 66 = .ok (.iconst 0, 1) := by decide +kernel
theorem dX11_loadMain_67 : decode cX11_loadMain 67 = .ok (.istore_n 1, 1) := by decide +kernel
theorem dX11_loadMain_68 : decode cX11_loadMain 68 = .ok (.iload_n 1, 1) := by decide +kernel
theorem dX11_loadMain_69 : decode cX11_loadMain 69 = .ok (.bipush 54, 2) := by decide +kernel
theorem dX11_loadMain_71 : decode cX11_loadMain 71 = .ok (.if_icmp .ge 21, 3) := by decide +kernel
theorem dX11_loadMain_74 : decode cX11_loadMain 74 = .ok (.aload_n 0, 1) := by decide +kernel
theorem dX11_loadMain_75 : decode cX11_loadMain 75 = .ok (.getfield 64, 3) := by decide +kernel
theorem dX11_loadMain_78 : decode cX11_loadMain 78 = .ok (.iload_n 1, 1) := by decide +kernel
theorem dX11_loadMain_79 : decode cX11_loadMain 79 = .ok (.aload_n 0, 1) := by decide +kernel
theorem dX11_loadMain_80 : decode cX11_loadMain 80 = .ok (.getfield 22, 3) := by decide +kernel
theorem dX11_loadMain_83 : decode cX11_loadMain 83 = .ok (.iload_n 1, 1) := by decide +kernel
theorem dX11_loadMain_84 : decode cX11_loadMain 84 = .ok (.iaload, 1) := by decide +kernel
theorem dX11_loadMain_85 : decode cX11_loadMain 85 = .ok (.iastore, 1) := by decide +kernel
theorem dX11_loadMain_86 : decode cX11_loadMain 86 = .ok (.iinc 1 1, 3) := by decide +kernel
theorem dX11_loadMain_89 : decode cX11_loadMain 89 = .ok (.goto (-21), 3) := by decide +kernel
theorem dX11_loadMain_92 : decode cX11_loadMain 92 = .ok (.aload_n 0, 1) := by decide +kernel
theorem dX11_loadMain_93 : decode cX11_loadMain 93 = .ok (.invokevirtual 246, 3) := by decide +kernel
theorem dX11_loadMain_96 : decode cX11_loadMain 96 = .ok (.return_, 1) := by decide +kernel
theorem dX11_heldBy_0 : decode cX11_heldBy 0 = .ok (.iconst 0, 1) := by decide +kernel
theorem dX11_heldBy_1 : decode cX11_heldBy 1 = .ok (.istore_n 2, 1) := by decide +kernel
theorem dX11_heldBy_2 : decode cX11_heldBy 2 = .ok (.iconst 0, 1) := by decide +kernel
theorem dX11_heldBy_3 : decode cX11_heldBy 3 = .ok (.istore_n 3, 1) := by decide +kernel
theorem dX11_heldBy_4 : decode cX11_heldBy 4 = .ok (.iload_n 3, 1) := by decide +kernel
theorem dX11_heldBy_5 : decode cX11_heldBy 5 = .ok (.aload_n 0, 1) := by decide +kernel
theorem dX11_heldBy_6 : decode cX11_heldBy 6 = .ok (.getfield 243, 3) := by decide +kernel
theorem dX11_heldBy_9 : decode cX11_heldBy 9 = .ok (.if_icmp .ge 27, 3) := by decide +kernel
theorem dX11_heldBy_12 : decode cX11_heldBy 12 = .ok (.iload_n 2, 1) := by decide +kernel
theorem dX11_heldBy_13 : decode cX11_heldBy 13 = .ok (.aload_n 0, 1) := by decide +kernel
theorem dX11_heldBy_14 : decode cX11_heldBy 14 = .ok (.getfield 70, 3) := by decide +kernel
theorem dX11_heldBy_17 : decode cX11_heldBy 17 = .ok (.iload_n 3, 1) := by decide +kernel
theorem dX11_heldBy_18 : decode cX11_heldBy 18 = .ok (.iaload, 1) := by decide +kernel
theorem dX11_heldBy_19 : decode cX11_heldBy 19 = .ok (.iload_n 1, 1) := by decide +kernel
theorem dX11_heldBy_20 : decode cX11_heldBy 20 = .ok (.if_icmp .ne 7, 3) := by decide +kernel
theorem dX11_heldBy_23 : decode cX11_heldBy 23 = .ok (.iconst 1, 1) := by decide +kernel
theorem dX11_heldBy_24 : decode cX11_heldBy 24 = .ok (.goto 4, 3) := by decide +kernel
theorem dX11_heldBy_27 : decode cX11_heldBy 27 = .ok (.iconst 0, 1) := by decide +kernel
theorem dX11_heldBy_28 : decode cX11_heldBy 28 = .ok (.iadd, 1) := by decide +kernel
theorem dX11_heldBy_29 : decode cX11_heldBy 29 = .ok (.istore_n 2, 1) := by decide +kernel
theorem dX11_heldBy_30 : decode cX11_heldBy 30 = .ok (.iinc 3 1, 3) := by decide +kernel
theorem dX11_heldBy_33 : decode cX11_heldBy 33 = .ok (.goto (-29), 3) := by decide +kernel
theorem dX11_heldBy_36 : decode cX11_heldBy 36 = .ok (.iload_n 2, 1) := by decide +kernel
theorem dX11_heldBy_37 : decode cX11_heldBy 37 = .ok (.ireturn, 1) := by decide +kernel
theorem dX11_lastOf_0 : decode cX11_lastOf 0 = .ok (.bipush (-4), 2) := by decide +kernel
theorem dX11_lastOf_2 : decode cX11_lastOf 2 = .ok (.istore_n 2, 1) := by decide +kernel
theorem dX11_lastOf_3 : decode cX11_lastOf 3 = .ok (.iconst 0, 1) := by decide +kernel
theorem dX11_lastOf_4 : decode cX11_lastOf 4 = .ok (.istore_n 3, 1) := by decide +kernel
theorem dX11_lastOf_5 : decode cX11_lastOf 5 = .ok (.iload_n 3, 1) := by decide +kernel
theorem dX11_lastOf_6 : decode cX11_lastOf 6 = .ok (.aload_n 0, 1) := by decide +kernel
theorem dX11_lastOf_7 : decode cX11_lastOf 7 = .ok (.getfield 243, 3) := by decide +kernel
theorem dX11_lastOf_10 : decode cX11_lastOf 10 = .ok (.if_icmp .ge 126, 3) := by decide +kernel
theorem dX11_lastOf_13 : decode cX11_lastOf 13 = .ok (.aload_n 0, 1) := by decide +kernel
theorem dX11_lastOf_14 : decode cX11_lastOf 14 = .ok (.getfield 70, 3) := by decide +kernel
theorem dX11_lastOf_17 : decode cX11_lastOf 17 = .ok (.iload_n 3, 1) := by decide +kernel
theorem dX11_lastOf_18 : decode cX11_lastOf 18 = .ok (.iaload, 1) := by decide +kernel
theorem dX11_lastOf_19 : decode cX11_lastOf 19 = .ok (.iload_n 1, 1) := by decide +kernel
theorem dX11_lastOf_20 : decode cX11_lastOf 20 = .ok (.if_icmp .ne 110, 3) := by decide +kernel
theorem dX11_lastOf_23 : decode cX11_lastOf 23 = .ok (.iload_n 2, 1) := by decide +kernel
theorem dX11_lastOf_24 : decode cX11_lastOf 24 = .ok (.bipush (-4), 2) := by decide +kernel
theorem dX11_lastOf_26 : decode cX11_lastOf 26 = .ok (.if_icmp .eq 28, 3) := by decide +kernel
theorem dX11_lastOf_29 : decode cX11_lastOf 29 = .ok (.aload_n 0, 1) := by decide +kernel
theorem dX11_lastOf_30 : decode cX11_lastOf 30 = .ok (.getfield 64, 3) := by decide +kernel
theorem dX11_lastOf_33 : decode cX11_lastOf 33 = .ok (.bipush 6, 2) := by decide +kernel
theorem dX11_lastOf_35 : decode cX11_lastOf 35 = .ok (.iload_n 3, 1) := by decide +kernel
theorem dX11_lastOf_36 : decode cX11_lastOf 36 = .ok (.imul, 1) := by decide +kernel
theorem dX11_lastOf_37 : decode cX11_lastOf 37 = .ok (.iload_n 1, 1) := by decide +kernel
theorem dX11_lastOf_38 : decode cX11_lastOf 38 = .ok (.iadd, 1) := by decide +kernel
theorem dX11_lastOf_39 : decode cX11_lastOf 39 = .ok (.iaload, 1) := by decide +kernel
theorem dX11_lastOf_40 : decode cX11_lastOf 40 = .ok (.aload_n 0, 1) := by decide +kernel
theorem dX11_lastOf_41 : decode cX11_lastOf 41 = .ok (.getfield 64, 3) := by decide +kernel
theorem dX11_lastOf_44 : decode cX11_lastOf 44 = .ok (.bipush 6, 2) := by decide +kernel
theorem dX11_lastOf_46 : decode cX11_lastOf 46 = .ok (.iload_n 2, 1) := by decide +kernel
theorem dX11_lastOf_47 : decode cX11_lastOf 47 = .ok (.imul, 1) := by decide +kernel
theorem dX11_lastOf_48 : decode cX11_lastOf 48 = .ok (.iload_n 1, 1) := by decide +kernel
theorem dX11_lastOf_49 : decode cX11_lastOf 49 = .ok (.iadd, 1) := by decide +kernel
theorem dX11_lastOf_50 : decode cX11_lastOf 50 = .ok (.iaload, 1) := by decide +kernel
theorem dX11_lastOf_51 : decode cX11_lastOf 51 = .ok (.if_icmp .ge 7, 3) := by decide +kernel
theorem dX11_lastOf_54 : decode cX11_lastOf 54 = .ok (.iconst 1, 1) := by decide +kernel
theorem dX11_lastOf_55 : decode cX11_lastOf 55 = .ok (.goto 4, 3) := by decide +kernel
theorem dX11_lastOf_58 : decode cX11_lastOf 58 = .ok (.iconst 0, 1) := by decide +kernel
theorem dX11_lastOf_59 : decode cX11_lastOf 59 = .ok (.istore 4, 2) := by decide +kernel
theorem dX11_lastOf_61 : decode cX11_lastOf 61 = .ok (.iload_n 2, 1) := by decide +kernel
theorem dX11_lastOf_62 : decode cX11_lastOf 62 = .ok (.bipush (-4), 2) := by decide +kernel
theorem dX11_lastOf_64 : decode cX11_lastOf 64 = .ok (.if_icmp .eq 47, 3) := by decide +kernel
theorem dX11_lastOf_67 : decode cX11_lastOf 67 = .ok (.aload_n 0, 1) := by decide +kernel
theorem dX11_lastOf_68 : decode cX11_lastOf 68 = .ok (.getfield 64, 3) := by decide +kernel
theorem dX11_lastOf_71 : decode cX11_lastOf 71 = .ok (.bipush 6, 2) := by decide +kernel
theorem dX11_lastOf_73 : decode cX11_lastOf 73 = .ok (.iload_n 3, 1) := by decide +kernel
theorem dX11_lastOf_74 : decode cX11_lastOf 74 = .ok (.imul, 1) := by decide +kernel
theorem dX11_lastOf_75 : decode cX11_lastOf 75 = .ok (.iload_n 1, 1) := by decide +kernel
theorem dX11_lastOf_76 : decode cX11_lastOf 76 = .ok (.iadd, 1) := by decide +kernel
theorem dX11_lastOf_77 : decode cX11_lastOf 77 = .ok (.iaload, 1) := by decide +kernel
theorem dX11_lastOf_78 : decode cX11_lastOf 78 = .ok (.aload_n 0, 1) := by decide +kernel
theorem dX11_lastOf_79 : decode cX11_lastOf 79 = .ok (.getfield 64, 3) := by decide +kernel
theorem dX11_lastOf_82 : decode cX11_lastOf 82 = .ok (.bipush 6, 2) := by decide +kernel
theorem dX11_lastOf_84 : decode cX11_lastOf 84 = .ok (.iload_n 2, 1) := by decide +kernel
theorem dX11_lastOf_85 : decode cX11_lastOf 85 = .ok (.imul, 1) := by decide +kernel
theorem dX11_lastOf_86 : decode cX11_lastOf 86 = .ok (.iload_n 1, 1) := by decide +kernel
theorem dX11_lastOf_87 : decode cX11_lastOf 87 = .ok (.iadd, 1) := by decide +kernel
theorem dX11_lastOf_88 : decode cX11_lastOf 88 = .ok (.iaload, 1) := by decide +kernel
theorem dX11_lastOf_89 : decode cX11_lastOf 89 = .ok (.if_icmp .ne 22, 3) := by decide +kernel
theorem dX11_lastOf_92 : decode cX11_lastOf 92 = .ok (.aload_n 0, 1) := by decide +kernel
theorem dX11_lastOf_93 : decode cX11_lastOf 93 = .ok (.getfield 73, 3) := by decide +kernel
theorem dX11_lastOf_96 : decode cX11_lastOf 96 = .ok (.iload_n 3, 1) := by decide +kernel
theorem dX11_lastOf_97 : decode cX11_lastOf 97 = .ok (.iaload, 1) := by decide +kernel
theorem dX11_lastOf_98 : decode cX11_lastOf 98 = .ok (.aload_n 0, 1) := by decide +kernel
theorem dX11_lastOf_99 : decode cX11_lastOf 99 = .ok (.getfield 73, 3) := by decide +kernel
theorem dX11_lastOf_102 : decode cX11_lastOf 102 = .ok (.iload_n 2, 1) := by decide +kernel
theorem dX11_lastOf_103 : decode cX11_lastOf 103 = .ok (.iaload, 1) := by decide +kernel
theorem dX11_lastOf_104 : decode cX11_lastOf 104 = .ok (.if_icmp .le 7, 3) := by decide +kernel
theorem dX11_lastOf_107 : decode cX11_lastOf 107 = .ok (.iconst 1, 1) := by decide +kernel
theorem dX11_lastOf_108 : decode cX11_lastOf 108 = .ok (.goto 4, 3) := by decide +kernel
theorem dX11_lastOf_111 : decode cX11_lastOf 111 = .ok (.iconst 0, 1) := by decide +kernel
theorem dX11_lastOf_112 : decode cX11_lastOf 112 = .ok (.istore 5, 2) := by decide +kernel
theorem dX11_lastOf_114 : decode cX11_lastOf 114 = .ok (.iload 4, 2) := by decide +kernel
theorem dX11_lastOf_116 : decode cX11_lastOf 116 = .ok (.ifCond .ne 8, 3) := by decide +kernel
theorem dX11_lastOf_119 : decode cX11_lastOf 119 = .ok (.iload 5, 2) := by decide +kernel
theorem dX11_lastOf_121 : decode cX11_lastOf 121 = .ok (.ifCond .eq 7, 3) := by decide +kernel
theorem dX11_lastOf_124 : decode cX11_lastOf 124 = .ok (.iload_n 3, 1) := by decide +kernel
theorem dX11_lastOf_125 : decode cX11_lastOf 125 = .ok (.goto 4, 3) := by decide +kernel
theorem dX11_lastOf_128 : decode cX11_lastOf 128 = .ok (.iload_n 2, 1) := by decide +kernel
theorem dX11_lastOf_129 : decode cX11_lastOf 129 = .ok (.istore_n 2, 1) := by decide +kernel
theorem dX11_lastOf_130 : decode cX11_lastOf 130 = .ok (.iinc 3 1, 3) := by decide +kernel
theorem dX11_lastOf_133 : decode cX11_lastOf 133 = .ok (.goto (-128), 3) := by decide +kernel
theorem dX11_lastOf_136 : decode cX11_lastOf 136 = .ok (.iload_n 2, 1) := by decide +kernel
theorem dX11_lastOf_137 : decode cX11_lastOf 137 = .ok (.ireturn, 1) := by decide +kernel
theorem dX11_keyOf_0 : decode cX11_keyOf 0 = .ok (.aload_n 0, 1) := by decide +kernel
theorem dX11_keyOf_1 : decode cX11_keyOf 1 = .ok (.getfield 55, 3) := by decide +kernel
theorem dX11_keyOf_4 : decode cX11_keyOf 4 = .ok (.iload_n 3, 1) := by decide +kernel
theorem dX11_keyOf_5 : decode cX11_keyOf 5 = .ok (.iaload, 1) := by decide +kernel
theorem dX11_keyOf_6 : decode cX11_keyOf 6 = .ok (.aload_n 0, 1) := by decide +kernel
theorem dX11_keyOf_7 : decode cX11_keyOf 7 = .ok (.iload_n 3, 1) := by decide +kernel
theorem dX11_keyOf_8 : decode cX11_keyOf 8 = .ok (.invokevirtual 249, 3) := by decide +kernel
theorem dX11_keyOf_11 : decode cX11_keyOf 11 = .ok (.isub, 1) := by decide +kernel
theorem dX11_keyOf_12 : decode cX11_keyOf 12 = .ok (.istore 4, 2) := by decide +kernel
theorem dX11_keyOf_14 : decode cX11_keyOf 14 = .ok (.iload_n 1, 1) := by decide +kernel
theorem dX11_keyOf_15 : decode cX11_keyOf 15 = .ok (.tableswitch 75 0 4 #[33, 45, 58, 61, 68], 33) := by decide +kernel
theorem dX11_keyOf_48 : decode cX11_keyOf 48 = .ok (.aload_n 0, 1) := by decide +kernel
theorem dX11_keyOf_49 : decode cX11_keyOf 49 = .ok (.getfield 64, 3) := by decide +kernel
theorem dX11_keyOf_52 : decode cX11_keyOf 52 = .ok (.bipush 6, 2) := by decide +kernel
theorem dX11_keyOf_54 : decode cX11_keyOf 54 = .ok (.iload_n 2, 1) := by decide +kernel
theorem dX11_keyOf_55 : decode cX11_keyOf 55 = .ok (.imul, 1) := by decide +kernel
theorem dX11_keyOf_56 : decode cX11_keyOf 56 = .ok (.iload_n 3, 1) := by decide +kernel
theorem dX11_keyOf_57 : decode cX11_keyOf 57 = .ok (.iadd, 1) := by decide +kernel
theorem dX11_keyOf_58 : decode cX11_keyOf 58 = .ok (.iaload, 1) := by decide +kernel
theorem dX11_keyOf_59 : decode cX11_keyOf 59 = .ok (.ireturn, 1) := by decide +kernel
theorem dX11_keyOf_60 : decode cX11_keyOf 60 = .ok (.bipush 100, 2) := by decide +kernel
theorem dX11_keyOf_62 : decode cX11_keyOf 62 = .ok (.iload 4, 2) := by decide +kernel
theorem dX11_keyOf_64 : decode cX11_keyOf 64 = .ok (.imul, 1) := by decide +kernel
theorem dX11_keyOf_65 : decode cX11_keyOf 65 = .ok (.aload_n 0, 1) := by decide +kernel
theorem dX11_keyOf_66 : decode cX11_keyOf 66 = .ok (.getfield 55, 3) := by decide +kernel
theorem dX11_keyOf_69 : decode cX11_keyOf 69 = .ok (.iload_n 3, 1) := by decide +kernel
theorem dX11_keyOf_70 : decode cX11_keyOf 70 = .ok (.iaload, 1) := by decide +kernel
theorem dX11_keyOf_71 : decode cX11_keyOf 71 = .ok (.idiv, 1) := by decide +kernel
theorem dX11_keyOf_72 : decode cX11_keyOf 72 = .ok (.ireturn, 1) := by decide +kernel
theorem dX11_keyOf_73 : decode cX11_keyOf 73 = .ok (.iload 4, 2) := by decide +kernel
theorem dX11_keyOf_75 : decode cX11_keyOf 75 = .ok (.ireturn, 1) := by decide +kernel
theorem dX11_keyOf_76 : decode cX11_keyOf 76 = .ok (.aload_n 0, 1) := by decide +kernel
theorem dX11_keyOf_77 : decode cX11_keyOf 77 = .ok (.getfield 58, 3) := by decide +kernel
theorem dX11_keyOf_80 : decode cX11_keyOf 80 = .ok (.iload_n 3, 1) := by decide +kernel
theorem dX11_keyOf_81 : decode cX11_keyOf 81 = .ok (.iaload, 1) := by decide +kernel
theorem dX11_keyOf_82 : decode cX11_keyOf 82 = .ok (.ireturn, 1) := by decide +kernel
theorem dX11_keyOf_83 : decode cX11_keyOf 83 = .ok (.aload_n 0, 1) := by decide +kernel
theorem dX11_keyOf_84 : decode cX11_keyOf 84 = .ok (.getfield 67, 3) := by decide +kernel
theorem dX11_keyOf_87 : decode cX11_keyOf 87 = .ok (.iload_n 3, 1) := by decide +kernel
theorem dX11_keyOf_88 : decode cX11_keyOf 88 = .ok (.iaload, 1) := by decide +kernel
theorem dX11_keyOf_89 : decode cX11_keyOf 89 = .ok (.ireturn, 1) := by decide +kernel
theorem dX11_keyOf_90 : decode cX11_keyOf 90 = .ok (.iload_n 3, 1) := by decide +kernel
theorem dX11_keyOf_91 : decode cX11_keyOf 91 = .ok (.ireturn, 1) := by decide +kernel
theorem dX11_canHave_0 : decode cX11_canHave 0 = .ok (.aload_n 0, 1) := by decide +kernel
theorem dX11_canHave_1 : decode cX11_canHave 1 = .ok (.getfield 64, 3) := by decide +kernel
theorem dX11_canHave_4 : decode cX11_canHave 4 = .ok (.bipush 6, 2) := by decide +kernel
theorem dX11_canHave_6 : decode cX11_canHave 6 = .ok (.iload_n 2, 1) := by decide +kernel
theorem dX11_canHave_7 : decode cX11_canHave 7 = .ok (.imul, 1) := by decide +kernel
theorem dX11_canHave_8 : decode cX11_canHave 8 = .ok (.iload_n 3, 1) := by decide +kernel
theorem dX11_canHave_9 : decode cX11_canHave 9 = .ok (.iadd, 1) := by decide +kernel
theorem dX11_canHave_10 : decode cX11_canHave 10 = .ok (.iaload, 1) := by decide +kernel
theorem dX11_canHave_11 : decode cX11_canHave 11 = .ok (.istore 4, 2) := by decide +kernel
theorem dX11_canHave_13 : decode cX11_canHave 13 = .ok (.aload_n 0, 1) := by decide +kernel
theorem dX11_canHave_14 : decode cX11_canHave 14 = .ok (.iload_n 3, 1) := by decide +kernel
theorem dX11_canHave_15 : decode cX11_canHave 15 = .ok (.invokevirtual 249, 3) := by decide +kernel
theorem dX11_canHave_18 : decode cX11_canHave 18 = .ok (.aload_n 0, 1) := by decide +kernel
theorem dX11_canHave_19 : decode cX11_canHave 19 = .ok (.getfield 55, 3) := by decide +kernel
theorem dX11_canHave_22 : decode cX11_canHave 22 = .ok (.iload_n 3, 1) := by decide +kernel
theorem dX11_canHave_23 : decode cX11_canHave 23 = .ok (.iaload, 1) := by decide +kernel
theorem dX11_canHave_24 : decode cX11_canHave 24 = .ok (.if_icmp .ge 7, 3) := by decide +kernel
theorem dX11_canHave_27 : decode cX11_canHave 27 = .ok (.iconst 1, 1) := by decide +kernel
theorem dX11_canHave_28 : decode cX11_canHave 28 = .ok (.goto 4, 3) := by decide +kernel
theorem dX11_canHave_31 : decode cX11_canHave 31 = .ok (.iconst 0, 1) := by decide +kernel
theorem dX11_canHave_32 : decode cX11_canHave 32 = .ok (.istore 5, 2) := by decide +kernel
theorem dX11_canHave_34 : decode cX11_canHave 34 = .ok (.iload 4, 2) := by decide +kernel
theorem dX11_canHave_36 : decode cX11_canHave 36 = .ok (.ifCond .le 57, 3) := by decide +kernel
theorem dX11_canHave_39 : decode cX11_canHave 39 = .ok (.aload_n 0, 1) := by decide +kernel
theorem dX11_canHave_40 : decode cX11_canHave 40 = .ok (.getfield 67, 3) := by decide +kernel
theorem dX11_canHave_43 : decode cX11_canHave 43 = .ok (.iload_n 3, 1) := by decide +kernel
theorem dX11_canHave_44 : decode cX11_canHave 44 = .ok (.iaload, 1) := by decide +kernel
theorem dX11_canHave_45 : decode cX11_canHave 45 = .ok (.aload_n 0, 1) := by decide +kernel
theorem dX11_canHave_46 : decode cX11_canHave 46 = .ok (.getfield 61, 3) := by decide +kernel
theorem dX11_canHave_49 : decode cX11_canHave 49 = .ok (.iload_n 3, 1) := by decide +kernel
theorem dX11_canHave_50 : decode cX11_canHave 50 = .ok (.iaload, 1) := by decide +kernel
theorem dX11_canHave_51 : decode cX11_canHave 51 = .ok (.if_icmp .ge 42, 3) := by decide +kernel
theorem dX11_canHave_54 : decode cX11_canHave 54 = .ok (.iload 5, 2) := by decide +kernel
theorem dX11_canHave_56 : decode cX11_canHave 56 = .ok (.ifCond .ne 33, 3) := by decide +kernel
theorem dX11_canHave_59 : decode cX11_canHave 59 = .ok (.aload_n 0, 1) := by decide +kernel
theorem dX11_canHave_60 : decode cX11_canHave 60 = .ok (.getfield 46, 3) := by decide +kernel
theorem dX11_canHave_63 : decode cX11_canHave 63 = .ok (.iload_n 1, 1) := by decide +kernel
theorem dX11_canHave_64 : decode cX11_canHave 64 = .ok (.iaload, 1) := by decide +kernel
theorem dX11_canHave_65 : decode cX11_canHave 65 = .ok (.iconst 1, 1) := by decide +kernel
theorem dX11_canHave_66 : decode cX11_canHave 66 = .ok (.if_icmp .ne 27, 3) := by decide +kernel
theorem dX11_canHave_69 : decode cX11_canHave 69 = .ok (.aload_n 0, 1) := by decide +kernel
theorem dX11_canHave_70 : decode cX11_canHave 70 = .ok (.getfield 64, 3) := by decide +kernel
theorem dX11_canHave_73 : decode cX11_canHave 73 = .ok (.bipush 6, 2) := by decide +kernel
theorem dX11_canHave_75 : decode cX11_canHave 75 = .ok (.aload_n 0, 1) := by decide +kernel
theorem dX11_canHave_76 : decode cX11_canHave 76 = .ok (.iload_n 3, 1) := by decide +kernel
theorem dX11_canHave_77 : decode cX11_canHave 77 = .ok (.invokevirtual 252, 3) := by decide +kernel
theorem dX11_canHave_80 : decode cX11_canHave 80 = .ok (.imul, 1) := by decide +kernel
theorem dX11_canHave_81 : decode cX11_canHave 81 = .ok (.iload_n 3, 1) := by decide +kernel
theorem dX11_canHave_82 : decode cX11_canHave 82 = .ok (.iadd, 1) := by decide +kernel
theorem dX11_canHave_83 : decode cX11_canHave 83 = .ok (.iaload, 1) := by decide +kernel
theorem dX11_canHave_84 : decode cX11_canHave 84 = .ok (.iload 4, 2) := by decide +kernel
theorem dX11_canHave_86 : decode cX11_canHave 86 = .ok (.if_icmp .ge 7, 3) := by decide +kernel
theorem dX11_canHave_89 : decode cX11_canHave 89 = .ok (.iconst 1, 1) := by decide +kernel
theorem dX11_canHave_90 : decode cX11_canHave 90 = .ok (.goto 4, 3) := by decide +kernel
theorem dX11_canHave_93 : decode cX11_canHave 93 = .ok (.iconst 0, 1) := by decide +kernel
theorem dX11_canHave_94 : decode cX11_canHave 94 = .ok (.istore 6, 2) := by decide +kernel
theorem dX11_canHave_96 : decode cX11_canHave 96 = .ok (.iconst 4, 1) := by decide +kernel
theorem dX11_canHave_97 : decode cX11_canHave 97 = .ok (.iload_n 1, 1) := by decide +kernel
theorem dX11_canHave_98 : decode cX11_canHave 98 = .ok (.imul, 1) := by decide +kernel
theorem dX11_canHave_99 : decode cX11_canHave 99 = .ok (.istore 7, 2) := by decide +kernel
theorem dX11_canHave_101 : decode cX11_canHave 101 = .ok (.iload 7, 2) := by decide +kernel
theorem dX11_canHave_103 : decode cX11_canHave 103 = .ok (.iconst 4, 1) := by decide +kernel
theorem dX11_canHave_104 : decode cX11_canHave 104 = .ok (.iload_n 1, 1) := by decide +kernel
theorem dX11_canHave_105 : decode cX11_canHave 105 = .ok (.imul, 1) := by decide +kernel
theorem dX11_canHave_106 : decode cX11_canHave 106 = .ok (.aload_n 0, 1) := by decide +kernel
theorem dX11_canHave_107 : decode cX11_canHave 107 = .ok (.getfield 34, 3) := by decide +kernel
theorem dX11_canHave_110 : decode cX11_canHave 110 = .ok (.iload_n 1, 1) := by decide +kernel
theorem dX11_canHave_111 : decode cX11_canHave 111 = .ok (.iaload, 1) := by decide +kernel
theorem dX11_canHave_112 : decode cX11_canHave 112 = .ok (.iadd, 1) := by decide +kernel
theorem dX11_canHave_113 : decode cX11_canHave 113 = .ok (.if_icmp .ge 80, 3) := by decide +kernel
theorem dX11_canHave_116 : decode cX11_canHave 116 = .ok (.iload 6, 2) := by decide +kernel
theorem dX11_canHave_118 : decode cX11_canHave 118 = .ok (.ifCond .eq 75, 3) := by decide +kernel
theorem dX11_canHave_121 : decode cX11_canHave 121 = .ok (.aload_n 0, 1) := by decide +kernel
theorem dX11_canHave_122 : decode cX11_canHave 122 = .ok (.aload_n 0, 1) := by decide +kernel
theorem dX11_canHave_123 : decode cX11_canHave 123 = .ok (.getfield 37, 3) := by decide +kernel
theorem dX11_canHave_126 : decode cX11_canHave 126 = .ok (.iload 7, 2) := by decide +kernel
theorem dX11_canHave_128 : decode cX11_canHave 128 = .ok (.iaload, 1) := by decide +kernel
theorem dX11_canHave_129 : decode cX11_canHave 129 = .ok (.iload_n 2, 1) := by decide +kernel
theorem dX11_canHave_130 : decode cX11_canHave 130 = .ok (.iload_n 3, 1) := by decide +kernel
theorem dX11_canHave_131 : decode cX11_canHave 131 = .ok (.invokevirtual 255, 3) := by decide +kernel
theorem dX11_canHave_134 : decode cX11_canHave 134 = .ok (.istore 8, 2) := by decide +kernel
theorem dX11_canHave_136 : decode cX11_canHave 136 = .ok (.aload_n 0, 1) := by decide +kernel
theorem dX11_canHave_137 : decode cX11_canHave 137 = .ok (.getfield 40, 3) := by decide +kernel
theorem dX11_canHave_140 : decode cX11_canHave 140 = .ok (.iload 7, 2) := by decide +kernel
theorem dX11_canHave_142 : decode cX11_canHave 142 = .ok (.iaload, 1) := by decide +kernel
theorem dX11_canHave_143 : decode cX11_canHave 143 = .ok (.bipush 60, 2) := by decide +kernel
theorem dX11_canHave_145 : decode cX11_canHave 145 = .ok (.if_icmp .ne 23, 3) := by decide +kernel
theorem dX11_canHave_148 : decode cX11_canHave 148 = .ok (.iload 8, 2) := by decide +kernel
theorem dX11_canHave_150 : decode cX11_canHave 150 = .ok (.aload_n 0, 1) := by decide +kernel
theorem dX11_canHave_151 : decode cX11_canHave 151 = .ok (.getfield 43, 3) := by decide +kernel
theorem dX11_canHave_154 : decode cX11_canHave 154 = .ok (.iload 7, 2) := by decide +kernel
theorem dX11_canHave_156 : decode cX11_canHave 156 = .ok (.iaload, 1) := by decide +kernel
theorem dX11_canHave_157 : decode cX11_canHave 157 = .ok (.if_icmp .ge 7, 3) := by decide +kernel
theorem dX11_canHave_160 : decode cX11_canHave 160 = .ok (.iconst 1, 1) := by decide +kernel
theorem dX11_canHave_161 : decode cX11_canHave 161 = .ok (.goto 24, 3) := by decide +kernel
theorem dX11_canHave_164 : decode cX11_canHave 164 = .ok (.iconst 0, 1) := by decide +kernel
theorem dX11_canHave_165 : decode cX11_canHave 165 = .ok (.goto 20, 3) := by decide +kernel
theorem dX11_canHave_168 : decode cX11_canHave 168 = .ok (.iload 8, 2) := by decide +kernel
theorem dX11_canHave_170 : decode cX11_canHave 170 = .ok (.aload_n 0, 1) := by decide +kernel
theorem dX11_canHave_171 : decode cX11_canHave 171 = .ok (.getfield 43, 3) := by decide +kernel
theorem dX11_canHave_174 : decode cX11_canHave 174 = .ok (.iload 7, 2) := by decide +kernel
theorem dX11_canHave_176 : decode cX11_canHave 176 = .ok (.iaload, 1) := by decide +kernel
theorem dX11_canHave_177 : decode cX11_canHave 177 = .ok (.if_icmp .le 7, 3) := by decide +kernel
theorem dX11_canHave_180 : decode cX11_canHave 180 = .ok (.iconst 1, 1) := by decide +kernel
theorem dX11_canHave_181 : decode cX11_canHave 181 = .ok (.goto 4, 3) := by decide +kernel
theorem dX11_canHave_184 : decode cX11_canHave 184 = .ok (.iconst 0, 1) := by decide +kernel
theorem dX11_canHave_185 : decode cX11_canHave 185 = .ok (.istore 6, 2) := by decide +kernel
theorem dX11_canHave_187 : decode cX11_canHave 187 = .ok (.iinc 7 1, 3) := by decide +kernel
theorem dX11_canHave_190 : decode cX11_canHave 190 = .ok (.goto (-89), 3) := by decide +kernel
theorem dX11_canHave_193 : decode cX11_canHave 193 = .ok (.iload 6, 2) := by decide +kernel
theorem dX11_canHave_195 : decode cX11_canHave 195 = .ok (.ireturn, 1) := by decide +kernel
theorem dX11_isAhead_0 : decode cX11_isAhead 0 = .ok (.bipush 6, 2) := by decide +kernel
theorem dX11_isAhead_2 : decode cX11_isAhead 2 = .ok (.iload_n 1, 1) := by decide +kernel
theorem dX11_isAhead_3 : decode cX11_isAhead 3 = .ok (.imul, 1) := by decide +kernel
theorem dX11_isAhead_4 : decode cX11_isAhead 4 = .ok (.istore 5, 2) := by decide +kernel
theorem dX11_isAhead_6 : decode cX11_isAhead 6 = .ok (.iload 5, 2) := by decide +kernel
theorem dX11_isAhead_8 : decode cX11_isAhead 8 = .ok (.bipush 6, 2) := by decide +kernel
theorem dX11_isAhead_10 : decode cX11_isAhead 10 = .ok (.iload_n 1, 1) := by decide +kernel
theorem dX11_isAhead_11 : decode cX11_isAhead 11 = .ok (.imul, 1) := by decide +kernel
theorem dX11_isAhead_12 : decode cX11_isAhead 12 = .ok (.aload_n 0, 1) := by decide +kernel
theorem dX11_isAhead_13 : decode cX11_isAhead 13 = .ok (.getfield 28, 3) := by decide +kernel
theorem dX11_isAhead_16 : decode cX11_isAhead 16 = .ok (.iload_n 1, 1) := by decide +kernel
theorem dX11_isAhead_17 : decode cX11_isAhead 17 = .ok (.iaload, 1) := by decide +kernel
theorem dX11_isAhead_18 : decode cX11_isAhead 18 = .ok (.iadd, 1) := by decide +kernel
theorem dX11_isAhead_19 : decode cX11_isAhead 19 = .ok (.if_icmp .ge 93, 3) := by decide +kernel
theorem dX11_isAhead_22 : decode cX11_isAhead 22 = .ok (.aload_n 0, 1) := by decide +kernel
theorem dX11_isAhead_23 : decode cX11_isAhead 23 = .ok (.aload_n 0, 1) := by decide +kernel
theorem dX11_isAhead_24 : decode cX11_isAhead 24 = .ok (.getfield 31, 3) := by decide +kernel
theorem dX11_isAhead_27 : decode cX11_isAhead 27 = .ok (.iload 5, 2) := by decide +kernel
theorem dX11_isAhead_29 : decode cX11_isAhead 29 = .ok (.iaload, 1) := by decide +kernel
theorem dX11_isAhead_30 : decode cX11_isAhead 30 = .ok (.bipush 10, 2) := by decide +kernel
theorem dX11_isAhead_32 : decode cX11_isAhead 32 = .ok (.irem, 1) := by decide +kernel
theorem dX11_isAhead_33 : decode cX11_isAhead 33 = .ok (.iload_n 2, 1) := by decide +kernel
theorem dX11_isAhead_34 : decode cX11_isAhead 34 = .ok (.iload_n 3, 1) := by decide +kernel
theorem dX11_isAhead_35 : decode cX11_isAhead 35 = .ok (.invokevirtual 255, 3) := by decide +kernel
theorem dX11_isAhead_38 : decode cX11_isAhead 38 = .ok (.istore 6, 2) := by decide +kernel
theorem dX11_isAhead_40 : decode cX11_isAhead 40 = .ok (.aload_n 0, 1) := by decide +kernel
theorem dX11_isAhead_41 : decode cX11_isAhead 41 = .ok (.aload_n 0, 1) := by decide +kernel
theorem dX11_isAhead_42 : decode cX11_isAhead 42 = .ok (.getfield 31, 3) := by decide +kernel
theorem dX11_isAhead_45 : decode cX11_isAhead 45 = .ok (.iload 5, 2) := by decide +kernel
theorem dX11_isAhead_47 : decode cX11_isAhead 47 = .ok (.iaload, 1) := by decide +kernel
theorem dX11_isAhead_48 : decode cX11_isAhead 48 = .ok (.bipush 10, 2) := by decide +kernel
theorem dX11_isAhead_50 : decode cX11_isAhead 50 = .ok (.irem, 1) := by decide +kernel
theorem dX11_isAhead_51 : decode cX11_isAhead 51 = .ok (.iload_n 2, 1) := by decide +kernel
theorem dX11_isAhead_52 : decode cX11_isAhead 52 = .ok (.iload 4, 2) := by decide +kernel
theorem dX11_isAhead_54 : decode cX11_isAhead 54 = .ok (.invokevirtual 255, 3) := by decide +kernel
theorem dX11_isAhead_57 : decode cX11_isAhead 57 = .ok (.istore 7, 2) := by decide +kernel
theorem dX11_isAhead_59 : decode cX11_isAhead 59 = .ok (.iload 6, 2) := by decide +kernel
theorem dX11_isAhead_61 : decode cX11_isAhead 61 = .ok (.iload 7, 2) := by decide +kernel
theorem dX11_isAhead_63 : decode cX11_isAhead 63 = .ok (.if_icmp .eq 43, 3) := by decide +kernel
theorem dX11_isAhead_66 : decode cX11_isAhead 66 = .ok (.aload_n 0, 1) := by decide +kernel
theorem dX11_isAhead_67 : decode cX11_isAhead 67 = .ok (.getfield 31, 3) := by decide +kernel
theorem dX11_isAhead_70 : decode cX11_isAhead 70 = .ok (.iload 5, 2) := by decide +kernel
theorem dX11_isAhead_72 : decode cX11_isAhead 72 = .ok (.iaload, 1) := by decide +kernel
theorem dX11_isAhead_73 : decode cX11_isAhead 73 = .ok (.bipush 10, 2) := by decide +kernel
theorem dX11_isAhead_75 : decode cX11_isAhead 75 = .ok (.if_icmp .ge 18, 3) := by decide +kernel
theorem dX11_isAhead_78 : decode cX11_isAhead 78 = .ok (.iload 6, 2) := by decide +kernel
theorem dX11_isAhead_80 : decode cX11_isAhead 80 = .ok (.iload 7, 2) := by decide +kernel
theorem dX11_isAhead_82 : decode cX11_isAhead 82 = .ok (.if_icmp .le 7, 3) := by decide +kernel
theorem dX11_isAhead_85 : decode cX11_isAhead 85 = .ok (.iconst 1, 1) := by decide +kernel
theorem dX11_isAhead_86 : decode cX11_isAhead 86 = .ok (.goto 19, 3) := by decide +kernel
theorem dX11_isAhead_89 : decode cX11_isAhead 89 = .ok (.iconst 0, 1) := by decide +kernel
theorem dX11_isAhead_90 : decode cX11_isAhead 90 = .ok (.goto 15, 3) := by decide +kernel
theorem dX11_isAhead_93 : decode cX11_isAhead 93 = .ok (.iload 6, 2) := by decide +kernel
theorem dX11_isAhead_95 : decode cX11_isAhead 95 = .ok (.iload 7, 2) := by decide +kernel
theorem dX11_isAhead_97 : decode cX11_isAhead 97 = .ok (.if_icmp .ge 7, 3) := by decide +kernel
theorem dX11_isAhead_100 : decode cX11_isAhead 100 = .ok (.iconst 1, 1) := by decide +kernel
theorem dX11_isAhead_101 : decode cX11_isAhead 101 = .ok (.goto 4, 3) := by decide +kernel
theorem dX11_isAhead_104 : decode cX11_isAhead 104 = .ok (.iconst 0, 1) := by decide +kernel
theorem dX11_isAhead_105 : decode cX11_isAhead 105 = .ok (.ireturn, 1) := by decide +kernel
theorem dX11_isAhead_106 : decode cX11_isAhead 106 = .ok (.iinc 5 1, 3) := by decide +kernel
theorem dX11_isAhead_109 : decode cX11_isAhead 109 = .ok (.goto (-103), 3) := by decide +kernel
theorem dX11_isAhead_112 : decode cX11_isAhead 112 = .ok (.iconst 0, 1) := by decide +kernel
theorem dX11_isAhead_113 : decode cX11_isAhead 113 = .ok (.ireturn, 1) := by decide +kernel
theorem dX11_takes_0 : decode cX11_takes 0 = .ok (.aload_n 0, 1) := by decide +kernel
theorem dX11_takes_1 : decode cX11_takes 1 = .ok (.iload_n 2, 1) := by decide +kernel
theorem dX11_takes_2 : decode cX11_takes 2 = .ok (.invokevirtual 249, 3) := by decide +kernel
theorem dX11_takes_5 : decode cX11_takes 5 = .ok (.aload_n 0, 1) := by decide +kernel
theorem dX11_takes_6 : decode cX11_takes 6 = .ok (.getfield 55, 3) := by decide +kernel
theorem dX11_takes_9 : decode cX11_takes 9 = .ok (.iload_n 2, 1) := by decide +kernel
theorem dX11_takes_10 : decode cX11_takes 10 = .ok (.iaload, 1) := by decide +kernel
theorem dX11_takes_11 : decode cX11_takes 11 = .ok (.if_icmp .ne 25, 3) := by decide +kernel
theorem dX11_takes_14 : decode cX11_takes 14 = .ok (.aload_n 0, 1) := by decide +kernel
theorem dX11_takes_15 : decode cX11_takes 15 = .ok (.getfield 70, 3) := by decide +kernel
theorem dX11_takes_18 : decode cX11_takes 18 = .ok (.aload_n 0, 1) := by decide +kernel
theorem dX11_takes_19 : decode cX11_takes 19 = .ok (.iload_n 2, 1) := by decide +kernel
theorem dX11_takes_20 : decode cX11_takes 20 = .ok (.invokevirtual 252, 3) := by decide +kernel
theorem dX11_takes_23 : decode cX11_takes 23 = .ok (.bipush (-4), 2) := by decide +kernel
theorem dX11_takes_25 : decode cX11_takes 25 = .ok (.iastore, 1) := by decide +kernel
theorem dX11_takes_26 : decode cX11_takes 26 = .ok (.aload_n 0, 1) := by decide +kernel
theorem dX11_takes_27 : decode cX11_takes 27 = .ok (.dup, 1) := by decide +kernel
theorem dX11_takes_28 : decode cX11_takes 28 = .ok (.getfield 237, 3) := by decide +kernel
theorem dX11_takes_31 : decode cX11_takes 31 = .ok (.iconst 1, 1) := by decide +kernel
theorem dX11_takes_32 : decode cX11_takes 32 = .ok (.iadd, 1) := by decide +kernel
theorem dX11_takes_33 : decode cX11_takes 33 = .ok (.putfield 237, 3) := by decide +kernel
theorem dX11_takes_36 : decode cX11_takes 36 = .ok (.aload_n 0, 1) := by decide +kernel
theorem dX11_takes_37 : decode cX11_takes 37 = .ok (.getfield 64, 3) := by decide +kernel
theorem dX11_takes_40 : decode cX11_takes 40 = .ok (.bipush 6, 2) := by decide +kernel
theorem dX11_takes_42 : decode cX11_takes 42 = .ok (.iload_n 1, 1) := by decide +kernel
theorem dX11_takes_43 : decode cX11_takes 43 = .ok (.imul, 1) := by decide +kernel
theorem dX11_takes_44 : decode cX11_takes 44 = .ok (.iload_n 2, 1) := by decide +kernel
theorem dX11_takes_45 : decode cX11_takes 45 = .ok (.iadd, 1) := by decide +kernel
theorem dX11_takes_46 : decode cX11_takes 46 = .ok (.iaload, 1) := by decide +kernel
theorem dX11_takes_47 : decode cX11_takes 47 = .ok (.istore_n 3, 1) := by decide +kernel
theorem dX11_takes_48 : decode cX11_takes 48 = .ok (.aload_n 0, 1) := by decide +kernel
theorem dX11_takes_49 : decode cX11_takes 49 = .ok (.getfield 61, 3) := by decide +kernel
theorem dX11_takes_52 : decode cX11_takes 52 = .ok (.iload_n 2, 1) := by decide +kernel
theorem dX11_takes_53 : decode cX11_takes 53 = .ok (.iaload, 1) := by decide +kernel
theorem dX11_takes_54 : decode cX11_takes 54 = .ok (.aload_n 0, 1) := by decide +kernel
theorem dX11_takes_55 : decode cX11_takes 55 = .ok (.getfield 67, 3) := by decide +kernel
theorem dX11_takes_58 : decode cX11_takes 58 = .ok (.iload_n 2, 1) := by decide +kernel
theorem dX11_takes_59 : decode cX11_takes 59 = .ok (.iaload, 1) := by decide +kernel
theorem dX11_takes_60 : decode cX11_takes 60 = .ok (.isub, 1) := by decide +kernel
theorem dX11_takes_61 : decode cX11_takes 61 = .ok (.istore 4, 2) := by decide +kernel
theorem dX11_takes_63 : decode cX11_takes 63 = .ok (.iload_n 3, 1) := by decide +kernel
theorem dX11_takes_64 : decode cX11_takes 64 = .ok (.iload 4, 2) := by decide +kernel
theorem dX11_takes_66 : decode cX11_takes 66 = .ok (.if_icmp .ge 7, 3) := by decide +kernel
theorem dX11_takes_69 : decode cX11_takes 69 = .ok (.iload_n 3, 1) := by decide +kernel
theorem dX11_takes_70 : decode cX11_takes 70 = .ok (.goto 5, 3) := by decide +kernel
theorem dX11_takes_73 : decode cX11_takes 73 = .ok (.iload 4, 2) := by decide +kernel
theorem dX11_takes_75 : decode cX11_takes 75 = .ok (.istore 5, 2) := by decide +kernel
theorem dX11_takes_77 : decode cX11_takes 77 = .ok (.aload_n 0, 1) := by decide +kernel
theorem dX11_takes_78 : decode cX11_takes 78 = .ok (.getfield 67, 3) := by decide +kernel
theorem dX11_takes_81 : decode cX11_takes 81 = .ok (.iload_n 2, 1) := by decide +kernel
theorem dX11_takes_82 : decode cX11_takes 82 = .ok (.dup2, 1) := by decide +kernel
theorem dX11_takes_83 : decode cX11_takes 83 = .ok (.iaload, 1) := by decide +kernel
theorem dX11_takes_84 : decode cX11_takes 84 = .ok (.iload 5, 2) := by decide +kernel
theorem dX11_takes_86 : decode cX11_takes 86 = .ok (.iadd, 1) := by decide +kernel
theorem dX11_takes_87 : decode cX11_takes 87 = .ok (.iastore, 1) := by decide +kernel
theorem dX11_takes_88 : decode cX11_takes 88 = .ok (.aload_n 0, 1) := by decide +kernel
theorem dX11_takes_89 : decode cX11_takes 89 = .ok (.getfield 70, 3) := by decide +kernel
theorem dX11_takes_92 : decode cX11_takes 92 = .ok (.iload_n 1, 1) := by decide +kernel
theorem dX11_takes_93 : decode cX11_takes 93 = .ok (.iload_n 2, 1) := by decide +kernel
theorem dX11_takes_94 : decode cX11_takes 94 = .ok (.iastore, 1) := by decide +kernel
theorem dX11_takes_95 : decode cX11_takes 95 = .ok (.iload 5, 2) := by decide +kernel
theorem dX11_takes_97 : decode cX11_takes 97 = .ok (.ireturn, 1) := by decide +kernel
theorem dX11_comes_0 : decode cX11_comes 0 = .ok (.aload_n 0, 1) := by decide +kernel
theorem dX11_comes_1 : decode cX11_comes 1 = .ok (.dup, 1) := by decide +kernel
theorem dX11_comes_2 : decode cX11_comes 2 = .ok (.getfield 234, 3) := by decide +kernel
theorem dX11_comes_5 : decode cX11_comes 5 = .ok (.iconst 1, 1) := by decide +kernel
theorem dX11_comes_6 : decode cX11_comes 6 = .ok (.iadd, 1) := by decide +kernel
theorem dX11_comes_7 : decode cX11_comes 7 = .ok (.putfield 234, 3) := by decide +kernel
theorem dX11_comes_10 : decode cX11_comes 10 = .ok (.aload_n 0, 1) := by decide +kernel
theorem dX11_comes_11 : decode cX11_comes 11 = .ok (.getfield 73, 3) := by decide +kernel
theorem dX11_comes_14 : decode cX11_comes 14 = .ok (.iload_n 1, 1) := by decide +kernel
theorem dX11_comes_15 : decode cX11_comes 15 = .ok (.aload_n 0, 1) := by decide +kernel
theorem dX11_comes_16 : decode cX11_comes 16 = .ok (.getfield 234, 3) := by decide +kernel
theorem dX11_comes_19 : decode cX11_comes 19 = .ok (.iastore, 1) := by decide +kernel
theorem dX11_comes_20 : decode cX11_comes 20 = .ok (.bipush (-4), 2) := by decide +kernel
theorem dX11_comes_22 : decode cX11_comes 22 = .ok (.istore_n 3, 1) := by decide +kernel
theorem dX11_comes_23 : decode cX11_comes 23 = .ok (.iconst 0, 1) := by decide +kernel
theorem dX11_comes_24 : decode cX11_comes 24 = .ok (.istore 4, 2) := by decide +kernel
theorem dX11_comes_26 : decode cX11_comes 26 = .ok (.iload 4, 2) := by decide +kernel
theorem dX11_comes_28 : decode cX11_comes 28 = .ok (.aload_n 0, 1) := by decide +kernel
theorem dX11_comes_29 : decode cX11_comes 29 = .ok (.getfield 240, 3) := by decide +kernel
theorem dX11_comes_32 : decode cX11_comes 32 = .ok (.if_icmp .ge 41, 3) := by decide +kernel
theorem dX11_comes_35 : decode cX11_comes 35 = .ok (.aload_n 0, 1) := by decide +kernel
theorem dX11_comes_36 : decode cX11_comes 36 = .ok (.iload_n 2, 1) := by decide +kernel
theorem dX11_comes_37 : decode cX11_comes 37 = .ok (.iload_n 1, 1) := by decide +kernel
theorem dX11_comes_38 : decode cX11_comes 38 = .ok (.iload 4, 2) := by decide +kernel
theorem dX11_comes_40 : decode cX11_comes 40 = .ok (.invokevirtual 259, 3) := by decide +kernel
theorem dX11_comes_43 : decode cX11_comes 43 = .ok (.ifCond .eq 24, 3) := by decide +kernel
theorem dX11_comes_46 : decode cX11_comes 46 = .ok (.iload_n 3, 1) := by decide +kernel
theorem dX11_comes_47 : decode cX11_comes 47 = .ok (.bipush (-4), 2) := by decide +kernel
theorem dX11_comes_49 : decode cX11_comes 49 = .ok (.if_icmp .eq 15, 3) := by decide +kernel
theorem dX11_comes_52 : decode cX11_comes 52 = .ok (.aload_n 0, 1) := by decide +kernel
theorem dX11_comes_53 : decode cX11_comes 53 = .ok (.iload_n 2, 1) := by decide +kernel
theorem dX11_comes_54 : decode cX11_comes 54 = .ok (.iload_n 1, 1) := by decide +kernel
theorem dX11_comes_55 : decode cX11_comes 55 = .ok (.iload 4, 2) := by decide +kernel
theorem dX11_comes_57 : decode cX11_comes 57 = .ok (.iload_n 3, 1) := by decide +kernel
theorem dX11_comes_58 : decode cX11_comes 58 = .ok (.invokevirtual 263, 3) := by decide +kernel
theorem dX11_comes_61 : decode cX11_comes 61 = .ok (.ifCond .eq 6, 3) := by decide +kernel
theorem dX11_comes_64 : decode cX11_comes 64 = .ok (.iload 4, 2) := by decide +kernel
theorem dX11_comes_66 : decode cX11_comes 66 = .ok (.istore_n 3, 1) := by decide +kernel
theorem dX11_comes_67 : decode cX11_comes 67 = .ok (.iinc 4 1, 3) := by decide +kernel
theorem dX11_comes_70 : decode cX11_comes 70 = .ok (.goto (-44), 3) := by decide +kernel
theorem dX11_comes_73 : decode cX11_comes 73 = .ok (.iload_n 3, 1) := by decide +kernel
theorem dX11_comes_74 : decode cX11_comes 74 = .ok (.bipush (-4), 2) := by decide +kernel
theorem dX11_comes_76 : decode cX11_comes 76 = .ok (.if_icmp .eq 10, 3) := by decide +kernel
theorem dX11_comes_79 : decode cX11_comes 79 = .ok (.aload_n 0, 1) := by decide +kernel
theorem dX11_comes_80 : decode cX11_comes 80 = .ok (.iload_n 1, 1) := by decide +kernel
theorem dX11_comes_81 : decode cX11_comes 81 = .ok (.iload_n 3, 1) := by decide +kernel
theorem dX11_comes_82 : decode cX11_comes 82 = .ok (.invokevirtual 267, 3) := by decide +kernel
theorem dX11_comes_85 : decode cX11_comes 85 = .ok (.pop, 1) := by decide +kernel
theorem dX11_comes_86 : decode cX11_comes 86 = .ok (.iload_n 3, 1) := by decide +kernel
theorem dX11_comes_87 : decode cX11_comes 87 = .ok (.ireturn, 1) := by decide +kernel
theorem dX11_valueNow_0 : decode cX11_valueNow 0 = .ok (.iconst 0, 1) := by decide +kernel
theorem dX11_valueNow_1 : decode cX11_valueNow 1 = .ok (.istore_n 1, 1) := by decide +kernel
theorem dX11_valueNow_2 : decode cX11_valueNow 2 = .ok (.iconst 0, 1) := by decide +kernel
theorem dX11_valueNow_3 : decode cX11_valueNow 3 = .ok (.istore_n 2, 1) := by decide +kernel
theorem dX11_valueNow_4 : decode cX11_valueNow 4 = .ok (.iload_n 2, 1) := by decide +kernel
theorem dX11_valueNow_5 : decode cX11_valueNow 5 = .ok (.aload_n 0, 1) := by decide +kernel
theorem dX11_valueNow_6 : decode cX11_valueNow 6 = .ok (.getfield 240, 3) := by decide +kernel
theorem dX11_valueNow_9 : decode cX11_valueNow 9 = .ok (.if_icmp .ge 18, 3) := by decide +kernel
theorem dX11_valueNow_12 : decode cX11_valueNow 12 = .ok (.iload_n 1, 1) := by decide +kernel
theorem dX11_valueNow_13 : decode cX11_valueNow 13 = .ok (.aload_n 0, 1) := by decide +kernel
theorem dX11_valueNow_14 : decode cX11_valueNow 14 = .ok (.getfield 67, 3) := by decide +kernel
theorem dX11_valueNow_17 : decode cX11_valueNow 17 = .ok (.iload_n 2, 1) := by decide +kernel
theorem dX11_valueNow_18 : decode cX11_valueNow 18 = .ok (.iaload, 1) := by decide +kernel
theorem dX11_valueNow_19 : decode cX11_valueNow 19 = .ok (.iadd, 1) := by decide +kernel
theorem dX11_valueNow_20 : decode cX11_valueNow 20 = .ok (.istore_n 1, 1) := by decide +kernel
theorem dX11_valueNow_21 : decode cX11_valueNow 21 = .ok (.iinc 2 1, 3) := by decide +kernel
theorem dX11_valueNow_24 : decode cX11_valueNow 24 = .ok (.goto (-20), 3) := by decide +kernel
theorem dX11_valueNow_27 : decode cX11_valueNow 27 = .ok (.iload_n 1, 1) := by decide +kernel
theorem dX11_valueNow_28 : decode cX11_valueNow 28 = .ok (.ireturn, 1) := by decide +kernel
theorem dX11_keptNow_0 : decode cX11_keptNow 0 = .ok (.iconst 0, 1) := by decide +kernel
theorem dX11_keptNow_1 : decode cX11_keptNow 1 = .ok (.istore_n 1, 1) := by decide +kernel
theorem dX11_keptNow_2 : decode cX11_keptNow 2 = .ok (.iconst 0, 1) := by decide +kernel
theorem dX11_keptNow_3 : decode cX11_keptNow 3 = .ok (.istore_n 2, 1) := by decide +kernel
theorem dX11_keptNow_4 : decode cX11_keptNow 4 = .ok (.iload_n 2, 1) := by decide +kernel
theorem dX11_keptNow_5 : decode cX11_keptNow 5 = .ok (.aload_n 0, 1) := by decide +kernel
theorem dX11_keptNow_6 : decode cX11_keptNow 6 = .ok (.getfield 243, 3) := by decide +kernel
theorem dX11_keptNow_9 : decode cX11_keptNow 9 = .ok (.if_icmp .ge 43, 3) := by decide +kernel
theorem dX11_keptNow_12 : decode cX11_keptNow 12 = .ok (.iload_n 1, 1) := by decide +kernel
theorem dX11_keptNow_13 : decode cX11_keptNow 13 = .ok (.aload_n 0, 1) := by decide +kernel
theorem dX11_keptNow_14 : decode cX11_keptNow 14 = .ok (.getfield 70, 3) := by decide +kernel
theorem dX11_keptNow_17 : decode cX11_keptNow 17 = .ok (.iload_n 2, 1) := by decide +kernel
theorem dX11_keptNow_18 : decode cX11_keptNow 18 = .ok (.iaload, 1) := by decide +kernel
theorem dX11_keptNow_19 : decode cX11_keptNow 19 = .ok (.bipush (-4), 2) := by decide +kernel
theorem dX11_keptNow_21 : decode cX11_keptNow 21 = .ok (.if_icmp .ne 7, 3) := by decide +kernel
theorem dX11_keptNow_24 : decode cX11_keptNow 24 = .ok (.iconst 0, 1) := by decide +kernel
theorem dX11_keptNow_25 : decode cX11_keptNow 25 = .ok (.goto 19, 3) := by decide +kernel
theorem dX11_keptNow_28 : decode cX11_keptNow 28 = .ok (.aload_n 0, 1) := by decide +kernel
theorem dX11_keptNow_29 : decode cX11_keptNow 29 = .ok (.getfield 64, 3) := by decide +kernel
theorem dX11_keptNow_32 : decode cX11_keptNow 32 = .ok (.bipush 6, 2) := by decide +kernel
theorem dX11_keptNow_34 : decode cX11_keptNow 34 = .ok (.iload_n 2, 1) := by decide +kernel
theorem dX11_keptNow_35 : decode cX11_keptNow 35 = .ok (.imul, 1) := by decide +kernel
theorem dX11_keptNow_36 : decode cX11_keptNow 36 = .ok (.aload_n 0, 1) := by decide +kernel
theorem dX11_keptNow_37 : decode cX11_keptNow 37 = .ok (.getfield 70, 3) := by decide +kernel
theorem dX11_keptNow_40 : decode cX11_keptNow 40 = .ok (.iload_n 2, 1) := by decide +kernel
theorem dX11_keptNow_41 : decode cX11_keptNow 41 = .ok (.iaload, 1) := by decide +kernel
theorem dX11_keptNow_42 : decode cX11_keptNow 42 = .ok (.iadd, 1) := by decide +kernel
theorem dX11_keptNow_43 : decode cX11_keptNow 43 = .ok (.iaload, 1) := by decide +kernel
theorem dX11_keptNow_44 : decode cX11_keptNow 44 = .ok (.iadd, 1) := by decide +kernel
theorem dX11_keptNow_45 : decode cX11_keptNow 45 = .ok (.istore_n 1, 1) := by decide +kernel
theorem dX11_keptNow_46 : decode cX11_keptNow 46 = .ok (.iinc 2 1, 3) := by decide +kernel
theorem dX11_keptNow_49 : decode cX11_keptNow 49 = .ok (.goto (-45), 3) := by decide +kernel
theorem dX11_keptNow_52 : decode cX11_keptNow 52 = .ok (.iload_n 1, 1) := by decide +kernel
theorem dX11_keptNow_53 : decode cX11_keptNow 53 = .ok (.ireturn, 1) := by decide +kernel
theorem dX11_runByNumbers_0 : decode cX11_runByNumbers 0 = .ok (.aload_n 0, 1) := by decide +kernel
theorem dX11_runByNumbers_1 : decode cX11_runByNumbers 1 = .ok (.invokevirtual 246, 3) := by decide +kernel
theorem dX11_runByNumbers_4 : decode cX11_runByNumbers 4 = .ok (.iconst 0, 1) := by decide +kernel
theorem dX11_runByNumbers_5 : decode cX11_runByNumbers 5 = .ok (.istore_n 2, 1) := by decide +kernel
theorem dX11_runByNumbers_6 : decode cX11_runByNumbers 6 = .ok (.iload_n 2, 1) := by decide +kernel
theorem dX11_runByNumbers_7 : decode cX11_runByNumbers 7 = .ok (.aload_n 0, 1) := by decide +kernel
theorem dX11_runByNumbers_8 : decode cX11_runByNumbers 8 = .ok (.getfield 243, 3) := by decide +kernel
theorem dX11_runByNumbers_11 : decode cX11_runByNumbers 11 = .ok (.if_icmp .ge 16, 3) := by decide +kernel
theorem dX11_runByNumbers_14 : decode cX11_runByNumbers 14 = .ok (.aload_n 0, 1) := by decide +kernel
theorem dX11_runByNumbers_15 : decode cX11_runByNumbers 15 = .ok (.iload_n 2, 1) := by decide +kernel
theorem dX11_runByNumbers_16 : decode cX11_runByNumbers 16 = .ok (.iload_n 1, 1) := by decide +kernel
theorem dX11_runByNumbers_17 : decode cX11_runByNumbers 17 = .ok (.invokevirtual 270, 3) := by decide +kernel
theorem dX11_runByNumbers_20 : decode cX11_runByNumbers 20 = .ok (.pop, 1) := by decide +kernel
theorem dX11_runByNumbers_21 : decode cX11_runByNumbers 21 = .ok (.iinc 2 1, 3) := by decide +kernel
theorem dX11_runByNumbers_24 : decode cX11_runByNumbers 24 = .ok (.goto (-18), 3) := by decide +kernel
theorem dX11_runByNumbers_27 : decode cX11_runByNumbers 27 = .ok (.return_, 1) := by decide +kernel
theorem dX11_run_0 : decode cX11_run 0 = .ok (.aload_n 0, 1) := by decide +kernel
theorem dX11_run_1 : decode cX11_run 1 = .ok (.iload_n 1, 1) := by decide +kernel
theorem dX11_run_2 : decode cX11_run 2 = .ok (.invokevirtual 229, 3) := by decide +kernel
theorem dX11_run_5 : decode cX11_run 5 = .ok (.ifCond .eq 34, 3) := by decide +kernel
theorem dX11_run_8 : decode cX11_run 8 = .ok (.iload_n 2, 1) := by decide +kernel
theorem dX11_run_9 : decode cX11_run 9 = .ok (.i2l, 1) := by decide +kernel
theorem dX11_run_10 : decode cX11_run 10 = .ok (.lconst 0, 1) := by decide +kernel
theorem dX11_run_11 : decode cX11_run 11 = .ok (.ldc2_w 133, 3) := by decide +kernel
theorem dX11_run_14 : decode cX11_run 14 = .ok (.invokestatic 126, 3) := by decide +kernel
theorem dX11_run_17 : decode cX11_run 17 = .ok (.ifCond .ne 24, 3) := by decide +kernel
theorem dX11_run_20 : decode cX11_run 20 = .ok (.iload_n 2, 1) := by decide +kernel
theorem dX11_run_21 : decode cX11_run 21 = .ok (.i2l, 1) := by decide +kernel
theorem dX11_run_22 : decode cX11_run 22 = .ok (.ldc2_w 232, 3) := by decide +kernel
theorem dX11_run_25 : decode cX11_run 25 = .ok (.bipush 9, 2) := by decide +kernel
theorem dX11_run_27 : decode cX11_run 27 = .ok (.aload_n 0, 1) := by decide +kernel
theorem dX11_run_28 : decode cX11_run 28 = .ok (.getfield 130, 3) := by decide +kernel
theorem dX11_run_31 : decode cX11_run 31 = .ok (.iadd, 1) := by decide +kernel
theorem dX11_run_32 : decode cX11_run 32 = .ok (.i2l, 1) := by decide +kernel
theorem dX11_run_33 : decode cX11_run 33 = .ok (.invokestatic 126, 3) := by decide +kernel
theorem dX11_run_36 : decode cX11_run 36 = .ok (.ifCond .ne 5, 3) := by decide +kernel
theorem dX11_run_39 : decode cX11_run 39 = .ok (.iconst (-1), 1) := by decide +kernel
theorem dX11_run_40 : decode cX11_run 40 = .ok (.ireturn, 1) := by decide +kernel
theorem dX11_run_41 : decode cX11_run 41 = .ok (.aload_n 0, 1) := by decide +kernel
theorem dX11_run_42 : decode cX11_run 42 = .ok (.invokevirtual 273, 3) := by decide +kernel
theorem dX11_run_45 : decode cX11_run 45 = .ok (.aload_n 0, 1) := by decide +kernel
theorem dX11_run_46 : decode cX11_run 46 = .ok (.iload_n 1, 1) := by decide +kernel
theorem dX11_run_47 : decode cX11_run 47 = .ok (.invokevirtual 276, 3) := by decide +kernel
theorem dX11_run_50 : decode cX11_run 50 = .ok (.iconst 0, 1) := by decide +kernel
theorem dX11_run_51 : decode cX11_run 51 = .ok (.istore_n 3, 1) := by decide +kernel
theorem dX11_run_52 : decode cX11_run 52 = .ok (.iconst 0, 1) := by decide +kernel
theorem dX11_run_53 : decode cX11_run 53 = .ok (.istore 4, 2) := by decide +kernel
theorem dX11_run_55 : decode cX11_run 55 = .ok (.iload 4, 2) := by decide +kernel
theorem dX11_run_57 : decode cX11_run 57 = .ok (.aload_n 0, 1) := by decide +kernel
theorem dX11_run_58 : decode cX11_run 58 = .ok (.getfield 130, 3) := by decide +kernel
theorem dX11_run_61 : decode cX11_run 61 = .ok (.if_icmp .ge 29, 3) := by decide +kernel
theorem dX11_run_64 : decode cX11_run 64 = .ok (.iload_n 3, 1) := by decide +kernel
theorem dX11_run_65 : decode cX11_run 65 = .ok (.aload_n 0, 1) := by decide +kernel
theorem dX11_run_66 : decode cX11_run 66 = .ok (.getfield 70, 3) := by decide +kernel
theorem dX11_run_69 : decode cX11_run 69 = .ok (.iload 4, 2) := by decide +kernel
theorem dX11_run_71 : decode cX11_run 71 = .ok (.iaload, 1) := by decide +kernel
theorem dX11_run_72 : decode cX11_run 72 = .ok (.bipush (-4), 2) := by decide +kernel
theorem dX11_run_74 : decode cX11_run 74 = .ok (.if_icmp .ne 7, 3) := by decide +kernel
theorem dX11_run_77 : decode cX11_run 77 = .ok (.iconst 0, 1) := by decide +kernel
theorem dX11_run_78 : decode cX11_run 78 = .ok (.goto 4, 3) := by decide +kernel
theorem dX11_run_81 : decode cX11_run 81 = .ok (.iconst 1, 1) := by decide +kernel
theorem dX11_run_82 : decode cX11_run 82 = .ok (.iadd, 1) := by decide +kernel
theorem dX11_run_83 : decode cX11_run 83 = .ok (.istore_n 3, 1) := by decide +kernel
theorem dX11_run_84 : decode cX11_run 84 = .ok (.iinc 4 1, 3) := by decide +kernel
theorem dX11_run_87 : decode cX11_run 87 = .ok (.goto (-32), 3) := by decide +kernel
theorem dX11_run_90 : decode cX11_run 90 = .ok (.iload_n 2, 1) := by decide +kernel
theorem dX11_run_91 : decode cX11_run 91 = .ok (.ifCond .ne 10, 3) := by decide +kernel
theorem dX11_run_94 : decode cX11_run 94 = .ok (.aload_n 0, 1) := by decide +kernel
theorem dX11_run_95 : decode cX11_run 95 = .ok (.invokevirtual 279, 3) := by decide +kernel
theorem dX11_run_98 : decode cX11_run 98 = .ok (.goto 45, 3) := by decide +kernel
theorem dX11_run_101 : decode cX11_run 101 = .ok (.iload_n 2, 1) := by decide +kernel
theorem dX11_run_102 : decode cX11_run 102 = .ok (.iconst 1, 1) := by decide +kernel
theorem dX11_run_103 : decode cX11_run 103 = .ok (.if_icmp .ne 10, 3) := by decide +kernel
theorem dX11_run_106 : decode cX11_run 106 = .ok (.aload_n 0, 1) := by decide +kernel
theorem dX11_run_107 : decode cX11_run 107 = .ok (.invokevirtual 282, 3) := by decide +kernel
theorem dX11_run_110 : decode cX11_run 110 = .ok (.goto 33, 3) := by decide +kernel
theorem dX11_run_113 : decode cX11_run 113 = .ok (.iload_n 2, 1) := by decide +kernel
theorem dX11_run_114 : decode cX11_run 114 = .ok (.iconst 2, 1) := by decide +kernel
theorem dX11_run_115 : decode cX11_run 115 = .ok (.if_icmp .ne 7, 3) := by decide +kernel
theorem dX11_run_118 : decode cX11_run 118 = .ok (.iload_n 3, 1) := by decide +kernel
theorem dX11_run_119 : decode cX11_run 119 = .ok (.goto 24, 3) := by decide +kernel
theorem dX11_run_122 : decode cX11_run 122 = .ok (.iload_n 2, 1) := by decide +kernel
theorem dX11_run_123 : decode cX11_run 123 = .ok (.iconst 3, 1) := by decide +kernel
theorem dX11_run_124 : decode cX11_run 124 = .ok (.if_icmp .ne 10, 3) := by decide +kernel
theorem dX11_run_127 : decode cX11_run 127 = .ok (.aload_n 0, 1) := by decide +kernel
theorem dX11_run_128 : decode cX11_run 128 = .ok (.getfield 237, 3) := by decide +kernel
theorem dX11_run_131 : decode cX11_run 131 = .ok (.goto 12, 3) := by decide +kernel
theorem dX11_run_134 : decode cX11_run 134 = .ok (.aload_n 0, 1) := by decide +kernel
theorem dX11_run_135 : decode cX11_run 135 = .ok (.getfield 70, 3) := by decide +kernel
theorem dX11_run_138 : decode cX11_run 138 = .ok (.iload_n 2, 1) := by decide +kernel
theorem dX11_run_139 : decode cX11_run 139 = .ok (.bipush 10, 2) := by decide +kernel
theorem dX11_run_141 : decode cX11_run 141 = .ok (.isub, 1) := by decide +kernel
theorem dX11_run_142 : decode cX11_run 142 = .ok (.iaload, 1) := by decide +kernel
theorem dX11_run_143 : decode cX11_run 143 = .ok (.ireturn, 1) := by decide +kernel
theorem dX11_runByOrder_0 : decode cX11_runByOrder 0 = .ok (.aload_n 0, 1) := by decide +kernel
theorem dX11_runByOrder_1 : decode cX11_runByOrder 1 = .ok (.invokevirtual 246, 3) := by decide +kernel
theorem dX11_runByOrder_4 : decode cX11_runByOrder 4 = .ok (.iconst 0, 1) := by decide +kernel
theorem dX11_runByOrder_5 : decode cX11_runByOrder 5 = .ok (.istore_n 2, 1) := by decide +kernel
theorem dX11_runByOrder_6 : decode cX11_runByOrder 6 = .ok (.iload_n 2, 1) := by decide +kernel
theorem dX11_runByOrder_7 : decode cX11_runByOrder 7 = .ok (.aload_n 0, 1) := by decide +kernel
theorem dX11_runByOrder_8 : decode cX11_runByOrder 8 = .ok (.getfield 243, 3) := by decide +kernel
theorem dX11_runByOrder_11 : decode cX11_runByOrder 11 = .ok (.if_icmp .ge 21, 3) := by decide +kernel
theorem dX11_runByOrder_14 : decode cX11_runByOrder 14 = .ok (.aload_n 0, 1) := by decide +kernel
theorem dX11_runByOrder_15 : decode cX11_runByOrder 15 = .ok (.aload_n 0, 1) := by decide +kernel
theorem dX11_runByOrder_16 : decode cX11_runByOrder 16 = .ok (.getfield 76, 3) := by decide +kernel
theorem dX11_runByOrder_19 : decode cX11_runByOrder 19 = .ok (.iload_n 2, 1) := by decide +kernel
theorem dX11_runByOrder_20 : decode cX11_runByOrder 20 = .ok (.iaload, 1) := by decide +kernel
theorem dX11_runByOrder_21 : decode cX11_runByOrder 21 = .ok (.iload_n 1, 1) := by decide +kernel
theorem dX11_runByOrder_22 : decode cX11_runByOrder 22 = .ok (.invokevirtual 270, 3) := by decide +kernel
theorem dX11_runByOrder_25 : decode cX11_runByOrder 25 = .ok (.pop, 1) := by decide +kernel
theorem dX11_runByOrder_26 : decode cX11_runByOrder 26 = .ok (.iinc 2 1, 3) := by decide +kernel
theorem dX11_runByOrder_29 : decode cX11_runByOrder 29 = .ok (.goto (-23), 3) := by decide +kernel
theorem dX11_runByOrder_32 : decode cX11_runByOrder 32 = .ok (.aload_n 0, 1) := by decide +kernel
theorem dX11_runByOrder_33 : decode cX11_runByOrder 33 = .ok (.invokevirtual 279, 3) := by decide +kernel
theorem dX11_runByOrder_36 : decode cX11_runByOrder 36 = .ok (.ireturn, 1) := by decide +kernel
theorem dX11_runBy_0 : decode cX11_runBy 0 = .ok (.aload_n 0, 1) := by decide +kernel
theorem dX11_runBy_1 : decode cX11_runBy 1 = .ok (.iload_n 1, 1) := by decide +kernel
theorem dX11_runBy_2 : decode cX11_runBy 2 = .ok (.invokevirtual 229, 3) := by decide +kernel
theorem dX11_runBy_5 : decode cX11_runBy 5 = .ok (.ifCond .eq 7, 3) := by decide +kernel
theorem dX11_runBy_8 : decode cX11_runBy 8 = .ok (.iload_n 2, 1) := by decide +kernel
theorem dX11_runBy_9 : decode cX11_runBy 9 = .ok (.ifCond .ge 5, 3) := by decide +kernel
theorem dX11_runBy_12 : decode cX11_runBy 12 = .ok (.iconst (-1), 1) := by decide +kernel
theorem dX11_runBy_13 : decode cX11_runBy 13 = .ok (.ireturn, 1) := by decide +kernel
theorem dX11_runBy_14 : decode cX11_runBy 14 = .ok (.iload_n 2, 1) := by decide +kernel
theorem dX11_runBy_15 : decode cX11_runBy 15 = .ok (.istore_n 3, 1) := by decide +kernel
theorem dX11_runBy_16 : decode cX11_runBy 16 = .ok (.iconst 0, 1) := by decide +kernel
theorem dX11_runBy_17 : decode cX11_runBy 17 = .ok (.istore 4, 2) := by decide +kernel
theorem dX11_runBy_19 : decode cX11_runBy 19 = .ok (.aload_n 0, 1) := by decide +kernel
theorem dX11_runBy_20 : decode cX11_runBy 20 = .ok (.getfield 130, 3) := by decide +kernel
theorem dX11_runBy_23 : decode cX11_runBy 23 = .ok (.iconst 1, 1) := by decide +kernel
theorem dX11_runBy_24 : decode cX11_runBy 24 = .ok (.isub, 1) := by decide +kernel
theorem dX11_runBy_25 : decode cX11_runBy 25 = .ok (.istore 5, 2) := by decide +kernel
theorem dX11_runBy_27 : decode cX11_runBy 27 = .ok (.iload 5, 2) := by decide +kernel
theorem dX11_runBy_29 : decode cX11_runBy 29 = .ok (.ifCond .lt 39, 3) := by decide +kernel
theorem dX11_runBy_32 : decode cX11_runBy 32 = .ok (.aload_n 0, 1) := by decide +kernel
theorem dX11_runBy_33 : decode cX11_runBy 33 = .ok (.getfield 76, 3) := by decide +kernel
theorem dX11_runBy_36 : decode cX11_runBy 36 = .ok (.iload 5, 2) := by decide +kernel
theorem dX11_runBy_38 : decode cX11_runBy 38 = .ok (.iload_n 3, 1) := by decide +kernel
theorem dX11_runBy_39 : decode cX11_runBy 39 = .ok (.bipush 10, 2) := by decide +kernel
theorem dX11_runBy_41 : decode cX11_runBy 41 = .ok (.irem, 1) := by decide +kernel
theorem dX11_runBy_42 : decode cX11_runBy 42 = .ok (.iastore, 1) := by decide +kernel
theorem dX11_runBy_43 : decode cX11_runBy 43 = .ok (.iload_n 3, 1) := by decide +kernel
theorem dX11_runBy_44 : decode cX11_runBy 44 = .ok (.bipush 10, 2) := by decide +kernel
theorem dX11_runBy_46 : decode cX11_runBy 46 = .ok (.idiv, 1) := by decide +kernel
theorem dX11_runBy_47 : decode cX11_runBy 47 = .ok (.istore_n 3, 1) := by decide +kernel
theorem dX11_runBy_48 : decode cX11_runBy 48 = .ok (.iload 4, 2) := by decide +kernel
theorem dX11_runBy_50 : decode cX11_runBy 50 = .ok (.iconst 1, 1) := by decide +kernel
theorem dX11_runBy_51 : decode cX11_runBy 51 = .ok (.aload_n 0, 1) := by decide +kernel
theorem dX11_runBy_52 : decode cX11_runBy 52 = .ok (.getfield 76, 3) := by decide +kernel
theorem dX11_runBy_55 : decode cX11_runBy 55 = .ok (.iload 5, 2) := by decide +kernel
theorem dX11_runBy_57 : decode cX11_runBy 57 = .ok (.iaload, 1) := by decide +kernel
theorem dX11_runBy_58 : decode cX11_runBy 58 = .ok (.ishl, 1) := by decide +kernel
theorem dX11_runBy_59 : decode cX11_runBy 59 = .ok (.ior, 1) := by decide +kernel
theorem dX11_runBy_60 : decode cX11_runBy 60 = .ok (.istore 4, 2) := by decide +kernel
theorem dX11_runBy_62 : decode cX11_runBy 62 = .ok (.iinc 5 (-1), 3) := by decide +kernel
theorem dX11_runBy_65 : decode cX11_runBy 65 = .ok (.goto (-38), 3) := by decide +kernel
theorem dX11_runBy_68 : decode cX11_runBy 68 = .ok (.iload_n 3, 1) := by decide +kernel
theorem dX11_runBy_69 : decode cX11_runBy 69 = .ok (.ifCond .gt 16, 3) := by decide +kernel
theorem dX11_runBy_72 : decode cX11_runBy 72 = .ok (.iload 4, 2) := by decide +kernel
theorem dX11_runBy_74 : decode cX11_runBy 74 = .ok (.iconst 1, 1) := by decide +kernel
theorem dX11_runBy_75 : decode cX11_runBy 75 = .ok (.aload_n 0, 1) := by decide +kernel
theorem dX11_runBy_76 : decode cX11_runBy 76 = .ok (.getfield 130, 3) := by decide +kernel
theorem dX11_runBy_79 : decode cX11_runBy 79 = .ok (.ishl, 1) := by decide +kernel
theorem dX11_runBy_80 : decode cX11_runBy 80 = .ok (.iconst 1, 1) := by decide +kernel
theorem dX11_runBy_81 : decode cX11_runBy 81 = .ok (.isub, 1) := by decide +kernel
theorem dX11_runBy_82 : decode cX11_runBy 82 = .ok (.if_icmp .eq 5, 3) := by decide +kernel
theorem dX11_runBy_85 : decode cX11_runBy 85 = .ok (.iconst (-1), 1) := by decide +kernel
theorem dX11_runBy_86 : decode cX11_runBy 86 = .ok (.ireturn, 1) := by decide +kernel
theorem dX11_runBy_87 : decode cX11_runBy 87 = .ok (.aload_n 0, 1) := by decide +kernel
theorem dX11_runBy_88 : decode cX11_runBy 88 = .ok (.invokevirtual 273, 3) := by decide +kernel
theorem dX11_runBy_91 : decode cX11_runBy 91 = .ok (.aload_n 0, 1) := by decide +kernel
theorem dX11_runBy_92 : decode cX11_runBy 92 = .ok (.iload_n 1, 1) := by decide +kernel
theorem dX11_runBy_93 : decode cX11_runBy 93 = .ok (.invokevirtual 285, 3) := by decide +kernel
theorem dX11_runBy_96 : decode cX11_runBy 96 = .ok (.ireturn, 1) := by decide +kernel
theorem dX11_layFigures_0 : decode cX11_layFigures 0 = .ok (.aload_n 0, 1) := by decide +kernel
theorem dX11_layFigures_1 : decode cX11_layFigures 1 = .ok (.iconst 1, 1) := by decide +kernel
theorem dX11_layFigures_2 : decode cX11_layFigures 2 = .ok (.putfield 288, 3) := by decide +kernel
theorem dX11_layFigures_5 : decode cX11_layFigures 5 = .ok (.iconst 0, 1) := by decide +kernel
theorem dX11_layFigures_6 : decode cX11_layFigures 6 = .ok (.istore_n 1, 1) := by decide +kernel
theorem dX11_layFigures_7 : decode cX11_layFigures 7 = .ok (.iload_n 1, 1) := by decide +kernel
theorem dX11_layFigures_8 : decode cX11_layFigures 8 = .ok (.aload_n 0, 1) := by decide +kernel
theorem dX11_layFigures_9 : decode cX11_layFigures 9 = .ok (.getfield 122, 3) := by decide +kernel
theorem dX11_layFigures_12 : decode cX11_layFigures 12 = .ok (.if_icmp .ge 36, 3) := by decide +kernel
theorem dX11_layFigures_15 : decode cX11_layFigures 15 = .ok (.aload_n 0, 1) := by decide +kernel
theorem dX11_layFigures_16 : decode cX11_layFigures 16 = .ok (.getfield 82, 3) := by decide +kernel
theorem dX11_layFigures_19 : decode cX11_layFigures 19 = .ok (.iload_n 1, 1) := by decide +kernel
theorem dX11_layFigures_20 : decode cX11_layFigures 20 = .ok (.aload_n 0, 1) := by decide +kernel
theorem dX11_layFigures_21 : decode cX11_layFigures 21 = .ok (.getfield 288, 3) := by decide +kernel
theorem dX11_layFigures_24 : decode cX11_layFigures 24 = .ok (.iastore, 1) := by decide +kernel
theorem dX11_layFigures_25 : decode cX11_layFigures 25 = .ok (.aload_n 0, 1) := by decide +kernel
theorem dX11_layFigures_26 : decode cX11_layFigures 26 = .ok (.dup, 1) := by decide +kernel
theorem dX11_layFigures_27 : decode cX11_layFigures 27 = .ok (.getfield 288, 3) := by decide +kernel
theorem dX11_layFigures_30 : decode cX11_layFigures 30 = .ok (.aload_n 0, 1) := by decide +kernel
theorem dX11_layFigures_31 : decode cX11_layFigures 31 = .ok (.getfield 79, 3) := by decide +kernel
theorem dX11_layFigures_34 : decode cX11_layFigures 34 = .ok (.iload_n 1, 1) := by decide +kernel
theorem dX11_layFigures_35 : decode cX11_layFigures 35 = .ok (.iaload, 1) := by decide +kernel
theorem dX11_layFigures_36 : decode cX11_layFigures 36 = .ok (.iconst 1, 1) := by decide +kernel
theorem dX11_layFigures_37 : decode cX11_layFigures 37 = .ok (.iadd, 1) := by decide +kernel
theorem dX11_layFigures_38 : decode cX11_layFigures 38 = .ok (.imul, 1) := by decide +kernel
theorem dX11_layFigures_39 : decode cX11_layFigures 39 = .ok (.putfield 288, 3) := by decide +kernel
theorem dX11_layFigures_42 : decode cX11_layFigures 42 = .ok (.iinc 1 1, 3) := by decide +kernel
theorem dX11_layFigures_45 : decode cX11_layFigures 45 = .ok (.goto (-38), 3) := by decide +kernel
theorem dX11_layFigures_48 : decode cX11_layFigures 48 = .ok (.return_, 1) := by decide +kernel
theorem dX11_hasRoom_0 : decode cX11_hasRoom 0 = .ok (.iload_n 1, 1) := by decide +kernel
theorem dX11_hasRoom_1 : decode cX11_hasRoom 1 = .ok (.aload_n 0, 1) := by decide +kernel
theorem dX11_hasRoom_2 : decode cX11_hasRoom 2 = .ok (.getfield 82, 3) := by decide +kernel
theorem dX11_hasRoom_5 : decode cX11_hasRoom 5 = .ok (.iload_n 2, 1) := by decide +kernel
theorem dX11_hasRoom_6 : decode cX11_hasRoom 6 = .ok (.iaload, 1) := by decide +kernel
theorem dX11_hasRoom_7 : decode cX11_hasRoom 7 = .ok (.idiv, 1) := by decide +kernel
theorem dX11_hasRoom_8 : decode cX11_hasRoom 8 = .ok (.aload_n 0, 1) := by decide +kernel
theorem dX11_hasRoom_9 : decode cX11_hasRoom 9 = .ok (.getfield 79, 3) := by decide +kernel
theorem dX11_hasRoom_12 : decode cX11_hasRoom 12 = .ok (.iload_n 2, 1) := by decide +kernel
theorem dX11_hasRoom_13 : decode cX11_hasRoom 13 = .ok (.iaload, 1) := by decide +kernel
theorem dX11_hasRoom_14 : decode cX11_hasRoom 14 = .ok (.iconst 1, 1) := by decide +kernel
theorem dX11_hasRoom_15 : decode cX11_hasRoom 15 = .ok (.iadd, 1) := by decide +kernel
theorem dX11_hasRoom_16 : decode cX11_hasRoom 16 = .ok (.irem, 1) := by decide +kernel
theorem dX11_hasRoom_17 : decode cX11_hasRoom 17 = .ok (.ifCond .le 7, 3) := by decide +kernel
theorem dX11_hasRoom_20 : decode cX11_hasRoom 20 = .ok (.iconst 1, 1) := by decide +kernel
theorem dX11_hasRoom_21 : decode cX11_hasRoom 21 = .ok (.goto 4, 3) := by decide +kernel
theorem dX11_hasRoom_24 : decode cX11_hasRoom 24 = .ok (.iconst 0, 1) := by decide +kernel
theorem dX11_hasRoom_25 : decode cX11_hasRoom 25 = .ok (.ireturn, 1) := by decide +kernel
theorem dX11_whole_0 : decode cX11_whole 0 = .ok (.aload_n 0, 1) := by decide +kernel
theorem dX11_whole_1 : decode cX11_whole 1 = .ok (.getfield 288, 3) := by decide +kernel
theorem dX11_whole_4 : decode cX11_whole 4 = .ok (.iconst 1, 1) := by decide +kernel
theorem dX11_whole_5 : decode cX11_whole 5 = .ok (.isub, 1) := by decide +kernel
theorem dX11_whole_6 : decode cX11_whole 6 = .ok (.ireturn, 1) := by decide +kernel
theorem dX11_layBest_0 : decode cX11_layBest 0 = .ok (.iconst 0, 1) := by decide +kernel
theorem dX11_layBest_1 : decode cX11_layBest 1 = .ok (.istore_n 3, 1) := by decide +kernel
theorem dX11_layBest_2 : decode cX11_layBest 2 = .ok (.iload_n 3, 1) := by decide +kernel
theorem dX11_layBest_3 : decode cX11_layBest 3 = .ok (.aload_n 0, 1) := by decide +kernel
theorem dX11_layBest_4 : decode cX11_layBest 4 = .ok (.getfield 288, 3) := by decide +kernel
theorem dX11_layBest_7 : decode cX11_layBest 7 = .ok (.if_icmp .ge 22, 3) := by decide +kernel
theorem dX11_layBest_10 : decode cX11_layBest 10 = .ok (.aload_n 0, 1) := by decide +kernel
theorem dX11_layBest_11 : decode cX11_layBest 11 = .ok (.getfield 85, 3) := by decide +kernel
theorem dX11_layBest_14 : decode cX11_layBest 14 = .ok (.sipush 512, 3) := by decide +kernel
theorem dX11_layBest_17 : decode cX11_layBest 17 = .ok (.iload_n 2, 1) := by decide +kernel
theorem dX11_layBest_18 : decode cX11_layBest 18 = .ok (.imul, 1) := by decide +kernel
theorem dX11_layBest_19 : decode cX11_layBest 19 = .ok (.iload_n 3, 1) := by decide +kernel
theorem dX11_layBest_20 : decode cX11_layBest 20 = .ok (.iadd, 1) := by decide +kernel
theorem dX11_layBest_21 : decode cX11_layBest 21 = .ok (.iconst 0, 1) := by decide +kernel
theorem dX11_layBest_22 : decode cX11_layBest 22 = .ok (.iastore, 1) := by decide +kernel
theorem dX11_layBest_23 : decode cX11_layBest 23 = .ok (.iinc 3 1, 3) := by decide +kernel
theorem dX11_layBest_26 : decode cX11_layBest 26 = .ok (.goto (-24), 3) := by decide +kernel
theorem dX11_layBest_29 : decode cX11_layBest 29 = .ok (.iload_n 2, 1) := by decide +kernel
theorem dX11_layBest_30 : decode cX11_layBest 30 = .ok (.iconst 1, 1) := by decide +kernel
theorem dX11_layBest_31 : decode cX11_layBest 31 = .ok (.isub, 1) := by decide +kernel
theorem dX11_layBest_32 : decode cX11_layBest 32 = .ok (.istore_n 3, 1) := by decide +kernel
theorem dX11_layBest_33 : decode cX11_layBest 33 = .ok (.iload_n 3, 1) := by decide +kernel
theorem dX11_layBest_34 : decode cX11_layBest 34 = .ok (.iload_n 1, 1) := by decide +kernel
theorem dX11_layBest_35 : decode cX11_layBest 35 = .ok (.if_icmp .lt 151, 3) := by decide +kernel
theorem dX11_layBest_38 : decode cX11_layBest 38 = .ok (.iconst 0, 1) := by decide +kernel
theorem dX11_layBest_39 : decode cX11_layBest 39 = .ok (.istore 4, 2) := by decide +kernel
theorem dX11_layBest_41 : decode cX11_layBest 41 = .ok (.iload 4, 2) := by decide +kernel
theorem dX11_layBest_43 : decode cX11_layBest 43 = .ok (.aload_n 0, 1) := by decide +kernel
theorem dX11_layBest_44 : decode cX11_layBest 44 = .ok (.getfield 288, 3) := by decide +kernel
theorem dX11_layBest_47 : decode cX11_layBest 47 = .ok (.if_icmp .ge 133, 3) := by decide +kernel
theorem dX11_layBest_50 : decode cX11_layBest 50 = .ok (.aload_n 0, 1) := by decide +kernel
theorem dX11_layBest_51 : decode cX11_layBest 51 = .ok (.getfield 85, 3) := by decide +kernel
theorem dX11_layBest_54 : decode cX11_layBest 54 = .ok (.sipush 512, 3) := by decide +kernel
theorem dX11_layBest_57 : decode cX11_layBest 57 = .ok (.iload_n 3, 1) := by decide +kernel
theorem dX11_layBest_58 : decode cX11_layBest 58 = .ok (.iconst 1, 1) := by decide +kernel
theorem dX11_layBest_59 : decode cX11_layBest 59 = .ok (.iadd, 1) := by decide +kernel
theorem dX11_layBest_60 : decode cX11_layBest 60 = .ok (.imul, 1) := by decide +kernel
theorem dX11_layBest_61 : decode cX11_layBest 61 = .ok (.iload 4, 2) := by decide +kernel
theorem dX11_layBest_63 : decode cX11_layBest 63 = .ok (.iadd, 1) := by decide +kernel
theorem dX11_layBest_64 : decode cX11_layBest 64 = .ok (.iaload, 1) := by decide +kernel
theorem dX11_layBest_65 : decode cX11_layBest 65 = .ok (.istore 5, 2) := by decide +kernel
theorem dX11_layBest_67 : decode cX11_layBest 67 = .ok (.iconst 0, 1) := by decide +kernel
theorem dX11_layBest_68 : decode cX11_layBest 68 = .ok (.istore 6, 2) := by decide +kernel
theorem dX11_layBest_70 : decode cX11_layBest 70 = .ok (.iload 6, 2) := by decide +kernel
theorem dX11_layBest_72 : decode cX11_layBest 72 = .ok (.aload_n 0, 1) := by decide +kernel
theorem dX11_layBest_73 : decode cX11_layBest 73 = .ok (.getfield 122, 3) := by decide +kernel
theorem dX11_layBest_76 : decode cX11_layBest 76 = .ok (.if_icmp .ge 83, 3) := by decide +kernel
theorem dX11_layBest_79 : decode cX11_layBest 79 = .ok (.aload_n 0, 1) := by decide +kernel
theorem dX11_layBest_80 : decode cX11_layBest 80 = .ok (.getfield 22, 3) := by decide +kernel
theorem dX11_layBest_83 : decode cX11_layBest 83 = .ok (.bipush 6, 2) := by decide +kernel
theorem dX11_layBest_85 : decode cX11_layBest 85 = .ok (.iload_n 3, 1) := by decide +kernel
theorem dX11_layBest_86 : decode cX11_layBest 86 = .ok (.imul, 1) := by decide +kernel
theorem dX11_layBest_87 : decode cX11_layBest 87 = .ok (.iload 6, 2) := by decide +kernel
theorem dX11_layBest_89 : decode cX11_layBest 89 = .ok (.iadd, 1) := by decide +kernel
theorem dX11_layBest_90 : decode cX11_layBest 90 = .ok (.iaload, 1) := by decide +kernel
theorem dX11_layBest_91 : decode cX11_layBest 91 = .ok (.istore 7, 2) := by decide +kernel
theorem dX11_layBest_93 : decode cX11_layBest 93 = .ok (.iload 7, 2) := by decide +kernel
theorem dX11_layBest_95 : decode cX11_layBest 95 = .ok (.ifCond .le 58, 3) := by decide +kernel
theorem dX11_layBest_98 : decode cX11_layBest 98 = .ok (.aload_n 0, 1) := by decide +kernel
theorem dX11_layBest_99 : decode cX11_layBest 99 = .ok (.iload 4, 2) := by decide +kernel
theorem dX11_layBest_101 : decode cX11_layBest 101 = .ok (.iload 6, 2) := by decide +kernel
theorem dX11_layBest_103 : decode cX11_layBest 103 = .ok (.invokevirtual 291, 3) := by decide +kernel
theorem dX11_layBest_106 : decode cX11_layBest 106 = .ok (.ifCond .eq 47, 3) := by decide +kernel
theorem dX11_layBest_109 : decode cX11_layBest 109 = .ok (.iload 7, 2) := by decide +kernel
theorem dX11_layBest_111 : decode cX11_layBest 111 = .ok (.aload_n 0, 1) := by decide +kernel
theorem dX11_layBest_112 : decode cX11_layBest 112 = .ok (.getfield 85, 3) := by decide +kernel
theorem dX11_layBest_115 : decode cX11_layBest 115 = .ok (.sipush 512, 3) := by decide +kernel
theorem dX11_layBest_118 : decode cX11_layBest 118 = .ok (.iload_n 3, 1) := by decide +kernel
theorem dX11_layBest_119 : decode cX11_layBest 119 = .ok (.iconst 1, 1) := by decide +kernel
theorem dX11_layBest_120 : decode cX11_layBest 120 = .ok (.iadd, 1) := by decide +kernel
theorem dX11_layBest_121 : decode cX11_layBest 121 = .ok (.imul, 1) := by decide +kernel
theorem dX11_layBest_122 : decode cX11_layBest 122 = .ok (.iload 4, 2) := by decide +kernel
theorem dX11_layBest_124 : decode cX11_layBest 124 = .ok (.iadd, 1) := by decide +kernel
theorem dX11_layBest_125 : decode cX11_layBest 125 = .ok (.aload_n 0, 1) := by decide +kernel
theorem dX11_layBest_126 : decode cX11_layBest 126 = .ok (.getfield 82, 3) := by decide +kernel
theorem dX11_layBest_129 : decode cX11_layBest 129 = .ok (.iload 6, 2) := by decide +kernel
theorem dX11_layBest_131 : decode cX11_layBest 131 = .ok (.iaload, 1) := by decide +kernel
theorem dX11_layBest_132 : decode cX11_layBest 132 = .ok (.isub, 1) := by decide +kernel
theorem dX11_layBest_133 : decode cX11_layBest 133 = .ok (.iaload, 1) := by decide +kernel
theorem dX11_layBest_134 : decode cX11_layBest 134 = .ok (.iadd, 1) := by decide +kernel
theorem dX11_layBest_135 : decode cX11_layBest 135 = .ok (.istore 8, 2) := by decide +kernel
theorem dX11_layBest_137 : decode cX11_layBest 137 = .ok (.iload 8, 2) := by decide +kernel
theorem dX11_layBest_139 : decode cX11_layBest 139 = .ok (.iload 5, 2) := by decide +kernel
theorem dX11_layBest_141 : decode cX11_layBest 141 = .ok (.if_icmp .le 8, 3) := by decide +kernel
theorem dX11_layBest_144 : decode cX11_layBest 144 = .ok (.iload 8, 2) := by decide +kernel
theorem dX11_layBest_146 : decode cX11_layBest 146 = .ok (.goto 5, 3) := by decide +kernel
theorem dX11_layBest_149 : decode cX11_layBest 149 = .ok (.iload 5, 2) := by decide +kernel
theorem dX11_layBest_151 : decode cX11_layBest 151 = .ok (.istore 5, 2) := by decide +kernel
theorem dX11_layBest_153 : decode cX11_layBest 153 = .ok (.iinc 6 1, 3) := by decide +kernel
theorem dX11_layBest_156 : decode cX11_layBest 156 = .ok (.goto (-86), 3) := by decide +kernel
theorem dX11_layBest_159 : decode cX11_layBest 159 = .ok (.aload_n 0, 1) := by decide +kernel
theorem dX11_layBest_160 : decode cX11_layBest 160 = .ok (.getfield 85, 3) := by decide +kernel
theorem dX11_layBest_163 : decode cX11_layBest 163 = .ok (.sipush 512, 3) := by decide +kernel
theorem dX11_layBest_166 : decode cX11_layBest 166 = .ok (.iload_n 3, 1) := by decide +kernel
theorem dX11_layBest_167 : decode cX11_layBest 167 = .ok (.imul, 1) := by decide +kernel
theorem dX11_layBest_168 : decode cX11_layBest 168 = .ok (.iload 4, 2) := by decide +kernel
theorem dX11_layBest_170 : decode cX11_layBest 170 = .ok (.iadd, 1) := by decide +kernel
theorem dX11_layBest_171 : decode cX11_layBest 171 = .ok (.iload 5, 2) := by decide +kernel
theorem dX11_layBest_173 : decode cX11_layBest 173 = .ok (.iastore, 1) := by decide +kernel
theorem dX11_layBest_174 : decode cX11_layBest 174 = .ok (.iinc 4 1, 3) := by decide +kernel
theorem dX11_layBest_177 : decode cX11_layBest 177 = .ok (.goto (-136), 3) := by decide +kernel
theorem dX11_layBest_180 : decode cX11_layBest 180 = .ok (.iinc 3 (-1), 3) := by decide +kernel
theorem dX11_layBest_183 : decode cX11_layBest 183 = .ok (.goto (-150), 3) := by decide +kernel
theorem dX11_layBest_186 : decode cX11_layBest 186 = .ok (.return_, 1) := by decide +kernel
theorem dX11_capsAsRooms_0 : decode cX11_capsAsRooms 0 = .ok (.iconst 0, 1) := by decide +kernel
theorem dX11_capsAsRooms_1 : decode cX11_capsAsRooms 1 = .ok (.istore_n 1, 1) := by decide +kernel
theorem dX11_capsAsRooms_2 : decode cX11_capsAsRooms 2 = .ok (.iload_n 1, 1) := by decide +kernel
theorem dX11_capsAsRooms_3 : decode cX11_capsAsRooms 3 = .ok (.aload_n 0, 1) := by decide +kernel
theorem dX11_capsAsRooms_4 : decode cX11_capsAsRooms 4 = .ok (.getfield 122, 3) := by decide +kernel
theorem dX11_capsAsRooms_7 : decode cX11_capsAsRooms 7 = .ok (.if_icmp .ge 21, 3) := by decide +kernel
theorem dX11_capsAsRooms_10 : decode cX11_capsAsRooms 10 = .ok (.aload_n 0, 1) := by decide +kernel
theorem dX11_capsAsRooms_11 : decode cX11_capsAsRooms 11 = .ok (.getfield 79, 3) := by decide +kernel
theorem dX11_capsAsRooms_14 : decode cX11_capsAsRooms 14 = .ok (.iload_n 1, 1) := by decide +kernel
theorem dX11_capsAsRooms_15 : decode cX11_capsAsRooms 15 = .ok (.aload_n 0, 1) := by decide +kernel
theorem dX11_capsAsRooms_16 : decode cX11_capsAsRooms 16 = .ok (.getfield 7, 3) := by decide +kernel
theorem dX11_capsAsRooms_19 : decode cX11_capsAsRooms 19 = .ok (.iload_n 1, 1) := by decide +kernel
theorem dX11_capsAsRooms_20 : decode cX11_capsAsRooms 20 = .ok (.iaload, 1) := by decide +kernel
theorem dX11_capsAsRooms_21 : decode cX11_capsAsRooms 21 = .ok (.iastore, 1) := by decide +kernel
theorem dX11_capsAsRooms_22 : decode cX11_capsAsRooms 22 = .ok (.iinc 1 1, 3) := by decide +kernel
theorem dX11_capsAsRooms_25 : decode cX11_capsAsRooms 25 = .ok (.goto (-23), 3) := by decide +kernel
theorem dX11_capsAsRooms_28 : decode cX11_capsAsRooms 28 = .ok (.aload_n 0, 1) := by decide +kernel
theorem dX11_capsAsRooms_29 : decode cX11_capsAsRooms 29 = .ok (.invokevirtual 295, 3) := by decide +kernel
theorem dX11_capsAsRooms_32 : decode cX11_capsAsRooms 32 = .ok (.return_, 1) := by decide +kernel
theorem dX11_bestSum_0 : decode cX11_bestSum 0 = .ok (.aload_n 0, 1) := by decide +kernel
theorem dX11_bestSum_1 : decode cX11_bestSum 1 = .ok (.iconst 0, 1) := by decide +kernel
theorem dX11_bestSum_2 : decode cX11_bestSum 2 = .ok (.aload_n 0, 1) := by decide +kernel
theorem dX11_bestSum_3 : decode cX11_bestSum 3 = .ok (.getfield 130, 3) := by decide +kernel
theorem dX11_bestSum_6 : decode cX11_bestSum 6 = .ok (.invokevirtual 298, 3) := by decide +kernel
theorem dX11_bestSum_9 : decode cX11_bestSum 9 = .ok (.aload_n 0, 1) := by decide +kernel
theorem dX11_bestSum_10 : decode cX11_bestSum 10 = .ok (.getfield 85, 3) := by decide +kernel
theorem dX11_bestSum_13 : decode cX11_bestSum 13 = .ok (.aload_n 0, 1) := by decide +kernel
theorem dX11_bestSum_14 : decode cX11_bestSum 14 = .ok (.invokevirtual 302, 3) := by decide +kernel
theorem dX11_bestSum_17 : decode cX11_bestSum 17 = .ok (.iaload, 1) := by decide +kernel
theorem dX11_bestSum_18 : decode cX11_bestSum 18 = .ok (.ireturn, 1) := by decide +kernel
theorem dX11_best_0 : decode cX11_best 0 = .ok (.aload_n 0, 1) := by decide +kernel
theorem dX11_best_1 : decode cX11_best 1 = .ok (.invokevirtual 305, 3) := by decide +kernel
theorem dX11_best_4 : decode cX11_best 4 = .ok (.aload_n 0, 1) := by decide +kernel
theorem dX11_best_5 : decode cX11_best 5 = .ok (.invokevirtual 308, 3) := by decide +kernel
theorem dX11_best_8 : decode cX11_best 8 = .ok (.ireturn, 1) := by decide +kernel
theorem dX11_layPairs_0 : decode cX11_layPairs 0 = .ok (.iload_n 3, 1) := by decide +kernel
theorem dX11_layPairs_1 : decode cX11_layPairs 1 = .ok (.istore 4, 2) := by decide +kernel
theorem dX11_layPairs_3 : decode cX11_layPairs 3 = .ok (.iload_n 1, 1) := by decide +kernel
theorem dX11_layPairs_4 : decode cX11_layPairs 4 = .ok (.istore 5, 2) := by decide +kernel
theorem dX11_layPairs_6 : decode cX11_layPairs 6 = .ok (.iload 5, 2) := by decide +kernel
theorem dX11_layPairs_8 : decode cX11_layPairs 8 = .ok (.iload_n 2, 1) := by decide +kernel
theorem dX11_layPairs_9 : decode cX11_layPairs 9 = .ok (.if_icmp .ge 165, 3) := by decide +kernel
theorem dX11_layPairs_12 : decode cX11_layPairs 12 = .ok (.aload_n 0, 1) := by decide +kernel
theorem dX11_layPairs_13 : decode cX11_layPairs 13 = .ok (.getfield 88, 3) := by decide +kernel
theorem dX11_layPairs_16 : decode cX11_layPairs 16 = .ok (.iload 5, 2) := by decide +kernel
theorem dX11_layPairs_18 : decode cX11_layPairs 18 = .ok (.bipush (-4), 2) := by decide +kernel
theorem dX11_layPairs_20 : decode cX11_layPairs 20 = .ok (.iastore, 1) := by decide +kernel
theorem dX11_layPairs_21 : decode cX11_layPairs 21 = .ok (.iconst 0, 1) := by decide +kernel
theorem dX11_layPairs_22 : decode cX11_layPairs 22 = .ok (.istore 6, 2) := by decide +kernel
theorem dX11_layPairs_24 : decode cX11_layPairs 24 = .ok (.iload 6, 2) := by decide +kernel
theorem dX11_layPairs_26 : decode cX11_layPairs 26 = .ok (.aload_n 0, 1) := by decide +kernel
theorem dX11_layPairs_27 : decode cX11_layPairs 27 = .ok (.getfield 122, 3) := by decide +kernel
theorem dX11_layPairs_30 : decode cX11_layPairs 30 = .ok (.if_icmp .ge 105, 3) := by decide +kernel
theorem dX11_layPairs_33 : decode cX11_layPairs 33 = .ok (.aload_n 0, 1) := by decide +kernel
theorem dX11_layPairs_34 : decode cX11_layPairs 34 = .ok (.getfield 88, 3) := by decide +kernel
theorem dX11_layPairs_37 : decode cX11_layPairs 37 = .ok (.iload 5, 2) := by decide +kernel
theorem dX11_layPairs_39 : decode cX11_layPairs 39 = .ok (.iaload, 1) := by decide +kernel
theorem dX11_layPairs_40 : decode cX11_layPairs 40 = .ok (.bipush (-4), 2) := by decide +kernel
theorem dX11_layPairs_42 : decode cX11_layPairs 42 = .ok (.if_icmp .ne 93, 3) := by decide +kernel
theorem dX11_layPairs_45 : decode cX11_layPairs 45 = .ok (.aload_n 0, 1) := by decide +kernel
theorem dX11_layPairs_46 : decode cX11_layPairs 46 = .ok (.getfield 22, 3) := by decide +kernel
theorem dX11_layPairs_49 : decode cX11_layPairs 49 = .ok (.bipush 6, 2) := by decide +kernel
theorem dX11_layPairs_51 : decode cX11_layPairs 51 = .ok (.iload 5, 2) := by decide +kernel
theorem dX11_layPairs_53 : decode cX11_layPairs 53 = .ok (.imul, 1) := by decide +kernel
theorem dX11_layPairs_54 : decode cX11_layPairs 54 = .ok (.iload 6, 2) := by decide +kernel
theorem dX11_layPairs_56 : decode cX11_layPairs 56 = .ok (.iadd, 1) := by decide +kernel
theorem dX11_layPairs_57 : decode cX11_layPairs 57 = .ok (.iaload, 1) := by decide +kernel
theorem dX11_layPairs_58 : decode cX11_layPairs 58 = .ok (.istore 7, 2) := by decide +kernel
theorem dX11_layPairs_60 : decode cX11_layPairs 60 = .ok (.iload 7, 2) := by decide +kernel
theorem dX11_layPairs_62 : decode cX11_layPairs 62 = .ok (.ifCond .le 67, 3) := by decide +kernel
theorem dX11_layPairs_65 : decode cX11_layPairs 65 = .ok (.aload_n 0, 1) := by decide +kernel
theorem dX11_layPairs_66 : decode cX11_layPairs 66 = .ok (.iload 4, 2) := by decide +kernel
theorem dX11_layPairs_68 : decode cX11_layPairs 68 = .ok (.iload 6, 2) := by decide +kernel
theorem dX11_layPairs_70 : decode cX11_layPairs 70 = .ok (.invokevirtual 291, 3) := by decide +kernel
theorem dX11_layPairs_73 : decode cX11_layPairs 73 = .ok (.ifCond .eq 56, 3) := by decide +kernel
theorem dX11_layPairs_76 : decode cX11_layPairs 76 = .ok (.iload 7, 2) := by decide +kernel
theorem dX11_layPairs_78 : decode cX11_layPairs 78 = .ok (.aload_n 0, 1) := by decide +kernel
theorem dX11_layPairs_79 : decode cX11_layPairs 79 = .ok (.getfield 85, 3) := by decide +kernel
theorem dX11_layPairs_82 : decode cX11_layPairs 82 = .ok (.sipush 512, 3) := by decide +kernel
theorem dX11_layPairs_85 : decode cX11_layPairs 85 = .ok (.iload 5, 2) := by decide +kernel
theorem dX11_layPairs_87 : decode cX11_layPairs 87 = .ok (.iconst 1, 1) := by decide +kernel
theorem dX11_layPairs_88 : decode cX11_layPairs 88 = .ok (.iadd, 1) := by decide +kernel
theorem dX11_layPairs_89 : decode cX11_layPairs 89 = .ok (.imul, 1) := by decide +kernel
theorem dX11_layPairs_90 : decode cX11_layPairs 90 = .ok (.iload 4, 2) := by decide +kernel
theorem dX11_layPairs_92 : decode cX11_layPairs 92 = .ok (.iadd, 1) := by decide +kernel
theorem dX11_layPairs_93 : decode cX11_layPairs 93 = .ok (.aload_n 0, 1) := by decide +kernel
theorem dX11_layPairs_94 : decode cX11_layPairs 94 = .ok (.getfield 82, 3) := by decide +kernel
theorem dX11_layPairs_97 : decode cX11_layPairs 97 = .ok (.iload 6, 2) := by decide +kernel
theorem dX11_layPairs_99 : decode cX11_layPairs 99 = .ok (.iaload, 1) := by decide +kernel
theorem dX11_layPairs_100 : decode cX11_layPairs 100 = .ok (.isub, 1) := by decide +kernel
theorem dX11_layPairs_101 : decode cX11_layPairs 101 = .ok (.iaload, 1) := by decide +kernel
theorem dX11_layPairs_102 : decode cX11_layPairs 102 = .ok (.iadd, 1) := by decide +kernel
theorem dX11_layPairs_103 : decode cX11_layPairs 103 = .ok (.aload_n 0, 1) := by decide +kernel
theorem dX11_layPairs_104 : decode cX11_layPairs 104 = .ok (.getfield 85, 3) := by decide +kernel
theorem dX11_layPairs_107 : decode cX11_layPairs 107 = .ok (.sipush 512, 3) := by decide +kernel
theorem dX11_layPairs_110 : decode cX11_layPairs 110 = .ok (.iload 5, 2) := by decide +kernel
theorem dX11_layPairs_112 : decode cX11_layPairs 112 = .ok (.imul, 1) := by decide +kernel
theorem dX11_layPairs_113 : decode cX11_layPairs 113 = .ok (.iload 4, 2) := by decide +kernel
theorem dX11_layPairs_115 : decode cX11_layPairs 115 = .ok (.iadd, 1) := by decide +kernel
theorem dX11_layPairs_116 : decode cX11_layPairs 116 = .ok (.iaload, 1) := by decide +kernel
theorem dX11_layPairs_117 : decode cX11_layPairs 117 = .ok (.if_icmp .ne 12, 3) := by decide +kernel
theorem dX11_layPairs_120 : decode cX11_layPairs 120 = .ok (.aload_n 0, 1) := by decide +kernel
theorem dX11_layPairs_121 : decode cX11_layPairs 121 = .ok (.getfield 88, 3) := by decide +kernel
theorem dX11_layPairs_124 : decode cX11_layPairs 124 = .ok (.iload 5, 2) := by decide +kernel
theorem dX11_layPairs_126 : decode cX11_layPairs 126 = .ok (.iload 6, 2) := by decide +kernel
theorem dX11_layPairs_128 : decode cX11_layPairs 128 = .ok (.iastore, 1) := by decide +kernel
theorem dX11_layPairs_129 : decode cX11_layPairs 129 = .ok (.iinc 6 1, 3) := by decide +kernel
theorem dX11_layPairs_132 : decode cX11_layPairs 132 = .ok (.goto (-108), 3) := by decide +kernel
theorem dX11_layPairs_135 : decode cX11_layPairs 135 = .ok (.iload 4, 2) := by decide +kernel
theorem dX11_layPairs_137 : decode cX11_layPairs 137 = .ok (.aload_n 0, 1) := by decide +kernel
theorem dX11_layPairs_138 : decode cX11_layPairs 138 = .ok (.getfield 88, 3) := by decide +kernel
theorem dX11_layPairs_141 : decode cX11_layPairs 141 = .ok (.iload 5, 2) := by decide +kernel
theorem dX11_layPairs_143 : decode cX11_layPairs 143 = .ok (.iaload, 1) := by decide +kernel
theorem dX11_layPairs_144 : decode cX11_layPairs 144 = .ok (.bipush (-4), 2) := by decide +kernel
theorem dX11_layPairs_146 : decode cX11_layPairs 146 = .ok (.if_icmp .ne 7, 3) := by decide +kernel
theorem dX11_layPairs_149 : decode cX11_layPairs 149 = .ok (.iconst 0, 1) := by decide +kernel
theorem dX11_layPairs_150 : decode cX11_layPairs 150 = .ok (.goto 15, 3) := by decide +kernel
theorem dX11_layPairs_153 : decode cX11_layPairs 153 = .ok (.aload_n 0, 1) := by decide +kernel
theorem dX11_layPairs_154 : decode cX11_layPairs 154 = .ok (.getfield 82, 3) := by decide +kernel
theorem dX11_layPairs_157 : decode cX11_layPairs 157 = .ok (.aload_n 0, 1) := by decide +kernel
theorem dX11_layPairs_158 : decode cX11_layPairs 158 = .ok (.getfield 88, 3) := by decide +kernel
theorem dX11_layPairs_161 : decode cX11_layPairs 161 = .ok (.iload 5, 2) := by decide +kernel
theorem dX11_layPairs_163 : decode cX11_layPairs 163 = .ok (.iaload, 1) := by decide +kernel
theorem dX11_layPairs_164 : decode cX11_layPairs 164 = .ok (.iaload, 1) := by decide +kernel
theorem dX11_layPairs_165 : decode cX11_layPairs 165 = .ok (.isub, 1) := by decide +kernel
theorem dX11_layPairs_166 : decode cX11_layPairs 166 = .ok (.istore 4, 2) := by decide +kernel
theorem dX11_layPairs_168 : decode cX11_layPairs 168 = .ok (.iinc 5 1, 3) := by decide +kernel
theorem dX11_layPairs_171 : decode cX11_layPairs 171 = .ok (.goto (-165), 3) := by decide +kernel
theorem dX11_layPairs_174 : decode cX11_layPairs 174 = .ok (.iload 4, 2) := by decide +kernel
theorem dX11_layPairs_176 : decode cX11_layPairs 176 = .ok (.ireturn, 1) := by decide +kernel
theorem dX11_bestOf_0 : decode cX11_bestOf 0 = .ok (.aload_n 0, 1) := by decide +kernel
theorem dX11_bestOf_1 : decode cX11_bestOf 1 = .ok (.iload_n 1, 1) := by decide +kernel
theorem dX11_bestOf_2 : decode cX11_bestOf 2 = .ok (.invokevirtual 146, 3) := by decide +kernel
theorem dX11_bestOf_5 : decode cX11_bestOf 5 = .ok (.ifCond .ne 5, 3) := by decide +kernel
theorem dX11_bestOf_8 : decode cX11_bestOf 8 = .ok (.iconst (-1), 1) := by decide +kernel
theorem dX11_bestOf_9 : decode cX11_bestOf 9 = .ok (.ireturn, 1) := by decide +kernel
theorem dX11_bestOf_10 : decode cX11_bestOf 10 = .ok (.aload_n 0, 1) := by decide +kernel
theorem dX11_bestOf_11 : decode cX11_bestOf 11 = .ok (.invokevirtual 305, 3) := by decide +kernel
theorem dX11_bestOf_14 : decode cX11_bestOf 14 = .ok (.aload_n 0, 1) := by decide +kernel
theorem dX11_bestOf_15 : decode cX11_bestOf 15 = .ok (.iconst 0, 1) := by decide +kernel
theorem dX11_bestOf_16 : decode cX11_bestOf 16 = .ok (.aload_n 0, 1) := by decide +kernel
theorem dX11_bestOf_17 : decode cX11_bestOf 17 = .ok (.getfield 130, 3) := by decide +kernel
theorem dX11_bestOf_20 : decode cX11_bestOf 20 = .ok (.invokevirtual 298, 3) := by decide +kernel
theorem dX11_bestOf_23 : decode cX11_bestOf 23 = .ok (.aload_n 0, 1) := by decide +kernel
theorem dX11_bestOf_24 : decode cX11_bestOf 24 = .ok (.iconst 0, 1) := by decide +kernel
theorem dX11_bestOf_25 : decode cX11_bestOf 25 = .ok (.aload_n 0, 1) := by decide +kernel
theorem dX11_bestOf_26 : decode cX11_bestOf 26 = .ok (.getfield 130, 3) := by decide +kernel
theorem dX11_bestOf_29 : decode cX11_bestOf 29 = .ok (.aload_n 0, 1) := by decide +kernel
theorem dX11_bestOf_30 : decode cX11_bestOf 30 = .ok (.invokevirtual 302, 3) := by decide +kernel
theorem dX11_bestOf_33 : decode cX11_bestOf 33 = .ok (.invokevirtual 311, 3) := by decide +kernel
theorem dX11_bestOf_36 : decode cX11_bestOf 36 = .ok (.pop, 1) := by decide +kernel
theorem dX11_bestOf_37 : decode cX11_bestOf 37 = .ok (.aload_n 0, 1) := by decide +kernel
theorem dX11_bestOf_38 : decode cX11_bestOf 38 = .ok (.getfield 88, 3) := by decide +kernel
theorem dX11_bestOf_41 : decode cX11_bestOf 41 = .ok (.iload_n 1, 1) := by decide +kernel
theorem dX11_bestOf_42 : decode cX11_bestOf 42 = .ok (.iaload, 1) := by decide +kernel
theorem dX11_bestOf_43 : decode cX11_bestOf 43 = .ok (.ireturn, 1) := by decide +kernel
theorem dX11_price_0 : decode cX11_price 0 = .ok (.aload_n 0, 1) := by decide +kernel
theorem dX11_price_1 : decode cX11_price 1 = .ok (.iload_n 1, 1) := by decide +kernel
theorem dX11_price_2 : decode cX11_price 2 = .ok (.invokevirtual 150, 3) := by decide +kernel
theorem dX11_price_5 : decode cX11_price 5 = .ok (.ifCond .ne 5, 3) := by decide +kernel
theorem dX11_price_8 : decode cX11_price 8 = .ok (.iconst (-1), 1) := by decide +kernel
theorem dX11_price_9 : decode cX11_price 9 = .ok (.ireturn, 1) := by decide +kernel
theorem dX11_price_10 : decode cX11_price 10 = .ok (.aload_n 0, 1) := by decide +kernel
theorem dX11_price_11 : decode cX11_price 11 = .ok (.invokevirtual 314, 3) := by decide +kernel
theorem dX11_price_14 : decode cX11_price 14 = .ok (.istore_n 2, 1) := by decide +kernel
theorem dX11_price_15 : decode cX11_price 15 = .ok (.aload_n 0, 1) := by decide +kernel
theorem dX11_price_16 : decode cX11_price 16 = .ok (.getfield 79, 3) := by decide +kernel
theorem dX11_price_19 : decode cX11_price 19 = .ok (.iload_n 1, 1) := by decide +kernel
theorem dX11_price_20 : decode cX11_price 20 = .ok (.dup2, 1) := by decide +kernel
theorem dX11_price_21 : decode cX11_price 21 = .ok (.iaload, 1) := by decide +kernel
theorem dX11_price_22 : decode cX11_price 22 = .ok (.iconst 1, 1) := by decide +kernel
theorem dX11_price_23 : decode cX11_price 23 = .ok (.iadd, 1) := by decide +kernel
theorem dX11_price_24 : decode cX11_price 24 = .ok (.iastore, 1) := by decide +kernel
theorem dX11_price_25 : decode cX11_price 25 = .ok (.aload_n 0, 1) := by decide +kernel
theorem dX11_price_26 : decode cX11_price 26 = .ok (.invokevirtual 295, 3) := by decide +kernel
theorem dX11_price_29 : decode cX11_price 29 = .ok (.aload_n 0, 1) := by decide +kernel
theorem dX11_price_30 : decode cX11_price 30 = .ok (.invokevirtual 308, 3) := by decide +kernel
theorem dX11_price_33 : decode cX11_price 33 = .ok (.iload_n 2, 1) := by decide +kernel
theorem dX11_price_34 : decode cX11_price 34 = .ok (.isub, 1) := by decide +kernel
theorem dX11_price_35 : decode cX11_price 35 = .ok (.ireturn, 1) := by decide +kernel
theorem dX11_cover_0 : decode cX11_cover 0 = .ok (.lconst 1, 1) := by decide +kernel
theorem dX11_cover_1 : decode cX11_cover 1 = .ok (.lstore_n 3, 1) := by decide +kernel
theorem dX11_cover_2 : decode cX11_cover 2 = .ok (.iconst 0, 1) := by decide +kernel
theorem dX11_cover_3 : decode cX11_cover 3 = .ok (.istore 5, 2) := by decide +kernel
theorem dX11_cover_5 : decode cX11_cover 5 = .ok (.iload 5, 2) := by decide +kernel
theorem dX11_cover_7 : decode cX11_cover 7 = .ok (.aload_n 0, 1) := by decide +kernel
theorem dX11_cover_8 : decode cX11_cover 8 = .ok (.getfield 122, 3) := by decide +kernel
theorem dX11_cover_11 : decode cX11_cover 11 = .ok (.if_icmp .ge 15, 3) := by decide +kernel
theorem dX11_cover_14 : decode cX11_cover 14 = .ok (.lload_n 3, 1) := by decide +kernel
theorem dX11_cover_15 : decode cX11_cover 15 = .ok (.ldc2_w 316, 3) := by decide +kernel
theorem dX11_cover_18 : decode cX11_cover 18 = .ok (.lmul, 1) := by decide +kernel
theorem dX11_cover_19 : decode cX11_cover 19 = .ok (.lstore_n 3, 1) := by decide +kernel
theorem dX11_cover_20 : decode cX11_cover 20 = .ok (.iinc 5 1, 3) := by decide +kernel
theorem dX11_cover_23 : decode cX11_cover 23 = .ok (.goto (-18), 3) := by decide +kernel
theorem dX11_cover_26 : decode cX11_cover 26 = .ok (.lload_n 1, 1) := by decide +kernel
theorem dX11_cover_27 : decode cX11_cover 27 = .ok (.lconst 0, 1) := by decide +kernel
theorem dX11_cover_28 : decode cX11_cover 28 = .ok (.lload_n 3, 1) := by decide +kernel
theorem dX11_cover_29 : decode cX11_cover 29 = .ok (.lconst 1, 1) := by decide +kernel
theorem dX11_cover_30 : decode cX11_cover 30 = .ok (.lsub, 1) := by decide +kernel
theorem dX11_cover_31 : decode cX11_cover 31 = .ok (.invokestatic 126, 3) := by decide +kernel
theorem dX11_cover_34 : decode cX11_cover 34 = .ok (.ifCond .ne 5, 3) := by decide +kernel
theorem dX11_cover_37 : decode cX11_cover 37 = .ok (.iconst (-1), 1) := by decide +kernel
theorem dX11_cover_38 : decode cX11_cover 38 = .ok (.ireturn, 1) := by decide +kernel
theorem dX11_cover_39 : decode cX11_cover 39 = .ok (.iconst 0, 1) := by decide +kernel
theorem dX11_cover_40 : decode cX11_cover 40 = .ok (.istore 5, 2) := by decide +kernel
theorem dX11_cover_42 : decode cX11_cover 42 = .ok (.lload_n 1, 1) := by decide +kernel
theorem dX11_cover_43 : decode cX11_cover 43 = .ok (.lstore 6, 2) := by decide +kernel
theorem dX11_cover_45 : decode cX11_cover 45 = .ok (.iconst 0, 1) := by decide +kernel
theorem dX11_cover_46 : decode cX11_cover 46 = .ok (.istore 8, 2) := by decide +kernel
theorem dX11_cover_48 : decode cX11_cover 48 = .ok (.iload 8, 2) := by decide +kernel
theorem dX11_cover_50 : decode cX11_cover 50 = .ok (.aload_n 0, 1) := by decide +kernel
theorem dX11_cover_51 : decode cX11_cover 51 = .ok (.getfield 122, 3) := by decide +kernel
theorem dX11_cover_54 : decode cX11_cover 54 = .ok (.if_icmp .ge 51, 3) := by decide +kernel
theorem dX11_cover_57 : decode cX11_cover 57 = .ok (.aload_n 0, 1) := by decide +kernel
theorem dX11_cover_58 : decode cX11_cover 58 = .ok (.getfield 79, 3) := by decide +kernel
theorem dX11_cover_61 : decode cX11_cover 61 = .ok (.iload 8, 2) := by decide +kernel
theorem dX11_cover_63 : decode cX11_cover 63 = .ok (.lload 6, 2) := by decide +kernel
theorem dX11_cover_65 : decode cX11_cover 65 = .ok (.ldc2_w 316, 3) := by decide +kernel
theorem dX11_cover_68 : decode cX11_cover 68 = .ok (.lrem, 1) := by decide +kernel
theorem dX11_cover_69 : decode cX11_cover 69 = .ok (.l2i, 1) := by decide +kernel
theorem dX11_cover_70 : decode cX11_cover 70 = .ok (.iastore, 1) := by decide +kernel
theorem dX11_cover_71 : decode cX11_cover 71 = .ok (.lload 6, 2) := by decide +kernel
theorem dX11_cover_73 : decode cX11_cover 73 = .ok (.ldc2_w 316, 3) := by decide +kernel
theorem dX11_cover_76 : decode cX11_cover 76 = .ok (.ldiv, 1) := by decide +kernel
theorem dX11_cover_77 : decode cX11_cover 77 = .ok (.lstore 6, 2) := by decide +kernel
theorem dX11_cover_79 : decode cX11_cover 79 = .ok (.iload 5, 2) := by decide +kernel
theorem dX11_cover_81 : decode cX11_cover 81 = .ok (.aload_n 0, 1) := by decide +kernel
theorem dX11_cover_82 : decode cX11_cover 82 = .ok (.getfield 7, 3) := by decide +kernel
theorem dX11_cover_85 : decode cX11_cover 85 = .ok (.iload 8, 2) := by decide +kernel
theorem dX11_cover_87 : decode cX11_cover 87 = .ok (.iaload, 1) := by decide +kernel
theorem dX11_cover_88 : decode cX11_cover 88 = .ok (.aload_n 0, 1) := by decide +kernel
theorem dX11_cover_89 : decode cX11_cover 89 = .ok (.getfield 79, 3) := by decide +kernel
theorem dX11_cover_92 : decode cX11_cover 92 = .ok (.iload 8, 2) := by decide +kernel
theorem dX11_cover_94 : decode cX11_cover 94 = .ok (.iaload, 1) := by decide +kernel
theorem dX11_cover_95 : decode cX11_cover 95 = .ok (.imul, 1) := by decide +kernel
theorem dX11_cover_96 : decode cX11_cover 96 = .ok (.iadd, 1) := by decide +kernel
theorem dX11_cover_97 : decode cX11_cover 97 = .ok (.istore 5, 2) := by decide +kernel
theorem dX11_cover_99 : decode cX11_cover 99 = .ok (.iinc 8 1, 3) := by decide +kernel
theorem dX11_cover_102 : decode cX11_cover 102 = .ok (.goto (-54), 3) := by decide +kernel
theorem dX11_cover_105 : decode cX11_cover 105 = .ok (.iconst 0, 1) := by decide +kernel
theorem dX11_cover_106 : decode cX11_cover 106 = .ok (.istore 8, 2) := by decide +kernel
theorem dX11_cover_108 : decode cX11_cover 108 = .ok (.iload 8, 2) := by decide +kernel
theorem dX11_cover_110 : decode cX11_cover 110 = .ok (.aload_n 0, 1) := by decide +kernel
theorem dX11_cover_111 : decode cX11_cover 111 = .ok (.getfield 130, 3) := by decide +kernel
theorem dX11_cover_114 : decode cX11_cover 114 = .ok (.if_icmp .ge 76, 3) := by decide +kernel
theorem dX11_cover_117 : decode cX11_cover 117 = .ok (.iconst 0, 1) := by decide +kernel
theorem dX11_cover_118 : decode cX11_cover 118 = .ok (.istore 9, 2) := by decide +kernel
theorem dX11_cover_120 : decode cX11_cover 120 = .ok (.iconst 0, 1) := by decide +kernel
theorem dX11_cover_121 : decode cX11_cover 121 = .ok (.istore 10, 2) := by decide +kernel
theorem dX11_cover_123 : decode cX11_cover 123 = .ok (.iload 10, 2) := by decide +kernel
theorem dX11_cover_125 : decode cX11_cover 125 = .ok (.aload_n 0, 1) := by decide +kernel
theorem dX11_cover_126 : decode cX11_cover 126 = .ok (.getfield 122, 3) := by decide +kernel
theorem dX11_cover_129 : decode cX11_cover 129 = .ok (.if_icmp .ge 48, 3) := by decide +kernel
theorem dX11_cover_132 : decode cX11_cover 132 = .ok (.aload_n 0, 1) := by decide +kernel
theorem dX11_cover_133 : decode cX11_cover 133 = .ok (.getfield 22, 3) := by decide +kernel
theorem dX11_cover_136 : decode cX11_cover 136 = .ok (.bipush 6, 2) := by decide +kernel
theorem dX11_cover_138 : decode cX11_cover 138 = .ok (.iload 8, 2) := by decide +kernel
theorem dX11_cover_140 : decode cX11_cover 140 = .ok (.imul, 1) := by decide +kernel
theorem dX11_cover_141 : decode cX11_cover 141 = .ok (.iload 10, 2) := by decide +kernel
theorem dX11_cover_143 : decode cX11_cover 143 = .ok (.iadd, 1) := by decide +kernel
theorem dX11_cover_144 : decode cX11_cover 144 = .ok (.iaload, 1) := by decide +kernel
theorem dX11_cover_145 : decode cX11_cover 145 = .ok (.aload_n 0, 1) := by decide +kernel
theorem dX11_cover_146 : decode cX11_cover 146 = .ok (.getfield 79, 3) := by decide +kernel
theorem dX11_cover_149 : decode cX11_cover 149 = .ok (.iload 10, 2) := by decide +kernel
theorem dX11_cover_151 : decode cX11_cover 151 = .ok (.iaload, 1) := by decide +kernel
theorem dX11_cover_152 : decode cX11_cover 152 = .ok (.isub, 1) := by decide +kernel
theorem dX11_cover_153 : decode cX11_cover 153 = .ok (.istore 11, 2) := by decide +kernel
theorem dX11_cover_155 : decode cX11_cover 155 = .ok (.iload 11, 2) := by decide +kernel
theorem dX11_cover_157 : decode cX11_cover 157 = .ok (.iload 9, 2) := by decide +kernel
theorem dX11_cover_159 : decode cX11_cover 159 = .ok (.if_icmp .le 8, 3) := by decide +kernel
theorem dX11_cover_162 : decode cX11_cover 162 = .ok (.iload 11, 2) := by decide +kernel
theorem dX11_cover_164 : decode cX11_cover 164 = .ok (.goto 5, 3) := by decide +kernel
theorem dX11_cover_167 : decode cX11_cover 167 = .ok (.iload 9, 2) := by decide +kernel
theorem dX11_cover_169 : decode cX11_cover 169 = .ok (.istore 9, 2) := by decide +kernel
theorem dX11_cover_171 : decode cX11_cover 171 = .ok (.iinc 10 1, 3) := by decide +kernel
theorem dX11_cover_174 : decode cX11_cover 174 = .ok (.goto (-51), 3) := by decide +kernel
theorem dX11_cover_177 : decode cX11_cover 177 = .ok (.iload 5, 2) := by decide +kernel
theorem dX11_cover_179 : decode cX11_cover 179 = .ok (.iload 9, 2) := by decide +kernel
theorem dX11_cover_181 : decode cX11_cover 181 = .ok (.iadd, 1) := by decide +kernel
theorem dX11_cover_182 : decode cX11_cover 182 = .ok (.istore 5, 2) := by decide +kernel
theorem dX11_cover_184 : decode cX11_cover 184 = .ok (.iinc 8 1, 3) := by decide +kernel
theorem dX11_cover_187 : decode cX11_cover 187 = .ok (.goto (-79), 3) := by decide +kernel
theorem dX11_cover_190 : decode cX11_cover 190 = .ok (.iload 5, 2) := by decide +kernel
theorem dX11_cover_192 : decode cX11_cover 192 = .ok (.ireturn, 1) := by decide +kernel
theorem dX11_share_0 : decode cX11_share 0 = .ok (.aload_n 0, 1) := by decide +kernel
theorem dX11_share_1 : decode cX11_share 1 = .ok (.iload_n 1, 1) := by decide +kernel
theorem dX11_share_2 : decode cX11_share 2 = .ok (.invokevirtual 229, 3) := by decide +kernel
theorem dX11_share_5 : decode cX11_share 5 = .ok (.ifCond .eq 27, 3) := by decide +kernel
theorem dX11_share_8 : decode cX11_share 8 = .ok (.iload_n 2, 1) := by decide +kernel
theorem dX11_share_9 : decode cX11_share 9 = .ok (.i2l, 1) := by decide +kernel
theorem dX11_share_10 : decode cX11_share 10 = .ok (.lconst 0, 1) := by decide +kernel
theorem dX11_share_11 : decode cX11_share 11 = .ok (.ldc2_w 135, 3) := by decide +kernel
theorem dX11_share_14 : decode cX11_share 14 = .ok (.invokestatic 126, 3) := by decide +kernel
theorem dX11_share_17 : decode cX11_share 17 = .ok (.ifCond .eq 15, 3) := by decide +kernel
theorem dX11_share_20 : decode cX11_share 20 = .ok (.iload_n 3, 1) := by decide +kernel
theorem dX11_share_21 : decode cX11_share 21 = .ok (.i2l, 1) := by decide +kernel
theorem dX11_share_22 : decode cX11_share 22 = .ok (.lconst 1, 1) := by decide +kernel
theorem dX11_share_23 : decode cX11_share 23 = .ok (.ldc2_w 135, 3) := by decide +kernel
theorem dX11_share_26 : decode cX11_share 26 = .ok (.invokestatic 126, 3) := by decide +kernel
theorem dX11_share_29 : decode cX11_share 29 = .ok (.ifCond .ne 5, 3) := by decide +kernel
theorem dX11_share_32 : decode cX11_share 32 = .ok (.iconst (-1), 1) := by decide +kernel
theorem dX11_share_33 : decode cX11_share 33 = .ok (.ireturn, 1) := by decide +kernel
theorem dX11_share_34 : decode cX11_share 34 = .ok (.aload_n 0, 1) := by decide +kernel
theorem dX11_share_35 : decode cX11_share 35 = .ok (.invokevirtual 273, 3) := by decide +kernel
theorem dX11_share_38 : decode cX11_share 38 = .ok (.aload_n 0, 1) := by decide +kernel
theorem dX11_share_39 : decode cX11_share 39 = .ok (.iload_n 1, 1) := by decide +kernel
theorem dX11_share_40 : decode cX11_share 40 = .ok (.invokevirtual 276, 3) := by decide +kernel
theorem dX11_share_43 : decode cX11_share 43 = .ok (.aload_n 0, 1) := by decide +kernel
theorem dX11_share_44 : decode cX11_share 44 = .ok (.invokevirtual 282, 3) := by decide +kernel
theorem dX11_share_47 : decode cX11_share 47 = .ok (.iload_n 3, 1) := by decide +kernel
theorem dX11_share_48 : decode cX11_share 48 = .ok (.imul, 1) := by decide +kernel
theorem dX11_share_49 : decode cX11_share 49 = .ok (.iload_n 2, 1) := by decide +kernel
theorem dX11_share_50 : decode cX11_share 50 = .ok (.aload_n 0, 1) := by decide +kernel
theorem dX11_share_51 : decode cX11_share 51 = .ok (.invokevirtual 314, 3) := by decide +kernel
theorem dX11_share_54 : decode cX11_share 54 = .ok (.imul, 1) := by decide +kernel
theorem dX11_share_55 : decode cX11_share 55 = .ok (.if_icmp .lt 7, 3) := by decide +kernel
theorem dX11_share_58 : decode cX11_share 58 = .ok (.iconst 1, 1) := by decide +kernel
theorem dX11_share_59 : decode cX11_share 59 = .ok (.goto 4, 3) := by decide +kernel
theorem dX11_share_62 : decode cX11_share 62 = .ok (.iconst 0, 1) := by decide +kernel
theorem dX11_share_63 : decode cX11_share 63 = .ok (.ireturn, 1) := by decide +kernel
theorem dX11_lowest_0 : decode cX11_lowest 0 = .ok (.lload_n 0, 1) := by decide +kernel
theorem dX11_lowest_1 : decode cX11_lowest 1 = .ok (.lstore 5, 2) := by decide +kernel
theorem dX11_lowest_3 : decode cX11_lowest 3 = .ok (.lload_n 2, 1) := by decide +kernel
theorem dX11_lowest_4 : decode cX11_lowest 4 = .ok (.lstore 7, 2) := by decide +kernel
theorem dX11_lowest_6 : decode cX11_lowest 6 = .ok (.lload 7, 2) := by decide +kernel
theorem dX11_lowest_8 : decode cX11_lowest 8 = .ok (.lconst 0, 1) := by decide +kernel
theorem dX11_lowest_9 : decode cX11_lowest 9 = .ok (.lcmp, 1) := by decide +kernel
theorem dX11_lowest_10 : decode cX11_lowest 10 = .ok (.ifCond .eq 21, 3) := by decide +kernel
theorem dX11_lowest_13 : decode cX11_lowest 13 = .ok (.lload 5, 2) := by decide +kernel
theorem dX11_lowest_15 : decode cX11_lowest 15 = .ok (.lload 7, 2) := by decide +kernel
theorem dX11_lowest_17 : decode cX11_lowest 17 = .ok (.lrem, 1) := by decide +kernel
theorem dX11_lowest_18 : decode cX11_lowest 18 = .ok (.lstore 9, 2) := by decide +kernel
theorem dX11_lowest_20 : decode cX11_lowest 20 = .ok (.lload 7, 2) := by decide +kernel
theorem dX11_lowest_22 : decode cX11_lowest 22 = .ok (.lstore 5, 2) := by decide +kernel
theorem dX11_lowest_24 : decode cX11_lowest 24 = .ok (.lload 9, 2) := by decide +kernel
theorem dX11_lowest_26 : decode cX11_lowest 26 = .ok (.lstore 7, 2) := by decide +kernel
theorem dX11_lowest_28 : decode cX11_lowest 28 = .ok (.goto (-22), 3) := by decide +kernel
theorem dX11_lowest_31 : decode cX11_lowest 31 = .ok (.iload 4, 2) := by decide +kernel
theorem dX11_lowest_33 : decode cX11_lowest 33 = .ok (.ifCond .ne 7, 3) := by decide +kernel
theorem dX11_lowest_36 : decode cX11_lowest 36 = .ok (.lload_n 0, 1) := by decide +kernel
theorem dX11_lowest_37 : decode cX11_lowest 37 = .ok (.goto 4, 3) := by decide +kernel
theorem dX11_lowest_40 : decode cX11_lowest 40 = .ok (.lload_n 2, 1) := by decide +kernel
theorem dX11_lowest_41 : decode cX11_lowest 41 = .ok (.lload 5, 2) := by decide +kernel
theorem dX11_lowest_43 : decode cX11_lowest 43 = .ok (.ldiv, 1) := by decide +kernel
theorem dX11_lowest_44 : decode cX11_lowest 44 = .ok (.lreturn, 1) := by decide +kernel
theorem dX11_firstOrder_0 : decode cX11_firstOrder 0 = .ok (.iconst 0, 1) := by decide +kernel
theorem dX11_firstOrder_1 : decode cX11_firstOrder 1 = .ok (.istore_n 1, 1) := by decide +kernel
theorem dX11_firstOrder_2 : decode cX11_firstOrder 2 = .ok (.iload_n 1, 1) := by decide +kernel
theorem dX11_firstOrder_3 : decode cX11_firstOrder 3 = .ok (.bipush 9, 2) := by decide +kernel
theorem dX11_firstOrder_5 : decode cX11_firstOrder 5 = .ok (.if_icmp .ge 16, 3) := by decide +kernel
theorem dX11_firstOrder_8 : decode cX11_firstOrder 8 = .ok (.aload_n 0, 1) := by decide +kernel
theorem dX11_firstOrder_9 : decode cX11_firstOrder 9 = .ok (.getfield 76, 3) := by decide +kernel
theorem dX11_firstOrder_12 : decode cX11_firstOrder 12 = .ok (.iload_n 1, 1) := by decide +kernel
theorem dX11_firstOrder_13 : decode cX11_firstOrder 13 = .ok (.iload_n 1, 1) := by decide +kernel
theorem dX11_firstOrder_14 : decode cX11_firstOrder 14 = .ok (.iastore, 1) := by decide +kernel
theorem dX11_firstOrder_15 : decode cX11_firstOrder 15 = .ok (.iinc 1 1, 3) := by decide +kernel
theorem dX11_firstOrder_18 : decode cX11_firstOrder 18 = .ok (.goto (-16), 3) := by decide +kernel
theorem dX11_firstOrder_21 : decode cX11_firstOrder 21 = .ok (.return_, 1) := by decide +kernel
theorem dX11_nextOrder_0 : decode cX11_nextOrder 0 = .ok (.iload_n 1, 1) := by decide +kernel
theorem dX11_nextOrder_1 : decode cX11_nextOrder 1 = .ok (.iconst 2, 1) := by decide +kernel
theorem dX11_nextOrder_2 : decode cX11_nextOrder 2 = .ok (.isub, 1) := by decide +kernel
theorem dX11_nextOrder_3 : decode cX11_nextOrder 3 = .ok (.istore_n 2, 1) := by decide +kernel
theorem dX11_nextOrder_4 : decode cX11_nextOrder 4 = .ok (.iload_n 2, 1) := by decide +kernel
theorem dX11_nextOrder_5 : decode cX11_nextOrder 5 = .ok (.ifCond .lt 26, 3) := by decide +kernel
theorem dX11_nextOrder_8 : decode cX11_nextOrder 8 = .ok (.aload_n 0, 1) := by decide +kernel
theorem dX11_nextOrder_9 : decode cX11_nextOrder 9 = .ok (.getfield 76, 3) := by decide +kernel
theorem dX11_nextOrder_12 : decode cX11_nextOrder 12 = .ok (.iload_n 2, 1) := by decide +kernel
theorem dX11_nextOrder_13 : decode cX11_nextOrder 13 = .ok (.iaload, 1) := by decide +kernel
theorem dX11_nextOrder_14 : decode cX11_nextOrder 14 = .ok (.aload_n 0, 1) := by decide +kernel
theorem dX11_nextOrder_15 : decode cX11_nextOrder 15 = .ok (.getfield 76, 3) := by decide +kernel
theorem dX11_nextOrder_18 : decode cX11_nextOrder 18 = .ok (.iload_n 2, 1) := by decide +kernel
theorem dX11_nextOrder_19 : decode cX11_nextOrder 19 = .ok (.iconst 1, 1) := by decide +kernel
theorem dX11_nextOrder_20 : decode cX11_nextOrder 20 = .ok (.iadd, 1) := by decide +kernel
theorem dX11_nextOrder_21 : decode cX11_nextOrder 21 = .ok (.iaload, 1) := by decide +kernel
theorem dX11_nextOrder_22 : decode cX11_nextOrder 22 = .ok (.if_icmp .le 9, 3) := by decide +kernel
theorem dX11_nextOrder_25 : decode cX11_nextOrder 25 = .ok (.iinc 2 (-1), 3) := by decide +kernel
theorem dX11_nextOrder_28 : decode cX11_nextOrder 28 = .ok (.goto (-24), 3) := by decide +kernel
theorem dX11_nextOrder_31 : decode cX11_nextOrder 31 = .ok (.iload_n 2, 1) := by decide +kernel
theorem dX11_nextOrder_32 : decode cX11_nextOrder 32 = .ok (.ifCond .ge 5, 3) := by decide +kernel
theorem dX11_nextOrder_35 : decode cX11_nextOrder 35 = .ok (.iconst 0, 1) := by decide +kernel
theorem dX11_nextOrder_36 : decode cX11_nextOrder 36 = .ok (.ireturn, 1) := by decide +kernel
theorem dX11_nextOrder_37 : decode cX11_nextOrder 37 = .ok (.iload_n 1, 1) := by decide +kernel
theorem dX11_nextOrder_38 : decode cX11_nextOrder 38 = .ok (.iconst 1, 1) := by decide +kernel
theorem dX11_nextOrder_39 : decode cX11_nextOrder 39 = .ok (.isub, 1) := by decide +kernel
theorem dX11_nextOrder_40 : decode cX11_nextOrder 40 = .ok (.istore_n 3, 1) := by decide +kernel
theorem dX11_nextOrder_41 : decode cX11_nextOrder 41 = .ok (.aload_n 0, 1) := by decide +kernel
theorem dX11_nextOrder_42 : decode cX11_nextOrder 42 = .ok (.getfield 76, 3) := by decide +kernel
theorem dX11_nextOrder_45 : decode cX11_nextOrder 45 = .ok (.iload_n 3, 1) := by decide +kernel
theorem dX11_nextOrder_46 : decode cX11_nextOrder 46 = .ok (.iaload, 1) := by decide +kernel
theorem dX11_nextOrder_47 : decode cX11_nextOrder 47 = .ok (.aload_n 0, 1) := by decide +kernel
theorem dX11_nextOrder_48 : decode cX11_nextOrder 48 = .ok (.getfield 76, 3) := by decide +kernel
theorem dX11_nextOrder_51 : decode cX11_nextOrder 51 = .ok (.iload_n 2, 1) := by decide +kernel
theorem dX11_nextOrder_52 : decode cX11_nextOrder 52 = .ok (.iaload, 1) := by decide +kernel
theorem dX11_nextOrder_53 : decode cX11_nextOrder 53 = .ok (.if_icmp .ge 9, 3) := by decide +kernel
theorem dX11_nextOrder_56 : decode cX11_nextOrder 56 = .ok (.iinc 3 (-1), 3) := by decide +kernel
theorem dX11_nextOrder_59 : decode cX11_nextOrder 59 = .ok (.goto (-18), 3) := by decide +kernel
theorem dX11_nextOrder_62 : decode cX11_nextOrder 62 = .ok (.aload_n 0, 1) := by decide +kernel
theorem dX11_nextOrder_63 : decode cX11_nextOrder 63 = .ok (.iload_n 2, 1) := by decide +kernel
theorem dX11_nextOrder_64 : decode cX11_nextOrder 64 = .ok (.iload_n 3, 1) := by decide +kernel
theorem dX11_nextOrder_65 : decode cX11_nextOrder 65 = .ok (.invokevirtual 318, 3) := by decide +kernel
theorem dX11_nextOrder_68 : decode cX11_nextOrder 68 = .ok (.iload_n 2, 1) := by decide +kernel
theorem dX11_nextOrder_69 : decode cX11_nextOrder 69 = .ok (.iconst 1, 1) := by decide +kernel
theorem dX11_nextOrder_70 : decode cX11_nextOrder 70 = .ok (.iadd, 1) := by decide +kernel
theorem dX11_nextOrder_71 : decode cX11_nextOrder 71 = .ok (.istore 4, 2) := by decide +kernel
theorem dX11_nextOrder_73 : decode cX11_nextOrder 73 = .ok (.iload_n 1, 1) := by decide +kernel
theorem dX11_nextOrder_74 : decode cX11_nextOrder 74 = .ok (.iconst 1, 1) := by decide +kernel
theorem dX11_nextOrder_75 : decode cX11_nextOrder 75 = .ok (.isub, 1) := by decide +kernel
theorem dX11_nextOrder_76 : decode cX11_nextOrder 76 = .ok (.istore 5, 2) := by decide +kernel
theorem dX11_nextOrder_78 : decode cX11_nextOrder 78 = .ok (.iload 4, 2) := by decide +kernel
theorem dX11_nextOrder_80 : decode cX11_nextOrder 80 = .ok (.iload 5, 2) := by decide +kernel
theorem dX11_nextOrder_82 : decode cX11_nextOrder 82 = .ok (.if_icmp .ge 20, 3) := by decide +kernel
theorem dX11_nextOrder_85 : decode cX11_nextOrder 85 = .ok (.aload_n 0, 1) := by decide +kernel
theorem dX11_nextOrder_86 : decode cX11_nextOrder 86 = .ok (.iload 4, 2) := by decide +kernel
theorem dX11_nextOrder_88 : decode cX11_nextOrder 88 = .ok (.iload 5, 2) := by decide +kernel
theorem dX11_nextOrder_90 : decode cX11_nextOrder 90 = .ok (.invokevirtual 318, 3) := by decide +kernel
theorem dX11_nextOrder_93 : decode cX11_nextOrder 93 = .ok (.iinc 4 1, 3) := by decide +kernel
theorem dX11_nextOrder_96 : decode cX11_nextOrder 96 = .ok (.iinc 5 (-1), 3) := by decide +kernel
theorem dX11_nextOrder_99 : decode cX11_nextOrder 99 = .ok (.goto (-21), 3) := by decide +kernel
theorem dX11_nextOrder_102 : decode cX11_nextOrder 102 = .ok (.iconst 1, 1) := by decide +kernel
theorem dX11_nextOrder_103 : decode cX11_nextOrder 103 = .ok (.ireturn, 1) := by decide +kernel
theorem dX11_change_0 : decode cX11_change 0 = .ok (.aload_n 0, 1) := by decide +kernel
theorem dX11_change_1 : decode cX11_change 1 = .ok (.getfield 76, 3) := by decide +kernel
theorem dX11_change_4 : decode cX11_change 4 = .ok (.iload_n 1, 1) := by decide +kernel
theorem dX11_change_5 : decode cX11_change 5 = .ok (.iaload, 1) := by decide +kernel
theorem dX11_change_6 : decode cX11_change 6 = .ok (.istore_n 3, 1) := by decide +kernel
theorem dX11_change_7 : decode cX11_change 7 = .ok (.aload_n 0, 1) := by decide +kernel
theorem dX11_change_8 : decode cX11_change 8 = .ok (.getfield 76, 3) := by decide +kernel
theorem dX11_change_11 : decode cX11_change 11 = .ok (.iload_n 1, 1) := by decide +kernel
theorem dX11_change_12 : decode cX11_change 12 = .ok (.aload_n 0, 1) := by decide +kernel
theorem dX11_change_13 : decode cX11_change 13 = .ok (.getfield 76, 3) := by decide +kernel
theorem dX11_change_16 : decode cX11_change 16 = .ok (.iload_n 2, 1) := by decide +kernel
theorem dX11_change_17 : decode cX11_change 17 = .ok (.iaload, 1) := by decide +kernel
theorem dX11_change_18 : decode cX11_change 18 = .ok (.iastore, 1) := by decide +kernel
theorem dX11_change_19 : decode cX11_change 19 = .ok (.aload_n 0, 1) := by decide +kernel
theorem dX11_change_20 : decode cX11_change 20 = .ok (.getfield 76, 3) := by decide +kernel
theorem dX11_change_23 : decode cX11_change 23 = .ok (.iload_n 2, 1) := by decide +kernel
theorem dX11_change_24 : decode cX11_change 24 = .ok (.iload_n 3, 1) := by decide +kernel
theorem dX11_change_25 : decode cX11_change 25 = .ok (.iastore, 1) := by decide +kernel
theorem dX11_change_26 : decode cX11_change 26 = .ok (.return_, 1) := by decide +kernel
theorem dX11_layMean_0 : decode cX11_layMean 0 = .ok (.aload_n 0, 1) := by decide +kernel
theorem dX11_layMean_1 : decode cX11_layMean 1 = .ok (.invokevirtual 273, 3) := by decide +kernel
theorem dX11_layMean_4 : decode cX11_layMean 4 = .ok (.aload_n 0, 1) := by decide +kernel
theorem dX11_layMean_5 : decode cX11_layMean 5 = .ok (.invokevirtual 321, 3) := by decide +kernel
theorem dX11_layMean_8 : decode cX11_layMean 8 = .ok (.aload_n 0, 1) := by decide +kernel
theorem dX11_layMean_9 : decode cX11_layMean 9 = .ok (.lconst 0, 1) := by decide +kernel
theorem dX11_layMean_10 : decode cX11_layMean 10 = .ok (.putfield 324, 3) := by decide +kernel
theorem dX11_layMean_13 : decode cX11_layMean 13 = .ok (.aload_n 0, 1) := by decide +kernel
theorem dX11_layMean_14 : decode cX11_layMean 14 = .ok (.lconst 0, 1) := by decide +kernel
theorem dX11_layMean_15 : decode cX11_layMean 15 = .ok (.putfield 328, 3) := by decide +kernel
theorem dX11_layMean_18 : decode cX11_layMean 18 = .ok (.iconst 1, 1) := by decide +kernel
theorem dX11_layMean_19 : decode cX11_layMean 19 = .ok (.istore_n 2, 1) := by decide +kernel
theorem dX11_layMean_20 : decode cX11_layMean 20 = .ok (.iload_n 2, 1) := by decide +kernel
theorem dX11_layMean_21 : decode cX11_layMean 21 = .ok (.ifCond .eq 100, 3) := by decide +kernel
theorem dX11_layMean_24 : decode cX11_layMean 24 = .ok (.aload_n 0, 1) := by decide +kernel
theorem dX11_layMean_25 : decode cX11_layMean 25 = .ok (.iload_n 1, 1) := by decide +kernel
theorem dX11_layMean_26 : decode cX11_layMean 26 = .ok (.invokevirtual 285, 3) := by decide +kernel
theorem dX11_layMean_29 : decode cX11_layMean 29 = .ok (.istore_n 3, 1) := by decide +kernel
theorem dX11_layMean_30 : decode cX11_layMean 30 = .ok (.aload_n 0, 1) := by decide +kernel
theorem dX11_layMean_31 : decode cX11_layMean 31 = .ok (.aload_n 0, 1) := by decide +kernel
theorem dX11_layMean_32 : decode cX11_layMean 32 = .ok (.getfield 328, 3) := by decide +kernel
theorem dX11_layMean_35 : decode cX11_layMean 35 = .ok (.lconst 0, 1) := by decide +kernel
theorem dX11_layMean_36 : decode cX11_layMean 36 = .ok (.lcmp, 1) := by decide +kernel
theorem dX11_layMean_37 : decode cX11_layMean 37 = .ok (.ifCond .eq 11, 3) := by decide +kernel
theorem dX11_layMean_40 : decode cX11_layMean 40 = .ok (.iload_n 3, 1) := by decide +kernel
theorem dX11_layMean_41 : decode cX11_layMean 41 = .ok (.aload_n 0, 1) := by decide +kernel
theorem dX11_layMean_42 : decode cX11_layMean 42 = .ok (.getfield 331, 3) := by decide +kernel
theorem dX11_layMean_45 : decode cX11_layMean 45 = .ok (.if_icmp .ge 7, 3) := by decide +kernel
theorem dX11_layMean_48 : decode cX11_layMean 48 = .ok (.iload_n 3, 1) := by decide +kernel
theorem dX11_layMean_49 : decode cX11_layMean 49 = .ok (.goto 7, 3) := by decide +kernel
theorem dX11_layMean_52 : decode cX11_layMean 52 = .ok (.aload_n 0, 1) := by decide +kernel
theorem dX11_layMean_53 : decode cX11_layMean 53 = .ok (.getfield 331, 3) := by decide +kernel
theorem dX11_layMean_56 : decode cX11_layMean 56 = .ok (.putfield 331, 3) := by decide +kernel
theorem dX11_layMean_59 : decode cX11_layMean 59 = .ok (.aload_n 0, 1) := by decide +kernel
theorem dX11_layMean_60 : decode cX11_layMean 60 = .ok (.aload_n 0, 1) := by decide +kernel
theorem dX11_layMean_61 : decode cX11_layMean 61 = .ok (.getfield 328, 3) := by decide +kernel
theorem dX11_layMean_64 : decode cX11_layMean 64 = .ok (.lconst 0, 1) := by decide +kernel
theorem dX11_layMean_65 : decode cX11_layMean 65 = .ok (.lcmp, 1) := by decide +kernel
theorem dX11_layMean_66 : decode cX11_layMean 66 = .ok (.ifCond .eq 11, 3) := by decide +kernel
theorem dX11_layMean_69 : decode cX11_layMean 69 = .ok (.iload_n 3, 1) := by decide +kernel
theorem dX11_layMean_70 : decode cX11_layMean 70 = .ok (.aload_n 0, 1) := by decide +kernel
theorem dX11_layMean_71 : decode cX11_layMean 71 = .ok (.getfield 334, 3) := by decide +kernel
theorem dX11_layMean_74 : decode cX11_layMean 74 = .ok (.if_icmp .le 7, 3) := by decide +kernel
theorem dX11_layMean_77 : decode cX11_layMean 77 = .ok (.iload_n 3, 1) := by decide +kernel
theorem dX11_layMean_78 : decode cX11_layMean 78 = .ok (.goto 7, 3) := by decide +kernel
theorem dX11_layMean_81 : decode cX11_layMean 81 = .ok (.aload_n 0, 1) := by decide +kernel
theorem dX11_layMean_82 : decode cX11_layMean 82 = .ok (.getfield 334, 3) := by decide +kernel
theorem dX11_layMean_85 : decode cX11_layMean 85 = .ok (.putfield 334, 3) := by decide +kernel
theorem dX11_layMean_88 : decode cX11_layMean 88 = .ok (.aload_n 0, 1) := by decide +kernel
theorem dX11_layMean_89 : decode cX11_layMean 89 = .ok (.dup, 1) := by decide +kernel
theorem dX11_layMean_90 : decode cX11_layMean 90 = .ok (.getfield 324, 3) := by decide +kernel
theorem dX11_layMean_93 : decode cX11_layMean 93 = .ok (.iload_n 3, 1) := by decide +kernel
theorem dX11_layMean_94 : decode cX11_layMean 94 = .ok (.i2l, 1) := by decide +kernel
theorem dX11_layMean_95 : decode cX11_layMean 95 = .ok (.ladd, 1) := by decide +kernel
theorem dX11_layMean_96 : decode cX11_layMean 96 = .ok (.putfield 324, 3) := by decide +kernel
theorem dX11_layMean_99 : decode cX11_layMean 99 = .ok (.aload_n 0, 1) := by decide +kernel
theorem dX11_layMean_100 : decode cX11_layMean 100 = .ok (.dup, 1) := by decide +kernel
theorem dX11_layMean_101 : decode cX11_layMean 101 = .ok (.getfield 328, 3) := by decide +kernel
theorem dX11_layMean_104 : decode cX11_layMean 104 = .ok (.lconst 1, 1) := by decide +kernel
theorem dX11_layMean_105 : decode cX11_layMean 105 = .ok (.ladd, 1) := by decide +kernel
theorem dX11_layMean_106 : decode cX11_layMean 106 = .ok (.putfield 328, 3) := by decide +kernel
theorem dX11_layMean_109 : decode cX11_layMean 109 = .ok (.aload_n 0, 1) := by decide +kernel
theorem dX11_layMean_110 : decode cX11_layMean 110 = .ok (.aload_n 0, 1) := by decide +kernel
theorem dX11_layMean_111 : decode cX11_layMean 111 = .ok (.getfield 130, 3) := by decide +kernel
theorem dX11_layMean_114 : decode cX11_layMean 114 = .ok (.invokevirtual 337, 3) := by decide +kernel
theorem dX11_layMean_117 : decode cX11_layMean 117 = .ok (.istore_n 2, 1) := by decide +kernel
theorem dX11_layMean_118 : decode cX11_layMean 118 = .ok (.goto (-98), 3) := by decide +kernel
theorem dX11_layMean_121 : decode cX11_layMean 121 = .ok (.return_, 1) := by decide +kernel
theorem dX11_mean_0 : decode cX11_mean 0 = .ok (.aload_n 0, 1) := by decide +kernel
theorem dX11_mean_1 : decode cX11_mean 1 = .ok (.iload_n 1, 1) := by decide +kernel
theorem dX11_mean_2 : decode cX11_mean 2 = .ok (.invokevirtual 229, 3) := by decide +kernel
theorem dX11_mean_5 : decode cX11_mean 5 = .ok (.ifCond .eq 13, 3) := by decide +kernel
theorem dX11_mean_8 : decode cX11_mean 8 = .ok (.iload_n 2, 1) := by decide +kernel
theorem dX11_mean_9 : decode cX11_mean 9 = .ok (.i2l, 1) := by decide +kernel
theorem dX11_mean_10 : decode cX11_mean 10 = .ok (.lconst 0, 1) := by decide +kernel
theorem dX11_mean_11 : decode cX11_mean 11 = .ok (.lconst 1, 1) := by decide +kernel
theorem dX11_mean_12 : decode cX11_mean 12 = .ok (.invokestatic 126, 3) := by decide +kernel
theorem dX11_mean_15 : decode cX11_mean 15 = .ok (.ifCond .ne 7, 3) := by decide +kernel
theorem dX11_mean_18 : decode cX11_mean 18 = .ok (.ldc2_w 340, 3) := by decide +kernel
theorem dX11_mean_21 : decode cX11_mean 21 = .ok (.lreturn, 1) := by decide +kernel
theorem dX11_mean_22 : decode cX11_mean 22 = .ok (.aload_n 0, 1) := by decide +kernel
theorem dX11_mean_23 : decode cX11_mean 23 = .ok (.getfield 130, 3) := by decide +kernel
theorem dX11_mean_26 : decode cX11_mean 26 = .ok (.bipush 6, 2) := by decide +kernel
theorem dX11_mean_28 : decode cX11_mean 28 = .ok (.if_icmp .le 7, 3) := by decide +kernel
theorem dX11_mean_31 : decode cX11_mean 31 = .ok (.ldc2_w 342, 3) := by decide +kernel
theorem dX11_mean_34 : decode cX11_mean 34 = .ok (.lreturn, 1) := by decide +kernel
theorem dX11_mean_35 : decode cX11_mean 35 = .ok (.aload_n 0, 1) := by decide +kernel
theorem dX11_mean_36 : decode cX11_mean 36 = .ok (.iload_n 1, 1) := by decide +kernel
theorem dX11_mean_37 : decode cX11_mean 37 = .ok (.invokevirtual 344, 3) := by decide +kernel
theorem dX11_mean_40 : decode cX11_mean 40 = .ok (.aload_n 0, 1) := by decide +kernel
theorem dX11_mean_41 : decode cX11_mean 41 = .ok (.getfield 324, 3) := by decide +kernel
theorem dX11_mean_44 : decode cX11_mean 44 = .ok (.aload_n 0, 1) := by decide +kernel
theorem dX11_mean_45 : decode cX11_mean 45 = .ok (.getfield 328, 3) := by decide +kernel
theorem dX11_mean_48 : decode cX11_mean 48 = .ok (.iload_n 2, 1) := by decide +kernel
theorem dX11_mean_49 : decode cX11_mean 49 = .ok (.invokestatic 347, 3) := by decide +kernel
theorem dX11_mean_52 : decode cX11_mean 52 = .ok (.lreturn, 1) := by decide +kernel
theorem dX11_ends_0 : decode cX11_ends 0 = .ok (.aload_n 0, 1) := by decide +kernel
theorem dX11_ends_1 : decode cX11_ends 1 = .ok (.iload_n 1, 1) := by decide +kernel
theorem dX11_ends_2 : decode cX11_ends 2 = .ok (.invokevirtual 229, 3) := by decide +kernel
theorem dX11_ends_5 : decode cX11_ends 5 = .ok (.ifCond .eq 13, 3) := by decide +kernel
theorem dX11_ends_8 : decode cX11_ends 8 = .ok (.iload_n 2, 1) := by decide +kernel
theorem dX11_ends_9 : decode cX11_ends 9 = .ok (.i2l, 1) := by decide +kernel
theorem dX11_ends_10 : decode cX11_ends 10 = .ok (.lconst 0, 1) := by decide +kernel
theorem dX11_ends_11 : decode cX11_ends 11 = .ok (.lconst 1, 1) := by decide +kernel
theorem dX11_ends_12 : decode cX11_ends 12 = .ok (.invokestatic 126, 3) := by decide +kernel
theorem dX11_ends_15 : decode cX11_ends 15 = .ok (.ifCond .ne 5, 3) := by decide +kernel
theorem dX11_ends_18 : decode cX11_ends 18 = .ok (.iconst (-1), 1) := by decide +kernel
theorem dX11_ends_19 : decode cX11_ends 19 = .ok (.ireturn, 1) := by decide +kernel
theorem dX11_ends_20 : decode cX11_ends 20 = .ok (.aload_n 0, 1) := by decide +kernel
theorem dX11_ends_21 : decode cX11_ends 21 = .ok (.getfield 130, 3) := by decide +kernel
theorem dX11_ends_24 : decode cX11_ends 24 = .ok (.bipush 6, 2) := by decide +kernel
theorem dX11_ends_26 : decode cX11_ends 26 = .ok (.if_icmp .le 6, 3) := by decide +kernel
theorem dX11_ends_29 : decode cX11_ends 29 = .ok (.bipush (-2), 2) := by decide +kernel
theorem dX11_ends_31 : decode cX11_ends 31 = .ok (.ireturn, 1) := by decide +kernel
theorem dX11_ends_32 : decode cX11_ends 32 = .ok (.aload_n 0, 1) := by decide +kernel
theorem dX11_ends_33 : decode cX11_ends 33 = .ok (.iload_n 1, 1) := by decide +kernel
theorem dX11_ends_34 : decode cX11_ends 34 = .ok (.invokevirtual 344, 3) := by decide +kernel
theorem dX11_ends_37 : decode cX11_ends 37 = .ok (.iload_n 2, 1) := by decide +kernel
theorem dX11_ends_38 : decode cX11_ends 38 = .ok (.ifCond .ne 10, 3) := by decide +kernel
theorem dX11_ends_41 : decode cX11_ends 41 = .ok (.aload_n 0, 1) := by decide +kernel
theorem dX11_ends_42 : decode cX11_ends 42 = .ok (.getfield 331, 3) := by decide +kernel
theorem dX11_ends_45 : decode cX11_ends 45 = .ok (.goto 7, 3) := by decide +kernel
theorem dX11_ends_48 : decode cX11_ends 48 = .ok (.aload_n 0, 1) := by decide +kernel
theorem dX11_ends_49 : decode cX11_ends 49 = .ok (.getfield 334, 3) := by decide +kernel
theorem dX11_ends_52 : decode cX11_ends 52 = .ok (.ireturn, 1) := by decide +kernel
theorem dX11_meanOfRanks_0 : decode cX11_meanOfRanks 0 = .ok (.aload_n 0, 1) := by decide +kernel
theorem dX11_meanOfRanks_1 : decode cX11_meanOfRanks 1 = .ok (.iload_n 1, 1) := by decide +kernel
theorem dX11_meanOfRanks_2 : decode cX11_meanOfRanks 2 = .ok (.invokevirtual 229, 3) := by decide +kernel
theorem dX11_meanOfRanks_5 : decode cX11_meanOfRanks 5 = .ok (.ifCond .eq 13, 3) := by decide +kernel
theorem dX11_meanOfRanks_8 : decode cX11_meanOfRanks 8 = .ok (.iload_n 2, 1) := by decide +kernel
theorem dX11_meanOfRanks_9 : decode cX11_meanOfRanks 9 = .ok (.i2l, 1) := by decide +kernel
theorem dX11_meanOfRanks_10 : decode cX11_meanOfRanks 10 = .ok (.lconst 0, 1) := by decide +kernel
theorem dX11_meanOfRanks_11 : decode cX11_meanOfRanks 11 = .ok (.lconst 1, 1) := by decide +kernel
theorem dX11_meanOfRanks_12 : decode cX11_meanOfRanks 12 = .ok (.invokestatic 126, 3) := by decide +kernel
theorem dX11_meanOfRanks_15 : decode cX11_meanOfRanks 15 = .ok (.ifCond .ne 7, 3) := by decide +kernel
theorem dX11_meanOfRanks_18 : decode cX11_meanOfRanks 18 = .ok (.ldc2_w 340, 3) := by decide +kernel
theorem dX11_meanOfRanks_21 : decode cX11_meanOfRanks 21 = .ok (.lreturn, 1) := by decide +kernel
theorem dX11_meanOfRanks_22 : decode cX11_meanOfRanks 22 = .ok (.aload_n 0, 1) := by decide +kernel
theorem dX11_meanOfRanks_23 : decode cX11_meanOfRanks 23 = .ok (.invokevirtual 273, 3) := by decide +kernel
theorem dX11_meanOfRanks_26 : decode cX11_meanOfRanks 26 = .ok (.aload_n 0, 1) := by decide +kernel
theorem dX11_meanOfRanks_27 : decode cX11_meanOfRanks 27 = .ok (.invokevirtual 321, 3) := by decide +kernel
theorem dX11_meanOfRanks_30 : decode cX11_meanOfRanks 30 = .ok (.lconst 0, 1) := by decide +kernel
theorem dX11_meanOfRanks_31 : decode cX11_meanOfRanks 31 = .ok (.lstore_n 3, 1) := by decide +kernel
theorem dX11_meanOfRanks_32 : decode cX11_meanOfRanks 32 = .ok (.lconst 0, 1) := by decide +kernel
theorem dX11_meanOfRanks_33 : decode cX11_meanOfRanks 33 = .ok (.lstore 5, 2) := by decide +kernel
theorem dX11_meanOfRanks_35 : decode cX11_meanOfRanks 35 = .ok (.iconst 1, 1) := by decide +kernel
theorem dX11_meanOfRanks_36 : decode cX11_meanOfRanks 36 = .ok (.istore 7, 2) := by decide +kernel
theorem dX11_meanOfRanks_38 : decode cX11_meanOfRanks 38 = .ok (.iload 7, 2) := by decide +kernel
theorem dX11_meanOfRanks_40 : decode cX11_meanOfRanks 40 = .ok (.ifCond .eq 72, 3) := by decide +kernel
theorem dX11_meanOfRanks_43 : decode cX11_meanOfRanks 43 = .ok (.iconst 0, 1) := by decide +kernel
theorem dX11_meanOfRanks_44 : decode cX11_meanOfRanks 44 = .ok (.istore 8, 2) := by decide +kernel
theorem dX11_meanOfRanks_46 : decode cX11_meanOfRanks 46 = .ok (.iload 8, 2) := by decide +kernel
theorem dX11_meanOfRanks_48 : decode cX11_meanOfRanks 48 = .ok (.aload_n 0, 1) := by decide +kernel
theorem dX11_meanOfRanks_49 : decode cX11_meanOfRanks 49 = .ok (.getfield 122, 3) := by decide +kernel
theorem dX11_meanOfRanks_52 : decode cX11_meanOfRanks 52 = .ok (.if_icmp .ge 28, 3) := by decide +kernel
theorem dX11_meanOfRanks_55 : decode cX11_meanOfRanks 55 = .ok (.aload_n 0, 1) := by decide +kernel
theorem dX11_meanOfRanks_56 : decode cX11_meanOfRanks 56 = .ok (.getfield 58, 3) := by decide +kernel
theorem dX11_meanOfRanks_59 : decode cX11_meanOfRanks 59 = .ok (.iload 8, 2) := by decide +kernel
theorem dX11_meanOfRanks_61 : decode cX11_meanOfRanks 61 = .ok (.aload_n 0, 1) := by decide +kernel
theorem dX11_meanOfRanks_62 : decode cX11_meanOfRanks 62 = .ok (.getfield 13, 3) := by decide +kernel
theorem dX11_meanOfRanks_65 : decode cX11_meanOfRanks 65 = .ok (.aload_n 0, 1) := by decide +kernel
theorem dX11_meanOfRanks_66 : decode cX11_meanOfRanks 66 = .ok (.getfield 76, 3) := by decide +kernel
theorem dX11_meanOfRanks_69 : decode cX11_meanOfRanks 69 = .ok (.iload 8, 2) := by decide +kernel
theorem dX11_meanOfRanks_71 : decode cX11_meanOfRanks 71 = .ok (.iaload, 1) := by decide +kernel
theorem dX11_meanOfRanks_72 : decode cX11_meanOfRanks 72 = .ok (.iaload, 1) := by decide +kernel
theorem dX11_meanOfRanks_73 : decode cX11_meanOfRanks 73 = .ok (.iastore, 1) := by decide +kernel
theorem dX11_meanOfRanks_74 : decode cX11_meanOfRanks 74 = .ok (.iinc 8 1, 3) := by decide +kernel
theorem dX11_meanOfRanks_77 : decode cX11_meanOfRanks 77 = .ok (.goto (-31), 3) := by decide +kernel
theorem dX11_meanOfRanks_80 : decode cX11_meanOfRanks 80 = .ok (.aload_n 0, 1) := by decide +kernel
theorem dX11_meanOfRanks_81 : decode cX11_meanOfRanks 81 = .ok (.iload_n 1, 1) := by decide +kernel
theorem dX11_meanOfRanks_82 : decode cX11_meanOfRanks 82 = .ok (.invokevirtual 276, 3) := by decide +kernel
theorem dX11_meanOfRanks_85 : decode cX11_meanOfRanks 85 = .ok (.lload_n 3, 1) := by decide +kernel
theorem dX11_meanOfRanks_86 : decode cX11_meanOfRanks 86 = .ok (.aload_n 0, 1) := by decide +kernel
theorem dX11_meanOfRanks_87 : decode cX11_meanOfRanks 87 = .ok (.invokevirtual 279, 3) := by decide +kernel
theorem dX11_meanOfRanks_90 : decode cX11_meanOfRanks 90 = .ok (.i2l, 1) := by decide +kernel
theorem dX11_meanOfRanks_91 : decode cX11_meanOfRanks 91 = .ok (.ladd, 1) := by decide +kernel
theorem dX11_meanOfRanks_92 : decode cX11_meanOfRanks 92 = .ok (.lstore_n 3, 1) := by decide +kernel
theorem dX11_meanOfRanks_93 : decode cX11_meanOfRanks 93 = .ok (.lload 5, 2) := by decide +kernel
theorem dX11_meanOfRanks_95 : decode cX11_meanOfRanks 95 = .ok (.lconst 1, 1) := by decide +kernel
theorem dX11_meanOfRanks_96 : decode cX11_meanOfRanks 96 = .ok (.ladd, 1) := by decide +kernel
theorem dX11_meanOfRanks_97 : decode cX11_meanOfRanks 97 = .ok (.lstore 5, 2) := by decide +kernel
theorem dX11_meanOfRanks_99 : decode cX11_meanOfRanks 99 = .ok (.aload_n 0, 1) := by decide +kernel
theorem dX11_meanOfRanks_100 : decode cX11_meanOfRanks 100 = .ok (.aload_n 0, 1) := by decide +kernel
theorem dX11_meanOfRanks_101 : decode cX11_meanOfRanks 101 = .ok (.getfield 122, 3) := by decide +kernel
theorem dX11_meanOfRanks_104 : decode cX11_meanOfRanks 104 = .ok (.invokevirtual 337, 3) := by decide +kernel
theorem dX11_meanOfRanks_107 : decode cX11_meanOfRanks 107 = .ok (.istore 7, 2) := by decide +kernel
theorem dX11_meanOfRanks_109 : decode cX11_meanOfRanks 109 = .ok (.goto (-71), 3) := by decide +kernel
theorem dX11_meanOfRanks_112 : decode cX11_meanOfRanks 112 = .ok (.lload_n 3, 1) := by decide +kernel
theorem dX11_meanOfRanks_113 : decode cX11_meanOfRanks 113 = .ok (.lload 5, 2) := by decide +kernel
theorem dX11_meanOfRanks_115 : decode cX11_meanOfRanks 115 = .ok (.iload_n 2, 1) := by decide +kernel
theorem dX11_meanOfRanks_116 : decode cX11_meanOfRanks 116 = .ok (.invokestatic 347, 3) := by decide +kernel
theorem dX11_meanOfRanks_119 : decode cX11_meanOfRanks 119 = .ok (.lreturn, 1) := by decide +kernel
theorem dX11_chanceSum_0 : decode cX11_chanceSum 0 = .ok (.iconst 0, 1) := by decide +kernel
theorem dX11_chanceSum_1 : decode cX11_chanceSum 1 = .ok (.istore_n 1, 1) := by decide +kernel
theorem dX11_chanceSum_2 : decode cX11_chanceSum 2 = .ok (.iconst 0, 1) := by decide +kernel
theorem dX11_chanceSum_3 : decode cX11_chanceSum 3 = .ok (.istore_n 2, 1) := by decide +kernel
theorem dX11_chanceSum_4 : decode cX11_chanceSum 4 = .ok (.iload_n 2, 1) := by decide +kernel
theorem dX11_chanceSum_5 : decode cX11_chanceSum 5 = .ok (.aload_n 0, 1) := by decide +kernel
theorem dX11_chanceSum_6 : decode cX11_chanceSum 6 = .ok (.getfield 130, 3) := by decide +kernel
theorem dX11_chanceSum_9 : decode cX11_chanceSum 9 = .ok (.if_icmp .ge 18, 3) := by decide +kernel
theorem dX11_chanceSum_12 : decode cX11_chanceSum 12 = .ok (.iload_n 1, 1) := by decide +kernel
theorem dX11_chanceSum_13 : decode cX11_chanceSum 13 = .ok (.aload_n 0, 1) := by decide +kernel
theorem dX11_chanceSum_14 : decode cX11_chanceSum 14 = .ok (.getfield 19, 3) := by decide +kernel
theorem dX11_chanceSum_17 : decode cX11_chanceSum 17 = .ok (.iload_n 2, 1) := by decide +kernel
theorem dX11_chanceSum_18 : decode cX11_chanceSum 18 = .ok (.iaload, 1) := by decide +kernel
theorem dX11_chanceSum_19 : decode cX11_chanceSum 19 = .ok (.iadd, 1) := by decide +kernel
theorem dX11_chanceSum_20 : decode cX11_chanceSum 20 = .ok (.istore_n 1, 1) := by decide +kernel
theorem dX11_chanceSum_21 : decode cX11_chanceSum 21 = .ok (.iinc 2 1, 3) := by decide +kernel
theorem dX11_chanceSum_24 : decode cX11_chanceSum 24 = .ok (.goto (-20), 3) := by decide +kernel
theorem dX11_chanceSum_27 : decode cX11_chanceSum 27 = .ok (.iload_n 1, 1) := by decide +kernel
theorem dX11_chanceSum_28 : decode cX11_chanceSum 28 = .ok (.ireturn, 1) := by decide +kernel
theorem dX11_pairing_0 : decode cX11_pairing 0 = .ok (.aload_n 0, 1) := by decide +kernel
theorem dX11_pairing_1 : decode cX11_pairing 1 = .ok (.getfield 22, 3) := by decide +kernel
theorem dX11_pairing_4 : decode cX11_pairing 4 = .ok (.bipush 6, 2) := by decide +kernel
theorem dX11_pairing_6 : decode cX11_pairing 6 = .ok (.iload_n 1, 1) := by decide +kernel
theorem dX11_pairing_7 : decode cX11_pairing 7 = .ok (.imul, 1) := by decide +kernel
theorem dX11_pairing_8 : decode cX11_pairing 8 = .ok (.iload_n 2, 1) := by decide +kernel
theorem dX11_pairing_9 : decode cX11_pairing 9 = .ok (.iadd, 1) := by decide +kernel
theorem dX11_pairing_10 : decode cX11_pairing 10 = .ok (.iaload, 1) := by decide +kernel
theorem dX11_pairing_11 : decode cX11_pairing 11 = .ok (.istore 5, 2) := by decide +kernel
theorem dX11_pairing_13 : decode cX11_pairing 13 = .ok (.iload 5, 2) := by decide +kernel
theorem dX11_pairing_15 : decode cX11_pairing 15 = .ok (.ifCond .le 47, 3) := by decide +kernel
theorem dX11_pairing_18 : decode cX11_pairing 18 = .ok (.aload_n 0, 1) := by decide +kernel
theorem dX11_pairing_19 : decode cX11_pairing 19 = .ok (.iload_n 3, 1) := by decide +kernel
theorem dX11_pairing_20 : decode cX11_pairing 20 = .ok (.iload_n 2, 1) := by decide +kernel
theorem dX11_pairing_21 : decode cX11_pairing 21 = .ok (.invokevirtual 291, 3) := by decide +kernel
theorem dX11_pairing_24 : decode cX11_pairing 24 = .ok (.ifCond .eq 38, 3) := by decide +kernel
theorem dX11_pairing_27 : decode cX11_pairing 27 = .ok (.iload 5, 2) := by decide +kernel
theorem dX11_pairing_29 : decode cX11_pairing 29 = .ok (.i2l, 1) := by decide +kernel
theorem dX11_pairing_30 : decode cX11_pairing 30 = .ok (.aload_n 0, 1) := by decide +kernel
theorem dX11_pairing_31 : decode cX11_pairing 31 = .ok (.getfield 95, 3) := by decide +kernel
theorem dX11_pairing_34 : decode cX11_pairing 34 = .ok (.iload 4, 2) := by decide +kernel
theorem dX11_pairing_36 : decode cX11_pairing 36 = .ok (.laload, 1) := by decide +kernel
theorem dX11_pairing_37 : decode cX11_pairing 37 = .ok (.lmul, 1) := by decide +kernel
theorem dX11_pairing_38 : decode cX11_pairing 38 = .ok (.aload_n 0, 1) := by decide +kernel
theorem dX11_pairing_39 : decode cX11_pairing 39 = .ok (.getfield 91, 3) := by decide +kernel
theorem dX11_pairing_42 : decode cX11_pairing 42 = .ok (.sipush 512, 3) := by decide +kernel
theorem dX11_pairing_45 : decode cX11_pairing 45 = .ok (.iload 4, 2) := by decide +kernel
theorem dX11_pairing_47 : decode cX11_pairing 47 = .ok (.imul, 1) := by decide +kernel
theorem dX11_pairing_48 : decode cX11_pairing 48 = .ok (.iload_n 3, 1) := by decide +kernel
theorem dX11_pairing_49 : decode cX11_pairing 49 = .ok (.iadd, 1) := by decide +kernel
theorem dX11_pairing_50 : decode cX11_pairing 50 = .ok (.aload_n 0, 1) := by decide +kernel
theorem dX11_pairing_51 : decode cX11_pairing 51 = .ok (.getfield 82, 3) := by decide +kernel
theorem dX11_pairing_54 : decode cX11_pairing 54 = .ok (.iload_n 2, 1) := by decide +kernel
theorem dX11_pairing_55 : decode cX11_pairing 55 = .ok (.iaload, 1) := by decide +kernel
theorem dX11_pairing_56 : decode cX11_pairing 56 = .ok (.isub, 1) := by decide +kernel
theorem dX11_pairing_57 : decode cX11_pairing 57 = .ok (.laload, 1) := by decide +kernel
theorem dX11_pairing_58 : decode cX11_pairing 58 = .ok (.ladd, 1) := by decide +kernel
theorem dX11_pairing_59 : decode cX11_pairing 59 = .ok (.goto 6, 3) := by decide +kernel
theorem dX11_pairing_62 : decode cX11_pairing 62 = .ok (.ldc2_w 340, 3) := by decide +kernel
theorem dX11_pairing_65 : decode cX11_pairing 65 = .ok (.lreturn, 1) := by decide +kernel
theorem dX11_layHopes_0 : decode cX11_layHopes 0 = .ok (.aload_n 0, 1) := by decide +kernel
theorem dX11_layHopes_1 : decode cX11_layHopes 1 = .ok (.invokevirtual 305, 3) := by decide +kernel
theorem dX11_layHopes_4 : decode cX11_layHopes 4 = .ok (.aload_n 0, 1) := by decide +kernel
theorem dX11_layHopes_5 : decode cX11_layHopes 5 = .ok (.getfield 95, 3) := by decide +kernel
theorem dX11_layHopes_8 : decode cX11_layHopes 8 = .ok (.iconst 0, 1) := by decide +kernel
theorem dX11_layHopes_9 : decode cX11_layHopes 9 = .ok (.lconst 1, 1) := by decide +kernel
theorem dX11_layHopes_10 : decode cX11_layHopes 10 = .ok (.lastore, 1) := by decide +kernel
theorem dX11_layHopes_11 : decode cX11_layHopes 11 = .ok (.iconst 0, 1) := by decide +kernel
theorem dX11_layHopes_12 : decode cX11_layHopes 12 = .ok (.istore_n 2, 1) := by decide +kernel
theorem dX11_layHopes_13 : decode cX11_layHopes 13 = .ok (.iload_n 2, 1) := by decide +kernel
theorem dX11_layHopes_14 : decode cX11_layHopes 14 = .ok (.aload_n 0, 1) := by decide +kernel
theorem dX11_layHopes_15 : decode cX11_layHopes 15 = .ok (.getfield 288, 3) := by decide +kernel
theorem dX11_layHopes_18 : decode cX11_layHopes 18 = .ok (.if_icmp .ge 16, 3) := by decide +kernel
theorem dX11_layHopes_21 : decode cX11_layHopes 21 = .ok (.aload_n 0, 1) := by decide +kernel
theorem dX11_layHopes_22 : decode cX11_layHopes 22 = .ok (.getfield 91, 3) := by decide +kernel
theorem dX11_layHopes_25 : decode cX11_layHopes 25 = .ok (.iload_n 2, 1) := by decide +kernel
theorem dX11_layHopes_26 : decode cX11_layHopes 26 = .ok (.lconst 0, 1) := by decide +kernel
theorem dX11_layHopes_27 : decode cX11_layHopes 27 = .ok (.lastore, 1) := by decide +kernel
theorem dX11_layHopes_28 : decode cX11_layHopes 28 = .ok (.iinc 2 1, 3) := by decide +kernel
theorem dX11_layHopes_31 : decode cX11_layHopes 31 = .ok (.goto (-18), 3) := by decide +kernel
theorem dX11_layHopes_34 : decode cX11_layHopes 34 = .ok (.iconst 1, 1) := by decide +kernel
theorem dX11_layHopes_35 : decode cX11_layHopes 35 = .ok (.istore_n 2, 1) := by decide +kernel
theorem dX11_layHopes_36 : decode cX11_layHopes 36 = .ok (.iload_n 2, 1) := by decide +kernel
theorem dX11_layHopes_37 : decode cX11_layHopes 37 = .ok (.iload_n 1, 1) := by decide +kernel
theorem dX11_layHopes_38 : decode cX11_layHopes 38 = .ok (.if_icmp .gt 161, 3) := by decide +kernel
theorem dX11_layHopes_41 : decode cX11_layHopes 41 = .ok (.aload_n 0, 1) := by decide +kernel
theorem dX11_layHopes_42 : decode cX11_layHopes 42 = .ok (.getfield 95, 3) := by decide +kernel
theorem dX11_layHopes_45 : decode cX11_layHopes 45 = .ok (.iload_n 2, 1) := by decide +kernel
theorem dX11_layHopes_46 : decode cX11_layHopes 46 = .ok (.aload_n 0, 1) := by decide +kernel
theorem dX11_layHopes_47 : decode cX11_layHopes 47 = .ok (.getfield 95, 3) := by decide +kernel
theorem dX11_layHopes_50 : decode cX11_layHopes 50 = .ok (.iload_n 2, 1) := by decide +kernel
theorem dX11_layHopes_51 : decode cX11_layHopes 51 = .ok (.iconst 1, 1) := by decide +kernel
theorem dX11_layHopes_52 : decode cX11_layHopes 52 = .ok (.isub, 1) := by decide +kernel
theorem dX11_layHopes_53 : decode cX11_layHopes 53 = .ok (.laload, 1) := by decide +kernel
theorem dX11_layHopes_54 : decode cX11_layHopes 54 = .ok (.aload_n 0, 1) := by decide +kernel
theorem dX11_layHopes_55 : decode cX11_layHopes 55 = .ok (.invokevirtual 351, 3) := by decide +kernel
theorem dX11_layHopes_58 : decode cX11_layHopes 58 = .ok (.i2l, 1) := by decide +kernel
theorem dX11_layHopes_59 : decode cX11_layHopes 59 = .ok (.lmul, 1) := by decide +kernel
theorem dX11_layHopes_60 : decode cX11_layHopes 60 = .ok (.lastore, 1) := by decide +kernel
theorem dX11_layHopes_61 : decode cX11_layHopes 61 = .ok (.iconst 0, 1) := by decide +kernel
theorem dX11_layHopes_62 : decode cX11_layHopes 62 = .ok (.istore_n 3, 1) := by decide +kernel
theorem dX11_layHopes_63 : decode cX11_layHopes 63 = .ok (.iload_n 3, 1) := by decide +kernel
theorem dX11_layHopes_64 : decode cX11_layHopes 64 = .ok (.aload_n 0, 1) := by decide +kernel
theorem dX11_layHopes_65 : decode cX11_layHopes 65 = .ok (.getfield 288, 3) := by decide +kernel
theorem dX11_layHopes_68 : decode cX11_layHopes 68 = .ok (.if_icmp .ge 125, 3) := by decide +kernel
theorem dX11_layHopes_71 : decode cX11_layHopes 71 = .ok (.lconst 0, 1) := by decide +kernel
theorem dX11_layHopes_72 : decode cX11_layHopes 72 = .ok (.lstore 4, 2) := by decide +kernel
theorem dX11_layHopes_74 : decode cX11_layHopes 74 = .ok (.iconst 0, 1) := by decide +kernel
theorem dX11_layHopes_75 : decode cX11_layHopes 75 = .ok (.istore 6, 2) := by decide +kernel
theorem dX11_layHopes_77 : decode cX11_layHopes 77 = .ok (.iload 6, 2) := by decide +kernel
theorem dX11_layHopes_79 : decode cX11_layHopes 79 = .ok (.aload_n 0, 1) := by decide +kernel
theorem dX11_layHopes_80 : decode cX11_layHopes 80 = .ok (.getfield 130, 3) := by decide +kernel
theorem dX11_layHopes_83 : decode cX11_layHopes 83 = .ok (.if_icmp .ge 90, 3) := by decide +kernel
theorem dX11_layHopes_86 : decode cX11_layHopes 86 = .ok (.aload_n 0, 1) := by decide +kernel
theorem dX11_layHopes_87 : decode cX11_layHopes 87 = .ok (.getfield 91, 3) := by decide +kernel
theorem dX11_layHopes_90 : decode cX11_layHopes 90 = .ok (.sipush 512, 3) := by decide +kernel
theorem dX11_layHopes_93 : decode cX11_layHopes 93 = .ok (.iload_n 2, 1) := by decide +kernel
theorem dX11_layHopes_94 : decode cX11_layHopes 94 = .ok (.iconst 1, 1) := by decide +kernel
theorem dX11_layHopes_95 : decode cX11_layHopes 95 = .ok (.isub, 1) := by decide +kernel
theorem dX11_layHopes_96 : decode cX11_layHopes 96 = .ok (.imul, 1) := by decide +kernel
theorem dX11_layHopes_97 : decode cX11_layHopes 97 = .ok (.iload_n 3, 1) := by decide +kernel
theorem dX11_layHopes_98 : decode cX11_layHopes 98 = .ok (.iadd, 1) := by decide +kernel
theorem dX11_layHopes_99 : decode cX11_layHopes 99 = .ok (.laload, 1) := by decide +kernel
theorem dX11_layHopes_100 : decode cX11_layHopes 100 = .ok (.lstore 7, 2) := by decide +kernel
theorem dX11_layHopes_102 : decode cX11_layHopes 102 = .ok (.iconst 0, 1) := by decide +kernel
theorem dX11_layHopes_103 : decode cX11_layHopes 103 = .ok (.istore 9, 2) := by decide +kernel
theorem dX11_layHopes_105 : decode cX11_layHopes 105 = .ok (.iload 9, 2) := by decide +kernel
theorem dX11_layHopes_107 : decode cX11_layHopes 107 = .ok (.aload_n 0, 1) := by decide +kernel
theorem dX11_layHopes_108 : decode cX11_layHopes 108 = .ok (.getfield 122, 3) := by decide +kernel
theorem dX11_layHopes_111 : decode cX11_layHopes 111 = .ok (.if_icmp .ge 40, 3) := by decide +kernel
theorem dX11_layHopes_114 : decode cX11_layHopes 114 = .ok (.aload_n 0, 1) := by decide +kernel
theorem dX11_layHopes_115 : decode cX11_layHopes 115 = .ok (.iload 6, 2) := by decide +kernel
theorem dX11_layHopes_117 : decode cX11_layHopes 117 = .ok (.iload 9, 2) := by decide +kernel
theorem dX11_layHopes_119 : decode cX11_layHopes 119 = .ok (.iload_n 3, 1) := by decide +kernel
theorem dX11_layHopes_120 : decode cX11_layHopes 120 = .ok (.iload_n 2, 1) := by decide +kernel
theorem dX11_layHopes_121 : decode cX11_layHopes 121 = .ok (.iconst 1, 1) := by decide +kernel
theorem dX11_layHopes_122 : decode cX11_layHopes 122 = .ok (.isub, 1) := by decide +kernel
theorem dX11_layHopes_123 : decode cX11_layHopes 123 = .ok (.invokevirtual 354, 3) := by decide +kernel
theorem dX11_layHopes_126 : decode cX11_layHopes 126 = .ok (.lstore 10, 2) := by decide +kernel
theorem dX11_layHopes_128 : decode cX11_layHopes 128 = .ok (.lload 10, 2) := by decide +kernel
theorem dX11_layHopes_130 : decode cX11_layHopes 130 = .ok (.lload 7, 2) := by decide +kernel
theorem dX11_layHopes_132 : decode cX11_layHopes 132 = .ok (.lcmp, 1) := by decide +kernel
theorem dX11_layHopes_133 : decode cX11_layHopes 133 = .ok (.ifCond .le 8, 3) := by decide +kernel
theorem dX11_layHopes_136 : decode cX11_layHopes 136 = .ok (.lload 10, 2) := by decide +kernel
theorem dX11_layHopes_138 : decode cX11_layHopes 138 = .ok (.goto 5, 3) := by decide +kernel
theorem dX11_layHopes_141 : decode cX11_layHopes 141 = .ok (.lload 7, 2) := by decide +kernel
theorem dX11_layHopes_143 : decode cX11_layHopes 143 = .ok (.lstore 7, 2) := by decide +kernel
theorem dX11_layHopes_145 : decode cX11_layHopes 145 = .ok (.iinc 9 1, 3) := by decide +kernel
theorem dX11_layHopes_148 : decode cX11_layHopes 148 = .ok (.goto (-43), 3) := by decide +kernel
theorem dX11_layHopes_151 : decode cX11_layHopes 151 = .ok (.lload 4, 2) := by decide +kernel
theorem dX11_layHopes_153 : decode cX11_layHopes 153 = .ok (.aload_n 0, 1) := by decide +kernel
theorem dX11_layHopes_154 : decode cX11_layHopes 154 = .ok (.getfield 19, 3) := by decide +kernel
theorem dX11_layHopes_157 : decode cX11_layHopes 157 = .ok (.iload 6, 2) := by decide +kernel
theorem dX11_layHopes_159 : decode cX11_layHopes 159 = .ok (.iaload, 1) := by decide +kernel
theorem dX11_layHopes_160 : decode cX11_layHopes 160 = .ok (.i2l, 1) := by decide +kernel
theorem dX11_layHopes_161 : decode cX11_layHopes 161 = .ok (.lload 7, 2) := by decide +kernel
theorem dX11_layHopes_163 : decode cX11_layHopes 163 = .ok (.lmul, 1) := by decide +kernel
theorem dX11_layHopes_164 : decode cX11_layHopes 164 = .ok (.ladd, 1) := by decide +kernel
theorem dX11_layHopes_165 : decode cX11_layHopes 165 = .ok (.lstore 4, 2) := by decide +kernel
theorem dX11_layHopes_167 : decode cX11_layHopes 167 = .ok (.iinc 6 1, 3) := by decide +kernel
theorem dX11_layHopes_170 : decode cX11_layHopes 170 = .ok (.goto (-93), 3) := by decide +kernel
theorem dX11_layHopes_173 : decode cX11_layHopes 173 = .ok (.aload_n 0, 1) := by decide +kernel
theorem dX11_layHopes_174 : decode cX11_layHopes 174 = .ok (.getfield 91, 3) := by decide +kernel
theorem dX11_layHopes_177 : decode cX11_layHopes 177 = .ok (.sipush 512, 3) := by decide +kernel
theorem dX11_layHopes_180 : decode cX11_layHopes 180 = .ok (.iload_n 2, 1) := by decide +kernel
theorem dX11_layHopes_181 : decode cX11_layHopes 181 = .ok (.imul, 1) := by decide +kernel
theorem dX11_layHopes_182 : decode cX11_layHopes 182 = .ok (.iload_n 3, 1) := by decide +kernel
theorem dX11_layHopes_183 : decode cX11_layHopes 183 = .ok (.iadd, 1) := by decide +kernel
theorem dX11_layHopes_184 : decode cX11_layHopes 184 = .ok (.lload 4, 2) := by decide +kernel
theorem dX11_layHopes_186 : decode cX11_layHopes 186 = .ok (.lastore, 1) := by decide +kernel
theorem dX11_layHopes_187 : decode cX11_layHopes 187 = .ok (.iinc 3 1, 3) := by decide +kernel
theorem dX11_layHopes_190 : decode cX11_layHopes 190 = .ok (.goto (-127), 3) := by decide +kernel
theorem dX11_layHopes_193 : decode cX11_layHopes 193 = .ok (.iinc 2 1, 3) := by decide +kernel
theorem dX11_layHopes_196 : decode cX11_layHopes 196 = .ok (.goto (-160), 3) := by decide +kernel
theorem dX11_layHopes_199 : decode cX11_layHopes 199 = .ok (.return_, 1) := by decide +kernel
theorem dX11_hope_0 : decode cX11_hope 0 = .ok (.iload_n 1, 1) := by decide +kernel
theorem dX11_hope_1 : decode cX11_hope 1 = .ok (.i2l, 1) := by decide +kernel
theorem dX11_hope_2 : decode cX11_hope 2 = .ok (.lconst 0, 1) := by decide +kernel
theorem dX11_hope_3 : decode cX11_hope 3 = .ok (.ldc2_w 155, 3) := by decide +kernel
theorem dX11_hope_6 : decode cX11_hope 6 = .ok (.invokestatic 126, 3) := by decide +kernel
theorem dX11_hope_9 : decode cX11_hope 9 = .ok (.ifCond .eq 13, 3) := by decide +kernel
theorem dX11_hope_12 : decode cX11_hope 12 = .ok (.iload_n 2, 1) := by decide +kernel
theorem dX11_hope_13 : decode cX11_hope 13 = .ok (.i2l, 1) := by decide +kernel
theorem dX11_hope_14 : decode cX11_hope 14 = .ok (.lconst 0, 1) := by decide +kernel
theorem dX11_hope_15 : decode cX11_hope 15 = .ok (.lconst 1, 1) := by decide +kernel
theorem dX11_hope_16 : decode cX11_hope 16 = .ok (.invokestatic 126, 3) := by decide +kernel
theorem dX11_hope_19 : decode cX11_hope 19 = .ok (.ifCond .ne 7, 3) := by decide +kernel
theorem dX11_hope_22 : decode cX11_hope 22 = .ok (.ldc2_w 340, 3) := by decide +kernel
theorem dX11_hope_25 : decode cX11_hope 25 = .ok (.lreturn, 1) := by decide +kernel
theorem dX11_hope_26 : decode cX11_hope 26 = .ok (.aload_n 0, 1) := by decide +kernel
theorem dX11_hope_27 : decode cX11_hope 27 = .ok (.invokevirtual 351, 3) := by decide +kernel
theorem dX11_hope_30 : decode cX11_hope 30 = .ok (.ifCond .ne 7, 3) := by decide +kernel
theorem dX11_hope_33 : decode cX11_hope 33 = .ok (.ldc2_w 342, 3) := by decide +kernel
theorem dX11_hope_36 : decode cX11_hope 36 = .ok (.lreturn, 1) := by decide +kernel
theorem dX11_hope_37 : decode cX11_hope 37 = .ok (.aload_n 0, 1) := by decide +kernel
theorem dX11_hope_38 : decode cX11_hope 38 = .ok (.iload_n 1, 1) := by decide +kernel
theorem dX11_hope_39 : decode cX11_hope 39 = .ok (.invokevirtual 358, 3) := by decide +kernel
theorem dX11_hope_42 : decode cX11_hope 42 = .ok (.aload_n 0, 1) := by decide +kernel
theorem dX11_hope_43 : decode cX11_hope 43 = .ok (.getfield 91, 3) := by decide +kernel
theorem dX11_hope_46 : decode cX11_hope 46 = .ok (.sipush 512, 3) := by decide +kernel
theorem dX11_hope_49 : decode cX11_hope 49 = .ok (.iload_n 1, 1) := by decide +kernel
theorem dX11_hope_50 : decode cX11_hope 50 = .ok (.imul, 1) := by decide +kernel
theorem dX11_hope_51 : decode cX11_hope 51 = .ok (.aload_n 0, 1) := by decide +kernel
theorem dX11_hope_52 : decode cX11_hope 52 = .ok (.invokevirtual 302, 3) := by decide +kernel
theorem dX11_hope_55 : decode cX11_hope 55 = .ok (.iadd, 1) := by decide +kernel
theorem dX11_hope_56 : decode cX11_hope 56 = .ok (.laload, 1) := by decide +kernel
theorem dX11_hope_57 : decode cX11_hope 57 = .ok (.aload_n 0, 1) := by decide +kernel
theorem dX11_hope_58 : decode cX11_hope 58 = .ok (.getfield 95, 3) := by decide +kernel
theorem dX11_hope_61 : decode cX11_hope 61 = .ok (.iload_n 1, 1) := by decide +kernel
theorem dX11_hope_62 : decode cX11_hope 62 = .ok (.laload, 1) := by decide +kernel
theorem dX11_hope_63 : decode cX11_hope 63 = .ok (.iload_n 2, 1) := by decide +kernel
theorem dX11_hope_64 : decode cX11_hope 64 = .ok (.invokestatic 347, 3) := by decide +kernel
theorem dX11_hope_67 : decode cX11_hope 67 = .ok (.lreturn, 1) := by decide +kernel
theorem dX11_hopeFor_0 : decode cX11_hopeFor 0 = .ok (.aload_n 0, 1) := by decide +kernel
theorem dX11_hopeFor_1 : decode cX11_hopeFor 1 = .ok (.iload_n 1, 1) := by decide +kernel
theorem dX11_hopeFor_2 : decode cX11_hopeFor 2 = .ok (.invokevirtual 146, 3) := by decide +kernel
theorem dX11_hopeFor_5 : decode cX11_hopeFor 5 = .ok (.ifCond .eq 15, 3) := by decide +kernel
theorem dX11_hopeFor_8 : decode cX11_hopeFor 8 = .ok (.iload_n 2, 1) := by decide +kernel
theorem dX11_hopeFor_9 : decode cX11_hopeFor 9 = .ok (.i2l, 1) := by decide +kernel
theorem dX11_hopeFor_10 : decode cX11_hopeFor 10 = .ok (.lconst 1, 1) := by decide +kernel
theorem dX11_hopeFor_11 : decode cX11_hopeFor 11 = .ok (.ldc2_w 155, 3) := by decide +kernel
theorem dX11_hopeFor_14 : decode cX11_hopeFor 14 = .ok (.invokestatic 126, 3) := by decide +kernel
theorem dX11_hopeFor_17 : decode cX11_hopeFor 17 = .ok (.ifCond .ne 5, 3) := by decide +kernel
theorem dX11_hopeFor_20 : decode cX11_hopeFor 20 = .ok (.iconst (-1), 1) := by decide +kernel
theorem dX11_hopeFor_21 : decode cX11_hopeFor 21 = .ok (.ireturn, 1) := by decide +kernel
theorem dX11_hopeFor_22 : decode cX11_hopeFor 22 = .ok (.aload_n 0, 1) := by decide +kernel
theorem dX11_hopeFor_23 : decode cX11_hopeFor 23 = .ok (.invokevirtual 351, 3) := by decide +kernel
theorem dX11_hopeFor_26 : decode cX11_hopeFor 26 = .ok (.ifCond .ne 6, 3) := by decide +kernel
theorem dX11_hopeFor_29 : decode cX11_hopeFor 29 = .ok (.bipush (-2), 2) := by decide +kernel
theorem dX11_hopeFor_31 : decode cX11_hopeFor 31 = .ok (.ireturn, 1) := by decide +kernel
theorem dX11_hopeFor_32 : decode cX11_hopeFor 32 = .ok (.aload_n 0, 1) := by decide +kernel
theorem dX11_hopeFor_33 : decode cX11_hopeFor 33 = .ok (.iload_n 2, 1) := by decide +kernel
theorem dX11_hopeFor_34 : decode cX11_hopeFor 34 = .ok (.iconst 1, 1) := by decide +kernel
theorem dX11_hopeFor_35 : decode cX11_hopeFor 35 = .ok (.isub, 1) := by decide +kernel
theorem dX11_hopeFor_36 : decode cX11_hopeFor 36 = .ok (.invokevirtual 358, 3) := by decide +kernel
theorem dX11_hopeFor_39 : decode cX11_hopeFor 39 = .ok (.bipush (-4), 2) := by decide +kernel
theorem dX11_hopeFor_41 : decode cX11_hopeFor 41 = .ok (.istore_n 3, 1) := by decide +kernel
theorem dX11_hopeFor_42 : decode cX11_hopeFor 42 = .ok (.aload_n 0, 1) := by decide +kernel
theorem dX11_hopeFor_43 : decode cX11_hopeFor 43 = .ok (.getfield 91, 3) := by decide +kernel
theorem dX11_hopeFor_46 : decode cX11_hopeFor 46 = .ok (.sipush 512, 3) := by decide +kernel
theorem dX11_hopeFor_49 : decode cX11_hopeFor 49 = .ok (.iload_n 2, 1) := by decide +kernel
theorem dX11_hopeFor_50 : decode cX11_hopeFor 50 = .ok (.iconst 1, 1) := by decide +kernel
theorem dX11_hopeFor_51 : decode cX11_hopeFor 51 = .ok (.isub, 1) := by decide +kernel
theorem dX11_hopeFor_52 : decode cX11_hopeFor 52 = .ok (.imul, 1) := by decide +kernel
theorem dX11_hopeFor_53 : decode cX11_hopeFor 53 = .ok (.aload_n 0, 1) := by decide +kernel
theorem dX11_hopeFor_54 : decode cX11_hopeFor 54 = .ok (.invokevirtual 302, 3) := by decide +kernel
theorem dX11_hopeFor_57 : decode cX11_hopeFor 57 = .ok (.iadd, 1) := by decide +kernel
theorem dX11_hopeFor_58 : decode cX11_hopeFor 58 = .ok (.laload, 1) := by decide +kernel
theorem dX11_hopeFor_59 : decode cX11_hopeFor 59 = .ok (.lstore 4, 2) := by decide +kernel
theorem dX11_hopeFor_61 : decode cX11_hopeFor 61 = .ok (.iconst 0, 1) := by decide +kernel
theorem dX11_hopeFor_62 : decode cX11_hopeFor 62 = .ok (.istore 6, 2) := by decide +kernel
theorem dX11_hopeFor_64 : decode cX11_hopeFor 64 = .ok (.iload 6, 2) := by decide +kernel
theorem dX11_hopeFor_66 : decode cX11_hopeFor 66 = .ok (.aload_n 0, 1) := by decide +kernel
theorem dX11_hopeFor_67 : decode cX11_hopeFor 67 = .ok (.getfield 122, 3) := by decide +kernel
theorem dX11_hopeFor_70 : decode cX11_hopeFor 70 = .ok (.if_icmp .ge 54, 3) := by decide +kernel
theorem dX11_hopeFor_73 : decode cX11_hopeFor 73 = .ok (.aload_n 0, 1) := by decide +kernel
theorem dX11_hopeFor_74 : decode cX11_hopeFor 74 = .ok (.iload_n 1, 1) := by decide +kernel
theorem dX11_hopeFor_75 : decode cX11_hopeFor 75 = .ok (.iload 6, 2) := by decide +kernel
theorem dX11_hopeFor_77 : decode cX11_hopeFor 77 = .ok (.aload_n 0, 1) := by decide +kernel
theorem dX11_hopeFor_78 : decode cX11_hopeFor 78 = .ok (.invokevirtual 302, 3) := by decide +kernel
theorem dX11_hopeFor_81 : decode cX11_hopeFor 81 = .ok (.iload_n 2, 1) := by decide +kernel
theorem dX11_hopeFor_82 : decode cX11_hopeFor 82 = .ok (.iconst 1, 1) := by decide +kernel
theorem dX11_hopeFor_83 : decode cX11_hopeFor 83 = .ok (.isub, 1) := by decide +kernel
theorem dX11_hopeFor_84 : decode cX11_hopeFor 84 = .ok (.invokevirtual 354, 3) := by decide +kernel
theorem dX11_hopeFor_87 : decode cX11_hopeFor 87 = .ok (.lstore 7, 2) := by decide +kernel
theorem dX11_hopeFor_89 : decode cX11_hopeFor 89 = .ok (.lload 7, 2) := by decide +kernel
theorem dX11_hopeFor_91 : decode cX11_hopeFor 91 = .ok (.lload 4, 2) := by decide +kernel
theorem dX11_hopeFor_93 : decode cX11_hopeFor 93 = .ok (.lcmp, 1) := by decide +kernel
theorem dX11_hopeFor_94 : decode cX11_hopeFor 94 = .ok (.ifCond .gt 17, 3) := by decide +kernel
theorem dX11_hopeFor_97 : decode cX11_hopeFor 97 = .ok (.lload 7, 2) := by decide +kernel
theorem dX11_hopeFor_99 : decode cX11_hopeFor 99 = .ok (.lload 4, 2) := by decide +kernel
theorem dX11_hopeFor_101 : decode cX11_hopeFor 101 = .ok (.lcmp, 1) := by decide +kernel
theorem dX11_hopeFor_102 : decode cX11_hopeFor 102 = .ok (.ifCond .ne 16, 3) := by decide +kernel
theorem dX11_hopeFor_105 : decode cX11_hopeFor 105 = .ok (.iload_n 3, 1) := by decide +kernel
theorem dX11_hopeFor_106 : decode cX11_hopeFor 106 = .ok (.bipush (-4), 2) := by decide +kernel
theorem dX11_hopeFor_108 : decode cX11_hopeFor 108 = .ok (.if_icmp .ne 10, 3) := by decide +kernel
theorem dX11_hopeFor_111 : decode cX11_hopeFor 111 = .ok (.iload 6, 2) := by decide +kernel
theorem dX11_hopeFor_113 : decode cX11_hopeFor 113 = .ok (.istore_n 3, 1) := by decide +kernel
theorem dX11_hopeFor_114 : decode cX11_hopeFor 114 = .ok (.lload 7, 2) := by decide +kernel
theorem dX11_hopeFor_116 : decode cX11_hopeFor 116 = .ok (.lstore 4, 2) := by decide +kernel
theorem dX11_hopeFor_118 : decode cX11_hopeFor 118 = .ok (.iinc 6 1, 3) := by decide +kernel
theorem dX11_hopeFor_121 : decode cX11_hopeFor 121 = .ok (.goto (-57), 3) := by decide +kernel
theorem dX11_hopeFor_124 : decode cX11_hopeFor 124 = .ok (.iload_n 3, 1) := by decide +kernel
theorem dX11_hopeFor_125 : decode cX11_hopeFor 125 = .ok (.ireturn, 1) := by decide +kernel
theorem dX11_batch_0 : decode cX11_batch 0 = .ok (.iload_n 1, 1) := by decide +kernel
theorem dX11_batch_1 : decode cX11_batch 1 = .ok (.i2l, 1) := by decide +kernel
theorem dX11_batch_2 : decode cX11_batch 2 = .ok (.lconst 1, 1) := by decide +kernel
theorem dX11_batch_3 : decode cX11_batch 3 = .ok (.ldc2_w 153, 3) := by decide +kernel
theorem dX11_batch_6 : decode cX11_batch 6 = .ok (.invokestatic 126, 3) := by decide +kernel
theorem dX11_batch_9 : decode cX11_batch 9 = .ok (.ifCond .eq 26, 3) := by decide +kernel
theorem dX11_batch_12 : decode cX11_batch 12 = .ok (.iload_n 2, 1) := by decide +kernel
theorem dX11_batch_13 : decode cX11_batch 13 = .ok (.ifCond .eq 24, 3) := by decide +kernel
theorem dX11_batch_16 : decode cX11_batch 16 = .ok (.iload_n 2, 1) := by decide +kernel
theorem dX11_batch_17 : decode cX11_batch 17 = .ok (.i2l, 1) := by decide +kernel
theorem dX11_batch_18 : decode cX11_batch 18 = .ok (.ldc2_w 232, 3) := by decide +kernel
theorem dX11_batch_21 : decode cX11_batch 21 = .ok (.bipush 9, 2) := by decide +kernel
theorem dX11_batch_23 : decode cX11_batch 23 = .ok (.aload_n 0, 1) := by decide +kernel
theorem dX11_batch_24 : decode cX11_batch 24 = .ok (.getfield 130, 3) := by decide +kernel
theorem dX11_batch_27 : decode cX11_batch 27 = .ok (.iadd, 1) := by decide +kernel
theorem dX11_batch_28 : decode cX11_batch 28 = .ok (.i2l, 1) := by decide +kernel
theorem dX11_batch_29 : decode cX11_batch 29 = .ok (.invokestatic 126, 3) := by decide +kernel
theorem dX11_batch_32 : decode cX11_batch 32 = .ok (.ifCond .ne 5, 3) := by decide +kernel
theorem dX11_batch_35 : decode cX11_batch 35 = .ok (.iconst (-1), 1) := by decide +kernel
theorem dX11_batch_36 : decode cX11_batch 36 = .ok (.ireturn, 1) := by decide +kernel
theorem dX11_batch_37 : decode cX11_batch 37 = .ok (.aload_n 0, 1) := by decide +kernel
theorem dX11_batch_38 : decode cX11_batch 38 = .ok (.invokevirtual 305, 3) := by decide +kernel
theorem dX11_batch_41 : decode cX11_batch 41 = .ok (.aload_n 0, 1) := by decide +kernel
theorem dX11_batch_42 : decode cX11_batch 42 = .ok (.invokevirtual 302, 3) := by decide +kernel
theorem dX11_batch_45 : decode cX11_batch 45 = .ok (.istore_n 3, 1) := by decide +kernel
theorem dX11_batch_46 : decode cX11_batch 46 = .ok (.iconst 0, 1) := by decide +kernel
theorem dX11_batch_47 : decode cX11_batch 47 = .ok (.istore 4, 2) := by decide +kernel
theorem dX11_batch_49 : decode cX11_batch 49 = .ok (.iconst 0, 1) := by decide +kernel
theorem dX11_batch_50 : decode cX11_batch 50 = .ok (.istore 5, 2) := by decide +kernel
theorem dX11_batch_52 : decode cX11_batch 52 = .ok (.iload 5, 2) := by decide +kernel
theorem dX11_batch_54 : decode cX11_batch 54 = .ok (.aload_n 0, 1) := by decide +kernel
theorem dX11_batch_55 : decode cX11_batch 55 = .ok (.getfield 130, 3) := by decide +kernel
theorem dX11_batch_58 : decode cX11_batch 58 = .ok (.if_icmp .ge 72, 3) := by decide +kernel
theorem dX11_batch_61 : decode cX11_batch 61 = .ok (.iload 5, 2) := by decide +kernel
theorem dX11_batch_63 : decode cX11_batch 63 = .ok (.iload_n 1, 1) := by decide +kernel
theorem dX11_batch_64 : decode cX11_batch 64 = .ok (.iadd, 1) := by decide +kernel
theorem dX11_batch_65 : decode cX11_batch 65 = .ok (.aload_n 0, 1) := by decide +kernel
theorem dX11_batch_66 : decode cX11_batch 66 = .ok (.getfield 130, 3) := by decide +kernel
theorem dX11_batch_69 : decode cX11_batch 69 = .ok (.if_icmp .ge 10, 3) := by decide +kernel
theorem dX11_batch_72 : decode cX11_batch 72 = .ok (.iload 5, 2) := by decide +kernel
theorem dX11_batch_74 : decode cX11_batch 74 = .ok (.iload_n 1, 1) := by decide +kernel
theorem dX11_batch_75 : decode cX11_batch 75 = .ok (.iadd, 1) := by decide +kernel
theorem dX11_batch_76 : decode cX11_batch 76 = .ok (.goto 7, 3) := by decide +kernel
theorem dX11_batch_79 : decode cX11_batch 79 = .ok (.aload_n 0, 1) := by decide +kernel
theorem dX11_batch_80 : decode cX11_batch 80 = .ok (.getfield 130, 3) := by decide +kernel
theorem dX11_batch_83 : decode cX11_batch 83 = .ok (.istore 6, 2) := by decide +kernel
theorem dX11_batch_85 : decode cX11_batch 85 = .ok (.aload_n 0, 1) := by decide +kernel
theorem dX11_batch_86 : decode cX11_batch 86 = .ok (.iload 5, 2) := by decide +kernel
theorem dX11_batch_88 : decode cX11_batch 88 = .ok (.iload 6, 2) := by decide +kernel
theorem dX11_batch_90 : decode cX11_batch 90 = .ok (.invokevirtual 298, 3) := by decide +kernel
theorem dX11_batch_93 : decode cX11_batch 93 = .ok (.iload 4, 2) := by decide +kernel
theorem dX11_batch_95 : decode cX11_batch 95 = .ok (.aload_n 0, 1) := by decide +kernel
theorem dX11_batch_96 : decode cX11_batch 96 = .ok (.getfield 85, 3) := by decide +kernel
theorem dX11_batch_99 : decode cX11_batch 99 = .ok (.sipush 512, 3) := by decide +kernel
theorem dX11_batch_102 : decode cX11_batch 102 = .ok (.iload 5, 2) := by decide +kernel
theorem dX11_batch_104 : decode cX11_batch 104 = .ok (.imul, 1) := by decide +kernel
theorem dX11_batch_105 : decode cX11_batch 105 = .ok (.iload_n 3, 1) := by decide +kernel
theorem dX11_batch_106 : decode cX11_batch 106 = .ok (.iadd, 1) := by decide +kernel
theorem dX11_batch_107 : decode cX11_batch 107 = .ok (.iaload, 1) := by decide +kernel
theorem dX11_batch_108 : decode cX11_batch 108 = .ok (.iadd, 1) := by decide +kernel
theorem dX11_batch_109 : decode cX11_batch 109 = .ok (.istore 4, 2) := by decide +kernel
theorem dX11_batch_111 : decode cX11_batch 111 = .ok (.aload_n 0, 1) := by decide +kernel
theorem dX11_batch_112 : decode cX11_batch 112 = .ok (.iload 5, 2) := by decide +kernel
theorem dX11_batch_114 : decode cX11_batch 114 = .ok (.iload 6, 2) := by decide +kernel
theorem dX11_batch_116 : decode cX11_batch 116 = .ok (.iload_n 3, 1) := by decide +kernel
theorem dX11_batch_117 : decode cX11_batch 117 = .ok (.invokevirtual 311, 3) := by decide +kernel
theorem dX11_batch_120 : decode cX11_batch 120 = .ok (.istore_n 3, 1) := by decide +kernel
theorem dX11_batch_121 : decode cX11_batch 121 = .ok (.iload 5, 2) := by decide +kernel
theorem dX11_batch_123 : decode cX11_batch 123 = .ok (.iload_n 1, 1) := by decide +kernel
theorem dX11_batch_124 : decode cX11_batch 124 = .ok (.iadd, 1) := by decide +kernel
theorem dX11_batch_125 : decode cX11_batch 125 = .ok (.istore 5, 2) := by decide +kernel
theorem dX11_batch_127 : decode cX11_batch 127 = .ok (.goto (-75), 3) := by decide +kernel
theorem dX11_batch_130 : decode cX11_batch 130 = .ok (.iload_n 2, 1) := by decide +kernel
theorem dX11_batch_131 : decode cX11_batch 131 = .ok (.ifCond .ne 8, 3) := by decide +kernel
theorem dX11_batch_134 : decode cX11_batch 134 = .ok (.iload 4, 2) := by decide +kernel
theorem dX11_batch_136 : decode cX11_batch 136 = .ok (.goto 12, 3) := by decide +kernel
theorem dX11_batch_139 : decode cX11_batch 139 = .ok (.aload_n 0, 1) := by decide +kernel
theorem dX11_batch_140 : decode cX11_batch 140 = .ok (.getfield 88, 3) := by decide +kernel
theorem dX11_batch_143 : decode cX11_batch 143 = .ok (.iload_n 2, 1) := by decide +kernel
theorem dX11_batch_144 : decode cX11_batch 144 = .ok (.bipush 10, 2) := by decide +kernel
theorem dX11_batch_146 : decode cX11_batch 146 = .ok (.isub, 1) := by decide +kernel
theorem dX11_batch_147 : decode cX11_batch 147 = .ok (.iaload, 1) := by decide +kernel
theorem dX11_batch_148 : decode cX11_batch 148 = .ok (.ireturn, 1) := by decide +kernel
theorem dX11_loadNet_0 : decode cX11_loadNet 0 = .ok (.aload_n 0, 1) := by decide +kernel
theorem dX11_loadNet_1 : decode cX11_loadNet 1 = .ok (.iload_n 2, 1) := by decide +kernel
theorem dX11_loadNet_2 : decode cX11_loadNet 2 = .ok (.putfield 240, 3) := by decide +kernel
theorem dX11_loadNet_5 : decode cX11_loadNet 5 = .ok (.aload_n 0, 1) := by decide +kernel
theorem dX11_loadNet_6 : decode cX11_loadNet 6 = .ok (.iload_n 2, 1) := by decide +kernel
theorem dX11_loadNet_7 : decode cX11_loadNet 7 = .ok (.putfield 243, 3) := by decide +kernel
theorem dX11_loadNet_10 : decode cX11_loadNet 10 = .ok (.iconst 0, 1) := by decide +kernel
theorem dX11_loadNet_11 : decode cX11_loadNet 11 = .ok (.istore_n 3, 1) := by decide +kernel
theorem dX11_loadNet_12 : decode cX11_loadNet 12 = .ok (.iload_n 3, 1) := by decide +kernel
theorem dX11_loadNet_13 : decode cX11_loadNet 13 = .ok (.iload_n 2, 1) := by decide +kernel
theorem dX11_loadNet_14 : decode cX11_loadNet 14 = .ok (.if_icmp .ge 32, 3) := by decide +kernel
theorem dX11_loadNet_17 : decode cX11_loadNet 17 = .ok (.aload_n 0, 1) := by decide +kernel
theorem dX11_loadNet_18 : decode cX11_loadNet 18 = .ok (.getfield 55, 3) := by decide +kernel
theorem dX11_loadNet_21 : decode cX11_loadNet 21 = .ok (.iload_n 3, 1) := by decide +kernel
theorem dX11_loadNet_22 : decode cX11_loadNet 22 = .ok (.iconst 1, 1) := by decide +kernel
theorem dX11_loadNet_23 : decode cX11_loadNet 23 = .ok (.iastore, 1) := by decide +kernel
theorem dX11_loadNet_24 : decode cX11_loadNet 24 = .ok (.aload_n 0, 1) := by decide +kernel
theorem dX11_loadNet_25 : decode cX11_loadNet 25 = .ok (.getfield 58, 3) := by decide +kernel
theorem dX11_loadNet_28 : decode cX11_loadNet 28 = .ok (.iload_n 3, 1) := by decide +kernel
theorem dX11_loadNet_29 : decode cX11_loadNet 29 = .ok (.iload_n 3, 1) := by decide +kernel
theorem dX11_loadNet_30 : decode cX11_loadNet 30 = .ok (.iastore, 1) := by decide +kernel
theorem dX11_loadNet_31 : decode cX11_loadNet 31 = .ok (.aload_n 0, 1) := by decide +kernel
theorem dX11_loadNet_32 : decode cX11_loadNet 32 = .ok (.getfield 61, 3) := by decide +kernel
theorem dX11_loadNet_35 : decode cX11_loadNet 35 = .ok (.iload_n 3, 1) := by decide +kernel
theorem dX11_loadNet_36 : decode cX11_loadNet 36 = .ok (.sipush 999, 3) := by decide +kernel
theorem dX11_loadNet_39 : decode cX11_loadNet 39 = .ok (.iastore, 1) := by decide +kernel
theorem dX11_loadNet_40 : decode cX11_loadNet 40 = .ok (.iinc 3 1, 3) := by decide +kernel
theorem dX11_loadNet_43 : decode cX11_loadNet 43 = .ok (.goto (-31), 3) := by decide +kernel
theorem dX11_loadNet_46 : decode cX11_loadNet 46 = .ok (.iconst 0, 1) := by decide +kernel
theorem dX11_loadNet_47 : decode cX11_loadNet 47 = .ok (.istore_n 3, 1) := by decide +kernel
theorem dX11_loadNet_48 : decode cX11_loadNet 48 = .ok (.iload_n 3, 1) := by decide +kernel
theorem dX11_loadNet_49 : decode cX11_loadNet 49 = .ok (.iload_n 2, 1) := by decide +kernel
theorem dX11_loadNet_50 : decode cX11_loadNet 50 = .ok (.if_icmp .ge 46, 3) := by decide +kernel
theorem dX11_loadNet_53 : decode cX11_loadNet 53 = .ok (.iconst 0, 1) := by decide +kernel
theorem dX11_loadNet_54 : decode cX11_loadNet 54 = .ok (.istore 4, 2) := by decide +kernel
theorem dX11_loadNet_56 : decode cX11_loadNet 56 = .ok (.iload 4, 2) := by decide +kernel
theorem dX11_loadNet_58 : decode cX11_loadNet 58 = .ok (.iload_n 2, 1) := by decide +kernel
theorem dX11_loadNet_59 : decode cX11_loadNet 59 = .ok (.if_icmp .ge 31, 3) := by decide +kernel
theorem dX11_loadNet_62 : decode cX11_loadNet 62 = .ok (.aload_n 0, 1) := by decide +kernel
theorem dX11_loadNet_63 : decode cX11_loadNet 63 = .ok (.getfield 64, 3) := by decide +kernel
theorem dX11_loadNet_66 : decode cX11_loadNet 66 = .ok (.bipush 6, 2) := by decide +kernel
theorem dX11_loadNet_68 : decode cX11_loadNet 68 = .ok (.iload_n 3, 1) := by decide +kernel
theorem dX11_loadNet_69 : decode cX11_loadNet 69 = .ok (.imul, 1) := by decide +kernel
theorem dX11_loadNet_70 : decode cX11_loadNet 70 = .ok (.iload 4, 2) := by decide +kernel
theorem dX11_loadNet_72 : decode cX11_loadNet 72 = .ok (.iadd, 1) := by decide +kernel
theorem dX11_loadNet_73 : decode cX11_loadNet 73 = .ok (.iload_n 1, 1) := by decide +kernel
theorem dX11_loadNet_74 : decode cX11_loadNet 74 = .ok (.iload_n 2, 1) := by decide +kernel
theorem dX11_loadNet_75 : decode cX11_loadNet 75 = .ok (.iload_n 3, 1) := by decide +kernel
theorem dX11_loadNet_76 : decode cX11_loadNet 76 = .ok (.imul, 1) := by decide +kernel
theorem dX11_loadNet_77 : decode cX11_loadNet 77 = .ok (.iload 4, 2) := by decide +kernel
theorem dX11_loadNet_79 : decode cX11_loadNet 79 = .ok (.iadd, 1) := by decide +kernel
theorem dX11_loadNet_80 : decode cX11_loadNet 80 = .ok (.ishr, 1) := by decide +kernel
theorem dX11_loadNet_81 : decode cX11_loadNet 81 = .ok (.iconst 1, 1) := by decide +kernel
theorem dX11_loadNet_82 : decode cX11_loadNet 82 = .ok (.iand, 1) := by decide +kernel
theorem dX11_loadNet_83 : decode cX11_loadNet 83 = .ok (.iastore, 1) := by decide +kernel
theorem dX11_loadNet_84 : decode cX11_loadNet 84 = .ok (.iinc 4 1, 3) := by decide +kernel
theorem dX11_loadNet_87 : decode cX11_loadNet 87 = .ok (.goto (-31), 3) := by decide +kernel
theorem dX11_loadNet_90 : decode cX11_loadNet 90 = .ok (.iinc 3 1, 3) := by decide +kernel
theorem dX11_loadNet_93 : decode cX11_loadNet 93 = .ok (.goto (-45), 3) := by decide +kernel
theorem dX11_loadNet_96 : decode cX11_loadNet 96 = .ok (.aload_n 0, 1) := by decide +kernel
theorem dX11_loadNet_97 : decode cX11_loadNet 97 = .ok (.invokevirtual 246, 3) := by decide +kernel
theorem dX11_loadNet_100 : decode cX11_loadNet 100 = .ok (.return_, 1) := by decide +kernel
theorem dX11_mostPairs_0 : decode cX11_mostPairs 0 = .ok (.iconst 1, 1) := by decide +kernel
theorem dX11_mostPairs_1 : decode cX11_mostPairs 1 = .ok (.istore_n 2, 1) := by decide +kernel
theorem dX11_mostPairs_2 : decode cX11_mostPairs 2 = .ok (.iconst 0, 1) := by decide +kernel
theorem dX11_mostPairs_3 : decode cX11_mostPairs 3 = .ok (.istore_n 3, 1) := by decide +kernel
theorem dX11_mostPairs_4 : decode cX11_mostPairs 4 = .ok (.iload_n 3, 1) := by decide +kernel
theorem dX11_mostPairs_5 : decode cX11_mostPairs 5 = .ok (.iload_n 1, 1) := by decide +kernel
theorem dX11_mostPairs_6 : decode cX11_mostPairs 6 = .ok (.if_icmp .ge 15, 3) := by decide +kernel
theorem dX11_mostPairs_9 : decode cX11_mostPairs 9 = .ok (.iload_n 2, 1) := by decide +kernel
theorem dX11_mostPairs_10 : decode cX11_mostPairs 10 = .ok (.iload_n 1, 1) := by decide +kernel
theorem dX11_mostPairs_11 : decode cX11_mostPairs 11 = .ok (.iconst 1, 1) := by decide +kernel
theorem dX11_mostPairs_12 : decode cX11_mostPairs 12 = .ok (.iadd, 1) := by decide +kernel
theorem dX11_mostPairs_13 : decode cX11_mostPairs 13 = .ok (.imul, 1) := by decide +kernel
theorem dX11_mostPairs_14 : decode cX11_mostPairs 14 = .ok (.istore_n 2, 1) := by decide +kernel
theorem dX11_mostPairs_15 : decode cX11_mostPairs 15 = .ok (.iinc 3 1, 3) := by decide +kernel
theorem dX11_mostPairs_18 : decode cX11_mostPairs 18 = .ok (.goto (-14), 3) := by decide +kernel
theorem dX11_mostPairs_21 : decode cX11_mostPairs 21 = .ok (.iconst 0, 1) := by decide +kernel
theorem dX11_mostPairs_22 : decode cX11_mostPairs 22 = .ok (.istore_n 3, 1) := by decide +kernel
theorem dX11_mostPairs_23 : decode cX11_mostPairs 23 = .ok (.iconst 0, 1) := by decide +kernel
theorem dX11_mostPairs_24 : decode cX11_mostPairs 24 = .ok (.istore 4, 2) := by decide +kernel
theorem dX11_mostPairs_26 : decode cX11_mostPairs 26 = .ok (.iload 4, 2) := by decide +kernel
theorem dX11_mostPairs_28 : decode cX11_mostPairs 28 = .ok (.iload_n 2, 1) := by decide +kernel
theorem dX11_mostPairs_29 : decode cX11_mostPairs 29 = .ok (.if_icmp .ge 128, 3) := by decide +kernel
theorem dX11_mostPairs_32 : decode cX11_mostPairs 32 = .ok (.iload 4, 2) := by decide +kernel
theorem dX11_mostPairs_34 : decode cX11_mostPairs 34 = .ok (.istore 5, 2) := by decide +kernel
theorem dX11_mostPairs_36 : decode cX11_mostPairs 36 = .ok (.iconst 0, 1) := by decide +kernel
theorem dX11_mostPairs_37 : decode cX11_mostPairs 37 = .ok (.istore 6, 2) := by decide +kernel
theorem dX11_mostPairs_39 : decode cX11_mostPairs 39 = .ok (.iconst 0, 1) := by decide +kernel
theorem dX11_mostPairs_40 : decode cX11_mostPairs 40 = .ok (.istore 7, 2) := by decide +kernel
theorem dX11_mostPairs_42 : decode cX11_mostPairs 42 = .ok (.iconst 1, 1) := by decide +kernel
theorem dX11_mostPairs_43 : decode cX11_mostPairs 43 = .ok (.istore 8, 2) := by decide +kernel
theorem dX11_mostPairs_45 : decode cX11_mostPairs 45 = .ok (.iconst 0, 1) := by decide +kernel
theorem dX11_mostPairs_46 : decode cX11_mostPairs 46 = .ok (.istore 9, 2) := by decide +kernel
theorem dX11_mostPairs_48 : decode cX11_mostPairs 48 = .ok (.iload 9, 2) := by decide +kernel
theorem dX11_mostPairs_50 : decode cX11_mostPairs 50 = .ok (.iload_n 1, 1) := by decide +kernel
theorem dX11_mostPairs_51 : decode cX11_mostPairs 51 = .ok (.if_icmp .ge 82, 3) := by decide +kernel
theorem dX11_mostPairs_54 : decode cX11_mostPairs 54 = .ok (.iload 5, 2) := by decide +kernel
theorem dX11_mostPairs_56 : decode cX11_mostPairs 56 = .ok (.iload_n 1, 1) := by decide +kernel
theorem dX11_mostPairs_57 : decode cX11_mostPairs 57 = .ok (.iconst 1, 1) := by decide +kernel
theorem dX11_mostPairs_58 : decode cX11_mostPairs 58 = .ok (.iadd, 1) := by decide +kernel
theorem dX11_mostPairs_59 : decode cX11_mostPairs 59 = .ok (.irem, 1) := by decide +kernel
theorem dX11_mostPairs_60 : decode cX11_mostPairs 60 = .ok (.istore 10, 2) := by decide +kernel
theorem dX11_mostPairs_62 : decode cX11_mostPairs 62 = .ok (.iload 5, 2) := by decide +kernel
theorem dX11_mostPairs_64 : decode cX11_mostPairs 64 = .ok (.iload_n 1, 1) := by decide +kernel
theorem dX11_mostPairs_65 : decode cX11_mostPairs 65 = .ok (.iconst 1, 1) := by decide +kernel
theorem dX11_mostPairs_66 : decode cX11_mostPairs 66 = .ok (.iadd, 1) := by decide +kernel
theorem dX11_mostPairs_67 : decode cX11_mostPairs 67 = .ok (.idiv, 1) := by decide +kernel
theorem dX11_mostPairs_68 : decode cX11_mostPairs 68 = .ok (.istore 5, 2) := by decide +kernel
theorem dX11_mostPairs_70 : decode cX11_mostPairs 70 = .ok (.iload 10, 2) := by decide +kernel
theorem dX11_mostPairs_72 : decode cX11_mostPairs 72 = .ok (.iload_n 1, 1) := by decide +kernel
theorem dX11_mostPairs_73 : decode cX11_mostPairs 73 = .ok (.if_icmp .ge 54, 3) := by decide +kernel
theorem dX11_mostPairs_76 : decode cX11_mostPairs 76 = .ok (.iload 8, 2) := by decide +kernel
theorem dX11_mostPairs_78 : decode cX11_mostPairs 78 = .ok (.ifCond .eq 34, 3) := by decide +kernel
theorem dX11_mostPairs_81 : decode cX11_mostPairs 81 = .ok (.iload 6, 2) := by decide +kernel
theorem dX11_mostPairs_83 : decode cX11_mostPairs 83 = .ok (.iload 10, 2) := by decide +kernel
theorem dX11_mostPairs_85 : decode cX11_mostPairs 85 = .ok (.ishr, 1) := by decide +kernel
theorem dX11_mostPairs_86 : decode cX11_mostPairs 86 = .ok (.iconst 1, 1) := by decide +kernel
theorem dX11_mostPairs_87 : decode cX11_mostPairs 87 = .ok (.iand, 1) := by decide +kernel
theorem dX11_mostPairs_88 : decode cX11_mostPairs 88 = .ok (.ifCond .ne 24, 3) := by decide +kernel
theorem dX11_mostPairs_91 : decode cX11_mostPairs 91 = .ok (.aload_n 0, 1) := by decide +kernel
theorem dX11_mostPairs_92 : decode cX11_mostPairs 92 = .ok (.getfield 64, 3) := by decide +kernel
theorem dX11_mostPairs_95 : decode cX11_mostPairs 95 = .ok (.bipush 6, 2) := by decide +kernel
theorem dX11_mostPairs_97 : decode cX11_mostPairs 97 = .ok (.iload 9, 2) := by decide +kernel
theorem dX11_mostPairs_99 : decode cX11_mostPairs 99 = .ok (.imul, 1) := by decide +kernel
theorem dX11_mostPairs_100 : decode cX11_mostPairs 100 = .ok (.iload 10, 2) := by decide +kernel
theorem dX11_mostPairs_102 : decode cX11_mostPairs 102 = .ok (.iadd, 1) := by decide +kernel
theorem dX11_mostPairs_103 : decode cX11_mostPairs 103 = .ok (.iaload, 1) := by decide +kernel
theorem dX11_mostPairs_104 : decode cX11_mostPairs 104 = .ok (.iconst 1, 1) := by decide +kernel
theorem dX11_mostPairs_105 : decode cX11_mostPairs 105 = .ok (.if_icmp .ne 7, 3) := by decide +kernel
theorem dX11_mostPairs_108 : decode cX11_mostPairs 108 = .ok (.iconst 1, 1) := by decide +kernel
theorem dX11_mostPairs_109 : decode cX11_mostPairs 109 = .ok (.goto 4, 3) := by decide +kernel
theorem dX11_mostPairs_112 : decode cX11_mostPairs 112 = .ok (.iconst 0, 1) := by decide +kernel
theorem dX11_mostPairs_113 : decode cX11_mostPairs 113 = .ok (.istore 8, 2) := by decide +kernel
theorem dX11_mostPairs_115 : decode cX11_mostPairs 115 = .ok (.iload 6, 2) := by decide +kernel
theorem dX11_mostPairs_117 : decode cX11_mostPairs 117 = .ok (.iconst 1, 1) := by decide +kernel
theorem dX11_mostPairs_118 : decode cX11_mostPairs 118 = .ok (.iload 10, 2) := by decide +kernel
theorem dX11_mostPairs_120 : decode cX11_mostPairs 120 = .ok (.ishl, 1) := by decide +kernel
theorem dX11_mostPairs_121 : decode cX11_mostPairs 121 = .ok (.ior, 1) := by decide +kernel
theorem dX11_mostPairs_122 : decode cX11_mostPairs 122 = .ok (.istore 6, 2) := by decide +kernel
theorem dX11_mostPairs_124 : decode cX11_mostPairs 124 = .ok (.iinc 7 1, 3) := by decide +kernel
theorem dX11_mostPairs_127 : decode cX11_mostPairs 127 = .ok (.iinc 9 1, 3) := by decide +kernel
theorem dX11_mostPairs_130 : decode cX11_mostPairs 130 = .ok (.goto (-82), 3) := by decide +kernel
theorem dX11_mostPairs_133 : decode cX11_mostPairs 133 = .ok (.iload 8, 2) := by decide +kernel
theorem dX11_mostPairs_135 : decode cX11_mostPairs 135 = .ok (.ifCond .eq 14, 3) := by decide +kernel
theorem dX11_mostPairs_138 : decode cX11_mostPairs 138 = .ok (.iload 7, 2) := by decide +kernel
theorem dX11_mostPairs_140 : decode cX11_mostPairs 140 = .ok (.iload_n 3, 1) := by decide +kernel
theorem dX11_mostPairs_141 : decode cX11_mostPairs 141 = .ok (.if_icmp .le 8, 3) := by decide +kernel
theorem dX11_mostPairs_144 : decode cX11_mostPairs 144 = .ok (.iload 7, 2) := by decide +kernel
theorem dX11_mostPairs_146 : decode cX11_mostPairs 146 = .ok (.goto 4, 3) := by decide +kernel
theorem dX11_mostPairs_149 : decode cX11_mostPairs 149 = .ok (.iload_n 3, 1) := by decide +kernel
theorem dX11_mostPairs_150 : decode cX11_mostPairs 150 = .ok (.istore_n 3, 1) := by decide +kernel
theorem dX11_mostPairs_151 : decode cX11_mostPairs 151 = .ok (.iinc 4 1, 3) := by decide +kernel
theorem dX11_mostPairs_154 : decode cX11_mostPairs 154 = .ok (.goto (-128), 3) := by decide +kernel
theorem dX11_mostPairs_157 : decode cX11_mostPairs 157 = .ok (.iload_n 3, 1) := by decide +kernel
theorem dX11_mostPairs_158 : decode cX11_mostPairs 158 = .ok (.ireturn, 1) := by decide +kernel
theorem dX11_worst_0 : decode cX11_worst 0 = .ok (.aload_n 0, 1) := by decide +kernel
theorem dX11_worst_1 : decode cX11_worst 1 = .ok (.iload_n 1, 1) := by decide +kernel
theorem dX11_worst_2 : decode cX11_worst 2 = .ok (.invokevirtual 229, 3) := by decide +kernel
theorem dX11_worst_5 : decode cX11_worst 5 = .ok (.ifCond .eq 27, 3) := by decide +kernel
theorem dX11_worst_8 : decode cX11_worst 8 = .ok (.iload_n 2, 1) := by decide +kernel
theorem dX11_worst_9 : decode cX11_worst 9 = .ok (.i2l, 1) := by decide +kernel
theorem dX11_worst_10 : decode cX11_worst 10 = .ok (.lconst 1, 1) := by decide +kernel
theorem dX11_worst_11 : decode cX11_worst 11 = .ok (.ldc2_w 133, 3) := by decide +kernel
theorem dX11_worst_14 : decode cX11_worst 14 = .ok (.invokestatic 126, 3) := by decide +kernel
theorem dX11_worst_17 : decode cX11_worst 17 = .ok (.ifCond .eq 15, 3) := by decide +kernel
theorem dX11_worst_20 : decode cX11_worst 20 = .ok (.iload_n 3, 1) := by decide +kernel
theorem dX11_worst_21 : decode cX11_worst 21 = .ok (.i2l, 1) := by decide +kernel
theorem dX11_worst_22 : decode cX11_worst 22 = .ok (.lconst 0, 1) := by decide +kernel
theorem dX11_worst_23 : decode cX11_worst 23 = .ok (.ldc2_w 133, 3) := by decide +kernel
theorem dX11_worst_26 : decode cX11_worst 26 = .ok (.invokestatic 126, 3) := by decide +kernel
theorem dX11_worst_29 : decode cX11_worst 29 = .ok (.ifCond .ne 5, 3) := by decide +kernel
theorem dX11_worst_32 : decode cX11_worst 32 = .ok (.iconst (-1), 1) := by decide +kernel
theorem dX11_worst_33 : decode cX11_worst 33 = .ok (.ireturn, 1) := by decide +kernel
theorem dX11_worst_34 : decode cX11_worst 34 = .ok (.iconst 1, 1) := by decide +kernel
theorem dX11_worst_35 : decode cX11_worst 35 = .ok (.istore 4, 2) := by decide +kernel
theorem dX11_worst_37 : decode cX11_worst 37 = .ok (.iconst 0, 1) := by decide +kernel
theorem dX11_worst_38 : decode cX11_worst 38 = .ok (.istore 5, 2) := by decide +kernel
theorem dX11_worst_40 : decode cX11_worst 40 = .ok (.iconst 0, 1) := by decide +kernel
theorem dX11_worst_41 : decode cX11_worst 41 = .ok (.istore 6, 2) := by decide +kernel
theorem dX11_worst_43 : decode cX11_worst 43 = .ok (.iconst 0, 1) := by decide +kernel
theorem dX11_worst_44 : decode cX11_worst 44 = .ok (.istore 7, 2) := by decide +kernel
theorem dX11_worst_46 : decode cX11_worst 46 = .ok (.iconst 1, 1) := by decide +kernel
theorem dX11_worst_47 : decode cX11_worst 47 = .ok (.istore 8, 2) := by decide +kernel
theorem dX11_worst_49 : decode cX11_worst 49 = .ok (.iload 8, 2) := by decide +kernel
theorem dX11_worst_51 : decode cX11_worst 51 = .ok (.iconst 1, 1) := by decide +kernel
theorem dX11_worst_52 : decode cX11_worst 52 = .ok (.iload_n 2, 1) := by decide +kernel
theorem dX11_worst_53 : decode cX11_worst 53 = .ok (.iload_n 2, 1) := by decide +kernel
theorem dX11_worst_54 : decode cX11_worst 54 = .ok (.imul, 1) := by decide +kernel
theorem dX11_worst_55 : decode cX11_worst 55 = .ok (.ishl, 1) := by decide +kernel
theorem dX11_worst_56 : decode cX11_worst 56 = .ok (.if_icmp .ge 81, 3) := by decide +kernel
theorem dX11_worst_59 : decode cX11_worst 59 = .ok (.aload_n 0, 1) := by decide +kernel
theorem dX11_worst_60 : decode cX11_worst 60 = .ok (.iload 8, 2) := by decide +kernel
theorem dX11_worst_62 : decode cX11_worst 62 = .ok (.iload_n 2, 1) := by decide +kernel
theorem dX11_worst_63 : decode cX11_worst 63 = .ok (.invokevirtual 361, 3) := by decide +kernel
theorem dX11_worst_66 : decode cX11_worst 66 = .ok (.aload_n 0, 1) := by decide +kernel
theorem dX11_worst_67 : decode cX11_worst 67 = .ok (.iload_n 2, 1) := by decide +kernel
theorem dX11_worst_68 : decode cX11_worst 68 = .ok (.invokevirtual 364, 3) := by decide +kernel
theorem dX11_worst_71 : decode cX11_worst 71 = .ok (.istore 9, 2) := by decide +kernel
theorem dX11_worst_73 : decode cX11_worst 73 = .ok (.aload_n 0, 1) := by decide +kernel
theorem dX11_worst_74 : decode cX11_worst 74 = .ok (.iload_n 1, 1) := by decide +kernel
theorem dX11_worst_75 : decode cX11_worst 75 = .ok (.invokevirtual 276, 3) := by decide +kernel
theorem dX11_worst_78 : decode cX11_worst 78 = .ok (.aload_n 0, 1) := by decide +kernel
theorem dX11_worst_79 : decode cX11_worst 79 = .ok (.invokevirtual 279, 3) := by decide +kernel
theorem dX11_worst_82 : decode cX11_worst 82 = .ok (.istore 10, 2) := by decide +kernel
theorem dX11_worst_84 : decode cX11_worst 84 = .ok (.iload 7, 2) := by decide +kernel
theorem dX11_worst_86 : decode cX11_worst 86 = .ok (.iload 10, 2) := by decide +kernel
theorem dX11_worst_88 : decode cX11_worst 88 = .ok (.iload 9, 2) := by decide +kernel
theorem dX11_worst_90 : decode cX11_worst 90 = .ok (.if_icmp .ne 7, 3) := by decide +kernel
theorem dX11_worst_93 : decode cX11_worst 93 = .ok (.iconst 1, 1) := by decide +kernel
theorem dX11_worst_94 : decode cX11_worst 94 = .ok (.goto 4, 3) := by decide +kernel
theorem dX11_worst_97 : decode cX11_worst 97 = .ok (.iconst 0, 1) := by decide +kernel
theorem dX11_worst_98 : decode cX11_worst 98 = .ok (.iadd, 1) := by decide +kernel
theorem dX11_worst_99 : decode cX11_worst 99 = .ok (.istore 7, 2) := by decide +kernel
theorem dX11_worst_101 : decode cX11_worst 101 = .ok (.iload 5, 2) := by decide +kernel
theorem dX11_worst_103 : decode cX11_worst 103 = .ok (.ifCond .eq 16, 3) := by decide +kernel
theorem dX11_worst_106 : decode cX11_worst 106 = .ok (.iload 10, 2) := by decide +kernel
theorem dX11_worst_108 : decode cX11_worst 108 = .ok (.iload 5, 2) := by decide +kernel
theorem dX11_worst_110 : decode cX11_worst 110 = .ok (.imul, 1) := by decide +kernel
theorem dX11_worst_111 : decode cX11_worst 111 = .ok (.iload 4, 2) := by decide +kernel
theorem dX11_worst_113 : decode cX11_worst 113 = .ok (.iload 9, 2) := by decide +kernel
theorem dX11_worst_115 : decode cX11_worst 115 = .ok (.imul, 1) := by decide +kernel
theorem dX11_worst_116 : decode cX11_worst 116 = .ok (.if_icmp .ge 15, 3) := by decide +kernel
theorem dX11_worst_119 : decode cX11_worst 119 = .ok (.iload 10, 2) := by decide +kernel
theorem dX11_worst_121 : decode cX11_worst 121 = .ok (.istore 4, 2) := by decide +kernel
theorem dX11_worst_123 : decode cX11_worst 123 = .ok (.iload 9, 2) := by decide +kernel
theorem dX11_worst_125 : decode cX11_worst 125 = .ok (.istore 5, 2) := by decide +kernel
theorem dX11_worst_127 : decode cX11_worst 127 = .ok (.iload 8, 2) := by decide +kernel
theorem dX11_worst_129 : decode cX11_worst 129 = .ok (.istore 6, 2) := by decide +kernel
theorem dX11_worst_131 : decode cX11_worst 131 = .ok (.iinc 8 1, 3) := by decide +kernel
theorem dX11_worst_134 : decode cX11_worst 134 = .ok (.goto (-85), 3) := by decide +kernel
theorem dX11_worst_137 : decode cX11_worst 137 = .ok (.iload_n 3, 1) := by decide +kernel
theorem dX11_worst_138 : decode cX11_worst 138 = .ok (.iconst 2, 1) := by decide +kernel
theorem dX11_worst_139 : decode cX11_worst 139 = .ok (.if_icmp .ne 8, 3) := by decide +kernel
theorem dX11_worst_142 : decode cX11_worst 142 = .ok (.iload 6, 2) := by decide +kernel
theorem dX11_worst_144 : decode cX11_worst 144 = .ok (.goto 24, 3) := by decide +kernel
theorem dX11_worst_147 : decode cX11_worst 147 = .ok (.iload_n 3, 1) := by decide +kernel
theorem dX11_worst_148 : decode cX11_worst 148 = .ok (.iconst 3, 1) := by decide +kernel
theorem dX11_worst_149 : decode cX11_worst 149 = .ok (.if_icmp .ne 8, 3) := by decide +kernel
theorem dX11_worst_152 : decode cX11_worst 152 = .ok (.iload 7, 2) := by decide +kernel
theorem dX11_worst_154 : decode cX11_worst 154 = .ok (.goto 14, 3) := by decide +kernel
theorem dX11_worst_157 : decode cX11_worst 157 = .ok (.iload 4, 2) := by decide +kernel
theorem dX11_worst_159 : decode cX11_worst 159 = .ok (.i2l, 1) := by decide +kernel
theorem dX11_worst_160 : decode cX11_worst 160 = .ok (.iload 5, 2) := by decide +kernel
theorem dX11_worst_162 : decode cX11_worst 162 = .ok (.i2l, 1) := by decide +kernel
theorem dX11_worst_163 : decode cX11_worst 163 = .ok (.iload_n 3, 1) := by decide +kernel
theorem dX11_worst_164 : decode cX11_worst 164 = .ok (.invokestatic 347, 3) := by decide +kernel
theorem dX11_worst_167 : decode cX11_worst 167 = .ok (.l2i, 1) := by decide +kernel
theorem dX11_worst_168 : decode cX11_worst 168 = .ok (.ireturn, 1) := by decide +kernel
theorem dX11_came_0 : decode cX11_came 0 = .ok (.iconst 0, 1) := by decide +kernel
theorem dX11_came_1 : decode cX11_came 1 = .ok (.istore_n 1, 1) := by decide +kernel
theorem dX11_came_2 : decode cX11_came 2 = .ok (.iconst 0, 1) := by decide +kernel
theorem dX11_came_3 : decode cX11_came 3 = .ok (.istore_n 2, 1) := by decide +kernel
theorem dX11_came_4 : decode cX11_came 4 = .ok (.iload_n 2, 1) := by decide +kernel
theorem dX11_came_5 : decode cX11_came 5 = .ok (.aload_n 0, 1) := by decide +kernel
theorem dX11_came_6 : decode cX11_came 6 = .ok (.getfield 130, 3) := by decide +kernel
theorem dX11_came_9 : decode cX11_came 9 = .ok (.if_icmp .ge 18, 3) := by decide +kernel
theorem dX11_came_12 : decode cX11_came 12 = .ok (.iload_n 1, 1) := by decide +kernel
theorem dX11_came_13 : decode cX11_came 13 = .ok (.aload_n 0, 1) := by decide +kernel
theorem dX11_came_14 : decode cX11_came 14 = .ok (.getfield 98, 3) := by decide +kernel
theorem dX11_came_17 : decode cX11_came 17 = .ok (.iload_n 2, 1) := by decide +kernel
theorem dX11_came_18 : decode cX11_came 18 = .ok (.iaload, 1) := by decide +kernel
theorem dX11_came_19 : decode cX11_came 19 = .ok (.iadd, 1) := by decide +kernel
theorem dX11_came_20 : decode cX11_came 20 = .ok (.istore_n 1, 1) := by decide +kernel
theorem dX11_came_21 : decode cX11_came 21 = .ok (.iinc 2 1, 3) := by decide +kernel
theorem dX11_came_24 : decode cX11_came 24 = .ok (.goto (-20), 3) := by decide +kernel
theorem dX11_came_27 : decode cX11_came 27 = .ok (.iload_n 1, 1) := by decide +kernel
theorem dX11_came_28 : decode cX11_came 28 = .ok (.ireturn, 1) := by decide +kernel
theorem dX11_record_0 : decode cX11_record 0 = .ok (.bipush 40, 2) := by decide +kernel
theorem dX11_record_2 : decode cX11_record 2 = .ok (.aload_n 0, 1) := by decide +kernel
theorem dX11_record_3 : decode cX11_record 3 = .ok (.getfield 367, 3) := by decide +kernel
theorem dX11_record_6 : decode cX11_record 6 = .ok (.imul, 1) := by decide +kernel
theorem dX11_record_7 : decode cX11_record 7 = .ok (.istore_n 1, 1) := by decide +kernel
theorem dX11_record_8 : decode cX11_record 8 = .ok (.iconst 0, 1) := by decide +kernel
theorem dX11_record_9 : decode cX11_record 9 = .ok (.istore_n 2, 1) := by decide +kernel
theorem dX11_record_10 : decode cX11_record 10 = .ok (.iload_n 2, 1) := by decide +kernel
theorem dX11_record_11 : decode cX11_record 11 = .ok (.bipush 9, 2) := by decide +kernel
theorem dX11_record_13 : decode cX11_record 13 = .ok (.if_icmp .ge 57, 3) := by decide +kernel
theorem dX11_record_16 : decode cX11_record 16 = .ok (.aload_n 0, 1) := by decide +kernel
theorem dX11_record_17 : decode cX11_record 17 = .ok (.getfield 110, 3) := by decide +kernel
theorem dX11_record_20 : decode cX11_record 20 = .ok (.iload_n 1, 1) := by decide +kernel
theorem dX11_record_21 : decode cX11_record 21 = .ok (.iload_n 2, 1) := by decide +kernel
theorem dX11_record_22 : decode cX11_record 22 = .ok (.iadd, 1) := by decide +kernel
theorem dX11_record_23 : decode cX11_record 23 = .ok (.aload_n 0, 1) := by decide +kernel
theorem dX11_record_24 : decode cX11_record 24 = .ok (.getfield 98, 3) := by decide +kernel
theorem dX11_record_27 : decode cX11_record 27 = .ok (.iload_n 2, 1) := by decide +kernel
theorem dX11_record_28 : decode cX11_record 28 = .ok (.iaload, 1) := by decide +kernel
theorem dX11_record_29 : decode cX11_record 29 = .ok (.iastore, 1) := by decide +kernel
theorem dX11_record_30 : decode cX11_record 30 = .ok (.aload_n 0, 1) := by decide +kernel
theorem dX11_record_31 : decode cX11_record 31 = .ok (.getfield 110, 3) := by decide +kernel
theorem dX11_record_34 : decode cX11_record 34 = .ok (.iload_n 1, 1) := by decide +kernel
theorem dX11_record_35 : decode cX11_record 35 = .ok (.bipush 9, 2) := by decide +kernel
theorem dX11_record_37 : decode cX11_record 37 = .ok (.iadd, 1) := by decide +kernel
theorem dX11_record_38 : decode cX11_record 38 = .ok (.iload_n 2, 1) := by decide +kernel
theorem dX11_record_39 : decode cX11_record 39 = .ok (.iadd, 1) := by decide +kernel
theorem dX11_record_40 : decode cX11_record 40 = .ok (.aload_n 0, 1) := by decide +kernel
theorem dX11_record_41 : decode cX11_record 41 = .ok (.getfield 101, 3) := by decide +kernel
theorem dX11_record_44 : decode cX11_record 44 = .ok (.iload_n 2, 1) := by decide +kernel
theorem dX11_record_45 : decode cX11_record 45 = .ok (.iaload, 1) := by decide +kernel
theorem dX11_record_46 : decode cX11_record 46 = .ok (.iastore, 1) := by decide +kernel
theorem dX11_record_47 : decode cX11_record 47 = .ok (.aload_n 0, 1) := by decide +kernel
theorem dX11_record_48 : decode cX11_record 48 = .ok (.getfield 110, 3) := by decide +kernel
theorem dX11_record_51 : decode cX11_record 51 = .ok (.iload_n 1, 1) := by decide +kernel
theorem dX11_record_52 : decode cX11_record 52 = .ok (.bipush 18, 2) := by decide +kernel
theorem dX11_record_54 : decode cX11_record 54 = .ok (.iadd, 1) := by decide +kernel
theorem dX11_record_55 : decode cX11_record 55 = .ok (.iload_n 2, 1) := by decide +kernel
theorem dX11_record_56 : decode cX11_record 56 = .ok (.iadd, 1) := by decide +kernel
theorem dX11_record_57 : decode cX11_record 57 = .ok (.aload_n 0, 1) := by decide +kernel
theorem dX11_record_58 : decode cX11_record 58 = .ok (.getfield 104, 3) := by decide +kernel
theorem dX11_record_61 : decode cX11_record 61 = .ok (.iload_n 2, 1) := by decide +kernel
theorem dX11_record_62 : decode cX11_record 62 = .ok (.iaload, 1) := by decide +kernel
theorem dX11_record_63 : decode cX11_record 63 = .ok (.iastore, 1) := by decide +kernel
theorem dX11_record_64 : decode cX11_record 64 = .ok (.iinc 2 1, 3) := by decide +kernel
theorem dX11_record_67 : decode cX11_record 67 = .ok (.goto (-57), 3) := by decide +kernel
theorem dX11_record_70 : decode cX11_record 70 = .ok (.iconst 0, 1) := by decide +kernel
theorem dX11_record_71 : decode cX11_record 71 = .ok (.istore_n 2, 1) := by decide +kernel
theorem dX11_record_72 : decode cX11_record 72 = .ok (.iload_n 2, 1) := by decide +kernel
theorem dX11_record_73 : decode cX11_record 73 = .ok (.bipush 6, 2) := by decide +kernel
theorem dX11_record_75 : decode cX11_record 75 = .ok (.if_icmp .ge 26, 3) := by decide +kernel
theorem dX11_record_78 : decode cX11_record 78 = .ok (.aload_n 0, 1) := by decide +kernel
theorem dX11_record_79 : decode cX11_record 79 = .ok (.getfield 110, 3) := by decide +kernel
theorem dX11_record_82 : decode cX11_record 82 = .ok (.iload_n 1, 1) := by decide +kernel
theorem dX11_record_83 : decode cX11_record 83 = .ok (.bipush 27, 2) := by decide +kernel
theorem dX11_record_85 : decode cX11_record 85 = .ok (.iadd, 1) := by decide +kernel
theorem dX11_record_86 : decode cX11_record 86 = .ok (.iload_n 2, 1) := by decide +kernel
theorem dX11_record_87 : decode cX11_record 87 = .ok (.iadd, 1) := by decide +kernel
theorem dX11_record_88 : decode cX11_record 88 = .ok (.aload_n 0, 1) := by decide +kernel
theorem dX11_record_89 : decode cX11_record 89 = .ok (.getfield 107, 3) := by decide +kernel
theorem dX11_record_92 : decode cX11_record 92 = .ok (.iload_n 2, 1) := by decide +kernel
theorem dX11_record_93 : decode cX11_record 93 = .ok (.iaload, 1) := by decide +kernel
theorem dX11_record_94 : decode cX11_record 94 = .ok (.iastore, 1) := by decide +kernel
theorem dX11_record_95 : decode cX11_record 95 = .ok (.iinc 2 1, 3) := by decide +kernel
theorem dX11_record_98 : decode cX11_record 98 = .ok (.goto (-26), 3) := by decide +kernel
theorem dX11_record_101 : decode cX11_record 101 = .ok (.aload_n 0, 1) := by decide +kernel
theorem dX11_record_102 : decode cX11_record 102 = .ok (.getfield 110, 3) := by decide +kernel
theorem dX11_record_105 : decode cX11_record 105 = .ok (.iload_n 1, 1) := by decide +kernel
theorem dX11_record_106 : decode cX11_record 106 = .ok (.bipush 33, 2) := by decide +kernel
theorem dX11_record_108 : decode cX11_record 108 = .ok (.iadd, 1) := by decide +kernel
theorem dX11_record_109 : decode cX11_record 109 = .ok (.aload_n 0, 1) := by decide +kernel
theorem dX11_record_110 : decode cX11_record 110 = .ok (.getfield 370, 3) := by decide +kernel
theorem dX11_record_113 : decode cX11_record 113 = .ok (.iastore, 1) := by decide +kernel
theorem dX11_record_114 : decode cX11_record 114 = .ok (.aload_n 0, 1) := by decide +kernel
theorem dX11_record_115 : decode cX11_record 115 = .ok (.getfield 110, 3) := by decide +kernel
theorem dX11_record_118 : decode cX11_record 118 = .ok (.iload_n 1, 1) := by decide +kernel
theorem dX11_record_119 : decode cX11_record 119 = .ok (.bipush 34, 2) := by decide +kernel
theorem dX11_record_121 : decode cX11_record 121 = .ok (.iadd, 1) := by decide +kernel
theorem dX11_record_122 : decode cX11_record 122 = .ok (.aload_n 0, 1) := by decide +kernel
theorem dX11_record_123 : decode cX11_record 123 = .ok (.getfield 130, 3) := by decide +kernel
theorem dX11_record_126 : decode cX11_record 126 = .ok (.iastore, 1) := by decide +kernel
theorem dX11_record_127 : decode cX11_record 127 = .ok (.aload_n 0, 1) := by decide +kernel
theorem dX11_record_128 : decode cX11_record 128 = .ok (.dup, 1) := by decide +kernel
theorem dX11_record_129 : decode cX11_record 129 = .ok (.getfield 367, 3) := by decide +kernel
theorem dX11_record_132 : decode cX11_record 132 = .ok (.iconst 1, 1) := by decide +kernel
theorem dX11_record_133 : decode cX11_record 133 = .ok (.iadd, 1) := by decide +kernel
theorem dX11_record_134 : decode cX11_record 134 = .ok (.putfield 367, 3) := by decide +kernel
theorem dX11_record_137 : decode cX11_record 137 = .ok (.return_, 1) := by decide +kernel
theorem dX11_loadMarket_0 : decode cX11_loadMarket 0 = .ok (.aload_n 0, 1) := by decide +kernel
theorem dX11_loadMarket_1 : decode cX11_loadMarket 1 = .ok (.invokevirtual 273, 3) := by decide +kernel
theorem dX11_loadMarket_4 : decode cX11_loadMarket 4 = .ok (.iconst 0, 1) := by decide +kernel
theorem dX11_loadMarket_5 : decode cX11_loadMarket 5 = .ok (.istore_n 1, 1) := by decide +kernel
theorem dX11_loadMarket_6 : decode cX11_loadMarket 6 = .ok (.iload_n 1, 1) := by decide +kernel
theorem dX11_loadMarket_7 : decode cX11_loadMarket 7 = .ok (.aload_n 0, 1) := by decide +kernel
theorem dX11_loadMarket_8 : decode cX11_loadMarket 8 = .ok (.getfield 130, 3) := by decide +kernel
theorem dX11_loadMarket_11 : decode cX11_loadMarket 11 = .ok (.if_icmp .ge 33, 3) := by decide +kernel
theorem dX11_loadMarket_14 : decode cX11_loadMarket 14 = .ok (.aload_n 0, 1) := by decide +kernel
theorem dX11_loadMarket_15 : decode cX11_loadMarket 15 = .ok (.getfield 70, 3) := by decide +kernel
theorem dX11_loadMarket_18 : decode cX11_loadMarket 18 = .ok (.iload_n 1, 1) := by decide +kernel
theorem dX11_loadMarket_19 : decode cX11_loadMarket 19 = .ok (.aload_n 0, 1) := by decide +kernel
theorem dX11_loadMarket_20 : decode cX11_loadMarket 20 = .ok (.getfield 101, 3) := by decide +kernel
theorem dX11_loadMarket_23 : decode cX11_loadMarket 23 = .ok (.iload_n 1, 1) := by decide +kernel
theorem dX11_loadMarket_24 : decode cX11_loadMarket 24 = .ok (.iaload, 1) := by decide +kernel
theorem dX11_loadMarket_25 : decode cX11_loadMarket 25 = .ok (.iastore, 1) := by decide +kernel
theorem dX11_loadMarket_26 : decode cX11_loadMarket 26 = .ok (.aload_n 0, 1) := by decide +kernel
theorem dX11_loadMarket_27 : decode cX11_loadMarket 27 = .ok (.getfield 73, 3) := by decide +kernel
theorem dX11_loadMarket_30 : decode cX11_loadMarket 30 = .ok (.iload_n 1, 1) := by decide +kernel
theorem dX11_loadMarket_31 : decode cX11_loadMarket 31 = .ok (.aload_n 0, 1) := by decide +kernel
theorem dX11_loadMarket_32 : decode cX11_loadMarket 32 = .ok (.getfield 104, 3) := by decide +kernel
theorem dX11_loadMarket_35 : decode cX11_loadMarket 35 = .ok (.iload_n 1, 1) := by decide +kernel
theorem dX11_loadMarket_36 : decode cX11_loadMarket 36 = .ok (.iaload, 1) := by decide +kernel
theorem dX11_loadMarket_37 : decode cX11_loadMarket 37 = .ok (.iastore, 1) := by decide +kernel
theorem dX11_loadMarket_38 : decode cX11_loadMarket 38 = .ok (.iinc 1 1, 3) := by decide +kernel
theorem dX11_loadMarket_41 : decode cX11_loadMarket 41 = .ok (.goto (-35), 3) := by decide +kernel
theorem dX11_loadMarket_44 : decode cX11_loadMarket 44 = .ok (.iconst 0, 1) := by decide +kernel
theorem dX11_loadMarket_45 : decode cX11_loadMarket 45 = .ok (.istore_n 1, 1) := by decide +kernel
theorem dX11_loadMarket_46 : decode cX11_loadMarket 46 = .ok (.iload_n 1, 1) := by decide +kernel
theorem dX11_loadMarket_47 : decode cX11_loadMarket 47 = .ok (.aload_n 0, 1) := by decide +kernel
theorem dX11_loadMarket_48 : decode cX11_loadMarket 48 = .ok (.getfield 122, 3) := by decide +kernel
theorem dX11_loadMarket_51 : decode cX11_loadMarket 51 = .ok (.if_icmp .ge 21, 3) := by decide +kernel
theorem dX11_loadMarket_54 : decode cX11_loadMarket 54 = .ok (.aload_n 0, 1) := by decide +kernel
theorem dX11_loadMarket_55 : decode cX11_loadMarket 55 = .ok (.getfield 67, 3) := by decide +kernel
theorem dX11_loadMarket_58 : decode cX11_loadMarket 58 = .ok (.iload_n 1, 1) := by decide +kernel
theorem dX11_loadMarket_59 : decode cX11_loadMarket 59 = .ok (.aload_n 0, 1) := by decide +kernel
theorem dX11_loadMarket_60 : decode cX11_loadMarket 60 = .ok (.getfield 107, 3) := by decide +kernel
theorem dX11_loadMarket_63 : decode cX11_loadMarket 63 = .ok (.iload_n 1, 1) := by decide +kernel
theorem dX11_loadMarket_64 : decode cX11_loadMarket 64 = .ok (.iaload, 1) := by decide +kernel
theorem dX11_loadMarket_65 : decode cX11_loadMarket 65 = .ok (.iastore, 1) := by decide +kernel
theorem dX11_loadMarket_66 : decode cX11_loadMarket 66 = .ok (.iinc 1 1, 3) := by decide +kernel
theorem dX11_loadMarket_69 : decode cX11_loadMarket 69 = .ok (.goto (-23), 3) := by decide +kernel
theorem dX11_loadMarket_72 : decode cX11_loadMarket 72 = .ok (.aload_n 0, 1) := by decide +kernel
theorem dX11_loadMarket_73 : decode cX11_loadMarket 73 = .ok (.aload_n 0, 1) := by decide +kernel
theorem dX11_loadMarket_74 : decode cX11_loadMarket 74 = .ok (.getfield 370, 3) := by decide +kernel
theorem dX11_loadMarket_77 : decode cX11_loadMarket 77 = .ok (.putfield 234, 3) := by decide +kernel
theorem dX11_loadMarket_80 : decode cX11_loadMarket 80 = .ok (.return_, 1) := by decide +kernel
theorem dX11_storeMarket_0 : decode cX11_storeMarket 0 = .ok (.iconst 0, 1) := by decide +kernel
theorem dX11_storeMarket_1 : decode cX11_storeMarket 1 = .ok (.istore_n 1, 1) := by decide +kernel
theorem dX11_storeMarket_2 : decode cX11_storeMarket 2 = .ok (.iload_n 1, 1) := by decide +kernel
theorem dX11_storeMarket_3 : decode cX11_storeMarket 3 = .ok (.aload_n 0, 1) := by decide +kernel
theorem dX11_storeMarket_4 : decode cX11_storeMarket 4 = .ok (.getfield 130, 3) := by decide +kernel
theorem dX11_storeMarket_7 : decode cX11_storeMarket 7 = .ok (.if_icmp .ge 33, 3) := by decide +kernel
theorem dX11_storeMarket_10 : decode cX11_storeMarket 10 = .ok (.aload_n 0, 1) := by decide +kernel
theorem dX11_storeMarket_11 : decode cX11_storeMarket 11 = .ok (.getfield 101, 3) := by decide +kernel
theorem dX11_storeMarket_14 : decode cX11_storeMarket 14 = .ok (.iload_n 1, 1) := by decide +kernel
theorem dX11_storeMarket_15 : decode cX11_storeMarket 15 = .ok (.aload_n 0, 1) := by decide +kernel
theorem dX11_storeMarket_16 : decode cX11_storeMarket 16 = .ok (.getfield 70, 3) := by decide +kernel
theorem dX11_storeMarket_19 : decode cX11_storeMarket 19 = .ok (.iload_n 1, 1) := by decide +kernel
theorem dX11_storeMarket_20 : decode cX11_storeMarket 20 = .ok (.iaload, 1) := by decide +kernel
theorem dX11_storeMarket_21 : decode cX11_storeMarket 21 = .ok (.iastore, 1) := by decide +kernel
theorem dX11_storeMarket_22 : decode cX11_storeMarket 22 = .ok (.aload_n 0, 1) := by decide +kernel
theorem dX11_storeMarket_23 : decode cX11_storeMarket 23 = .ok (.getfield 104, 3) := by decide +kernel
theorem dX11_storeMarket_26 : decode cX11_storeMarket 26 = .ok (.iload_n 1, 1) := by decide +kernel
theorem dX11_storeMarket_27 : decode cX11_storeMarket 27 = .ok (.aload_n 0, 1) := by decide +kernel
theorem dX11_storeMarket_28 : decode cX11_storeMarket 28 = .ok (.getfield 73, 3) := by decide +kernel
theorem dX11_storeMarket_31 : decode cX11_storeMarket 31 = .ok (.iload_n 1, 1) := by decide +kernel
theorem dX11_storeMarket_32 : decode cX11_storeMarket 32 = .ok (.iaload, 1) := by decide +kernel
theorem dX11_storeMarket_33 : decode cX11_storeMarket 33 = .ok (.iastore, 1) := by decide +kernel
theorem dX11_storeMarket_34 : decode cX11_storeMarket 34 = .ok (.iinc 1 1, 3) := by decide +kernel
theorem dX11_storeMarket_37 : decode cX11_storeMarket 37 = .ok (.goto (-35), 3) := by decide +kernel
theorem dX11_storeMarket_40 : decode cX11_storeMarket 40 = .ok (.iconst 0, 1) := by decide +kernel
theorem dX11_storeMarket_41 : decode cX11_storeMarket 41 = .ok (.istore_n 1, 1) := by decide +kernel
theorem dX11_storeMarket_42 : decode cX11_storeMarket 42 = .ok (.iload_n 1, 1) := by decide +kernel
theorem dX11_storeMarket_43 : decode cX11_storeMarket 43 = .ok (.aload_n 0, 1) := by decide +kernel
theorem dX11_storeMarket_44 : decode cX11_storeMarket 44 = .ok (.getfield 122, 3) := by decide +kernel
theorem dX11_storeMarket_47 : decode cX11_storeMarket 47 = .ok (.if_icmp .ge 21, 3) := by decide +kernel
theorem dX11_storeMarket_50 : decode cX11_storeMarket 50 = .ok (.aload_n 0, 1) := by decide +kernel
theorem dX11_storeMarket_51 : decode cX11_storeMarket 51 = .ok (.getfield 107, 3) := by decide +kernel
theorem dX11_storeMarket_54 : decode cX11_storeMarket 54 = .ok (.iload_n 1, 1) := by decide +kernel
theorem dX11_storeMarket_55 : decode cX11_storeMarket 55 = .ok (.aload_n 0, 1) := by decide +kernel
theorem dX11_storeMarket_56 : decode cX11_storeMarket 56 = .ok (.getfield 67, 3) := by decide +kernel
theorem dX11_storeMarket_59 : decode cX11_storeMarket 59 = .ok (.iload_n 1, 1) := by decide +kernel
theorem dX11_storeMarket_60 : decode cX11_storeMarket 60 = .ok (.iaload, 1) := by decide +kernel
theorem dX11_storeMarket_61 : decode cX11_storeMarket 61 = .ok (.iastore, 1) := by decide +kernel
theorem dX11_storeMarket_62 : decode cX11_storeMarket 62 = .ok (.iinc 1 1, 3) := by decide +kernel
theorem dX11_storeMarket_65 : decode cX11_storeMarket 65 = .ok (.goto (-23), 3) := by decide +kernel
theorem dX11_storeMarket_68 : decode cX11_storeMarket 68 = .ok (.aload_n 0, 1) := by decide +kernel
theorem dX11_storeMarket_69 : decode cX11_storeMarket 69 = .ok (.aload_n 0, 1) := by decide +kernel
theorem dX11_storeMarket_70 : decode cX11_storeMarket 70 = .ok (.getfield 234, 3) := by decide +kernel
theorem dX11_storeMarket_73 : decode cX11_storeMarket 73 = .ok (.putfield 370, 3) := by decide +kernel
theorem dX11_storeMarket_76 : decode cX11_storeMarket 76 = .ok (.return_, 1) := by decide +kernel
theorem dX11_come_0 : decode cX11_come 0 = .ok (.aload_n 0, 1) := by decide +kernel
theorem dX11_come_1 : decode cX11_come 1 = .ok (.iload_n 1, 1) := by decide +kernel
theorem dX11_come_2 : decode cX11_come 2 = .ok (.invokevirtual 146, 3) := by decide +kernel
theorem dX11_come_5 : decode cX11_come 5 = .ok (.ifCond .eq 11, 3) := by decide +kernel
theorem dX11_come_8 : decode cX11_come 8 = .ok (.aload_n 0, 1) := by decide +kernel
theorem dX11_come_9 : decode cX11_come 9 = .ok (.iload_n 2, 1) := by decide +kernel
theorem dX11_come_10 : decode cX11_come 10 = .ok (.invokevirtual 229, 3) := by decide +kernel
theorem dX11_come_13 : decode cX11_come 13 = .ok (.ifCond .ne 5, 3) := by decide +kernel
theorem dX11_come_16 : decode cX11_come 16 = .ok (.iconst (-1), 1) := by decide +kernel
theorem dX11_come_17 : decode cX11_come 17 = .ok (.ireturn, 1) := by decide +kernel
theorem dX11_come_18 : decode cX11_come 18 = .ok (.aload_n 0, 1) := by decide +kernel
theorem dX11_come_19 : decode cX11_come 19 = .ok (.getfield 98, 3) := by decide +kernel
theorem dX11_come_22 : decode cX11_come 22 = .ok (.iload_n 1, 1) := by decide +kernel
theorem dX11_come_23 : decode cX11_come 23 = .ok (.iaload, 1) := by decide +kernel
theorem dX11_come_24 : decode cX11_come 24 = .ok (.iconst 1, 1) := by decide +kernel
theorem dX11_come_25 : decode cX11_come 25 = .ok (.if_icmp .ne 6, 3) := by decide +kernel
theorem dX11_come_28 : decode cX11_come 28 = .ok (.bipush (-2), 2) := by decide +kernel
theorem dX11_come_30 : decode cX11_come 30 = .ok (.ireturn, 1) := by decide +kernel
theorem dX11_come_31 : decode cX11_come 31 = .ok (.aload_n 0, 1) := by decide +kernel
theorem dX11_come_32 : decode cX11_come 32 = .ok (.invokevirtual 373, 3) := by decide +kernel
theorem dX11_come_35 : decode cX11_come 35 = .ok (.aload_n 0, 1) := by decide +kernel
theorem dX11_come_36 : decode cX11_come 36 = .ok (.invokevirtual 376, 3) := by decide +kernel
theorem dX11_come_39 : decode cX11_come 39 = .ok (.aload_n 0, 1) := by decide +kernel
theorem dX11_come_40 : decode cX11_come 40 = .ok (.iload_n 1, 1) := by decide +kernel
theorem dX11_come_41 : decode cX11_come 41 = .ok (.iload_n 2, 1) := by decide +kernel
theorem dX11_come_42 : decode cX11_come 42 = .ok (.invokevirtual 270, 3) := by decide +kernel
theorem dX11_come_45 : decode cX11_come 45 = .ok (.istore_n 3, 1) := by decide +kernel
theorem dX11_come_46 : decode cX11_come 46 = .ok (.aload_n 0, 1) := by decide +kernel
theorem dX11_come_47 : decode cX11_come 47 = .ok (.invokevirtual 379, 3) := by decide +kernel
theorem dX11_come_50 : decode cX11_come 50 = .ok (.aload_n 0, 1) := by decide +kernel
theorem dX11_come_51 : decode cX11_come 51 = .ok (.getfield 98, 3) := by decide +kernel
theorem dX11_come_54 : decode cX11_come 54 = .ok (.iload_n 1, 1) := by decide +kernel
theorem dX11_come_55 : decode cX11_come 55 = .ok (.iconst 1, 1) := by decide +kernel
theorem dX11_come_56 : decode cX11_come 56 = .ok (.iastore, 1) := by decide +kernel
theorem dX11_come_57 : decode cX11_come 57 = .ok (.iload_n 3, 1) := by decide +kernel
theorem dX11_come_58 : decode cX11_come 58 = .ok (.ireturn, 1) := by decide +kernel
theorem dX11_let_0 : decode cX11_let 0 = .ok (.aload_n 0, 1) := by decide +kernel
theorem dX11_let_1 : decode cX11_let 1 = .ok (.iload_n 1, 1) := by decide +kernel
theorem dX11_let_2 : decode cX11_let 2 = .ok (.invokevirtual 146, 3) := by decide +kernel
theorem dX11_let_5 : decode cX11_let 5 = .ok (.ifCond .eq 11, 3) := by decide +kernel
theorem dX11_let_8 : decode cX11_let 8 = .ok (.aload_n 0, 1) := by decide +kernel
theorem dX11_let_9 : decode cX11_let 9 = .ok (.iload_n 2, 1) := by decide +kernel
theorem dX11_let_10 : decode cX11_let 10 = .ok (.invokevirtual 150, 3) := by decide +kernel
theorem dX11_let_13 : decode cX11_let 13 = .ok (.ifCond .ne 5, 3) := by decide +kernel
theorem dX11_let_16 : decode cX11_let 16 = .ok (.iconst (-1), 1) := by decide +kernel
theorem dX11_let_17 : decode cX11_let 17 = .ok (.ireturn, 1) := by decide +kernel
theorem dX11_let_18 : decode cX11_let 18 = .ok (.aload_n 0, 1) := by decide +kernel
theorem dX11_let_19 : decode cX11_let 19 = .ok (.invokevirtual 376, 3) := by decide +kernel
theorem dX11_let_22 : decode cX11_let 22 = .ok (.aload_n 0, 1) := by decide +kernel
theorem dX11_let_23 : decode cX11_let 23 = .ok (.getfield 98, 3) := by decide +kernel
theorem dX11_let_26 : decode cX11_let 26 = .ok (.iload_n 1, 1) := by decide +kernel
theorem dX11_let_27 : decode cX11_let 27 = .ok (.iaload, 1) := by decide +kernel
theorem dX11_let_28 : decode cX11_let 28 = .ok (.iconst 1, 1) := by decide +kernel
theorem dX11_let_29 : decode cX11_let 29 = .ok (.if_icmp .eq 46, 3) := by decide +kernel
theorem dX11_let_32 : decode cX11_let 32 = .ok (.aload_n 0, 1) := by decide +kernel
theorem dX11_let_33 : decode cX11_let 33 = .ok (.getfield 64, 3) := by decide +kernel
theorem dX11_let_36 : decode cX11_let 36 = .ok (.bipush 6, 2) := by decide +kernel
theorem dX11_let_38 : decode cX11_let 38 = .ok (.iload_n 1, 1) := by decide +kernel
theorem dX11_let_39 : decode cX11_let 39 = .ok (.imul, 1) := by decide +kernel
theorem dX11_let_40 : decode cX11_let 40 = .ok (.iload_n 2, 1) := by decide +kernel
theorem dX11_let_41 : decode cX11_let 41 = .ok (.iadd, 1) := by decide +kernel
theorem dX11_let_42 : decode cX11_let 42 = .ok (.iaload, 1) := by decide +kernel
theorem dX11_let_43 : decode cX11_let 43 = .ok (.ifCond .eq 32, 3) := by decide +kernel
theorem dX11_let_46 : decode cX11_let 46 = .ok (.aload_n 0, 1) := by decide +kernel
theorem dX11_let_47 : decode cX11_let 47 = .ok (.iload_n 2, 1) := by decide +kernel
theorem dX11_let_48 : decode cX11_let 48 = .ok (.invokevirtual 249, 3) := by decide +kernel
theorem dX11_let_51 : decode cX11_let 51 = .ok (.aload_n 0, 1) := by decide +kernel
theorem dX11_let_52 : decode cX11_let 52 = .ok (.getfield 55, 3) := by decide +kernel
theorem dX11_let_55 : decode cX11_let 55 = .ok (.iload_n 2, 1) := by decide +kernel
theorem dX11_let_56 : decode cX11_let 56 = .ok (.iaload, 1) := by decide +kernel
theorem dX11_let_57 : decode cX11_let 57 = .ok (.if_icmp .eq 18, 3) := by decide +kernel
theorem dX11_let_60 : decode cX11_let 60 = .ok (.aload_n 0, 1) := by decide +kernel
theorem dX11_let_61 : decode cX11_let 61 = .ok (.getfield 67, 3) := by decide +kernel
theorem dX11_let_64 : decode cX11_let 64 = .ok (.iload_n 2, 1) := by decide +kernel
theorem dX11_let_65 : decode cX11_let 65 = .ok (.iaload, 1) := by decide +kernel
theorem dX11_let_66 : decode cX11_let 66 = .ok (.aload_n 0, 1) := by decide +kernel
theorem dX11_let_67 : decode cX11_let 67 = .ok (.getfield 61, 3) := by decide +kernel
theorem dX11_let_70 : decode cX11_let 70 = .ok (.iload_n 2, 1) := by decide +kernel
theorem dX11_let_71 : decode cX11_let 71 = .ok (.iaload, 1) := by decide +kernel
theorem dX11_let_72 : decode cX11_let 72 = .ok (.if_icmp .ne 6, 3) := by decide +kernel
theorem dX11_let_75 : decode cX11_let 75 = .ok (.bipush (-2), 2) := by decide +kernel
theorem dX11_let_77 : decode cX11_let 77 = .ok (.ireturn, 1) := by decide +kernel
theorem dX11_let_78 : decode cX11_let 78 = .ok (.aload_n 0, 1) := by decide +kernel
theorem dX11_let_79 : decode cX11_let 79 = .ok (.invokevirtual 373, 3) := by decide +kernel
theorem dX11_let_82 : decode cX11_let 82 = .ok (.aload_n 0, 1) := by decide +kernel
theorem dX11_let_83 : decode cX11_let 83 = .ok (.dup, 1) := by decide +kernel
theorem dX11_let_84 : decode cX11_let 84 = .ok (.getfield 234, 3) := by decide +kernel
theorem dX11_let_87 : decode cX11_let 87 = .ok (.iconst 1, 1) := by decide +kernel
theorem dX11_let_88 : decode cX11_let 88 = .ok (.iadd, 1) := by decide +kernel
theorem dX11_let_89 : decode cX11_let 89 = .ok (.putfield 234, 3) := by decide +kernel
theorem dX11_let_92 : decode cX11_let 92 = .ok (.aload_n 0, 1) := by decide +kernel
theorem dX11_let_93 : decode cX11_let 93 = .ok (.getfield 73, 3) := by decide +kernel
theorem dX11_let_96 : decode cX11_let 96 = .ok (.iload_n 1, 1) := by decide +kernel
theorem dX11_let_97 : decode cX11_let 97 = .ok (.aload_n 0, 1) := by decide +kernel
theorem dX11_let_98 : decode cX11_let 98 = .ok (.getfield 234, 3) := by decide +kernel
theorem dX11_let_101 : decode cX11_let 101 = .ok (.iastore, 1) := by decide +kernel
theorem dX11_let_102 : decode cX11_let 102 = .ok (.aload_n 0, 1) := by decide +kernel
theorem dX11_let_103 : decode cX11_let 103 = .ok (.iload_n 1, 1) := by decide +kernel
theorem dX11_let_104 : decode cX11_let 104 = .ok (.iload_n 2, 1) := by decide +kernel
theorem dX11_let_105 : decode cX11_let 105 = .ok (.invokevirtual 267, 3) := by decide +kernel
theorem dX11_let_108 : decode cX11_let 108 = .ok (.istore_n 3, 1) := by decide +kernel
theorem dX11_let_109 : decode cX11_let 109 = .ok (.aload_n 0, 1) := by decide +kernel
theorem dX11_let_110 : decode cX11_let 110 = .ok (.invokevirtual 379, 3) := by decide +kernel
theorem dX11_let_113 : decode cX11_let 113 = .ok (.aload_n 0, 1) := by decide +kernel
theorem dX11_let_114 : decode cX11_let 114 = .ok (.getfield 98, 3) := by decide +kernel
theorem dX11_let_117 : decode cX11_let 117 = .ok (.iload_n 1, 1) := by decide +kernel
theorem dX11_let_118 : decode cX11_let 118 = .ok (.iconst 1, 1) := by decide +kernel
theorem dX11_let_119 : decode cX11_let 119 = .ok (.iastore, 1) := by decide +kernel
theorem dX11_let_120 : decode cX11_let 120 = .ok (.iload_n 3, 1) := by decide +kernel
theorem dX11_let_121 : decode cX11_let 121 = .ok (.ireturn, 1) := by decide +kernel
theorem dX11_leave_0 : decode cX11_leave 0 = .ok (.aload_n 0, 1) := by decide +kernel
theorem dX11_leave_1 : decode cX11_leave 1 = .ok (.iload_n 1, 1) := by decide +kernel
theorem dX11_leave_2 : decode cX11_leave 2 = .ok (.invokevirtual 146, 3) := by decide +kernel
theorem dX11_leave_5 : decode cX11_leave 5 = .ok (.ifCond .ne 5, 3) := by decide +kernel
theorem dX11_leave_8 : decode cX11_leave 8 = .ok (.iconst (-1), 1) := by decide +kernel
theorem dX11_leave_9 : decode cX11_leave 9 = .ok (.ireturn, 1) := by decide +kernel
theorem dX11_leave_10 : decode cX11_leave 10 = .ok (.aload_n 0, 1) := by decide +kernel
theorem dX11_leave_11 : decode cX11_leave 11 = .ok (.getfield 101, 3) := by decide +kernel
theorem dX11_leave_14 : decode cX11_leave 14 = .ok (.iload_n 1, 1) := by decide +kernel
theorem dX11_leave_15 : decode cX11_leave 15 = .ok (.iaload, 1) := by decide +kernel
theorem dX11_leave_16 : decode cX11_leave 16 = .ok (.istore_n 2, 1) := by decide +kernel
theorem dX11_leave_17 : decode cX11_leave 17 = .ok (.iload_n 2, 1) := by decide +kernel
theorem dX11_leave_18 : decode cX11_leave 18 = .ok (.bipush (-4), 2) := by decide +kernel
theorem dX11_leave_20 : decode cX11_leave 20 = .ok (.if_icmp .ne 6, 3) := by decide +kernel
theorem dX11_leave_23 : decode cX11_leave 23 = .ok (.bipush (-2), 2) := by decide +kernel
theorem dX11_leave_25 : decode cX11_leave 25 = .ok (.ireturn, 1) := by decide +kernel
theorem dX11_leave_26 : decode cX11_leave 26 = .ok (.aload_n 0, 1) := by decide +kernel
theorem dX11_leave_27 : decode cX11_leave 27 = .ok (.invokevirtual 373, 3) := by decide +kernel
theorem dX11_leave_30 : decode cX11_leave 30 = .ok (.aload_n 0, 1) := by decide +kernel
theorem dX11_leave_31 : decode cX11_leave 31 = .ok (.getfield 101, 3) := by decide +kernel
theorem dX11_leave_34 : decode cX11_leave 34 = .ok (.iload_n 1, 1) := by decide +kernel
theorem dX11_leave_35 : decode cX11_leave 35 = .ok (.bipush (-4), 2) := by decide +kernel
theorem dX11_leave_37 : decode cX11_leave 37 = .ok (.iastore, 1) := by decide +kernel
theorem dX11_leave_38 : decode cX11_leave 38 = .ok (.iload_n 2, 1) := by decide +kernel
theorem dX11_leave_39 : decode cX11_leave 39 = .ok (.ireturn, 1) := by decide +kernel
theorem dX11_undo_0 : decode cX11_undo 0 = .ok (.aload_n 0, 1) := by decide +kernel
theorem dX11_undo_1 : decode cX11_undo 1 = .ok (.getfield 367, 3) := by decide +kernel
theorem dX11_undo_4 : decode cX11_undo 4 = .ok (.ifCond .ne 6, 3) := by decide +kernel
theorem dX11_undo_7 : decode cX11_undo 7 = .ok (.bipush (-4), 2) := by decide +kernel
theorem dX11_undo_9 : decode cX11_undo 9 = .ok (.ireturn, 1) := by decide +kernel
theorem dX11_undo_10 : decode cX11_undo 10 = .ok (.aload_n 0, 1) := by decide +kernel
theorem dX11_undo_11 : decode cX11_undo 11 = .ok (.dup, 1) := by decide +kernel
theorem dX11_undo_12 : decode cX11_undo 12 = .ok (.getfield 367, 3) := by decide +kernel
theorem dX11_undo_15 : decode cX11_undo 15 = .ok (.iconst 1, 1) := by decide +kernel
theorem dX11_undo_16 : decode cX11_undo 16 = .ok (.isub, 1) := by decide +kernel
theorem dX11_undo_17 : decode cX11_undo 17 = .ok (.putfield 367, 3) := by decide +kernel
theorem dX11_undo_20 : decode cX11_undo 20 = .ok (.bipush 40, 2) := by decide +kernel
theorem dX11_undo_22 : decode cX11_undo 22 = .ok (.aload_n 0, 1) := by decide +kernel
theorem dX11_undo_23 : decode cX11_undo 23 = .ok (.getfield 367, 3) := by decide +kernel
theorem dX11_undo_26 : decode cX11_undo 26 = .ok (.imul, 1) := by decide +kernel
theorem dX11_undo_27 : decode cX11_undo 27 = .ok (.istore_n 1, 1) := by decide +kernel
theorem dX11_undo_28 : decode cX11_undo 28 = .ok (.iconst 0, 1) := by decide +kernel
theorem dX11_undo_29 : decode cX11_undo 29 = .ok (.istore_n 2, 1) := by decide +kernel
theorem dX11_undo_30 : decode cX11_undo 30 = .ok (.iload_n 2, 1) := by decide +kernel
theorem dX11_undo_31 : decode cX11_undo 31 = .ok (.aload_n 0, 1) := by decide +kernel
theorem dX11_undo_32 : decode cX11_undo 32 = .ok (.getfield 110, 3) := by decide +kernel
theorem dX11_undo_35 : decode cX11_undo 35 = .ok (.iload_n 1, 1) := by decide +kernel
theorem dX11_undo_36 : decode cX11_undo 36 = .ok (.bipush 34, 2) := by decide +kernel
theorem dX11_undo_38 : decode cX11_undo 38 = .ok (.iadd, 1) := by decide +kernel
theorem dX11_undo_39 : decode cX11_undo 39 = .ok (.iaload, 1) := by decide +kernel
theorem dX11_undo_40 : decode cX11_undo 40 = .ok (.if_icmp .ge 57, 3) := by decide +kernel
theorem dX11_undo_43 : decode cX11_undo 43 = .ok (.aload_n 0, 1) := by decide +kernel
theorem dX11_undo_44 : decode cX11_undo 44 = .ok (.getfield 98, 3) := by decide +kernel
theorem dX11_undo_47 : decode cX11_undo 47 = .ok (.iload_n 2, 1) := by decide +kernel
theorem dX11_undo_48 : decode cX11_undo 48 = .ok (.aload_n 0, 1) := by decide +kernel
theorem dX11_undo_49 : decode cX11_undo 49 = .ok (.getfield 110, 3) := by decide +kernel
theorem dX11_undo_52 : decode cX11_undo 52 = .ok (.iload_n 1, 1) := by decide +kernel
theorem dX11_undo_53 : decode cX11_undo 53 = .ok (.iload_n 2, 1) := by decide +kernel
theorem dX11_undo_54 : decode cX11_undo 54 = .ok (.iadd, 1) := by decide +kernel
theorem dX11_undo_55 : decode cX11_undo 55 = .ok (.iaload, 1) := by decide +kernel
theorem dX11_undo_56 : decode cX11_undo 56 = .ok (.iastore, 1) := by decide +kernel
theorem dX11_undo_57 : decode cX11_undo 57 = .ok (.aload_n 0, 1) := by decide +kernel
theorem dX11_undo_58 : decode cX11_undo 58 = .ok (.getfield 101, 3) := by decide +kernel
theorem dX11_undo_61 : decode cX11_undo 61 = .ok (.iload_n 2, 1) := by decide +kernel
theorem dX11_undo_62 : decode cX11_undo 62 = .ok (.aload_n 0, 1) := by decide +kernel
theorem dX11_undo_63 : decode cX11_undo 63 = .ok (.getfield 110, 3) := by decide +kernel
theorem dX11_undo_66 : decode cX11_undo 66 = .ok (.iload_n 1, 1) := by decide +kernel
theorem dX11_undo_67 : decode cX11_undo 67 = .ok (.bipush 9, 2) := by decide +kernel
theorem dX11_undo_69 : decode cX11_undo 69 = .ok (.iadd, 1) := by decide +kernel
theorem dX11_undo_70 : decode cX11_undo 70 = .ok (.iload_n 2, 1) := by decide +kernel
theorem dX11_undo_71 : decode cX11_undo 71 = .ok (.iadd, 1) := by decide +kernel
theorem dX11_undo_72 : decode cX11_undo 72 = .ok (.iaload, 1) := by decide +kernel
theorem dX11_undo_73 : decode cX11_undo 73 = .ok (.iastore, 1) := by decide +kernel
theorem dX11_undo_74 : decode cX11_undo 74 = .ok (.aload_n 0, 1) := by decide +kernel
theorem dX11_undo_75 : decode cX11_undo 75 = .ok (.getfield 104, 3) := by decide +kernel
theorem dX11_undo_78 : decode cX11_undo 78 = .ok (.iload_n 2, 1) := by decide +kernel
theorem dX11_undo_79 : decode cX11_undo 79 = .ok (.aload_n 0, 1) := by decide +kernel
theorem dX11_undo_80 : decode cX11_undo 80 = .ok (.getfield 110, 3) := by decide +kernel
theorem dX11_undo_83 : decode cX11_undo 83 = .ok (.iload_n 1, 1) := by decide +kernel
theorem dX11_undo_84 : decode cX11_undo 84 = .ok (.bipush 18, 2) := by decide +kernel
theorem dX11_undo_86 : decode cX11_undo 86 = .ok (.iadd, 1) := by decide +kernel
theorem dX11_undo_87 : decode cX11_undo 87 = .ok (.iload_n 2, 1) := by decide +kernel
theorem dX11_undo_88 : decode cX11_undo 88 = .ok (.iadd, 1) := by decide +kernel
theorem dX11_undo_89 : decode cX11_undo 89 = .ok (.iaload, 1) := by decide +kernel
theorem dX11_undo_90 : decode cX11_undo 90 = .ok (.iastore, 1) := by decide +kernel
theorem dX11_undo_91 : decode cX11_undo 91 = .ok (.iinc 2 1, 3) := by decide +kernel
theorem dX11_undo_94 : decode cX11_undo 94 = .ok (.goto (-64), 3) := by decide +kernel
theorem dX11_undo_97 : decode cX11_undo 97 = .ok (.iconst 0, 1) := by decide +kernel
theorem dX11_undo_98 : decode cX11_undo 98 = .ok (.istore_n 2, 1) := by decide +kernel
theorem dX11_undo_99 : decode cX11_undo 99 = .ok (.iload_n 2, 1) := by decide +kernel
theorem dX11_undo_100 : decode cX11_undo 100 = .ok (.bipush 6, 2) := by decide +kernel
theorem dX11_undo_102 : decode cX11_undo 102 = .ok (.if_icmp .ge 26, 3) := by decide +kernel
theorem dX11_undo_105 : decode cX11_undo 105 = .ok (.aload_n 0, 1) := by decide +kernel
theorem dX11_undo_106 : decode cX11_undo 106 = .ok (.getfield 107, 3) := by decide +kernel
theorem dX11_undo_109 : decode cX11_undo 109 = .ok (.iload_n 2, 1) := by decide +kernel
theorem dX11_undo_110 : decode cX11_undo 110 = .ok (.aload_n 0, 1) := by decide +kernel
theorem dX11_undo_111 : decode cX11_undo 111 = .ok (.getfield 110, 3) := by decide +kernel
theorem dX11_undo_114 : decode cX11_undo 114 = .ok (.iload_n 1, 1) := by decide +kernel
theorem dX11_undo_115 : decode cX11_undo 115 = .ok (.bipush 27, 2) := by decide +kernel
theorem dX11_undo_117 : decode cX11_undo 117 = .ok (.iadd, 1) := by decide +kernel
theorem dX11_undo_118 : decode cX11_undo 118 = .ok (.iload_n 2, 1) := by decide +kernel
theorem dX11_undo_119 : decode cX11_undo 119 = .ok (.iadd, 1) := by decide +kernel
theorem dX11_undo_120 : decode cX11_undo 120 = .ok (.iaload, 1) := by decide +kernel
theorem dX11_undo_121 : decode cX11_undo 121 = .ok (.iastore, 1) := by decide +kernel
theorem dX11_undo_122 : decode cX11_undo 122 = .ok (.iinc 2 1, 3) := by decide +kernel
theorem dX11_undo_125 : decode cX11_undo 125 = .ok (.goto (-26), 3) := by decide +kernel
theorem dX11_undo_128 : decode cX11_undo 128 = .ok (.aload_n 0, 1) := by decide +kernel
theorem dX11_undo_129 : decode cX11_undo 129 = .ok (.aload_n 0, 1) := by decide +kernel
theorem dX11_undo_130 : decode cX11_undo 130 = .ok (.getfield 110, 3) := by decide +kernel
theorem dX11_undo_133 : decode cX11_undo 133 = .ok (.iload_n 1, 1) := by decide +kernel
theorem dX11_undo_134 : decode cX11_undo 134 = .ok (.bipush 33, 2) := by decide +kernel
theorem dX11_undo_136 : decode cX11_undo 136 = .ok (.iadd, 1) := by decide +kernel
theorem dX11_undo_137 : decode cX11_undo 137 = .ok (.iaload, 1) := by decide +kernel
theorem dX11_undo_138 : decode cX11_undo 138 = .ok (.putfield 370, 3) := by decide +kernel
theorem dX11_undo_141 : decode cX11_undo 141 = .ok (.aload_n 0, 1) := by decide +kernel
theorem dX11_undo_142 : decode cX11_undo 142 = .ok (.getfield 367, 3) := by decide +kernel
theorem dX11_undo_145 : decode cX11_undo 145 = .ok (.ireturn, 1) := by decide +kernel
theorem dX11_market_0 : decode cX11_market 0 = .ok (.iload_n 1, 1) := by decide +kernel
theorem dX11_market_1 : decode cX11_market 1 = .ok (.i2l, 1) := by decide +kernel
theorem dX11_market_2 : decode cX11_market 2 = .ok (.lconst 0, 1) := by decide +kernel
theorem dX11_market_3 : decode cX11_market 3 = .ok (.ldc2_w 382, 3) := by decide +kernel
theorem dX11_market_6 : decode cX11_market 6 = .ok (.invokestatic 126, 3) := by decide +kernel
theorem dX11_market_9 : decode cX11_market 9 = .ok (.ifCond .ne 24, 3) := by decide +kernel
theorem dX11_market_12 : decode cX11_market 12 = .ok (.iload_n 1, 1) := by decide +kernel
theorem dX11_market_13 : decode cX11_market 13 = .ok (.i2l, 1) := by decide +kernel
theorem dX11_market_14 : decode cX11_market 14 = .ok (.ldc2_w 232, 3) := by decide +kernel
theorem dX11_market_17 : decode cX11_market 17 = .ok (.bipush 9, 2) := by decide +kernel
theorem dX11_market_19 : decode cX11_market 19 = .ok (.aload_n 0, 1) := by decide +kernel
theorem dX11_market_20 : decode cX11_market 20 = .ok (.getfield 130, 3) := by decide +kernel
theorem dX11_market_23 : decode cX11_market 23 = .ok (.iadd, 1) := by decide +kernel
theorem dX11_market_24 : decode cX11_market 24 = .ok (.i2l, 1) := by decide +kernel
theorem dX11_market_25 : decode cX11_market 25 = .ok (.invokestatic 126, 3) := by decide +kernel
theorem dX11_market_28 : decode cX11_market 28 = .ok (.ifCond .ne 5, 3) := by decide +kernel
theorem dX11_market_31 : decode cX11_market 31 = .ok (.iconst (-1), 1) := by decide +kernel
theorem dX11_market_32 : decode cX11_market 32 = .ok (.ireturn, 1) := by decide +kernel
theorem dX11_market_33 : decode cX11_market 33 = .ok (.aload_n 0, 1) := by decide +kernel
theorem dX11_market_34 : decode cX11_market 34 = .ok (.invokevirtual 376, 3) := by decide +kernel
theorem dX11_market_37 : decode cX11_market 37 = .ok (.iconst 0, 1) := by decide +kernel
theorem dX11_market_38 : decode cX11_market 38 = .ok (.istore_n 2, 1) := by decide +kernel
theorem dX11_market_39 : decode cX11_market 39 = .ok (.iconst 0, 1) := by decide +kernel
theorem dX11_market_40 : decode cX11_market 40 = .ok (.istore_n 3, 1) := by decide +kernel
theorem dX11_market_41 : decode cX11_market 41 = .ok (.iload_n 3, 1) := by decide +kernel
theorem dX11_market_42 : decode cX11_market 42 = .ok (.aload_n 0, 1) := by decide +kernel
theorem dX11_market_43 : decode cX11_market 43 = .ok (.getfield 130, 3) := by decide +kernel
theorem dX11_market_46 : decode cX11_market 46 = .ok (.if_icmp .ge 28, 3) := by decide +kernel
theorem dX11_market_49 : decode cX11_market 49 = .ok (.iload_n 2, 1) := by decide +kernel
theorem dX11_market_50 : decode cX11_market 50 = .ok (.aload_n 0, 1) := by decide +kernel
theorem dX11_market_51 : decode cX11_market 51 = .ok (.getfield 101, 3) := by decide +kernel
theorem dX11_market_54 : decode cX11_market 54 = .ok (.iload_n 3, 1) := by decide +kernel
theorem dX11_market_55 : decode cX11_market 55 = .ok (.iaload, 1) := by decide +kernel
theorem dX11_market_56 : decode cX11_market 56 = .ok (.bipush (-4), 2) := by decide +kernel
theorem dX11_market_58 : decode cX11_market 58 = .ok (.if_icmp .ne 7, 3) := by decide +kernel
theorem dX11_market_61 : decode cX11_market 61 = .ok (.iconst 0, 1) := by decide +kernel
theorem dX11_market_62 : decode cX11_market 62 = .ok (.goto 4, 3) := by decide +kernel
theorem dX11_market_65 : decode cX11_market 65 = .ok (.iconst 1, 1) := by decide +kernel
theorem dX11_market_66 : decode cX11_market 66 = .ok (.iadd, 1) := by decide +kernel
theorem dX11_market_67 : decode cX11_market 67 = .ok (.istore_n 2, 1) := by decide +kernel
theorem dX11_market_68 : decode cX11_market 68 = .ok (.iinc 3 1, 3) := by decide +kernel
theorem dX11_market_71 : decode cX11_market 71 = .ok (.goto (-30), 3) := by decide +kernel
theorem dX11_market_74 : decode cX11_market 74 = .ok (.iload_n 1, 1) := by decide +kernel
theorem dX11_market_75 : decode cX11_market 75 = .ok (.ifCond .ne 10, 3) := by decide +kernel
theorem dX11_market_78 : decode cX11_market 78 = .ok (.aload_n 0, 1) := by decide +kernel
theorem dX11_market_79 : decode cX11_market 79 = .ok (.invokevirtual 279, 3) := by decide +kernel
theorem dX11_market_82 : decode cX11_market 82 = .ok (.goto 57, 3) := by decide +kernel
theorem dX11_market_85 : decode cX11_market 85 = .ok (.iload_n 1, 1) := by decide +kernel
theorem dX11_market_86 : decode cX11_market 86 = .ok (.iconst 1, 1) := by decide +kernel
theorem dX11_market_87 : decode cX11_market 87 = .ok (.if_icmp .ne 10, 3) := by decide +kernel
theorem dX11_market_90 : decode cX11_market 90 = .ok (.aload_n 0, 1) := by decide +kernel
theorem dX11_market_91 : decode cX11_market 91 = .ok (.invokevirtual 282, 3) := by decide +kernel
theorem dX11_market_94 : decode cX11_market 94 = .ok (.goto 45, 3) := by decide +kernel
theorem dX11_market_97 : decode cX11_market 97 = .ok (.iload_n 1, 1) := by decide +kernel
theorem dX11_market_98 : decode cX11_market 98 = .ok (.iconst 2, 1) := by decide +kernel
theorem dX11_market_99 : decode cX11_market 99 = .ok (.if_icmp .ne 10, 3) := by decide +kernel
theorem dX11_market_102 : decode cX11_market 102 = .ok (.aload_n 0, 1) := by decide +kernel
theorem dX11_market_103 : decode cX11_market 103 = .ok (.invokevirtual 139, 3) := by decide +kernel
theorem dX11_market_106 : decode cX11_market 106 = .ok (.goto 33, 3) := by decide +kernel
theorem dX11_market_109 : decode cX11_market 109 = .ok (.iload_n 1, 1) := by decide +kernel
theorem dX11_market_110 : decode cX11_market 110 = .ok (.iconst 3, 1) := by decide +kernel
theorem dX11_market_111 : decode cX11_market 111 = .ok (.if_icmp .ne 7, 3) := by decide +kernel
theorem dX11_market_114 : decode cX11_market 114 = .ok (.iload_n 2, 1) := by decide +kernel
theorem dX11_market_115 : decode cX11_market 115 = .ok (.goto 24, 3) := by decide +kernel
theorem dX11_market_118 : decode cX11_market 118 = .ok (.iload_n 1, 1) := by decide +kernel
theorem dX11_market_119 : decode cX11_market 119 = .ok (.iconst 4, 1) := by decide +kernel
theorem dX11_market_120 : decode cX11_market 120 = .ok (.if_icmp .ne 10, 3) := by decide +kernel
theorem dX11_market_123 : decode cX11_market 123 = .ok (.aload_n 0, 1) := by decide +kernel
theorem dX11_market_124 : decode cX11_market 124 = .ok (.getfield 367, 3) := by decide +kernel
theorem dX11_market_127 : decode cX11_market 127 = .ok (.goto 12, 3) := by decide +kernel
theorem dX11_market_130 : decode cX11_market 130 = .ok (.aload_n 0, 1) := by decide +kernel
theorem dX11_market_131 : decode cX11_market 131 = .ok (.getfield 101, 3) := by decide +kernel
theorem dX11_market_134 : decode cX11_market 134 = .ok (.iload_n 1, 1) := by decide +kernel
theorem dX11_market_135 : decode cX11_market 135 = .ok (.bipush 10, 2) := by decide +kernel
theorem dX11_market_137 : decode cX11_market 137 = .ok (.isub, 1) := by decide +kernel
theorem dX11_market_138 : decode cX11_market 138 = .ok (.iaload, 1) := by decide +kernel
theorem dX11_market_139 : decode cX11_market 139 = .ok (.ireturn, 1) := by decide +kernel
theorem dX11_sheet_0 : decode cX11_sheet 0 = .ok (.iload_n 1, 1) := by decide +kernel
theorem dX11_sheet_1 : decode cX11_sheet 1 = .ok (.i2l, 1) := by decide +kernel
theorem dX11_sheet_2 : decode cX11_sheet 2 = .ok (.lconst 0, 1) := by decide +kernel
theorem dX11_sheet_3 : decode cX11_sheet 3 = .ok (.ldc2_w 133, 3) := by decide +kernel
theorem dX11_sheet_6 : decode cX11_sheet 6 = .ok (.invokestatic 126, 3) := by decide +kernel
theorem dX11_sheet_9 : decode cX11_sheet 9 = .ok (.ifCond .eq 21, 3) := by decide +kernel
theorem dX11_sheet_12 : decode cX11_sheet 12 = .ok (.iload_n 2, 1) := by decide +kernel
theorem dX11_sheet_13 : decode cX11_sheet 13 = .ok (.i2l, 1) := by decide +kernel
theorem dX11_sheet_14 : decode cX11_sheet 14 = .ok (.lconst 0, 1) := by decide +kernel
theorem dX11_sheet_15 : decode cX11_sheet 15 = .ok (.ldc2_w 384, 3) := by decide +kernel
theorem dX11_sheet_18 : decode cX11_sheet 18 = .ok (.invokestatic 126, 3) := by decide +kernel
theorem dX11_sheet_21 : decode cX11_sheet 21 = .ok (.ifCond .eq 9, 3) := by decide +kernel
theorem dX11_sheet_24 : decode cX11_sheet 24 = .ok (.iload_n 3, 1) := by decide +kernel
theorem dX11_sheet_25 : decode cX11_sheet 25 = .ok (.bipush 64, 2) := by decide +kernel
theorem dX11_sheet_27 : decode cX11_sheet 27 = .ok (.if_icmp .le 5, 3) := by decide +kernel
theorem dX11_sheet_30 : decode cX11_sheet 30 = .ok (.iconst (-1), 1) := by decide +kernel
theorem dX11_sheet_31 : decode cX11_sheet 31 = .ok (.ireturn, 1) := by decide +kernel
theorem dX11_sheet_32 : decode cX11_sheet 32 = .ok (.iload_n 3, 1) := by decide +kernel
theorem dX11_sheet_33 : decode cX11_sheet 33 = .ok (.ifCond .ge 6, 3) := by decide +kernel
theorem dX11_sheet_36 : decode cX11_sheet 36 = .ok (.bipush (-14), 2) := by decide +kernel
theorem dX11_sheet_38 : decode cX11_sheet 38 = .ok (.ireturn, 1) := by decide +kernel
theorem dX11_sheet_39 : decode cX11_sheet 39 = .ok (.aload_n 0, 1) := by decide +kernel
theorem dX11_sheet_40 : decode cX11_sheet 40 = .ok (.getfield 113, 3) := by decide +kernel
theorem dX11_sheet_43 : decode cX11_sheet 43 = .ok (.iload_n 1, 1) := by decide +kernel
theorem dX11_sheet_44 : decode cX11_sheet 44 = .ok (.iload_n 2, 1) := by decide +kernel
theorem dX11_sheet_45 : decode cX11_sheet 45 = .ok (.iastore, 1) := by decide +kernel
theorem dX11_sheet_46 : decode cX11_sheet 46 = .ok (.aload_n 0, 1) := by decide +kernel
theorem dX11_sheet_47 : decode cX11_sheet 47 = .ok (.getfield 116, 3) := by decide +kernel
theorem dX11_sheet_50 : decode cX11_sheet 50 = .ok (.iload_n 1, 1) := by decide +kernel
theorem dX11_sheet_51 : decode cX11_sheet 51 = .ok (.iload_n 3, 1) := by decide +kernel
theorem dX11_sheet_52 : decode cX11_sheet 52 = .ok (.iastore, 1) := by decide +kernel
theorem dX11_sheet_53 : decode cX11_sheet 53 = .ok (.iconst 0, 1) := by decide +kernel
theorem dX11_sheet_54 : decode cX11_sheet 54 = .ok (.istore 4, 2) := by decide +kernel
theorem dX11_sheet_56 : decode cX11_sheet 56 = .ok (.iload 4, 2) := by decide +kernel
theorem dX11_sheet_58 : decode cX11_sheet 58 = .ok (.bipush 64, 2) := by decide +kernel
theorem dX11_sheet_60 : decode cX11_sheet 60 = .ok (.if_icmp .ge 22, 3) := by decide +kernel
theorem dX11_sheet_63 : decode cX11_sheet 63 = .ok (.aload_n 0, 1) := by decide +kernel
theorem dX11_sheet_64 : decode cX11_sheet 64 = .ok (.getfield 119, 3) := by decide +kernel
theorem dX11_sheet_67 : decode cX11_sheet 67 = .ok (.bipush 64, 2) := by decide +kernel
theorem dX11_sheet_69 : decode cX11_sheet 69 = .ok (.iload_n 1, 1) := by decide +kernel
theorem dX11_sheet_70 : decode cX11_sheet 70 = .ok (.imul, 1) := by decide +kernel
theorem dX11_sheet_71 : decode cX11_sheet 71 = .ok (.iload 4, 2) := by decide +kernel
theorem dX11_sheet_73 : decode cX11_sheet 73 = .ok (.iadd, 1) := by decide +kernel
theorem dX11_sheet_74 : decode cX11_sheet 74 = .ok (.iconst 0, 1) := by decide +kernel
theorem dX11_sheet_75 : decode cX11_sheet 75 = .ok (.iastore, 1) := by decide +kernel
theorem dX11_sheet_76 : decode cX11_sheet 76 = .ok (.iinc 4 1, 3) := by decide +kernel
theorem dX11_sheet_79 : decode cX11_sheet 79 = .ok (.goto (-23), 3) := by decide +kernel
theorem dX11_sheet_82 : decode cX11_sheet 82 = .ok (.iconst 1, 1) := by decide +kernel
theorem dX11_sheet_83 : decode cX11_sheet 83 = .ok (.ireturn, 1) := by decide +kernel
theorem dX11_lay_0 : decode cX11_lay 0 = .ok (.iload_n 1, 1) := by decide +kernel
theorem dX11_lay_1 : decode cX11_lay 1 = .ok (.i2l, 1) := by decide +kernel
theorem dX11_lay_2 : decode cX11_lay 2 = .ok (.lconst 0, 1) := by decide +kernel
theorem dX11_lay_3 : decode cX11_lay 3 = .ok (.ldc2_w 133, 3) := by decide +kernel
theorem dX11_lay_6 : decode cX11_lay 6 = .ok (.invokestatic 126, 3) := by decide +kernel
theorem dX11_lay_9 : decode cX11_lay 9 = .ok (.ifCond .ne 5, 3) := by decide +kernel
theorem dX11_lay_12 : decode cX11_lay 12 = .ok (.iconst (-1), 1) := by decide +kernel
theorem dX11_lay_13 : decode cX11_lay 13 = .ok (.ireturn, 1) := by decide +kernel
theorem dX11_lay_14 : decode cX11_lay 14 = .ok (.aload_n 0, 1) := by decide +kernel
theorem dX11_lay_15 : decode cX11_lay 15 = .ok (.getfield 113, 3) := by decide +kernel
theorem dX11_lay_18 : decode cX11_lay 18 = .ok (.iload_n 1, 1) := by decide +kernel
theorem dX11_lay_19 : decode cX11_lay 19 = .ok (.iaload, 1) := by decide +kernel
theorem dX11_lay_20 : decode cX11_lay 20 = .ok (.bipush (-4), 2) := by decide +kernel
theorem dX11_lay_22 : decode cX11_lay 22 = .ok (.if_icmp .ne 6, 3) := by decide +kernel
theorem dX11_lay_25 : decode cX11_lay 25 = .ok (.bipush (-11), 2) := by decide +kernel
theorem dX11_lay_27 : decode cX11_lay 27 = .ok (.ireturn, 1) := by decide +kernel
theorem dX11_lay_28 : decode cX11_lay 28 = .ok (.iload_n 2, 1) := by decide +kernel
theorem dX11_lay_29 : decode cX11_lay 29 = .ok (.i2l, 1) := by decide +kernel
theorem dX11_lay_30 : decode cX11_lay 30 = .ok (.lconst 0, 1) := by decide +kernel
theorem dX11_lay_31 : decode cX11_lay 31 = .ok (.aload_n 0, 1) := by decide +kernel
theorem dX11_lay_32 : decode cX11_lay 32 = .ok (.getfield 116, 3) := by decide +kernel
theorem dX11_lay_35 : decode cX11_lay 35 = .ok (.iload_n 1, 1) := by decide +kernel
theorem dX11_lay_36 : decode cX11_lay 36 = .ok (.iaload, 1) := by decide +kernel
theorem dX11_lay_37 : decode cX11_lay 37 = .ok (.iconst 1, 1) := by decide +kernel
theorem dX11_lay_38 : decode cX11_lay 38 = .ok (.isub, 1) := by decide +kernel
theorem dX11_lay_39 : decode cX11_lay 39 = .ok (.i2l, 1) := by decide +kernel
theorem dX11_lay_40 : decode cX11_lay 40 = .ok (.invokestatic 126, 3) := by decide +kernel
theorem dX11_lay_43 : decode cX11_lay 43 = .ok (.ifCond .ne 6, 3) := by decide +kernel
theorem dX11_lay_46 : decode cX11_lay 46 = .ok (.bipush (-12), 2) := by decide +kernel
theorem dX11_lay_48 : decode cX11_lay 48 = .ok (.ireturn, 1) := by decide +kernel
theorem dX11_lay_49 : decode cX11_lay 49 = .ok (.aload_n 0, 1) := by decide +kernel
theorem dX11_lay_50 : decode cX11_lay 50 = .ok (.getfield 119, 3) := by decide +kernel
theorem dX11_lay_53 : decode cX11_lay 53 = .ok (.bipush 64, 2) := by decide +kernel
theorem dX11_lay_55 : decode cX11_lay 55 = .ok (.iload_n 1, 1) := by decide +kernel
theorem dX11_lay_56 : decode cX11_lay 56 = .ok (.imul, 1) := by decide +kernel
theorem dX11_lay_57 : decode cX11_lay 57 = .ok (.iload_n 2, 1) := by decide +kernel
theorem dX11_lay_58 : decode cX11_lay 58 = .ok (.iadd, 1) := by decide +kernel
theorem dX11_lay_59 : decode cX11_lay 59 = .ok (.aload_n 0, 1) := by decide +kernel
theorem dX11_lay_60 : decode cX11_lay 60 = .ok (.getfield 113, 3) := by decide +kernel
theorem dX11_lay_63 : decode cX11_lay 63 = .ok (.iload_n 1, 1) := by decide +kernel
theorem dX11_lay_64 : decode cX11_lay 64 = .ok (.iaload, 1) := by decide +kernel
theorem dX11_lay_65 : decode cX11_lay 65 = .ok (.ifCond .ne 13, 3) := by decide +kernel
theorem dX11_lay_68 : decode cX11_lay 68 = .ok (.iload_n 3, 1) := by decide +kernel
theorem dX11_lay_69 : decode cX11_lay 69 = .ok (.bipush 24, 2) := by decide +kernel
theorem dX11_lay_71 : decode cX11_lay 71 = .ok (.ishl, 1) := by decide +kernel
theorem dX11_lay_72 : decode cX11_lay 72 = .ok (.bipush 24, 2) := by decide +kernel
theorem dX11_lay_74 : decode cX11_lay 74 = .ok (.ishr, 1) := by decide +kernel
theorem dX11_lay_75 : decode cX11_lay 75 = .ok (.goto 24, 3) := by decide +kernel
theorem dX11_lay_78 : decode cX11_lay 78 = .ok (.aload_n 0, 1) := by decide +kernel
theorem dX11_lay_79 : decode cX11_lay 79 = .ok (.getfield 113, 3) := by decide +kernel
theorem dX11_lay_82 : decode cX11_lay 82 = .ok (.iload_n 1, 1) := by decide +kernel
theorem dX11_lay_83 : decode cX11_lay 83 = .ok (.iaload, 1) := by decide +kernel
theorem dX11_lay_84 : decode cX11_lay 84 = .ok (.iconst 1, 1) := by decide +kernel
theorem dX11_lay_85 : decode cX11_lay 85 = .ok (.if_icmp .ne 13, 3) := by decide +kernel
theorem dX11_lay_88 : decode cX11_lay 88 = .ok (.iload_n 3, 1) := by decide +kernel
theorem dX11_lay_89 : decode cX11_lay 89 = .ok (.bipush 16, 2) := by decide +kernel
theorem dX11_lay_91 : decode cX11_lay 91 = .ok (.ishl, 1) := by decide +kernel
theorem dX11_lay_92 : decode cX11_lay 92 = .ok (.bipush 16, 2) := by decide +kernel
theorem dX11_lay_94 : decode cX11_lay 94 = .ok (.ishr, 1) := by decide +kernel
theorem dX11_lay_95 : decode cX11_lay 95 = .ok (.goto 4, 3) := by decide +kernel
theorem dX11_lay_98 : decode cX11_lay 98 = .ok (.iload_n 3, 1) := by decide +kernel
theorem dX11_lay_99 : decode cX11_lay 99 = .ok (.iastore, 1) := by decide +kernel
theorem dX11_lay_100 : decode cX11_lay 100 = .ok (.iconst 1, 1) := by decide +kernel
theorem dX11_lay_101 : decode cX11_lay 101 = .ok (.ireturn, 1) := by decide +kernel
theorem dX11_net_0 : decode cX11_net 0 = .ok (.iload_n 1, 1) := by decide +kernel
theorem dX11_net_1 : decode cX11_net 1 = .ok (.i2l, 1) := by decide +kernel
theorem dX11_net_2 : decode cX11_net 2 = .ok (.lconst 0, 1) := by decide +kernel
theorem dX11_net_3 : decode cX11_net 3 = .ok (.ldc2_w 133, 3) := by decide +kernel
theorem dX11_net_6 : decode cX11_net 6 = .ok (.invokestatic 126, 3) := by decide +kernel
theorem dX11_net_9 : decode cX11_net 9 = .ok (.ifCond .eq 15, 3) := by decide +kernel
theorem dX11_net_12 : decode cX11_net 12 = .ok (.iload_n 2, 1) := by decide +kernel
theorem dX11_net_13 : decode cX11_net 13 = .ok (.i2l, 1) := by decide +kernel
theorem dX11_net_14 : decode cX11_net 14 = .ok (.lconst 0, 1) := by decide +kernel
theorem dX11_net_15 : decode cX11_net 15 = .ok (.ldc2_w 384, 3) := by decide +kernel
theorem dX11_net_18 : decode cX11_net 18 = .ok (.invokestatic 126, 3) := by decide +kernel
theorem dX11_net_21 : decode cX11_net 21 = .ok (.ifCond .ne 5, 3) := by decide +kernel
theorem dX11_net_24 : decode cX11_net 24 = .ok (.iconst (-1), 1) := by decide +kernel
theorem dX11_net_25 : decode cX11_net 25 = .ok (.ireturn, 1) := by decide +kernel
theorem dX11_net_26 : decode cX11_net 26 = .ok (.aload_n 0, 1) := by decide +kernel
theorem dX11_net_27 : decode cX11_net 27 = .ok (.getfield 113, 3) := by decide +kernel
theorem dX11_net_30 : decode cX11_net 30 = .ok (.iload_n 1, 1) := by decide +kernel
theorem dX11_net_31 : decode cX11_net 31 = .ok (.iaload, 1) := by decide +kernel
theorem dX11_net_32 : decode cX11_net 32 = .ok (.iload_n 2, 1) := by decide +kernel
theorem dX11_net_33 : decode cX11_net 33 = .ok (.if_icmp .eq 22, 3) := by decide +kernel
theorem dX11_net_36 : decode cX11_net 36 = .ok (.aload_n 0, 1) := by decide +kernel
theorem dX11_net_37 : decode cX11_net 37 = .ok (.getfield 113, 3) := by decide +kernel
theorem dX11_net_40 : decode cX11_net 40 = .ok (.iload_n 1, 1) := by decide +kernel
theorem dX11_net_41 : decode cX11_net 41 = .ok (.iaload, 1) := by decide +kernel
theorem dX11_net_42 : decode cX11_net 42 = .ok (.bipush (-4), 2) := by decide +kernel
theorem dX11_net_44 : decode cX11_net 44 = .ok (.if_icmp .ne 8, 3) := by decide +kernel
theorem dX11_net_47 : decode cX11_net 47 = .ok (.bipush (-11), 2) := by decide +kernel
theorem dX11_net_49 : decode cX11_net 49 = .ok (.goto 5, 3) := by decide +kernel
theorem dX11_net_52 : decode cX11_net 52 = .ok (.bipush (-13), 2) := by decide +kernel
theorem dX11_net_54 : decode cX11_net 54 = .ok (.ireturn, 1) := by decide +kernel
theorem dX11_net_55 : decode cX11_net 55 = .ok (.iconst 0, 1) := by decide +kernel
theorem dX11_net_56 : decode cX11_net 56 = .ok (.istore 4, 2) := by decide +kernel
theorem dX11_net_58 : decode cX11_net 58 = .ok (.iload 4, 2) := by decide +kernel
theorem dX11_net_60 : decode cX11_net 60 = .ok (.aload_n 0, 1) := by decide +kernel
theorem dX11_net_61 : decode cX11_net 61 = .ok (.getfield 130, 3) := by decide +kernel
theorem dX11_net_64 : decode cX11_net 64 = .ok (.aload_n 0, 1) := by decide +kernel
theorem dX11_net_65 : decode cX11_net 65 = .ok (.getfield 122, 3) := by decide +kernel
theorem dX11_net_68 : decode cX11_net 68 = .ok (.imul, 1) := by decide +kernel
theorem dX11_net_69 : decode cX11_net 69 = .ok (.if_icmp .ge 68, 3) := by decide +kernel
theorem dX11_net_72 : decode cX11_net 72 = .ok (.iload_n 3, 1) := by decide +kernel
theorem dX11_net_73 : decode cX11_net 73 = .ok (.i2l, 1) := by decide +kernel
theorem dX11_net_74 : decode cX11_net 74 = .ok (.iload 4, 2) := by decide +kernel
theorem dX11_net_76 : decode cX11_net 76 = .ok (.i2l, 1) := by decide +kernel
theorem dX11_net_77 : decode cX11_net 77 = .ok (.ladd, 1) := by decide +kernel
theorem dX11_net_78 : decode cX11_net 78 = .ok (.lstore 5, 2) := by decide +kernel
theorem dX11_net_80 : decode cX11_net 80 = .ok (.lload 5, 2) := by decide +kernel
theorem dX11_net_82 : decode cX11_net 82 = .ok (.lconst 0, 1) := by decide +kernel
theorem dX11_net_83 : decode cX11_net 83 = .ok (.aload_n 0, 1) := by decide +kernel
theorem dX11_net_84 : decode cX11_net 84 = .ok (.getfield 116, 3) := by decide +kernel
theorem dX11_net_87 : decode cX11_net 87 = .ok (.iload_n 1, 1) := by decide +kernel
theorem dX11_net_88 : decode cX11_net 88 = .ok (.iaload, 1) := by decide +kernel
theorem dX11_net_89 : decode cX11_net 89 = .ok (.iconst 1, 1) := by decide +kernel
theorem dX11_net_90 : decode cX11_net 90 = .ok (.isub, 1) := by decide +kernel
theorem dX11_net_91 : decode cX11_net 91 = .ok (.i2l, 1) := by decide +kernel
theorem dX11_net_92 : decode cX11_net 92 = .ok (.invokestatic 126, 3) := by decide +kernel
theorem dX11_net_95 : decode cX11_net 95 = .ok (.ifCond .ne 6, 3) := by decide +kernel
theorem dX11_net_98 : decode cX11_net 98 = .ok (.bipush (-12), 2) := by decide +kernel
theorem dX11_net_100 : decode cX11_net 100 = .ok (.ireturn, 1) := by decide +kernel
theorem dX11_net_101 : decode cX11_net 101 = .ok (.aload_n 0, 1) := by decide +kernel
theorem dX11_net_102 : decode cX11_net 102 = .ok (.getfield 119, 3) := by decide +kernel
theorem dX11_net_105 : decode cX11_net 105 = .ok (.bipush 64, 2) := by decide +kernel
theorem dX11_net_107 : decode cX11_net 107 = .ok (.iload_n 1, 1) := by decide +kernel
theorem dX11_net_108 : decode cX11_net 108 = .ok (.imul, 1) := by decide +kernel
theorem dX11_net_109 : decode cX11_net 109 = .ok (.lload 5, 2) := by decide +kernel
theorem dX11_net_111 : decode cX11_net 111 = .ok (.l2i, 1) := by decide +kernel
theorem dX11_net_112 : decode cX11_net 112 = .ok (.iadd, 1) := by decide +kernel
theorem dX11_net_113 : decode cX11_net 113 = .ok (.iaload, 1) := by decide +kernel
theorem dX11_net_114 : decode cX11_net 114 = .ok (.i2l, 1) := by decide +kernel
theorem dX11_net_115 : decode cX11_net 115 = .ok (.lconst 0, 1) := by decide +kernel
theorem dX11_net_116 : decode cX11_net 116 = .ok (.ldc2_w 135, 3) := by decide +kernel
theorem dX11_net_119 : decode cX11_net 119 = .ok (.invokestatic 126, 3) := by decide +kernel
theorem dX11_net_122 : decode cX11_net 122 = .ok (.ifCond .ne 9, 3) := by decide +kernel
theorem dX11_net_125 : decode cX11_net 125 = .ok (.bipush (-100), 2) := by decide +kernel
theorem dX11_net_127 : decode cX11_net 127 = .ok (.iload 4, 2) := by decide +kernel
theorem dX11_net_129 : decode cX11_net 129 = .ok (.isub, 1) := by decide +kernel
theorem dX11_net_130 : decode cX11_net 130 = .ok (.ireturn, 1) := by decide +kernel
theorem dX11_net_131 : decode cX11_net 131 = .ok (.iinc 4 1, 3) := by decide +kernel
theorem dX11_net_134 : decode cX11_net 134 = .ok (.goto (-76), 3) := by decide +kernel
theorem dX11_net_137 : decode cX11_net 137 = .ok (.aload_n 0, 1) := by decide +kernel
theorem dX11_net_138 : decode cX11_net 138 = .ok (.invokevirtual 139, 3) := by decide +kernel
theorem dX11_net_141 : decode cX11_net 141 = .ok (.ifCond .le 6, 3) := by decide +kernel
theorem dX11_net_144 : decode cX11_net 144 = .ok (.bipush (-2), 2) := by decide +kernel
theorem dX11_net_146 : decode cX11_net 146 = .ok (.ireturn, 1) := by decide +kernel
theorem dX11_net_147 : decode cX11_net 147 = .ok (.iconst 0, 1) := by decide +kernel
theorem dX11_net_148 : decode cX11_net 148 = .ok (.istore 4, 2) := by decide +kernel
theorem dX11_net_150 : decode cX11_net 150 = .ok (.iconst 0, 1) := by decide +kernel
theorem dX11_net_151 : decode cX11_net 151 = .ok (.istore 5, 2) := by decide +kernel
theorem dX11_net_153 : decode cX11_net 153 = .ok (.iload 5, 2) := by decide +kernel
theorem dX11_net_155 : decode cX11_net 155 = .ok (.aload_n 0, 1) := by decide +kernel
theorem dX11_net_156 : decode cX11_net 156 = .ok (.getfield 130, 3) := by decide +kernel
theorem dX11_net_159 : decode cX11_net 159 = .ok (.aload_n 0, 1) := by decide +kernel
theorem dX11_net_160 : decode cX11_net 160 = .ok (.getfield 122, 3) := by decide +kernel
theorem dX11_net_163 : decode cX11_net 163 = .ok (.imul, 1) := by decide +kernel
theorem dX11_net_164 : decode cX11_net 164 = .ok (.if_icmp .ge 76, 3) := by decide +kernel
theorem dX11_net_167 : decode cX11_net 167 = .ok (.bipush 6, 2) := by decide +kernel
theorem dX11_net_169 : decode cX11_net 169 = .ok (.iload 5, 2) := by decide +kernel
theorem dX11_net_171 : decode cX11_net 171 = .ok (.aload_n 0, 1) := by decide +kernel
theorem dX11_net_172 : decode cX11_net 172 = .ok (.getfield 122, 3) := by decide +kernel
theorem dX11_net_175 : decode cX11_net 175 = .ok (.idiv, 1) := by decide +kernel
theorem dX11_net_176 : decode cX11_net 176 = .ok (.imul, 1) := by decide +kernel
theorem dX11_net_177 : decode cX11_net 177 = .ok (.iload 5, 2) := by decide +kernel
theorem dX11_net_179 : decode cX11_net 179 = .ok (.aload_n 0, 1) := by decide +kernel
theorem dX11_net_180 : decode cX11_net 180 = .ok (.getfield 122, 3) := by decide +kernel
theorem dX11_net_183 : decode cX11_net 183 = .ok (.irem, 1) := by decide +kernel
theorem dX11_net_184 : decode cX11_net 184 = .ok (.iadd, 1) := by decide +kernel
theorem dX11_net_185 : decode cX11_net 185 = .ok (.istore 6, 2) := by decide +kernel
theorem dX11_net_187 : decode cX11_net 187 = .ok (.aload_n 0, 1) := by decide +kernel
theorem dX11_net_188 : decode cX11_net 188 = .ok (.getfield 119, 3) := by decide +kernel
theorem dX11_net_191 : decode cX11_net 191 = .ok (.bipush 64, 2) := by decide +kernel
theorem dX11_net_193 : decode cX11_net 193 = .ok (.iload_n 1, 1) := by decide +kernel
theorem dX11_net_194 : decode cX11_net 194 = .ok (.imul, 1) := by decide +kernel
theorem dX11_net_195 : decode cX11_net 195 = .ok (.iload_n 3, 1) := by decide +kernel
theorem dX11_net_196 : decode cX11_net 196 = .ok (.iadd, 1) := by decide +kernel
theorem dX11_net_197 : decode cX11_net 197 = .ok (.iload 5, 2) := by decide +kernel
theorem dX11_net_199 : decode cX11_net 199 = .ok (.iadd, 1) := by decide +kernel
theorem dX11_net_200 : decode cX11_net 200 = .ok (.iaload, 1) := by decide +kernel
theorem dX11_net_201 : decode cX11_net 201 = .ok (.istore 7, 2) := by decide +kernel
theorem dX11_net_203 : decode cX11_net 203 = .ok (.iload 4, 2) := by decide +kernel
theorem dX11_net_205 : decode cX11_net 205 = .ok (.aload_n 0, 1) := by decide +kernel
theorem dX11_net_206 : decode cX11_net 206 = .ok (.getfield 22, 3) := by decide +kernel
theorem dX11_net_209 : decode cX11_net 209 = .ok (.iload 6, 2) := by decide +kernel
theorem dX11_net_211 : decode cX11_net 211 = .ok (.iaload, 1) := by decide +kernel
theorem dX11_net_212 : decode cX11_net 212 = .ok (.iload 7, 2) := by decide +kernel
theorem dX11_net_214 : decode cX11_net 214 = .ok (.if_icmp .eq 7, 3) := by decide +kernel
theorem dX11_net_217 : decode cX11_net 217 = .ok (.iconst 1, 1) := by decide +kernel
theorem dX11_net_218 : decode cX11_net 218 = .ok (.goto 4, 3) := by decide +kernel
theorem dX11_net_221 : decode cX11_net 221 = .ok (.iconst 0, 1) := by decide +kernel
theorem dX11_net_222 : decode cX11_net 222 = .ok (.iadd, 1) := by decide +kernel
theorem dX11_net_223 : decode cX11_net 223 = .ok (.istore 4, 2) := by decide +kernel
theorem dX11_net_225 : decode cX11_net 225 = .ok (.aload_n 0, 1) := by decide +kernel
theorem dX11_net_226 : decode cX11_net 226 = .ok (.getfield 22, 3) := by decide +kernel
theorem dX11_net_229 : decode cX11_net 229 = .ok (.iload 6, 2) := by decide +kernel
theorem dX11_net_231 : decode cX11_net 231 = .ok (.iload 7, 2) := by decide +kernel
theorem dX11_net_233 : decode cX11_net 233 = .ok (.iastore, 1) := by decide +kernel
theorem dX11_net_234 : decode cX11_net 234 = .ok (.iinc 5 1, 3) := by decide +kernel
theorem dX11_net_237 : decode cX11_net 237 = .ok (.goto (-84), 3) := by decide +kernel
theorem dX11_net_240 : decode cX11_net 240 = .ok (.iload 4, 2) := by decide +kernel
theorem dX11_net_242 : decode cX11_net 242 = .ok (.ireturn, 1) := by decide +kernel
theorem dX11_count_0 : decode cX11_count 0 = .ok (.iconst 0, 1) := by decide +kernel
theorem dX11_count_1 : decode cX11_count 1 = .ok (.istore_n 2, 1) := by decide +kernel
theorem dX11_count_2 : decode cX11_count 2 = .ok (.iconst 0, 1) := by decide +kernel
theorem dX11_count_3 : decode cX11_count 3 = .ok (.istore_n 3, 1) := by decide +kernel
theorem dX11_count_4 : decode cX11_count 4 = .ok (.iload_n 3, 1) := by decide +kernel
theorem dX11_count_5 : decode cX11_count 5 = .ok (.aload_n 0, 1) := by decide +kernel
theorem dX11_count_6 : decode cX11_count 6 = .ok (.getfield 122, 3) := by decide +kernel
theorem dX11_count_9 : decode cX11_count 9 = .ok (.if_icmp .ge 17, 3) := by decide +kernel
theorem dX11_count_12 : decode cX11_count 12 = .ok (.iload_n 2, 1) := by decide +kernel
theorem dX11_count_13 : decode cX11_count 13 = .ok (.aload_n 0, 1) := by decide +kernel
theorem dX11_count_14 : decode cX11_count 14 = .ok (.iload_n 3, 1) := by decide +kernel
theorem dX11_count_15 : decode cX11_count 15 = .ok (.invokevirtual 157, 3) := by decide +kernel
theorem dX11_count_18 : decode cX11_count 18 = .ok (.iadd, 1) := by decide +kernel
theorem dX11_count_19 : decode cX11_count 19 = .ok (.istore_n 2, 1) := by decide +kernel
theorem dX11_count_20 : decode cX11_count 20 = .ok (.iinc 3 1, 3) := by decide +kernel
theorem dX11_count_23 : decode cX11_count 23 = .ok (.goto (-19), 3) := by decide +kernel
theorem dX11_count_26 : decode cX11_count 26 = .ok (.iload_n 1, 1) := by decide +kernel
theorem dX11_count_27 : decode cX11_count 27 = .ok (.tableswitch 91 0 6 #[41, 46, 51, 56, 58, 63, 68], 41) := by decide +kernel
theorem dX11_count_68 : decode cX11_count 68 = .ok (.aload_n 0, 1) := by decide +kernel
theorem dX11_count_69 : decode cX11_count 69 = .ok (.getfield 122, 3) := by decide +kernel
theorem dX11_count_72 : decode cX11_count 72 = .ok (.ireturn, 1) := by decide +kernel
theorem dX11_count_73 : decode cX11_count 73 = .ok (.aload_n 0, 1) := by decide +kernel
theorem dX11_count_74 : decode cX11_count 74 = .ok (.getfield 130, 3) := by decide +kernel
theorem dX11_count_77 : decode cX11_count 77 = .ok (.ireturn, 1) := by decide +kernel
theorem dX11_count_78 : decode cX11_count 78 = .ok (.aload_n 0, 1) := by decide +kernel
theorem dX11_count_79 : decode cX11_count 79 = .ok (.getfield 211, 3) := by decide +kernel
theorem dX11_count_82 : decode cX11_count 82 = .ok (.ireturn, 1) := by decide +kernel
theorem dX11_count_83 : decode cX11_count 83 = .ok (.iload_n 2, 1) := by decide +kernel
theorem dX11_count_84 : decode cX11_count 84 = .ok (.ireturn, 1) := by decide +kernel
theorem dX11_count_85 : decode cX11_count 85 = .ok (.aload_n 0, 1) := by decide +kernel
theorem dX11_count_86 : decode cX11_count 86 = .ok (.invokevirtual 143, 3) := by decide +kernel
theorem dX11_count_89 : decode cX11_count 89 = .ok (.ireturn, 1) := by decide +kernel
theorem dX11_count_90 : decode cX11_count 90 = .ok (.aload_n 0, 1) := by decide +kernel
theorem dX11_count_91 : decode cX11_count 91 = .ok (.getfield 161, 3) := by decide +kernel
theorem dX11_count_94 : decode cX11_count 94 = .ok (.ireturn, 1) := by decide +kernel
theorem dX11_count_95 : decode cX11_count 95 = .ok (.aload_n 0, 1) := by decide +kernel
theorem dX11_count_96 : decode cX11_count 96 = .ok (.getfield 113, 3) := by decide +kernel
theorem dX11_count_99 : decode cX11_count 99 = .ok (.iconst 0, 1) := by decide +kernel
theorem dX11_count_100 : decode cX11_count 100 = .ok (.iaload, 1) := by decide +kernel
theorem dX11_count_101 : decode cX11_count 101 = .ok (.bipush (-4), 2) := by decide +kernel
theorem dX11_count_103 : decode cX11_count 103 = .ok (.if_icmp .ne 8, 3) := by decide +kernel
theorem dX11_count_106 : decode cX11_count 106 = .ok (.bipush (-4), 2) := by decide +kernel
theorem dX11_count_108 : decode cX11_count 108 = .ok (.goto 9, 3) := by decide +kernel
theorem dX11_count_111 : decode cX11_count 111 = .ok (.aload_n 0, 1) := by decide +kernel
theorem dX11_count_112 : decode cX11_count 112 = .ok (.getfield 116, 3) := by decide +kernel
theorem dX11_count_115 : decode cX11_count 115 = .ok (.iconst 0, 1) := by decide +kernel
theorem dX11_count_116 : decode cX11_count 116 = .ok (.iaload, 1) := by decide +kernel
theorem dX11_count_117 : decode cX11_count 117 = .ok (.ireturn, 1) := by decide +kernel
theorem dX11_count_118 : decode cX11_count 118 = .ok (.iconst (-1), 1) := by decide +kernel
theorem dX11_count_119 : decode cX11_count 119 = .ok (.ireturn, 1) := by decide +kernel
