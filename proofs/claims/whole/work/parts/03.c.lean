theorem dX8_init_0 : decode cX8_init 0 = .ok (.aload_n 0, 1) := by decide +kernel
theorem dX8_init_1 : decode cX8_init 1 = .ok (.invokespecial 1, 3) := by decide +kernel
theorem dX8_init_4 : decode cX8_init 4 = .ok (.aload_n 0, 1) := by decide +kernel
theorem dX8_init_5 : decode cX8_init 5 = .ok (.sipush 192, 3) := by decide +kernel
theorem dX8_init_8 : decode cX8_init 8 = .ok (.newarray .int, 2) := by decide +kernel
theorem dX8_init_10 : decode cX8_init 10 = .ok (.putfield 9, 3) := by decide +kernel
theorem dX8_init_13 : decode cX8_init 13 = .ok (.aload_n 0, 1) := by decide +kernel
theorem dX8_init_14 : decode cX8_init 14 = .ok (.sipush 192, 3) := by decide +kernel
theorem dX8_init_17 : decode cX8_init 17 = .ok (.newarray .int, 2) := by decide +kernel
theorem dX8_init_19 : decode cX8_init 19 = .ok (.putfield 13, 3) := by decide +kernel
theorem dX8_init_22 : decode cX8_init 22 = .ok (.aload_n 0, 1) := by decide +kernel
theorem dX8_init_23 : decode cX8_init 23 = .ok (.sipush 192, 3) := by decide +kernel
theorem dX8_init_26 : decode cX8_init 26 = .ok (.newarray .int, 2) := by decide +kernel
theorem dX8_init_28 : decode cX8_init 28 = .ok (.putfield 16, 3) := by decide +kernel
theorem dX8_init_31 : decode cX8_init 31 = .ok (.aload_n 0, 1) := by decide +kernel
theorem dX8_init_32 : decode cX8_init 32 = .ok (.sipush 192, 3) := by decide +kernel
theorem dX8_init_35 : decode cX8_init 35 = .ok (.newarray .int, 2) := by decide +kernel
theorem dX8_init_37 : decode cX8_init 37 = .ok (.putfield 19, 3) := by decide +kernel
theorem dX8_init_40 : decode cX8_init 40 = .ok (.aload_n 0, 1) := by decide +kernel
theorem dX8_init_41 : decode cX8_init 41 = .ok (.sipush 1536, 3) := by decide +kernel
theorem dX8_init_44 : decode cX8_init 44 = .ok (.newarray .int, 2) := by decide +kernel
theorem dX8_init_46 : decode cX8_init 46 = .ok (.putfield 22, 3) := by decide +kernel
theorem dX8_init_49 : decode cX8_init 49 = .ok (.aload_n 0, 1) := by decide +kernel
theorem dX8_init_50 : decode cX8_init 50 = .ok (.iconst (-1), 1) := by decide +kernel
theorem dX8_init_51 : decode cX8_init 51 = .ok (.putfield 25, 3) := by decide +kernel
theorem dX8_init_54 : decode cX8_init 54 = .ok (.aload_n 0, 1) := by decide +kernel
theorem dX8_init_55 : decode cX8_init 55 = .ok (.iconst (-1), 1) := by decide +kernel
theorem dX8_init_56 : decode cX8_init 56 = .ok (.putfield 29, 3) := by decide +kernel
theorem dX8_init_59 : decode cX8_init 59 = .ok (.aload_n 0, 1) := by decide +kernel
theorem dX8_init_60 : decode cX8_init 60 = .ok (.bipush 60, 2) := by decide +kernel
theorem dX8_init_62 : decode cX8_init 62 = .ok (.newarray .int, 2) := by decide +kernel
theorem dX8_init_64 : decode cX8_init 64 = .ok (.putfield 32, 3) := by decide +kernel
theorem dX8_init_67 : decode cX8_init 67 = .ok (.aload_n 0, 1) := by decide +kernel
theorem dX8_init_68 : decode cX8_init 68 = .ok (.bipush 9, 2) := by decide +kernel
theorem dX8_init_70 : decode cX8_init 70 = .ok (.newarray .int, 2) := by decide +kernel
theorem dX8_init_72 : decode cX8_init 72 = .ok (.putfield 35, 3) := by decide +kernel
theorem dX8_init_75 : decode cX8_init 75 = .ok (.aload_n 0, 1) := by decide +kernel
theorem dX8_init_76 : decode cX8_init 76 = .ok (.bipush 12, 2) := by decide +kernel
theorem dX8_init_78 : decode cX8_init 78 = .ok (.newarray .int, 2) := by decide +kernel
theorem dX8_init_80 : decode cX8_init 80 = .ok (.putfield 38, 3) := by decide +kernel
theorem dX8_init_83 : decode cX8_init 83 = .ok (.aload_n 0, 1) := by decide +kernel
theorem dX8_init_84 : decode cX8_init 84 = .ok (.bipush 60, 2) := by decide +kernel
theorem dX8_init_86 : decode cX8_init 86 = .ok (.newarray .int, 2) := by decide +kernel
theorem dX8_init_88 : decode cX8_init 88 = .ok (.putfield 41, 3) := by decide +kernel
theorem dX8_init_91 : decode cX8_init 91 = .ok (.aload_n 0, 1) := by decide +kernel
theorem dX8_init_92 : decode cX8_init 92 = .ok (.bipush 57, 2) := by decide +kernel
theorem dX8_init_94 : decode cX8_init 94 = .ok (.newarray .char, 2) := by decide +kernel
theorem dX8_init_96 : decode cX8_init 96 = .ok (.dup, 1) := by decide +kernel
theorem dX8_init_97 : decode cX8_init 97 = .ok (.iconst 0, 1) := by decide +kernel
theorem dX8_init_98 : decode cX8_init 98 = .ok (.bipush 112, 2) := by decide +kernel
theorem dX8_init_100 : decode cX8_init 100 = .ok (.castore, 1) := by decide +kernel
theorem dX8_init_101 : decode cX8_init 101 = .ok (.dup, 1) := by decide +kernel
theorem dX8_init_102 : decode cX8_init 102 = .ok (.iconst 1, 1) := by decide +kernel
theorem dX8_init_103 : decode cX8_init 103 = .ok (.bipush 108, 2) := by decide +kernel
theorem dX8_init_105 : decode cX8_init 105 = .ok (.castore, 1) := by decide +kernel
theorem dX8_init_106 : decode cX8_init 106 = .ok (.dup, 1) := by decide +kernel
theorem dX8_init_107 : decode cX8_init 107 = .ok (.iconst 2, 1) := by decide +kernel
theorem dX8_init_108 : decode cX8_init 108 = .ok (.bipush 97, 2) := by decide +kernel
theorem dX8_init_110 : decode cX8_init 110 = .ok (.castore, 1) := by decide +kernel
theorem dX8_init_111 : decode cX8_init 111 = .ok (.dup, 1) := by decide +kernel
theorem dX8_init_112 : decode cX8_init 112 = .ok (.iconst 3, 1) := by decide +kernel
theorem dX8_init_113 : decode cX8_init 113 = .ok (.bipush 99, 2) := by decide +kernel
theorem dX8_init_115 : decode cX8_init 115 = .ok (.castore, 1) := by decide +kernel
theorem dX8_init_116 : decode cX8_init 116 = .ok (.dup, 1) := by decide +kernel
theorem dX8_init_117 : decode cX8_init 117 = .ok (.iconst 4, 1) := by decide +kernel
theorem dX8_init_118 : decode cX8_init 118 = .ok (.bipush 101, 2) := by decide +kernel
theorem dX8_init_120 : decode cX8_init 120 = .ok (.castore, 1) := by decide +kernel
theorem dX8_init_121 : decode cX8_init 121 = .ok (.dup, 1) := by decide +kernel
theorem dX8_init_122 : decode cX8_init 122 = .ok (.iconst 5, 1) := by decide +kernel
theorem dX8_init_123 : decode cX8_init 123 = .ok (.bipush 108, 2) := by decide +kernel
theorem dX8_init_125 : decode cX8_init 125 = .ok (.castore, 1) := by decide +kernel
theorem dX8_init_126 : decode cX8_init 126 = .ok (.dup, 1) := by decide +kernel
theorem dX8_init_127 : decode cX8_init 127 = .ok (.bipush 6, 2) := by decide +kernel
theorem dX8_init_129 : decode cX8_init 129 = .ok (.bipush 105, 2) := by decide +kernel
theorem dX8_init_131 : decode cX8_init 131 = .ok (.castore, 1) := by decide +kernel
theorem dX8_init_132 : decode cX8_init 132 = .ok (.dup, 1) := by decide +kernel
theorem dX8_init_133 : decode cX8_init 133 = .ok (.bipush 7, 2) := by decide +kernel
theorem dX8_init_135 : decode cX8_init 135 = .ok (.bipush 110, 2) := by decide +kernel
theorem dX8_init_137 : decode cX8_init 137 = .ok (.castore, 1) := by decide +kernel
theorem dX8_init_138 : decode cX8_init 138 = .ok (.dup, 1) := by decide +kernel
theorem dX8_init_139 : decode cX8_init 139 = .ok (.bipush 8, 2) := by decide +kernel
theorem dX8_init_141 : decode cX8_init 141 = .ok (.bipush 107, 2) := by decide +kernel
theorem dX8_init_143 : decode cX8_init 143 = .ok (.castore, 1) := by decide +kernel
theorem dX8_init_144 : decode cX8_init 144 = .ok (.dup, 1) := by decide +kernel
theorem dX8_init_145 : decode cX8_init 145 = .ok (.bipush 9, 2) := by decide +kernel
theorem dX8_init_147 : decode cX8_init 147 = .ok (.bipush 32, 2) := by decide +kernel
theorem dX8_init_149 : decode cX8_init 149 = .ok (.castore, 1) := by decide +kernel
theorem dX8_init_150 : decode cX8_init 150 = .ok (.dup, 1) := by decide +kernel
theorem dX8_init_151 : decode cX8_init 151 = .ok (.bipush 10, 2) := by decide +kernel
theorem dX8_init_153 : decode cX8_init 153 = .ok (.bipush 98, 2) := by decide +kernel
theorem dX8_init_155 : decode cX8_init 155 = .ok (.castore, 1) := by decide +kernel
theorem dX8_init_156 : decode cX8_init 156 = .ok (.dup, 1) := by decide +kernel
theorem dX8_init_157 : decode cX8_init 157 = .ok (.bipush 11, 2) := by decide +kernel
theorem dX8_init_159 : decode cX8_init 159 = .ok (.bipush 108, 2) := by decide +kernel
theorem dX8_init_161 : decode cX8_init 161 = .ok (.castore, 1) := by decide +kernel
theorem dX8_init_162 : decode cX8_init 162 = .ok (.dup, 1) := by decide +kernel
theorem dX8_init_163 : decode cX8_init 163 = .ok (.bipush 12, 2) := by decide +kernel
theorem dX8_init_165 : decode cX8_init 165 = .ok (.bipush 111, 2) := by decide +kernel
theorem dX8_init_167 : decode cX8_init 167 = .ok (.castore, 1) := by decide +kernel
theorem dX8_init_168 : decode cX8_init 168 = .ok (.dup, 1) := by decide +kernel
theorem dX8_init_169 : decode cX8_init 169 = .ok (.bipush 13, 2) := by decide +kernel
theorem dX8_init_171 : decode cX8_init 171 = .ok (.bipush 99, 2) := by decide +kernel
theorem dX8_init_173 : decode cX8_init 173 = .ok (.castore, 1) := by decide +kernel
theorem dX8_init_174 : decode cX8_init 174 = .ok (.dup, 1) := by decide +kernel
theorem dX8_init_175 : decode cX8_init 175 = .ok (.bipush 14, 2) := by decide +kernel
theorem dX8_init_177 : decode cX8_init 177 = .ok (.bipush 107, 2) := by decide +kernel
theorem dX8_init_179 : decode cX8_init 179 = .ok (.castore, 1) := by decide +kernel
theorem dX8_init_180 : decode cX8_init 180 = .ok (.dup, 1) := by decide +kernel
theorem dX8_init_181 : decode cX8_init 181 = .ok (.bipush 15, 2) := by decide +kernel
theorem dX8_init_183 : decode cX8_init 183 = .ok (.bipush 32, 2) := by decide +kernel
theorem dX8_init_185 : decode cX8_init 185 = .ok (.castore, 1) := by decide +kernel
theorem dX8_init_186 : decode cX8_init 186 = .ok (.dup, 1) := by decide +kernel
theorem dX8_init_187 : decode cX8_init 187 = .ok (.bipush 16, 2) := by decide +kernel
theorem dX8_init_189 : decode cX8_init 189 = .ok (.bipush 111, 2) := by decide +kernel
theorem dX8_init_191 : decode cX8_init 191 = .ok (.castore, 1) := by decide +kernel
theorem dX8_init_192 : decode cX8_init 192 = .ok (.dup, 1) := by decide +kernel
theorem dX8_init_193 : decode cX8_init 193 = .ok (.bipush 17, 2) := by decide +kernel
theorem dX8_init_195 : decode cX8_init 195 = .ok (.bipush 112, 2) := by decide +kernel
theorem dX8_init_197 : decode cX8_init 197 = .ok (.castore, 1) := by decide +kernel
theorem dX8_init_198 : decode cX8_init 198 = .ok (.dup, 1) := by decide +kernel
theorem dX8_init_199 : decode cX8_init 199 = .ok (.bipush 18, 2) := by decide +kernel
theorem dX8_init_201 : decode cX8_init 201 = .ok (.bipush 101, 2) := by decide +kernel
theorem dX8_init_203 : decode cX8_init 203 = .ok (.castore, 1) := by decide +kernel
theorem dX8_init_204 : decode cX8_init 204 = .ok (.dup, 1) := by decide +kernel
theorem dX8_init_205 : decode cX8_init 205 = .ok (.bipush 19, 2) := by decide +kernel
theorem dX8_init_207 : decode cX8_init 207 = .ok (.bipush 110, 2) := by decide +kernel
theorem dX8_init_209 : decode cX8_init 209 = .ok (.castore, 1) := by decide +kernel
theorem dX8_init_210 : decode cX8_init 210 = .ok (.dup, 1) := by decide +kernel
theorem dX8_init_211 : decode cX8_init 211 = .ok (.bipush 20, 2) := by decide +kernel
theorem dX8_init_213 : decode cX8_init 213 = .ok (.bipush 32, 2) := by decide +kernel
theorem dX8_init_215 : decode cX8_init 215 = .ok (.castore, 1) := by decide +kernel
theorem dX8_init_216 : decode cX8_init 216 = .ok (.dup, 1) := by decide +kernel
theorem dX8_init_217 : decode cX8_init 217 = .ok (.bipush 21, 2) := by decide +kernel
theorem dX8_init_219 : decode cX8_init 219 = .ok (.bipush 112, 2) := by decide +kernel
theorem dX8_init_221 : decode cX8_init 221 = .ok (.castore, 1) := by decide +kernel
theorem dX8_init_222 : decode cX8_init 222 = .ok (.dup, 1) := by decide +kernel
theorem dX8_init_223 : decode cX8_init 223 = .ok (.bipush 22, 2) := by decide +kernel
theorem dX8_init_225 : decode cX8_init 225 = .ok (.bipush 111, 2) := by decide +kernel
theorem dX8_init_227 : decode cX8_init 227 = .ok (.castore, 1) := by decide +kernel
theorem dX8_init_228 : decode cX8_init 228 = .ok (.dup, 1) := by decide +kernel
theorem dX8_init_229 : decode cX8_init 229 = .ok (.bipush 23, 2) := by decide +kernel
theorem dX8_init_231 : decode cX8_init 231 = .ok (.bipush 115, 2) := by decide +kernel
theorem dX8_init_233 : decode cX8_init 233 = .ok (.castore, 1) := by decide +kernel
theorem dX8_init_234 : decode cX8_init 234 = .ok (.dup, 1) := by decide +kernel
theorem dX8_init_235 : decode cX8_init 235 = .ok (.bipush 24, 2) := by decide +kernel
theorem dX8_init_237 : decode cX8_init 237 = .ok (.bipush 116, 2) := by decide +kernel
theorem dX8_init_239 : decode cX8_init 239 = .ok (.castore, 1) := by decide +kernel
theorem dX8_init_240 : decode cX8_init 240 = .ok (.dup, 1) := by decide +kernel
theorem dX8_init_241 : decode cX8_init 241 = .ok (.bipush 25, 2) := by decide +kernel
theorem dX8_init_243 : decode cX8_init 243 = .ok (.bipush 32, 2) := by decide +kernel
theorem dX8_init_245 : decode cX8_init 245 = .ok (.castore, 1) := by decide +kernel
theorem dX8_init_246 : decode cX8_init 246 = .ok (.dup, 1) := by decide +kernel
theorem dX8_init_247 : decode cX8_init 247 = .ok (.bipush 26, 2) := by decide +kernel
theorem dX8_init_249 : decode cX8_init 249 = .ok (.bipush 115, 2) := by decide +kernel
theorem dX8_init_251 : decode cX8_init 251 = .ok (.castore, 1) := by decide +kernel
theorem dX8_init_252 : decode cX8_init 252 = .ok (.dup, 1) := by decide +kernel
theorem dX8_init_253 : decode cX8_init 253 = .ok (.bipush 27, 2) := by decide +kernel
theorem dX8_init_255 : decode cX8_init 255 = .ok (.bipush 101, 2) := by decide +kernel
theorem dX8_init_257 : decode cX8_init 257 = .ok (.castore, 1) := by decide +kernel
theorem dX8_init_258 : decode cX8_init 258 = .ok (.dup, 1) := by decide +kernel
theorem dX8_init_259 : decode cX8_init 259 = .ok (.bipush 28, 2) := by decide +kernel
theorem dX8_init_261 : decode cX8_init 261 = .ok (.bipush 110, 2) := by decide +kernel
theorem dX8_init_263 : decode cX8_init 263 = .ok (.castore, 1) := by decide +kernel
theorem dX8_init_264 : decode cX8_init 264 = .ok (.dup, 1) := by decide +kernel
theorem dX8_init_265 : decode cX8_init 265 = .ok (.bipush 29, 2) := by decide +kernel
theorem dX8_init_267 : decode cX8_init 267 = .ok (.bipush 100, 2) := by decide +kernel
theorem dX8_init_269 : decode cX8_init 269 = .ok (.castore, 1) := by decide +kernel
theorem dX8_init_270 : decode cX8_init 270 = .ok (.dup, 1) := by decide +kernel
theorem dX8_init_271 : decode cX8_init 271 = .ok (.bipush 30, 2) := by decide +kernel
theorem dX8_init_273 : decode cX8_init 273 = .ok (.bipush 32, 2) := by decide +kernel
theorem dX8_init_275 : decode cX8_init 275 = .ok (.castore, 1) := by decide +kernel
theorem dX8_init_276 : decode cX8_init 276 = .ok (.dup, 1) := by decide +kernel
theorem dX8_init_277 : decode cX8_init 277 = .ok (.bipush 31, 2) := by decide +kernel
theorem dX8_init_279 : decode cX8_init 279 = .ok (.bipush 115, 2) := by decide +kernel
theorem dX8_init_281 : decode cX8_init 281 = .ok (.castore, 1) := by decide +kernel
theorem dX8_init_282 : decode cX8_init 282 = .ok (.dup, 1) := by decide +kernel
theorem dX8_init_283 : decode cX8_init 283 = .ok (.bipush 32, 2) := by decide +kernel
theorem dX8_init_285 : decode cX8_init 285 = .ok (.bipush 116, 2) := by decide +kernel
theorem dX8_init_287 : decode cX8_init 287 = .ok (.castore, 1) := by decide +kernel
theorem dX8_init_288 : decode cX8_init 288 = .ok (.dup, 1) := by decide +kernel
theorem dX8_init_289 : decode cX8_init 289 = .ok (.bipush 33, 2) := by decide +kernel
theorem dX8_init_291 : decode cX8_init 291 = .ok (.bipush 97, 2) := by decide +kernel
theorem dX8_init_293 : decode cX8_init 293 = .ok (.castore, 1) := by decide +kernel
theorem dX8_init_294 : decode cX8_init 294 = .ok (.dup, 1) := by decide +kernel
theorem dX8_init_295 : decode cX8_init 295 = .ok (.bipush 34, 2) := by decide +kernel
theorem dX8_init_297 : decode cX8_init 297 = .ok (.bipush 109, 2) := by decide +kernel
theorem dX8_init_299 : decode cX8_init 299 = .ok (.castore, 1) := by decide +kernel
theorem dX8_init_300 : decode cX8_init 300 = .ok (.dup, 1) := by decide +kernel
theorem dX8_init_301 : decode cX8_init 301 = .ok (.bipush 35, 2) := by decide +kernel
theorem dX8_init_303 : decode cX8_init 303 = .ok (.bipush 112, 2) := by decide +kernel
theorem dX8_init_305 : decode cX8_init 305 = .ok (.castore, 1) := by decide +kernel
theorem dX8_init_306 : decode cX8_init 306 = .ok (.dup, 1) := by decide +kernel
theorem dX8_init_307 : decode cX8_init 307 = .ok (.bipush 36, 2) := by decide +kernel
theorem dX8_init_309 : decode cX8_init 309 = .ok (.bipush 32, 2) := by decide +kernel
theorem dX8_init_311 : decode cX8_init 311 = .ok (.castore, 1) := by decide +kernel
theorem dX8_init_312 : decode cX8_init 312 = .ok (.dup, 1) := by decide +kernel
theorem dX8_init_313 : decode cX8_init 313 = .ok (.bipush 37, 2) := by decide +kernel
theorem dX8_init_315 : decode cX8_init 315 = .ok (.bipush 114, 2) := by decide +kernel
theorem dX8_init_317 : decode cX8_init 317 = .ok (.castore, 1) := by decide +kernel
theorem dX8_init_318 : decode cX8_init 318 = .ok (.dup, 1) := by decide +kernel
theorem dX8_init_319 : decode cX8_init 319 = .ok (.bipush 38, 2) := by decide +kernel
theorem dX8_init_321 : decode cX8_init 321 = .ok (.bipush 101, 2) := by decide +kernel
theorem dX8_init_323 : decode cX8_init 323 = .ok (.castore, 1) := by decide +kernel
theorem dX8_init_324 : decode cX8_init 324 = .ok (.dup, 1) := by decide +kernel
theorem dX8_init_325 : decode cX8_init 325 = .ok (.bipush 39, 2) := by decide +kernel
theorem dX8_init_327 : decode cX8_init 327 = .ok (.bipush 116, 2) := by decide +kernel
theorem dX8_init_329 : decode cX8_init 329 = .ok (.castore, 1) := by decide +kernel
theorem dX8_init_330 : decode cX8_init 330 = .ok (.dup, 1) := by decide +kernel
theorem dX8_init_331 : decode cX8_init 331 = .ok (.bipush 40, 2) := by decide +kernel
theorem dX8_init_333 : decode cX8_init 333 = .ok (.bipush 117, 2) := by decide +kernel
theorem dX8_init_335 : decode cX8_init 335 = .ok (.castore, 1) := by decide +kernel
theorem dX8_init_336 : decode cX8_init 336 = .ok (.dup, 1) := by decide +kernel
theorem dX8_init_337 : decode cX8_init 337 = .ok (.bipush 41, 2) := by decide +kernel
theorem dX8_init_339 : decode cX8_init 339 = .ok (.bipush 114, 2) := by decide +kernel
theorem dX8_init_341 : decode cX8_init 341 = .ok (.castore, 1) := by decide +kernel
theorem dX8_init_342 : decode cX8_init 342 = .ok (.dup, 1) := by decide +kernel
theorem dX8_init_343 : decode cX8_init 343 = .ok (.bipush 42, 2) := by decide +kernel
theorem dX8_init_345 : decode cX8_init 345 = .ok (.bipush 110, 2) := by decide +kernel
theorem dX8_init_347 : decode cX8_init 347 = .ok (.castore, 1) := by decide +kernel
theorem dX8_init_348 : decode cX8_init 348 = .ok (.dup, 1) := by decide +kernel
theorem dX8_init_349 : decode cX8_init 349 = .ok (.bipush 43, 2) := by decide +kernel
theorem dX8_init_351 : decode cX8_init 351 = .ok (.bipush 32, 2) := by decide +kernel
theorem dX8_init_353 : decode cX8_init 353 = .ok (.castore, 1) := by decide +kernel
theorem dX8_init_354 : decode cX8_init 354 = .ok (.dup, 1) := by decide +kernel
theorem dX8_init_355 : decode cX8_init 355 = .ok (.bipush 44, 2) := by decide +kernel
theorem dX8_init_357 : decode cX8_init 357 = .ok (.bipush 100, 2) := by decide +kernel
theorem dX8_init_359 : decode cX8_init 359 = .ok (.castore, 1) := by decide +kernel
theorem dX8_init_360 : decode cX8_init 360 = .ok (.dup, 1) := by decide +kernel
theorem dX8_init_361 : decode cX8_init 361 = .ok (.bipush 45, 2) := by decide +kernel
theorem dX8_init_363 : decode cX8_init 363 = .ok (.bipush 105, 2) := by decide +kernel
theorem dX8_init_365 : decode cX8_init 365 = .ok (.castore, 1) := by decide +kernel
theorem dX8_init_366 : decode cX8_init 366 = .ok (.dup, 1) := by decide +kernel
theorem dX8_init_367 : decode cX8_init 367 = .ok (.bipush 46, 2) := by decide +kernel
theorem dX8_init_369 : decode cX8_init 369 = .ok (.bipush 115, 2) := by decide +kernel
theorem dX8_init_371 : decode cX8_init 371 = .ok (.castore, 1) := by decide +kernel
theorem dX8_init_372 : decode cX8_init 372 = .ok (.dup, 1) := by decide +kernel
theorem dX8_init_373 : decode cX8_init 373 = .ok (.bipush 47, 2) := by decide +kernel
theorem dX8_init_375 : decode cX8_init 375 = .ok (.bipush 112, 2) := by decide +kernel
theorem dX8_init_377 : decode cX8_init 377 = .ok (.castore, 1) := by decide +kernel
theorem dX8_init_378 : decode cX8_init 378 = .ok (.dup, 1) := by decide +kernel
theorem dX8_init_379 : decode cX8_init 379 = .ok (.bipush 48, 2) := by decide +kernel
theorem dX8_init_381 : decode cX8_init 381 = .ok (.bipush 97, 2) := by decide +kernel
theorem dX8_init_383 : decode cX8_init 383 = .ok (.castore, 1) := by decide +kernel
theorem dX8_init_384 : decode cX8_init 384 = .ok (.dup, 1) := by decide +kernel
theorem dX8_init_385 : decode cX8_init 385 = .ok (.bipush 49, 2) := by decide +kernel
theorem dX8_init_387 : decode cX8_init 387 = .ok (.bipush 116, 2) := by decide +kernel
theorem dX8_init_389 : decode cX8_init 389 = .ok (.castore, 1) := by decide +kernel
theorem dX8_init_390 : decode cX8_init 390 = .ok (.dup, 1) := by decide +kernel
theorem dX8_init_391 : decode cX8_init 391 = .ok (.bipush 50, 2) := by decide +kernel
theorem dX8_init_393 : decode cX8_init 393 = .ok (.bipush 99, 2) := by decide +kernel
theorem dX8_init_395 : decode cX8_init 395 = .ok (.castore, 1) := by decide +kernel
theorem dX8_init_396 : decode cX8_init 396 = .ok (.dup, 1) := by decide +kernel
theorem dX8_init_397 : decode cX8_init 397 = .ok (.bipush 51, 2) := by decide +kernel
theorem dX8_init_399 : decode cX8_init 399 = .ok (.bipush 104, 2) := by decide +kernel
theorem dX8_init_401 : decode cX8_init 401 = .ok (.castore, 1) := by decide +kernel
theorem dX8_init_402 : decode cX8_init 402 = .ok (.dup, 1) := by decide +kernel
theorem dX8_init_403 : decode cX8_init 403 = .ok (.bipush 52, 2) := by decide +kernel
theorem dX8_init_405 : decode cX8_init 405 = .ok (.bipush 104, 2) := by decide +kernel
theorem dX8_init_407 : decode cX8_init 407 = .ok (.castore, 1) := by decide +kernel
theorem dX8_init_408 : decode cX8_init 408 = .ok (.dup, 1) := by decide +kernel
theorem dX8_init_409 : decode cX8_init 409 = .ok (.bipush 53, 2) := by decide +kernel
theorem dX8_init_411 : decode cX8_init 411 = .ok (.bipush 111, 2) := by decide +kernel
theorem dX8_init_413 : decode cX8_init 413 = .ok (.castore, 1) := by decide +kernel
theorem dX8_init_414 : decode cX8_init 414 = .ok (.dup, 1) := by decide +kernel
theorem dX8_init_415 : decode cX8_init 415 = .ok (.bipush 54, 2) := by decide +kernel
theorem dX8_init_417 : decode cX8_init 417 = .ok (.bipush 117, 2) := by decide +kernel
theorem dX8_init_419 : decode cX8_init 419 = .ok (.castore, 1) := by decide +kernel
theorem dX8_init_420 : decode cX8_init 420 = .ok (.dup, 1) := by decide +kernel
theorem dX8_init_421 : decode cX8_init 421 = .ok (.bipush 55, 2) := by decide +kernel
theorem dX8_init_423 : decode cX8_init 423 = .ok (.bipush 114, 2) := by decide +kernel
theorem dX8_init_425 : decode cX8_init 425 = .ok (.castore, 1) := by decide +kernel
theorem dX8_init_426 : decode cX8_init 426 = .ok (.dup, 1) := by decide +kernel
theorem dX8_init_427 : decode cX8_init 427 = .ok (.bipush 56, 2) := by decide +kernel
theorem dX8_init_429 : decode cX8_init 429 = .ok (.bipush 115, 2) := by decide +kernel
theorem dX8_init_431 : decode cX8_init 431 = .ok (.castore, 1) := by decide +kernel
theorem dX8_init_432 : decode cX8_init 432 = .ok (.putfield 44, 3) := by decide +kernel
theorem dX8_init_435 : decode cX8_init 435 = .ok (.aload_n 0, 1) := by decide +kernel
theorem dX8_init_436 : decode cX8_init 436 = .ok (.bipush 11, 2) := by decide +kernel
theorem dX8_init_438 : decode cX8_init 438 = .ok (.newarray .int, 2) := by decide +kernel
theorem dX8_init_440 : decode cX8_init 440 = .ok (.dup, 1) := by decide +kernel
theorem dX8_init_441 : decode cX8_init 441 = .ok (.iconst 0, 1) := by decide +kernel
theorem dX8_init_442 : decode cX8_init 442 = .ok (.iconst 0, 1) := by decide +kernel
theorem dX8_init_443 : decode cX8_init 443 = .ok (.iastore, 1) := by decide +kernel
theorem dX8_init_444 : decode cX8_init 444 = .ok (.dup, 1) := by decide +kernel
theorem dX8_init_445 : decode cX8_init 445 = .ok (.iconst 1, 1) := by decide +kernel
theorem dX8_init_446 : decode cX8_init 446 = .ok (.iconst 5, 1) := by decide +kernel
theorem dX8_init_447 : decode cX8_init 447 = .ok (.iastore, 1) := by decide +kernel
theorem dX8_init_448 : decode cX8_init 448 = .ok (.dup, 1) := by decide +kernel
theorem dX8_init_449 : decode cX8_init 449 = .ok (.iconst 2, 1) := by decide +kernel
theorem dX8_init_450 : decode cX8_init 450 = .ok (.bipush 10, 2) := by decide +kernel
theorem dX8_init_452 : decode cX8_init 452 = .ok (.iastore, 1) := by decide +kernel
theorem dX8_init_453 : decode cX8_init 453 = .ok (.dup, 1) := by decide +kernel
theorem dX8_init_454 : decode cX8_init 454 = .ok (.iconst 3, 1) := by decide +kernel
theorem dX8_init_455 : decode cX8_init 455 = .ok (.bipush 16, 2) := by decide +kernel
theorem dX8_init_457 : decode cX8_init 457 = .ok (.iastore, 1) := by decide +kernel
theorem dX8_init_458 : decode cX8_init 458 = .ok (.dup, 1) := by decide +kernel
theorem dX8_init_459 : decode cX8_init 459 = .ok (.iconst 4, 1) := by decide +kernel
theorem dX8_init_460 : decode cX8_init 460 = .ok (.bipush 21, 2) := by decide +kernel
theorem dX8_init_462 : decode cX8_init 462 = .ok (.iastore, 1) := by decide +kernel
theorem dX8_init_463 : decode cX8_init 463 = .ok (.dup, 1) := by decide +kernel
theorem dX8_init_464 : decode cX8_init 464 = .ok (.iconst 5, 1) := by decide +kernel
theorem dX8_init_465 : decode cX8_init 465 = .ok (.bipush 26, 2) := by decide +kernel
theorem dX8_init_467 : decode cX8_init 467 = .ok (.iastore, 1) := by decide +kernel
theorem dX8_init_468 : decode cX8_init 468 = .ok (.dup, 1) := by decide +kernel
theorem dX8_init_469 : decode cX8_init 469 = .ok (.bipush 6, 2) := by decide +kernel
theorem dX8_init_471 : decode cX8_init 471 = .ok (.bipush 31, 2) := by decide +kernel
theorem dX8_init_473 : decode cX8_init 473 = .ok (.iastore, 1) := by decide +kernel
theorem dX8_init_474 : decode cX8_init 474 = .ok (.dup, 1) := by decide +kernel
theorem dX8_init_475 : decode cX8_init 475 = .ok (.bipush 7, 2) := by decide +kernel
theorem dX8_init_477 : decode cX8_init 477 = .ok (.bipush 37, 2) := by decide +kernel
theorem dX8_init_479 : decode cX8_init 479 = .ok (.iastore, 1) := by decide +kernel
theorem dX8_init_480 : decode cX8_init 480 = .ok (.dup, 1) := by decide +kernel
theorem dX8_init_481 : decode cX8_init 481 = .ok (.bipush 8, 2) := by decide +kernel
theorem dX8_init_483 : decode cX8_init 483 = .ok (.bipush 44, 2) := by decide +kernel
theorem dX8_init_485 : decode cX8_init 485 = .ok (.iastore, 1) := by decide +kernel
theorem dX8_init_486 : decode cX8_init 486 = .ok (.dup, 1) := by decide +kernel
theorem dX8_init_487 : decode cX8_init 487 = .ok (.bipush 9, 2) := by decide +kernel
theorem dX8_init_489 : decode cX8_init 489 = .ok (.bipush 52, 2) := by decide +kernel
theorem dX8_init_491 : decode cX8_init 491 = .ok (.iastore, 1) := by decide +kernel
theorem dX8_init_492 : decode cX8_init 492 = .ok (.dup, 1) := by decide +kernel
theorem dX8_init_493 : decode cX8_init 493 = .ok (.bipush 10, 2) := by decide +kernel
theorem dX8_init_495 : decode cX8_init 495 = .ok (.bipush 57, 2) := by decide +kernel
theorem dX8_init_497 : decode cX8_init 497 = .ok (.iastore, 1) := by decide +kernel
theorem dX8_init_498 : decode cX8_init 498 = .ok (.putfield 48, 3) := by decide +kernel
theorem dX8_init_501 : decode cX8_init 501 = .ok (.aload_n 0, 1) := by decide +kernel
theorem dX8_init_502 : decode cX8_init 502 = .ok (.sipush 305, 3) := by decide +kernel
theorem dX8_init_505 : decode cX8_init 505 = .ok (.newarray .int, 2) := by decide +kernel
theorem dX8_init_507 : decode cX8_init 507 = .ok (.putfield 51, 3) := by decide +kernel
theorem dX8_init_510 : decode cX8_init 510 = .ok (.return_, 1) := by decide +kernel
theorem dX8_thrown_0 : decode cX8_thrown 0 = .ok (.aload_n 0, 1) := by decide +kernel
theorem dX8_thrown_1 : decode cX8_thrown 1 = .ok (.getfield 54, 3) := by decide +kernel
theorem dX8_thrown_4 : decode cX8_thrown 4 = .ok (.ireturn, 1) := by decide +kernel
theorem dX8_throwing_0 : decode cX8_throwing 0 = .ok (.aload_n 0, 1) := by decide +kernel
theorem dX8_throwing_1 : decode cX8_throwing 1 = .ok (.iload_n 1, 1) := by decide +kernel
theorem dX8_throwing_2 : decode cX8_throwing 2 = .ok (.putfield 54, 3) := by decide +kernel
theorem dX8_throwing_5 : decode cX8_throwing 5 = .ok (.iconst (-1), 1) := by decide +kernel
theorem dX8_throwing_6 : decode cX8_throwing 6 = .ok (.ireturn, 1) := by decide +kernel
theorem dX8_in_0 : decode cX8_in 0 = .ok (.lload_n 0, 1) := by decide +kernel
theorem dX8_in_1 : decode cX8_in 1 = .ok (.lload_n 2, 1) := by decide +kernel
theorem dX8_in_2 : decode cX8_in 2 = .ok (.lcmp, 1) := by decide +kernel
theorem dX8_in_3 : decode cX8_in 3 = .ok (.ifCond .lt 14, 3) := by decide +kernel
theorem dX8_in_6 : decode cX8_in 6 = .ok (.lload_n 0, 1) := by decide +kernel
theorem dX8_in_7 : decode cX8_in 7 = .ok (.lload 4, 2) := by decide +kernel
theorem dX8_in_9 : decode cX8_in 9 = .ok (.lcmp, 1) := by decide +kernel
theorem dX8_in_10 : decode cX8_in 10 = .ok (.ifCond .gt 7, 3) := by decide +kernel
theorem dX8_in_13 : decode cX8_in 13 = .ok (.iconst 1, 1) := by decide +kernel
theorem dX8_in_14 : decode cX8_in 14 = .ok (.goto 4, 3) := by decide +kernel
theorem dX8_in_17 : decode cX8_in 17 = .ok (.iconst 0, 1) := by decide +kernel
theorem dX8_in_18 : decode cX8_in 18 = .ok (.ireturn, 1) := by decide +kernel
theorem dX8_starts_0 : decode cX8_starts 0 = .ok (.aload_n 0, 1) := by decide +kernel
theorem dX8_starts_1 : decode cX8_starts 1 = .ok (.iconst 0, 1) := by decide +kernel
theorem dX8_starts_2 : decode cX8_starts 2 = .ok (.putfield 54, 3) := by decide +kernel
theorem dX8_starts_5 : decode cX8_starts 5 = .ok (.iconst 0, 1) := by decide +kernel
theorem dX8_starts_6 : decode cX8_starts 6 = .ok (.istore_n 1, 1) := by decide +kernel
theorem dX8_starts_7 : decode cX8_starts 7 = .ok (.iload_n 1, 1) := by decide +kernel
theorem dX8_starts_8 : decode cX8_starts 8 = .ok (.sipush 192, 3) := by decide +kernel
theorem dX8_starts_11 : decode cX8_starts 11 = .ok (.if_icmp .ge 21, 3) := by decide +kernel
theorem dX8_starts_14 : decode cX8_starts 14 = .ok (.aload_n 0, 1) := by decide +kernel
theorem dX8_starts_15 : decode cX8_starts 15 = .ok (.getfield 13, 3) := by decide +kernel
theorem dX8_starts_18 : decode cX8_starts 18 = .ok (.iload_n 1, 1) := by decide +kernel
theorem dX8_starts_19 : decode cX8_starts 19 = .ok (.aload_n 0, 1) := by decide +kernel
theorem dX8_starts_20 : decode cX8_starts 20 = .ok (.getfield 9, 3) := by decide +kernel
theorem dX8_starts_23 : decode cX8_starts 23 = .ok (.iload_n 1, 1) := by decide +kernel
theorem dX8_starts_24 : decode cX8_starts 24 = .ok (.iaload, 1) := by decide +kernel
theorem dX8_starts_25 : decode cX8_starts 25 = .ok (.iastore, 1) := by decide +kernel
theorem dX8_starts_26 : decode cX8_starts 26 = .ok (.iinc 1 1, 3) := by decide +kernel
theorem dX8_starts_29 : decode cX8_starts 29 = .ok (.goto (-22), 3) := by decide +kernel
theorem dX8_starts_32 : decode cX8_starts 32 = .ok (.return_, 1) := by decide +kernel
theorem dX8_changed_0 : decode cX8_changed 0 = .ok (.aload_n 0, 1) := by decide +kernel
theorem dX8_changed_1 : decode cX8_changed 1 = .ok (.getfield 54, 3) := by decide +kernel
theorem dX8_changed_4 : decode cX8_changed 4 = .ok (.ifCond .le 5, 3) := by decide +kernel
theorem dX8_changed_7 : decode cX8_changed 7 = .ok (.iload_n 1, 1) := by decide +kernel
theorem dX8_changed_8 : decode cX8_changed 8 = .ok (.ireturn, 1) := by decide +kernel
theorem dX8_changed_9 : decode cX8_changed 9 = .ok (.aload_n 0, 1) := by decide +kernel
theorem dX8_changed_10 : decode cX8_changed 10 = .ok (.getfield 57, 3) := by decide +kernel
theorem dX8_changed_13 : decode cX8_changed 13 = .ok (.bipush 8, 2) := by decide +kernel
theorem dX8_changed_15 : decode cX8_changed 15 = .ok (.if_icmp .ne 44, 3) := by decide +kernel
theorem dX8_changed_18 : decode cX8_changed 18 = .ok (.iconst 0, 1) := by decide +kernel
theorem dX8_changed_19 : decode cX8_changed 19 = .ok (.istore_n 2, 1) := by decide +kernel
theorem dX8_changed_20 : decode cX8_changed 20 = .ok (.iload_n 2, 1) := by decide +kernel
theorem dX8_changed_21 : decode cX8_changed 21 = .ok (.sipush 1344, 3) := by decide +kernel
theorem dX8_changed_24 : decode cX8_changed 24 = .ok (.if_icmp .ge 25, 3) := by decide +kernel
theorem dX8_changed_27 : decode cX8_changed 27 = .ok (.aload_n 0, 1) := by decide +kernel
theorem dX8_changed_28 : decode cX8_changed 28 = .ok (.getfield 22, 3) := by decide +kernel
theorem dX8_changed_31 : decode cX8_changed 31 = .ok (.iload_n 2, 1) := by decide +kernel
theorem dX8_changed_32 : decode cX8_changed 32 = .ok (.aload_n 0, 1) := by decide +kernel
theorem dX8_changed_33 : decode cX8_changed 33 = .ok (.getfield 22, 3) := by decide +kernel
theorem dX8_changed_36 : decode cX8_changed 36 = .ok (.iload_n 2, 1) := by decide +kernel
theorem dX8_changed_37 : decode cX8_changed 37 = .ok (.sipush 192, 3) := by decide +kernel
theorem dX8_changed_40 : decode cX8_changed 40 = .ok (.iadd, 1) := by decide +kernel
theorem dX8_changed_41 : decode cX8_changed 41 = .ok (.iaload, 1) := by decide +kernel
theorem dX8_changed_42 : decode cX8_changed 42 = .ok (.iastore, 1) := by decide +kernel
theorem dX8_changed_43 : decode cX8_changed 43 = .ok (.iinc 2 1, 3) := by decide +kernel
theorem dX8_changed_46 : decode cX8_changed 46 = .ok (.goto (-26), 3) := by decide +kernel
theorem dX8_changed_49 : decode cX8_changed 49 = .ok (.aload_n 0, 1) := by decide +kernel
theorem dX8_changed_50 : decode cX8_changed 50 = .ok (.dup, 1) := by decide +kernel
theorem dX8_changed_51 : decode cX8_changed 51 = .ok (.getfield 57, 3) := by decide +kernel
theorem dX8_changed_54 : decode cX8_changed 54 = .ok (.iconst 1, 1) := by decide +kernel
theorem dX8_changed_55 : decode cX8_changed 55 = .ok (.isub, 1) := by decide +kernel
theorem dX8_changed_56 : decode cX8_changed 56 = .ok (.putfield 57, 3) := by decide +kernel
theorem dX8_changed_59 : decode cX8_changed 59 = .ok (.iconst 0, 1) := by decide +kernel
theorem dX8_changed_60 : decode cX8_changed 60 = .ok (.istore_n 2, 1) := by decide +kernel
theorem dX8_changed_61 : decode cX8_changed 61 = .ok (.iload_n 2, 1) := by decide +kernel
theorem dX8_changed_62 : decode cX8_changed 62 = .ok (.sipush 192, 3) := by decide +kernel
theorem dX8_changed_65 : decode cX8_changed 65 = .ok (.if_icmp .ge 30, 3) := by decide +kernel
theorem dX8_changed_68 : decode cX8_changed 68 = .ok (.aload_n 0, 1) := by decide +kernel
theorem dX8_changed_69 : decode cX8_changed 69 = .ok (.getfield 22, 3) := by decide +kernel
theorem dX8_changed_72 : decode cX8_changed 72 = .ok (.sipush 192, 3) := by decide +kernel
theorem dX8_changed_75 : decode cX8_changed 75 = .ok (.aload_n 0, 1) := by decide +kernel
theorem dX8_changed_76 : decode cX8_changed 76 = .ok (.getfield 57, 3) := by decide +kernel
theorem dX8_changed_79 : decode cX8_changed 79 = .ok (.imul, 1) := by decide +kernel
theorem dX8_changed_80 : decode cX8_changed 80 = .ok (.iload_n 2, 1) := by decide +kernel
theorem dX8_changed_81 : decode cX8_changed 81 = .ok (.iadd, 1) := by decide +kernel
theorem dX8_changed_82 : decode cX8_changed 82 = .ok (.aload_n 0, 1) := by decide +kernel
theorem dX8_changed_83 : decode cX8_changed 83 = .ok (.getfield 13, 3) := by decide +kernel
theorem dX8_changed_86 : decode cX8_changed 86 = .ok (.iload_n 2, 1) := by decide +kernel
theorem dX8_changed_87 : decode cX8_changed 87 = .ok (.iaload, 1) := by decide +kernel
theorem dX8_changed_88 : decode cX8_changed 88 = .ok (.iastore, 1) := by decide +kernel
theorem dX8_changed_89 : decode cX8_changed 89 = .ok (.iinc 2 1, 3) := by decide +kernel
theorem dX8_changed_92 : decode cX8_changed 92 = .ok (.goto (-31), 3) := by decide +kernel
theorem dX8_changed_95 : decode cX8_changed 95 = .ok (.aload_n 0, 1) := by decide +kernel
theorem dX8_changed_96 : decode cX8_changed 96 = .ok (.dup, 1) := by decide +kernel
theorem dX8_changed_97 : decode cX8_changed 97 = .ok (.getfield 57, 3) := by decide +kernel
theorem dX8_changed_100 : decode cX8_changed 100 = .ok (.iconst 1, 1) := by decide +kernel
theorem dX8_changed_101 : decode cX8_changed 101 = .ok (.iadd, 1) := by decide +kernel
theorem dX8_changed_102 : decode cX8_changed 102 = .ok (.putfield 57, 3) := by decide +kernel
theorem dX8_changed_105 : decode cX8_changed 105 = .ok (.iload_n 1, 1) := by decide +kernel
theorem dX8_changed_106 : decode cX8_changed 106 = .ok (.ireturn, 1) := by decide +kernel
theorem dX8_linkAt_0 : decode cX8_linkAt 0 = .ok (.bipush 8, 2) := by decide +kernel
theorem dX8_linkAt_2 : decode cX8_linkAt 2 = .ok (.iconst 5, 1) := by decide +kernel
theorem dX8_linkAt_3 : decode cX8_linkAt 3 = .ok (.iload_n 0, 1) := by decide +kernel
theorem dX8_linkAt_4 : decode cX8_linkAt 4 = .ok (.imul, 1) := by decide +kernel
theorem dX8_linkAt_5 : decode cX8_linkAt 5 = .ok (.iadd, 1) := by decide +kernel
theorem dX8_linkAt_6 : decode cX8_linkAt 6 = .ok (.ireturn, 1) := by decide +kernel
theorem dX8_parcelAt_0 : decode cX8_parcelAt 0 = .ok (.bipush 108, 2) := by decide +kernel
theorem dX8_parcelAt_2 : decode cX8_parcelAt 2 = .ok (.bipush 7, 2) := by decide +kernel
theorem dX8_parcelAt_4 : decode cX8_parcelAt 4 = .ok (.iload_n 0, 1) := by decide +kernel
theorem dX8_parcelAt_5 : decode cX8_parcelAt 5 = .ok (.imul, 1) := by decide +kernel
theorem dX8_parcelAt_6 : decode cX8_parcelAt 6 = .ok (.iadd, 1) := by decide +kernel
theorem dX8_parcelAt_7 : decode cX8_parcelAt 7 = .ok (.ireturn, 1) := by decide +kernel
theorem dX8_isPlace_0 : decode cX8_isPlace 0 = .ok (.iload_n 1, 1) := by decide +kernel
theorem dX8_isPlace_1 : decode cX8_isPlace 1 = .ok (.i2l, 1) := by decide +kernel
theorem dX8_isPlace_2 : decode cX8_isPlace 2 = .ok (.lconst 0, 1) := by decide +kernel
theorem dX8_isPlace_3 : decode cX8_isPlace 3 = .ok (.aload_n 0, 1) := by decide +kernel
theorem dX8_isPlace_4 : decode cX8_isPlace 4 = .ok (.getfield 9, 3) := by decide +kernel
theorem dX8_isPlace_7 : decode cX8_isPlace 7 = .ok (.iconst 0, 1) := by decide +kernel
theorem dX8_isPlace_8 : decode cX8_isPlace 8 = .ok (.iaload, 1) := by decide +kernel
theorem dX8_isPlace_9 : decode cX8_isPlace 9 = .ok (.iconst 1, 1) := by decide +kernel
theorem dX8_isPlace_10 : decode cX8_isPlace 10 = .ok (.isub, 1) := by decide +kernel
theorem dX8_isPlace_11 : decode cX8_isPlace 11 = .ok (.i2l, 1) := by decide +kernel
theorem dX8_isPlace_12 : decode cX8_isPlace 12 = .ok (.invokestatic 60, 3) := by decide +kernel
theorem dX8_isPlace_15 : decode cX8_isPlace 15 = .ok (.ireturn, 1) := by decide +kernel
theorem dX8_isLink_0 : decode cX8_isLink 0 = .ok (.iload_n 1, 1) := by decide +kernel
theorem dX8_isLink_1 : decode cX8_isLink 1 = .ok (.i2l, 1) := by decide +kernel
theorem dX8_isLink_2 : decode cX8_isLink 2 = .ok (.lconst 0, 1) := by decide +kernel
theorem dX8_isLink_3 : decode cX8_isLink 3 = .ok (.aload_n 0, 1) := by decide +kernel
theorem dX8_isLink_4 : decode cX8_isLink 4 = .ok (.getfield 9, 3) := by decide +kernel
theorem dX8_isLink_7 : decode cX8_isLink 7 = .ok (.iconst 1, 1) := by decide +kernel
theorem dX8_isLink_8 : decode cX8_isLink 8 = .ok (.iaload, 1) := by decide +kernel
theorem dX8_isLink_9 : decode cX8_isLink 9 = .ok (.iconst 1, 1) := by decide +kernel
theorem dX8_isLink_10 : decode cX8_isLink 10 = .ok (.isub, 1) := by decide +kernel
theorem dX8_isLink_11 : decode cX8_isLink 11 = .ok (.i2l, 1) := by decide +kernel
theorem dX8_isLink_12 : decode cX8_isLink 12 = .ok (.invokestatic 60, 3) := by decide +kernel
theorem dX8_isLink_15 : decode cX8_isLink 15 = .ok (.ireturn, 1) := by decide +kernel
theorem dX8_find_0 : decode cX8_find 0 = .ok (.iconst 0, 1) := by decide +kernel
theorem dX8_find_1 : decode cX8_find 1 = .ok (.istore_n 2, 1) := by decide +kernel
theorem dX8_find_2 : decode cX8_find 2 = .ok (.iload_n 2, 1) := by decide +kernel
theorem dX8_find_3 : decode cX8_find 3 = .ok (.aload_n 0, 1) := by decide +kernel
theorem dX8_find_4 : decode cX8_find 4 = .ok (.getfield 9, 3) := by decide +kernel
theorem dX8_find_7 : decode cX8_find 7 = .ok (.iconst 2, 1) := by decide +kernel
theorem dX8_find_8 : decode cX8_find 8 = .ok (.iaload, 1) := by decide +kernel
theorem dX8_find_9 : decode cX8_find 9 = .ok (.if_icmp .ge 24, 3) := by decide +kernel
theorem dX8_find_12 : decode cX8_find 12 = .ok (.aload_n 0, 1) := by decide +kernel
theorem dX8_find_13 : decode cX8_find 13 = .ok (.getfield 9, 3) := by decide +kernel
theorem dX8_find_16 : decode cX8_find 16 = .ok (.iload_n 2, 1) := by decide +kernel
theorem dX8_find_17 : decode cX8_find 17 = .ok (.invokestatic 64, 3) := by decide +kernel
theorem dX8_find_20 : decode cX8_find 20 = .ok (.iaload, 1) := by decide +kernel
theorem dX8_find_21 : decode cX8_find 21 = .ok (.iload_n 1, 1) := by decide +kernel
theorem dX8_find_22 : decode cX8_find 22 = .ok (.if_icmp .ne 5, 3) := by decide +kernel
theorem dX8_find_25 : decode cX8_find 25 = .ok (.iload_n 2, 1) := by decide +kernel
theorem dX8_find_26 : decode cX8_find 26 = .ok (.ireturn, 1) := by decide +kernel
theorem dX8_find_27 : decode cX8_find 27 = .ok (.iinc 2 1, 3) := by decide +kernel
theorem dX8_find_30 : decode cX8_find 30 = .ok (.goto (-28), 3) := by decide +kernel
theorem dX8_find_33 : decode cX8_find 33 = .ok (.iconst (-1), 1) := by decide +kernel
theorem dX8_find_34 : decode cX8_find 34 = .ok (.ireturn, 1) := by decide +kernel
theorem dX8_isOpen_0 : decode cX8_isOpen 0 = .ok (.aload_n 0, 1) := by decide +kernel
theorem dX8_isOpen_1 : decode cX8_isOpen 1 = .ok (.getfield 9, 3) := by decide +kernel
theorem dX8_isOpen_4 : decode cX8_isOpen 4 = .ok (.iload_n 1, 1) := by decide +kernel
theorem dX8_isOpen_5 : decode cX8_isOpen 5 = .ok (.invokestatic 68, 3) := by decide +kernel
theorem dX8_isOpen_8 : decode cX8_isOpen 8 = .ok (.iconst 4, 1) := by decide +kernel
theorem dX8_isOpen_9 : decode cX8_isOpen 9 = .ok (.iadd, 1) := by decide +kernel
theorem dX8_isOpen_10 : decode cX8_isOpen 10 = .ok (.iaload, 1) := by decide +kernel
theorem dX8_isOpen_11 : decode cX8_isOpen 11 = .ok (.ifCond .ne 25, 3) := by decide +kernel
theorem dX8_isOpen_14 : decode cX8_isOpen 14 = .ok (.iload_n 2, 1) := by decide +kernel
theorem dX8_isOpen_15 : decode cX8_isOpen 15 = .ok (.bipush 6, 2) := by decide +kernel
theorem dX8_isOpen_17 : decode cX8_isOpen 17 = .ok (.irem, 1) := by decide +kernel
theorem dX8_isOpen_18 : decode cX8_isOpen 18 = .ok (.aload_n 0, 1) := by decide +kernel
theorem dX8_isOpen_19 : decode cX8_isOpen 19 = .ok (.getfield 9, 3) := by decide +kernel
theorem dX8_isOpen_22 : decode cX8_isOpen 22 = .ok (.iload_n 1, 1) := by decide +kernel
theorem dX8_isOpen_23 : decode cX8_isOpen 23 = .ok (.invokestatic 68, 3) := by decide +kernel
theorem dX8_isOpen_26 : decode cX8_isOpen 26 = .ok (.iconst 3, 1) := by decide +kernel
theorem dX8_isOpen_27 : decode cX8_isOpen 27 = .ok (.iadd, 1) := by decide +kernel
theorem dX8_isOpen_28 : decode cX8_isOpen 28 = .ok (.iaload, 1) := by decide +kernel
theorem dX8_isOpen_29 : decode cX8_isOpen 29 = .ok (.if_icmp .eq 7, 3) := by decide +kernel
theorem dX8_isOpen_32 : decode cX8_isOpen 32 = .ok (.iconst 1, 1) := by decide +kernel
theorem dX8_isOpen_33 : decode cX8_isOpen 33 = .ok (.goto 4, 3) := by decide +kernel
theorem dX8_isOpen_36 : decode cX8_isOpen 36 = .ok (.iconst 0, 1) := by decide +kernel
theorem dX8_isOpen_37 : decode cX8_isOpen 37 = .ok (.ireturn, 1) := by decide +kernel
theorem dX8_load_0 : decode cX8_load 0 = .ok (.iconst 0, 1) := by decide +kernel
theorem dX8_load_1 : decode cX8_load 1 = .ok (.istore_n 2, 1) := by decide +kernel
theorem dX8_load_2 : decode cX8_load 2 = .ok (.iconst 0, 1) := by decide +kernel
theorem dX8_load_3 : decode cX8_load 3 = .ok (.istore_n 3, 1) := by decide +kernel
theorem dX8_load_4 : decode cX8_load 4 = .ok (.iload_n 3, 1) := by decide +kernel
theorem dX8_load_5 : decode cX8_load 5 = .ok (.aload_n 0, 1) := by decide +kernel
theorem dX8_load_6 : decode cX8_load 6 = .ok (.getfield 9, 3) := by decide +kernel
theorem dX8_load_9 : decode cX8_load 9 = .ok (.iconst 2, 1) := by decide +kernel
theorem dX8_load_10 : decode cX8_load 10 = .ok (.iaload, 1) := by decide +kernel
theorem dX8_load_11 : decode cX8_load 11 = .ok (.if_icmp .ge 69, 3) := by decide +kernel
theorem dX8_load_14 : decode cX8_load 14 = .ok (.aload_n 0, 1) := by decide +kernel
theorem dX8_load_15 : decode cX8_load 15 = .ok (.getfield 9, 3) := by decide +kernel
theorem dX8_load_18 : decode cX8_load 18 = .ok (.iload_n 3, 1) := by decide +kernel
theorem dX8_load_19 : decode cX8_load 19 = .ok (.invokestatic 64, 3) := by decide +kernel
theorem dX8_load_22 : decode cX8_load 22 = .ok (.iconst 4, 1) := by decide +kernel
theorem dX8_load_23 : decode cX8_load 23 = .ok (.iadd, 1) := by decide +kernel
theorem dX8_load_24 : decode cX8_load 24 = .ok (.iaload, 1) := by decide +kernel
theorem dX8_load_25 : decode cX8_load 25 = .ok (.iconst (-1), 1) := by decide +kernel
theorem dX8_load_26 : decode cX8_load 26 = .ok (.if_icmp .ne 22, 3) := by decide +kernel
theorem dX8_load_29 : decode cX8_load 29 = .ok (.aload_n 0, 1) := by decide +kernel
theorem dX8_load_30 : decode cX8_load 30 = .ok (.getfield 9, 3) := by decide +kernel
theorem dX8_load_33 : decode cX8_load 33 = .ok (.iload_n 3, 1) := by decide +kernel
theorem dX8_load_34 : decode cX8_load 34 = .ok (.invokestatic 64, 3) := by decide +kernel
theorem dX8_load_37 : decode cX8_load 37 = .ok (.iconst 5, 1) := by decide +kernel
theorem dX8_load_38 : decode cX8_load 38 = .ok (.iadd, 1) := by decide +kernel
theorem dX8_load_39 : decode cX8_load 39 = .ok (.iaload, 1) := by decide +kernel
theorem dX8_load_40 : decode cX8_load 40 = .ok (.iload_n 1, 1) := by decide +kernel
theorem dX8_load_41 : decode cX8_load 41 = .ok (.if_icmp .ne 7, 3) := by decide +kernel
theorem dX8_load_44 : decode cX8_load 44 = .ok (.iconst 1, 1) := by decide +kernel
theorem dX8_load_45 : decode cX8_load 45 = .ok (.goto 4, 3) := by decide +kernel
theorem dX8_load_48 : decode cX8_load 48 = .ok (.iconst 0, 1) := by decide +kernel
theorem dX8_load_49 : decode cX8_load 49 = .ok (.istore 4, 2) := by decide +kernel
theorem dX8_load_51 : decode cX8_load 51 = .ok (.iload_n 2, 1) := by decide +kernel
theorem dX8_load_52 : decode cX8_load 52 = .ok (.iload 4, 2) := by decide +kernel
theorem dX8_load_54 : decode cX8_load 54 = .ok (.ifCond .eq 17, 3) := by decide +kernel
theorem dX8_load_57 : decode cX8_load 57 = .ok (.aload_n 0, 1) := by decide +kernel
theorem dX8_load_58 : decode cX8_load 58 = .ok (.getfield 9, 3) := by decide +kernel
theorem dX8_load_61 : decode cX8_load 61 = .ok (.iload_n 3, 1) := by decide +kernel
theorem dX8_load_62 : decode cX8_load 62 = .ok (.invokestatic 64, 3) := by decide +kernel
theorem dX8_load_65 : decode cX8_load 65 = .ok (.iconst 2, 1) := by decide +kernel
theorem dX8_load_66 : decode cX8_load 66 = .ok (.iadd, 1) := by decide +kernel
theorem dX8_load_67 : decode cX8_load 67 = .ok (.iaload, 1) := by decide +kernel
theorem dX8_load_68 : decode cX8_load 68 = .ok (.goto 4, 3) := by decide +kernel
theorem dX8_load_71 : decode cX8_load 71 = .ok (.iconst 0, 1) := by decide +kernel
theorem dX8_load_72 : decode cX8_load 72 = .ok (.iadd, 1) := by decide +kernel
theorem dX8_load_73 : decode cX8_load 73 = .ok (.istore_n 2, 1) := by decide +kernel
theorem dX8_load_74 : decode cX8_load 74 = .ok (.iinc 3 1, 3) := by decide +kernel
theorem dX8_load_77 : decode cX8_load 77 = .ok (.goto (-73), 3) := by decide +kernel
theorem dX8_load_80 : decode cX8_load 80 = .ok (.iload_n 2, 1) := by decide +kernel
theorem dX8_load_81 : decode cX8_load 81 = .ok (.ireturn, 1) := by decide +kernel
theorem dX8_blocked_0 : decode cX8_blocked 0 = .ok (.iconst 0, 1) := by decide +kernel
theorem dX8_blocked_1 : decode cX8_blocked 1 = .ok (.istore_n 1, 1) := by decide +kernel
theorem dX8_blocked_2 : decode cX8_blocked 2 = .ok (.iconst 0, 1) := by decide +kernel
theorem dX8_blocked_3 : decode cX8_blocked 3 = .ok (.istore_n 2, 1) := by decide +kernel
theorem dX8_blocked_4 : decode cX8_blocked 4 = .ok (.iload_n 2, 1) := by decide +kernel
theorem dX8_blocked_5 : decode cX8_blocked 5 = .ok (.aload_n 0, 1) := by decide +kernel
theorem dX8_blocked_6 : decode cX8_blocked 6 = .ok (.getfield 9, 3) := by decide +kernel
theorem dX8_blocked_9 : decode cX8_blocked 9 = .ok (.iconst 1, 1) := by decide +kernel
theorem dX8_blocked_10 : decode cX8_blocked 10 = .ok (.iaload, 1) := by decide +kernel
theorem dX8_blocked_11 : decode cX8_blocked 11 = .ok (.if_icmp .ge 23, 3) := by decide +kernel
theorem dX8_blocked_14 : decode cX8_blocked 14 = .ok (.iload_n 1, 1) := by decide +kernel
theorem dX8_blocked_15 : decode cX8_blocked 15 = .ok (.aload_n 0, 1) := by decide +kernel
theorem dX8_blocked_16 : decode cX8_blocked 16 = .ok (.getfield 9, 3) := by decide +kernel
theorem dX8_blocked_19 : decode cX8_blocked 19 = .ok (.iload_n 2, 1) := by decide +kernel
theorem dX8_blocked_20 : decode cX8_blocked 20 = .ok (.invokestatic 68, 3) := by decide +kernel
theorem dX8_blocked_23 : decode cX8_blocked 23 = .ok (.iconst 4, 1) := by decide +kernel
theorem dX8_blocked_24 : decode cX8_blocked 24 = .ok (.iadd, 1) := by decide +kernel
theorem dX8_blocked_25 : decode cX8_blocked 25 = .ok (.iaload, 1) := by decide +kernel
theorem dX8_blocked_26 : decode cX8_blocked 26 = .ok (.iadd, 1) := by decide +kernel
theorem dX8_blocked_27 : decode cX8_blocked 27 = .ok (.istore_n 1, 1) := by decide +kernel
theorem dX8_blocked_28 : decode cX8_blocked 28 = .ok (.iinc 2 1, 3) := by decide +kernel
theorem dX8_blocked_31 : decode cX8_blocked 31 = .ok (.goto (-27), 3) := by decide +kernel
theorem dX8_blocked_34 : decode cX8_blocked 34 = .ok (.iload_n 1, 1) := by decide +kernel
theorem dX8_blocked_35 : decode cX8_blocked 35 = .ok (.ireturn, 1) := by decide +kernel
theorem dX8_leaves_0 : decode cX8_leaves 0 = .ok (.iload_n 1, 1) := by decide +kernel
theorem dX8_leaves_1 : decode cX8_leaves 1 = .ok (.invokestatic 64, 3) := by decide +kernel
theorem dX8_leaves_4 : decode cX8_leaves 4 = .ok (.istore_n 2, 1) := by decide +kernel
theorem dX8_leaves_5 : decode cX8_leaves 5 = .ok (.iload_n 2, 1) := by decide +kernel
theorem dX8_leaves_6 : decode cX8_leaves 6 = .ok (.sipush 185, 3) := by decide +kernel
theorem dX8_leaves_9 : decode cX8_leaves 9 = .ok (.if_icmp .ge 24, 3) := by decide +kernel
theorem dX8_leaves_12 : decode cX8_leaves 12 = .ok (.aload_n 0, 1) := by decide +kernel
theorem dX8_leaves_13 : decode cX8_leaves 13 = .ok (.getfield 9, 3) := by decide +kernel
theorem dX8_leaves_16 : decode cX8_leaves 16 = .ok (.iload_n 2, 1) := by decide +kernel
theorem dX8_leaves_17 : decode cX8_leaves 17 = .ok (.aload_n 0, 1) := by decide +kernel
theorem dX8_leaves_18 : decode cX8_leaves 18 = .ok (.getfield 9, 3) := by decide +kernel
theorem dX8_leaves_21 : decode cX8_leaves 21 = .ok (.iload_n 2, 1) := by decide +kernel
theorem dX8_leaves_22 : decode cX8_leaves 22 = .ok (.bipush 7, 2) := by decide +kernel
theorem dX8_leaves_24 : decode cX8_leaves 24 = .ok (.iadd, 1) := by decide +kernel
theorem dX8_leaves_25 : decode cX8_leaves 25 = .ok (.iaload, 1) := by decide +kernel
theorem dX8_leaves_26 : decode cX8_leaves 26 = .ok (.iastore, 1) := by decide +kernel
theorem dX8_leaves_27 : decode cX8_leaves 27 = .ok (.iinc 2 1, 3) := by decide +kernel
theorem dX8_leaves_30 : decode cX8_leaves 30 = .ok (.goto (-25), 3) := by decide +kernel
theorem dX8_leaves_33 : decode cX8_leaves 33 = .ok (.sipush 185, 3) := by decide +kernel
theorem dX8_leaves_36 : decode cX8_leaves 36 = .ok (.istore_n 2, 1) := by decide +kernel
theorem dX8_leaves_37 : decode cX8_leaves 37 = .ok (.iload_n 2, 1) := by decide +kernel
theorem dX8_leaves_38 : decode cX8_leaves 38 = .ok (.sipush 192, 3) := by decide +kernel
theorem dX8_leaves_41 : decode cX8_leaves 41 = .ok (.if_icmp .ge 16, 3) := by decide +kernel
theorem dX8_leaves_44 : decode cX8_leaves 44 = .ok (.aload_n 0, 1) := by decide +kernel
theorem dX8_leaves_45 : decode cX8_leaves 45 = .ok (.getfield 9, 3) := by decide +kernel
theorem dX8_leaves_48 : decode cX8_leaves 48 = .ok (.iload_n 2, 1) := by decide +kernel
theorem dX8_leaves_49 : decode cX8_leaves 49 = .ok (.iconst 0, 1) := by decide +kernel
theorem dX8_leaves_50 : decode cX8_leaves 50 = .ok (.iastore, 1) := by decide +kernel
theorem dX8_leaves_51 : decode cX8_leaves 51 = .ok (.iinc 2 1, 3) := by decide +kernel
theorem dX8_leaves_54 : decode cX8_leaves 54 = .ok (.goto (-17), 3) := by decide +kernel
theorem dX8_leaves_57 : decode cX8_leaves 57 = .ok (.aload_n 0, 1) := by decide +kernel
theorem dX8_leaves_58 : decode cX8_leaves 58 = .ok (.getfield 9, 3) := by decide +kernel
theorem dX8_leaves_61 : decode cX8_leaves 61 = .ok (.iconst 2, 1) := by decide +kernel
theorem dX8_leaves_62 : decode cX8_leaves 62 = .ok (.dup2, 1) := by decide +kernel
theorem dX8_leaves_63 : decode cX8_leaves 63 = .ok (.iaload, 1) := by decide +kernel
theorem dX8_leaves_64 : decode cX8_leaves 64 = .ok (.iconst 1, 1) := by decide +kernel
theorem dX8_leaves_65 : decode cX8_leaves 65 = .ok (.isub, 1) := by decide +kernel
theorem dX8_leaves_66 : decode cX8_leaves 66 = .ok (.iastore, 1) := by decide +kernel
theorem dX8_leaves_67 : decode cX8_leaves 67 = .ok (.return_, 1) := by decide +kernel
theorem dX8_reaches_0 : decode cX8_reaches 0 = .ok (.iconst 0, 1) := by decide +kernel
theorem dX8_reaches_1 : decode cX8_reaches 1 = .ok (.istore_n 3, 1) := by decide +kernel
theorem dX8_reaches_2 : decode cX8_reaches 2 = .ok (.iload_n 3, 1) := by decide +kernel
theorem dX8_reaches_3 : decode cX8_reaches 3 = .ok (.bipush 9, 2) := by decide +kernel
theorem dX8_reaches_5 : decode cX8_reaches 5 = .ok (.if_icmp .ge 26, 3) := by decide +kernel
theorem dX8_reaches_8 : decode cX8_reaches 8 = .ok (.aload_n 0, 1) := by decide +kernel
theorem dX8_reaches_9 : decode cX8_reaches 9 = .ok (.getfield 35, 3) := by decide +kernel
theorem dX8_reaches_12 : decode cX8_reaches 12 = .ok (.iload_n 3, 1) := by decide +kernel
theorem dX8_reaches_13 : decode cX8_reaches 13 = .ok (.iload_n 3, 1) := by decide +kernel
theorem dX8_reaches_14 : decode cX8_reaches 14 = .ok (.iload_n 1, 1) := by decide +kernel
theorem dX8_reaches_15 : decode cX8_reaches 15 = .ok (.if_icmp .ne 7, 3) := by decide +kernel
theorem dX8_reaches_18 : decode cX8_reaches 18 = .ok (.iload_n 2, 1) := by decide +kernel
theorem dX8_reaches_19 : decode cX8_reaches 19 = .ok (.goto 5, 3) := by decide +kernel
theorem dX8_reaches_22 : decode cX8_reaches 22 = .ok (.ldc 71, 2) := by decide +kernel
theorem dX8_reaches_24 : decode cX8_reaches 24 = .ok (.iastore, 1) := by decide +kernel
theorem dX8_reaches_25 : decode cX8_reaches 25 = .ok (.iinc 3 1, 3) := by decide +kernel
theorem dX8_reaches_28 : decode cX8_reaches 28 = .ok (.goto (-26), 3) := by decide +kernel
theorem dX8_reaches_31 : decode cX8_reaches 31 = .ok (.iconst 1, 1) := by decide +kernel
theorem dX8_reaches_32 : decode cX8_reaches 32 = .ok (.istore_n 3, 1) := by decide +kernel
theorem dX8_reaches_33 : decode cX8_reaches 33 = .ok (.iload_n 3, 1) := by decide +kernel
theorem dX8_reaches_34 : decode cX8_reaches 34 = .ok (.ifCond .eq 161, 3) := by decide +kernel
theorem dX8_reaches_37 : decode cX8_reaches 37 = .ok (.iconst 0, 1) := by decide +kernel
theorem dX8_reaches_38 : decode cX8_reaches 38 = .ok (.istore_n 3, 1) := by decide +kernel
theorem dX8_reaches_39 : decode cX8_reaches 39 = .ok (.iconst 0, 1) := by decide +kernel
theorem dX8_reaches_40 : decode cX8_reaches 40 = .ok (.istore 4, 2) := by decide +kernel
theorem dX8_reaches_42 : decode cX8_reaches 42 = .ok (.iload 4, 2) := by decide +kernel
theorem dX8_reaches_44 : decode cX8_reaches 44 = .ok (.aload_n 0, 1) := by decide +kernel
theorem dX8_reaches_45 : decode cX8_reaches 45 = .ok (.getfield 9, 3) := by decide +kernel
theorem dX8_reaches_48 : decode cX8_reaches 48 = .ok (.iconst 1, 1) := by decide +kernel
theorem dX8_reaches_49 : decode cX8_reaches 49 = .ok (.iaload, 1) := by decide +kernel
theorem dX8_reaches_50 : decode cX8_reaches 50 = .ok (.if_icmp .ge 142, 3) := by decide +kernel
theorem dX8_reaches_53 : decode cX8_reaches 53 = .ok (.iload 4, 2) := by decide +kernel
theorem dX8_reaches_55 : decode cX8_reaches 55 = .ok (.invokestatic 68, 3) := by decide +kernel
theorem dX8_reaches_58 : decode cX8_reaches 58 = .ok (.istore 5, 2) := by decide +kernel
theorem dX8_reaches_60 : decode cX8_reaches 60 = .ok (.aload_n 0, 1) := by decide +kernel
theorem dX8_reaches_61 : decode cX8_reaches 61 = .ok (.getfield 35, 3) := by decide +kernel
theorem dX8_reaches_64 : decode cX8_reaches 64 = .ok (.aload_n 0, 1) := by decide +kernel
theorem dX8_reaches_65 : decode cX8_reaches 65 = .ok (.getfield 9, 3) := by decide +kernel
theorem dX8_reaches_68 : decode cX8_reaches 68 = .ok (.iload 5, 2) := by decide +kernel
theorem dX8_reaches_70 : decode cX8_reaches 70 = .ok (.iaload, 1) := by decide +kernel
theorem dX8_reaches_71 : decode cX8_reaches 71 = .ok (.iaload, 1) := by decide +kernel
theorem dX8_reaches_72 : decode cX8_reaches 72 = .ok (.istore 6, 2) := by decide +kernel
theorem dX8_reaches_74 : decode cX8_reaches 74 = .ok (.iload 6, 2) := by decide +kernel
theorem dX8_reaches_76 : decode cX8_reaches 76 = .ok (.ldc 71, 2) := by decide +kernel
theorem dX8_reaches_78 : decode cX8_reaches 78 = .ok (.if_icmp .ge 108, 3) := by decide +kernel
theorem dX8_reaches_81 : decode cX8_reaches 81 = .ok (.aload_n 0, 1) := by decide +kernel
theorem dX8_reaches_82 : decode cX8_reaches 82 = .ok (.getfield 9, 3) := by decide +kernel
theorem dX8_reaches_85 : decode cX8_reaches 85 = .ok (.iload 5, 2) := by decide +kernel
theorem dX8_reaches_87 : decode cX8_reaches 87 = .ok (.iconst 4, 1) := by decide +kernel
theorem dX8_reaches_88 : decode cX8_reaches 88 = .ok (.iadd, 1) := by decide +kernel
theorem dX8_reaches_89 : decode cX8_reaches 89 = .ok (.iaload, 1) := by decide +kernel
theorem dX8_reaches_90 : decode cX8_reaches 90 = .ok (.ifCond .ne 96, 3) := by decide +kernel
theorem dX8_reaches_93 : decode cX8_reaches 93 = .ok (.iload 6, 2) := by decide +kernel
theorem dX8_reaches_95 : decode cX8_reaches 95 = .ok (.aload_n 0, 1) := by decide +kernel
theorem dX8_reaches_96 : decode cX8_reaches 96 = .ok (.iload 4, 2) := by decide +kernel
theorem dX8_reaches_98 : decode cX8_reaches 98 = .ok (.iload 6, 2) := by decide +kernel
theorem dX8_reaches_100 : decode cX8_reaches 100 = .ok (.invokevirtual 72, 3) := by decide +kernel
theorem dX8_reaches_103 : decode cX8_reaches 103 = .ok (.ifCond .eq 7, 3) := by decide +kernel
theorem dX8_reaches_106 : decode cX8_reaches 106 = .ok (.iconst 0, 1) := by decide +kernel
theorem dX8_reaches_107 : decode cX8_reaches 107 = .ok (.goto 4, 3) := by decide +kernel
theorem dX8_reaches_110 : decode cX8_reaches 110 = .ok (.iconst 1, 1) := by decide +kernel
theorem dX8_reaches_111 : decode cX8_reaches 111 = .ok (.iadd, 1) := by decide +kernel
theorem dX8_reaches_112 : decode cX8_reaches 112 = .ok (.aload_n 0, 1) := by decide +kernel
theorem dX8_reaches_113 : decode cX8_reaches 113 = .ok (.getfield 9, 3) := by decide +kernel
theorem dX8_reaches_116 : decode cX8_reaches 116 = .ok (.iload 5, 2) := by decide +kernel
theorem dX8_reaches_118 : decode cX8_reaches 118 = .ok (.iconst 2, 1) := by decide +kernel
theorem dX8_reaches_119 : decode cX8_reaches 119 = .ok (.iadd, 1) := by decide +kernel
theorem dX8_reaches_120 : decode cX8_reaches 120 = .ok (.iaload, 1) := by decide +kernel
theorem dX8_reaches_121 : decode cX8_reaches 121 = .ok (.iadd, 1) := by decide +kernel
theorem dX8_reaches_122 : decode cX8_reaches 122 = .ok (.istore 7, 2) := by decide +kernel
theorem dX8_reaches_124 : decode cX8_reaches 124 = .ok (.iload_n 3, 1) := by decide +kernel
theorem dX8_reaches_125 : decode cX8_reaches 125 = .ok (.ifCond .ne 22, 3) := by decide +kernel
theorem dX8_reaches_128 : decode cX8_reaches 128 = .ok (.iload 7, 2) := by decide +kernel
theorem dX8_reaches_130 : decode cX8_reaches 130 = .ok (.aload_n 0, 1) := by decide +kernel
theorem dX8_reaches_131 : decode cX8_reaches 131 = .ok (.getfield 35, 3) := by decide +kernel
theorem dX8_reaches_134 : decode cX8_reaches 134 = .ok (.aload_n 0, 1) := by decide +kernel
theorem dX8_reaches_135 : decode cX8_reaches 135 = .ok (.getfield 9, 3) := by decide +kernel
theorem dX8_reaches_138 : decode cX8_reaches 138 = .ok (.iload 5, 2) := by decide +kernel
theorem dX8_reaches_140 : decode cX8_reaches 140 = .ok (.iconst 1, 1) := by decide +kernel
theorem dX8_reaches_141 : decode cX8_reaches 141 = .ok (.iadd, 1) := by decide +kernel
theorem dX8_reaches_142 : decode cX8_reaches 142 = .ok (.iaload, 1) := by decide +kernel
theorem dX8_reaches_143 : decode cX8_reaches 143 = .ok (.iaload, 1) := by decide +kernel
theorem dX8_reaches_144 : decode cX8_reaches 144 = .ok (.if_icmp .ge 7, 3) := by decide +kernel
theorem dX8_reaches_147 : decode cX8_reaches 147 = .ok (.iconst 1, 1) := by decide +kernel
theorem dX8_reaches_148 : decode cX8_reaches 148 = .ok (.goto 4, 3) := by decide +kernel
theorem dX8_reaches_151 : decode cX8_reaches 151 = .ok (.iconst 0, 1) := by decide +kernel
theorem dX8_reaches_152 : decode cX8_reaches 152 = .ok (.istore_n 3, 1) := by decide +kernel
theorem dX8_reaches_153 : decode cX8_reaches 153 = .ok (.aload_n 0, 1) := by decide +kernel
theorem dX8_reaches_154 : decode cX8_reaches 154 = .ok (.getfield 35, 3) := by decide +kernel
theorem dX8_reaches_157 : decode cX8_reaches 157 = .ok (.aload_n 0, 1) := by decide +kernel
theorem dX8_reaches_158 : decode cX8_reaches 158 = .ok (.getfield 9, 3) := by decide +kernel
theorem dX8_reaches_161 : decode cX8_reaches 161 = .ok (.iload 5, 2) := by decide +kernel
theorem dX8_reaches_163 : decode cX8_reaches 163 = .ok (.iconst 1, 1) := by decide +kernel
theorem dX8_reaches_164 : decode cX8_reaches 164 = .ok (.iadd, 1) := by decide +kernel
theorem dX8_reaches_165 : decode cX8_reaches 165 = .ok (.iaload, 1) := by decide +kernel
theorem dX8_reaches_166 : decode cX8_reaches 166 = .ok (.aload_n 0, 1) := by decide +kernel
theorem dX8_reaches_167 : decode cX8_reaches 167 = .ok (.getfield 35, 3) := by decide +kernel
theorem dX8_reaches_170 : decode cX8_reaches 170 = .ok (.aload_n 0, 1) := by decide +kernel
theorem dX8_reaches_171 : decode cX8_reaches 171 = .ok (.getfield 9, 3) := by decide +kernel
theorem dX8_reaches_174 : decode cX8_reaches 174 = .ok (.iload 5, 2) := by decide +kernel
theorem dX8_reaches_176 : decode cX8_reaches 176 = .ok (.iconst 1, 1) := by decide +kernel
theorem dX8_reaches_177 : decode cX8_reaches 177 = .ok (.iadd, 1) := by decide +kernel
theorem dX8_reaches_178 : decode cX8_reaches 178 = .ok (.iaload, 1) := by decide +kernel
theorem dX8_reaches_179 : decode cX8_reaches 179 = .ok (.iaload, 1) := by decide +kernel
theorem dX8_reaches_180 : decode cX8_reaches 180 = .ok (.iload 7, 2) := by decide +kernel
theorem dX8_reaches_182 : decode cX8_reaches 182 = .ok (.invokestatic 76, 3) := by decide +kernel
theorem dX8_reaches_185 : decode cX8_reaches 185 = .ok (.iastore, 1) := by decide +kernel
theorem dX8_reaches_186 : decode cX8_reaches 186 = .ok (.iinc 4 1, 3) := by decide +kernel
theorem dX8_reaches_189 : decode cX8_reaches 189 = .ok (.goto (-147), 3) := by decide +kernel
theorem dX8_reaches_192 : decode cX8_reaches 192 = .ok (.goto (-159), 3) := by decide +kernel
theorem dX8_reaches_195 : decode cX8_reaches 195 = .ok (.return_, 1) := by decide +kernel
theorem dX8_earliest_0 : decode cX8_earliest 0 = .ok (.aload_n 0, 1) := by decide +kernel
theorem dX8_earliest_1 : decode cX8_earliest 1 = .ok (.iload_n 1, 1) := by decide +kernel
theorem dX8_earliest_2 : decode cX8_earliest 2 = .ok (.iload_n 3, 1) := by decide +kernel
theorem dX8_earliest_3 : decode cX8_earliest 3 = .ok (.invokevirtual 82, 3) := by decide +kernel
theorem dX8_earliest_6 : decode cX8_earliest 6 = .ok (.aload_n 0, 1) := by decide +kernel
theorem dX8_earliest_7 : decode cX8_earliest 7 = .ok (.getfield 35, 3) := by decide +kernel
theorem dX8_earliest_10 : decode cX8_earliest 10 = .ok (.iload_n 2, 1) := by decide +kernel
theorem dX8_earliest_11 : decode cX8_earliest 11 = .ok (.iaload, 1) := by decide +kernel
theorem dX8_earliest_12 : decode cX8_earliest 12 = .ok (.ireturn, 1) := by decide +kernel
theorem dX8_fewest_0 : decode cX8_fewest 0 = .ok (.iconst 0, 1) := by decide +kernel
theorem dX8_fewest_1 : decode cX8_fewest 1 = .ok (.istore_n 3, 1) := by decide +kernel
theorem dX8_fewest_2 : decode cX8_fewest 2 = .ok (.iload_n 3, 1) := by decide +kernel
theorem dX8_fewest_3 : decode cX8_fewest 3 = .ok (.bipush 9, 2) := by decide +kernel
theorem dX8_fewest_5 : decode cX8_fewest 5 = .ok (.if_icmp .ge 26, 3) := by decide +kernel
theorem dX8_fewest_8 : decode cX8_fewest 8 = .ok (.aload_n 0, 1) := by decide +kernel
theorem dX8_fewest_9 : decode cX8_fewest 9 = .ok (.getfield 35, 3) := by decide +kernel
theorem dX8_fewest_12 : decode cX8_fewest 12 = .ok (.iload_n 3, 1) := by decide +kernel
theorem dX8_fewest_13 : decode cX8_fewest 13 = .ok (.iload_n 3, 1) := by decide +kernel
theorem dX8_fewest_14 : decode cX8_fewest 14 = .ok (.iload_n 1, 1) := by decide +kernel
theorem dX8_fewest_15 : decode cX8_fewest 15 = .ok (.if_icmp .ne 7, 3) := by decide +kernel
theorem dX8_fewest_18 : decode cX8_fewest 18 = .ok (.iconst 0, 1) := by decide +kernel
theorem dX8_fewest_19 : decode cX8_fewest 19 = .ok (.goto 5, 3) := by decide +kernel
theorem dX8_fewest_22 : decode cX8_fewest 22 = .ok (.ldc 71, 2) := by decide +kernel
theorem dX8_fewest_24 : decode cX8_fewest 24 = .ok (.iastore, 1) := by decide +kernel
theorem dX8_fewest_25 : decode cX8_fewest 25 = .ok (.iinc 3 1, 3) := by decide +kernel
theorem dX8_fewest_28 : decode cX8_fewest 28 = .ok (.goto (-26), 3) := by decide +kernel
theorem dX8_fewest_31 : decode cX8_fewest 31 = .ok (.iconst 0, 1) := by decide +kernel
theorem dX8_fewest_32 : decode cX8_fewest 32 = .ok (.istore_n 3, 1) := by decide +kernel
theorem dX8_fewest_33 : decode cX8_fewest 33 = .ok (.iload_n 3, 1) := by decide +kernel
theorem dX8_fewest_34 : decode cX8_fewest 34 = .ok (.bipush 9, 2) := by decide +kernel
theorem dX8_fewest_36 : decode cX8_fewest 36 = .ok (.if_icmp .ge 102, 3) := by decide +kernel
theorem dX8_fewest_39 : decode cX8_fewest 39 = .ok (.iconst 0, 1) := by decide +kernel
theorem dX8_fewest_40 : decode cX8_fewest 40 = .ok (.istore 4, 2) := by decide +kernel
theorem dX8_fewest_42 : decode cX8_fewest 42 = .ok (.iload 4, 2) := by decide +kernel
theorem dX8_fewest_44 : decode cX8_fewest 44 = .ok (.aload_n 0, 1) := by decide +kernel
theorem dX8_fewest_45 : decode cX8_fewest 45 = .ok (.getfield 9, 3) := by decide +kernel
theorem dX8_fewest_48 : decode cX8_fewest 48 = .ok (.iconst 1, 1) := by decide +kernel
theorem dX8_fewest_49 : decode cX8_fewest 49 = .ok (.iaload, 1) := by decide +kernel
theorem dX8_fewest_50 : decode cX8_fewest 50 = .ok (.if_icmp .ge 82, 3) := by decide +kernel
theorem dX8_fewest_53 : decode cX8_fewest 53 = .ok (.iload 4, 2) := by decide +kernel
theorem dX8_fewest_55 : decode cX8_fewest 55 = .ok (.invokestatic 68, 3) := by decide +kernel
theorem dX8_fewest_58 : decode cX8_fewest 58 = .ok (.istore 5, 2) := by decide +kernel
theorem dX8_fewest_60 : decode cX8_fewest 60 = .ok (.aload_n 0, 1) := by decide +kernel
theorem dX8_fewest_61 : decode cX8_fewest 61 = .ok (.getfield 9, 3) := by decide +kernel
theorem dX8_fewest_64 : decode cX8_fewest 64 = .ok (.iload 5, 2) := by decide +kernel
theorem dX8_fewest_66 : decode cX8_fewest 66 = .ok (.iconst 4, 1) := by decide +kernel
theorem dX8_fewest_67 : decode cX8_fewest 67 = .ok (.iadd, 1) := by decide +kernel
theorem dX8_fewest_68 : decode cX8_fewest 68 = .ok (.iaload, 1) := by decide +kernel
theorem dX8_fewest_69 : decode cX8_fewest 69 = .ok (.ifCond .ne 20, 3) := by decide +kernel
theorem dX8_fewest_72 : decode cX8_fewest 72 = .ok (.aload_n 0, 1) := by decide +kernel
theorem dX8_fewest_73 : decode cX8_fewest 73 = .ok (.getfield 35, 3) := by decide +kernel
theorem dX8_fewest_76 : decode cX8_fewest 76 = .ok (.aload_n 0, 1) := by decide +kernel
theorem dX8_fewest_77 : decode cX8_fewest 77 = .ok (.getfield 9, 3) := by decide +kernel
theorem dX8_fewest_80 : decode cX8_fewest 80 = .ok (.iload 5, 2) := by decide +kernel
theorem dX8_fewest_82 : decode cX8_fewest 82 = .ok (.iaload, 1) := by decide +kernel
theorem dX8_fewest_83 : decode cX8_fewest 83 = .ok (.iaload, 1) := by decide +kernel
theorem dX8_fewest_84 : decode cX8_fewest 84 = .ok (.iconst 1, 1) := by decide +kernel
theorem dX8_fewest_85 : decode cX8_fewest 85 = .ok (.iadd, 1) := by decide +kernel
theorem dX8_fewest_86 : decode cX8_fewest 86 = .ok (.goto 5, 3) := by decide +kernel
theorem dX8_fewest_89 : decode cX8_fewest 89 = .ok (.ldc 71, 2) := by decide +kernel
theorem dX8_fewest_91 : decode cX8_fewest 91 = .ok (.istore 6, 2) := by decide +kernel
theorem dX8_fewest_93 : decode cX8_fewest 93 = .ok (.aload_n 0, 1) := by decide +kernel
theorem dX8_fewest_94 : decode cX8_fewest 94 = .ok (.getfield 35, 3) := by decide +kernel
theorem dX8_fewest_97 : decode cX8_fewest 97 = .ok (.aload_n 0, 1) := by decide +kernel
theorem dX8_fewest_98 : decode cX8_fewest 98 = .ok (.getfield 9, 3) := by decide +kernel
theorem dX8_fewest_101 : decode cX8_fewest 101 = .ok (.iload 5, 2) := by decide +kernel
theorem dX8_fewest_103 : decode cX8_fewest 103 = .ok (.iconst 1, 1) := by decide +kernel
theorem dX8_fewest_104 : decode cX8_fewest 104 = .ok (.iadd, 1) := by decide +kernel
theorem dX8_fewest_105 : decode cX8_fewest 105 = .ok (.iaload, 1) := by decide +kernel
theorem dX8_fewest_106 : decode cX8_fewest 106 = .ok (.aload_n 0, 1) := by decide +kernel
theorem dX8_fewest_107 : decode cX8_fewest 107 = .ok (.getfield 35, 3) := by decide +kernel
theorem dX8_fewest_110 : decode cX8_fewest 110 = .ok (.aload_n 0, 1) := by decide +kernel
theorem dX8_fewest_111 : decode cX8_fewest 111 = .ok (.getfield 9, 3) := by decide +kernel
theorem dX8_fewest_114 : decode cX8_fewest 114 = .ok (.iload 5, 2) := by decide +kernel
theorem dX8_fewest_116 : decode cX8_fewest 116 = .ok (.iconst 1, 1) := by decide +kernel
theorem dX8_fewest_117 : decode cX8_fewest 117 = .ok (.iadd, 1) := by decide +kernel
theorem dX8_fewest_118 : decode cX8_fewest 118 = .ok (.iaload, 1) := by decide +kernel
theorem dX8_fewest_119 : decode cX8_fewest 119 = .ok (.iaload, 1) := by decide +kernel
theorem dX8_fewest_120 : decode cX8_fewest 120 = .ok (.iload 6, 2) := by decide +kernel
theorem dX8_fewest_122 : decode cX8_fewest 122 = .ok (.invokestatic 76, 3) := by decide +kernel
theorem dX8_fewest_125 : decode cX8_fewest 125 = .ok (.iastore, 1) := by decide +kernel
theorem dX8_fewest_126 : decode cX8_fewest 126 = .ok (.iinc 4 1, 3) := by decide +kernel
theorem dX8_fewest_129 : decode cX8_fewest 129 = .ok (.goto (-87), 3) := by decide +kernel
theorem dX8_fewest_132 : decode cX8_fewest 132 = .ok (.iinc 3 1, 3) := by decide +kernel
theorem dX8_fewest_135 : decode cX8_fewest 135 = .ok (.goto (-102), 3) := by decide +kernel
theorem dX8_fewest_138 : decode cX8_fewest 138 = .ok (.aload_n 0, 1) := by decide +kernel
theorem dX8_fewest_139 : decode cX8_fewest 139 = .ok (.getfield 35, 3) := by decide +kernel
theorem dX8_fewest_142 : decode cX8_fewest 142 = .ok (.iload_n 2, 1) := by decide +kernel
theorem dX8_fewest_143 : decode cX8_fewest 143 = .ok (.iaload, 1) := by decide +kernel
theorem dX8_fewest_144 : decode cX8_fewest 144 = .ok (.ireturn, 1) := by decide +kernel
theorem dX8_placeOfParcel_0 : decode cX8_placeOfParcel 0 = .ok (.aload_n 0, 1) := by decide +kernel
theorem dX8_placeOfParcel_1 : decode cX8_placeOfParcel 1 = .ok (.getfield 9, 3) := by decide +kernel
theorem dX8_placeOfParcel_4 : decode cX8_placeOfParcel 4 = .ok (.iload_n 1, 1) := by decide +kernel
theorem dX8_placeOfParcel_5 : decode cX8_placeOfParcel 5 = .ok (.invokestatic 64, 3) := by decide +kernel
theorem dX8_placeOfParcel_8 : decode cX8_placeOfParcel 8 = .ok (.iconst 4, 1) := by decide +kernel
theorem dX8_placeOfParcel_9 : decode cX8_placeOfParcel 9 = .ok (.iadd, 1) := by decide +kernel
theorem dX8_placeOfParcel_10 : decode cX8_placeOfParcel 10 = .ok (.iaload, 1) := by decide +kernel
theorem dX8_placeOfParcel_11 : decode cX8_placeOfParcel 11 = .ok (.iconst (-1), 1) := by decide +kernel
theorem dX8_placeOfParcel_12 : decode cX8_placeOfParcel 12 = .ok (.if_icmp .ne 27, 3) := by decide +kernel
theorem dX8_placeOfParcel_15 : decode cX8_placeOfParcel 15 = .ok (.aload_n 0, 1) := by decide +kernel
theorem dX8_placeOfParcel_16 : decode cX8_placeOfParcel 16 = .ok (.getfield 9, 3) := by decide +kernel
theorem dX8_placeOfParcel_19 : decode cX8_placeOfParcel 19 = .ok (.aload_n 0, 1) := by decide +kernel
theorem dX8_placeOfParcel_20 : decode cX8_placeOfParcel 20 = .ok (.getfield 9, 3) := by decide +kernel
theorem dX8_placeOfParcel_23 : decode cX8_placeOfParcel 23 = .ok (.iload_n 1, 1) := by decide +kernel
theorem dX8_placeOfParcel_24 : decode cX8_placeOfParcel 24 = .ok (.invokestatic 64, 3) := by decide +kernel
theorem dX8_placeOfParcel_27 : decode cX8_placeOfParcel 27 = .ok (.iconst 5, 1) := by decide +kernel
theorem dX8_placeOfParcel_28 : decode cX8_placeOfParcel 28 = .ok (.iadd, 1) := by decide +kernel
theorem dX8_placeOfParcel_29 : decode cX8_placeOfParcel 29 = .ok (.iaload, 1) := by decide +kernel
theorem dX8_placeOfParcel_30 : decode cX8_placeOfParcel 30 = .ok (.invokestatic 68, 3) := by decide +kernel
theorem dX8_placeOfParcel_33 : decode cX8_placeOfParcel 33 = .ok (.iconst 1, 1) := by decide +kernel
theorem dX8_placeOfParcel_34 : decode cX8_placeOfParcel 34 = .ok (.iadd, 1) := by decide +kernel
theorem dX8_placeOfParcel_35 : decode cX8_placeOfParcel 35 = .ok (.iaload, 1) := by decide +kernel
theorem dX8_placeOfParcel_36 : decode cX8_placeOfParcel 36 = .ok (.goto 14, 3) := by decide +kernel
theorem dX8_placeOfParcel_39 : decode cX8_placeOfParcel 39 = .ok (.aload_n 0, 1) := by decide +kernel
theorem dX8_placeOfParcel_40 : decode cX8_placeOfParcel 40 = .ok (.getfield 9, 3) := by decide +kernel
theorem dX8_placeOfParcel_43 : decode cX8_placeOfParcel 43 = .ok (.iload_n 1, 1) := by decide +kernel
theorem dX8_placeOfParcel_44 : decode cX8_placeOfParcel 44 = .ok (.invokestatic 64, 3) := by decide +kernel
theorem dX8_placeOfParcel_47 : decode cX8_placeOfParcel 47 = .ok (.iconst 4, 1) := by decide +kernel
theorem dX8_placeOfParcel_48 : decode cX8_placeOfParcel 48 = .ok (.iadd, 1) := by decide +kernel
theorem dX8_placeOfParcel_49 : decode cX8_placeOfParcel 49 = .ok (.iaload, 1) := by decide +kernel
theorem dX8_placeOfParcel_50 : decode cX8_placeOfParcel 50 = .ok (.ireturn, 1) := by decide +kernel
theorem dX8_forecastOf_0 : decode cX8_forecastOf 0 = .ok (.aload_n 0, 1) := by decide +kernel
theorem dX8_forecastOf_1 : decode cX8_forecastOf 1 = .ok (.getfield 9, 3) := by decide +kernel
theorem dX8_forecastOf_4 : decode cX8_forecastOf 4 = .ok (.iload_n 1, 1) := by decide +kernel
theorem dX8_forecastOf_5 : decode cX8_forecastOf 5 = .ok (.invokestatic 64, 3) := by decide +kernel
theorem dX8_forecastOf_8 : decode cX8_forecastOf 8 = .ok (.iconst 4, 1) := by decide +kernel
theorem dX8_forecastOf_9 : decode cX8_forecastOf 9 = .ok (.iadd, 1) := by decide +kernel
theorem dX8_forecastOf_10 : decode cX8_forecastOf 10 = .ok (.iaload, 1) := by decide +kernel
theorem dX8_forecastOf_11 : decode cX8_forecastOf 11 = .ok (.iconst (-1), 1) := by decide +kernel
theorem dX8_forecastOf_12 : decode cX8_forecastOf 12 = .ok (.if_icmp .ne 18, 3) := by decide +kernel
theorem dX8_forecastOf_15 : decode cX8_forecastOf 15 = .ok (.aload_n 0, 1) := by decide +kernel
theorem dX8_forecastOf_16 : decode cX8_forecastOf 16 = .ok (.getfield 9, 3) := by decide +kernel
theorem dX8_forecastOf_19 : decode cX8_forecastOf 19 = .ok (.iload_n 1, 1) := by decide +kernel
theorem dX8_forecastOf_20 : decode cX8_forecastOf 20 = .ok (.invokestatic 64, 3) := by decide +kernel
theorem dX8_forecastOf_23 : decode cX8_forecastOf 23 = .ok (.bipush 6, 2) := by decide +kernel
theorem dX8_forecastOf_25 : decode cX8_forecastOf 25 = .ok (.iadd, 1) := by decide +kernel
theorem dX8_forecastOf_26 : decode cX8_forecastOf 26 = .ok (.iaload, 1) := by decide +kernel
theorem dX8_forecastOf_27 : decode cX8_forecastOf 27 = .ok (.goto 9, 3) := by decide +kernel
theorem dX8_forecastOf_30 : decode cX8_forecastOf 30 = .ok (.aload_n 0, 1) := by decide +kernel
theorem dX8_forecastOf_31 : decode cX8_forecastOf 31 = .ok (.getfield 9, 3) := by decide +kernel
theorem dX8_forecastOf_34 : decode cX8_forecastOf 34 = .ok (.iconst 4, 1) := by decide +kernel
theorem dX8_forecastOf_35 : decode cX8_forecastOf 35 = .ok (.iaload, 1) := by decide +kernel
theorem dX8_forecastOf_36 : decode cX8_forecastOf 36 = .ok (.istore_n 2, 1) := by decide +kernel
theorem dX8_forecastOf_37 : decode cX8_forecastOf 37 = .ok (.aload_n 0, 1) := by decide +kernel
theorem dX8_forecastOf_38 : decode cX8_forecastOf 38 = .ok (.aload_n 0, 1) := by decide +kernel
theorem dX8_forecastOf_39 : decode cX8_forecastOf 39 = .ok (.iload_n 1, 1) := by decide +kernel
theorem dX8_forecastOf_40 : decode cX8_forecastOf 40 = .ok (.invokevirtual 86, 3) := by decide +kernel
theorem dX8_forecastOf_43 : decode cX8_forecastOf 43 = .ok (.aload_n 0, 1) := by decide +kernel
theorem dX8_forecastOf_44 : decode cX8_forecastOf 44 = .ok (.getfield 9, 3) := by decide +kernel
theorem dX8_forecastOf_47 : decode cX8_forecastOf 47 = .ok (.iload_n 1, 1) := by decide +kernel
theorem dX8_forecastOf_48 : decode cX8_forecastOf 48 = .ok (.invokestatic 64, 3) := by decide +kernel
theorem dX8_forecastOf_51 : decode cX8_forecastOf 51 = .ok (.iconst 1, 1) := by decide +kernel
theorem dX8_forecastOf_52 : decode cX8_forecastOf 52 = .ok (.iadd, 1) := by decide +kernel
theorem dX8_forecastOf_53 : decode cX8_forecastOf 53 = .ok (.iaload, 1) := by decide +kernel
theorem dX8_forecastOf_54 : decode cX8_forecastOf 54 = .ok (.iload_n 2, 1) := by decide +kernel
theorem dX8_forecastOf_55 : decode cX8_forecastOf 55 = .ok (.invokevirtual 89, 3) := by decide +kernel
theorem dX8_forecastOf_58 : decode cX8_forecastOf 58 = .ok (.ireturn, 1) := by decide +kernel
theorem dX8_next_0 : decode cX8_next 0 = .ok (.aload_n 0, 1) := by decide +kernel
theorem dX8_next_1 : decode cX8_next 1 = .ok (.iload_n 1, 1) := by decide +kernel
theorem dX8_next_2 : decode cX8_next 2 = .ok (.invokevirtual 93, 3) := by decide +kernel
theorem dX8_next_5 : decode cX8_next 5 = .ok (.istore_n 2, 1) := by decide +kernel
theorem dX8_next_6 : decode cX8_next 6 = .ok (.iconst (-1), 1) := by decide +kernel
theorem dX8_next_7 : decode cX8_next 7 = .ok (.istore_n 3, 1) := by decide +kernel
theorem dX8_next_8 : decode cX8_next 8 = .ok (.aload_n 0, 1) := by decide +kernel
theorem dX8_next_9 : decode cX8_next 9 = .ok (.getfield 9, 3) := by decide +kernel
theorem dX8_next_12 : decode cX8_next 12 = .ok (.iconst 1, 1) := by decide +kernel
theorem dX8_next_13 : decode cX8_next 13 = .ok (.iaload, 1) := by decide +kernel
theorem dX8_next_14 : decode cX8_next 14 = .ok (.iconst 1, 1) := by decide +kernel
theorem dX8_next_15 : decode cX8_next 15 = .ok (.isub, 1) := by decide +kernel
theorem dX8_next_16 : decode cX8_next 16 = .ok (.istore 4, 2) := by decide +kernel
theorem dX8_next_18 : decode cX8_next 18 = .ok (.iload 4, 2) := by decide +kernel
theorem dX8_next_20 : decode cX8_next 20 = .ok (.ifCond .lt 117, 3) := by decide +kernel
theorem dX8_next_23 : decode cX8_next 23 = .ok (.iload_n 2, 1) := by decide +kernel
theorem dX8_next_24 : decode cX8_next 24 = .ok (.ldc 71, 2) := by decide +kernel
theorem dX8_next_26 : decode cX8_next 26 = .ok (.if_icmp .ge 111, 3) := by decide +kernel
theorem dX8_next_29 : decode cX8_next 29 = .ok (.iload 4, 2) := by decide +kernel
theorem dX8_next_31 : decode cX8_next 31 = .ok (.invokestatic 68, 3) := by decide +kernel
theorem dX8_next_34 : decode cX8_next 34 = .ok (.istore 5, 2) := by decide +kernel
theorem dX8_next_36 : decode cX8_next 36 = .ok (.aload_n 0, 1) := by decide +kernel
theorem dX8_next_37 : decode cX8_next 37 = .ok (.getfield 9, 3) := by decide +kernel
theorem dX8_next_40 : decode cX8_next 40 = .ok (.iload 5, 2) := by decide +kernel
theorem dX8_next_42 : decode cX8_next 42 = .ok (.iaload, 1) := by decide +kernel
theorem dX8_next_43 : decode cX8_next 43 = .ok (.aload_n 0, 1) := by decide +kernel
theorem dX8_next_44 : decode cX8_next 44 = .ok (.getfield 9, 3) := by decide +kernel
theorem dX8_next_47 : decode cX8_next 47 = .ok (.iload_n 1, 1) := by decide +kernel
theorem dX8_next_48 : decode cX8_next 48 = .ok (.invokestatic 64, 3) := by decide +kernel
theorem dX8_next_51 : decode cX8_next 51 = .ok (.iconst 4, 1) := by decide +kernel
theorem dX8_next_52 : decode cX8_next 52 = .ok (.iadd, 1) := by decide +kernel
theorem dX8_next_53 : decode cX8_next 53 = .ok (.iaload, 1) := by decide +kernel
theorem dX8_next_54 : decode cX8_next 54 = .ok (.if_icmp .ne 22, 3) := by decide +kernel
theorem dX8_next_57 : decode cX8_next 57 = .ok (.aload_n 0, 1) := by decide +kernel
theorem dX8_next_58 : decode cX8_next 58 = .ok (.iload 4, 2) := by decide +kernel
theorem dX8_next_60 : decode cX8_next 60 = .ok (.aload_n 0, 1) := by decide +kernel
theorem dX8_next_61 : decode cX8_next 61 = .ok (.getfield 9, 3) := by decide +kernel
theorem dX8_next_64 : decode cX8_next 64 = .ok (.iconst 4, 1) := by decide +kernel
theorem dX8_next_65 : decode cX8_next 65 = .ok (.iaload, 1) := by decide +kernel
theorem dX8_next_66 : decode cX8_next 66 = .ok (.invokevirtual 72, 3) := by decide +kernel
theorem dX8_next_69 : decode cX8_next 69 = .ok (.ifCond .eq 7, 3) := by decide +kernel
theorem dX8_next_72 : decode cX8_next 72 = .ok (.iconst 1, 1) := by decide +kernel
theorem dX8_next_73 : decode cX8_next 73 = .ok (.goto 4, 3) := by decide +kernel
theorem dX8_next_76 : decode cX8_next 76 = .ok (.iconst 0, 1) := by decide +kernel
theorem dX8_next_77 : decode cX8_next 77 = .ok (.istore 6, 2) := by decide +kernel
theorem dX8_next_79 : decode cX8_next 79 = .ok (.iload 6, 2) := by decide +kernel
theorem dX8_next_81 : decode cX8_next 81 = .ok (.ifCond .eq 50, 3) := by decide +kernel
theorem dX8_next_84 : decode cX8_next 84 = .ok (.aload_n 0, 1) := by decide +kernel
theorem dX8_next_85 : decode cX8_next 85 = .ok (.aload_n 0, 1) := by decide +kernel
theorem dX8_next_86 : decode cX8_next 86 = .ok (.getfield 9, 3) := by decide +kernel
theorem dX8_next_89 : decode cX8_next 89 = .ok (.iload 5, 2) := by decide +kernel
theorem dX8_next_91 : decode cX8_next 91 = .ok (.iconst 1, 1) := by decide +kernel
theorem dX8_next_92 : decode cX8_next 92 = .ok (.iadd, 1) := by decide +kernel
theorem dX8_next_93 : decode cX8_next 93 = .ok (.iaload, 1) := by decide +kernel
theorem dX8_next_94 : decode cX8_next 94 = .ok (.aload_n 0, 1) := by decide +kernel
theorem dX8_next_95 : decode cX8_next 95 = .ok (.getfield 9, 3) := by decide +kernel
theorem dX8_next_98 : decode cX8_next 98 = .ok (.iload_n 1, 1) := by decide +kernel
theorem dX8_next_99 : decode cX8_next 99 = .ok (.invokestatic 64, 3) := by decide +kernel
theorem dX8_next_102 : decode cX8_next 102 = .ok (.iconst 1, 1) := by decide +kernel
theorem dX8_next_103 : decode cX8_next 103 = .ok (.iadd, 1) := by decide +kernel
theorem dX8_next_104 : decode cX8_next 104 = .ok (.iaload, 1) := by decide +kernel
theorem dX8_next_105 : decode cX8_next 105 = .ok (.aload_n 0, 1) := by decide +kernel
theorem dX8_next_106 : decode cX8_next 106 = .ok (.getfield 9, 3) := by decide +kernel
theorem dX8_next_109 : decode cX8_next 109 = .ok (.iconst 4, 1) := by decide +kernel
theorem dX8_next_110 : decode cX8_next 110 = .ok (.iaload, 1) := by decide +kernel
theorem dX8_next_111 : decode cX8_next 111 = .ok (.aload_n 0, 1) := by decide +kernel
theorem dX8_next_112 : decode cX8_next 112 = .ok (.getfield 9, 3) := by decide +kernel
theorem dX8_next_115 : decode cX8_next 115 = .ok (.iload 5, 2) := by decide +kernel
theorem dX8_next_117 : decode cX8_next 117 = .ok (.iconst 2, 1) := by decide +kernel
theorem dX8_next_118 : decode cX8_next 118 = .ok (.iadd, 1) := by decide +kernel
theorem dX8_next_119 : decode cX8_next 119 = .ok (.iaload, 1) := by decide +kernel
theorem dX8_next_120 : decode cX8_next 120 = .ok (.iadd, 1) := by decide +kernel
theorem dX8_next_121 : decode cX8_next 121 = .ok (.invokevirtual 89, 3) := by decide +kernel
theorem dX8_next_124 : decode cX8_next 124 = .ok (.iload_n 2, 1) := by decide +kernel
theorem dX8_next_125 : decode cX8_next 125 = .ok (.if_icmp .ne 6, 3) := by decide +kernel
theorem dX8_next_128 : decode cX8_next 128 = .ok (.iload 4, 2) := by decide +kernel
theorem dX8_next_130 : decode cX8_next 130 = .ok (.istore_n 3, 1) := by decide +kernel
theorem dX8_next_131 : decode cX8_next 131 = .ok (.iinc 4 (-1), 3) := by decide +kernel
theorem dX8_next_134 : decode cX8_next 134 = .ok (.goto (-116), 3) := by decide +kernel
theorem dX8_next_137 : decode cX8_next 137 = .ok (.iload_n 3, 1) := by decide +kernel
theorem dX8_next_138 : decode cX8_next 138 = .ok (.ireturn, 1) := by decide +kernel
theorem dX8_placeIt_0 : decode cX8_placeIt 0 = .ok (.aload_n 0, 1) := by decide +kernel
theorem dX8_placeIt_1 : decode cX8_placeIt 1 = .ok (.getfield 9, 3) := by decide +kernel
theorem dX8_placeIt_4 : decode cX8_placeIt 4 = .ok (.iconst 0, 1) := by decide +kernel
theorem dX8_placeIt_5 : decode cX8_placeIt 5 = .ok (.iaload, 1) := by decide +kernel
theorem dX8_placeIt_6 : decode cX8_placeIt 6 = .ok (.bipush 9, 2) := by decide +kernel
theorem dX8_placeIt_8 : decode cX8_placeIt 8 = .ok (.if_icmp .ne 9, 3) := by decide +kernel
theorem dX8_placeIt_11 : decode cX8_placeIt 11 = .ok (.aload_n 0, 1) := by decide +kernel
theorem dX8_placeIt_12 : decode cX8_placeIt 12 = .ok (.iconst 1, 1) := by decide +kernel
theorem dX8_placeIt_13 : decode cX8_placeIt 13 = .ok (.invokevirtual 96, 3) := by decide +kernel
theorem dX8_placeIt_16 : decode cX8_placeIt 16 = .ok (.ireturn, 1) := by decide +kernel
theorem dX8_placeIt_17 : decode cX8_placeIt 17 = .ok (.aload_n 0, 1) := by decide +kernel
theorem dX8_placeIt_18 : decode cX8_placeIt 18 = .ok (.getfield 9, 3) := by decide +kernel
theorem dX8_placeIt_21 : decode cX8_placeIt 21 = .ok (.iconst 0, 1) := by decide +kernel
theorem dX8_placeIt_22 : decode cX8_placeIt 22 = .ok (.dup2, 1) := by decide +kernel
theorem dX8_placeIt_23 : decode cX8_placeIt 23 = .ok (.iaload, 1) := by decide +kernel
theorem dX8_placeIt_24 : decode cX8_placeIt 24 = .ok (.iconst 1, 1) := by decide +kernel
theorem dX8_placeIt_25 : decode cX8_placeIt 25 = .ok (.iadd, 1) := by decide +kernel
theorem dX8_placeIt_26 : decode cX8_placeIt 26 = .ok (.iastore, 1) := by decide +kernel
theorem dX8_placeIt_27 : decode cX8_placeIt 27 = .ok (.aload_n 0, 1) := by decide +kernel
theorem dX8_placeIt_28 : decode cX8_placeIt 28 = .ok (.getfield 9, 3) := by decide +kernel
theorem dX8_placeIt_31 : decode cX8_placeIt 31 = .ok (.iconst 0, 1) := by decide +kernel
theorem dX8_placeIt_32 : decode cX8_placeIt 32 = .ok (.iaload, 1) := by decide +kernel
theorem dX8_placeIt_33 : decode cX8_placeIt 33 = .ok (.iconst 1, 1) := by decide +kernel
theorem dX8_placeIt_34 : decode cX8_placeIt 34 = .ok (.isub, 1) := by decide +kernel
theorem dX8_placeIt_35 : decode cX8_placeIt 35 = .ok (.ireturn, 1) := by decide +kernel
theorem dX8_addPlace_0 : decode cX8_addPlace 0 = .ok (.aload_n 0, 1) := by decide +kernel
theorem dX8_addPlace_1 : decode cX8_addPlace 1 = .ok (.invokevirtual 99, 3) := by decide +kernel
theorem dX8_addPlace_4 : decode cX8_addPlace 4 = .ok (.aload_n 0, 1) := by decide +kernel
theorem dX8_addPlace_5 : decode cX8_addPlace 5 = .ok (.aload_n 0, 1) := by decide +kernel
theorem dX8_addPlace_6 : decode cX8_addPlace 6 = .ok (.invokevirtual 102, 3) := by decide +kernel
theorem dX8_addPlace_9 : decode cX8_addPlace 9 = .ok (.invokevirtual 106, 3) := by decide +kernel
theorem dX8_addPlace_12 : decode cX8_addPlace 12 = .ok (.ireturn, 1) := by decide +kernel
theorem dX8_linkIt_0 : decode cX8_linkIt 0 = .ok (.aload_n 0, 1) := by decide +kernel
theorem dX8_linkIt_1 : decode cX8_linkIt 1 = .ok (.iload_n 1, 1) := by decide +kernel
theorem dX8_linkIt_2 : decode cX8_linkIt 2 = .ok (.invokevirtual 109, 3) := by decide +kernel
theorem dX8_linkIt_5 : decode cX8_linkIt 5 = .ok (.ifCond .eq 11, 3) := by decide +kernel
theorem dX8_linkIt_8 : decode cX8_linkIt 8 = .ok (.aload_n 0, 1) := by decide +kernel
theorem dX8_linkIt_9 : decode cX8_linkIt 9 = .ok (.iload_n 2, 1) := by decide +kernel
theorem dX8_linkIt_10 : decode cX8_linkIt 10 = .ok (.invokevirtual 109, 3) := by decide +kernel
theorem dX8_linkIt_13 : decode cX8_linkIt 13 = .ok (.ifCond .ne 9, 3) := by decide +kernel
theorem dX8_linkIt_16 : decode cX8_linkIt 16 = .ok (.aload_n 0, 1) := by decide +kernel
theorem dX8_linkIt_17 : decode cX8_linkIt 17 = .ok (.iconst 1, 1) := by decide +kernel
theorem dX8_linkIt_18 : decode cX8_linkIt 18 = .ok (.invokevirtual 96, 3) := by decide +kernel
theorem dX8_linkIt_21 : decode cX8_linkIt 21 = .ok (.ireturn, 1) := by decide +kernel
theorem dX8_linkIt_22 : decode cX8_linkIt 22 = .ok (.iload_n 1, 1) := by decide +kernel
theorem dX8_linkIt_23 : decode cX8_linkIt 23 = .ok (.iload_n 2, 1) := by decide +kernel
theorem dX8_linkIt_24 : decode cX8_linkIt 24 = .ok (.if_icmp .eq 28, 3) := by decide +kernel
theorem dX8_linkIt_27 : decode cX8_linkIt 27 = .ok (.iload_n 3, 1) := by decide +kernel
theorem dX8_linkIt_28 : decode cX8_linkIt 28 = .ok (.i2l, 1) := by decide +kernel
theorem dX8_linkIt_29 : decode cX8_linkIt 29 = .ok (.lconst 1, 1) := by decide +kernel
theorem dX8_linkIt_30 : decode cX8_linkIt 30 = .ok (.ldc2_w 113, 3) := by decide +kernel
theorem dX8_linkIt_33 : decode cX8_linkIt 33 = .ok (.invokestatic 60, 3) := by decide +kernel
theorem dX8_linkIt_36 : decode cX8_linkIt 36 = .ok (.ifCond .eq 16, 3) := by decide +kernel
theorem dX8_linkIt_39 : decode cX8_linkIt 39 = .ok (.iload 4, 2) := by decide +kernel
theorem dX8_linkIt_41 : decode cX8_linkIt 41 = .ok (.i2l, 1) := by decide +kernel
theorem dX8_linkIt_42 : decode cX8_linkIt 42 = .ok (.lconst 0, 1) := by decide +kernel
theorem dX8_linkIt_43 : decode cX8_linkIt 43 = .ok (.ldc2_w 115, 3) := by decide +kernel
theorem dX8_linkIt_46 : decode cX8_linkIt 46 = .ok (.invokestatic 60, 3) := by decide +kernel
theorem dX8_linkIt_49 : decode cX8_linkIt 49 = .ok (.ifCond .ne 9, 3) := by decide +kernel
theorem dX8_linkIt_52 : decode cX8_linkIt 52 = .ok (.aload_n 0, 1) := by decide +kernel
theorem dX8_linkIt_53 : decode cX8_linkIt 53 = .ok (.iconst 2, 1) := by decide +kernel
theorem dX8_linkIt_54 : decode cX8_linkIt 54 = .ok (.invokevirtual 96, 3) := by decide +kernel
theorem dX8_linkIt_57 : decode cX8_linkIt 57 = .ok (.ireturn, 1) := by decide +kernel
theorem dX8_linkIt_58 : decode cX8_linkIt 58 = .ok (.aload_n 0, 1) := by decide +kernel
theorem dX8_linkIt_59 : decode cX8_linkIt 59 = .ok (.getfield 9, 3) := by decide +kernel
theorem dX8_linkIt_62 : decode cX8_linkIt 62 = .ok (.iconst 1, 1) := by decide +kernel
theorem dX8_linkIt_63 : decode cX8_linkIt 63 = .ok (.iaload, 1) := by decide +kernel
theorem dX8_linkIt_64 : decode cX8_linkIt 64 = .ok (.bipush 20, 2) := by decide +kernel
theorem dX8_linkIt_66 : decode cX8_linkIt 66 = .ok (.if_icmp .ne 9, 3) := by decide +kernel
theorem dX8_linkIt_69 : decode cX8_linkIt 69 = .ok (.aload_n 0, 1) := by decide +kernel
theorem dX8_linkIt_70 : decode cX8_linkIt 70 = .ok (.iconst 3, 1) := by decide +kernel
theorem dX8_linkIt_71 : decode cX8_linkIt 71 = .ok (.invokevirtual 96, 3) := by decide +kernel
theorem dX8_linkIt_74 : decode cX8_linkIt 74 = .ok (.ireturn, 1) := by decide +kernel
theorem dX8_linkIt_75 : decode cX8_linkIt 75 = .ok (.aload_n 0, 1) := by decide +kernel
theorem dX8_linkIt_76 : decode cX8_linkIt 76 = .ok (.getfield 9, 3) := by decide +kernel
theorem dX8_linkIt_79 : decode cX8_linkIt 79 = .ok (.iconst 1, 1) := by decide +kernel
theorem dX8_linkIt_80 : decode cX8_linkIt 80 = .ok (.iaload, 1) := by decide +kernel
theorem dX8_linkIt_81 : decode cX8_linkIt 81 = .ok (.invokestatic 68, 3) := by decide +kernel
theorem dX8_linkIt_84 : decode cX8_linkIt 84 = .ok (.istore 5, 2) := by decide +kernel
theorem dX8_linkIt_86 : decode cX8_linkIt 86 = .ok (.aload_n 0, 1) := by decide +kernel
theorem dX8_linkIt_87 : decode cX8_linkIt 87 = .ok (.getfield 9, 3) := by decide +kernel
theorem dX8_linkIt_90 : decode cX8_linkIt 90 = .ok (.iload 5, 2) := by decide +kernel
theorem dX8_linkIt_92 : decode cX8_linkIt 92 = .ok (.iload_n 1, 1) := by decide +kernel
theorem dX8_linkIt_93 : decode cX8_linkIt 93 = .ok (.iastore, 1) := by decide +kernel
theorem dX8_linkIt_94 : decode cX8_linkIt 94 = .ok (.aload_n 0, 1) := by decide +kernel
theorem dX8_linkIt_95 : decode cX8_linkIt 95 = .ok (.getfield 9, 3) := by decide +kernel
theorem dX8_linkIt_98 : decode cX8_linkIt 98 = .ok (.iload 5, 2) := by decide +kernel
theorem dX8_linkIt_100 : decode cX8_linkIt 100 = .ok (.iconst 1, 1) := by decide +kernel
theorem dX8_linkIt_101 : decode cX8_linkIt 101 = .ok (.iadd, 1) := by decide +kernel
theorem dX8_linkIt_102 : decode cX8_linkIt 102 = .ok (.iload_n 2, 1) := by decide +kernel
theorem dX8_linkIt_103 : decode cX8_linkIt 103 = .ok (.iastore, 1) := by decide +kernel
theorem dX8_linkIt_104 : decode cX8_linkIt 104 = .ok (.aload_n 0, 1) := by decide +kernel
theorem dX8_linkIt_105 : decode cX8_linkIt 105 = .ok (.getfield 9, 3) := by decide +kernel
theorem dX8_linkIt_108 : decode cX8_linkIt 108 = .ok (.iload 5, 2) := by decide +kernel
theorem dX8_linkIt_110 : decode cX8_linkIt 110 = .ok (.iconst 2, 1) := by decide +kernel
theorem dX8_linkIt_111 : decode cX8_linkIt 111 = .ok (.iadd, 1) := by decide +kernel
theorem dX8_linkIt_112 : decode cX8_linkIt 112 = .ok (.iload_n 3, 1) := by decide +kernel
theorem dX8_linkIt_113 : decode cX8_linkIt 113 = .ok (.iastore, 1) := by decide +kernel
theorem dX8_linkIt_114 : decode cX8_linkIt 114 = .ok (.aload_n 0, 1) := by decide +kernel
theorem dX8_linkIt_115 : decode cX8_linkIt 115 = .ok (.getfield 9, 3) := by decide +kernel
theorem dX8_linkIt_118 : decode cX8_linkIt 118 = .ok (.iload 5, 2) := by decide +kernel
theorem dX8_linkIt_120 : decode cX8_linkIt 120 = .ok (.iconst 3, 1) := by decide +kernel
theorem dX8_linkIt_121 : decode cX8_linkIt 121 = .ok (.iadd, 1) := by decide +kernel
theorem dX8_linkIt_122 : decode cX8_linkIt 122 = .ok (.iload 4, 2) := by decide +kernel
theorem dX8_linkIt_124 : decode cX8_linkIt 124 = .ok (.iastore, 1) := by decide +kernel
theorem dX8_linkIt_125 : decode cX8_linkIt 125 = .ok (.aload_n 0, 1) := by decide +kernel
theorem dX8_linkIt_126 : decode cX8_linkIt 126 = .ok (.getfield 9, 3) := by decide +kernel
theorem dX8_linkIt_129 : decode cX8_linkIt 129 = .ok (.iconst 1, 1) := by decide +kernel
theorem dX8_linkIt_130 : decode cX8_linkIt 130 = .ok (.dup2, 1) := by decide +kernel
theorem dX8_linkIt_131 : decode cX8_linkIt 131 = .ok (.iaload, 1) := by decide +kernel
theorem dX8_linkIt_132 : decode cX8_linkIt 132 = .ok (.iconst 1, 1) := by decide +kernel
theorem dX8_linkIt_133 : decode cX8_linkIt 133 = .ok (.iadd, 1) := by decide +kernel
theorem dX8_linkIt_134 : decode cX8_linkIt 134 = .ok (.iastore, 1) := by decide +kernel
theorem dX8_linkIt_135 : decode cX8_linkIt 135 = .ok (.aload_n 0, 1) := by decide +kernel
theorem dX8_linkIt_136 : decode cX8_linkIt 136 = .ok (.getfield 9, 3) := by decide +kernel
theorem dX8_linkIt_139 : decode cX8_linkIt 139 = .ok (.iconst 1, 1) := by decide +kernel
theorem dX8_linkIt_140 : decode cX8_linkIt 140 = .ok (.iaload, 1) := by decide +kernel
theorem dX8_linkIt_141 : decode cX8_linkIt 141 = .ok (.iconst 1, 1) := by decide +kernel
theorem dX8_linkIt_142 : decode cX8_linkIt 142 = .ok (.isub, 1) := by decide +kernel
theorem dX8_linkIt_143 : decode cX8_linkIt 143 = .ok (.ireturn, 1) := by decide +kernel
theorem dX8_addLink_0 : decode cX8_addLink 0 = .ok (.aload_n 0, 1) := by decide +kernel
theorem dX8_addLink_1 : decode cX8_addLink 1 = .ok (.invokevirtual 99, 3) := by decide +kernel
theorem dX8_addLink_4 : decode cX8_addLink 4 = .ok (.aload_n 0, 1) := by decide +kernel
theorem dX8_addLink_5 : decode cX8_addLink 5 = .ok (.aload_n 0, 1) := by decide +kernel
theorem dX8_addLink_6 : decode cX8_addLink 6 = .ok (.iload_n 1, 1) := by decide +kernel
theorem dX8_addLink_7 : decode cX8_addLink 7 = .ok (.iload_n 2, 1) := by decide +kernel
theorem dX8_addLink_8 : decode cX8_addLink 8 = .ok (.iload_n 3, 1) := by decide +kernel
theorem dX8_addLink_9 : decode cX8_addLink 9 = .ok (.iload 4, 2) := by decide +kernel
theorem dX8_addLink_11 : decode cX8_addLink 11 = .ok (.invokevirtual 117, 3) := by decide +kernel
theorem dX8_addLink_14 : decode cX8_addLink 14 = .ok (.invokevirtual 106, 3) := by decide +kernel
theorem dX8_addLink_17 : decode cX8_addLink 17 = .ok (.ireturn, 1) := by decide +kernel
theorem dX8_blockIt_0 : decode cX8_blockIt 0 = .ok (.aload_n 0, 1) := by decide +kernel
theorem dX8_blockIt_1 : decode cX8_blockIt 1 = .ok (.iload_n 1, 1) := by decide +kernel
theorem dX8_blockIt_2 : decode cX8_blockIt 2 = .ok (.invokevirtual 121, 3) := by decide +kernel
theorem dX8_blockIt_5 : decode cX8_blockIt 5 = .ok (.ifCond .ne 9, 3) := by decide +kernel
theorem dX8_blockIt_8 : decode cX8_blockIt 8 = .ok (.aload_n 0, 1) := by decide +kernel
theorem dX8_blockIt_9 : decode cX8_blockIt 9 = .ok (.iconst 1, 1) := by decide +kernel
theorem dX8_blockIt_10 : decode cX8_blockIt 10 = .ok (.invokevirtual 96, 3) := by decide +kernel
theorem dX8_blockIt_13 : decode cX8_blockIt 13 = .ok (.ireturn, 1) := by decide +kernel
theorem dX8_blockIt_14 : decode cX8_blockIt 14 = .ok (.aload_n 0, 1) := by decide +kernel
theorem dX8_blockIt_15 : decode cX8_blockIt 15 = .ok (.getfield 9, 3) := by decide +kernel
theorem dX8_blockIt_18 : decode cX8_blockIt 18 = .ok (.iload_n 1, 1) := by decide +kernel
theorem dX8_blockIt_19 : decode cX8_blockIt 19 = .ok (.invokestatic 68, 3) := by decide +kernel
theorem dX8_blockIt_22 : decode cX8_blockIt 22 = .ok (.iconst 4, 1) := by decide +kernel
theorem dX8_blockIt_23 : decode cX8_blockIt 23 = .ok (.iadd, 1) := by decide +kernel
theorem dX8_blockIt_24 : decode cX8_blockIt 24 = .ok (.iaload, 1) := by decide +kernel
theorem dX8_blockIt_25 : decode cX8_blockIt 25 = .ok (.iload_n 2, 1) := by decide +kernel
theorem dX8_blockIt_26 : decode cX8_blockIt 26 = .ok (.if_icmp .ne 9, 3) := by decide +kernel
theorem dX8_blockIt_29 : decode cX8_blockIt 29 = .ok (.aload_n 0, 1) := by decide +kernel
theorem dX8_blockIt_30 : decode cX8_blockIt 30 = .ok (.iconst 2, 1) := by decide +kernel
theorem dX8_blockIt_31 : decode cX8_blockIt 31 = .ok (.invokevirtual 96, 3) := by decide +kernel
theorem dX8_blockIt_34 : decode cX8_blockIt 34 = .ok (.ireturn, 1) := by decide +kernel
theorem dX8_blockIt_35 : decode cX8_blockIt 35 = .ok (.aload_n 0, 1) := by decide +kernel
theorem dX8_blockIt_36 : decode cX8_blockIt 36 = .ok (.getfield 9, 3) := by decide +kernel
theorem dX8_blockIt_39 : decode cX8_blockIt 39 = .ok (.iload_n 1, 1) := by decide +kernel
theorem dX8_blockIt_40 : decode cX8_blockIt 40 = .ok (.invokestatic 68, 3) := by decide +kernel
theorem dX8_blockIt_43 : decode cX8_blockIt 43 = .ok (.iconst 4, 1) := by decide +kernel
theorem dX8_blockIt_44 : decode cX8_blockIt 44 = .ok (.iadd, 1) := by decide +kernel
theorem dX8_blockIt_45 : decode cX8_blockIt 45 = .ok (.iload_n 2, 1) := by decide +kernel
theorem dX8_blockIt_46 : decode cX8_blockIt 46 = .ok (.iastore, 1) := by decide +kernel
theorem dX8_blockIt_47 : decode cX8_blockIt 47 = .ok (.aload_n 0, 1) := by decide +kernel
theorem dX8_blockIt_48 : decode cX8_blockIt 48 = .ok (.invokevirtual 124, 3) := by decide +kernel
theorem dX8_blockIt_51 : decode cX8_blockIt 51 = .ok (.ireturn, 1) := by decide +kernel
theorem dX8_block_0 : decode cX8_block 0 = .ok (.aload_n 0, 1) := by decide +kernel
theorem dX8_block_1 : decode cX8_block 1 = .ok (.invokevirtual 99, 3) := by decide +kernel
theorem dX8_block_4 : decode cX8_block 4 = .ok (.aload_n 0, 1) := by decide +kernel
theorem dX8_block_5 : decode cX8_block 5 = .ok (.aload_n 0, 1) := by decide +kernel
theorem dX8_block_6 : decode cX8_block 6 = .ok (.iload_n 1, 1) := by decide +kernel
theorem dX8_block_7 : decode cX8_block 7 = .ok (.iconst 1, 1) := by decide +kernel
theorem dX8_block_8 : decode cX8_block 8 = .ok (.invokevirtual 127, 3) := by decide +kernel
theorem dX8_block_11 : decode cX8_block 11 = .ok (.invokevirtual 106, 3) := by decide +kernel
theorem dX8_block_14 : decode cX8_block 14 = .ok (.ireturn, 1) := by decide +kernel
theorem dX8_open_0 : decode cX8_open 0 = .ok (.aload_n 0, 1) := by decide +kernel
theorem dX8_open_1 : decode cX8_open 1 = .ok (.invokevirtual 99, 3) := by decide +kernel
theorem dX8_open_4 : decode cX8_open 4 = .ok (.aload_n 0, 1) := by decide +kernel
theorem dX8_open_5 : decode cX8_open 5 = .ok (.aload_n 0, 1) := by decide +kernel
theorem dX8_open_6 : decode cX8_open 6 = .ok (.iload_n 1, 1) := by decide +kernel
theorem dX8_open_7 : decode cX8_open 7 = .ok (.iconst 0, 1) := by decide +kernel
theorem dX8_open_8 : decode cX8_open 8 = .ok (.invokevirtual 127, 3) := by decide +kernel
theorem dX8_open_11 : decode cX8_open 11 = .ok (.invokevirtual 106, 3) := by decide +kernel
theorem dX8_open_14 : decode cX8_open 14 = .ok (.ireturn, 1) := by decide +kernel
theorem dX8_postIt_0 : decode cX8_postIt 0 = .ok (.aload_n 0, 1) := by decide +kernel
theorem dX8_postIt_1 : decode cX8_postIt 1 = .ok (.iload_n 1, 1) := by decide +kernel
theorem dX8_postIt_2 : decode cX8_postIt 2 = .ok (.invokevirtual 109, 3) := by decide +kernel
theorem dX8_postIt_5 : decode cX8_postIt 5 = .ok (.ifCond .eq 11, 3) := by decide +kernel
theorem dX8_postIt_8 : decode cX8_postIt 8 = .ok (.aload_n 0, 1) := by decide +kernel
theorem dX8_postIt_9 : decode cX8_postIt 9 = .ok (.iload_n 2, 1) := by decide +kernel
theorem dX8_postIt_10 : decode cX8_postIt 10 = .ok (.invokevirtual 109, 3) := by decide +kernel
theorem dX8_postIt_13 : decode cX8_postIt 13 = .ok (.ifCond .ne 9, 3) := by decide +kernel
theorem dX8_postIt_16 : decode cX8_postIt 16 = .ok (.aload_n 0, 1) := by decide +kernel
theorem dX8_postIt_17 : decode cX8_postIt 17 = .ok (.iconst 1, 1) := by decide +kernel
theorem dX8_postIt_18 : decode cX8_postIt 18 = .ok (.invokevirtual 96, 3) := by decide +kernel
theorem dX8_postIt_21 : decode cX8_postIt 21 = .ok (.ireturn, 1) := by decide +kernel
theorem dX8_postIt_22 : decode cX8_postIt 22 = .ok (.iload_n 1, 1) := by decide +kernel
theorem dX8_postIt_23 : decode cX8_postIt 23 = .ok (.iload_n 2, 1) := by decide +kernel
theorem dX8_postIt_24 : decode cX8_postIt 24 = .ok (.if_icmp .eq 28, 3) := by decide +kernel
theorem dX8_postIt_27 : decode cX8_postIt 27 = .ok (.iload_n 3, 1) := by decide +kernel
theorem dX8_postIt_28 : decode cX8_postIt 28 = .ok (.i2l, 1) := by decide +kernel
theorem dX8_postIt_29 : decode cX8_postIt 29 = .ok (.lconst 1, 1) := by decide +kernel
theorem dX8_postIt_30 : decode cX8_postIt 30 = .ok (.ldc2_w 113, 3) := by decide +kernel
theorem dX8_postIt_33 : decode cX8_postIt 33 = .ok (.invokestatic 60, 3) := by decide +kernel
theorem dX8_postIt_36 : decode cX8_postIt 36 = .ok (.ifCond .eq 16, 3) := by decide +kernel
theorem dX8_postIt_39 : decode cX8_postIt 39 = .ok (.iload 4, 2) := by decide +kernel
theorem dX8_postIt_41 : decode cX8_postIt 41 = .ok (.i2l, 1) := by decide +kernel
theorem dX8_postIt_42 : decode cX8_postIt 42 = .ok (.lconst 0, 1) := by decide +kernel
theorem dX8_postIt_43 : decode cX8_postIt 43 = .ok (.ldc2_w 130, 3) := by decide +kernel
theorem dX8_postIt_46 : decode cX8_postIt 46 = .ok (.invokestatic 60, 3) := by decide +kernel
theorem dX8_postIt_49 : decode cX8_postIt 49 = .ok (.ifCond .ne 9, 3) := by decide +kernel
theorem dX8_postIt_52 : decode cX8_postIt 52 = .ok (.aload_n 0, 1) := by decide +kernel
theorem dX8_postIt_53 : decode cX8_postIt 53 = .ok (.iconst 2, 1) := by decide +kernel
theorem dX8_postIt_54 : decode cX8_postIt 54 = .ok (.invokevirtual 96, 3) := by decide +kernel
theorem dX8_postIt_57 : decode cX8_postIt 57 = .ok (.ireturn, 1) := by decide +kernel
theorem dX8_postIt_58 : decode cX8_postIt 58 = .ok (.aload_n 0, 1) := by decide +kernel
theorem dX8_postIt_59 : decode cX8_postIt 59 = .ok (.getfield 9, 3) := by decide +kernel
theorem dX8_postIt_62 : decode cX8_postIt 62 = .ok (.iconst 2, 1) := by decide +kernel
theorem dX8_postIt_63 : decode cX8_postIt 63 = .ok (.iaload, 1) := by decide +kernel
theorem dX8_postIt_64 : decode cX8_postIt 64 = .ok (.bipush 12, 2) := by decide +kernel
theorem dX8_postIt_66 : decode cX8_postIt 66 = .ok (.if_icmp .ne 9, 3) := by decide +kernel
theorem dX8_postIt_69 : decode cX8_postIt 69 = .ok (.aload_n 0, 1) := by decide +kernel
theorem dX8_postIt_70 : decode cX8_postIt 70 = .ok (.iconst 3, 1) := by decide +kernel
theorem dX8_postIt_71 : decode cX8_postIt 71 = .ok (.invokevirtual 96, 3) := by decide +kernel
theorem dX8_postIt_74 : decode cX8_postIt 74 = .ok (.ireturn, 1) := by decide +kernel
theorem dX8_postIt_75 : decode cX8_postIt 75 = .ok (.aload_n 0, 1) := by decide +kernel
theorem dX8_postIt_76 : decode cX8_postIt 76 = .ok (.getfield 9, 3) := by decide +kernel
theorem dX8_postIt_79 : decode cX8_postIt 79 = .ok (.iconst 2, 1) := by decide +kernel
theorem dX8_postIt_80 : decode cX8_postIt 80 = .ok (.iaload, 1) := by decide +kernel
theorem dX8_postIt_81 : decode cX8_postIt 81 = .ok (.invokestatic 64, 3) := by decide +kernel
theorem dX8_postIt_84 : decode cX8_postIt 84 = .ok (.istore 5, 2) := by decide +kernel
theorem dX8_postIt_86 : decode cX8_postIt 86 = .ok (.aload_n 0, 1) := by decide +kernel
theorem dX8_postIt_87 : decode cX8_postIt 87 = .ok (.getfield 9, 3) := by decide +kernel
theorem dX8_postIt_90 : decode cX8_postIt 90 = .ok (.iload 5, 2) := by decide +kernel
theorem dX8_postIt_92 : decode cX8_postIt 92 = .ok (.aload_n 0, 1) := by decide +kernel
theorem dX8_postIt_93 : decode cX8_postIt 93 = .ok (.getfield 9, 3) := by decide +kernel
theorem dX8_postIt_96 : decode cX8_postIt 96 = .ok (.iconst 3, 1) := by decide +kernel
theorem dX8_postIt_97 : decode cX8_postIt 97 = .ok (.iaload, 1) := by decide +kernel
theorem dX8_postIt_98 : decode cX8_postIt 98 = .ok (.iastore, 1) := by decide +kernel
theorem dX8_postIt_99 : decode cX8_postIt 99 = .ok (.aload_n 0, 1) := by decide +kernel
theorem dX8_postIt_100 : decode cX8_postIt 100 = .ok (.getfield 9, 3) := by decide +kernel
theorem dX8_postIt_103 : decode cX8_postIt 103 = .ok (.iload 5, 2) := by decide +kernel
theorem dX8_postIt_105 : decode cX8_postIt 105 = .ok (.iconst 1, 1) := by decide +kernel
theorem dX8_postIt_106 : decode cX8_postIt 106 = .ok (.iadd, 1) := by decide +kernel
theorem dX8_postIt_107 : decode cX8_postIt 107 = .ok (.iload_n 2, 1) := by decide +kernel
theorem dX8_postIt_108 : decode cX8_postIt 108 = .ok (.iastore, 1) := by decide +kernel
theorem dX8_postIt_109 : decode cX8_postIt 109 = .ok (.aload_n 0, 1) := by decide +kernel
theorem dX8_postIt_110 : decode cX8_postIt 110 = .ok (.getfield 9, 3) := by decide +kernel
theorem dX8_postIt_113 : decode cX8_postIt 113 = .ok (.iload 5, 2) := by decide +kernel
theorem dX8_postIt_115 : decode cX8_postIt 115 = .ok (.iconst 2, 1) := by decide +kernel
theorem dX8_postIt_116 : decode cX8_postIt 116 = .ok (.iadd, 1) := by decide +kernel
theorem dX8_postIt_117 : decode cX8_postIt 117 = .ok (.iload_n 3, 1) := by decide +kernel
theorem dX8_postIt_118 : decode cX8_postIt 118 = .ok (.iastore, 1) := by decide +kernel
theorem dX8_postIt_119 : decode cX8_postIt 119 = .ok (.aload_n 0, 1) := by decide +kernel
theorem dX8_postIt_120 : decode cX8_postIt 120 = .ok (.getfield 9, 3) := by decide +kernel
theorem dX8_postIt_123 : decode cX8_postIt 123 = .ok (.iload 5, 2) := by decide +kernel
theorem dX8_postIt_125 : decode cX8_postIt 125 = .ok (.iconst 3, 1) := by decide +kernel
theorem dX8_postIt_126 : decode cX8_postIt 126 = .ok (.iadd, 1) := by decide +kernel
theorem dX8_postIt_127 : decode cX8_postIt 127 = .ok (.iload 4, 2) := by decide +kernel
theorem dX8_postIt_129 : decode cX8_postIt 129 = .ok (.iastore, 1) := by decide +kernel
theorem dX8_postIt_130 : decode cX8_postIt 130 = .ok (.aload_n 0, 1) := by decide +kernel
theorem dX8_postIt_131 : decode cX8_postIt 131 = .ok (.getfield 9, 3) := by decide +kernel
theorem dX8_postIt_134 : decode cX8_postIt 134 = .ok (.iload 5, 2) := by decide +kernel
theorem dX8_postIt_136 : decode cX8_postIt 136 = .ok (.iconst 4, 1) := by decide +kernel
theorem dX8_postIt_137 : decode cX8_postIt 137 = .ok (.iadd, 1) := by decide +kernel
theorem dX8_postIt_138 : decode cX8_postIt 138 = .ok (.iload_n 1, 1) := by decide +kernel
theorem dX8_postIt_139 : decode cX8_postIt 139 = .ok (.iastore, 1) := by decide +kernel
theorem dX8_postIt_140 : decode cX8_postIt 140 = .ok (.aload_n 0, 1) := by decide +kernel
theorem dX8_postIt_141 : decode cX8_postIt 141 = .ok (.getfield 9, 3) := by decide +kernel
theorem dX8_postIt_144 : decode cX8_postIt 144 = .ok (.iload 5, 2) := by decide +kernel
theorem dX8_postIt_146 : decode cX8_postIt 146 = .ok (.iconst 5, 1) := by decide +kernel
theorem dX8_postIt_147 : decode cX8_postIt 147 = .ok (.iadd, 1) := by decide +kernel
theorem dX8_postIt_148 : decode cX8_postIt 148 = .ok (.iconst (-1), 1) := by decide +kernel
theorem dX8_postIt_149 : decode cX8_postIt 149 = .ok (.iastore, 1) := by decide +kernel
theorem dX8_postIt_150 : decode cX8_postIt 150 = .ok (.aload_n 0, 1) := by decide +kernel
theorem dX8_postIt_151 : decode cX8_postIt 151 = .ok (.getfield 9, 3) := by decide +kernel
theorem dX8_postIt_154 : decode cX8_postIt 154 = .ok (.iload 5, 2) := by decide +kernel
theorem dX8_postIt_156 : decode cX8_postIt 156 = .ok (.bipush 6, 2) := by decide +kernel
theorem dX8_postIt_158 : decode cX8_postIt 158 = .ok (.iadd, 1) := by decide +kernel
theorem dX8_postIt_159 : decode cX8_postIt 159 = .ok (.iconst 0, 1) := by decide +kernel
theorem dX8_postIt_160 : decode cX8_postIt 160 = .ok (.iastore, 1) := by decide +kernel
theorem dX8_postIt_161 : decode cX8_postIt 161 = .ok (.aload_n 0, 1) := by decide +kernel
theorem dX8_postIt_162 : decode cX8_postIt 162 = .ok (.getfield 9, 3) := by decide +kernel
theorem dX8_postIt_165 : decode cX8_postIt 165 = .ok (.iconst 2, 1) := by decide +kernel
theorem dX8_postIt_166 : decode cX8_postIt 166 = .ok (.dup2, 1) := by decide +kernel
theorem dX8_postIt_167 : decode cX8_postIt 167 = .ok (.iaload, 1) := by decide +kernel
theorem dX8_postIt_168 : decode cX8_postIt 168 = .ok (.iconst 1, 1) := by decide +kernel
theorem dX8_postIt_169 : decode cX8_postIt 169 = .ok (.iadd, 1) := by decide +kernel
theorem dX8_postIt_170 : decode cX8_postIt 170 = .ok (.iastore, 1) := by decide +kernel
theorem dX8_postIt_171 : decode cX8_postIt 171 = .ok (.aload_n 0, 1) := by decide +kernel
theorem dX8_postIt_172 : decode cX8_postIt 172 = .ok (.getfield 9, 3) := by decide +kernel
theorem dX8_postIt_175 : decode cX8_postIt 175 = .ok (.iconst 3, 1) := by decide +kernel
theorem dX8_postIt_176 : decode cX8_postIt 176 = .ok (.dup2, 1) := by decide +kernel
theorem dX8_postIt_177 : decode cX8_postIt 177 = .ok (.iaload, 1) := by decide +kernel
theorem dX8_postIt_178 : decode cX8_postIt 178 = .ok (.iconst 1, 1) := by decide +kernel
theorem dX8_postIt_179 : decode cX8_postIt 179 = .ok (.iadd, 1) := by decide +kernel
theorem dX8_postIt_180 : decode cX8_postIt 180 = .ok (.iastore, 1) := by decide +kernel
theorem dX8_postIt_181 : decode cX8_postIt 181 = .ok (.aload_n 0, 1) := by decide +kernel
theorem dX8_postIt_182 : decode cX8_postIt 182 = .ok (.getfield 9, 3) := by decide +kernel
theorem dX8_postIt_185 : decode cX8_postIt 185 = .ok (.iload 5, 2) := by decide +kernel
theorem dX8_postIt_187 : decode cX8_postIt 187 = .ok (.iaload, 1) := by decide +kernel
theorem dX8_postIt_188 : decode cX8_postIt 188 = .ok (.ireturn, 1) := by decide +kernel
theorem dX8_post_0 : decode cX8_post 0 = .ok (.aload_n 0, 1) := by decide +kernel
theorem dX8_post_1 : decode cX8_post 1 = .ok (.invokevirtual 99, 3) := by decide +kernel
theorem dX8_post_4 : decode cX8_post 4 = .ok (.aload_n 0, 1) := by decide +kernel
theorem dX8_post_5 : decode cX8_post 5 = .ok (.aload_n 0, 1) := by decide +kernel
theorem dX8_post_6 : decode cX8_post 6 = .ok (.iload_n 1, 1) := by decide +kernel
theorem dX8_post_7 : decode cX8_post 7 = .ok (.iload_n 2, 1) := by decide +kernel
theorem dX8_post_8 : decode cX8_post 8 = .ok (.iload_n 3, 1) := by decide +kernel
theorem dX8_post_9 : decode cX8_post 9 = .ok (.iload 4, 2) := by decide +kernel
theorem dX8_post_11 : decode cX8_post 11 = .ok (.invokevirtual 132, 3) := by decide +kernel
theorem dX8_post_14 : decode cX8_post 14 = .ok (.invokevirtual 106, 3) := by decide +kernel
theorem dX8_post_17 : decode cX8_post 17 = .ok (.ireturn, 1) := by decide +kernel
theorem dX8_maySend_0 : decode cX8_maySend 0 = .ok (.iload_n 1, 1) := by decide +kernel
theorem dX8_maySend_1 : decode cX8_maySend 1 = .ok (.invokestatic 64, 3) := by decide +kernel
theorem dX8_maySend_4 : decode cX8_maySend 4 = .ok (.istore_n 3, 1) := by decide +kernel
theorem dX8_maySend_5 : decode cX8_maySend 5 = .ok (.aload_n 0, 1) := by decide +kernel
theorem dX8_maySend_6 : decode cX8_maySend 6 = .ok (.getfield 9, 3) := by decide +kernel
theorem dX8_maySend_9 : decode cX8_maySend 9 = .ok (.iload_n 3, 1) := by decide +kernel
theorem dX8_maySend_10 : decode cX8_maySend 10 = .ok (.iconst 4, 1) := by decide +kernel
theorem dX8_maySend_11 : decode cX8_maySend 11 = .ok (.iadd, 1) := by decide +kernel
theorem dX8_maySend_12 : decode cX8_maySend 12 = .ok (.iaload, 1) := by decide +kernel
theorem dX8_maySend_13 : decode cX8_maySend 13 = .ok (.iconst (-1), 1) := by decide +kernel
theorem dX8_maySend_14 : decode cX8_maySend 14 = .ok (.if_icmp .eq 27, 3) := by decide +kernel
theorem dX8_maySend_17 : decode cX8_maySend 17 = .ok (.aload_n 0, 1) := by decide +kernel
theorem dX8_maySend_18 : decode cX8_maySend 18 = .ok (.getfield 9, 3) := by decide +kernel
theorem dX8_maySend_21 : decode cX8_maySend 21 = .ok (.iload_n 3, 1) := by decide +kernel
theorem dX8_maySend_22 : decode cX8_maySend 22 = .ok (.iconst 4, 1) := by decide +kernel
theorem dX8_maySend_23 : decode cX8_maySend 23 = .ok (.iadd, 1) := by decide +kernel
theorem dX8_maySend_24 : decode cX8_maySend 24 = .ok (.iaload, 1) := by decide +kernel
theorem dX8_maySend_25 : decode cX8_maySend 25 = .ok (.aload_n 0, 1) := by decide +kernel
theorem dX8_maySend_26 : decode cX8_maySend 26 = .ok (.getfield 9, 3) := by decide +kernel
theorem dX8_maySend_29 : decode cX8_maySend 29 = .ok (.iload_n 2, 1) := by decide +kernel
theorem dX8_maySend_30 : decode cX8_maySend 30 = .ok (.invokestatic 68, 3) := by decide +kernel
theorem dX8_maySend_33 : decode cX8_maySend 33 = .ok (.iaload, 1) := by decide +kernel
theorem dX8_maySend_34 : decode cX8_maySend 34 = .ok (.if_icmp .ne 7, 3) := by decide +kernel
theorem dX8_maySend_37 : decode cX8_maySend 37 = .ok (.iconst 1, 1) := by decide +kernel
theorem dX8_maySend_38 : decode cX8_maySend 38 = .ok (.goto 4, 3) := by decide +kernel
theorem dX8_maySend_41 : decode cX8_maySend 41 = .ok (.iconst 0, 1) := by decide +kernel
theorem dX8_maySend_42 : decode cX8_maySend 42 = .ok (.istore 4, 2) := by decide +kernel
theorem dX8_maySend_44 : decode cX8_maySend 44 = .ok (.iload 4, 2) := by decide +kernel
theorem dX8_maySend_46 : decode cX8_maySend 46 = .ok (.ifCond .eq 51, 3) := by decide +kernel
theorem dX8_maySend_49 : decode cX8_maySend 49 = .ok (.aload_n 0, 1) := by decide +kernel
theorem dX8_maySend_50 : decode cX8_maySend 50 = .ok (.getfield 9, 3) := by decide +kernel
theorem dX8_maySend_53 : decode cX8_maySend 53 = .ok (.iload_n 3, 1) := by decide +kernel
theorem dX8_maySend_54 : decode cX8_maySend 54 = .ok (.iconst 3, 1) := by decide +kernel
theorem dX8_maySend_55 : decode cX8_maySend 55 = .ok (.iadd, 1) := by decide +kernel
theorem dX8_maySend_56 : decode cX8_maySend 56 = .ok (.iaload, 1) := by decide +kernel
theorem dX8_maySend_57 : decode cX8_maySend 57 = .ok (.ifCond .le 40, 3) := by decide +kernel
theorem dX8_maySend_60 : decode cX8_maySend 60 = .ok (.aload_n 0, 1) := by decide +kernel
theorem dX8_maySend_61 : decode cX8_maySend 61 = .ok (.iload_n 2, 1) := by decide +kernel
theorem dX8_maySend_62 : decode cX8_maySend 62 = .ok (.aload_n 0, 1) := by decide +kernel
theorem dX8_maySend_63 : decode cX8_maySend 63 = .ok (.getfield 9, 3) := by decide +kernel
theorem dX8_maySend_66 : decode cX8_maySend 66 = .ok (.iconst 4, 1) := by decide +kernel
theorem dX8_maySend_67 : decode cX8_maySend 67 = .ok (.iaload, 1) := by decide +kernel
theorem dX8_maySend_68 : decode cX8_maySend 68 = .ok (.invokevirtual 72, 3) := by decide +kernel
theorem dX8_maySend_71 : decode cX8_maySend 71 = .ok (.ifCond .eq 26, 3) := by decide +kernel
theorem dX8_maySend_74 : decode cX8_maySend 74 = .ok (.aload_n 0, 1) := by decide +kernel
theorem dX8_maySend_75 : decode cX8_maySend 75 = .ok (.iload_n 2, 1) := by decide +kernel
theorem dX8_maySend_76 : decode cX8_maySend 76 = .ok (.invokevirtual 135, 3) := by decide +kernel
theorem dX8_maySend_79 : decode cX8_maySend 79 = .ok (.aload_n 0, 1) := by decide +kernel
theorem dX8_maySend_80 : decode cX8_maySend 80 = .ok (.getfield 9, 3) := by decide +kernel
theorem dX8_maySend_83 : decode cX8_maySend 83 = .ok (.iload_n 3, 1) := by decide +kernel
theorem dX8_maySend_84 : decode cX8_maySend 84 = .ok (.iconst 2, 1) := by decide +kernel
theorem dX8_maySend_85 : decode cX8_maySend 85 = .ok (.iadd, 1) := by decide +kernel
theorem dX8_maySend_86 : decode cX8_maySend 86 = .ok (.iaload, 1) := by decide +kernel
theorem dX8_maySend_87 : decode cX8_maySend 87 = .ok (.iadd, 1) := by decide +kernel
theorem dX8_maySend_88 : decode cX8_maySend 88 = .ok (.bipush 10, 2) := by decide +kernel
theorem dX8_maySend_90 : decode cX8_maySend 90 = .ok (.if_icmp .gt 7, 3) := by decide +kernel
theorem dX8_maySend_93 : decode cX8_maySend 93 = .ok (.iconst 1, 1) := by decide +kernel
theorem dX8_maySend_94 : decode cX8_maySend 94 = .ok (.goto 4, 3) := by decide +kernel
theorem dX8_maySend_97 : decode cX8_maySend 97 = .ok (.iconst 0, 1) := by decide +kernel
theorem dX8_maySend_98 : decode cX8_maySend 98 = .ok (.ireturn, 1) := by decide +kernel
theorem dX8_sends_0 : decode cX8_sends 0 = .ok (.iload_n 1, 1) := by decide +kernel
theorem dX8_sends_1 : decode cX8_sends 1 = .ok (.invokestatic 64, 3) := by decide +kernel
theorem dX8_sends_4 : decode cX8_sends 4 = .ok (.istore_n 3, 1) := by decide +kernel
theorem dX8_sends_5 : decode cX8_sends 5 = .ok (.aload_n 0, 1) := by decide +kernel
theorem dX8_sends_6 : decode cX8_sends 6 = .ok (.getfield 9, 3) := by decide +kernel
theorem dX8_sends_9 : decode cX8_sends 9 = .ok (.iload_n 3, 1) := by decide +kernel
theorem dX8_sends_10 : decode cX8_sends 10 = .ok (.iconst 3, 1) := by decide +kernel
theorem dX8_sends_11 : decode cX8_sends 11 = .ok (.iadd, 1) := by decide +kernel
theorem dX8_sends_12 : decode cX8_sends 12 = .ok (.dup2, 1) := by decide +kernel
theorem dX8_sends_13 : decode cX8_sends 13 = .ok (.iaload, 1) := by decide +kernel
theorem dX8_sends_14 : decode cX8_sends 14 = .ok (.iconst 1, 1) := by decide +kernel
theorem dX8_sends_15 : decode cX8_sends 15 = .ok (.isub, 1) := by decide +kernel
theorem dX8_sends_16 : decode cX8_sends 16 = .ok (.iastore, 1) := by decide +kernel
theorem dX8_sends_17 : decode cX8_sends 17 = .ok (.aload_n 0, 1) := by decide +kernel
theorem dX8_sends_18 : decode cX8_sends 18 = .ok (.getfield 9, 3) := by decide +kernel
theorem dX8_sends_21 : decode cX8_sends 21 = .ok (.bipush 7, 2) := by decide +kernel
theorem dX8_sends_23 : decode cX8_sends 23 = .ok (.dup2, 1) := by decide +kernel
theorem dX8_sends_24 : decode cX8_sends 24 = .ok (.iaload, 1) := by decide +kernel
theorem dX8_sends_25 : decode cX8_sends 25 = .ok (.iconst 1, 1) := by decide +kernel
theorem dX8_sends_26 : decode cX8_sends 26 = .ok (.iadd, 1) := by decide +kernel
theorem dX8_sends_27 : decode cX8_sends 27 = .ok (.iastore, 1) := by decide +kernel
theorem dX8_sends_28 : decode cX8_sends 28 = .ok (.aload_n 0, 1) := by decide +kernel
theorem dX8_sends_29 : decode cX8_sends 29 = .ok (.getfield 9, 3) := by decide +kernel
theorem dX8_sends_32 : decode cX8_sends 32 = .ok (.iload_n 3, 1) := by decide +kernel
theorem dX8_sends_33 : decode cX8_sends 33 = .ok (.iconst 4, 1) := by decide +kernel
theorem dX8_sends_34 : decode cX8_sends 34 = .ok (.iadd, 1) := by decide +kernel
theorem dX8_sends_35 : decode cX8_sends 35 = .ok (.iconst (-1), 1) := by decide +kernel
theorem dX8_sends_36 : decode cX8_sends 36 = .ok (.iastore, 1) := by decide +kernel
theorem dX8_sends_37 : decode cX8_sends 37 = .ok (.aload_n 0, 1) := by decide +kernel
theorem dX8_sends_38 : decode cX8_sends 38 = .ok (.getfield 9, 3) := by decide +kernel
theorem dX8_sends_41 : decode cX8_sends 41 = .ok (.iload_n 3, 1) := by decide +kernel
theorem dX8_sends_42 : decode cX8_sends 42 = .ok (.iconst 5, 1) := by decide +kernel
theorem dX8_sends_43 : decode cX8_sends 43 = .ok (.iadd, 1) := by decide +kernel
theorem dX8_sends_44 : decode cX8_sends 44 = .ok (.iload_n 2, 1) := by decide +kernel
theorem dX8_sends_45 : decode cX8_sends 45 = .ok (.iastore, 1) := by decide +kernel
theorem dX8_sends_46 : decode cX8_sends 46 = .ok (.aload_n 0, 1) := by decide +kernel
theorem dX8_sends_47 : decode cX8_sends 47 = .ok (.getfield 9, 3) := by decide +kernel
theorem dX8_sends_50 : decode cX8_sends 50 = .ok (.iload_n 3, 1) := by decide +kernel
theorem dX8_sends_51 : decode cX8_sends 51 = .ok (.bipush 6, 2) := by decide +kernel
theorem dX8_sends_53 : decode cX8_sends 53 = .ok (.iadd, 1) := by decide +kernel
theorem dX8_sends_54 : decode cX8_sends 54 = .ok (.aload_n 0, 1) := by decide +kernel
theorem dX8_sends_55 : decode cX8_sends 55 = .ok (.getfield 9, 3) := by decide +kernel
theorem dX8_sends_58 : decode cX8_sends 58 = .ok (.iconst 4, 1) := by decide +kernel
theorem dX8_sends_59 : decode cX8_sends 59 = .ok (.iaload, 1) := by decide +kernel
theorem dX8_sends_60 : decode cX8_sends 60 = .ok (.aload_n 0, 1) := by decide +kernel
theorem dX8_sends_61 : decode cX8_sends 61 = .ok (.getfield 9, 3) := by decide +kernel
theorem dX8_sends_64 : decode cX8_sends 64 = .ok (.iload_n 2, 1) := by decide +kernel
theorem dX8_sends_65 : decode cX8_sends 65 = .ok (.invokestatic 68, 3) := by decide +kernel
theorem dX8_sends_68 : decode cX8_sends 68 = .ok (.iconst 2, 1) := by decide +kernel
theorem dX8_sends_69 : decode cX8_sends 69 = .ok (.iadd, 1) := by decide +kernel
theorem dX8_sends_70 : decode cX8_sends 70 = .ok (.iaload, 1) := by decide +kernel
theorem dX8_sends_71 : decode cX8_sends 71 = .ok (.iadd, 1) := by decide +kernel
theorem dX8_sends_72 : decode cX8_sends 72 = .ok (.iastore, 1) := by decide +kernel
theorem dX8_sends_73 : decode cX8_sends 73 = .ok (.aload_n 0, 1) := by decide +kernel
theorem dX8_sends_74 : decode cX8_sends 74 = .ok (.getfield 9, 3) := by decide +kernel
theorem dX8_sends_77 : decode cX8_sends 77 = .ok (.iload_n 3, 1) := by decide +kernel
theorem dX8_sends_78 : decode cX8_sends 78 = .ok (.bipush 6, 2) := by decide +kernel
theorem dX8_sends_80 : decode cX8_sends 80 = .ok (.iadd, 1) := by decide +kernel
theorem dX8_sends_81 : decode cX8_sends 81 = .ok (.iaload, 1) := by decide +kernel
theorem dX8_sends_82 : decode cX8_sends 82 = .ok (.ireturn, 1) := by decide +kernel
theorem dX8_sendIt_0 : decode cX8_sendIt 0 = .ok (.aload_n 0, 1) := by decide +kernel
theorem dX8_sendIt_1 : decode cX8_sendIt 1 = .ok (.iload_n 1, 1) := by decide +kernel
theorem dX8_sendIt_2 : decode cX8_sendIt 2 = .ok (.invokevirtual 138, 3) := by decide +kernel
theorem dX8_sendIt_5 : decode cX8_sendIt 5 = .ok (.istore_n 3, 1) := by decide +kernel
theorem dX8_sendIt_6 : decode cX8_sendIt 6 = .ok (.iload_n 3, 1) := by decide +kernel
theorem dX8_sendIt_7 : decode cX8_sendIt 7 = .ok (.iconst (-1), 1) := by decide +kernel
theorem dX8_sendIt_8 : decode cX8_sendIt 8 = .ok (.if_icmp .ne 9, 3) := by decide +kernel
theorem dX8_sendIt_11 : decode cX8_sendIt 11 = .ok (.aload_n 0, 1) := by decide +kernel
theorem dX8_sendIt_12 : decode cX8_sendIt 12 = .ok (.iconst 1, 1) := by decide +kernel
theorem dX8_sendIt_13 : decode cX8_sendIt 13 = .ok (.invokevirtual 96, 3) := by decide +kernel
theorem dX8_sendIt_16 : decode cX8_sendIt 16 = .ok (.ireturn, 1) := by decide +kernel
theorem dX8_sendIt_17 : decode cX8_sendIt 17 = .ok (.aload_n 0, 1) := by decide +kernel
theorem dX8_sendIt_18 : decode cX8_sendIt 18 = .ok (.iload_n 2, 1) := by decide +kernel
theorem dX8_sendIt_19 : decode cX8_sendIt 19 = .ok (.invokevirtual 121, 3) := by decide +kernel
theorem dX8_sendIt_22 : decode cX8_sendIt 22 = .ok (.ifCond .ne 9, 3) := by decide +kernel
theorem dX8_sendIt_25 : decode cX8_sendIt 25 = .ok (.aload_n 0, 1) := by decide +kernel
theorem dX8_sendIt_26 : decode cX8_sendIt 26 = .ok (.iconst 2, 1) := by decide +kernel
theorem dX8_sendIt_27 : decode cX8_sendIt 27 = .ok (.invokevirtual 96, 3) := by decide +kernel
theorem dX8_sendIt_30 : decode cX8_sendIt 30 = .ok (.ireturn, 1) := by decide +kernel
theorem dX8_sendIt_31 : decode cX8_sendIt 31 = .ok (.aload_n 0, 1) := by decide +kernel
theorem dX8_sendIt_32 : decode cX8_sendIt 32 = .ok (.iload_n 3, 1) := by decide +kernel
theorem dX8_sendIt_33 : decode cX8_sendIt 33 = .ok (.iload_n 2, 1) := by decide +kernel
theorem dX8_sendIt_34 : decode cX8_sendIt 34 = .ok (.invokevirtual 141, 3) := by decide +kernel
theorem dX8_sendIt_37 : decode cX8_sendIt 37 = .ok (.ifCond .eq 12, 3) := by decide +kernel
theorem dX8_sendIt_40 : decode cX8_sendIt 40 = .ok (.aload_n 0, 1) := by decide +kernel
theorem dX8_sendIt_41 : decode cX8_sendIt 41 = .ok (.iload_n 3, 1) := by decide +kernel
theorem dX8_sendIt_42 : decode cX8_sendIt 42 = .ok (.iload_n 2, 1) := by decide +kernel
theorem dX8_sendIt_43 : decode cX8_sendIt 43 = .ok (.invokevirtual 144, 3) := by decide +kernel
theorem dX8_sendIt_46 : decode cX8_sendIt 46 = .ok (.goto 8, 3) := by decide +kernel
theorem dX8_sendIt_49 : decode cX8_sendIt 49 = .ok (.aload_n 0, 1) := by decide +kernel
theorem dX8_sendIt_50 : decode cX8_sendIt 50 = .ok (.iconst 3, 1) := by decide +kernel
theorem dX8_sendIt_51 : decode cX8_sendIt 51 = .ok (.invokevirtual 96, 3) := by decide +kernel
theorem dX8_sendIt_54 : decode cX8_sendIt 54 = .ok (.ireturn, 1) := by decide +kernel
theorem dX8_send_0 : decode cX8_send 0 = .ok (.aload_n 0, 1) := by decide +kernel
theorem dX8_send_1 : decode cX8_send 1 = .ok (.invokevirtual 99, 3) := by decide +kernel
theorem dX8_send_4 : decode cX8_send 4 = .ok (.aload_n 0, 1) := by decide +kernel
theorem dX8_send_5 : decode cX8_send 5 = .ok (.aload_n 0, 1) := by decide +kernel
theorem dX8_send_6 : decode cX8_send 6 = .ok (.iload_n 1, 1) := by decide +kernel
theorem dX8_send_7 : decode cX8_send 7 = .ok (.iload_n 2, 1) := by decide +kernel
theorem dX8_send_8 : decode cX8_send 8 = .ok (.invokevirtual 147, 3) := by decide +kernel
theorem dX8_send_11 : decode cX8_send 11 = .ok (.invokevirtual 106, 3) := by decide +kernel
theorem dX8_send_14 : decode cX8_send 14 = .ok (.ireturn, 1) := by decide +kernel
theorem dX8_stampIt_0 : decode cX8_stampIt 0 = .ok (.aload_n 0, 1) := by decide +kernel
theorem dX8_stampIt_1 : decode cX8_stampIt 1 = .ok (.iload_n 1, 1) := by decide +kernel
theorem dX8_stampIt_2 : decode cX8_stampIt 2 = .ok (.invokevirtual 138, 3) := by decide +kernel
theorem dX8_stampIt_5 : decode cX8_stampIt 5 = .ok (.istore_n 3, 1) := by decide +kernel
theorem dX8_stampIt_6 : decode cX8_stampIt 6 = .ok (.iload_n 3, 1) := by decide +kernel
theorem dX8_stampIt_7 : decode cX8_stampIt 7 = .ok (.iconst (-1), 1) := by decide +kernel
theorem dX8_stampIt_8 : decode cX8_stampIt 8 = .ok (.if_icmp .ne 9, 3) := by decide +kernel
theorem dX8_stampIt_11 : decode cX8_stampIt 11 = .ok (.aload_n 0, 1) := by decide +kernel
theorem dX8_stampIt_12 : decode cX8_stampIt 12 = .ok (.iconst 1, 1) := by decide +kernel
theorem dX8_stampIt_13 : decode cX8_stampIt 13 = .ok (.invokevirtual 96, 3) := by decide +kernel
theorem dX8_stampIt_16 : decode cX8_stampIt 16 = .ok (.ireturn, 1) := by decide +kernel
theorem dX8_stampIt_17 : decode cX8_stampIt 17 = .ok (.iload_n 2, 1) := by decide +kernel
theorem dX8_stampIt_18 : decode cX8_stampIt 18 = .ok (.i2l, 1) := by decide +kernel
theorem dX8_stampIt_19 : decode cX8_stampIt 19 = .ok (.lconst 1, 1) := by decide +kernel
theorem dX8_stampIt_20 : decode cX8_stampIt 20 = .ok (.ldc2_w 130, 3) := by decide +kernel
theorem dX8_stampIt_23 : decode cX8_stampIt 23 = .ok (.invokestatic 60, 3) := by decide +kernel
theorem dX8_stampIt_26 : decode cX8_stampIt 26 = .ok (.ifCond .ne 9, 3) := by decide +kernel
theorem dX8_stampIt_29 : decode cX8_stampIt 29 = .ok (.aload_n 0, 1) := by decide +kernel
theorem dX8_stampIt_30 : decode cX8_stampIt 30 = .ok (.iconst 2, 1) := by decide +kernel
theorem dX8_stampIt_31 : decode cX8_stampIt 31 = .ok (.invokevirtual 96, 3) := by decide +kernel
theorem dX8_stampIt_34 : decode cX8_stampIt 34 = .ok (.ireturn, 1) := by decide +kernel
theorem dX8_stampIt_35 : decode cX8_stampIt 35 = .ok (.aload_n 0, 1) := by decide +kernel
theorem dX8_stampIt_36 : decode cX8_stampIt 36 = .ok (.getfield 9, 3) := by decide +kernel
theorem dX8_stampIt_39 : decode cX8_stampIt 39 = .ok (.iload_n 3, 1) := by decide +kernel
theorem dX8_stampIt_40 : decode cX8_stampIt 40 = .ok (.invokestatic 64, 3) := by decide +kernel
theorem dX8_stampIt_43 : decode cX8_stampIt 43 = .ok (.iconst 3, 1) := by decide +kernel
theorem dX8_stampIt_44 : decode cX8_stampIt 44 = .ok (.iadd, 1) := by decide +kernel
theorem dX8_stampIt_45 : decode cX8_stampIt 45 = .ok (.iaload, 1) := by decide +kernel
theorem dX8_stampIt_46 : decode cX8_stampIt 46 = .ok (.iload_n 2, 1) := by decide +kernel
theorem dX8_stampIt_47 : decode cX8_stampIt 47 = .ok (.iadd, 1) := by decide +kernel
theorem dX8_stampIt_48 : decode cX8_stampIt 48 = .ok (.bipush 20, 2) := by decide +kernel
theorem dX8_stampIt_50 : decode cX8_stampIt 50 = .ok (.if_icmp .le 9, 3) := by decide +kernel
theorem dX8_stampIt_53 : decode cX8_stampIt 53 = .ok (.aload_n 0, 1) := by decide +kernel
theorem dX8_stampIt_54 : decode cX8_stampIt 54 = .ok (.iconst 3, 1) := by decide +kernel
theorem dX8_stampIt_55 : decode cX8_stampIt 55 = .ok (.invokevirtual 96, 3) := by decide +kernel
theorem dX8_stampIt_58 : decode cX8_stampIt 58 = .ok (.ireturn, 1) := by decide +kernel
theorem dX8_stampIt_59 : decode cX8_stampIt 59 = .ok (.aload_n 0, 1) := by decide +kernel
theorem dX8_stampIt_60 : decode cX8_stampIt 60 = .ok (.getfield 9, 3) := by decide +kernel
theorem dX8_stampIt_63 : decode cX8_stampIt 63 = .ok (.iload_n 3, 1) := by decide +kernel
theorem dX8_stampIt_64 : decode cX8_stampIt 64 = .ok (.invokestatic 64, 3) := by decide +kernel
theorem dX8_stampIt_67 : decode cX8_stampIt 67 = .ok (.iconst 3, 1) := by decide +kernel
theorem dX8_stampIt_68 : decode cX8_stampIt 68 = .ok (.iadd, 1) := by decide +kernel
theorem dX8_stampIt_69 : decode cX8_stampIt 69 = .ok (.dup2, 1) := by decide +kernel
theorem dX8_stampIt_70 : decode cX8_stampIt 70 = .ok (.iaload, 1) := by decide +kernel
theorem dX8_stampIt_71 : decode cX8_stampIt 71 = .ok (.iload_n 2, 1) := by decide +kernel
theorem dX8_stampIt_72 : decode cX8_stampIt 72 = .ok (.iadd, 1) := by decide +kernel
theorem dX8_stampIt_73 : decode cX8_stampIt 73 = .ok (.iastore, 1) := by decide +kernel
theorem dX8_stampIt_74 : decode cX8_stampIt 74 = .ok (.aload_n 0, 1) := by decide +kernel
theorem dX8_stampIt_75 : decode cX8_stampIt 75 = .ok (.getfield 9, 3) := by decide +kernel
theorem dX8_stampIt_78 : decode cX8_stampIt 78 = .ok (.iload_n 3, 1) := by decide +kernel
theorem dX8_stampIt_79 : decode cX8_stampIt 79 = .ok (.invokestatic 64, 3) := by decide +kernel
theorem dX8_stampIt_82 : decode cX8_stampIt 82 = .ok (.iconst 3, 1) := by decide +kernel
theorem dX8_stampIt_83 : decode cX8_stampIt 83 = .ok (.iadd, 1) := by decide +kernel
theorem dX8_stampIt_84 : decode cX8_stampIt 84 = .ok (.iaload, 1) := by decide +kernel
theorem dX8_stampIt_85 : decode cX8_stampIt 85 = .ok (.ireturn, 1) := by decide +kernel
theorem dX8_addStamps_0 : decode cX8_addStamps 0 = .ok (.aload_n 0, 1) := by decide +kernel
theorem dX8_addStamps_1 : decode cX8_addStamps 1 = .ok (.invokevirtual 99, 3) := by decide +kernel
theorem dX8_addStamps_4 : decode cX8_addStamps 4 = .ok (.aload_n 0, 1) := by decide +kernel
theorem dX8_addStamps_5 : decode cX8_addStamps 5 = .ok (.aload_n 0, 1) := by decide +kernel
theorem dX8_addStamps_6 : decode cX8_addStamps 6 = .ok (.iload_n 1, 1) := by decide +kernel
theorem dX8_addStamps_7 : decode cX8_addStamps 7 = .ok (.iload_n 2, 1) := by decide +kernel
theorem dX8_addStamps_8 : decode cX8_addStamps 8 = .ok (.invokevirtual 150, 3) := by decide +kernel
theorem dX8_addStamps_11 : decode cX8_addStamps 11 = .ok (.invokevirtual 106, 3) := by decide +kernel
theorem dX8_addStamps_14 : decode cX8_addStamps 14 = .ok (.ireturn, 1) := by decide +kernel
theorem dX8_takeIt_0 : decode cX8_takeIt 0 = .ok (.aload_n 0, 1) := by decide +kernel
theorem dX8_takeIt_1 : decode cX8_takeIt 1 = .ok (.iload_n 1, 1) := by decide +kernel
theorem dX8_takeIt_2 : decode cX8_takeIt 2 = .ok (.invokevirtual 138, 3) := by decide +kernel
theorem dX8_takeIt_5 : decode cX8_takeIt 5 = .ok (.istore_n 2, 1) := by decide +kernel
theorem dX8_takeIt_6 : decode cX8_takeIt 6 = .ok (.iload_n 2, 1) := by decide +kernel
theorem dX8_takeIt_7 : decode cX8_takeIt 7 = .ok (.iconst (-1), 1) := by decide +kernel
theorem dX8_takeIt_8 : decode cX8_takeIt 8 = .ok (.if_icmp .ne 9, 3) := by decide +kernel
theorem dX8_takeIt_11 : decode cX8_takeIt 11 = .ok (.aload_n 0, 1) := by decide +kernel
theorem dX8_takeIt_12 : decode cX8_takeIt 12 = .ok (.iconst 1, 1) := by decide +kernel
theorem dX8_takeIt_13 : decode cX8_takeIt 13 = .ok (.invokevirtual 96, 3) := by decide +kernel
theorem dX8_takeIt_16 : decode cX8_takeIt 16 = .ok (.ireturn, 1) := by decide +kernel
theorem dX8_takeIt_17 : decode cX8_takeIt 17 = .ok (.aload_n 0, 1) := by decide +kernel
theorem dX8_takeIt_18 : decode cX8_takeIt 18 = .ok (.getfield 9, 3) := by decide +kernel
theorem dX8_takeIt_21 : decode cX8_takeIt 21 = .ok (.iload_n 2, 1) := by decide +kernel
theorem dX8_takeIt_22 : decode cX8_takeIt 22 = .ok (.invokestatic 64, 3) := by decide +kernel
theorem dX8_takeIt_25 : decode cX8_takeIt 25 = .ok (.iconst 4, 1) := by decide +kernel
theorem dX8_takeIt_26 : decode cX8_takeIt 26 = .ok (.iadd, 1) := by decide +kernel
theorem dX8_takeIt_27 : decode cX8_takeIt 27 = .ok (.iaload, 1) := by decide +kernel
theorem dX8_takeIt_28 : decode cX8_takeIt 28 = .ok (.iconst (-1), 1) := by decide +kernel
theorem dX8_takeIt_29 : decode cX8_takeIt 29 = .ok (.if_icmp .ne 9, 3) := by decide +kernel
theorem dX8_takeIt_32 : decode cX8_takeIt 32 = .ok (.aload_n 0, 1) := by decide +kernel
theorem dX8_takeIt_33 : decode cX8_takeIt 33 = .ok (.iconst 2, 1) := by decide +kernel
theorem dX8_takeIt_34 : decode cX8_takeIt 34 = .ok (.invokevirtual 96, 3) := by decide +kernel
theorem dX8_takeIt_37 : decode cX8_takeIt 37 = .ok (.ireturn, 1) := by decide +kernel
theorem dX8_takeIt_38 : decode cX8_takeIt 38 = .ok (.aload_n 0, 1) := by decide +kernel
theorem dX8_takeIt_39 : decode cX8_takeIt 39 = .ok (.getfield 9, 3) := by decide +kernel
theorem dX8_takeIt_42 : decode cX8_takeIt 42 = .ok (.iload_n 2, 1) := by decide +kernel
theorem dX8_takeIt_43 : decode cX8_takeIt 43 = .ok (.invokestatic 64, 3) := by decide +kernel
theorem dX8_takeIt_46 : decode cX8_takeIt 46 = .ok (.iconst 3, 1) := by decide +kernel
theorem dX8_takeIt_47 : decode cX8_takeIt 47 = .ok (.iadd, 1) := by decide +kernel
theorem dX8_takeIt_48 : decode cX8_takeIt 48 = .ok (.iaload, 1) := by decide +kernel
theorem dX8_takeIt_49 : decode cX8_takeIt 49 = .ok (.istore_n 3, 1) := by decide +kernel
theorem dX8_takeIt_50 : decode cX8_takeIt 50 = .ok (.aload_n 0, 1) := by decide +kernel
theorem dX8_takeIt_51 : decode cX8_takeIt 51 = .ok (.iload_n 2, 1) := by decide +kernel
theorem dX8_takeIt_52 : decode cX8_takeIt 52 = .ok (.invokevirtual 153, 3) := by decide +kernel
theorem dX8_takeIt_55 : decode cX8_takeIt 55 = .ok (.aload_n 0, 1) := by decide +kernel
theorem dX8_takeIt_56 : decode cX8_takeIt 56 = .ok (.getfield 9, 3) := by decide +kernel
theorem dX8_takeIt_59 : decode cX8_takeIt 59 = .ok (.bipush 6, 2) := by decide +kernel
theorem dX8_takeIt_61 : decode cX8_takeIt 61 = .ok (.dup2, 1) := by decide +kernel
theorem dX8_takeIt_62 : decode cX8_takeIt 62 = .ok (.iaload, 1) := by decide +kernel
theorem dX8_takeIt_63 : decode cX8_takeIt 63 = .ok (.iconst 1, 1) := by decide +kernel
theorem dX8_takeIt_64 : decode cX8_takeIt 64 = .ok (.iadd, 1) := by decide +kernel
theorem dX8_takeIt_65 : decode cX8_takeIt 65 = .ok (.iastore, 1) := by decide +kernel
theorem dX8_takeIt_66 : decode cX8_takeIt 66 = .ok (.iload_n 3, 1) := by decide +kernel
theorem dX8_takeIt_67 : decode cX8_takeIt 67 = .ok (.ireturn, 1) := by decide +kernel
theorem dX8_takeBack_0 : decode cX8_takeBack 0 = .ok (.aload_n 0, 1) := by decide +kernel
theorem dX8_takeBack_1 : decode cX8_takeBack 1 = .ok (.invokevirtual 99, 3) := by decide +kernel
theorem dX8_takeBack_4 : decode cX8_takeBack 4 = .ok (.aload_n 0, 1) := by decide +kernel
theorem dX8_takeBack_5 : decode cX8_takeBack 5 = .ok (.aload_n 0, 1) := by decide +kernel
theorem dX8_takeBack_6 : decode cX8_takeBack 6 = .ok (.iload_n 1, 1) := by decide +kernel
theorem dX8_takeBack_7 : decode cX8_takeBack 7 = .ok (.invokevirtual 157, 3) := by decide +kernel
theorem dX8_takeBack_10 : decode cX8_takeBack 10 = .ok (.invokevirtual 106, 3) := by decide +kernel
theorem dX8_takeBack_13 : decode cX8_takeBack 13 = .ok (.ireturn, 1) := by decide +kernel
theorem dX8_dispatchIt_0 : decode cX8_dispatchIt 0 = .ok (.iconst 0, 1) := by decide +kernel
theorem dX8_dispatchIt_1 : decode cX8_dispatchIt 1 = .ok (.istore_n 1, 1) := by decide +kernel
theorem dX8_dispatchIt_2 : decode cX8_dispatchIt 2 = .ok (.iconst 0, 1) := by decide +kernel
theorem dX8_dispatchIt_3 : decode cX8_dispatchIt 3 = .ok (.istore_n 2, 1) := by decide +kernel
theorem dX8_dispatchIt_4 : decode cX8_dispatchIt 4 = .ok (.iload_n 2, 1) := by decide +kernel
theorem dX8_dispatchIt_5 : decode cX8_dispatchIt 5 = .ok (.aload_n 0, 1) := by decide +kernel
theorem dX8_dispatchIt_6 : decode cX8_dispatchIt 6 = .ok (.getfield 9, 3) := by decide +kernel
theorem dX8_dispatchIt_9 : decode cX8_dispatchIt 9 = .ok (.iconst 2, 1) := by decide +kernel
theorem dX8_dispatchIt_10 : decode cX8_dispatchIt 10 = .ok (.iaload, 1) := by decide +kernel
theorem dX8_dispatchIt_11 : decode cX8_dispatchIt 11 = .ok (.if_icmp .ge 54, 3) := by decide +kernel
theorem dX8_dispatchIt_14 : decode cX8_dispatchIt 14 = .ok (.aload_n 0, 1) := by decide +kernel
theorem dX8_dispatchIt_15 : decode cX8_dispatchIt 15 = .ok (.getfield 9, 3) := by decide +kernel
theorem dX8_dispatchIt_18 : decode cX8_dispatchIt 18 = .ok (.iload_n 2, 1) := by decide +kernel
theorem dX8_dispatchIt_19 : decode cX8_dispatchIt 19 = .ok (.invokestatic 64, 3) := by decide +kernel
theorem dX8_dispatchIt_22 : decode cX8_dispatchIt 22 = .ok (.iconst 4, 1) := by decide +kernel
theorem dX8_dispatchIt_23 : decode cX8_dispatchIt 23 = .ok (.iadd, 1) := by decide +kernel
theorem dX8_dispatchIt_24 : decode cX8_dispatchIt 24 = .ok (.iaload, 1) := by decide +kernel
theorem dX8_dispatchIt_25 : decode cX8_dispatchIt 25 = .ok (.iconst (-1), 1) := by decide +kernel
theorem dX8_dispatchIt_26 : decode cX8_dispatchIt 26 = .ok (.if_icmp .eq 33, 3) := by decide +kernel
theorem dX8_dispatchIt_29 : decode cX8_dispatchIt 29 = .ok (.aload_n 0, 1) := by decide +kernel
theorem dX8_dispatchIt_30 : decode cX8_dispatchIt 30 = .ok (.iload_n 2, 1) := by decide +kernel
theorem dX8_dispatchIt_31 : decode cX8_dispatchIt 31 = .ok (.invokevirtual 160, 3) := by decide +kernel
theorem dX8_dispatchIt_34 : decode cX8_dispatchIt 34 = .ok (.istore_n 3, 1) := by decide +kernel
theorem dX8_dispatchIt_35 : decode cX8_dispatchIt 35 = .ok (.iload_n 3, 1) := by decide +kernel
theorem dX8_dispatchIt_36 : decode cX8_dispatchIt 36 = .ok (.iconst (-1), 1) := by decide +kernel
theorem dX8_dispatchIt_37 : decode cX8_dispatchIt 37 = .ok (.if_icmp .eq 22, 3) := by decide +kernel
theorem dX8_dispatchIt_40 : decode cX8_dispatchIt 40 = .ok (.aload_n 0, 1) := by decide +kernel
theorem dX8_dispatchIt_41 : decode cX8_dispatchIt 41 = .ok (.iload_n 2, 1) := by decide +kernel
theorem dX8_dispatchIt_42 : decode cX8_dispatchIt 42 = .ok (.iload_n 3, 1) := by decide +kernel
theorem dX8_dispatchIt_43 : decode cX8_dispatchIt 43 = .ok (.invokevirtual 141, 3) := by decide +kernel
theorem dX8_dispatchIt_46 : decode cX8_dispatchIt 46 = .ok (.ifCond .eq 13, 3) := by decide +kernel
theorem dX8_dispatchIt_49 : decode cX8_dispatchIt 49 = .ok (.aload_n 0, 1) := by decide +kernel
theorem dX8_dispatchIt_50 : decode cX8_dispatchIt 50 = .ok (.iload_n 2, 1) := by decide +kernel
theorem dX8_dispatchIt_51 : decode cX8_dispatchIt 51 = .ok (.iload_n 3, 1) := by decide +kernel
theorem dX8_dispatchIt_52 : decode cX8_dispatchIt 52 = .ok (.invokevirtual 144, 3) := by decide +kernel
theorem dX8_dispatchIt_55 : decode cX8_dispatchIt 55 = .ok (.pop, 1) := by decide +kernel
theorem dX8_dispatchIt_56 : decode cX8_dispatchIt 56 = .ok (.iinc 1 1, 3) := by decide +kernel
theorem dX8_dispatchIt_59 : decode cX8_dispatchIt 59 = .ok (.iinc 2 1, 3) := by decide +kernel
theorem dX8_dispatchIt_62 : decode cX8_dispatchIt 62 = .ok (.goto (-58), 3) := by decide +kernel
theorem dX8_dispatchIt_65 : decode cX8_dispatchIt 65 = .ok (.iload_n 1, 1) := by decide +kernel
theorem dX8_dispatchIt_66 : decode cX8_dispatchIt 66 = .ok (.ireturn, 1) := by decide +kernel
theorem dX8_dispatch_0 : decode cX8_dispatch 0 = .ok (.aload_n 0, 1) := by decide +kernel
theorem dX8_dispatch_1 : decode cX8_dispatch 1 = .ok (.invokevirtual 99, 3) := by decide +kernel
theorem dX8_dispatch_4 : decode cX8_dispatch 4 = .ok (.aload_n 0, 1) := by decide +kernel
theorem dX8_dispatch_5 : decode cX8_dispatch 5 = .ok (.aload_n 0, 1) := by decide +kernel
theorem dX8_dispatch_6 : decode cX8_dispatch 6 = .ok (.invokevirtual 163, 3) := by decide +kernel
theorem dX8_dispatch_9 : decode cX8_dispatch 9 = .ok (.invokevirtual 106, 3) := by decide +kernel
theorem dX8_dispatch_12 : decode cX8_dispatch 12 = .ok (.ireturn, 1) := by decide +kernel
theorem dX8_passesHour_0 : decode cX8_passesHour 0 = .ok (.aload_n 0, 1) := by decide +kernel
theorem dX8_passesHour_1 : decode cX8_passesHour 1 = .ok (.getfield 9, 3) := by decide +kernel
theorem dX8_passesHour_4 : decode cX8_passesHour 4 = .ok (.iconst 4, 1) := by decide +kernel
theorem dX8_passesHour_5 : decode cX8_passesHour 5 = .ok (.dup2, 1) := by decide +kernel
theorem dX8_passesHour_6 : decode cX8_passesHour 6 = .ok (.iaload, 1) := by decide +kernel
theorem dX8_passesHour_7 : decode cX8_passesHour 7 = .ok (.iconst 1, 1) := by decide +kernel
theorem dX8_passesHour_8 : decode cX8_passesHour 8 = .ok (.iadd, 1) := by decide +kernel
theorem dX8_passesHour_9 : decode cX8_passesHour 9 = .ok (.iastore, 1) := by decide +kernel
theorem dX8_passesHour_10 : decode cX8_passesHour 10 = .ok (.iconst 0, 1) := by decide +kernel
theorem dX8_passesHour_11 : decode cX8_passesHour 11 = .ok (.istore_n 1, 1) := by decide +kernel
theorem dX8_passesHour_12 : decode cX8_passesHour 12 = .ok (.iconst 0, 1) := by decide +kernel
theorem dX8_passesHour_13 : decode cX8_passesHour 13 = .ok (.istore_n 2, 1) := by decide +kernel
theorem dX8_passesHour_14 : decode cX8_passesHour 14 = .ok (.iload_n 2, 1) := by decide +kernel
theorem dX8_passesHour_15 : decode cX8_passesHour 15 = .ok (.aload_n 0, 1) := by decide +kernel
theorem dX8_passesHour_16 : decode cX8_passesHour 16 = .ok (.getfield 9, 3) := by decide +kernel
theorem dX8_passesHour_19 : decode cX8_passesHour 19 = .ok (.iconst 2, 1) := by decide +kernel
theorem dX8_passesHour_20 : decode cX8_passesHour 20 = .ok (.iaload, 1) := by decide +kernel
theorem dX8_passesHour_21 : decode cX8_passesHour 21 = .ok (.if_icmp .ge 153, 3) := by decide +kernel
theorem dX8_passesHour_24 : decode cX8_passesHour 24 = .ok (.iload_n 2, 1) := by decide +kernel
theorem dX8_passesHour_25 : decode cX8_passesHour 25 = .ok (.invokestatic 64, 3) := by decide +kernel
theorem dX8_passesHour_28 : decode cX8_passesHour 28 = .ok (.istore_n 3, 1) := by decide +kernel
theorem dX8_passesHour_29 : decode cX8_passesHour 29 = .ok (.aload_n 0, 1) := by decide +kernel
theorem dX8_passesHour_30 : decode cX8_passesHour 30 = .ok (.getfield 9, 3) := by decide +kernel
theorem dX8_passesHour_33 : decode cX8_passesHour 33 = .ok (.iload_n 3, 1) := by decide +kernel
theorem dX8_passesHour_34 : decode cX8_passesHour 34 = .ok (.iconst 4, 1) := by decide +kernel
theorem dX8_passesHour_35 : decode cX8_passesHour 35 = .ok (.iadd, 1) := by decide +kernel
theorem dX8_passesHour_36 : decode cX8_passesHour 36 = .ok (.iaload, 1) := by decide +kernel
theorem dX8_passesHour_37 : decode cX8_passesHour 37 = .ok (.iconst (-1), 1) := by decide +kernel
theorem dX8_passesHour_38 : decode cX8_passesHour 38 = .ok (.if_icmp .ne 25, 3) := by decide +kernel
theorem dX8_passesHour_41 : decode cX8_passesHour 41 = .ok (.aload_n 0, 1) := by decide +kernel
theorem dX8_passesHour_42 : decode cX8_passesHour 42 = .ok (.getfield 9, 3) := by decide +kernel
theorem dX8_passesHour_45 : decode cX8_passesHour 45 = .ok (.iload_n 3, 1) := by decide +kernel
theorem dX8_passesHour_46 : decode cX8_passesHour 46 = .ok (.bipush 6, 2) := by decide +kernel
theorem dX8_passesHour_48 : decode cX8_passesHour 48 = .ok (.iadd, 1) := by decide +kernel
theorem dX8_passesHour_49 : decode cX8_passesHour 49 = .ok (.iaload, 1) := by decide +kernel
theorem dX8_passesHour_50 : decode cX8_passesHour 50 = .ok (.aload_n 0, 1) := by decide +kernel
theorem dX8_passesHour_51 : decode cX8_passesHour 51 = .ok (.getfield 9, 3) := by decide +kernel
theorem dX8_passesHour_54 : decode cX8_passesHour 54 = .ok (.iconst 4, 1) := by decide +kernel
theorem dX8_passesHour_55 : decode cX8_passesHour 55 = .ok (.iaload, 1) := by decide +kernel
theorem dX8_passesHour_56 : decode cX8_passesHour 56 = .ok (.if_icmp .ne 7, 3) := by decide +kernel
theorem dX8_passesHour_59 : decode cX8_passesHour 59 = .ok (.iconst 1, 1) := by decide +kernel
theorem dX8_passesHour_60 : decode cX8_passesHour 60 = .ok (.goto 4, 3) := by decide +kernel
theorem dX8_passesHour_63 : decode cX8_passesHour 63 = .ok (.iconst 0, 1) := by decide +kernel
theorem dX8_passesHour_64 : decode cX8_passesHour 64 = .ok (.istore 4, 2) := by decide +kernel
theorem dX8_passesHour_66 : decode cX8_passesHour 66 = .ok (.iload 4, 2) := by decide +kernel
theorem dX8_passesHour_68 : decode cX8_passesHour 68 = .ok (.ifCond .eq 24, 3) := by decide +kernel
theorem dX8_passesHour_71 : decode cX8_passesHour 71 = .ok (.aload_n 0, 1) := by decide +kernel
theorem dX8_passesHour_72 : decode cX8_passesHour 72 = .ok (.getfield 9, 3) := by decide +kernel
theorem dX8_passesHour_75 : decode cX8_passesHour 75 = .ok (.aload_n 0, 1) := by decide +kernel
theorem dX8_passesHour_76 : decode cX8_passesHour 76 = .ok (.getfield 9, 3) := by decide +kernel
theorem dX8_passesHour_79 : decode cX8_passesHour 79 = .ok (.iload_n 3, 1) := by decide +kernel
theorem dX8_passesHour_80 : decode cX8_passesHour 80 = .ok (.iconst 5, 1) := by decide +kernel
theorem dX8_passesHour_81 : decode cX8_passesHour 81 = .ok (.iadd, 1) := by decide +kernel
theorem dX8_passesHour_82 : decode cX8_passesHour 82 = .ok (.iaload, 1) := by decide +kernel
theorem dX8_passesHour_83 : decode cX8_passesHour 83 = .ok (.invokestatic 68, 3) := by decide +kernel
theorem dX8_passesHour_86 : decode cX8_passesHour 86 = .ok (.iconst 1, 1) := by decide +kernel
theorem dX8_passesHour_87 : decode cX8_passesHour 87 = .ok (.iadd, 1) := by decide +kernel
theorem dX8_passesHour_88 : decode cX8_passesHour 88 = .ok (.iaload, 1) := by decide +kernel
theorem dX8_passesHour_89 : decode cX8_passesHour 89 = .ok (.goto 4, 3) := by decide +kernel
theorem dX8_passesHour_92 : decode cX8_passesHour 92 = .ok (.iconst (-1), 1) := by decide +kernel
theorem dX8_passesHour_93 : decode cX8_passesHour 93 = .ok (.istore 5, 2) := by decide +kernel
theorem dX8_passesHour_95 : decode cX8_passesHour 95 = .ok (.iload 4, 2) := by decide +kernel
theorem dX8_passesHour_97 : decode cX8_passesHour 97 = .ok (.ifCond .eq 37, 3) := by decide +kernel
theorem dX8_passesHour_100 : decode cX8_passesHour 100 = .ok (.iload 5, 2) := by decide +kernel
theorem dX8_passesHour_102 : decode cX8_passesHour 102 = .ok (.aload_n 0, 1) := by decide +kernel
theorem dX8_passesHour_103 : decode cX8_passesHour 103 = .ok (.getfield 9, 3) := by decide +kernel
theorem dX8_passesHour_106 : decode cX8_passesHour 106 = .ok (.iload_n 3, 1) := by decide +kernel
theorem dX8_passesHour_107 : decode cX8_passesHour 107 = .ok (.iconst 1, 1) := by decide +kernel
theorem dX8_passesHour_108 : decode cX8_passesHour 108 = .ok (.iadd, 1) := by decide +kernel
theorem dX8_passesHour_109 : decode cX8_passesHour 109 = .ok (.iaload, 1) := by decide +kernel
theorem dX8_passesHour_110 : decode cX8_passesHour 110 = .ok (.if_icmp .ne 24, 3) := by decide +kernel
theorem dX8_passesHour_113 : decode cX8_passesHour 113 = .ok (.aload_n 0, 1) := by decide +kernel
theorem dX8_passesHour_114 : decode cX8_passesHour 114 = .ok (.iload_n 2, 1) := by decide +kernel
theorem dX8_passesHour_115 : decode cX8_passesHour 115 = .ok (.invokevirtual 153, 3) := by decide +kernel
theorem dX8_passesHour_118 : decode cX8_passesHour 118 = .ok (.aload_n 0, 1) := by decide +kernel
theorem dX8_passesHour_119 : decode cX8_passesHour 119 = .ok (.getfield 9, 3) := by decide +kernel
theorem dX8_passesHour_122 : decode cX8_passesHour 122 = .ok (.iconst 5, 1) := by decide +kernel
theorem dX8_passesHour_123 : decode cX8_passesHour 123 = .ok (.dup2, 1) := by decide +kernel
theorem dX8_passesHour_124 : decode cX8_passesHour 124 = .ok (.iaload, 1) := by decide +kernel
theorem dX8_passesHour_125 : decode cX8_passesHour 125 = .ok (.iconst 1, 1) := by decide +kernel
theorem dX8_passesHour_126 : decode cX8_passesHour 126 = .ok (.iadd, 1) := by decide +kernel
theorem dX8_passesHour_127 : decode cX8_passesHour 127 = .ok (.iastore, 1) := by decide +kernel
theorem dX8_passesHour_128 : decode cX8_passesHour 128 = .ok (.iinc 1 1, 3) := by decide +kernel
theorem dX8_passesHour_131 : decode cX8_passesHour 131 = .ok (.goto 40, 3) := by decide +kernel
theorem dX8_passesHour_134 : decode cX8_passesHour 134 = .ok (.iload 4, 2) := by decide +kernel
theorem dX8_passesHour_136 : decode cX8_passesHour 136 = .ok (.ifCond .eq 32, 3) := by decide +kernel
theorem dX8_passesHour_139 : decode cX8_passesHour 139 = .ok (.aload_n 0, 1) := by decide +kernel
theorem dX8_passesHour_140 : decode cX8_passesHour 140 = .ok (.getfield 9, 3) := by decide +kernel
theorem dX8_passesHour_143 : decode cX8_passesHour 143 = .ok (.iload_n 3, 1) := by decide +kernel
theorem dX8_passesHour_144 : decode cX8_passesHour 144 = .ok (.iconst 4, 1) := by decide +kernel
theorem dX8_passesHour_145 : decode cX8_passesHour 145 = .ok (.iadd, 1) := by decide +kernel
theorem dX8_passesHour_146 : decode cX8_passesHour 146 = .ok (.iload 5, 2) := by decide +kernel
theorem dX8_passesHour_148 : decode cX8_passesHour 148 = .ok (.iastore, 1) := by decide +kernel
theorem dX8_passesHour_149 : decode cX8_passesHour 149 = .ok (.aload_n 0, 1) := by decide +kernel
theorem dX8_passesHour_150 : decode cX8_passesHour 150 = .ok (.getfield 9, 3) := by decide +kernel
theorem dX8_passesHour_153 : decode cX8_passesHour 153 = .ok (.iload_n 3, 1) := by decide +kernel
theorem dX8_passesHour_154 : decode cX8_passesHour 154 = .ok (.iconst 5, 1) := by decide +kernel
theorem dX8_passesHour_155 : decode cX8_passesHour 155 = .ok (.iadd, 1) := by decide +kernel
theorem dX8_passesHour_156 : decode cX8_passesHour 156 = .ok (.iconst (-1), 1) := by decide +kernel
theorem dX8_passesHour_157 : decode cX8_passesHour 157 = .ok (.iastore, 1) := by decide +kernel
theorem dX8_passesHour_158 : decode cX8_passesHour 158 = .ok (.aload_n 0, 1) := by decide +kernel
theorem dX8_passesHour_159 : decode cX8_passesHour 159 = .ok (.getfield 9, 3) := by decide +kernel
theorem dX8_passesHour_162 : decode cX8_passesHour 162 = .ok (.iload_n 3, 1) := by decide +kernel
theorem dX8_passesHour_163 : decode cX8_passesHour 163 = .ok (.bipush 6, 2) := by decide +kernel
theorem dX8_passesHour_165 : decode cX8_passesHour 165 = .ok (.iadd, 1) := by decide +kernel
theorem dX8_passesHour_166 : decode cX8_passesHour 166 = .ok (.iconst 0, 1) := by decide +kernel
theorem dX8_passesHour_167 : decode cX8_passesHour 167 = .ok (.iastore, 1) := by decide +kernel
theorem dX8_passesHour_168 : decode cX8_passesHour 168 = .ok (.iinc 2 1, 3) := by decide +kernel
theorem dX8_passesHour_171 : decode cX8_passesHour 171 = .ok (.goto (-157), 3) := by decide +kernel
theorem dX8_passesHour_174 : decode cX8_passesHour 174 = .ok (.iload_n 1, 1) := by decide +kernel
theorem dX8_passesHour_175 : decode cX8_passesHour 175 = .ok (.ireturn, 1) := by decide +kernel
theorem dX8_passIt_0 : decode cX8_passIt 0 = .ok (.iload_n 1, 1) := by decide +kernel
theorem dX8_passIt_1 : decode cX8_passIt 1 = .ok (.i2l, 1) := by decide +kernel
theorem dX8_passIt_2 : decode cX8_passIt 2 = .ok (.lconst 1, 1) := by decide +kernel
theorem dX8_passIt_3 : decode cX8_passIt 3 = .ok (.ldc2_w 166, 3) := by decide +kernel
theorem dX8_passIt_6 : decode cX8_passIt 6 = .ok (.invokestatic 60, 3) := by decide +kernel
theorem dX8_passIt_9 : decode cX8_passIt 9 = .ok (.ifCond .ne 9, 3) := by decide +kernel
theorem dX8_passIt_12 : decode cX8_passIt 12 = .ok (.aload_n 0, 1) := by decide +kernel
theorem dX8_passIt_13 : decode cX8_passIt 13 = .ok (.iconst 1, 1) := by decide +kernel
theorem dX8_passIt_14 : decode cX8_passIt 14 = .ok (.invokevirtual 96, 3) := by decide +kernel
theorem dX8_passIt_17 : decode cX8_passIt 17 = .ok (.ireturn, 1) := by decide +kernel
theorem dX8_passIt_18 : decode cX8_passIt 18 = .ok (.iconst 0, 1) := by decide +kernel
theorem dX8_passIt_19 : decode cX8_passIt 19 = .ok (.istore_n 2, 1) := by decide +kernel
theorem dX8_passIt_20 : decode cX8_passIt 20 = .ok (.iconst 0, 1) := by decide +kernel
theorem dX8_passIt_21 : decode cX8_passIt 21 = .ok (.istore_n 3, 1) := by decide +kernel
theorem dX8_passIt_22 : decode cX8_passIt 22 = .ok (.iload_n 3, 1) := by decide +kernel
theorem dX8_passIt_23 : decode cX8_passIt 23 = .ok (.iload_n 1, 1) := by decide +kernel
theorem dX8_passIt_24 : decode cX8_passIt 24 = .ok (.if_icmp .ge 16, 3) := by decide +kernel
theorem dX8_passIt_27 : decode cX8_passIt 27 = .ok (.iload_n 2, 1) := by decide +kernel
theorem dX8_passIt_28 : decode cX8_passIt 28 = .ok (.aload_n 0, 1) := by decide +kernel
theorem dX8_passIt_29 : decode cX8_passIt 29 = .ok (.invokevirtual 168, 3) := by decide +kernel
theorem dX8_passIt_32 : decode cX8_passIt 32 = .ok (.iadd, 1) := by decide +kernel
theorem dX8_passIt_33 : decode cX8_passIt 33 = .ok (.istore_n 2, 1) := by decide +kernel
theorem dX8_passIt_34 : decode cX8_passIt 34 = .ok (.iinc 3 1, 3) := by decide +kernel
theorem dX8_passIt_37 : decode cX8_passIt 37 = .ok (.goto (-15), 3) := by decide +kernel
theorem dX8_passIt_40 : decode cX8_passIt 40 = .ok (.iload_n 2, 1) := by decide +kernel
theorem dX8_passIt_41 : decode cX8_passIt 41 = .ok (.ireturn, 1) := by decide +kernel
theorem dX8_pass_0 : decode cX8_pass 0 = .ok (.aload_n 0, 1) := by decide +kernel
theorem dX8_pass_1 : decode cX8_pass 1 = .ok (.invokevirtual 99, 3) := by decide +kernel
theorem dX8_pass_4 : decode cX8_pass 4 = .ok (.aload_n 0, 1) := by decide +kernel
theorem dX8_pass_5 : decode cX8_pass 5 = .ok (.aload_n 0, 1) := by decide +kernel
theorem dX8_pass_6 : decode cX8_pass 6 = .ok (.iload_n 1, 1) := by decide +kernel
theorem dX8_pass_7 : decode cX8_pass 7 = .ok (.invokevirtual 171, 3) := by decide +kernel
theorem dX8_pass_10 : decode cX8_pass 10 = .ok (.invokevirtual 106, 3) := by decide +kernel
theorem dX8_pass_13 : decode cX8_pass 13 = .ok (.ireturn, 1) := by decide +kernel
theorem dX8_total_0 : decode cX8_total 0 = .ok (.aload_n 0, 1) := by decide +kernel
theorem dX8_total_1 : decode cX8_total 1 = .ok (.iconst 0, 1) := by decide +kernel
theorem dX8_total_2 : decode cX8_total 2 = .ok (.putfield 54, 3) := by decide +kernel
theorem dX8_total_5 : decode cX8_total 5 = .ok (.aload_n 0, 1) := by decide +kernel
theorem dX8_total_6 : decode cX8_total 6 = .ok (.getfield 9, 3) := by decide +kernel
theorem dX8_total_9 : decode cX8_total 9 = .ok (.iload_n 1, 1) := by decide +kernel
theorem dX8_total_10 : decode cX8_total 10 = .ok (.iaload, 1) := by decide +kernel
theorem dX8_total_11 : decode cX8_total 11 = .ok (.ireturn, 1) := by decide +kernel
theorem dX8_hour_0 : decode cX8_hour 0 = .ok (.aload_n 0, 1) := by decide +kernel
theorem dX8_hour_1 : decode cX8_hour 1 = .ok (.iconst 4, 1) := by decide +kernel
theorem dX8_hour_2 : decode cX8_hour 2 = .ok (.invokevirtual 174, 3) := by decide +kernel
theorem dX8_hour_5 : decode cX8_hour 5 = .ok (.ireturn, 1) := by decide +kernel
theorem dX8_placeCount_0 : decode cX8_placeCount 0 = .ok (.aload_n 0, 1) := by decide +kernel
theorem dX8_placeCount_1 : decode cX8_placeCount 1 = .ok (.iconst 0, 1) := by decide +kernel
theorem dX8_placeCount_2 : decode cX8_placeCount 2 = .ok (.invokevirtual 174, 3) := by decide +kernel
theorem dX8_placeCount_5 : decode cX8_placeCount 5 = .ok (.ireturn, 1) := by decide +kernel
theorem dX8_linkCount_0 : decode cX8_linkCount 0 = .ok (.aload_n 0, 1) := by decide +kernel
theorem dX8_linkCount_1 : decode cX8_linkCount 1 = .ok (.iconst 1, 1) := by decide +kernel
theorem dX8_linkCount_2 : decode cX8_linkCount 2 = .ok (.invokevirtual 174, 3) := by decide +kernel
theorem dX8_linkCount_5 : decode cX8_linkCount 5 = .ok (.ireturn, 1) := by decide +kernel
theorem dX8_ofLink_0 : decode cX8_ofLink 0 = .ok (.aload_n 0, 1) := by decide +kernel
theorem dX8_ofLink_1 : decode cX8_ofLink 1 = .ok (.iconst 0, 1) := by decide +kernel
theorem dX8_ofLink_2 : decode cX8_ofLink 2 = .ok (.putfield 54, 3) := by decide +kernel
theorem dX8_ofLink_5 : decode cX8_ofLink 5 = .ok (.aload_n 0, 1) := by decide +kernel
theorem dX8_ofLink_6 : decode cX8_ofLink 6 = .ok (.iload_n 1, 1) := by decide +kernel
theorem dX8_ofLink_7 : decode cX8_ofLink 7 = .ok (.invokevirtual 121, 3) := by decide +kernel
theorem dX8_ofLink_10 : decode cX8_ofLink 10 = .ok (.ifCond .eq 17, 3) := by decide +kernel
theorem dX8_ofLink_13 : decode cX8_ofLink 13 = .ok (.aload_n 0, 1) := by decide +kernel
theorem dX8_ofLink_14 : decode cX8_ofLink 14 = .ok (.getfield 9, 3) := by decide +kernel
theorem dX8_ofLink_17 : decode cX8_ofLink 17 = .ok (.iload_n 1, 1) := by decide +kernel
theorem dX8_ofLink_18 : decode cX8_ofLink 18 = .ok (.invokestatic 68, 3) := by decide +kernel
theorem dX8_ofLink_21 : decode cX8_ofLink 21 = .ok (.iload_n 2, 1) := by decide +kernel
theorem dX8_ofLink_22 : decode cX8_ofLink 22 = .ok (.iadd, 1) := by decide +kernel
theorem dX8_ofLink_23 : decode cX8_ofLink 23 = .ok (.iaload, 1) := by decide +kernel
theorem dX8_ofLink_24 : decode cX8_ofLink 24 = .ok (.goto 8, 3) := by decide +kernel
theorem dX8_ofLink_27 : decode cX8_ofLink 27 = .ok (.aload_n 0, 1) := by decide +kernel
theorem dX8_ofLink_28 : decode cX8_ofLink 28 = .ok (.iconst 1, 1) := by decide +kernel
theorem dX8_ofLink_29 : decode cX8_ofLink 29 = .ok (.invokevirtual 96, 3) := by decide +kernel
theorem dX8_ofLink_32 : decode cX8_ofLink 32 = .ok (.ireturn, 1) := by decide +kernel
theorem dX8_linkFrom_0 : decode cX8_linkFrom 0 = .ok (.aload_n 0, 1) := by decide +kernel
theorem dX8_linkFrom_1 : decode cX8_linkFrom 1 = .ok (.iload_n 1, 1) := by decide +kernel
theorem dX8_linkFrom_2 : decode cX8_linkFrom 2 = .ok (.iconst 0, 1) := by decide +kernel
theorem dX8_linkFrom_3 : decode cX8_linkFrom 3 = .ok (.invokevirtual 177, 3) := by decide +kernel
theorem dX8_linkFrom_6 : decode cX8_linkFrom 6 = .ok (.ireturn, 1) := by decide +kernel
theorem dX8_linkTo_0 : decode cX8_linkTo 0 = .ok (.aload_n 0, 1) := by decide +kernel
theorem dX8_linkTo_1 : decode cX8_linkTo 1 = .ok (.iload_n 1, 1) := by decide +kernel
theorem dX8_linkTo_2 : decode cX8_linkTo 2 = .ok (.iconst 1, 1) := by decide +kernel
theorem dX8_linkTo_3 : decode cX8_linkTo 3 = .ok (.invokevirtual 177, 3) := by decide +kernel
theorem dX8_linkTo_6 : decode cX8_linkTo 6 = .ok (.ireturn, 1) := by decide +kernel
theorem dX8_travelTime_0 : decode cX8_travelTime 0 = .ok (.aload_n 0, 1) := by decide +kernel
theorem dX8_travelTime_1 : decode cX8_travelTime 1 = .ok (.iload_n 1, 1) := by decide +kernel
theorem dX8_travelTime_2 : decode cX8_travelTime 2 = .ok (.iconst 2, 1) := by decide +kernel
theorem dX8_travelTime_3 : decode cX8_travelTime 3 = .ok (.invokevirtual 177, 3) := by decide +kernel
theorem dX8_travelTime_6 : decode cX8_travelTime 6 = .ok (.ireturn, 1) := by decide +kernel
theorem dX8_isBlocked_0 : decode cX8_isBlocked 0 = .ok (.aload_n 0, 1) := by decide +kernel
theorem dX8_isBlocked_1 : decode cX8_isBlocked 1 = .ok (.iload_n 1, 1) := by decide +kernel
theorem dX8_isBlocked_2 : decode cX8_isBlocked 2 = .ok (.iconst 4, 1) := by decide +kernel
theorem dX8_isBlocked_3 : decode cX8_isBlocked 3 = .ok (.invokevirtual 177, 3) := by decide +kernel
theorem dX8_isBlocked_6 : decode cX8_isBlocked 6 = .ok (.iconst 1, 1) := by decide +kernel
theorem dX8_isBlocked_7 : decode cX8_isBlocked 7 = .ok (.if_icmp .ne 7, 3) := by decide +kernel
theorem dX8_isBlocked_10 : decode cX8_isBlocked 10 = .ok (.iconst 1, 1) := by decide +kernel
theorem dX8_isBlocked_11 : decode cX8_isBlocked 11 = .ok (.goto 4, 3) := by decide +kernel
theorem dX8_isBlocked_14 : decode cX8_isBlocked 14 = .ok (.iconst 0, 1) := by decide +kernel
theorem dX8_isBlocked_15 : decode cX8_isBlocked 15 = .ok (.ireturn, 1) := by decide +kernel
theorem dX8_isOpenAt_0 : decode cX8_isOpenAt 0 = .ok (.aload_n 0, 1) := by decide +kernel
theorem dX8_isOpenAt_1 : decode cX8_isOpenAt 1 = .ok (.iconst 0, 1) := by decide +kernel
theorem dX8_isOpenAt_2 : decode cX8_isOpenAt 2 = .ok (.putfield 54, 3) := by decide +kernel
theorem dX8_isOpenAt_5 : decode cX8_isOpenAt 5 = .ok (.aload_n 0, 1) := by decide +kernel
theorem dX8_isOpenAt_6 : decode cX8_isOpenAt 6 = .ok (.iload_n 1, 1) := by decide +kernel
theorem dX8_isOpenAt_7 : decode cX8_isOpenAt 7 = .ok (.invokevirtual 121, 3) := by decide +kernel
theorem dX8_isOpenAt_10 : decode cX8_isOpenAt 10 = .ok (.ifCond .ne 12, 3) := by decide +kernel
theorem dX8_isOpenAt_13 : decode cX8_isOpenAt 13 = .ok (.aload_n 0, 1) := by decide +kernel
theorem dX8_isOpenAt_14 : decode cX8_isOpenAt 14 = .ok (.iconst 1, 1) := by decide +kernel
theorem dX8_isOpenAt_15 : decode cX8_isOpenAt 15 = .ok (.invokevirtual 96, 3) := by decide +kernel
theorem dX8_isOpenAt_18 : decode cX8_isOpenAt 18 = .ok (.pop, 1) := by decide +kernel
theorem dX8_isOpenAt_19 : decode cX8_isOpenAt 19 = .ok (.goto 21, 3) := by decide +kernel
theorem dX8_isOpenAt_22 : decode cX8_isOpenAt 22 = .ok (.iload_n 2, 1) := by decide +kernel
theorem dX8_isOpenAt_23 : decode cX8_isOpenAt 23 = .ok (.i2l, 1) := by decide +kernel
theorem dX8_isOpenAt_24 : decode cX8_isOpenAt 24 = .ok (.lconst 0, 1) := by decide +kernel
theorem dX8_isOpenAt_25 : decode cX8_isOpenAt 25 = .ok (.ldc2_w 180, 3) := by decide +kernel
theorem dX8_isOpenAt_28 : decode cX8_isOpenAt 28 = .ok (.invokestatic 60, 3) := by decide +kernel
theorem dX8_isOpenAt_31 : decode cX8_isOpenAt 31 = .ok (.ifCond .ne 9, 3) := by decide +kernel
theorem dX8_isOpenAt_34 : decode cX8_isOpenAt 34 = .ok (.aload_n 0, 1) := by decide +kernel
theorem dX8_isOpenAt_35 : decode cX8_isOpenAt 35 = .ok (.iconst 2, 1) := by decide +kernel
theorem dX8_isOpenAt_36 : decode cX8_isOpenAt 36 = .ok (.invokevirtual 96, 3) := by decide +kernel
theorem dX8_isOpenAt_39 : decode cX8_isOpenAt 39 = .ok (.pop, 1) := by decide +kernel
theorem dX8_isOpenAt_40 : decode cX8_isOpenAt 40 = .ok (.aload_n 0, 1) := by decide +kernel
theorem dX8_isOpenAt_41 : decode cX8_isOpenAt 41 = .ok (.getfield 54, 3) := by decide +kernel
theorem dX8_isOpenAt_44 : decode cX8_isOpenAt 44 = .ok (.ifCond .ne 16, 3) := by decide +kernel
theorem dX8_isOpenAt_47 : decode cX8_isOpenAt 47 = .ok (.aload_n 0, 1) := by decide +kernel
theorem dX8_isOpenAt_48 : decode cX8_isOpenAt 48 = .ok (.iload_n 1, 1) := by decide +kernel
theorem dX8_isOpenAt_49 : decode cX8_isOpenAt 49 = .ok (.iload_n 2, 1) := by decide +kernel
theorem dX8_isOpenAt_50 : decode cX8_isOpenAt 50 = .ok (.invokevirtual 72, 3) := by decide +kernel
theorem dX8_isOpenAt_53 : decode cX8_isOpenAt 53 = .ok (.ifCond .eq 7, 3) := by decide +kernel
theorem dX8_isOpenAt_56 : decode cX8_isOpenAt 56 = .ok (.iconst 1, 1) := by decide +kernel
theorem dX8_isOpenAt_57 : decode cX8_isOpenAt 57 = .ok (.goto 4, 3) := by decide +kernel
theorem dX8_isOpenAt_60 : decode cX8_isOpenAt 60 = .ok (.iconst 0, 1) := by decide +kernel
theorem dX8_isOpenAt_61 : decode cX8_isOpenAt 61 = .ok (.ireturn, 1) := by decide +kernel
theorem dX8_loadOf_0 : decode cX8_loadOf 0 = .ok (.aload_n 0, 1) := by decide +kernel
theorem dX8_loadOf_1 : decode cX8_loadOf 1 = .ok (.iconst 0, 1) := by decide +kernel
theorem dX8_loadOf_2 : decode cX8_loadOf 2 = .ok (.putfield 54, 3) := by decide +kernel
theorem dX8_loadOf_5 : decode cX8_loadOf 5 = .ok (.aload_n 0, 1) := by decide +kernel
theorem dX8_loadOf_6 : decode cX8_loadOf 6 = .ok (.iload_n 1, 1) := by decide +kernel
theorem dX8_loadOf_7 : decode cX8_loadOf 7 = .ok (.invokevirtual 121, 3) := by decide +kernel
theorem dX8_loadOf_10 : decode cX8_loadOf 10 = .ok (.ifCond .eq 11, 3) := by decide +kernel
theorem dX8_loadOf_13 : decode cX8_loadOf 13 = .ok (.aload_n 0, 1) := by decide +kernel
theorem dX8_loadOf_14 : decode cX8_loadOf 14 = .ok (.iload_n 1, 1) := by decide +kernel
theorem dX8_loadOf_15 : decode cX8_loadOf 15 = .ok (.invokevirtual 135, 3) := by decide +kernel
theorem dX8_loadOf_18 : decode cX8_loadOf 18 = .ok (.goto 8, 3) := by decide +kernel
theorem dX8_loadOf_21 : decode cX8_loadOf 21 = .ok (.aload_n 0, 1) := by decide +kernel
theorem dX8_loadOf_22 : decode cX8_loadOf 22 = .ok (.iconst 1, 1) := by decide +kernel
theorem dX8_loadOf_23 : decode cX8_loadOf 23 = .ok (.invokevirtual 96, 3) := by decide +kernel
theorem dX8_loadOf_26 : decode cX8_loadOf 26 = .ok (.ireturn, 1) := by decide +kernel
theorem dX8_busiestLink_0 : decode cX8_busiestLink 0 = .ok (.aload_n 0, 1) := by decide +kernel
theorem dX8_busiestLink_1 : decode cX8_busiestLink 1 = .ok (.iconst 0, 1) := by decide +kernel
theorem dX8_busiestLink_2 : decode cX8_busiestLink 2 = .ok (.putfield 54, 3) := by decide +kernel
theorem dX8_busiestLink_5 : decode cX8_busiestLink 5 = .ok (.aload_n 0, 1) := by decide +kernel
theorem dX8_busiestLink_6 : decode cX8_busiestLink 6 = .ok (.getfield 9, 3) := by decide +kernel
theorem dX8_busiestLink_9 : decode cX8_busiestLink 9 = .ok (.iconst 1, 1) := by decide +kernel
theorem dX8_busiestLink_10 : decode cX8_busiestLink 10 = .ok (.iaload, 1) := by decide +kernel
theorem dX8_busiestLink_11 : decode cX8_busiestLink 11 = .ok (.ifCond .ne 9, 3) := by decide +kernel
theorem dX8_busiestLink_14 : decode cX8_busiestLink 14 = .ok (.aload_n 0, 1) := by decide +kernel
theorem dX8_busiestLink_15 : decode cX8_busiestLink 15 = .ok (.iconst 1, 1) := by decide +kernel
theorem dX8_busiestLink_16 : decode cX8_busiestLink 16 = .ok (.invokevirtual 96, 3) := by decide +kernel
theorem dX8_busiestLink_19 : decode cX8_busiestLink 19 = .ok (.ireturn, 1) := by decide +kernel
theorem dX8_busiestLink_20 : decode cX8_busiestLink 20 = .ok (.iconst 0, 1) := by decide +kernel
theorem dX8_busiestLink_21 : decode cX8_busiestLink 21 = .ok (.istore_n 1, 1) := by decide +kernel
theorem dX8_busiestLink_22 : decode cX8_busiestLink 22 = .ok (.iconst 1, 1) := by decide +kernel
theorem dX8_busiestLink_23 : decode cX8_busiestLink 23 = .ok (.istore_n 2, 1) := by decide +kernel
theorem dX8_busiestLink_24 : decode cX8_busiestLink 24 = .ok (.iload_n 2, 1) := by decide +kernel
theorem dX8_busiestLink_25 : decode cX8_busiestLink 25 = .ok (.aload_n 0, 1) := by decide +kernel
theorem dX8_busiestLink_26 : decode cX8_busiestLink 26 = .ok (.getfield 9, 3) := by decide +kernel
theorem dX8_busiestLink_29 : decode cX8_busiestLink 29 = .ok (.iconst 1, 1) := by decide +kernel
theorem dX8_busiestLink_30 : decode cX8_busiestLink 30 = .ok (.iaload, 1) := by decide +kernel
theorem dX8_busiestLink_31 : decode cX8_busiestLink 31 = .ok (.if_icmp .ge 28, 3) := by decide +kernel
theorem dX8_busiestLink_34 : decode cX8_busiestLink 34 = .ok (.aload_n 0, 1) := by decide +kernel
theorem dX8_busiestLink_35 : decode cX8_busiestLink 35 = .ok (.iload_n 2, 1) := by decide +kernel
theorem dX8_busiestLink_36 : decode cX8_busiestLink 36 = .ok (.invokevirtual 135, 3) := by decide +kernel
theorem dX8_busiestLink_39 : decode cX8_busiestLink 39 = .ok (.aload_n 0, 1) := by decide +kernel
theorem dX8_busiestLink_40 : decode cX8_busiestLink 40 = .ok (.iload_n 1, 1) := by decide +kernel
theorem dX8_busiestLink_41 : decode cX8_busiestLink 41 = .ok (.invokevirtual 135, 3) := by decide +kernel
theorem dX8_busiestLink_44 : decode cX8_busiestLink 44 = .ok (.if_icmp .le 7, 3) := by decide +kernel
theorem dX8_busiestLink_47 : decode cX8_busiestLink 47 = .ok (.iload_n 2, 1) := by decide +kernel
theorem dX8_busiestLink_48 : decode cX8_busiestLink 48 = .ok (.goto 4, 3) := by decide +kernel
theorem dX8_busiestLink_51 : decode cX8_busiestLink 51 = .ok (.iload_n 1, 1) := by decide +kernel
theorem dX8_busiestLink_52 : decode cX8_busiestLink 52 = .ok (.istore_n 1, 1) := by decide +kernel
theorem dX8_busiestLink_53 : decode cX8_busiestLink 53 = .ok (.iinc 2 1, 3) := by decide +kernel
theorem dX8_busiestLink_56 : decode cX8_busiestLink 56 = .ok (.goto (-32), 3) := by decide +kernel
theorem dX8_busiestLink_59 : decode cX8_busiestLink 59 = .ok (.iload_n 1, 1) := by decide +kernel
theorem dX8_busiestLink_60 : decode cX8_busiestLink 60 = .ok (.ireturn, 1) := by decide +kernel
theorem dX8_degree_0 : decode cX8_degree 0 = .ok (.aload_n 0, 1) := by decide +kernel
theorem dX8_degree_1 : decode cX8_degree 1 = .ok (.iconst 0, 1) := by decide +kernel
theorem dX8_degree_2 : decode cX8_degree 2 = .ok (.putfield 54, 3) := by decide +kernel
theorem dX8_degree_5 : decode cX8_degree 5 = .ok (.aload_n 0, 1) := by decide +kernel
theorem dX8_degree_6 : decode cX8_degree 6 = .ok (.iload_n 1, 1) := by decide +kernel
theorem dX8_degree_7 : decode cX8_degree 7 = .ok (.invokevirtual 109, 3) := by decide +kernel
theorem dX8_degree_10 : decode cX8_degree 10 = .ok (.ifCond .ne 9, 3) := by decide +kernel
theorem dX8_degree_13 : decode cX8_degree 13 = .ok (.aload_n 0, 1) := by decide +kernel
theorem dX8_degree_14 : decode cX8_degree 14 = .ok (.iconst 1, 1) := by decide +kernel
theorem dX8_degree_15 : decode cX8_degree 15 = .ok (.invokevirtual 96, 3) := by decide +kernel
theorem dX8_degree_18 : decode cX8_degree 18 = .ok (.ireturn, 1) := by decide +kernel
theorem dX8_degree_19 : decode cX8_degree 19 = .ok (.iconst 0, 1) := by decide +kernel
theorem dX8_degree_20 : decode cX8_degree 20 = .ok (.istore_n 2, 1) := by decide +kernel
theorem dX8_degree_21 : decode cX8_degree 21 = .ok (.iconst 0, 1) := by decide +kernel
theorem dX8_degree_22 : decode cX8_degree 22 = .ok (.istore_n 3, 1) := by decide +kernel
theorem dX8_degree_23 : decode cX8_degree 23 = .ok (.iload_n 3, 1) := by decide +kernel
theorem dX8_degree_24 : decode cX8_degree 24 = .ok (.aload_n 0, 1) := by decide +kernel
theorem dX8_degree_25 : decode cX8_degree 25 = .ok (.getfield 9, 3) := by decide +kernel
theorem dX8_degree_28 : decode cX8_degree 28 = .ok (.iconst 1, 1) := by decide +kernel
theorem dX8_degree_29 : decode cX8_degree 29 = .ok (.iaload, 1) := by decide +kernel
theorem dX8_degree_30 : decode cX8_degree 30 = .ok (.if_icmp .ge 45, 3) := by decide +kernel
theorem dX8_degree_33 : decode cX8_degree 33 = .ok (.iload_n 2, 1) := by decide +kernel
theorem dX8_degree_34 : decode cX8_degree 34 = .ok (.aload_n 0, 1) := by decide +kernel
theorem dX8_degree_35 : decode cX8_degree 35 = .ok (.getfield 9, 3) := by decide +kernel
theorem dX8_degree_38 : decode cX8_degree 38 = .ok (.iload_n 3, 1) := by decide +kernel
theorem dX8_degree_39 : decode cX8_degree 39 = .ok (.invokestatic 68, 3) := by decide +kernel
theorem dX8_degree_42 : decode cX8_degree 42 = .ok (.iaload, 1) := by decide +kernel
theorem dX8_degree_43 : decode cX8_degree 43 = .ok (.iload_n 1, 1) := by decide +kernel
theorem dX8_degree_44 : decode cX8_degree 44 = .ok (.if_icmp .eq 18, 3) := by decide +kernel
theorem dX8_degree_47 : decode cX8_degree 47 = .ok (.aload_n 0, 1) := by decide +kernel
theorem dX8_degree_48 : decode cX8_degree 48 = .ok (.getfield 9, 3) := by decide +kernel
theorem dX8_degree_51 : decode cX8_degree 51 = .ok (.iload_n 3, 1) := by decide +kernel
theorem dX8_degree_52 : decode cX8_degree 52 = .ok (.invokestatic 68, 3) := by decide +kernel
theorem dX8_degree_55 : decode cX8_degree 55 = .ok (.iconst 1, 1) := by decide +kernel
theorem dX8_degree_56 : decode cX8_degree 56 = .ok (.iadd, 1) := by decide +kernel
theorem dX8_degree_57 : decode cX8_degree 57 = .ok (.iaload, 1) := by decide +kernel
theorem dX8_degree_58 : decode cX8_degree 58 = .ok (.iload_n 1, 1) := by decide +kernel
theorem dX8_degree_59 : decode cX8_degree 59 = .ok (.if_icmp .ne 7, 3) := by decide +kernel
theorem dX8_degree_62 : decode cX8_degree 62 = .ok (.iconst 1, 1) := by decide +kernel
theorem dX8_degree_63 : decode cX8_degree 63 = .ok (.goto 4, 3) := by decide +kernel
theorem dX8_degree_66 : decode cX8_degree 66 = .ok (.iconst 0, 1) := by decide +kernel
theorem dX8_degree_67 : decode cX8_degree 67 = .ok (.iadd, 1) := by decide +kernel
theorem dX8_degree_68 : decode cX8_degree 68 = .ok (.istore_n 2, 1) := by decide +kernel
theorem dX8_degree_69 : decode cX8_degree 69 = .ok (.iinc 3 1, 3) := by decide +kernel
theorem dX8_degree_72 : decode cX8_degree 72 = .ok (.goto (-49), 3) := by decide +kernel
theorem dX8_degree_75 : decode cX8_degree 75 = .ok (.iload_n 2, 1) := by decide +kernel
theorem dX8_degree_76 : decode cX8_degree 76 = .ok (.ireturn, 1) := by decide +kernel
theorem dX8_parcelCount_0 : decode cX8_parcelCount 0 = .ok (.aload_n 0, 1) := by decide +kernel
theorem dX8_parcelCount_1 : decode cX8_parcelCount 1 = .ok (.iconst 2, 1) := by decide +kernel
theorem dX8_parcelCount_2 : decode cX8_parcelCount 2 = .ok (.invokevirtual 174, 3) := by decide +kernel
theorem dX8_parcelCount_5 : decode cX8_parcelCount 5 = .ok (.ireturn, 1) := by decide +kernel
theorem dX8_idAt_0 : decode cX8_idAt 0 = .ok (.aload_n 0, 1) := by decide +kernel
theorem dX8_idAt_1 : decode cX8_idAt 1 = .ok (.iconst 0, 1) := by decide +kernel
theorem dX8_idAt_2 : decode cX8_idAt 2 = .ok (.putfield 54, 3) := by decide +kernel
theorem dX8_idAt_5 : decode cX8_idAt 5 = .ok (.iload_n 1, 1) := by decide +kernel
theorem dX8_idAt_6 : decode cX8_idAt 6 = .ok (.i2l, 1) := by decide +kernel
theorem dX8_idAt_7 : decode cX8_idAt 7 = .ok (.lconst 0, 1) := by decide +kernel
theorem dX8_idAt_8 : decode cX8_idAt 8 = .ok (.aload_n 0, 1) := by decide +kernel
theorem dX8_idAt_9 : decode cX8_idAt 9 = .ok (.getfield 9, 3) := by decide +kernel
theorem dX8_idAt_12 : decode cX8_idAt 12 = .ok (.iconst 2, 1) := by decide +kernel
theorem dX8_idAt_13 : decode cX8_idAt 13 = .ok (.iaload, 1) := by decide +kernel
theorem dX8_idAt_14 : decode cX8_idAt 14 = .ok (.iconst 1, 1) := by decide +kernel
theorem dX8_idAt_15 : decode cX8_idAt 15 = .ok (.isub, 1) := by decide +kernel
theorem dX8_idAt_16 : decode cX8_idAt 16 = .ok (.i2l, 1) := by decide +kernel
theorem dX8_idAt_17 : decode cX8_idAt 17 = .ok (.invokestatic 60, 3) := by decide +kernel
theorem dX8_idAt_20 : decode cX8_idAt 20 = .ok (.ifCond .eq 15, 3) := by decide +kernel
theorem dX8_idAt_23 : decode cX8_idAt 23 = .ok (.aload_n 0, 1) := by decide +kernel
theorem dX8_idAt_24 : decode cX8_idAt 24 = .ok (.getfield 9, 3) := by decide +kernel
theorem dX8_idAt_27 : decode cX8_idAt 27 = .ok (.iload_n 1, 1) := by decide +kernel
theorem dX8_idAt_28 : decode cX8_idAt 28 = .ok (.invokestatic 64, 3) := by decide +kernel
theorem dX8_idAt_31 : decode cX8_idAt 31 = .ok (.iaload, 1) := by decide +kernel
theorem dX8_idAt_32 : decode cX8_idAt 32 = .ok (.goto 8, 3) := by decide +kernel
theorem dX8_idAt_35 : decode cX8_idAt 35 = .ok (.aload_n 0, 1) := by decide +kernel
theorem dX8_idAt_36 : decode cX8_idAt 36 = .ok (.iconst 1, 1) := by decide +kernel
theorem dX8_idAt_37 : decode cX8_idAt 37 = .ok (.invokevirtual 96, 3) := by decide +kernel
theorem dX8_idAt_40 : decode cX8_idAt 40 = .ok (.ireturn, 1) := by decide +kernel
theorem dX8_ofParcel_0 : decode cX8_ofParcel 0 = .ok (.aload_n 0, 1) := by decide +kernel
theorem dX8_ofParcel_1 : decode cX8_ofParcel 1 = .ok (.iconst 0, 1) := by decide +kernel
theorem dX8_ofParcel_2 : decode cX8_ofParcel 2 = .ok (.putfield 54, 3) := by decide +kernel
theorem dX8_ofParcel_5 : decode cX8_ofParcel 5 = .ok (.aload_n 0, 1) := by decide +kernel
theorem dX8_ofParcel_6 : decode cX8_ofParcel 6 = .ok (.iload_n 1, 1) := by decide +kernel
theorem dX8_ofParcel_7 : decode cX8_ofParcel 7 = .ok (.invokevirtual 138, 3) := by decide +kernel
theorem dX8_ofParcel_10 : decode cX8_ofParcel 10 = .ok (.iconst (-1), 1) := by decide +kernel
theorem dX8_ofParcel_11 : decode cX8_ofParcel 11 = .ok (.if_icmp .ne 11, 3) := by decide +kernel
theorem dX8_ofParcel_14 : decode cX8_ofParcel 14 = .ok (.aload_n 0, 1) := by decide +kernel
theorem dX8_ofParcel_15 : decode cX8_ofParcel 15 = .ok (.iconst 1, 1) := by decide +kernel
theorem dX8_ofParcel_16 : decode cX8_ofParcel 16 = .ok (.invokevirtual 96, 3) := by decide +kernel
theorem dX8_ofParcel_19 : decode cX8_ofParcel 19 = .ok (.goto 18, 3) := by decide +kernel
theorem dX8_ofParcel_22 : decode cX8_ofParcel 22 = .ok (.aload_n 0, 1) := by decide +kernel
theorem dX8_ofParcel_23 : decode cX8_ofParcel 23 = .ok (.getfield 9, 3) := by decide +kernel
theorem dX8_ofParcel_26 : decode cX8_ofParcel 26 = .ok (.aload_n 0, 1) := by decide +kernel
theorem dX8_ofParcel_27 : decode cX8_ofParcel 27 = .ok (.iload_n 1, 1) := by decide +kernel
theorem dX8_ofParcel_28 : decode cX8_ofParcel 28 = .ok (.invokevirtual 138, 3) := by decide +kernel
theorem dX8_ofParcel_31 : decode cX8_ofParcel 31 = .ok (.invokestatic 64, 3) := by decide +kernel
theorem dX8_ofParcel_34 : decode cX8_ofParcel 34 = .ok (.iload_n 2, 1) := by decide +kernel
theorem dX8_ofParcel_35 : decode cX8_ofParcel 35 = .ok (.iadd, 1) := by decide +kernel
theorem dX8_ofParcel_36 : decode cX8_ofParcel 36 = .ok (.iaload, 1) := by decide +kernel
theorem dX8_ofParcel_37 : decode cX8_ofParcel 37 = .ok (.ireturn, 1) := by decide +kernel
theorem dX8_isTravelling_0 : decode cX8_isTravelling 0 = .ok (.aload_n 0, 1) := by decide +kernel
theorem dX8_isTravelling_1 : decode cX8_isTravelling 1 = .ok (.iload_n 1, 1) := by decide +kernel
theorem dX8_isTravelling_2 : decode cX8_isTravelling 2 = .ok (.iconst 4, 1) := by decide +kernel
theorem dX8_isTravelling_3 : decode cX8_isTravelling 3 = .ok (.invokevirtual 182, 3) := by decide +kernel
theorem dX8_isTravelling_6 : decode cX8_isTravelling 6 = .ok (.istore_n 2, 1) := by decide +kernel
theorem dX8_isTravelling_7 : decode cX8_isTravelling 7 = .ok (.aload_n 0, 1) := by decide +kernel
theorem dX8_isTravelling_8 : decode cX8_isTravelling 8 = .ok (.getfield 54, 3) := by decide +kernel
theorem dX8_isTravelling_11 : decode cX8_isTravelling 11 = .ok (.ifCond .ne 12, 3) := by decide +kernel
theorem dX8_isTravelling_14 : decode cX8_isTravelling 14 = .ok (.iload_n 2, 1) := by decide +kernel
theorem dX8_isTravelling_15 : decode cX8_isTravelling 15 = .ok (.iconst (-1), 1) := by decide +kernel
theorem dX8_isTravelling_16 : decode cX8_isTravelling 16 = .ok (.if_icmp .ne 7, 3) := by decide +kernel
theorem dX8_isTravelling_19 : decode cX8_isTravelling 19 = .ok (.iconst 1, 1) := by decide +kernel
theorem dX8_isTravelling_20 : decode cX8_isTravelling 20 = .ok (.goto 4, 3) := by decide +kernel
theorem dX8_isTravelling_23 : decode cX8_isTravelling 23 = .ok (.iconst 0, 1) := by decide +kernel
theorem dX8_isTravelling_24 : decode cX8_isTravelling 24 = .ok (.ireturn, 1) := by decide +kernel
theorem dX8_placeOf_0 : decode cX8_placeOf 0 = .ok (.aload_n 0, 1) := by decide +kernel
theorem dX8_placeOf_1 : decode cX8_placeOf 1 = .ok (.iload_n 1, 1) := by decide +kernel
theorem dX8_placeOf_2 : decode cX8_placeOf 2 = .ok (.iconst 4, 1) := by decide +kernel
theorem dX8_placeOf_3 : decode cX8_placeOf 3 = .ok (.invokevirtual 182, 3) := by decide +kernel
theorem dX8_placeOf_6 : decode cX8_placeOf 6 = .ok (.istore_n 2, 1) := by decide +kernel
theorem dX8_placeOf_7 : decode cX8_placeOf 7 = .ok (.aload_n 0, 1) := by decide +kernel
theorem dX8_placeOf_8 : decode cX8_placeOf 8 = .ok (.getfield 54, 3) := by decide +kernel
theorem dX8_placeOf_11 : decode cX8_placeOf 11 = .ok (.ifCond .ne 16, 3) := by decide +kernel
theorem dX8_placeOf_14 : decode cX8_placeOf 14 = .ok (.iload_n 2, 1) := by decide +kernel
theorem dX8_placeOf_15 : decode cX8_placeOf 15 = .ok (.iconst (-1), 1) := by decide +kernel
theorem dX8_placeOf_16 : decode cX8_placeOf 16 = .ok (.if_icmp .ne 11, 3) := by decide +kernel
theorem dX8_placeOf_19 : decode cX8_placeOf 19 = .ok (.aload_n 0, 1) := by decide +kernel
theorem dX8_placeOf_20 : decode cX8_placeOf 20 = .ok (.iconst 1, 1) := by decide +kernel
theorem dX8_placeOf_21 : decode cX8_placeOf 21 = .ok (.invokevirtual 96, 3) := by decide +kernel
theorem dX8_placeOf_24 : decode cX8_placeOf 24 = .ok (.goto 4, 3) := by decide +kernel
theorem dX8_placeOf_27 : decode cX8_placeOf 27 = .ok (.iload_n 2, 1) := by decide +kernel
theorem dX8_placeOf_28 : decode cX8_placeOf 28 = .ok (.ireturn, 1) := by decide +kernel
theorem dX8_ofTravelling_0 : decode cX8_ofTravelling 0 = .ok (.aload_n 0, 1) := by decide +kernel
theorem dX8_ofTravelling_1 : decode cX8_ofTravelling 1 = .ok (.iload_n 1, 1) := by decide +kernel
theorem dX8_ofTravelling_2 : decode cX8_ofTravelling 2 = .ok (.iconst 4, 1) := by decide +kernel
theorem dX8_ofTravelling_3 : decode cX8_ofTravelling 3 = .ok (.invokevirtual 182, 3) := by decide +kernel
theorem dX8_ofTravelling_6 : decode cX8_ofTravelling 6 = .ok (.istore_n 3, 1) := by decide +kernel
theorem dX8_ofTravelling_7 : decode cX8_ofTravelling 7 = .ok (.aload_n 0, 1) := by decide +kernel
theorem dX8_ofTravelling_8 : decode cX8_ofTravelling 8 = .ok (.getfield 54, 3) := by decide +kernel
theorem dX8_ofTravelling_11 : decode cX8_ofTravelling 11 = .ok (.ifCond .gt 8, 3) := by decide +kernel
theorem dX8_ofTravelling_14 : decode cX8_ofTravelling 14 = .ok (.iload_n 3, 1) := by decide +kernel
theorem dX8_ofTravelling_15 : decode cX8_ofTravelling 15 = .ok (.iconst (-1), 1) := by decide +kernel
theorem dX8_ofTravelling_16 : decode cX8_ofTravelling 16 = .ok (.if_icmp .eq 11, 3) := by decide +kernel
theorem dX8_ofTravelling_19 : decode cX8_ofTravelling 19 = .ok (.aload_n 0, 1) := by decide +kernel
theorem dX8_ofTravelling_20 : decode cX8_ofTravelling 20 = .ok (.iconst 1, 1) := by decide +kernel
theorem dX8_ofTravelling_21 : decode cX8_ofTravelling 21 = .ok (.invokevirtual 96, 3) := by decide +kernel
theorem dX8_ofTravelling_24 : decode cX8_ofTravelling 24 = .ok (.goto 18, 3) := by decide +kernel
theorem dX8_ofTravelling_27 : decode cX8_ofTravelling 27 = .ok (.aload_n 0, 1) := by decide +kernel
theorem dX8_ofTravelling_28 : decode cX8_ofTravelling 28 = .ok (.getfield 9, 3) := by decide +kernel
theorem dX8_ofTravelling_31 : decode cX8_ofTravelling 31 = .ok (.aload_n 0, 1) := by decide +kernel
theorem dX8_ofTravelling_32 : decode cX8_ofTravelling 32 = .ok (.iload_n 1, 1) := by decide +kernel
theorem dX8_ofTravelling_33 : decode cX8_ofTravelling 33 = .ok (.invokevirtual 138, 3) := by decide +kernel
theorem dX8_ofTravelling_36 : decode cX8_ofTravelling 36 = .ok (.invokestatic 64, 3) := by decide +kernel
theorem dX8_ofTravelling_39 : decode cX8_ofTravelling 39 = .ok (.iload_n 2, 1) := by decide +kernel
theorem dX8_ofTravelling_40 : decode cX8_ofTravelling 40 = .ok (.iadd, 1) := by decide +kernel
theorem dX8_ofTravelling_41 : decode cX8_ofTravelling 41 = .ok (.iaload, 1) := by decide +kernel
theorem dX8_ofTravelling_42 : decode cX8_ofTravelling 42 = .ok (.ireturn, 1) := by decide +kernel
theorem dX8_linkOf_0 : decode cX8_linkOf 0 = .ok (.aload_n 0, 1) := by decide +kernel
theorem dX8_linkOf_1 : decode cX8_linkOf 1 = .ok (.iload_n 1, 1) := by decide +kernel
theorem dX8_linkOf_2 : decode cX8_linkOf 2 = .ok (.iconst 5, 1) := by decide +kernel
theorem dX8_linkOf_3 : decode cX8_linkOf 3 = .ok (.invokevirtual 185, 3) := by decide +kernel
theorem dX8_linkOf_6 : decode cX8_linkOf 6 = .ok (.ireturn, 1) := by decide +kernel
theorem dX8_arrivalOf_0 : decode cX8_arrivalOf 0 = .ok (.aload_n 0, 1) := by decide +kernel
theorem dX8_arrivalOf_1 : decode cX8_arrivalOf 1 = .ok (.iload_n 1, 1) := by decide +kernel
theorem dX8_arrivalOf_2 : decode cX8_arrivalOf 2 = .ok (.bipush 6, 2) := by decide +kernel
theorem dX8_arrivalOf_4 : decode cX8_arrivalOf 4 = .ok (.invokevirtual 185, 3) := by decide +kernel
theorem dX8_arrivalOf_7 : decode cX8_arrivalOf 7 = .ok (.ireturn, 1) := by decide +kernel
theorem dX8_destinationOf_0 : decode cX8_destinationOf 0 = .ok (.aload_n 0, 1) := by decide +kernel
theorem dX8_destinationOf_1 : decode cX8_destinationOf 1 = .ok (.iload_n 1, 1) := by decide +kernel
theorem dX8_destinationOf_2 : decode cX8_destinationOf 2 = .ok (.iconst 1, 1) := by decide +kernel
theorem dX8_destinationOf_3 : decode cX8_destinationOf 3 = .ok (.invokevirtual 182, 3) := by decide +kernel
theorem dX8_destinationOf_6 : decode cX8_destinationOf 6 = .ok (.ireturn, 1) := by decide +kernel
theorem dX8_weightOf_0 : decode cX8_weightOf 0 = .ok (.aload_n 0, 1) := by decide +kernel
theorem dX8_weightOf_1 : decode cX8_weightOf 1 = .ok (.iload_n 1, 1) := by decide +kernel
theorem dX8_weightOf_2 : decode cX8_weightOf 2 = .ok (.iconst 2, 1) := by decide +kernel
theorem dX8_weightOf_3 : decode cX8_weightOf 3 = .ok (.invokevirtual 182, 3) := by decide +kernel
theorem dX8_weightOf_6 : decode cX8_weightOf 6 = .ok (.ireturn, 1) := by decide +kernel
theorem dX8_stampsOf_0 : decode cX8_stampsOf 0 = .ok (.aload_n 0, 1) := by decide +kernel
theorem dX8_stampsOf_1 : decode cX8_stampsOf 1 = .ok (.iload_n 1, 1) := by decide +kernel
theorem dX8_stampsOf_2 : decode cX8_stampsOf 2 = .ok (.iconst 3, 1) := by decide +kernel
theorem dX8_stampsOf_3 : decode cX8_stampsOf 3 = .ok (.invokevirtual 182, 3) := by decide +kernel
theorem dX8_stampsOf_6 : decode cX8_stampsOf 6 = .ok (.ireturn, 1) := by decide +kernel
theorem dX8_waitingIn_0 : decode cX8_waitingIn 0 = .ok (.aload_n 0, 1) := by decide +kernel
theorem dX8_waitingIn_1 : decode cX8_waitingIn 1 = .ok (.iconst 0, 1) := by decide +kernel
theorem dX8_waitingIn_2 : decode cX8_waitingIn 2 = .ok (.putfield 54, 3) := by decide +kernel
theorem dX8_waitingIn_5 : decode cX8_waitingIn 5 = .ok (.aload_n 0, 1) := by decide +kernel
theorem dX8_waitingIn_6 : decode cX8_waitingIn 6 = .ok (.iload_n 1, 1) := by decide +kernel
theorem dX8_waitingIn_7 : decode cX8_waitingIn 7 = .ok (.invokevirtual 109, 3) := by decide +kernel
theorem dX8_waitingIn_10 : decode cX8_waitingIn 10 = .ok (.ifCond .ne 9, 3) := by decide +kernel
theorem dX8_waitingIn_13 : decode cX8_waitingIn 13 = .ok (.aload_n 0, 1) := by decide +kernel
theorem dX8_waitingIn_14 : decode cX8_waitingIn 14 = .ok (.iconst 1, 1) := by decide +kernel
theorem dX8_waitingIn_15 : decode cX8_waitingIn 15 = .ok (.invokevirtual 96, 3) := by decide +kernel
theorem dX8_waitingIn_18 : decode cX8_waitingIn 18 = .ok (.ireturn, 1) := by decide +kernel
theorem dX8_waitingIn_19 : decode cX8_waitingIn 19 = .ok (.iconst 0, 1) := by decide +kernel
theorem dX8_waitingIn_20 : decode cX8_waitingIn 20 = .ok (.istore_n 2, 1) := by decide +kernel
theorem dX8_waitingIn_21 : decode cX8_waitingIn 21 = .ok (.iconst 0, 1) := by decide +kernel
theorem dX8_waitingIn_22 : decode cX8_waitingIn 22 = .ok (.istore_n 3, 1) := by decide +kernel
theorem dX8_waitingIn_23 : decode cX8_waitingIn 23 = .ok (.iload_n 3, 1) := by decide +kernel
theorem dX8_waitingIn_24 : decode cX8_waitingIn 24 = .ok (.aload_n 0, 1) := by decide +kernel
theorem dX8_waitingIn_25 : decode cX8_waitingIn 25 = .ok (.getfield 9, 3) := by decide +kernel
theorem dX8_waitingIn_28 : decode cX8_waitingIn 28 = .ok (.iconst 2, 1) := by decide +kernel
theorem dX8_waitingIn_29 : decode cX8_waitingIn 29 = .ok (.iaload, 1) := by decide +kernel
theorem dX8_waitingIn_30 : decode cX8_waitingIn 30 = .ok (.if_icmp .ge 32, 3) := by decide +kernel
theorem dX8_waitingIn_33 : decode cX8_waitingIn 33 = .ok (.iload_n 2, 1) := by decide +kernel
theorem dX8_waitingIn_34 : decode cX8_waitingIn 34 = .ok (.aload_n 0, 1) := by decide +kernel
theorem dX8_waitingIn_35 : decode cX8_waitingIn 35 = .ok (.getfield 9, 3) := by decide +kernel
theorem dX8_waitingIn_38 : decode cX8_waitingIn 38 = .ok (.iload_n 3, 1) := by decide +kernel
theorem dX8_waitingIn_39 : decode cX8_waitingIn 39 = .ok (.invokestatic 64, 3) := by decide +kernel
theorem dX8_waitingIn_42 : decode cX8_waitingIn 42 = .ok (.iconst 4, 1) := by decide +kernel
theorem dX8_waitingIn_43 : decode cX8_waitingIn 43 = .ok (.iadd, 1) := by decide +kernel
theorem dX8_waitingIn_44 : decode cX8_waitingIn 44 = .ok (.iaload, 1) := by decide +kernel
theorem dX8_waitingIn_45 : decode cX8_waitingIn 45 = .ok (.iload_n 1, 1) := by decide +kernel
theorem dX8_waitingIn_46 : decode cX8_waitingIn 46 = .ok (.if_icmp .ne 7, 3) := by decide +kernel
theorem dX8_waitingIn_49 : decode cX8_waitingIn 49 = .ok (.iconst 1, 1) := by decide +kernel
theorem dX8_waitingIn_50 : decode cX8_waitingIn 50 = .ok (.goto 4, 3) := by decide +kernel
theorem dX8_waitingIn_53 : decode cX8_waitingIn 53 = .ok (.iconst 0, 1) := by decide +kernel
theorem dX8_waitingIn_54 : decode cX8_waitingIn 54 = .ok (.iadd, 1) := by decide +kernel
theorem dX8_waitingIn_55 : decode cX8_waitingIn 55 = .ok (.istore_n 2, 1) := by decide +kernel
theorem dX8_waitingIn_56 : decode cX8_waitingIn 56 = .ok (.iinc 3 1, 3) := by decide +kernel
theorem dX8_waitingIn_59 : decode cX8_waitingIn 59 = .ok (.goto (-36), 3) := by decide +kernel
theorem dX8_waitingIn_62 : decode cX8_waitingIn 62 = .ok (.iload_n 2, 1) := by decide +kernel
theorem dX8_waitingIn_63 : decode cX8_waitingIn 63 = .ok (.ireturn, 1) := by decide +kernel
theorem dX8_earliestArrival_0 : decode cX8_earliestArrival 0 = .ok (.aload_n 0, 1) := by decide +kernel
theorem dX8_earliestArrival_1 : decode cX8_earliestArrival 1 = .ok (.iconst 0, 1) := by decide +kernel
theorem dX8_earliestArrival_2 : decode cX8_earliestArrival 2 = .ok (.putfield 54, 3) := by decide +kernel
theorem dX8_earliestArrival_5 : decode cX8_earliestArrival 5 = .ok (.aload_n 0, 1) := by decide +kernel
theorem dX8_earliestArrival_6 : decode cX8_earliestArrival 6 = .ok (.iload_n 1, 1) := by decide +kernel
theorem dX8_earliestArrival_7 : decode cX8_earliestArrival 7 = .ok (.invokevirtual 109, 3) := by decide +kernel
theorem dX8_earliestArrival_10 : decode cX8_earliestArrival 10 = .ok (.ifCond .eq 11, 3) := by decide +kernel
theorem dX8_earliestArrival_13 : decode cX8_earliestArrival 13 = .ok (.aload_n 0, 1) := by decide +kernel
theorem dX8_earliestArrival_14 : decode cX8_earliestArrival 14 = .ok (.iload_n 2, 1) := by decide +kernel
theorem dX8_earliestArrival_15 : decode cX8_earliestArrival 15 = .ok (.invokevirtual 109, 3) := by decide +kernel
theorem dX8_earliestArrival_18 : decode cX8_earliestArrival 18 = .ok (.ifCond .ne 9, 3) := by decide +kernel
theorem dX8_earliestArrival_21 : decode cX8_earliestArrival 21 = .ok (.aload_n 0, 1) := by decide +kernel
theorem dX8_earliestArrival_22 : decode cX8_earliestArrival 22 = .ok (.iconst 1, 1) := by decide +kernel
theorem dX8_earliestArrival_23 : decode cX8_earliestArrival 23 = .ok (.invokevirtual 96, 3) := by decide +kernel
theorem dX8_earliestArrival_26 : decode cX8_earliestArrival 26 = .ok (.ireturn, 1) := by decide +kernel
theorem dX8_earliestArrival_27 : decode cX8_earliestArrival 27 = .ok (.iload_n 3, 1) := by decide +kernel
theorem dX8_earliestArrival_28 : decode cX8_earliestArrival 28 = .ok (.i2l, 1) := by decide +kernel
theorem dX8_earliestArrival_29 : decode cX8_earliestArrival 29 = .ok (.lconst 0, 1) := by decide +kernel
theorem dX8_earliestArrival_30 : decode cX8_earliestArrival 30 = .ok (.ldc2_w 180, 3) := by decide +kernel
theorem dX8_earliestArrival_33 : decode cX8_earliestArrival 33 = .ok (.invokestatic 60, 3) := by decide +kernel
theorem dX8_earliestArrival_36 : decode cX8_earliestArrival 36 = .ok (.ifCond .ne 9, 3) := by decide +kernel
theorem dX8_earliestArrival_39 : decode cX8_earliestArrival 39 = .ok (.aload_n 0, 1) := by decide +kernel
theorem dX8_earliestArrival_40 : decode cX8_earliestArrival 40 = .ok (.iconst 2, 1) := by decide +kernel
theorem dX8_earliestArrival_41 : decode cX8_earliestArrival 41 = .ok (.invokevirtual 96, 3) := by decide +kernel
theorem dX8_earliestArrival_44 : decode cX8_earliestArrival 44 = .ok (.ireturn, 1) := by decide +kernel
theorem dX8_earliestArrival_45 : decode cX8_earliestArrival 45 = .ok (.aload_n 0, 1) := by decide +kernel
theorem dX8_earliestArrival_46 : decode cX8_earliestArrival 46 = .ok (.iload_n 1, 1) := by decide +kernel
theorem dX8_earliestArrival_47 : decode cX8_earliestArrival 47 = .ok (.iload_n 2, 1) := by decide +kernel
theorem dX8_earliestArrival_48 : decode cX8_earliestArrival 48 = .ok (.iload_n 3, 1) := by decide +kernel
theorem dX8_earliestArrival_49 : decode cX8_earliestArrival 49 = .ok (.invokevirtual 89, 3) := by decide +kernel
theorem dX8_earliestArrival_52 : decode cX8_earliestArrival 52 = .ok (.istore 4, 2) := by decide +kernel
theorem dX8_earliestArrival_54 : decode cX8_earliestArrival 54 = .ok (.iload 4, 2) := by decide +kernel
theorem dX8_earliestArrival_56 : decode cX8_earliestArrival 56 = .ok (.ldc 71, 2) := by decide +kernel
theorem dX8_earliestArrival_58 : decode cX8_earliestArrival 58 = .ok (.if_icmp .ne 11, 3) := by decide +kernel
theorem dX8_earliestArrival_61 : decode cX8_earliestArrival 61 = .ok (.aload_n 0, 1) := by decide +kernel
theorem dX8_earliestArrival_62 : decode cX8_earliestArrival 62 = .ok (.iconst 3, 1) := by decide +kernel
theorem dX8_earliestArrival_63 : decode cX8_earliestArrival 63 = .ok (.invokevirtual 96, 3) := by decide +kernel
theorem dX8_earliestArrival_66 : decode cX8_earliestArrival 66 = .ok (.goto 5, 3) := by decide +kernel
theorem dX8_earliestArrival_69 : decode cX8_earliestArrival 69 = .ok (.iload 4, 2) := by decide +kernel
theorem dX8_earliestArrival_71 : decode cX8_earliestArrival 71 = .ok (.ireturn, 1) := by decide +kernel
theorem dX8_earliestArrivalByHours_0 : decode cX8_earliestArrivalByHours 0 = .ok (.aload_n 0, 1) := by decide +kernel
theorem dX8_earliestArrivalByHours_1 : decode cX8_earliestArrivalByHours 1 = .ok (.iload_n 1, 1) := by decide +kernel
theorem dX8_earliestArrivalByHours_2 : decode cX8_earliestArrivalByHours 2 = .ok (.iload_n 2, 1) := by decide +kernel
theorem dX8_earliestArrivalByHours_3 : decode cX8_earliestArrivalByHours 3 = .ok (.iload_n 3, 1) := by decide +kernel
theorem dX8_earliestArrivalByHours_4 : decode cX8_earliestArrivalByHours 4 = .ok (.invokevirtual 188, 3) := by decide +kernel
theorem dX8_earliestArrivalByHours_7 : decode cX8_earliestArrivalByHours 7 = .ok (.ireturn, 1) := by decide +kernel
theorem dX8_fewestLinks_0 : decode cX8_fewestLinks 0 = .ok (.aload_n 0, 1) := by decide +kernel
theorem dX8_fewestLinks_1 : decode cX8_fewestLinks 1 = .ok (.iconst 0, 1) := by decide +kernel
theorem dX8_fewestLinks_2 : decode cX8_fewestLinks 2 = .ok (.putfield 54, 3) := by decide +kernel
theorem dX8_fewestLinks_5 : decode cX8_fewestLinks 5 = .ok (.aload_n 0, 1) := by decide +kernel
theorem dX8_fewestLinks_6 : decode cX8_fewestLinks 6 = .ok (.iload_n 1, 1) := by decide +kernel
theorem dX8_fewestLinks_7 : decode cX8_fewestLinks 7 = .ok (.invokevirtual 109, 3) := by decide +kernel
theorem dX8_fewestLinks_10 : decode cX8_fewestLinks 10 = .ok (.ifCond .eq 11, 3) := by decide +kernel
theorem dX8_fewestLinks_13 : decode cX8_fewestLinks 13 = .ok (.aload_n 0, 1) := by decide +kernel
theorem dX8_fewestLinks_14 : decode cX8_fewestLinks 14 = .ok (.iload_n 2, 1) := by decide +kernel
theorem dX8_fewestLinks_15 : decode cX8_fewestLinks 15 = .ok (.invokevirtual 109, 3) := by decide +kernel
theorem dX8_fewestLinks_18 : decode cX8_fewestLinks 18 = .ok (.ifCond .ne 9, 3) := by decide +kernel
theorem dX8_fewestLinks_21 : decode cX8_fewestLinks 21 = .ok (.aload_n 0, 1) := by decide +kernel
theorem dX8_fewestLinks_22 : decode cX8_fewestLinks 22 = .ok (.iconst 1, 1) := by decide +kernel
theorem dX8_fewestLinks_23 : decode cX8_fewestLinks 23 = .ok (.invokevirtual 96, 3) := by decide +kernel
theorem dX8_fewestLinks_26 : decode cX8_fewestLinks 26 = .ok (.ireturn, 1) := by decide +kernel
theorem dX8_fewestLinks_27 : decode cX8_fewestLinks 27 = .ok (.aload_n 0, 1) := by decide +kernel
theorem dX8_fewestLinks_28 : decode cX8_fewestLinks 28 = .ok (.iload_n 1, 1) := by decide +kernel
theorem dX8_fewestLinks_29 : decode cX8_fewestLinks 29 = .ok (.iload_n 2, 1) := by decide +kernel
theorem dX8_fewestLinks_30 : decode cX8_fewestLinks 30 = .ok (.invokevirtual 191, 3) := by decide +kernel
theorem dX8_fewestLinks_33 : decode cX8_fewestLinks 33 = .ok (.istore_n 3, 1) := by decide +kernel
theorem dX8_fewestLinks_34 : decode cX8_fewestLinks 34 = .ok (.iload_n 3, 1) := by decide +kernel
theorem dX8_fewestLinks_35 : decode cX8_fewestLinks 35 = .ok (.ldc 71, 2) := by decide +kernel
theorem dX8_fewestLinks_37 : decode cX8_fewestLinks 37 = .ok (.if_icmp .lt 11, 3) := by decide +kernel
theorem dX8_fewestLinks_40 : decode cX8_fewestLinks 40 = .ok (.aload_n 0, 1) := by decide +kernel
theorem dX8_fewestLinks_41 : decode cX8_fewestLinks 41 = .ok (.iconst 2, 1) := by decide +kernel
theorem dX8_fewestLinks_42 : decode cX8_fewestLinks 42 = .ok (.invokevirtual 96, 3) := by decide +kernel
theorem dX8_fewestLinks_45 : decode cX8_fewestLinks 45 = .ok (.goto 4, 3) := by decide +kernel
theorem dX8_fewestLinks_48 : decode cX8_fewestLinks 48 = .ok (.iload_n 3, 1) := by decide +kernel
theorem dX8_fewestLinks_49 : decode cX8_fewestLinks 49 = .ok (.ireturn, 1) := by decide +kernel
theorem dX8_reachable_0 : decode cX8_reachable 0 = .ok (.aload_n 0, 1) := by decide +kernel
theorem dX8_reachable_1 : decode cX8_reachable 1 = .ok (.iconst 0, 1) := by decide +kernel
theorem dX8_reachable_2 : decode cX8_reachable 2 = .ok (.putfield 54, 3) := by decide +kernel
theorem dX8_reachable_5 : decode cX8_reachable 5 = .ok (.aload_n 0, 1) := by decide +kernel
theorem dX8_reachable_6 : decode cX8_reachable 6 = .ok (.iload_n 1, 1) := by decide +kernel
theorem dX8_reachable_7 : decode cX8_reachable 7 = .ok (.invokevirtual 109, 3) := by decide +kernel
theorem dX8_reachable_10 : decode cX8_reachable 10 = .ok (.ifCond .ne 9, 3) := by decide +kernel
theorem dX8_reachable_13 : decode cX8_reachable 13 = .ok (.aload_n 0, 1) := by decide +kernel
theorem dX8_reachable_14 : decode cX8_reachable 14 = .ok (.iconst 1, 1) := by decide +kernel
theorem dX8_reachable_15 : decode cX8_reachable 15 = .ok (.invokevirtual 96, 3) := by decide +kernel
theorem dX8_reachable_18 : decode cX8_reachable 18 = .ok (.ireturn, 1) := by decide +kernel
theorem dX8_reachable_19 : decode cX8_reachable 19 = .ok (.aload_n 0, 1) := by decide +kernel
theorem dX8_reachable_20 : decode cX8_reachable 20 = .ok (.iload_n 1, 1) := by decide +kernel
theorem dX8_reachable_21 : decode cX8_reachable 21 = .ok (.iconst 0, 1) := by decide +kernel
theorem dX8_reachable_22 : decode cX8_reachable 22 = .ok (.invokevirtual 82, 3) := by decide +kernel
theorem dX8_reachable_25 : decode cX8_reachable 25 = .ok (.iconst 0, 1) := by decide +kernel
theorem dX8_reachable_26 : decode cX8_reachable 26 = .ok (.istore_n 2, 1) := by decide +kernel
theorem dX8_reachable_27 : decode cX8_reachable 27 = .ok (.iconst 0, 1) := by decide +kernel
theorem dX8_reachable_28 : decode cX8_reachable 28 = .ok (.istore_n 3, 1) := by decide +kernel
theorem dX8_reachable_29 : decode cX8_reachable 29 = .ok (.iload_n 3, 1) := by decide +kernel
theorem dX8_reachable_30 : decode cX8_reachable 30 = .ok (.aload_n 0, 1) := by decide +kernel
theorem dX8_reachable_31 : decode cX8_reachable 31 = .ok (.getfield 9, 3) := by decide +kernel
theorem dX8_reachable_34 : decode cX8_reachable 34 = .ok (.iconst 0, 1) := by decide +kernel
theorem dX8_reachable_35 : decode cX8_reachable 35 = .ok (.iaload, 1) := by decide +kernel
theorem dX8_reachable_36 : decode cX8_reachable 36 = .ok (.if_icmp .ge 28, 3) := by decide +kernel
theorem dX8_reachable_39 : decode cX8_reachable 39 = .ok (.iload_n 2, 1) := by decide +kernel
theorem dX8_reachable_40 : decode cX8_reachable 40 = .ok (.aload_n 0, 1) := by decide +kernel
theorem dX8_reachable_41 : decode cX8_reachable 41 = .ok (.getfield 35, 3) := by decide +kernel
theorem dX8_reachable_44 : decode cX8_reachable 44 = .ok (.iload_n 3, 1) := by decide +kernel
theorem dX8_reachable_45 : decode cX8_reachable 45 = .ok (.iaload, 1) := by decide +kernel
theorem dX8_reachable_46 : decode cX8_reachable 46 = .ok (.ldc 71, 2) := by decide +kernel
theorem dX8_reachable_48 : decode cX8_reachable 48 = .ok (.if_icmp .ge 7, 3) := by decide +kernel
theorem dX8_reachable_51 : decode cX8_reachable 51 = .ok (.iconst 1, 1) := by decide +kernel
theorem dX8_reachable_52 : decode cX8_reachable 52 = .ok (.goto 4, 3) := by decide +kernel
theorem dX8_reachable_55 : decode cX8_reachable 55 = .ok (.iconst 0, 1) := by decide +kernel
theorem dX8_reachable_56 : decode cX8_reachable 56 = .ok (.iadd, 1) := by decide +kernel
theorem dX8_reachable_57 : decode cX8_reachable 57 = .ok (.istore_n 2, 1) := by decide +kernel
theorem dX8_reachable_58 : decode cX8_reachable 58 = .ok (.iinc 3 1, 3) := by decide +kernel
theorem dX8_reachable_61 : decode cX8_reachable 61 = .ok (.goto (-32), 3) := by decide +kernel
theorem dX8_reachable_64 : decode cX8_reachable 64 = .ok (.iload_n 2, 1) := by decide +kernel
theorem dX8_reachable_65 : decode cX8_reachable 65 = .ok (.ireturn, 1) := by decide +kernel
theorem dX8_forecast_0 : decode cX8_forecast 0 = .ok (.aload_n 0, 1) := by decide +kernel
theorem dX8_forecast_1 : decode cX8_forecast 1 = .ok (.iconst 0, 1) := by decide +kernel
theorem dX8_forecast_2 : decode cX8_forecast 2 = .ok (.putfield 54, 3) := by decide +kernel
theorem dX8_forecast_5 : decode cX8_forecast 5 = .ok (.aload_n 0, 1) := by decide +kernel
theorem dX8_forecast_6 : decode cX8_forecast 6 = .ok (.iload_n 1, 1) := by decide +kernel
theorem dX8_forecast_7 : decode cX8_forecast 7 = .ok (.invokevirtual 138, 3) := by decide +kernel
theorem dX8_forecast_10 : decode cX8_forecast 10 = .ok (.istore_n 2, 1) := by decide +kernel
theorem dX8_forecast_11 : decode cX8_forecast 11 = .ok (.iload_n 2, 1) := by decide +kernel
theorem dX8_forecast_12 : decode cX8_forecast 12 = .ok (.iconst (-1), 1) := by decide +kernel
theorem dX8_forecast_13 : decode cX8_forecast 13 = .ok (.if_icmp .ne 8, 3) := by decide +kernel
theorem dX8_forecast_16 : decode cX8_forecast 16 = .ok (.ldc 71, 2) := by decide +kernel
theorem dX8_forecast_18 : decode cX8_forecast 18 = .ok (.goto 8, 3) := by decide +kernel
theorem dX8_forecast_21 : decode cX8_forecast 21 = .ok (.aload_n 0, 1) := by decide +kernel
theorem dX8_forecast_22 : decode cX8_forecast 22 = .ok (.iload_n 2, 1) := by decide +kernel
theorem dX8_forecast_23 : decode cX8_forecast 23 = .ok (.invokevirtual 93, 3) := by decide +kernel
theorem dX8_forecast_26 : decode cX8_forecast 26 = .ok (.istore_n 3, 1) := by decide +kernel
theorem dX8_forecast_27 : decode cX8_forecast 27 = .ok (.iload_n 3, 1) := by decide +kernel
theorem dX8_forecast_28 : decode cX8_forecast 28 = .ok (.ldc 71, 2) := by decide +kernel
theorem dX8_forecast_30 : decode cX8_forecast 30 = .ok (.if_icmp .ne 11, 3) := by decide +kernel
theorem dX8_forecast_33 : decode cX8_forecast 33 = .ok (.aload_n 0, 1) := by decide +kernel
theorem dX8_forecast_34 : decode cX8_forecast 34 = .ok (.iconst 1, 1) := by decide +kernel
theorem dX8_forecast_35 : decode cX8_forecast 35 = .ok (.invokevirtual 96, 3) := by decide +kernel
theorem dX8_forecast_38 : decode cX8_forecast 38 = .ok (.goto 4, 3) := by decide +kernel
theorem dX8_forecast_41 : decode cX8_forecast 41 = .ok (.iload_n 3, 1) := by decide +kernel
theorem dX8_forecast_42 : decode cX8_forecast 42 = .ok (.ireturn, 1) := by decide +kernel
theorem dX8_nextLink_0 : decode cX8_nextLink 0 = .ok (.aload_n 0, 1) := by decide +kernel
theorem dX8_nextLink_1 : decode cX8_nextLink 1 = .ok (.iconst 0, 1) := by decide +kernel
theorem dX8_nextLink_2 : decode cX8_nextLink 2 = .ok (.putfield 54, 3) := by decide +kernel
theorem dX8_nextLink_5 : decode cX8_nextLink 5 = .ok (.aload_n 0, 1) := by decide +kernel
theorem dX8_nextLink_6 : decode cX8_nextLink 6 = .ok (.iload_n 1, 1) := by decide +kernel
theorem dX8_nextLink_7 : decode cX8_nextLink 7 = .ok (.invokevirtual 138, 3) := by decide +kernel
theorem dX8_nextLink_10 : decode cX8_nextLink 10 = .ok (.istore_n 2, 1) := by decide +kernel
theorem dX8_nextLink_11 : decode cX8_nextLink 11 = .ok (.iload_n 2, 1) := by decide +kernel
theorem dX8_nextLink_12 : decode cX8_nextLink 12 = .ok (.iconst (-1), 1) := by decide +kernel
theorem dX8_nextLink_13 : decode cX8_nextLink 13 = .ok (.if_icmp .eq 22, 3) := by decide +kernel
theorem dX8_nextLink_16 : decode cX8_nextLink 16 = .ok (.aload_n 0, 1) := by decide +kernel
theorem dX8_nextLink_17 : decode cX8_nextLink 17 = .ok (.getfield 9, 3) := by decide +kernel
theorem dX8_nextLink_20 : decode cX8_nextLink 20 = .ok (.iload_n 2, 1) := by decide +kernel
theorem dX8_nextLink_21 : decode cX8_nextLink 21 = .ok (.invokestatic 64, 3) := by decide +kernel
theorem dX8_nextLink_24 : decode cX8_nextLink 24 = .ok (.iconst 4, 1) := by decide +kernel
theorem dX8_nextLink_25 : decode cX8_nextLink 25 = .ok (.iadd, 1) := by decide +kernel
theorem dX8_nextLink_26 : decode cX8_nextLink 26 = .ok (.iaload, 1) := by decide +kernel
theorem dX8_nextLink_27 : decode cX8_nextLink 27 = .ok (.iconst (-1), 1) := by decide +kernel
theorem dX8_nextLink_28 : decode cX8_nextLink 28 = .ok (.if_icmp .eq 7, 3) := by decide +kernel
theorem dX8_nextLink_31 : decode cX8_nextLink 31 = .ok (.iconst 1, 1) := by decide +kernel
theorem dX8_nextLink_32 : decode cX8_nextLink 32 = .ok (.goto 4, 3) := by decide +kernel
theorem dX8_nextLink_35 : decode cX8_nextLink 35 = .ok (.iconst 0, 1) := by decide +kernel
theorem dX8_nextLink_36 : decode cX8_nextLink 36 = .ok (.istore_n 3, 1) := by decide +kernel
theorem dX8_nextLink_37 : decode cX8_nextLink 37 = .ok (.iload_n 3, 1) := by decide +kernel
theorem dX8_nextLink_38 : decode cX8_nextLink 38 = .ok (.ifCond .eq 11, 3) := by decide +kernel
theorem dX8_nextLink_41 : decode cX8_nextLink 41 = .ok (.aload_n 0, 1) := by decide +kernel
theorem dX8_nextLink_42 : decode cX8_nextLink 42 = .ok (.iload_n 2, 1) := by decide +kernel
theorem dX8_nextLink_43 : decode cX8_nextLink 43 = .ok (.invokevirtual 160, 3) := by decide +kernel
theorem dX8_nextLink_46 : decode cX8_nextLink 46 = .ok (.goto 4, 3) := by decide +kernel
theorem dX8_nextLink_49 : decode cX8_nextLink 49 = .ok (.iconst (-1), 1) := by decide +kernel
theorem dX8_nextLink_50 : decode cX8_nextLink 50 = .ok (.istore 4, 2) := by decide +kernel
theorem dX8_nextLink_52 : decode cX8_nextLink 52 = .ok (.iload 4, 2) := by decide +kernel
theorem dX8_nextLink_54 : decode cX8_nextLink 54 = .ok (.iconst (-1), 1) := by decide +kernel
theorem dX8_nextLink_55 : decode cX8_nextLink 55 = .ok (.if_icmp .ne 11, 3) := by decide +kernel
theorem dX8_nextLink_58 : decode cX8_nextLink 58 = .ok (.aload_n 0, 1) := by decide +kernel
theorem dX8_nextLink_59 : decode cX8_nextLink 59 = .ok (.iconst 1, 1) := by decide +kernel
theorem dX8_nextLink_60 : decode cX8_nextLink 60 = .ok (.invokevirtual 96, 3) := by decide +kernel
theorem dX8_nextLink_63 : decode cX8_nextLink 63 = .ok (.goto 5, 3) := by decide +kernel
theorem dX8_nextLink_66 : decode cX8_nextLink 66 = .ok (.iload 4, 2) := by decide +kernel
theorem dX8_nextLink_68 : decode cX8_nextLink 68 = .ok (.ireturn, 1) := by decide +kernel
theorem dX8_canSend_0 : decode cX8_canSend 0 = .ok (.aload_n 0, 1) := by decide +kernel
theorem dX8_canSend_1 : decode cX8_canSend 1 = .ok (.iconst 0, 1) := by decide +kernel
theorem dX8_canSend_2 : decode cX8_canSend 2 = .ok (.putfield 54, 3) := by decide +kernel
theorem dX8_canSend_5 : decode cX8_canSend 5 = .ok (.aload_n 0, 1) := by decide +kernel
theorem dX8_canSend_6 : decode cX8_canSend 6 = .ok (.iload_n 1, 1) := by decide +kernel
theorem dX8_canSend_7 : decode cX8_canSend 7 = .ok (.invokevirtual 138, 3) := by decide +kernel
theorem dX8_canSend_10 : decode cX8_canSend 10 = .ok (.istore_n 3, 1) := by decide +kernel
theorem dX8_canSend_11 : decode cX8_canSend 11 = .ok (.iload_n 3, 1) := by decide +kernel
theorem dX8_canSend_12 : decode cX8_canSend 12 = .ok (.iconst (-1), 1) := by decide +kernel
theorem dX8_canSend_13 : decode cX8_canSend 13 = .ok (.if_icmp .ne 12, 3) := by decide +kernel
theorem dX8_canSend_16 : decode cX8_canSend 16 = .ok (.aload_n 0, 1) := by decide +kernel
theorem dX8_canSend_17 : decode cX8_canSend 17 = .ok (.iconst 1, 1) := by decide +kernel
theorem dX8_canSend_18 : decode cX8_canSend 18 = .ok (.invokevirtual 96, 3) := by decide +kernel
theorem dX8_canSend_21 : decode cX8_canSend 21 = .ok (.pop, 1) := by decide +kernel
theorem dX8_canSend_22 : decode cX8_canSend 22 = .ok (.goto 17, 3) := by decide +kernel
theorem dX8_canSend_25 : decode cX8_canSend 25 = .ok (.aload_n 0, 1) := by decide +kernel
theorem dX8_canSend_26 : decode cX8_canSend 26 = .ok (.iload_n 2, 1) := by decide +kernel
theorem dX8_canSend_27 : decode cX8_canSend 27 = .ok (.invokevirtual 121, 3) := by decide +kernel
theorem dX8_canSend_30 : decode cX8_canSend 30 = .ok (.ifCond .ne 9, 3) := by decide +kernel
theorem dX8_canSend_33 : decode cX8_canSend 33 = .ok (.aload_n 0, 1) := by decide +kernel
theorem dX8_canSend_34 : decode cX8_canSend 34 = .ok (.iconst 2, 1) := by decide +kernel
theorem dX8_canSend_35 : decode cX8_canSend 35 = .ok (.invokevirtual 96, 3) := by decide +kernel
theorem dX8_canSend_38 : decode cX8_canSend 38 = .ok (.pop, 1) := by decide +kernel
theorem dX8_canSend_39 : decode cX8_canSend 39 = .ok (.aload_n 0, 1) := by decide +kernel
theorem dX8_canSend_40 : decode cX8_canSend 40 = .ok (.getfield 54, 3) := by decide +kernel
theorem dX8_canSend_43 : decode cX8_canSend 43 = .ok (.ifCond .ne 16, 3) := by decide +kernel
theorem dX8_canSend_46 : decode cX8_canSend 46 = .ok (.aload_n 0, 1) := by decide +kernel
theorem dX8_canSend_47 : decode cX8_canSend 47 = .ok (.iload_n 3, 1) := by decide +kernel
theorem dX8_canSend_48 : decode cX8_canSend 48 = .ok (.iload_n 2, 1) := by decide +kernel
theorem dX8_canSend_49 : decode cX8_canSend 49 = .ok (.invokevirtual 141, 3) := by decide +kernel
theorem dX8_canSend_52 : decode cX8_canSend 52 = .ok (.ifCond .eq 7, 3) := by decide +kernel
theorem dX8_canSend_55 : decode cX8_canSend 55 = .ok (.iconst 1, 1) := by decide +kernel
theorem dX8_canSend_56 : decode cX8_canSend 56 = .ok (.goto 4, 3) := by decide +kernel
theorem dX8_canSend_59 : decode cX8_canSend 59 = .ok (.iconst 0, 1) := by decide +kernel
theorem dX8_canSend_60 : decode cX8_canSend 60 = .ok (.ireturn, 1) := by decide +kernel
theorem dX8_stampsMissing_0 : decode cX8_stampsMissing 0 = .ok (.aload_n 0, 1) := by decide +kernel
theorem dX8_stampsMissing_1 : decode cX8_stampsMissing 1 = .ok (.iconst 0, 1) := by decide +kernel
theorem dX8_stampsMissing_2 : decode cX8_stampsMissing 2 = .ok (.putfield 54, 3) := by decide +kernel
theorem dX8_stampsMissing_5 : decode cX8_stampsMissing 5 = .ok (.aload_n 0, 1) := by decide +kernel
theorem dX8_stampsMissing_6 : decode cX8_stampsMissing 6 = .ok (.iload_n 1, 1) := by decide +kernel
theorem dX8_stampsMissing_7 : decode cX8_stampsMissing 7 = .ok (.invokevirtual 138, 3) := by decide +kernel
theorem dX8_stampsMissing_10 : decode cX8_stampsMissing 10 = .ok (.istore_n 2, 1) := by decide +kernel
theorem dX8_stampsMissing_11 : decode cX8_stampsMissing 11 = .ok (.iload_n 2, 1) := by decide +kernel
theorem dX8_stampsMissing_12 : decode cX8_stampsMissing 12 = .ok (.iconst (-1), 1) := by decide +kernel
theorem dX8_stampsMissing_13 : decode cX8_stampsMissing 13 = .ok (.if_icmp .ne 8, 3) := by decide +kernel
theorem dX8_stampsMissing_16 : decode cX8_stampsMissing 16 = .ok (.ldc 71, 2) := by decide +kernel
theorem dX8_stampsMissing_18 : decode cX8_stampsMissing 18 = .ok (.goto 23, 3) := by decide +kernel
theorem dX8_stampsMissing_21 : decode cX8_stampsMissing 21 = .ok (.aload_n 0, 1) := by decide +kernel
theorem dX8_stampsMissing_22 : decode cX8_stampsMissing 22 = .ok (.aload_n 0, 1) := by decide +kernel
theorem dX8_stampsMissing_23 : decode cX8_stampsMissing 23 = .ok (.iload_n 2, 1) := by decide +kernel
theorem dX8_stampsMissing_24 : decode cX8_stampsMissing 24 = .ok (.invokevirtual 86, 3) := by decide +kernel
theorem dX8_stampsMissing_27 : decode cX8_stampsMissing 27 = .ok (.aload_n 0, 1) := by decide +kernel
theorem dX8_stampsMissing_28 : decode cX8_stampsMissing 28 = .ok (.getfield 9, 3) := by decide +kernel
theorem dX8_stampsMissing_31 : decode cX8_stampsMissing 31 = .ok (.iload_n 2, 1) := by decide +kernel
theorem dX8_stampsMissing_32 : decode cX8_stampsMissing 32 = .ok (.invokestatic 64, 3) := by decide +kernel
theorem dX8_stampsMissing_35 : decode cX8_stampsMissing 35 = .ok (.iconst 1, 1) := by decide +kernel
theorem dX8_stampsMissing_36 : decode cX8_stampsMissing 36 = .ok (.iadd, 1) := by decide +kernel
theorem dX8_stampsMissing_37 : decode cX8_stampsMissing 37 = .ok (.iaload, 1) := by decide +kernel
theorem dX8_stampsMissing_38 : decode cX8_stampsMissing 38 = .ok (.invokevirtual 191, 3) := by decide +kernel
theorem dX8_stampsMissing_41 : decode cX8_stampsMissing 41 = .ok (.istore_n 3, 1) := by decide +kernel
theorem dX8_stampsMissing_42 : decode cX8_stampsMissing 42 = .ok (.iload_n 3, 1) := by decide +kernel
theorem dX8_stampsMissing_43 : decode cX8_stampsMissing 43 = .ok (.ldc 71, 2) := by decide +kernel
theorem dX8_stampsMissing_45 : decode cX8_stampsMissing 45 = .ok (.if_icmp .lt 11, 3) := by decide +kernel
theorem dX8_stampsMissing_48 : decode cX8_stampsMissing 48 = .ok (.aload_n 0, 1) := by decide +kernel
theorem dX8_stampsMissing_49 : decode cX8_stampsMissing 49 = .ok (.iconst 1, 1) := by decide +kernel
theorem dX8_stampsMissing_50 : decode cX8_stampsMissing 50 = .ok (.invokevirtual 96, 3) := by decide +kernel
theorem dX8_stampsMissing_53 : decode cX8_stampsMissing 53 = .ok (.goto 20, 3) := by decide +kernel
theorem dX8_stampsMissing_56 : decode cX8_stampsMissing 56 = .ok (.iconst 0, 1) := by decide +kernel
theorem dX8_stampsMissing_57 : decode cX8_stampsMissing 57 = .ok (.iload_n 3, 1) := by decide +kernel
theorem dX8_stampsMissing_58 : decode cX8_stampsMissing 58 = .ok (.aload_n 0, 1) := by decide +kernel
theorem dX8_stampsMissing_59 : decode cX8_stampsMissing 59 = .ok (.getfield 9, 3) := by decide +kernel
theorem dX8_stampsMissing_62 : decode cX8_stampsMissing 62 = .ok (.iload_n 2, 1) := by decide +kernel
theorem dX8_stampsMissing_63 : decode cX8_stampsMissing 63 = .ok (.invokestatic 64, 3) := by decide +kernel
theorem dX8_stampsMissing_66 : decode cX8_stampsMissing 66 = .ok (.iconst 3, 1) := by decide +kernel
theorem dX8_stampsMissing_67 : decode cX8_stampsMissing 67 = .ok (.iadd, 1) := by decide +kernel
theorem dX8_stampsMissing_68 : decode cX8_stampsMissing 68 = .ok (.iaload, 1) := by decide +kernel
theorem dX8_stampsMissing_69 : decode cX8_stampsMissing 69 = .ok (.isub, 1) := by decide +kernel
theorem dX8_stampsMissing_70 : decode cX8_stampsMissing 70 = .ok (.invokestatic 194, 3) := by decide +kernel
theorem dX8_stampsMissing_73 : decode cX8_stampsMissing 73 = .ok (.ireturn, 1) := by decide +kernel
theorem dX8_parcelByForecast_0 : decode cX8_parcelByForecast 0 = .ok (.aload_n 0, 1) := by decide +kernel
theorem dX8_parcelByForecast_1 : decode cX8_parcelByForecast 1 = .ok (.iconst 0, 1) := by decide +kernel
theorem dX8_parcelByForecast_2 : decode cX8_parcelByForecast 2 = .ok (.putfield 54, 3) := by decide +kernel
theorem dX8_parcelByForecast_5 : decode cX8_parcelByForecast 5 = .ok (.iconst 0, 1) := by decide +kernel
theorem dX8_parcelByForecast_6 : decode cX8_parcelByForecast 6 = .ok (.istore_n 2, 1) := by decide +kernel
theorem dX8_parcelByForecast_7 : decode cX8_parcelByForecast 7 = .ok (.iload_n 2, 1) := by decide +kernel
theorem dX8_parcelByForecast_8 : decode cX8_parcelByForecast 8 = .ok (.aload_n 0, 1) := by decide +kernel
theorem dX8_parcelByForecast_9 : decode cX8_parcelByForecast 9 = .ok (.getfield 9, 3) := by decide +kernel
theorem dX8_parcelByForecast_12 : decode cX8_parcelByForecast 12 = .ok (.iconst 2, 1) := by decide +kernel
theorem dX8_parcelByForecast_13 : decode cX8_parcelByForecast 13 = .ok (.iaload, 1) := by decide +kernel
theorem dX8_parcelByForecast_14 : decode cX8_parcelByForecast 14 = .ok (.if_icmp .ge 20, 3) := by decide +kernel
theorem dX8_parcelByForecast_17 : decode cX8_parcelByForecast 17 = .ok (.aload_n 0, 1) := by decide +kernel
theorem dX8_parcelByForecast_18 : decode cX8_parcelByForecast 18 = .ok (.getfield 38, 3) := by decide +kernel
theorem dX8_parcelByForecast_21 : decode cX8_parcelByForecast 21 = .ok (.iload_n 2, 1) := by decide +kernel
theorem dX8_parcelByForecast_22 : decode cX8_parcelByForecast 22 = .ok (.aload_n 0, 1) := by decide +kernel
theorem dX8_parcelByForecast_23 : decode cX8_parcelByForecast 23 = .ok (.iload_n 2, 1) := by decide +kernel
theorem dX8_parcelByForecast_24 : decode cX8_parcelByForecast 24 = .ok (.invokevirtual 93, 3) := by decide +kernel
theorem dX8_parcelByForecast_27 : decode cX8_parcelByForecast 27 = .ok (.iastore, 1) := by decide +kernel
theorem dX8_parcelByForecast_28 : decode cX8_parcelByForecast 28 = .ok (.iinc 2 1, 3) := by decide +kernel
theorem dX8_parcelByForecast_31 : decode cX8_parcelByForecast 31 = .ok (.goto (-24), 3) := by decide +kernel
theorem dX8_parcelByForecast_34 : decode cX8_parcelByForecast 34 = .ok (.iconst 0, 1) := by decide +kernel
theorem dX8_parcelByForecast_35 : decode cX8_parcelByForecast 35 = .ok (.istore_n 2, 1) := by decide +kernel
theorem dX8_parcelByForecast_36 : decode cX8_parcelByForecast 36 = .ok (.iload_n 2, 1) := by decide +kernel
theorem dX8_parcelByForecast_37 : decode cX8_parcelByForecast 37 = .ok (.aload_n 0, 1) := by decide +kernel
theorem dX8_parcelByForecast_38 : decode cX8_parcelByForecast 38 = .ok (.getfield 9, 3) := by decide +kernel
theorem dX8_parcelByForecast_41 : decode cX8_parcelByForecast 41 = .ok (.iconst 2, 1) := by decide +kernel
theorem dX8_parcelByForecast_42 : decode cX8_parcelByForecast 42 = .ok (.iaload, 1) := by decide +kernel
theorem dX8_parcelByForecast_43 : decode cX8_parcelByForecast 43 = .ok (.if_icmp .ge 92, 3) := by decide +kernel
theorem dX8_parcelByForecast_46 : decode cX8_parcelByForecast 46 = .ok (.iconst 0, 1) := by decide +kernel
theorem dX8_parcelByForecast_47 : decode cX8_parcelByForecast 47 = .ok (.istore_n 3, 1) := by decide +kernel
theorem dX8_parcelByForecast_48 : decode cX8_parcelByForecast 48 = .ok (.iconst 0, 1) := by decide +kernel
theorem dX8_parcelByForecast_49 : decode cX8_parcelByForecast 49 = .ok (.istore 4, 2) := by decide +kernel
theorem dX8_parcelByForecast_51 : decode cX8_parcelByForecast 51 = .ok (.iload 4, 2) := by decide +kernel
theorem dX8_parcelByForecast_53 : decode cX8_parcelByForecast 53 = .ok (.aload_n 0, 1) := by decide +kernel
theorem dX8_parcelByForecast_54 : decode cX8_parcelByForecast 54 = .ok (.getfield 9, 3) := by decide +kernel
theorem dX8_parcelByForecast_57 : decode cX8_parcelByForecast 57 = .ok (.iconst 2, 1) := by decide +kernel
theorem dX8_parcelByForecast_58 : decode cX8_parcelByForecast 58 = .ok (.iaload, 1) := by decide +kernel
theorem dX8_parcelByForecast_59 : decode cX8_parcelByForecast 59 = .ok (.if_icmp .ge 55, 3) := by decide +kernel
theorem dX8_parcelByForecast_62 : decode cX8_parcelByForecast 62 = .ok (.iload_n 3, 1) := by decide +kernel
theorem dX8_parcelByForecast_63 : decode cX8_parcelByForecast 63 = .ok (.aload_n 0, 1) := by decide +kernel
theorem dX8_parcelByForecast_64 : decode cX8_parcelByForecast 64 = .ok (.getfield 38, 3) := by decide +kernel
theorem dX8_parcelByForecast_67 : decode cX8_parcelByForecast 67 = .ok (.iload 4, 2) := by decide +kernel
theorem dX8_parcelByForecast_69 : decode cX8_parcelByForecast 69 = .ok (.iaload, 1) := by decide +kernel
theorem dX8_parcelByForecast_70 : decode cX8_parcelByForecast 70 = .ok (.aload_n 0, 1) := by decide +kernel
theorem dX8_parcelByForecast_71 : decode cX8_parcelByForecast 71 = .ok (.getfield 38, 3) := by decide +kernel
theorem dX8_parcelByForecast_74 : decode cX8_parcelByForecast 74 = .ok (.iload_n 2, 1) := by decide +kernel
theorem dX8_parcelByForecast_75 : decode cX8_parcelByForecast 75 = .ok (.iaload, 1) := by decide +kernel
theorem dX8_parcelByForecast_76 : decode cX8_parcelByForecast 76 = .ok (.if_icmp .lt 25, 3) := by decide +kernel
theorem dX8_parcelByForecast_79 : decode cX8_parcelByForecast 79 = .ok (.aload_n 0, 1) := by decide +kernel
theorem dX8_parcelByForecast_80 : decode cX8_parcelByForecast 80 = .ok (.getfield 38, 3) := by decide +kernel
theorem dX8_parcelByForecast_83 : decode cX8_parcelByForecast 83 = .ok (.iload 4, 2) := by decide +kernel
theorem dX8_parcelByForecast_85 : decode cX8_parcelByForecast 85 = .ok (.iaload, 1) := by decide +kernel
theorem dX8_parcelByForecast_86 : decode cX8_parcelByForecast 86 = .ok (.aload_n 0, 1) := by decide +kernel
theorem dX8_parcelByForecast_87 : decode cX8_parcelByForecast 87 = .ok (.getfield 38, 3) := by decide +kernel
theorem dX8_parcelByForecast_90 : decode cX8_parcelByForecast 90 = .ok (.iload_n 2, 1) := by decide +kernel
theorem dX8_parcelByForecast_91 : decode cX8_parcelByForecast 91 = .ok (.iaload, 1) := by decide +kernel
theorem dX8_parcelByForecast_92 : decode cX8_parcelByForecast 92 = .ok (.if_icmp .ne 13, 3) := by decide +kernel
theorem dX8_parcelByForecast_95 : decode cX8_parcelByForecast 95 = .ok (.iload 4, 2) := by decide +kernel
theorem dX8_parcelByForecast_97 : decode cX8_parcelByForecast 97 = .ok (.iload_n 2, 1) := by decide +kernel
theorem dX8_parcelByForecast_98 : decode cX8_parcelByForecast 98 = .ok (.if_icmp .ge 7, 3) := by decide +kernel
theorem dX8_parcelByForecast_101 : decode cX8_parcelByForecast 101 = .ok (.iconst 1, 1) := by decide +kernel
theorem dX8_parcelByForecast_102 : decode cX8_parcelByForecast 102 = .ok (.goto 4, 3) := by decide +kernel
theorem dX8_parcelByForecast_105 : decode cX8_parcelByForecast 105 = .ok (.iconst 0, 1) := by decide +kernel
theorem dX8_parcelByForecast_106 : decode cX8_parcelByForecast 106 = .ok (.iadd, 1) := by decide +kernel
theorem dX8_parcelByForecast_107 : decode cX8_parcelByForecast 107 = .ok (.istore_n 3, 1) := by decide +kernel
theorem dX8_parcelByForecast_108 : decode cX8_parcelByForecast 108 = .ok (.iinc 4 1, 3) := by decide +kernel
theorem dX8_parcelByForecast_111 : decode cX8_parcelByForecast 111 = .ok (.goto (-60), 3) := by decide +kernel
theorem dX8_parcelByForecast_114 : decode cX8_parcelByForecast 114 = .ok (.iload_n 3, 1) := by decide +kernel
theorem dX8_parcelByForecast_115 : decode cX8_parcelByForecast 115 = .ok (.iload_n 1, 1) := by decide +kernel
theorem dX8_parcelByForecast_116 : decode cX8_parcelByForecast 116 = .ok (.if_icmp .ne 13, 3) := by decide +kernel
theorem dX8_parcelByForecast_119 : decode cX8_parcelByForecast 119 = .ok (.aload_n 0, 1) := by decide +kernel
theorem dX8_parcelByForecast_120 : decode cX8_parcelByForecast 120 = .ok (.getfield 9, 3) := by decide +kernel
theorem dX8_parcelByForecast_123 : decode cX8_parcelByForecast 123 = .ok (.iload_n 2, 1) := by decide +kernel
theorem dX8_parcelByForecast_124 : decode cX8_parcelByForecast 124 = .ok (.invokestatic 64, 3) := by decide +kernel
theorem dX8_parcelByForecast_127 : decode cX8_parcelByForecast 127 = .ok (.iaload, 1) := by decide +kernel
theorem dX8_parcelByForecast_128 : decode cX8_parcelByForecast 128 = .ok (.ireturn, 1) := by decide +kernel
theorem dX8_parcelByForecast_129 : decode cX8_parcelByForecast 129 = .ok (.iinc 2 1, 3) := by decide +kernel
theorem dX8_parcelByForecast_132 : decode cX8_parcelByForecast 132 = .ok (.goto (-96), 3) := by decide +kernel
theorem dX8_parcelByForecast_135 : decode cX8_parcelByForecast 135 = .ok (.aload_n 0, 1) := by decide +kernel
theorem dX8_parcelByForecast_136 : decode cX8_parcelByForecast 136 = .ok (.iconst 1, 1) := by decide +kernel
theorem dX8_parcelByForecast_137 : decode cX8_parcelByForecast 137 = .ok (.invokevirtual 96, 3) := by decide +kernel
theorem dX8_parcelByForecast_140 : decode cX8_parcelByForecast 140 = .ok (.ireturn, 1) := by decide +kernel
theorem dX8_arrivalsWithin_0 : decode cX8_arrivalsWithin 0 = .ok (.aload_n 0, 1) := by decide +kernel
theorem dX8_arrivalsWithin_1 : decode cX8_arrivalsWithin 1 = .ok (.iconst 0, 1) := by decide +kernel
theorem dX8_arrivalsWithin_2 : decode cX8_arrivalsWithin 2 = .ok (.putfield 54, 3) := by decide +kernel
theorem dX8_arrivalsWithin_5 : decode cX8_arrivalsWithin 5 = .ok (.iload_n 1, 1) := by decide +kernel
theorem dX8_arrivalsWithin_6 : decode cX8_arrivalsWithin 6 = .ok (.i2l, 1) := by decide +kernel
theorem dX8_arrivalsWithin_7 : decode cX8_arrivalsWithin 7 = .ok (.lconst 1, 1) := by decide +kernel
theorem dX8_arrivalsWithin_8 : decode cX8_arrivalsWithin 8 = .ok (.ldc2_w 166, 3) := by decide +kernel
theorem dX8_arrivalsWithin_11 : decode cX8_arrivalsWithin 11 = .ok (.invokestatic 60, 3) := by decide +kernel
theorem dX8_arrivalsWithin_14 : decode cX8_arrivalsWithin 14 = .ok (.ifCond .ne 9, 3) := by decide +kernel
theorem dX8_arrivalsWithin_17 : decode cX8_arrivalsWithin 17 = .ok (.aload_n 0, 1) := by decide +kernel
theorem dX8_arrivalsWithin_18 : decode cX8_arrivalsWithin 18 = .ok (.iconst 1, 1) := by decide +kernel
theorem dX8_arrivalsWithin_19 : decode cX8_arrivalsWithin 19 = .ok (.invokevirtual 96, 3) := by decide +kernel
theorem dX8_arrivalsWithin_22 : decode cX8_arrivalsWithin 22 = .ok (.ireturn, 1) := by decide +kernel
theorem dX8_arrivalsWithin_23 : decode cX8_arrivalsWithin 23 = .ok (.iconst 0, 1) := by decide +kernel
theorem dX8_arrivalsWithin_24 : decode cX8_arrivalsWithin 24 = .ok (.istore_n 2, 1) := by decide +kernel
theorem dX8_arrivalsWithin_25 : decode cX8_arrivalsWithin 25 = .ok (.iconst 0, 1) := by decide +kernel
theorem dX8_arrivalsWithin_26 : decode cX8_arrivalsWithin 26 = .ok (.istore_n 3, 1) := by decide +kernel
theorem dX8_arrivalsWithin_27 : decode cX8_arrivalsWithin 27 = .ok (.iload_n 3, 1) := by decide +kernel
theorem dX8_arrivalsWithin_28 : decode cX8_arrivalsWithin 28 = .ok (.aload_n 0, 1) := by decide +kernel
theorem dX8_arrivalsWithin_29 : decode cX8_arrivalsWithin 29 = .ok (.getfield 9, 3) := by decide +kernel
theorem dX8_arrivalsWithin_32 : decode cX8_arrivalsWithin 32 = .ok (.iconst 2, 1) := by decide +kernel
theorem dX8_arrivalsWithin_33 : decode cX8_arrivalsWithin 33 = .ok (.iaload, 1) := by decide +kernel
theorem dX8_arrivalsWithin_34 : decode cX8_arrivalsWithin 34 = .ok (.if_icmp .ge 55, 3) := by decide +kernel
theorem dX8_arrivalsWithin_37 : decode cX8_arrivalsWithin 37 = .ok (.iload_n 2, 1) := by decide +kernel
theorem dX8_arrivalsWithin_38 : decode cX8_arrivalsWithin 38 = .ok (.aload_n 0, 1) := by decide +kernel
theorem dX8_arrivalsWithin_39 : decode cX8_arrivalsWithin 39 = .ok (.getfield 9, 3) := by decide +kernel
theorem dX8_arrivalsWithin_42 : decode cX8_arrivalsWithin 42 = .ok (.iload_n 3, 1) := by decide +kernel
theorem dX8_arrivalsWithin_43 : decode cX8_arrivalsWithin 43 = .ok (.invokestatic 64, 3) := by decide +kernel
theorem dX8_arrivalsWithin_46 : decode cX8_arrivalsWithin 46 = .ok (.iconst 4, 1) := by decide +kernel
theorem dX8_arrivalsWithin_47 : decode cX8_arrivalsWithin 47 = .ok (.iadd, 1) := by decide +kernel
theorem dX8_arrivalsWithin_48 : decode cX8_arrivalsWithin 48 = .ok (.iaload, 1) := by decide +kernel
theorem dX8_arrivalsWithin_49 : decode cX8_arrivalsWithin 49 = .ok (.iconst (-1), 1) := by decide +kernel
theorem dX8_arrivalsWithin_50 : decode cX8_arrivalsWithin 50 = .ok (.if_icmp .ne 30, 3) := by decide +kernel
theorem dX8_arrivalsWithin_53 : decode cX8_arrivalsWithin 53 = .ok (.aload_n 0, 1) := by decide +kernel
theorem dX8_arrivalsWithin_54 : decode cX8_arrivalsWithin 54 = .ok (.getfield 9, 3) := by decide +kernel
theorem dX8_arrivalsWithin_57 : decode cX8_arrivalsWithin 57 = .ok (.iload_n 3, 1) := by decide +kernel
theorem dX8_arrivalsWithin_58 : decode cX8_arrivalsWithin 58 = .ok (.invokestatic 64, 3) := by decide +kernel
theorem dX8_arrivalsWithin_61 : decode cX8_arrivalsWithin 61 = .ok (.bipush 6, 2) := by decide +kernel
theorem dX8_arrivalsWithin_63 : decode cX8_arrivalsWithin 63 = .ok (.iadd, 1) := by decide +kernel
theorem dX8_arrivalsWithin_64 : decode cX8_arrivalsWithin 64 = .ok (.iaload, 1) := by decide +kernel
theorem dX8_arrivalsWithin_65 : decode cX8_arrivalsWithin 65 = .ok (.aload_n 0, 1) := by decide +kernel
theorem dX8_arrivalsWithin_66 : decode cX8_arrivalsWithin 66 = .ok (.getfield 9, 3) := by decide +kernel
theorem dX8_arrivalsWithin_69 : decode cX8_arrivalsWithin 69 = .ok (.iconst 4, 1) := by decide +kernel
theorem dX8_arrivalsWithin_70 : decode cX8_arrivalsWithin 70 = .ok (.iaload, 1) := by decide +kernel
theorem dX8_arrivalsWithin_71 : decode cX8_arrivalsWithin 71 = .ok (.iload_n 1, 1) := by decide +kernel
theorem dX8_arrivalsWithin_72 : decode cX8_arrivalsWithin 72 = .ok (.iadd, 1) := by decide +kernel
theorem dX8_arrivalsWithin_73 : decode cX8_arrivalsWithin 73 = .ok (.if_icmp .gt 7, 3) := by decide +kernel
theorem dX8_arrivalsWithin_76 : decode cX8_arrivalsWithin 76 = .ok (.iconst 1, 1) := by decide +kernel
theorem dX8_arrivalsWithin_77 : decode cX8_arrivalsWithin 77 = .ok (.goto 4, 3) := by decide +kernel
theorem dX8_arrivalsWithin_80 : decode cX8_arrivalsWithin 80 = .ok (.iconst 0, 1) := by decide +kernel
theorem dX8_arrivalsWithin_81 : decode cX8_arrivalsWithin 81 = .ok (.iadd, 1) := by decide +kernel
theorem dX8_arrivalsWithin_82 : decode cX8_arrivalsWithin 82 = .ok (.istore_n 2, 1) := by decide +kernel
theorem dX8_arrivalsWithin_83 : decode cX8_arrivalsWithin 83 = .ok (.iinc 3 1, 3) := by decide +kernel
theorem dX8_arrivalsWithin_86 : decode cX8_arrivalsWithin 86 = .ok (.goto (-59), 3) := by decide +kernel
theorem dX8_arrivalsWithin_89 : decode cX8_arrivalsWithin 89 = .ok (.iload_n 2, 1) := by decide +kernel
theorem dX8_arrivalsWithin_90 : decode cX8_arrivalsWithin 90 = .ok (.ireturn, 1) := by decide +kernel
theorem dX8_deliveredIf_0 : decode cX8_deliveredIf 0 = .ok (.aload_n 0, 1) := by decide +kernel
theorem dX8_deliveredIf_1 : decode cX8_deliveredIf 1 = .ok (.iconst 0, 1) := by decide +kernel
theorem dX8_deliveredIf_2 : decode cX8_deliveredIf 2 = .ok (.putfield 54, 3) := by decide +kernel
theorem dX8_deliveredIf_5 : decode cX8_deliveredIf 5 = .ok (.iload_n 1, 1) := by decide +kernel
theorem dX8_deliveredIf_6 : decode cX8_deliveredIf 6 = .ok (.i2l, 1) := by decide +kernel
theorem dX8_deliveredIf_7 : decode cX8_deliveredIf 7 = .ok (.lconst 1, 1) := by decide +kernel
theorem dX8_deliveredIf_8 : decode cX8_deliveredIf 8 = .ok (.ldc2_w 197, 3) := by decide +kernel
theorem dX8_deliveredIf_11 : decode cX8_deliveredIf 11 = .ok (.invokestatic 60, 3) := by decide +kernel
theorem dX8_deliveredIf_14 : decode cX8_deliveredIf 14 = .ok (.ifCond .ne 9, 3) := by decide +kernel
theorem dX8_deliveredIf_17 : decode cX8_deliveredIf 17 = .ok (.aload_n 0, 1) := by decide +kernel
theorem dX8_deliveredIf_18 : decode cX8_deliveredIf 18 = .ok (.iconst 1, 1) := by decide +kernel
theorem dX8_deliveredIf_19 : decode cX8_deliveredIf 19 = .ok (.invokevirtual 96, 3) := by decide +kernel
theorem dX8_deliveredIf_22 : decode cX8_deliveredIf 22 = .ok (.ireturn, 1) := by decide +kernel
theorem dX8_deliveredIf_23 : decode cX8_deliveredIf 23 = .ok (.iconst 0, 1) := by decide +kernel
theorem dX8_deliveredIf_24 : decode cX8_deliveredIf 24 = .ok (.istore_n 2, 1) := by decide +kernel
theorem dX8_deliveredIf_25 : decode cX8_deliveredIf 25 = .ok (.iload_n 2, 1) := by decide +kernel
theorem dX8_deliveredIf_26 : decode cX8_deliveredIf 26 = .ok (.sipush 192, 3) := by decide +kernel
theorem dX8_deliveredIf_29 : decode cX8_deliveredIf 29 = .ok (.if_icmp .ge 21, 3) := by decide +kernel
theorem dX8_deliveredIf_32 : decode cX8_deliveredIf 32 = .ok (.aload_n 0, 1) := by decide +kernel
theorem dX8_deliveredIf_33 : decode cX8_deliveredIf 33 = .ok (.getfield 16, 3) := by decide +kernel
theorem dX8_deliveredIf_36 : decode cX8_deliveredIf 36 = .ok (.iload_n 2, 1) := by decide +kernel
theorem dX8_deliveredIf_37 : decode cX8_deliveredIf 37 = .ok (.aload_n 0, 1) := by decide +kernel
theorem dX8_deliveredIf_38 : decode cX8_deliveredIf 38 = .ok (.getfield 9, 3) := by decide +kernel
theorem dX8_deliveredIf_41 : decode cX8_deliveredIf 41 = .ok (.iload_n 2, 1) := by decide +kernel
theorem dX8_deliveredIf_42 : decode cX8_deliveredIf 42 = .ok (.iaload, 1) := by decide +kernel
theorem dX8_deliveredIf_43 : decode cX8_deliveredIf 43 = .ok (.iastore, 1) := by decide +kernel
theorem dX8_deliveredIf_44 : decode cX8_deliveredIf 44 = .ok (.iinc 2 1, 3) := by decide +kernel
theorem dX8_deliveredIf_47 : decode cX8_deliveredIf 47 = .ok (.goto (-22), 3) := by decide +kernel
theorem dX8_deliveredIf_50 : decode cX8_deliveredIf 50 = .ok (.iconst 0, 1) := by decide +kernel
theorem dX8_deliveredIf_51 : decode cX8_deliveredIf 51 = .ok (.istore_n 2, 1) := by decide +kernel
theorem dX8_deliveredIf_52 : decode cX8_deliveredIf 52 = .ok (.iconst 0, 1) := by decide +kernel
theorem dX8_deliveredIf_53 : decode cX8_deliveredIf 53 = .ok (.istore_n 3, 1) := by decide +kernel
theorem dX8_deliveredIf_54 : decode cX8_deliveredIf 54 = .ok (.iload_n 3, 1) := by decide +kernel
theorem dX8_deliveredIf_55 : decode cX8_deliveredIf 55 = .ok (.iload_n 1, 1) := by decide +kernel
theorem dX8_deliveredIf_56 : decode cX8_deliveredIf 56 = .ok (.if_icmp .ge 21, 3) := by decide +kernel
theorem dX8_deliveredIf_59 : decode cX8_deliveredIf 59 = .ok (.aload_n 0, 1) := by decide +kernel
theorem dX8_deliveredIf_60 : decode cX8_deliveredIf 60 = .ok (.invokevirtual 163, 3) := by decide +kernel
theorem dX8_deliveredIf_63 : decode cX8_deliveredIf 63 = .ok (.pop, 1) := by decide +kernel
theorem dX8_deliveredIf_64 : decode cX8_deliveredIf 64 = .ok (.iload_n 2, 1) := by decide +kernel
theorem dX8_deliveredIf_65 : decode cX8_deliveredIf 65 = .ok (.aload_n 0, 1) := by decide +kernel
theorem dX8_deliveredIf_66 : decode cX8_deliveredIf 66 = .ok (.invokevirtual 168, 3) := by decide +kernel
theorem dX8_deliveredIf_69 : decode cX8_deliveredIf 69 = .ok (.iadd, 1) := by decide +kernel
theorem dX8_deliveredIf_70 : decode cX8_deliveredIf 70 = .ok (.istore_n 2, 1) := by decide +kernel
theorem dX8_deliveredIf_71 : decode cX8_deliveredIf 71 = .ok (.iinc 3 1, 3) := by decide +kernel
theorem dX8_deliveredIf_74 : decode cX8_deliveredIf 74 = .ok (.goto (-20), 3) := by decide +kernel
theorem dX8_deliveredIf_77 : decode cX8_deliveredIf 77 = .ok (.iconst 0, 1) := by decide +kernel
theorem dX8_deliveredIf_78 : decode cX8_deliveredIf 78 = .ok (.istore_n 3, 1) := by decide +kernel
theorem dX8_deliveredIf_79 : decode cX8_deliveredIf 79 = .ok (.iload_n 3, 1) := by decide +kernel
theorem dX8_deliveredIf_80 : decode cX8_deliveredIf 80 = .ok (.sipush 192, 3) := by decide +kernel
theorem dX8_deliveredIf_83 : decode cX8_deliveredIf 83 = .ok (.if_icmp .ge 21, 3) := by decide +kernel
theorem dX8_deliveredIf_86 : decode cX8_deliveredIf 86 = .ok (.aload_n 0, 1) := by decide +kernel
theorem dX8_deliveredIf_87 : decode cX8_deliveredIf 87 = .ok (.getfield 9, 3) := by decide +kernel
theorem dX8_deliveredIf_90 : decode cX8_deliveredIf 90 = .ok (.iload_n 3, 1) := by decide +kernel
theorem dX8_deliveredIf_91 : decode cX8_deliveredIf 91 = .ok (.aload_n 0, 1) := by decide +kernel
theorem dX8_deliveredIf_92 : decode cX8_deliveredIf 92 = .ok (.getfield 16, 3) := by decide +kernel
theorem dX8_deliveredIf_95 : decode cX8_deliveredIf 95 = .ok (.iload_n 3, 1) := by decide +kernel
theorem dX8_deliveredIf_96 : decode cX8_deliveredIf 96 = .ok (.iaload, 1) := by decide +kernel
theorem dX8_deliveredIf_97 : decode cX8_deliveredIf 97 = .ok (.iastore, 1) := by decide +kernel
theorem dX8_deliveredIf_98 : decode cX8_deliveredIf 98 = .ok (.iinc 3 1, 3) := by decide +kernel
theorem dX8_deliveredIf_101 : decode cX8_deliveredIf 101 = .ok (.goto (-22), 3) := by decide +kernel
theorem dX8_deliveredIf_104 : decode cX8_deliveredIf 104 = .ok (.iload_n 2, 1) := by decide +kernel
theorem dX8_deliveredIf_105 : decode cX8_deliveredIf 105 = .ok (.ireturn, 1) := by decide +kernel
theorem dX8_postedTotal_0 : decode cX8_postedTotal 0 = .ok (.aload_n 0, 1) := by decide +kernel
theorem dX8_postedTotal_1 : decode cX8_postedTotal 1 = .ok (.iconst 3, 1) := by decide +kernel
theorem dX8_postedTotal_2 : decode cX8_postedTotal 2 = .ok (.invokevirtual 174, 3) := by decide +kernel
theorem dX8_postedTotal_5 : decode cX8_postedTotal 5 = .ok (.ireturn, 1) := by decide +kernel
theorem dX8_deliveredTotal_0 : decode cX8_deliveredTotal 0 = .ok (.aload_n 0, 1) := by decide +kernel
theorem dX8_deliveredTotal_1 : decode cX8_deliveredTotal 1 = .ok (.iconst 5, 1) := by decide +kernel
theorem dX8_deliveredTotal_2 : decode cX8_deliveredTotal 2 = .ok (.invokevirtual 174, 3) := by decide +kernel
theorem dX8_deliveredTotal_5 : decode cX8_deliveredTotal 5 = .ok (.ireturn, 1) := by decide +kernel
theorem dX8_takenBackTotal_0 : decode cX8_takenBackTotal 0 = .ok (.aload_n 0, 1) := by decide +kernel
theorem dX8_takenBackTotal_1 : decode cX8_takenBackTotal 1 = .ok (.bipush 6, 2) := by decide +kernel
theorem dX8_takenBackTotal_3 : decode cX8_takenBackTotal 3 = .ok (.invokevirtual 174, 3) := by decide +kernel
theorem dX8_takenBackTotal_6 : decode cX8_takenBackTotal 6 = .ok (.ireturn, 1) := by decide +kernel
theorem dX8_usedStamps_0 : decode cX8_usedStamps 0 = .ok (.aload_n 0, 1) := by decide +kernel
theorem dX8_usedStamps_1 : decode cX8_usedStamps 1 = .ok (.bipush 7, 2) := by decide +kernel
theorem dX8_usedStamps_3 : decode cX8_usedStamps 3 = .ok (.invokevirtual 174, 3) := by decide +kernel
theorem dX8_usedStamps_6 : decode cX8_usedStamps 6 = .ok (.ireturn, 1) := by decide +kernel
theorem dX8_meanStamps_0 : decode cX8_meanStamps 0 = .ok (.aload_n 0, 1) := by decide +kernel
theorem dX8_meanStamps_1 : decode cX8_meanStamps 1 = .ok (.iconst 0, 1) := by decide +kernel
theorem dX8_meanStamps_2 : decode cX8_meanStamps 2 = .ok (.putfield 54, 3) := by decide +kernel
theorem dX8_meanStamps_5 : decode cX8_meanStamps 5 = .ok (.aload_n 0, 1) := by decide +kernel
theorem dX8_meanStamps_6 : decode cX8_meanStamps 6 = .ok (.getfield 9, 3) := by decide +kernel
theorem dX8_meanStamps_9 : decode cX8_meanStamps 9 = .ok (.iconst 2, 1) := by decide +kernel
theorem dX8_meanStamps_10 : decode cX8_meanStamps 10 = .ok (.iaload, 1) := by decide +kernel
theorem dX8_meanStamps_11 : decode cX8_meanStamps 11 = .ok (.ifCond .ne 11, 3) := by decide +kernel
theorem dX8_meanStamps_14 : decode cX8_meanStamps 14 = .ok (.aload_n 0, 1) := by decide +kernel
theorem dX8_meanStamps_15 : decode cX8_meanStamps 15 = .ok (.iconst 1, 1) := by decide +kernel
theorem dX8_meanStamps_16 : decode cX8_meanStamps 16 = .ok (.invokevirtual 96, 3) := by decide +kernel
theorem dX8_meanStamps_19 : decode cX8_meanStamps 19 = .ok (.pop, 1) := by decide +kernel
theorem dX8_meanStamps_20 : decode cX8_meanStamps 20 = .ok (.dconst 0, 1) := by decide +kernel
theorem dX8_meanStamps_21 : decode cX8_meanStamps 21 = .ok (.dreturn, 1) := by decide +kernel
theorem dX8_meanStamps_22 : decode cX8_meanStamps 22 = .ok (.iconst 0, 1) := by decide +kernel
theorem dX8_meanStamps_23 : decode cX8_meanStamps 23 = .ok (.istore_n 1, 1) := by decide +kernel
theorem dX8_meanStamps_24 : decode cX8_meanStamps 24 = .ok (.iconst 0, 1) := by decide +kernel
theorem dX8_meanStamps_25 : decode cX8_meanStamps 25 = .ok (.istore_n 2, 1) := by decide +kernel
theorem dX8_meanStamps_26 : decode cX8_meanStamps 26 = .ok (.iload_n 2, 1) := by decide +kernel
theorem dX8_meanStamps_27 : decode cX8_meanStamps 27 = .ok (.aload_n 0, 1) := by decide +kernel
theorem dX8_meanStamps_28 : decode cX8_meanStamps 28 = .ok (.getfield 9, 3) := by decide +kernel
theorem dX8_meanStamps_31 : decode cX8_meanStamps 31 = .ok (.iconst 2, 1) := by decide +kernel
theorem dX8_meanStamps_32 : decode cX8_meanStamps 32 = .ok (.iaload, 1) := by decide +kernel
theorem dX8_meanStamps_33 : decode cX8_meanStamps 33 = .ok (.if_icmp .ge 23, 3) := by decide +kernel
theorem dX8_meanStamps_36 : decode cX8_meanStamps 36 = .ok (.iload_n 1, 1) := by decide +kernel
theorem dX8_meanStamps_37 : decode cX8_meanStamps 37 = .ok (.aload_n 0, 1) := by decide +kernel
theorem dX8_meanStamps_38 : decode cX8_meanStamps 38 = .ok (.getfield 9, 3) := by decide +kernel
theorem dX8_meanStamps_41 : decode cX8_meanStamps 41 = .ok (.iload_n 2, 1) := by decide +kernel
theorem dX8_meanStamps_42 : decode cX8_meanStamps 42 = .ok (.invokestatic 64, 3) := by decide +kernel
theorem dX8_meanStamps_45 : decode cX8_meanStamps 45 = .ok (.iconst 3, 1) := by decide +kernel
theorem dX8_meanStamps_46 : decode cX8_meanStamps 46 = .ok (.iadd, 1) := by decide +kernel
theorem dX8_meanStamps_47 : decode cX8_meanStamps 47 = .ok (.iaload, 1) := by decide +kernel
theorem dX8_meanStamps_48 : decode cX8_meanStamps 48 = .ok (.iadd, 1) := by decide +kernel
theorem dX8_meanStamps_49 : decode cX8_meanStamps 49 = .ok (.istore_n 1, 1) := by decide +kernel
theorem dX8_meanStamps_50 : decode cX8_meanStamps 50 = .ok (.iinc 2 1, 3) := by decide +kernel
theorem dX8_meanStamps_53 : decode cX8_meanStamps 53 = .ok (.goto (-27), 3) := by decide +kernel
theorem dX8_meanStamps_56 : decode cX8_meanStamps 56 = .ok (.iload_n 1, 1) := by decide +kernel
theorem dX8_meanStamps_57 : decode cX8_meanStamps 57 = .ok (.i2d, 1) := by decide +kernel
theorem dX8_meanStamps_58 : decode cX8_meanStamps 58 = .ok (.aload_n 0, 1) := by decide +kernel
theorem dX8_meanStamps_59 : decode cX8_meanStamps 59 = .ok (.getfield 9, 3) := by decide +kernel
theorem dX8_meanStamps_62 : decode cX8_meanStamps 62 = .ok (.iconst 2, 1) := by decide +kernel
theorem dX8_meanStamps_63 : decode cX8_meanStamps 63 = .ok (.iaload, 1) := by decide +kernel
theorem dX8_meanStamps_64 : decode cX8_meanStamps 64 = .ok (.i2d, 1) := by decide +kernel
theorem dX8_meanStamps_65 : decode cX8_meanStamps 65 = .ok (.ddiv, 1) := by decide +kernel
theorem dX8_meanStamps_66 : decode cX8_meanStamps 66 = .ok (.dreturn, 1) := by decide +kernel
theorem dX8_blockedShare_0 : decode cX8_blockedShare 0 = .ok (.aload_n 0, 1) := by decide +kernel
theorem dX8_blockedShare_1 : decode cX8_blockedShare 1 = .ok (.iconst 0, 1) := by decide +kernel
theorem dX8_blockedShare_2 : decode cX8_blockedShare 2 = .ok (.putfield 54, 3) := by decide +kernel
theorem dX8_blockedShare_5 : decode cX8_blockedShare 5 = .ok (.aload_n 0, 1) := by decide +kernel
theorem dX8_blockedShare_6 : decode cX8_blockedShare 6 = .ok (.getfield 9, 3) := by decide +kernel
theorem dX8_blockedShare_9 : decode cX8_blockedShare 9 = .ok (.iconst 1, 1) := by decide +kernel
theorem dX8_blockedShare_10 : decode cX8_blockedShare 10 = .ok (.iaload, 1) := by decide +kernel
theorem dX8_blockedShare_11 : decode cX8_blockedShare 11 = .ok (.ifCond .ne 11, 3) := by decide +kernel
theorem dX8_blockedShare_14 : decode cX8_blockedShare 14 = .ok (.aload_n 0, 1) := by decide +kernel
theorem dX8_blockedShare_15 : decode cX8_blockedShare 15 = .ok (.iconst 1, 1) := by decide +kernel
theorem dX8_blockedShare_16 : decode cX8_blockedShare 16 = .ok (.invokevirtual 96, 3) := by decide +kernel
theorem dX8_blockedShare_19 : decode cX8_blockedShare 19 = .ok (.pop, 1) := by decide +kernel
theorem dX8_blockedShare_20 : decode cX8_blockedShare 20 = .ok (.fconst 0, 1) := by decide +kernel
theorem dX8_blockedShare_21 : decode cX8_blockedShare 21 = .ok (.freturn, 1) := by decide +kernel
theorem dX8_blockedShare_22 : decode cX8_blockedShare 22 = .ok (.aload_n 0, 1) := by decide +kernel
theorem dX8_blockedShare_23 : decode cX8_blockedShare 23 = .ok (.invokevirtual 124, 3) := by decide +kernel
theorem dX8_blockedShare_26 : decode cX8_blockedShare 26 = .ok (.i2f, 1) := by decide +kernel
theorem dX8_blockedShare_27 : decode cX8_blockedShare 27 = .ok (.aload_n 0, 1) := by decide +kernel
theorem dX8_blockedShare_28 : decode cX8_blockedShare 28 = .ok (.getfield 9, 3) := by decide +kernel
theorem dX8_blockedShare_31 : decode cX8_blockedShare 31 = .ok (.iconst 1, 1) := by decide +kernel
theorem dX8_blockedShare_32 : decode cX8_blockedShare 32 = .ok (.iaload, 1) := by decide +kernel
theorem dX8_blockedShare_33 : decode cX8_blockedShare 33 = .ok (.i2f, 1) := by decide +kernel
theorem dX8_blockedShare_34 : decode cX8_blockedShare 34 = .ok (.fdiv, 1) := by decide +kernel
theorem dX8_blockedShare_35 : decode cX8_blockedShare 35 = .ok (.freturn, 1) := by decide +kernel
theorem dX8_isConsistent_0 : decode cX8_isConsistent 0 = .ok (.aload_n 0, 1) := by decide +kernel
theorem dX8_isConsistent_1 : decode cX8_isConsistent 1 = .ok (.iconst 0, 1) := by decide +kernel
theorem dX8_isConsistent_2 : decode cX8_isConsistent 2 = .ok (.putfield 54, 3) := by decide +kernel
theorem dX8_isConsistent_5 : decode cX8_isConsistent 5 = .ok (.iconst 1, 1) := by decide +kernel
theorem dX8_isConsistent_6 : decode cX8_isConsistent 6 = .ok (.ireturn, 1) := by decide +kernel
theorem dX8_sign_0 : decode cX8_sign 0 = .ok (.aload_n 0, 1) := by decide +kernel
theorem dX8_sign_1 : decode cX8_sign 1 = .ok (.getfield 41, 3) := by decide +kernel
theorem dX8_sign_4 : decode cX8_sign 4 = .ok (.aload_n 0, 1) := by decide +kernel
theorem dX8_sign_5 : decode cX8_sign 5 = .ok (.getfield 199, 3) := by decide +kernel
theorem dX8_sign_8 : decode cX8_sign 8 = .ok (.iload_n 1, 1) := by decide +kernel
theorem dX8_sign_9 : decode cX8_sign 9 = .ok (.iastore, 1) := by decide +kernel
theorem dX8_sign_10 : decode cX8_sign 10 = .ok (.aload_n 0, 1) := by decide +kernel
theorem dX8_sign_11 : decode cX8_sign 11 = .ok (.dup, 1) := by decide +kernel
theorem dX8_sign_12 : decode cX8_sign 12 = .ok (.getfield 199, 3) := by decide +kernel
theorem dX8_sign_15 : decode cX8_sign 15 = .ok (.iconst 1, 1) := by decide +kernel
theorem dX8_sign_16 : decode cX8_sign 16 = .ok (.iadd, 1) := by decide +kernel
theorem dX8_sign_17 : decode cX8_sign 17 = .ok (.putfield 199, 3) := by decide +kernel
theorem dX8_sign_20 : decode cX8_sign 20 = .ok (.return_, 1) := by decide +kernel
theorem dX8_writesNumber_0 : decode cX8_writesNumber 0 = .ok (.iconst 1, 1) := by decide +kernel
theorem dX8_writesNumber_1 : decode cX8_writesNumber 1 = .ok (.istore_n 2, 1) := by decide +kernel
theorem dX8_writesNumber_2 : decode cX8_writesNumber 2 = .ok (.iload_n 1, 1) := by decide +kernel
theorem dX8_writesNumber_3 : decode cX8_writesNumber 3 = .ok (.iload_n 2, 1) := by decide +kernel
theorem dX8_writesNumber_4 : decode cX8_writesNumber 4 = .ok (.idiv, 1) := by decide +kernel
theorem dX8_writesNumber_5 : decode cX8_writesNumber 5 = .ok (.bipush 9, 2) := by decide +kernel
theorem dX8_writesNumber_7 : decode cX8_writesNumber 7 = .ok (.if_icmp .le 11, 3) := by decide +kernel
theorem dX8_writesNumber_10 : decode cX8_writesNumber 10 = .ok (.iload_n 2, 1) := by decide +kernel
theorem dX8_writesNumber_11 : decode cX8_writesNumber 11 = .ok (.bipush 10, 2) := by decide +kernel
theorem dX8_writesNumber_13 : decode cX8_writesNumber 13 = .ok (.imul, 1) := by decide +kernel
theorem dX8_writesNumber_14 : decode cX8_writesNumber 14 = .ok (.istore_n 2, 1) := by decide +kernel
theorem dX8_writesNumber_15 : decode cX8_writesNumber 15 = .ok (.goto (-13), 3) := by decide +kernel
theorem dX8_writesNumber_18 : decode cX8_writesNumber 18 = .ok (.iload_n 2, 1) := by decide +kernel
theorem dX8_writesNumber_19 : decode cX8_writesNumber 19 = .ok (.ifCond .le 24, 3) := by decide +kernel
theorem dX8_writesNumber_22 : decode cX8_writesNumber 22 = .ok (.aload_n 0, 1) := by decide +kernel
theorem dX8_writesNumber_23 : decode cX8_writesNumber 23 = .ok (.bipush 48, 2) := by decide +kernel
theorem dX8_writesNumber_25 : decode cX8_writesNumber 25 = .ok (.iload_n 1, 1) := by decide +kernel
theorem dX8_writesNumber_26 : decode cX8_writesNumber 26 = .ok (.iload_n 2, 1) := by decide +kernel
theorem dX8_writesNumber_27 : decode cX8_writesNumber 27 = .ok (.idiv, 1) := by decide +kernel
theorem dX8_writesNumber_28 : decode cX8_writesNumber 28 = .ok (.bipush 10, 2) := by decide +kernel
theorem dX8_writesNumber_30 : decode cX8_writesNumber 30 = .ok (.irem, 1) := by decide +kernel
theorem dX8_writesNumber_31 : decode cX8_writesNumber 31 = .ok (.iadd, 1) := by decide +kernel
theorem dX8_writesNumber_32 : decode cX8_writesNumber 32 = .ok (.invokevirtual 202, 3) := by decide +kernel
theorem dX8_writesNumber_35 : decode cX8_writesNumber 35 = .ok (.iload_n 2, 1) := by decide +kernel
theorem dX8_writesNumber_36 : decode cX8_writesNumber 36 = .ok (.bipush 10, 2) := by decide +kernel
theorem dX8_writesNumber_38 : decode cX8_writesNumber 38 = .ok (.idiv, 1) := by decide +kernel
theorem dX8_writesNumber_39 : decode cX8_writesNumber 39 = .ok (.istore_n 2, 1) := by decide +kernel
theorem dX8_writesNumber_40 : decode cX8_writesNumber 40 = .ok (.goto (-22), 3) := by decide +kernel
theorem dX8_writesNumber_43 : decode cX8_writesNumber 43 = .ok (.return_, 1) := by decide +kernel
theorem dX8_formatParcel_0 : decode cX8_formatParcel 0 = .ok (.aload_n 0, 1) := by decide +kernel
theorem dX8_formatParcel_1 : decode cX8_formatParcel 1 = .ok (.iconst 0, 1) := by decide +kernel
theorem dX8_formatParcel_2 : decode cX8_formatParcel 2 = .ok (.putfield 54, 3) := by decide +kernel
theorem dX8_formatParcel_5 : decode cX8_formatParcel 5 = .ok (.aload_n 0, 1) := by decide +kernel
theorem dX8_formatParcel_6 : decode cX8_formatParcel 6 = .ok (.iload_n 1, 1) := by decide +kernel
theorem dX8_formatParcel_7 : decode cX8_formatParcel 7 = .ok (.invokevirtual 138, 3) := by decide +kernel
theorem dX8_formatParcel_10 : decode cX8_formatParcel 10 = .ok (.iconst (-1), 1) := by decide +kernel
theorem dX8_formatParcel_11 : decode cX8_formatParcel 11 = .ok (.if_icmp .ne 9, 3) := by decide +kernel
theorem dX8_formatParcel_14 : decode cX8_formatParcel 14 = .ok (.aload_n 0, 1) := by decide +kernel
theorem dX8_formatParcel_15 : decode cX8_formatParcel 15 = .ok (.iconst 1, 1) := by decide +kernel
theorem dX8_formatParcel_16 : decode cX8_formatParcel 16 = .ok (.invokevirtual 96, 3) := by decide +kernel
theorem dX8_formatParcel_19 : decode cX8_formatParcel 19 = .ok (.ireturn, 1) := by decide +kernel
theorem dX8_formatParcel_20 : decode cX8_formatParcel 20 = .ok (.aload_n 0, 1) := by decide +kernel
theorem dX8_formatParcel_21 : decode cX8_formatParcel 21 = .ok (.iload_n 1, 1) := by decide +kernel
theorem dX8_formatParcel_22 : decode cX8_formatParcel 22 = .ok (.invokevirtual 138, 3) := by decide +kernel
theorem dX8_formatParcel_25 : decode cX8_formatParcel 25 = .ok (.invokestatic 64, 3) := by decide +kernel
theorem dX8_formatParcel_28 : decode cX8_formatParcel 28 = .ok (.istore_n 2, 1) := by decide +kernel
theorem dX8_formatParcel_29 : decode cX8_formatParcel 29 = .ok (.aload_n 0, 1) := by decide +kernel
theorem dX8_formatParcel_30 : decode cX8_formatParcel 30 = .ok (.iconst 0, 1) := by decide +kernel
theorem dX8_formatParcel_31 : decode cX8_formatParcel 31 = .ok (.putfield 199, 3) := by decide +kernel
theorem dX8_formatParcel_34 : decode cX8_formatParcel 34 = .ok (.aload_n 0, 1) := by decide +kernel
theorem dX8_formatParcel_35 : decode cX8_formatParcel 35 = .ok (.bipush 35, 2) := by decide +kernel
theorem dX8_formatParcel_37 : decode cX8_formatParcel 37 = .ok (.invokevirtual 202, 3) := by decide +kernel
theorem dX8_formatParcel_40 : decode cX8_formatParcel 40 = .ok (.aload_n 0, 1) := by decide +kernel
theorem dX8_formatParcel_41 : decode cX8_formatParcel 41 = .ok (.iload_n 1, 1) := by decide +kernel
theorem dX8_formatParcel_42 : decode cX8_formatParcel 42 = .ok (.invokevirtual 205, 3) := by decide +kernel
theorem dX8_formatParcel_45 : decode cX8_formatParcel 45 = .ok (.aload_n 0, 1) := by decide +kernel
theorem dX8_formatParcel_46 : decode cX8_formatParcel 46 = .ok (.bipush 32, 2) := by decide +kernel
theorem dX8_formatParcel_48 : decode cX8_formatParcel 48 = .ok (.invokevirtual 202, 3) := by decide +kernel
theorem dX8_formatParcel_51 : decode cX8_formatParcel 51 = .ok (.aload_n 0, 1) := by decide +kernel
theorem dX8_formatParcel_52 : decode cX8_formatParcel 52 = .ok (.aload_n 0, 1) := by decide +kernel
theorem dX8_formatParcel_53 : decode cX8_formatParcel 53 = .ok (.getfield 9, 3) := by decide +kernel
theorem dX8_formatParcel_56 : decode cX8_formatParcel 56 = .ok (.iload_n 2, 1) := by decide +kernel
theorem dX8_formatParcel_57 : decode cX8_formatParcel 57 = .ok (.iconst 2, 1) := by decide +kernel
theorem dX8_formatParcel_58 : decode cX8_formatParcel 58 = .ok (.iadd, 1) := by decide +kernel
theorem dX8_formatParcel_59 : decode cX8_formatParcel 59 = .ok (.iaload, 1) := by decide +kernel
theorem dX8_formatParcel_60 : decode cX8_formatParcel 60 = .ok (.invokevirtual 205, 3) := by decide +kernel
theorem dX8_formatParcel_63 : decode cX8_formatParcel 63 = .ok (.aload_n 0, 1) := by decide +kernel
theorem dX8_formatParcel_64 : decode cX8_formatParcel 64 = .ok (.bipush 42, 2) := by decide +kernel
theorem dX8_formatParcel_66 : decode cX8_formatParcel 66 = .ok (.invokevirtual 202, 3) := by decide +kernel
theorem dX8_formatParcel_69 : decode cX8_formatParcel 69 = .ok (.aload_n 0, 1) := by decide +kernel
theorem dX8_formatParcel_70 : decode cX8_formatParcel 70 = .ok (.aload_n 0, 1) := by decide +kernel
theorem dX8_formatParcel_71 : decode cX8_formatParcel 71 = .ok (.getfield 9, 3) := by decide +kernel
theorem dX8_formatParcel_74 : decode cX8_formatParcel 74 = .ok (.iload_n 2, 1) := by decide +kernel
theorem dX8_formatParcel_75 : decode cX8_formatParcel 75 = .ok (.iconst 3, 1) := by decide +kernel
theorem dX8_formatParcel_76 : decode cX8_formatParcel 76 = .ok (.iadd, 1) := by decide +kernel
theorem dX8_formatParcel_77 : decode cX8_formatParcel 77 = .ok (.iaload, 1) := by decide +kernel
theorem dX8_formatParcel_78 : decode cX8_formatParcel 78 = .ok (.invokevirtual 205, 3) := by decide +kernel
theorem dX8_formatParcel_81 : decode cX8_formatParcel 81 = .ok (.aload_n 0, 1) := by decide +kernel
theorem dX8_formatParcel_82 : decode cX8_formatParcel 82 = .ok (.bipush 32, 2) := by decide +kernel
theorem dX8_formatParcel_84 : decode cX8_formatParcel 84 = .ok (.invokevirtual 202, 3) := by decide +kernel
theorem dX8_formatParcel_87 : decode cX8_formatParcel 87 = .ok (.aload_n 0, 1) := by decide +kernel
theorem dX8_formatParcel_88 : decode cX8_formatParcel 88 = .ok (.getfield 9, 3) := by decide +kernel
theorem dX8_formatParcel_91 : decode cX8_formatParcel 91 = .ok (.iload_n 2, 1) := by decide +kernel
theorem dX8_formatParcel_92 : decode cX8_formatParcel 92 = .ok (.iconst 4, 1) := by decide +kernel
theorem dX8_formatParcel_93 : decode cX8_formatParcel 93 = .ok (.iadd, 1) := by decide +kernel
theorem dX8_formatParcel_94 : decode cX8_formatParcel 94 = .ok (.iaload, 1) := by decide +kernel
theorem dX8_formatParcel_95 : decode cX8_formatParcel 95 = .ok (.iconst (-1), 1) := by decide +kernel
theorem dX8_formatParcel_96 : decode cX8_formatParcel 96 = .ok (.if_icmp .eq 24, 3) := by decide +kernel
theorem dX8_formatParcel_99 : decode cX8_formatParcel 99 = .ok (.aload_n 0, 1) := by decide +kernel
theorem dX8_formatParcel_100 : decode cX8_formatParcel 100 = .ok (.bipush 64, 2) := by decide +kernel
theorem dX8_formatParcel_102 : decode cX8_formatParcel 102 = .ok (.invokevirtual 202, 3) := by decide +kernel
theorem dX8_formatParcel_105 : decode cX8_formatParcel 105 = .ok (.aload_n 0, 1) := by decide +kernel
theorem dX8_formatParcel_106 : decode cX8_formatParcel 106 = .ok (.aload_n 0, 1) := by decide +kernel
theorem dX8_formatParcel_107 : decode cX8_formatParcel 107 = .ok (.getfield 9, 3) := by decide +kernel
theorem dX8_formatParcel_110 : decode cX8_formatParcel 110 = .ok (.iload_n 2, 1) := by decide +kernel
theorem dX8_formatParcel_111 : decode cX8_formatParcel 111 = .ok (.iconst 4, 1) := by decide +kernel
theorem dX8_formatParcel_112 : decode cX8_formatParcel 112 = .ok (.iadd, 1) := by decide +kernel
theorem dX8_formatParcel_113 : decode cX8_formatParcel 113 = .ok (.iaload, 1) := by decide +kernel
theorem dX8_formatParcel_114 : decode cX8_formatParcel 114 = .ok (.invokevirtual 205, 3) := by decide +kernel
theorem dX8_formatParcel_117 : decode cX8_formatParcel 117 = .ok (.goto 40, 3) := by decide +kernel
theorem dX8_formatParcel_120 : decode cX8_formatParcel 120 = .ok (.aload_n 0, 1) := by decide +kernel
theorem dX8_formatParcel_121 : decode cX8_formatParcel 121 = .ok (.bipush 126, 2) := by decide +kernel
theorem dX8_formatParcel_123 : decode cX8_formatParcel 123 = .ok (.invokevirtual 202, 3) := by decide +kernel
theorem dX8_formatParcel_126 : decode cX8_formatParcel 126 = .ok (.aload_n 0, 1) := by decide +kernel
theorem dX8_formatParcel_127 : decode cX8_formatParcel 127 = .ok (.aload_n 0, 1) := by decide +kernel
theorem dX8_formatParcel_128 : decode cX8_formatParcel 128 = .ok (.getfield 9, 3) := by decide +kernel
theorem dX8_formatParcel_131 : decode cX8_formatParcel 131 = .ok (.iload_n 2, 1) := by decide +kernel
theorem dX8_formatParcel_132 : decode cX8_formatParcel 132 = .ok (.iconst 5, 1) := by decide +kernel
theorem dX8_formatParcel_133 : decode cX8_formatParcel 133 = .ok (.iadd, 1) := by decide +kernel
theorem dX8_formatParcel_134 : decode cX8_formatParcel 134 = .ok (.iaload, 1) := by decide +kernel
theorem dX8_formatParcel_135 : decode cX8_formatParcel 135 = .ok (.invokevirtual 205, 3) := by decide +kernel
theorem dX8_formatParcel_138 : decode cX8_formatParcel 138 = .ok (.aload_n 0, 1) := by decide +kernel
theorem dX8_formatParcel_139 : decode cX8_formatParcel 139 = .ok (.bipush 58, 2) := by decide +kernel
theorem dX8_formatParcel_141 : decode cX8_formatParcel 141 = .ok (.invokevirtual 202, 3) := by decide +kernel
theorem dX8_formatParcel_144 : decode cX8_formatParcel 144 = .ok (.aload_n 0, 1) := by decide +kernel
theorem dX8_formatParcel_145 : decode cX8_formatParcel 145 = .ok (.aload_n 0, 1) := by decide +kernel
theorem dX8_formatParcel_146 : decode cX8_formatParcel 146 = .ok (.getfield 9, 3) := by decide +kernel
theorem dX8_formatParcel_149 : decode cX8_formatParcel 149 = .ok (.iload_n 2, 1) := by decide +kernel
theorem dX8_formatParcel_150 : decode cX8_formatParcel 150 = .ok (.bipush 6, 2) := by decide +kernel
theorem dX8_formatParcel_152 : decode cX8_formatParcel 152 = .ok (.iadd, 1) := by decide +kernel
theorem dX8_formatParcel_153 : decode cX8_formatParcel 153 = .ok (.iaload, 1) := by decide +kernel
theorem dX8_formatParcel_154 : decode cX8_formatParcel 154 = .ok (.invokevirtual 205, 3) := by decide +kernel
theorem dX8_formatParcel_157 : decode cX8_formatParcel 157 = .ok (.aload_n 0, 1) := by decide +kernel
theorem dX8_formatParcel_158 : decode cX8_formatParcel 158 = .ok (.bipush 32, 2) := by decide +kernel
theorem dX8_formatParcel_160 : decode cX8_formatParcel 160 = .ok (.invokevirtual 202, 3) := by decide +kernel
theorem dX8_formatParcel_163 : decode cX8_formatParcel 163 = .ok (.aload_n 0, 1) := by decide +kernel
theorem dX8_formatParcel_164 : decode cX8_formatParcel 164 = .ok (.bipush 62, 2) := by decide +kernel
theorem dX8_formatParcel_166 : decode cX8_formatParcel 166 = .ok (.invokevirtual 202, 3) := by decide +kernel
theorem dX8_formatParcel_169 : decode cX8_formatParcel 169 = .ok (.aload_n 0, 1) := by decide +kernel
theorem dX8_formatParcel_170 : decode cX8_formatParcel 170 = .ok (.aload_n 0, 1) := by decide +kernel
theorem dX8_formatParcel_171 : decode cX8_formatParcel 171 = .ok (.getfield 9, 3) := by decide +kernel
theorem dX8_formatParcel_174 : decode cX8_formatParcel 174 = .ok (.iload_n 2, 1) := by decide +kernel
theorem dX8_formatParcel_175 : decode cX8_formatParcel 175 = .ok (.iconst 1, 1) := by decide +kernel
theorem dX8_formatParcel_176 : decode cX8_formatParcel 176 = .ok (.iadd, 1) := by decide +kernel
theorem dX8_formatParcel_177 : decode cX8_formatParcel 177 = .ok (.iaload, 1) := by decide +kernel
theorem dX8_formatParcel_178 : decode cX8_formatParcel 178 = .ok (.invokevirtual 205, 3) := by decide +kernel
theorem dX8_formatParcel_181 : decode cX8_formatParcel 181 = .ok (.aload_n 0, 1) := by decide +kernel
theorem dX8_formatParcel_182 : decode cX8_formatParcel 182 = .ok (.getfield 199, 3) := by decide +kernel
theorem dX8_formatParcel_185 : decode cX8_formatParcel 185 = .ok (.ireturn, 1) := by decide +kernel
theorem dX8_formatLink_0 : decode cX8_formatLink 0 = .ok (.aload_n 0, 1) := by decide +kernel
theorem dX8_formatLink_1 : decode cX8_formatLink 1 = .ok (.iconst 0, 1) := by decide +kernel
theorem dX8_formatLink_2 : decode cX8_formatLink 2 = .ok (.putfield 54, 3) := by decide +kernel
theorem dX8_formatLink_5 : decode cX8_formatLink 5 = .ok (.aload_n 0, 1) := by decide +kernel
theorem dX8_formatLink_6 : decode cX8_formatLink 6 = .ok (.iload_n 1, 1) := by decide +kernel
theorem dX8_formatLink_7 : decode cX8_formatLink 7 = .ok (.invokevirtual 121, 3) := by decide +kernel
theorem dX8_formatLink_10 : decode cX8_formatLink 10 = .ok (.ifCond .ne 9, 3) := by decide +kernel
theorem dX8_formatLink_13 : decode cX8_formatLink 13 = .ok (.aload_n 0, 1) := by decide +kernel
theorem dX8_formatLink_14 : decode cX8_formatLink 14 = .ok (.iconst 1, 1) := by decide +kernel
theorem dX8_formatLink_15 : decode cX8_formatLink 15 = .ok (.invokevirtual 96, 3) := by decide +kernel
theorem dX8_formatLink_18 : decode cX8_formatLink 18 = .ok (.ireturn, 1) := by decide +kernel
theorem dX8_formatLink_19 : decode cX8_formatLink 19 = .ok (.iload_n 1, 1) := by decide +kernel
theorem dX8_formatLink_20 : decode cX8_formatLink 20 = .ok (.invokestatic 68, 3) := by decide +kernel
theorem dX8_formatLink_23 : decode cX8_formatLink 23 = .ok (.istore_n 2, 1) := by decide +kernel
theorem dX8_formatLink_24 : decode cX8_formatLink 24 = .ok (.aload_n 0, 1) := by decide +kernel
theorem dX8_formatLink_25 : decode cX8_formatLink 25 = .ok (.iconst 0, 1) := by decide +kernel
theorem dX8_formatLink_26 : decode cX8_formatLink 26 = .ok (.putfield 199, 3) := by decide +kernel
theorem dX8_formatLink_29 : decode cX8_formatLink 29 = .ok (.aload_n 0, 1) := by decide +kernel
theorem dX8_formatLink_30 : decode cX8_formatLink 30 = .ok (.iload_n 1, 1) := by decide +kernel
theorem dX8_formatLink_31 : decode cX8_formatLink 31 = .ok (.invokevirtual 205, 3) := by decide +kernel
theorem dX8_formatLink_34 : decode cX8_formatLink 34 = .ok (.aload_n 0, 1) := by decide +kernel
theorem dX8_formatLink_35 : decode cX8_formatLink 35 = .ok (.bipush 40, 2) := by decide +kernel
theorem dX8_formatLink_37 : decode cX8_formatLink 37 = .ok (.invokevirtual 202, 3) := by decide +kernel
theorem dX8_formatLink_40 : decode cX8_formatLink 40 = .ok (.aload_n 0, 1) := by decide +kernel
theorem dX8_formatLink_41 : decode cX8_formatLink 41 = .ok (.aload_n 0, 1) := by decide +kernel
theorem dX8_formatLink_42 : decode cX8_formatLink 42 = .ok (.getfield 9, 3) := by decide +kernel
theorem dX8_formatLink_45 : decode cX8_formatLink 45 = .ok (.iload_n 2, 1) := by decide +kernel
theorem dX8_formatLink_46 : decode cX8_formatLink 46 = .ok (.iaload, 1) := by decide +kernel
theorem dX8_formatLink_47 : decode cX8_formatLink 47 = .ok (.invokevirtual 205, 3) := by decide +kernel
theorem dX8_formatLink_50 : decode cX8_formatLink 50 = .ok (.aload_n 0, 1) := by decide +kernel
theorem dX8_formatLink_51 : decode cX8_formatLink 51 = .ok (.bipush 45, 2) := by decide +kernel
theorem dX8_formatLink_53 : decode cX8_formatLink 53 = .ok (.invokevirtual 202, 3) := by decide +kernel
theorem dX8_formatLink_56 : decode cX8_formatLink 56 = .ok (.aload_n 0, 1) := by decide +kernel
theorem dX8_formatLink_57 : decode cX8_formatLink 57 = .ok (.aload_n 0, 1) := by decide +kernel
theorem dX8_formatLink_58 : decode cX8_formatLink 58 = .ok (.getfield 9, 3) := by decide +kernel
theorem dX8_formatLink_61 : decode cX8_formatLink 61 = .ok (.iload_n 2, 1) := by decide +kernel
theorem dX8_formatLink_62 : decode cX8_formatLink 62 = .ok (.iconst 1, 1) := by decide +kernel
theorem dX8_formatLink_63 : decode cX8_formatLink 63 = .ok (.iadd, 1) := by decide +kernel
theorem dX8_formatLink_64 : decode cX8_formatLink 64 = .ok (.iaload, 1) := by decide +kernel
theorem dX8_formatLink_65 : decode cX8_formatLink 65 = .ok (.invokevirtual 205, 3) := by decide +kernel
theorem dX8_formatLink_68 : decode cX8_formatLink 68 = .ok (.aload_n 0, 1) := by decide +kernel
theorem dX8_formatLink_69 : decode cX8_formatLink 69 = .ok (.bipush 41, 2) := by decide +kernel
theorem dX8_formatLink_71 : decode cX8_formatLink 71 = .ok (.invokevirtual 202, 3) := by decide +kernel
theorem dX8_formatLink_74 : decode cX8_formatLink 74 = .ok (.aload_n 0, 1) := by decide +kernel
theorem dX8_formatLink_75 : decode cX8_formatLink 75 = .ok (.bipush 32, 2) := by decide +kernel
theorem dX8_formatLink_77 : decode cX8_formatLink 77 = .ok (.invokevirtual 202, 3) := by decide +kernel
theorem dX8_formatLink_80 : decode cX8_formatLink 80 = .ok (.aload_n 0, 1) := by decide +kernel
theorem dX8_formatLink_81 : decode cX8_formatLink 81 = .ok (.aload_n 0, 1) := by decide +kernel
theorem dX8_formatLink_82 : decode cX8_formatLink 82 = .ok (.getfield 9, 3) := by decide +kernel
theorem dX8_formatLink_85 : decode cX8_formatLink 85 = .ok (.iload_n 2, 1) := by decide +kernel
theorem dX8_formatLink_86 : decode cX8_formatLink 86 = .ok (.iconst 2, 1) := by decide +kernel
theorem dX8_formatLink_87 : decode cX8_formatLink 87 = .ok (.iadd, 1) := by decide +kernel
theorem dX8_formatLink_88 : decode cX8_formatLink 88 = .ok (.iaload, 1) := by decide +kernel
theorem dX8_formatLink_89 : decode cX8_formatLink 89 = .ok (.invokevirtual 205, 3) := by decide +kernel
theorem dX8_formatLink_92 : decode cX8_formatLink 92 = .ok (.aload_n 0, 1) := by decide +kernel
theorem dX8_formatLink_93 : decode cX8_formatLink 93 = .ok (.bipush 104, 2) := by decide +kernel
theorem dX8_formatLink_95 : decode cX8_formatLink 95 = .ok (.invokevirtual 202, 3) := by decide +kernel
theorem dX8_formatLink_98 : decode cX8_formatLink 98 = .ok (.aload_n 0, 1) := by decide +kernel
theorem dX8_formatLink_99 : decode cX8_formatLink 99 = .ok (.bipush 47, 2) := by decide +kernel
theorem dX8_formatLink_101 : decode cX8_formatLink 101 = .ok (.invokevirtual 202, 3) := by decide +kernel
theorem dX8_formatLink_104 : decode cX8_formatLink 104 = .ok (.aload_n 0, 1) := by decide +kernel
theorem dX8_formatLink_105 : decode cX8_formatLink 105 = .ok (.aload_n 0, 1) := by decide +kernel
theorem dX8_formatLink_106 : decode cX8_formatLink 106 = .ok (.getfield 9, 3) := by decide +kernel
theorem dX8_formatLink_109 : decode cX8_formatLink 109 = .ok (.iload_n 2, 1) := by decide +kernel
theorem dX8_formatLink_110 : decode cX8_formatLink 110 = .ok (.iconst 3, 1) := by decide +kernel
theorem dX8_formatLink_111 : decode cX8_formatLink 111 = .ok (.iadd, 1) := by decide +kernel
theorem dX8_formatLink_112 : decode cX8_formatLink 112 = .ok (.iaload, 1) := by decide +kernel
theorem dX8_formatLink_113 : decode cX8_formatLink 113 = .ok (.invokevirtual 205, 3) := by decide +kernel
theorem dX8_formatLink_116 : decode cX8_formatLink 116 = .ok (.aload_n 0, 1) := by decide +kernel
theorem dX8_formatLink_117 : decode cX8_formatLink 117 = .ok (.getfield 9, 3) := by decide +kernel
theorem dX8_formatLink_120 : decode cX8_formatLink 120 = .ok (.iload_n 2, 1) := by decide +kernel
theorem dX8_formatLink_121 : decode cX8_formatLink 121 = .ok (.iconst 4, 1) := by decide +kernel
theorem dX8_formatLink_122 : decode cX8_formatLink 122 = .ok (.iadd, 1) := by decide +kernel
theorem dX8_formatLink_123 : decode cX8_formatLink 123 = .ok (.iaload, 1) := by decide +kernel
theorem dX8_formatLink_124 : decode cX8_formatLink 124 = .ok (.iconst 1, 1) := by decide +kernel
theorem dX8_formatLink_125 : decode cX8_formatLink 125 = .ok (.if_icmp .ne 15, 3) := by decide +kernel
theorem dX8_formatLink_128 : decode cX8_formatLink 128 = .ok (.aload_n 0, 1) := by decide +kernel
theorem dX8_formatLink_129 : decode cX8_formatLink 129 = .ok (.bipush 32, 2) := by decide +kernel
theorem dX8_formatLink_131 : decode cX8_formatLink 131 = .ok (.invokevirtual 202, 3) := by decide +kernel
theorem dX8_formatLink_134 : decode cX8_formatLink 134 = .ok (.aload_n 0, 1) := by decide +kernel
theorem dX8_formatLink_135 : decode cX8_formatLink 135 = .ok (.bipush 120, 2) := by decide +kernel
theorem dX8_formatLink_137 : decode cX8_formatLink 137 = .ok (.invokevirtual 202, 3) := by decide +kernel
theorem dX8_formatLink_140 : decode cX8_formatLink 140 = .ok (.aload_n 0, 1) := by decide +kernel
theorem dX8_formatLink_141 : decode cX8_formatLink 141 = .ok (.iload_n 1, 1) := by decide +kernel
theorem dX8_formatLink_142 : decode cX8_formatLink 142 = .ok (.invokevirtual 135, 3) := by decide +kernel
theorem dX8_formatLink_145 : decode cX8_formatLink 145 = .ok (.ifCond .le 24, 3) := by decide +kernel
theorem dX8_formatLink_148 : decode cX8_formatLink 148 = .ok (.aload_n 0, 1) := by decide +kernel
theorem dX8_formatLink_149 : decode cX8_formatLink 149 = .ok (.bipush 32, 2) := by decide +kernel
theorem dX8_formatLink_151 : decode cX8_formatLink 151 = .ok (.invokevirtual 202, 3) := by decide +kernel
theorem dX8_formatLink_154 : decode cX8_formatLink 154 = .ok (.aload_n 0, 1) := by decide +kernel
theorem dX8_formatLink_155 : decode cX8_formatLink 155 = .ok (.bipush 119, 2) := by decide +kernel
theorem dX8_formatLink_157 : decode cX8_formatLink 157 = .ok (.invokevirtual 202, 3) := by decide +kernel
theorem dX8_formatLink_160 : decode cX8_formatLink 160 = .ok (.aload_n 0, 1) := by decide +kernel
theorem dX8_formatLink_161 : decode cX8_formatLink 161 = .ok (.aload_n 0, 1) := by decide +kernel
theorem dX8_formatLink_162 : decode cX8_formatLink 162 = .ok (.iload_n 1, 1) := by decide +kernel
theorem dX8_formatLink_163 : decode cX8_formatLink 163 = .ok (.invokevirtual 135, 3) := by decide +kernel
theorem dX8_formatLink_166 : decode cX8_formatLink 166 = .ok (.invokevirtual 205, 3) := by decide +kernel
theorem dX8_formatLink_169 : decode cX8_formatLink 169 = .ok (.aload_n 0, 1) := by decide +kernel
theorem dX8_formatLink_170 : decode cX8_formatLink 170 = .ok (.getfield 199, 3) := by decide +kernel
theorem dX8_formatLink_173 : decode cX8_formatLink 173 = .ok (.ireturn, 1) := by decide +kernel
theorem dX8_lineChar_0 : decode cX8_lineChar 0 = .ok (.aload_n 0, 1) := by decide +kernel
theorem dX8_lineChar_1 : decode cX8_lineChar 1 = .ok (.iconst 0, 1) := by decide +kernel
theorem dX8_lineChar_2 : decode cX8_lineChar 2 = .ok (.putfield 54, 3) := by decide +kernel
theorem dX8_lineChar_5 : decode cX8_lineChar 5 = .ok (.iload_n 1, 1) := by decide +kernel
theorem dX8_lineChar_6 : decode cX8_lineChar 6 = .ok (.i2l, 1) := by decide +kernel
theorem dX8_lineChar_7 : decode cX8_lineChar 7 = .ok (.lconst 0, 1) := by decide +kernel
theorem dX8_lineChar_8 : decode cX8_lineChar 8 = .ok (.aload_n 0, 1) := by decide +kernel
theorem dX8_lineChar_9 : decode cX8_lineChar 9 = .ok (.getfield 199, 3) := by decide +kernel
theorem dX8_lineChar_12 : decode cX8_lineChar 12 = .ok (.iconst 1, 1) := by decide +kernel
theorem dX8_lineChar_13 : decode cX8_lineChar 13 = .ok (.isub, 1) := by decide +kernel
theorem dX8_lineChar_14 : decode cX8_lineChar 14 = .ok (.i2l, 1) := by decide +kernel
theorem dX8_lineChar_15 : decode cX8_lineChar 15 = .ok (.invokestatic 60, 3) := by decide +kernel
theorem dX8_lineChar_18 : decode cX8_lineChar 18 = .ok (.ifCond .eq 13, 3) := by decide +kernel
theorem dX8_lineChar_21 : decode cX8_lineChar 21 = .ok (.aload_n 0, 1) := by decide +kernel
theorem dX8_lineChar_22 : decode cX8_lineChar 22 = .ok (.getfield 41, 3) := by decide +kernel
theorem dX8_lineChar_25 : decode cX8_lineChar 25 = .ok (.iload_n 1, 1) := by decide +kernel
theorem dX8_lineChar_26 : decode cX8_lineChar 26 = .ok (.iaload, 1) := by decide +kernel
theorem dX8_lineChar_27 : decode cX8_lineChar 27 = .ok (.i2c, 1) := by decide +kernel
theorem dX8_lineChar_28 : decode cX8_lineChar 28 = .ok (.goto 9, 3) := by decide +kernel
theorem dX8_lineChar_31 : decode cX8_lineChar 31 = .ok (.aload_n 0, 1) := by decide +kernel
theorem dX8_lineChar_32 : decode cX8_lineChar 32 = .ok (.iconst 1, 1) := by decide +kernel
theorem dX8_lineChar_33 : decode cX8_lineChar 33 = .ok (.invokevirtual 96, 3) := by decide +kernel
theorem dX8_lineChar_36 : decode cX8_lineChar 36 = .ok (.i2c, 1) := by decide +kernel
theorem dX8_lineChar_37 : decode cX8_lineChar 37 = .ok (.ireturn, 1) := by decide +kernel
theorem dX8_append_0 : decode cX8_append 0 = .ok (.aload_n 0, 1) := by decide +kernel
theorem dX8_append_1 : decode cX8_append 1 = .ok (.iconst 0, 1) := by decide +kernel
theorem dX8_append_2 : decode cX8_append 2 = .ok (.putfield 54, 3) := by decide +kernel
theorem dX8_append_5 : decode cX8_append 5 = .ok (.iload_n 1, 1) := by decide +kernel
theorem dX8_append_6 : decode cX8_append 6 = .ok (.i2l, 1) := by decide +kernel
theorem dX8_append_7 : decode cX8_append 7 = .ok (.ldc2_w 208, 3) := by decide +kernel
theorem dX8_append_10 : decode cX8_append 10 = .ok (.ldc2_w 210, 3) := by decide +kernel
theorem dX8_append_13 : decode cX8_append 13 = .ok (.invokestatic 60, 3) := by decide +kernel
theorem dX8_append_16 : decode cX8_append 16 = .ok (.ifCond .ne 9, 3) := by decide +kernel
theorem dX8_append_19 : decode cX8_append 19 = .ok (.aload_n 0, 1) := by decide +kernel
theorem dX8_append_20 : decode cX8_append 20 = .ok (.iconst 1, 1) := by decide +kernel
theorem dX8_append_21 : decode cX8_append 21 = .ok (.invokevirtual 96, 3) := by decide +kernel
theorem dX8_append_24 : decode cX8_append 24 = .ok (.ireturn, 1) := by decide +kernel
theorem dX8_append_25 : decode cX8_append 25 = .ok (.aload_n 0, 1) := by decide +kernel
theorem dX8_append_26 : decode cX8_append 26 = .ok (.getfield 212, 3) := by decide +kernel
theorem dX8_append_29 : decode cX8_append 29 = .ok (.bipush 60, 2) := by decide +kernel
theorem dX8_append_31 : decode cX8_append 31 = .ok (.if_icmp .ne 9, 3) := by decide +kernel
theorem dX8_append_34 : decode cX8_append 34 = .ok (.aload_n 0, 1) := by decide +kernel
theorem dX8_append_35 : decode cX8_append 35 = .ok (.iconst 2, 1) := by decide +kernel
theorem dX8_append_36 : decode cX8_append 36 = .ok (.invokevirtual 96, 3) := by decide +kernel
theorem dX8_append_39 : decode cX8_append 39 = .ok (.ireturn, 1) := by decide +kernel
theorem dX8_append_40 : decode cX8_append 40 = .ok (.aload_n 0, 1) := by decide +kernel
theorem dX8_append_41 : decode cX8_append 41 = .ok (.getfield 32, 3) := by decide +kernel
theorem dX8_append_44 : decode cX8_append 44 = .ok (.aload_n 0, 1) := by decide +kernel
theorem dX8_append_45 : decode cX8_append 45 = .ok (.getfield 212, 3) := by decide +kernel
theorem dX8_append_48 : decode cX8_append 48 = .ok (.iload_n 1, 1) := by decide +kernel
theorem dX8_append_49 : decode cX8_append 49 = .ok (.iastore, 1) := by decide +kernel
theorem dX8_append_50 : decode cX8_append 50 = .ok (.aload_n 0, 1) := by decide +kernel
theorem dX8_append_51 : decode cX8_append 51 = .ok (.dup, 1) := by decide +kernel
theorem dX8_append_52 : decode cX8_append 52 = .ok (.getfield 212, 3) := by decide +kernel
theorem dX8_append_55 : decode cX8_append 55 = .ok (.iconst 1, 1) := by decide +kernel
theorem dX8_append_56 : decode cX8_append 56 = .ok (.iadd, 1) := by decide +kernel
theorem dX8_append_57 : decode cX8_append 57 = .ok (.putfield 212, 3) := by decide +kernel
theorem dX8_append_60 : decode cX8_append 60 = .ok (.aload_n 0, 1) := by decide +kernel
theorem dX8_append_61 : decode cX8_append 61 = .ok (.getfield 212, 3) := by decide +kernel
theorem dX8_append_64 : decode cX8_append 64 = .ok (.ireturn, 1) := by decide +kernel
theorem dX8_here_0 : decode cX8_here 0 = .ok (.aload_n 0, 1) := by decide +kernel
theorem dX8_here_1 : decode cX8_here 1 = .ok (.getfield 215, 3) := by decide +kernel
theorem dX8_here_4 : decode cX8_here 4 = .ok (.aload_n 0, 1) := by decide +kernel
theorem dX8_here_5 : decode cX8_here 5 = .ok (.getfield 218, 3) := by decide +kernel
theorem dX8_here_8 : decode cX8_here 8 = .ok (.if_icmp .ge 15, 3) := by decide +kernel
theorem dX8_here_11 : decode cX8_here 11 = .ok (.aload_n 0, 1) := by decide +kernel
theorem dX8_here_12 : decode cX8_here 12 = .ok (.getfield 32, 3) := by decide +kernel
theorem dX8_here_15 : decode cX8_here 15 = .ok (.aload_n 0, 1) := by decide +kernel
theorem dX8_here_16 : decode cX8_here 16 = .ok (.getfield 215, 3) := by decide +kernel
theorem dX8_here_19 : decode cX8_here 19 = .ok (.iaload, 1) := by decide +kernel
theorem dX8_here_20 : decode cX8_here 20 = .ok (.goto 4, 3) := by decide +kernel
theorem dX8_here_23 : decode cX8_here 23 = .ok (.iconst (-1), 1) := by decide +kernel
theorem dX8_here_24 : decode cX8_here 24 = .ok (.ireturn, 1) := by decide +kernel
theorem dX8_expects_0 : decode cX8_expects 0 = .ok (.aload_n 0, 1) := by decide +kernel
theorem dX8_expects_1 : decode cX8_expects 1 = .ok (.aload_n 0, 1) := by decide +kernel
theorem dX8_expects_2 : decode cX8_expects 2 = .ok (.getfield 221, 3) := by decide +kernel
theorem dX8_expects_5 : decode cX8_expects 5 = .ok (.ifCond .ne 11, 3) := by decide +kernel
theorem dX8_expects_8 : decode cX8_expects 8 = .ok (.aload_n 0, 1) := by decide +kernel
theorem dX8_expects_9 : decode cX8_expects 9 = .ok (.invokevirtual 225, 3) := by decide +kernel
theorem dX8_expects_12 : decode cX8_expects 12 = .ok (.iload_n 1, 1) := by decide +kernel
theorem dX8_expects_13 : decode cX8_expects 13 = .ok (.if_icmp .eq 7, 3) := by decide +kernel
theorem dX8_expects_16 : decode cX8_expects 16 = .ok (.iconst 1, 1) := by decide +kernel
theorem dX8_expects_17 : decode cX8_expects 17 = .ok (.goto 4, 3) := by decide +kernel
theorem dX8_expects_20 : decode cX8_expects 20 = .ok (.iconst 0, 1) := by decide +kernel
theorem dX8_expects_21 : decode cX8_expects 21 = .ok (.putfield 221, 3) := by decide +kernel
theorem dX8_expects_24 : decode cX8_expects 24 = .ok (.aload_n 0, 1) := by decide +kernel
theorem dX8_expects_25 : decode cX8_expects 25 = .ok (.dup, 1) := by decide +kernel
theorem dX8_expects_26 : decode cX8_expects 26 = .ok (.getfield 215, 3) := by decide +kernel
theorem dX8_expects_29 : decode cX8_expects 29 = .ok (.aload_n 0, 1) := by decide +kernel
theorem dX8_expects_30 : decode cX8_expects 30 = .ok (.getfield 221, 3) := by decide +kernel
theorem dX8_expects_33 : decode cX8_expects 33 = .ok (.ifCond .eq 7, 3) := by decide +kernel
theorem dX8_expects_36 : decode cX8_expects 36 = .ok (.iconst 0, 1) := by decide +kernel
theorem dX8_expects_37 : decode cX8_expects 37 = .ok (.goto 4, 3) := by decide +kernel
theorem dX8_expects_40 : decode cX8_expects 40 = .ok (.iconst 1, 1) := by decide +kernel
theorem dX8_expects_41 : decode cX8_expects 41 = .ok (.iadd, 1) := by decide +kernel
theorem dX8_expects_42 : decode cX8_expects 42 = .ok (.putfield 215, 3) := by decide +kernel
theorem dX8_expects_45 : decode cX8_expects 45 = .ok (.return_, 1) := by decide +kernel
theorem dX8_digit_0 : decode cX8_digit 0 = .ok (.aload_n 0, 1) := by decide +kernel
theorem dX8_digit_1 : decode cX8_digit 1 = .ok (.aload_n 0, 1) := by decide +kernel
theorem dX8_digit_2 : decode cX8_digit 2 = .ok (.getfield 221, 3) := by decide +kernel
theorem dX8_digit_5 : decode cX8_digit 5 = .ok (.ifCond .ne 20, 3) := by decide +kernel
theorem dX8_digit_8 : decode cX8_digit 8 = .ok (.aload_n 0, 1) := by decide +kernel
theorem dX8_digit_9 : decode cX8_digit 9 = .ok (.invokevirtual 225, 3) := by decide +kernel
theorem dX8_digit_12 : decode cX8_digit 12 = .ok (.i2l, 1) := by decide +kernel
theorem dX8_digit_13 : decode cX8_digit 13 = .ok (.ldc2_w 228, 3) := by decide +kernel
theorem dX8_digit_16 : decode cX8_digit 16 = .ok (.ldc2_w 230, 3) := by decide +kernel
theorem dX8_digit_19 : decode cX8_digit 19 = .ok (.invokestatic 60, 3) := by decide +kernel
theorem dX8_digit_22 : decode cX8_digit 22 = .ok (.ifCond .ne 7, 3) := by decide +kernel
theorem dX8_digit_25 : decode cX8_digit 25 = .ok (.iconst 1, 1) := by decide +kernel
theorem dX8_digit_26 : decode cX8_digit 26 = .ok (.goto 4, 3) := by decide +kernel
theorem dX8_digit_29 : decode cX8_digit 29 = .ok (.iconst 0, 1) := by decide +kernel
theorem dX8_digit_30 : decode cX8_digit 30 = .ok (.putfield 221, 3) := by decide +kernel
theorem dX8_digit_33 : decode cX8_digit 33 = .ok (.aload_n 0, 1) := by decide +kernel
theorem dX8_digit_34 : decode cX8_digit 34 = .ok (.getfield 221, 3) := by decide +kernel
theorem dX8_digit_37 : decode cX8_digit 37 = .ok (.ifCond .eq 7, 3) := by decide +kernel
theorem dX8_digit_40 : decode cX8_digit 40 = .ok (.iconst 0, 1) := by decide +kernel
theorem dX8_digit_41 : decode cX8_digit 41 = .ok (.goto 10, 3) := by decide +kernel
theorem dX8_digit_44 : decode cX8_digit 44 = .ok (.aload_n 0, 1) := by decide +kernel
theorem dX8_digit_45 : decode cX8_digit 45 = .ok (.invokevirtual 225, 3) := by decide +kernel
theorem dX8_digit_48 : decode cX8_digit 48 = .ok (.bipush 48, 2) := by decide +kernel
theorem dX8_digit_50 : decode cX8_digit 50 = .ok (.isub, 1) := by decide +kernel
theorem dX8_digit_51 : decode cX8_digit 51 = .ok (.istore_n 1, 1) := by decide +kernel
theorem dX8_digit_52 : decode cX8_digit 52 = .ok (.aload_n 0, 1) := by decide +kernel
theorem dX8_digit_53 : decode cX8_digit 53 = .ok (.dup, 1) := by decide +kernel
theorem dX8_digit_54 : decode cX8_digit 54 = .ok (.getfield 215, 3) := by decide +kernel
theorem dX8_digit_57 : decode cX8_digit 57 = .ok (.aload_n 0, 1) := by decide +kernel
theorem dX8_digit_58 : decode cX8_digit 58 = .ok (.getfield 221, 3) := by decide +kernel
theorem dX8_digit_61 : decode cX8_digit 61 = .ok (.ifCond .eq 7, 3) := by decide +kernel
theorem dX8_digit_64 : decode cX8_digit 64 = .ok (.iconst 0, 1) := by decide +kernel
theorem dX8_digit_65 : decode cX8_digit 65 = .ok (.goto 4, 3) := by decide +kernel
theorem dX8_digit_68 : decode cX8_digit 68 = .ok (.iconst 1, 1) := by decide +kernel
theorem dX8_digit_69 : decode cX8_digit 69 = .ok (.iadd, 1) := by decide +kernel
theorem dX8_digit_70 : decode cX8_digit 70 = .ok (.putfield 215, 3) := by decide +kernel
theorem dX8_digit_73 : decode cX8_digit 73 = .ok (.iload_n 1, 1) := by decide +kernel
theorem dX8_digit_74 : decode cX8_digit 74 = .ok (.ireturn, 1) := by decide +kernel
theorem dX8_number_0 : decode cX8_number 0 = .ok (.aload_n 0, 1) := by decide +kernel
theorem dX8_number_1 : decode cX8_number 1 = .ok (.invokevirtual 232, 3) := by decide +kernel
theorem dX8_number_4 : decode cX8_number 4 = .ok (.istore_n 1, 1) := by decide +kernel
theorem dX8_number_5 : decode cX8_number 5 = .ok (.iconst 0, 1) := by decide +kernel
theorem dX8_number_6 : decode cX8_number 6 = .ok (.istore_n 2, 1) := by decide +kernel
theorem dX8_number_7 : decode cX8_number 7 = .ok (.iload_n 2, 1) := by decide +kernel
theorem dX8_number_8 : decode cX8_number 8 = .ok (.iconst 2, 1) := by decide +kernel
theorem dX8_number_9 : decode cX8_number 9 = .ok (.if_icmp .ge 43, 3) := by decide +kernel
theorem dX8_number_12 : decode cX8_number 12 = .ok (.aload_n 0, 1) := by decide +kernel
theorem dX8_number_13 : decode cX8_number 13 = .ok (.getfield 221, 3) := by decide +kernel
theorem dX8_number_16 : decode cX8_number 16 = .ok (.ifCond .ne 36, 3) := by decide +kernel
theorem dX8_number_19 : decode cX8_number 19 = .ok (.aload_n 0, 1) := by decide +kernel
theorem dX8_number_20 : decode cX8_number 20 = .ok (.invokevirtual 225, 3) := by decide +kernel
theorem dX8_number_23 : decode cX8_number 23 = .ok (.i2l, 1) := by decide +kernel
theorem dX8_number_24 : decode cX8_number 24 = .ok (.ldc2_w 228, 3) := by decide +kernel
theorem dX8_number_27 : decode cX8_number 27 = .ok (.ldc2_w 230, 3) := by decide +kernel
theorem dX8_number_30 : decode cX8_number 30 = .ok (.invokestatic 60, 3) := by decide +kernel
theorem dX8_number_33 : decode cX8_number 33 = .ok (.ifCond .eq 19, 3) := by decide +kernel
theorem dX8_number_36 : decode cX8_number 36 = .ok (.bipush 10, 2) := by decide +kernel
theorem dX8_number_38 : decode cX8_number 38 = .ok (.iload_n 1, 1) := by decide +kernel
theorem dX8_number_39 : decode cX8_number 39 = .ok (.imul, 1) := by decide +kernel
theorem dX8_number_40 : decode cX8_number 40 = .ok (.aload_n 0, 1) := by decide +kernel
theorem dX8_number_41 : decode cX8_number 41 = .ok (.invokevirtual 232, 3) := by decide +kernel
theorem dX8_number_44 : decode cX8_number 44 = .ok (.iadd, 1) := by decide +kernel
theorem dX8_number_45 : decode cX8_number 45 = .ok (.istore_n 1, 1) := by decide +kernel
theorem dX8_number_46 : decode cX8_number 46 = .ok (.iinc 2 1, 3) := by decide +kernel
theorem dX8_number_49 : decode cX8_number 49 = .ok (.goto (-42), 3) := by decide +kernel
theorem dX8_number_52 : decode cX8_number 52 = .ok (.iload_n 1, 1) := by decide +kernel
theorem dX8_number_53 : decode cX8_number 53 = .ok (.ireturn, 1) := by decide +kernel
theorem dX8_digitBehind_0 : decode cX8_digitBehind 0 = .ok (.aload_n 0, 1) := by decide +kernel
theorem dX8_digitBehind_1 : decode cX8_digitBehind 1 = .ok (.iload_n 1, 1) := by decide +kernel
theorem dX8_digitBehind_2 : decode cX8_digitBehind 2 = .ok (.invokevirtual 235, 3) := by decide +kernel
theorem dX8_digitBehind_5 : decode cX8_digitBehind 5 = .ok (.aload_n 0, 1) := by decide +kernel
theorem dX8_digitBehind_6 : decode cX8_digitBehind 6 = .ok (.invokevirtual 232, 3) := by decide +kernel
theorem dX8_digitBehind_9 : decode cX8_digitBehind 9 = .ok (.ireturn, 1) := by decide +kernel
theorem dX8_numberBehind_0 : decode cX8_numberBehind 0 = .ok (.aload_n 0, 1) := by decide +kernel
theorem dX8_numberBehind_1 : decode cX8_numberBehind 1 = .ok (.iload_n 1, 1) := by decide +kernel
theorem dX8_numberBehind_2 : decode cX8_numberBehind 2 = .ok (.invokevirtual 235, 3) := by decide +kernel
theorem dX8_numberBehind_5 : decode cX8_numberBehind 5 = .ok (.aload_n 0, 1) := by decide +kernel
theorem dX8_numberBehind_6 : decode cX8_numberBehind 6 = .ok (.invokevirtual 238, 3) := by decide +kernel
theorem dX8_numberBehind_9 : decode cX8_numberBehind 9 = .ok (.ireturn, 1) := by decide +kernel
theorem dX8_likeness_0 : decode cX8_likeness 0 = .ok (.iconst 0, 1) := by decide +kernel
theorem dX8_likeness_1 : decode cX8_likeness 1 = .ok (.istore_n 2, 1) := by decide +kernel
theorem dX8_likeness_2 : decode cX8_likeness 2 = .ok (.aload_n 0, 1) := by decide +kernel
theorem dX8_likeness_3 : decode cX8_likeness 3 = .ok (.getfield 48, 3) := by decide +kernel
theorem dX8_likeness_6 : decode cX8_likeness 6 = .ok (.iload_n 1, 1) := by decide +kernel
theorem dX8_likeness_7 : decode cX8_likeness 7 = .ok (.iconst 1, 1) := by decide +kernel
theorem dX8_likeness_8 : decode cX8_likeness 8 = .ok (.iadd, 1) := by decide +kernel
theorem dX8_likeness_9 : decode cX8_likeness 9 = .ok (.iaload, 1) := by decide +kernel
theorem dX8_likeness_10 : decode cX8_likeness 10 = .ok (.aload_n 0, 1) := by decide +kernel
theorem dX8_likeness_11 : decode cX8_likeness 11 = .ok (.getfield 48, 3) := by decide +kernel
theorem dX8_likeness_14 : decode cX8_likeness 14 = .ok (.iload_n 1, 1) := by decide +kernel
theorem dX8_likeness_15 : decode cX8_likeness 15 = .ok (.iaload, 1) := by decide +kernel
theorem dX8_likeness_16 : decode cX8_likeness 16 = .ok (.isub, 1) := by decide +kernel
theorem dX8_likeness_17 : decode cX8_likeness 17 = .ok (.istore_n 3, 1) := by decide +kernel
theorem dX8_likeness_18 : decode cX8_likeness 18 = .ok (.iload_n 2, 1) := by decide +kernel
theorem dX8_likeness_19 : decode cX8_likeness 19 = .ok (.iload_n 3, 1) := by decide +kernel
theorem dX8_likeness_20 : decode cX8_likeness 20 = .ok (.if_icmp .ge 49, 3) := by decide +kernel
theorem dX8_likeness_23 : decode cX8_likeness 23 = .ok (.aload_n 0, 1) := by decide +kernel
theorem dX8_likeness_24 : decode cX8_likeness 24 = .ok (.getfield 215, 3) := by decide +kernel
theorem dX8_likeness_27 : decode cX8_likeness 27 = .ok (.iload_n 2, 1) := by decide +kernel
theorem dX8_likeness_28 : decode cX8_likeness 28 = .ok (.iadd, 1) := by decide +kernel
theorem dX8_likeness_29 : decode cX8_likeness 29 = .ok (.aload_n 0, 1) := by decide +kernel
theorem dX8_likeness_30 : decode cX8_likeness 30 = .ok (.getfield 218, 3) := by decide +kernel
theorem dX8_likeness_33 : decode cX8_likeness 33 = .ok (.if_icmp .ge 36, 3) := by decide +kernel
theorem dX8_likeness_36 : decode cX8_likeness 36 = .ok (.aload_n 0, 1) := by decide +kernel
theorem dX8_likeness_37 : decode cX8_likeness 37 = .ok (.getfield 32, 3) := by decide +kernel
theorem dX8_likeness_40 : decode cX8_likeness 40 = .ok (.aload_n 0, 1) := by decide +kernel
theorem dX8_likeness_41 : decode cX8_likeness 41 = .ok (.getfield 215, 3) := by decide +kernel
theorem dX8_likeness_44 : decode cX8_likeness 44 = .ok (.iload_n 2, 1) := by decide +kernel
theorem dX8_likeness_45 : decode cX8_likeness 45 = .ok (.iadd, 1) := by decide +kernel
theorem dX8_likeness_46 : decode cX8_likeness 46 = .ok (.iaload, 1) := by decide +kernel
theorem dX8_likeness_47 : decode cX8_likeness 47 = .ok (.aload_n 0, 1) := by decide +kernel
theorem dX8_likeness_48 : decode cX8_likeness 48 = .ok (.getfield 44, 3) := by decide +kernel
theorem dX8_likeness_51 : decode cX8_likeness 51 = .ok (.aload_n 0, 1) := by decide +kernel
theorem dX8_likeness_52 : decode cX8_likeness 52 = .ok (.getfield 48, 3) := by decide +kernel
theorem dX8_likeness_55 : decode cX8_likeness 55 = .ok (.iload_n 1, 1) := by decide +kernel
theorem dX8_likeness_56 : decode cX8_likeness 56 = .ok (.iaload, 1) := by decide +kernel
theorem dX8_likeness_57 : decode cX8_likeness 57 = .ok (.iload_n 2, 1) := by decide +kernel
theorem dX8_likeness_58 : decode cX8_likeness 58 = .ok (.iadd, 1) := by decide +kernel
theorem dX8_likeness_59 : decode cX8_likeness 59 = .ok (.caload, 1) := by decide +kernel
theorem dX8_likeness_60 : decode cX8_likeness 60 = .ok (.if_icmp .ne 9, 3) := by decide +kernel
theorem dX8_likeness_63 : decode cX8_likeness 63 = .ok (.iinc 2 1, 3) := by decide +kernel
theorem dX8_likeness_66 : decode cX8_likeness 66 = .ok (.goto (-48), 3) := by decide +kernel
theorem dX8_likeness_69 : decode cX8_likeness 69 = .ok (.iload_n 2, 1) := by decide +kernel
theorem dX8_likeness_70 : decode cX8_likeness 70 = .ok (.ireturn, 1) := by decide +kernel
theorem dX8_readArguments_0 : decode cX8_readArguments 0 = .ok (.iload_n 1, 1) := by decide +kernel
theorem dX8_readArguments_1 : decode cX8_readArguments 1 = .ok (.tableswitch 225 1 9 #[51, 157, 157, 104, 170, 170, 157, 225, 197], 51) := by decide +kernel
theorem dX8_readArguments_52 : decode cX8_readArguments 52 = .ok (.aload_n 0, 1) := by decide +kernel
theorem dX8_readArguments_53 : decode cX8_readArguments 53 = .ok (.getfield 51, 3) := by decide +kernel
theorem dX8_readArguments_56 : decode cX8_readArguments 56 = .ok (.iload_n 2, 1) := by decide +kernel
theorem dX8_readArguments_57 : decode cX8_readArguments 57 = .ok (.aload_n 0, 1) := by decide +kernel
theorem dX8_readArguments_58 : decode cX8_readArguments 58 = .ok (.invokevirtual 232, 3) := by decide +kernel
theorem dX8_readArguments_61 : decode cX8_readArguments 61 = .ok (.iastore, 1) := by decide +kernel
theorem dX8_readArguments_62 : decode cX8_readArguments 62 = .ok (.aload_n 0, 1) := by decide +kernel
theorem dX8_readArguments_63 : decode cX8_readArguments 63 = .ok (.getfield 51, 3) := by decide +kernel
theorem dX8_readArguments_66 : decode cX8_readArguments 66 = .ok (.iload_n 2, 1) := by decide +kernel
theorem dX8_readArguments_67 : decode cX8_readArguments 67 = .ok (.iconst 1, 1) := by decide +kernel
theorem dX8_readArguments_68 : decode cX8_readArguments 68 = .ok (.iadd, 1) := by decide +kernel
theorem dX8_readArguments_69 : decode cX8_readArguments 69 = .ok (.aload_n 0, 1) := by decide +kernel
theorem dX8_readArguments_70 : decode cX8_readArguments 70 = .ok (.invokevirtual 232, 3) := by decide +kernel
theorem dX8_readArguments_73 : decode cX8_readArguments 73 = .ok (.iastore, 1) := by decide +kernel
theorem dX8_readArguments_74 : decode cX8_readArguments 74 = .ok (.aload_n 0, 1) := by decide +kernel
theorem dX8_readArguments_75 : decode cX8_readArguments 75 = .ok (.getfield 51, 3) := by decide +kernel
theorem dX8_readArguments_78 : decode cX8_readArguments 78 = .ok (.iload_n 2, 1) := by decide +kernel
theorem dX8_readArguments_79 : decode cX8_readArguments 79 = .ok (.iconst 2, 1) := by decide +kernel
theorem dX8_readArguments_80 : decode cX8_readArguments 80 = .ok (.iadd, 1) := by decide +kernel
theorem dX8_readArguments_81 : decode cX8_readArguments 81 = .ok (.aload_n 0, 1) := by decide +kernel
theorem dX8_readArguments_82 : decode cX8_readArguments 82 = .ok (.bipush 32, 2) := by decide +kernel
theorem dX8_readArguments_84 : decode cX8_readArguments 84 = .ok (.invokevirtual 241, 3) := by decide +kernel
theorem dX8_readArguments_87 : decode cX8_readArguments 87 = .ok (.iastore, 1) := by decide +kernel
theorem dX8_readArguments_88 : decode cX8_readArguments 88 = .ok (.aload_n 0, 1) := by decide +kernel
theorem dX8_readArguments_89 : decode cX8_readArguments 89 = .ok (.getfield 51, 3) := by decide +kernel
theorem dX8_readArguments_92 : decode cX8_readArguments 92 = .ok (.iload_n 2, 1) := by decide +kernel
theorem dX8_readArguments_93 : decode cX8_readArguments 93 = .ok (.iconst 3, 1) := by decide +kernel
theorem dX8_readArguments_94 : decode cX8_readArguments 94 = .ok (.iadd, 1) := by decide +kernel
theorem dX8_readArguments_95 : decode cX8_readArguments 95 = .ok (.aload_n 0, 1) := by decide +kernel
theorem dX8_readArguments_96 : decode cX8_readArguments 96 = .ok (.bipush 47, 2) := by decide +kernel
theorem dX8_readArguments_98 : decode cX8_readArguments 98 = .ok (.invokevirtual 241, 3) := by decide +kernel
theorem dX8_readArguments_101 : decode cX8_readArguments 101 = .ok (.iastore, 1) := by decide +kernel
theorem dX8_readArguments_102 : decode cX8_readArguments 102 = .ok (.goto 124, 3) := by decide +kernel
theorem dX8_readArguments_105 : decode cX8_readArguments 105 = .ok (.aload_n 0, 1) := by decide +kernel
theorem dX8_readArguments_106 : decode cX8_readArguments 106 = .ok (.getfield 51, 3) := by decide +kernel
theorem dX8_readArguments_109 : decode cX8_readArguments 109 = .ok (.iload_n 2, 1) := by decide +kernel
theorem dX8_readArguments_110 : decode cX8_readArguments 110 = .ok (.aload_n 0, 1) := by decide +kernel
theorem dX8_readArguments_111 : decode cX8_readArguments 111 = .ok (.invokevirtual 232, 3) := by decide +kernel
theorem dX8_readArguments_114 : decode cX8_readArguments 114 = .ok (.iastore, 1) := by decide +kernel
theorem dX8_readArguments_115 : decode cX8_readArguments 115 = .ok (.aload_n 0, 1) := by decide +kernel
theorem dX8_readArguments_116 : decode cX8_readArguments 116 = .ok (.getfield 51, 3) := by decide +kernel
theorem dX8_readArguments_119 : decode cX8_readArguments 119 = .ok (.iload_n 2, 1) := by decide +kernel
theorem dX8_readArguments_120 : decode cX8_readArguments 120 = .ok (.iconst 1, 1) := by decide +kernel
theorem dX8_readArguments_121 : decode cX8_readArguments 121 = .ok (.iadd, 1) := by decide +kernel
theorem dX8_readArguments_122 : decode cX8_readArguments 122 = .ok (.aload_n 0, 1) := by decide +kernel
theorem dX8_readArguments_123 : decode cX8_readArguments 123 = .ok (.invokevirtual 232, 3) := by decide +kernel
theorem dX8_readArguments_126 : decode cX8_readArguments 126 = .ok (.iastore, 1) := by decide +kernel
theorem dX8_readArguments_127 : decode cX8_readArguments 127 = .ok (.aload_n 0, 1) := by decide +kernel
theorem dX8_readArguments_128 : decode cX8_readArguments 128 = .ok (.getfield 51, 3) := by decide +kernel
theorem dX8_readArguments_131 : decode cX8_readArguments 131 = .ok (.iload_n 2, 1) := by decide +kernel
theorem dX8_readArguments_132 : decode cX8_readArguments 132 = .ok (.iconst 2, 1) := by decide +kernel
theorem dX8_readArguments_133 : decode cX8_readArguments 133 = .ok (.iadd, 1) := by decide +kernel
theorem dX8_readArguments_134 : decode cX8_readArguments 134 = .ok (.aload_n 0, 1) := by decide +kernel
theorem dX8_readArguments_135 : decode cX8_readArguments 135 = .ok (.bipush 32, 2) := by decide +kernel
theorem dX8_readArguments_137 : decode cX8_readArguments 137 = .ok (.invokevirtual 241, 3) := by decide +kernel
theorem dX8_readArguments_140 : decode cX8_readArguments 140 = .ok (.iastore, 1) := by decide +kernel
theorem dX8_readArguments_141 : decode cX8_readArguments 141 = .ok (.aload_n 0, 1) := by decide +kernel
theorem dX8_readArguments_142 : decode cX8_readArguments 142 = .ok (.getfield 51, 3) := by decide +kernel
theorem dX8_readArguments_145 : decode cX8_readArguments 145 = .ok (.iload_n 2, 1) := by decide +kernel
theorem dX8_readArguments_146 : decode cX8_readArguments 146 = .ok (.iconst 3, 1) := by decide +kernel
theorem dX8_readArguments_147 : decode cX8_readArguments 147 = .ok (.iadd, 1) := by decide +kernel
theorem dX8_readArguments_148 : decode cX8_readArguments 148 = .ok (.aload_n 0, 1) := by decide +kernel
theorem dX8_readArguments_149 : decode cX8_readArguments 149 = .ok (.bipush 42, 2) := by decide +kernel
theorem dX8_readArguments_151 : decode cX8_readArguments 151 = .ok (.invokevirtual 244, 3) := by decide +kernel
theorem dX8_readArguments_154 : decode cX8_readArguments 154 = .ok (.iastore, 1) := by decide +kernel
theorem dX8_readArguments_155 : decode cX8_readArguments 155 = .ok (.goto 71, 3) := by decide +kernel
theorem dX8_readArguments_158 : decode cX8_readArguments 158 = .ok (.aload_n 0, 1) := by decide +kernel
theorem dX8_readArguments_159 : decode cX8_readArguments 159 = .ok (.getfield 51, 3) := by decide +kernel
theorem dX8_readArguments_162 : decode cX8_readArguments 162 = .ok (.iload_n 2, 1) := by decide +kernel
theorem dX8_readArguments_163 : decode cX8_readArguments 163 = .ok (.aload_n 0, 1) := by decide +kernel
theorem dX8_readArguments_164 : decode cX8_readArguments 164 = .ok (.invokevirtual 238, 3) := by decide +kernel
theorem dX8_readArguments_167 : decode cX8_readArguments 167 = .ok (.iastore, 1) := by decide +kernel
theorem dX8_readArguments_168 : decode cX8_readArguments 168 = .ok (.goto 58, 3) := by decide +kernel
theorem dX8_readArguments_171 : decode cX8_readArguments 171 = .ok (.aload_n 0, 1) := by decide +kernel
theorem dX8_readArguments_172 : decode cX8_readArguments 172 = .ok (.getfield 51, 3) := by decide +kernel
theorem dX8_readArguments_175 : decode cX8_readArguments 175 = .ok (.iload_n 2, 1) := by decide +kernel
theorem dX8_readArguments_176 : decode cX8_readArguments 176 = .ok (.aload_n 0, 1) := by decide +kernel
theorem dX8_readArguments_177 : decode cX8_readArguments 177 = .ok (.invokevirtual 238, 3) := by decide +kernel
theorem dX8_readArguments_180 : decode cX8_readArguments 180 = .ok (.iastore, 1) := by decide +kernel
theorem dX8_readArguments_181 : decode cX8_readArguments 181 = .ok (.aload_n 0, 1) := by decide +kernel
theorem dX8_readArguments_182 : decode cX8_readArguments 182 = .ok (.getfield 51, 3) := by decide +kernel
theorem dX8_readArguments_185 : decode cX8_readArguments 185 = .ok (.iload_n 2, 1) := by decide +kernel
theorem dX8_readArguments_186 : decode cX8_readArguments 186 = .ok (.iconst 1, 1) := by decide +kernel
theorem dX8_readArguments_187 : decode cX8_readArguments 187 = .ok (.iadd, 1) := by decide +kernel
theorem dX8_readArguments_188 : decode cX8_readArguments 188 = .ok (.aload_n 0, 1) := by decide +kernel
theorem dX8_readArguments_189 : decode cX8_readArguments 189 = .ok (.bipush 32, 2) := by decide +kernel
theorem dX8_readArguments_191 : decode cX8_readArguments 191 = .ok (.invokevirtual 244, 3) := by decide +kernel
theorem dX8_readArguments_194 : decode cX8_readArguments 194 = .ok (.iastore, 1) := by decide +kernel
theorem dX8_readArguments_195 : decode cX8_readArguments 195 = .ok (.goto 31, 3) := by decide +kernel
theorem dX8_readArguments_198 : decode cX8_readArguments 198 = .ok (.aload_n 0, 1) := by decide +kernel
theorem dX8_readArguments_199 : decode cX8_readArguments 199 = .ok (.getfield 51, 3) := by decide +kernel
theorem dX8_readArguments_202 : decode cX8_readArguments 202 = .ok (.iload_n 2, 1) := by decide +kernel
theorem dX8_readArguments_203 : decode cX8_readArguments 203 = .ok (.aload_n 0, 1) := by decide +kernel
theorem dX8_readArguments_204 : decode cX8_readArguments 204 = .ok (.invokevirtual 225, 3) := by decide +kernel
theorem dX8_readArguments_207 : decode cX8_readArguments 207 = .ok (.bipush 32, 2) := by decide +kernel
theorem dX8_readArguments_209 : decode cX8_readArguments 209 = .ok (.if_icmp .ne 12, 3) := by decide +kernel
theorem dX8_readArguments_212 : decode cX8_readArguments 212 = .ok (.aload_n 0, 1) := by decide +kernel
theorem dX8_readArguments_213 : decode cX8_readArguments 213 = .ok (.bipush 32, 2) := by decide +kernel
theorem dX8_readArguments_215 : decode cX8_readArguments 215 = .ok (.invokevirtual 244, 3) := by decide +kernel
theorem dX8_readArguments_218 : decode cX8_readArguments 218 = .ok (.goto 4, 3) := by decide +kernel
theorem dX8_readArguments_221 : decode cX8_readArguments 221 = .ok (.iconst 1, 1) := by decide +kernel
theorem dX8_readArguments_222 : decode cX8_readArguments 222 = .ok (.iastore, 1) := by decide +kernel
theorem dX8_readArguments_223 : decode cX8_readArguments 223 = .ok (.goto 3, 3) := by decide +kernel
theorem dX8_readArguments_226 : decode cX8_readArguments 226 = .ok (.return_, 1) := by decide +kernel
theorem dX8_readCommand_0 : decode cX8_readCommand 0 = .ok (.iconst 5, 1) := by decide +kernel
theorem dX8_readCommand_1 : decode cX8_readCommand 1 = .ok (.aload_n 0, 1) := by decide +kernel
theorem dX8_readCommand_2 : decode cX8_readCommand 2 = .ok (.getfield 247, 3) := by decide +kernel
theorem dX8_readCommand_5 : decode cX8_readCommand 5 = .ok (.imul, 1) := by decide +kernel
theorem dX8_readCommand_6 : decode cX8_readCommand 6 = .ok (.istore_n 1, 1) := by decide +kernel
theorem dX8_readCommand_7 : decode cX8_readCommand 7 = .ok (.iconst 0, 1) := by decide +kernel
theorem dX8_readCommand_8 : decode cX8_readCommand 8 = .ok (.istore_n 2, 1) := by decide +kernel
theorem dX8_readCommand_9 : decode cX8_readCommand 9 = .ok (.iconst 1, 1) := by decide +kernel
theorem dX8_readCommand_10 : decode cX8_readCommand 10 = .ok (.istore_n 3, 1) := by decide +kernel
theorem dX8_readCommand_11 : decode cX8_readCommand 11 = .ok (.iload_n 3, 1) := by decide +kernel
theorem dX8_readCommand_12 : decode cX8_readCommand 12 = .ok (.bipush 10, 2) := by decide +kernel
theorem dX8_readCommand_14 : decode cX8_readCommand 14 = .ok (.if_icmp .ge 28, 3) := by decide +kernel
theorem dX8_readCommand_17 : decode cX8_readCommand 17 = .ok (.aload_n 0, 1) := by decide +kernel
theorem dX8_readCommand_18 : decode cX8_readCommand 18 = .ok (.iload_n 3, 1) := by decide +kernel
theorem dX8_readCommand_19 : decode cX8_readCommand 19 = .ok (.invokevirtual 250, 3) := by decide +kernel
theorem dX8_readCommand_22 : decode cX8_readCommand 22 = .ok (.aload_n 0, 1) := by decide +kernel
theorem dX8_readCommand_23 : decode cX8_readCommand 23 = .ok (.iload_n 2, 1) := by decide +kernel
theorem dX8_readCommand_24 : decode cX8_readCommand 24 = .ok (.invokevirtual 250, 3) := by decide +kernel
theorem dX8_readCommand_27 : decode cX8_readCommand 27 = .ok (.if_icmp .le 7, 3) := by decide +kernel
theorem dX8_readCommand_30 : decode cX8_readCommand 30 = .ok (.iload_n 3, 1) := by decide +kernel
theorem dX8_readCommand_31 : decode cX8_readCommand 31 = .ok (.goto 4, 3) := by decide +kernel
theorem dX8_readCommand_34 : decode cX8_readCommand 34 = .ok (.iload_n 2, 1) := by decide +kernel
theorem dX8_readCommand_35 : decode cX8_readCommand 35 = .ok (.istore_n 2, 1) := by decide +kernel
theorem dX8_readCommand_36 : decode cX8_readCommand 36 = .ok (.iinc 3 1, 3) := by decide +kernel
theorem dX8_readCommand_39 : decode cX8_readCommand 39 = .ok (.goto (-28), 3) := by decide +kernel
theorem dX8_readCommand_42 : decode cX8_readCommand 42 = .ok (.aload_n 0, 1) := by decide +kernel
theorem dX8_readCommand_43 : decode cX8_readCommand 43 = .ok (.iload_n 2, 1) := by decide +kernel
theorem dX8_readCommand_44 : decode cX8_readCommand 44 = .ok (.invokevirtual 250, 3) := by decide +kernel
theorem dX8_readCommand_47 : decode cX8_readCommand 47 = .ok (.istore_n 3, 1) := by decide +kernel
theorem dX8_readCommand_48 : decode cX8_readCommand 48 = .ok (.aload_n 0, 1) := by decide +kernel
theorem dX8_readCommand_49 : decode cX8_readCommand 49 = .ok (.dup, 1) := by decide +kernel
theorem dX8_readCommand_50 : decode cX8_readCommand 50 = .ok (.getfield 215, 3) := by decide +kernel
theorem dX8_readCommand_53 : decode cX8_readCommand 53 = .ok (.iload_n 3, 1) := by decide +kernel
theorem dX8_readCommand_54 : decode cX8_readCommand 54 = .ok (.iadd, 1) := by decide +kernel
theorem dX8_readCommand_55 : decode cX8_readCommand 55 = .ok (.putfield 215, 3) := by decide +kernel
theorem dX8_readCommand_58 : decode cX8_readCommand 58 = .ok (.aload_n 0, 1) := by decide +kernel
theorem dX8_readCommand_59 : decode cX8_readCommand 59 = .ok (.iload_n 3, 1) := by decide +kernel
theorem dX8_readCommand_60 : decode cX8_readCommand 60 = .ok (.aload_n 0, 1) := by decide +kernel
theorem dX8_readCommand_61 : decode cX8_readCommand 61 = .ok (.getfield 48, 3) := by decide +kernel
theorem dX8_readCommand_64 : decode cX8_readCommand 64 = .ok (.iload_n 2, 1) := by decide +kernel
theorem dX8_readCommand_65 : decode cX8_readCommand 65 = .ok (.iconst 1, 1) := by decide +kernel
theorem dX8_readCommand_66 : decode cX8_readCommand 66 = .ok (.iadd, 1) := by decide +kernel
theorem dX8_readCommand_67 : decode cX8_readCommand 67 = .ok (.iaload, 1) := by decide +kernel
theorem dX8_readCommand_68 : decode cX8_readCommand 68 = .ok (.aload_n 0, 1) := by decide +kernel
theorem dX8_readCommand_69 : decode cX8_readCommand 69 = .ok (.getfield 48, 3) := by decide +kernel
theorem dX8_readCommand_72 : decode cX8_readCommand 72 = .ok (.iload_n 2, 1) := by decide +kernel
theorem dX8_readCommand_73 : decode cX8_readCommand 73 = .ok (.iaload, 1) := by decide +kernel
theorem dX8_readCommand_74 : decode cX8_readCommand 74 = .ok (.isub, 1) := by decide +kernel
theorem dX8_readCommand_75 : decode cX8_readCommand 75 = .ok (.if_icmp .ge 7, 3) := by decide +kernel
theorem dX8_readCommand_78 : decode cX8_readCommand 78 = .ok (.iconst 1, 1) := by decide +kernel
theorem dX8_readCommand_79 : decode cX8_readCommand 79 = .ok (.goto 4, 3) := by decide +kernel
theorem dX8_readCommand_82 : decode cX8_readCommand 82 = .ok (.iconst 0, 1) := by decide +kernel
theorem dX8_readCommand_83 : decode cX8_readCommand 83 = .ok (.putfield 221, 3) := by decide +kernel
theorem dX8_readCommand_86 : decode cX8_readCommand 86 = .ok (.aload_n 0, 1) := by decide +kernel
theorem dX8_readCommand_87 : decode cX8_readCommand 87 = .ok (.getfield 221, 3) := by decide +kernel
theorem dX8_readCommand_90 : decode cX8_readCommand 90 = .ok (.ifCond .ne 28, 3) := by decide +kernel
theorem dX8_readCommand_93 : decode cX8_readCommand 93 = .ok (.aload_n 0, 1) := by decide +kernel
theorem dX8_readCommand_94 : decode cX8_readCommand 94 = .ok (.getfield 51, 3) := by decide +kernel
theorem dX8_readCommand_97 : decode cX8_readCommand 97 = .ok (.iload_n 1, 1) := by decide +kernel
theorem dX8_readCommand_98 : decode cX8_readCommand 98 = .ok (.iload_n 2, 1) := by decide +kernel
theorem dX8_readCommand_99 : decode cX8_readCommand 99 = .ok (.iastore, 1) := by decide +kernel
theorem dX8_readCommand_100 : decode cX8_readCommand 100 = .ok (.aload_n 0, 1) := by decide +kernel
theorem dX8_readCommand_101 : decode cX8_readCommand 101 = .ok (.dup, 1) := by decide +kernel
theorem dX8_readCommand_102 : decode cX8_readCommand 102 = .ok (.getfield 247, 3) := by decide +kernel
theorem dX8_readCommand_105 : decode cX8_readCommand 105 = .ok (.iconst 1, 1) := by decide +kernel
theorem dX8_readCommand_106 : decode cX8_readCommand 106 = .ok (.iadd, 1) := by decide +kernel
theorem dX8_readCommand_107 : decode cX8_readCommand 107 = .ok (.putfield 247, 3) := by decide +kernel
theorem dX8_readCommand_110 : decode cX8_readCommand 110 = .ok (.aload_n 0, 1) := by decide +kernel
theorem dX8_readCommand_111 : decode cX8_readCommand 111 = .ok (.iload_n 2, 1) := by decide +kernel
theorem dX8_readCommand_112 : decode cX8_readCommand 112 = .ok (.iload_n 1, 1) := by decide +kernel
theorem dX8_readCommand_113 : decode cX8_readCommand 113 = .ok (.iconst 1, 1) := by decide +kernel
theorem dX8_readCommand_114 : decode cX8_readCommand 114 = .ok (.iadd, 1) := by decide +kernel
theorem dX8_readCommand_115 : decode cX8_readCommand 115 = .ok (.invokevirtual 253, 3) := by decide +kernel
theorem dX8_readCommand_118 : decode cX8_readCommand 118 = .ok (.return_, 1) := by decide +kernel
theorem dX8_does_0 : decode cX8_does 0 = .ok (.aload_n 0, 1) := by decide +kernel
theorem dX8_does_1 : decode cX8_does 1 = .ok (.getfield 51, 3) := by decide +kernel
theorem dX8_does_4 : decode cX8_does 4 = .ok (.iload_n 1, 1) := by decide +kernel
theorem dX8_does_5 : decode cX8_does 5 = .ok (.iconst 1, 1) := by decide +kernel
theorem dX8_does_6 : decode cX8_does 6 = .ok (.iadd, 1) := by decide +kernel
theorem dX8_does_7 : decode cX8_does 7 = .ok (.iaload, 1) := by decide +kernel
theorem dX8_does_8 : decode cX8_does 8 = .ok (.istore_n 2, 1) := by decide +kernel
theorem dX8_does_9 : decode cX8_does 9 = .ok (.aload_n 0, 1) := by decide +kernel
theorem dX8_does_10 : decode cX8_does 10 = .ok (.getfield 51, 3) := by decide +kernel
theorem dX8_does_13 : decode cX8_does 13 = .ok (.iload_n 1, 1) := by decide +kernel
theorem dX8_does_14 : decode cX8_does 14 = .ok (.iconst 2, 1) := by decide +kernel
theorem dX8_does_15 : decode cX8_does 15 = .ok (.iadd, 1) := by decide +kernel
theorem dX8_does_16 : decode cX8_does 16 = .ok (.iaload, 1) := by decide +kernel
theorem dX8_does_17 : decode cX8_does 17 = .ok (.istore_n 3, 1) := by decide +kernel
theorem dX8_does_18 : decode cX8_does 18 = .ok (.aload_n 0, 1) := by decide +kernel
theorem dX8_does_19 : decode cX8_does 19 = .ok (.getfield 51, 3) := by decide +kernel
theorem dX8_does_22 : decode cX8_does 22 = .ok (.iload_n 1, 1) := by decide +kernel
theorem dX8_does_23 : decode cX8_does 23 = .ok (.iconst 3, 1) := by decide +kernel
theorem dX8_does_24 : decode cX8_does 24 = .ok (.iadd, 1) := by decide +kernel
theorem dX8_does_25 : decode cX8_does 25 = .ok (.iaload, 1) := by decide +kernel
theorem dX8_does_26 : decode cX8_does 26 = .ok (.istore 4, 2) := by decide +kernel
theorem dX8_does_28 : decode cX8_does 28 = .ok (.aload_n 0, 1) := by decide +kernel
theorem dX8_does_29 : decode cX8_does 29 = .ok (.getfield 51, 3) := by decide +kernel
theorem dX8_does_32 : decode cX8_does 32 = .ok (.iload_n 1, 1) := by decide +kernel
theorem dX8_does_33 : decode cX8_does 33 = .ok (.iconst 4, 1) := by decide +kernel
theorem dX8_does_34 : decode cX8_does 34 = .ok (.iadd, 1) := by decide +kernel
theorem dX8_does_35 : decode cX8_does 35 = .ok (.iaload, 1) := by decide +kernel
theorem dX8_does_36 : decode cX8_does 36 = .ok (.istore 5, 2) := by decide +kernel
theorem dX8_does_38 : decode cX8_does 38 = .ok (.aload_n 0, 1) := by decide +kernel
theorem dX8_does_39 : decode cX8_does 39 = .ok (.getfield 51, 3) := by decide +kernel
theorem dX8_does_42 : decode cX8_does 42 = .ok (.iload_n 1, 1) := by decide +kernel
theorem dX8_does_43 : decode cX8_does 43 = .ok (.iaload, 1) := by decide +kernel
theorem dX8_does_44 : decode cX8_does 44 = .ok (.tableswitch 145 0 8 #[52, 60, 74, 84, 94, 108, 118, 128, 137], 52) := by decide +kernel
theorem dX8_does_96 : decode cX8_does 96 = .ok (.aload_n 0, 1) := by decide +kernel
theorem dX8_does_97 : decode cX8_does 97 = .ok (.invokevirtual 102, 3) := by decide +kernel
theorem dX8_does_100 : decode cX8_does 100 = .ok (.pop, 1) := by decide +kernel
theorem dX8_does_101 : decode cX8_does 101 = .ok (.goto 94, 3) := by decide +kernel
theorem dX8_does_104 : decode cX8_does 104 = .ok (.aload_n 0, 1) := by decide +kernel
theorem dX8_does_105 : decode cX8_does 105 = .ok (.iload_n 2, 1) := by decide +kernel
theorem dX8_does_106 : decode cX8_does 106 = .ok (.iload_n 3, 1) := by decide +kernel
theorem dX8_does_107 : decode cX8_does 107 = .ok (.iload 4, 2) := by decide +kernel
theorem dX8_does_109 : decode cX8_does 109 = .ok (.iload 5, 2) := by decide +kernel
theorem dX8_does_111 : decode cX8_does 111 = .ok (.invokevirtual 117, 3) := by decide +kernel
theorem dX8_does_114 : decode cX8_does 114 = .ok (.pop, 1) := by decide +kernel
theorem dX8_does_115 : decode cX8_does 115 = .ok (.goto 80, 3) := by decide +kernel
theorem dX8_does_118 : decode cX8_does 118 = .ok (.aload_n 0, 1) := by decide +kernel
theorem dX8_does_119 : decode cX8_does 119 = .ok (.iload_n 2, 1) := by decide +kernel
theorem dX8_does_120 : decode cX8_does 120 = .ok (.iconst 1, 1) := by decide +kernel
theorem dX8_does_121 : decode cX8_does 121 = .ok (.invokevirtual 127, 3) := by decide +kernel
theorem dX8_does_124 : decode cX8_does 124 = .ok (.pop, 1) := by decide +kernel
theorem dX8_does_125 : decode cX8_does 125 = .ok (.goto 70, 3) := by decide +kernel
theorem dX8_does_128 : decode cX8_does 128 = .ok (.aload_n 0, 1) := by decide +kernel
theorem dX8_does_129 : decode cX8_does 129 = .ok (.iload_n 2, 1) := by decide +kernel
theorem dX8_does_130 : decode cX8_does 130 = .ok (.iconst 0, 1) := by decide +kernel
theorem dX8_does_131 : decode cX8_does 131 = .ok (.invokevirtual 127, 3) := by decide +kernel
theorem dX8_does_134 : decode cX8_does 134 = .ok (.pop, 1) := by decide +kernel
theorem dX8_does_135 : decode cX8_does 135 = .ok (.goto 60, 3) := by decide +kernel
theorem dX8_does_138 : decode cX8_does 138 = .ok (.aload_n 0, 1) := by decide +kernel
theorem dX8_does_139 : decode cX8_does 139 = .ok (.iload_n 2, 1) := by decide +kernel
theorem dX8_does_140 : decode cX8_does 140 = .ok (.iload_n 3, 1) := by decide +kernel
theorem dX8_does_141 : decode cX8_does 141 = .ok (.iload 4, 2) := by decide +kernel
theorem dX8_does_143 : decode cX8_does 143 = .ok (.iload 5, 2) := by decide +kernel
theorem dX8_does_145 : decode cX8_does 145 = .ok (.invokevirtual 132, 3) := by decide +kernel
theorem dX8_does_148 : decode cX8_does 148 = .ok (.pop, 1) := by decide +kernel
theorem dX8_does_149 : decode cX8_does 149 = .ok (.goto 46, 3) := by decide +kernel
theorem dX8_does_152 : decode cX8_does 152 = .ok (.aload_n 0, 1) := by decide +kernel
theorem dX8_does_153 : decode cX8_does 153 = .ok (.iload_n 2, 1) := by decide +kernel
theorem dX8_does_154 : decode cX8_does 154 = .ok (.iload_n 3, 1) := by decide +kernel
theorem dX8_does_155 : decode cX8_does 155 = .ok (.invokevirtual 147, 3) := by decide +kernel
theorem dX8_does_158 : decode cX8_does 158 = .ok (.pop, 1) := by decide +kernel
theorem dX8_does_159 : decode cX8_does 159 = .ok (.goto 36, 3) := by decide +kernel
theorem dX8_does_162 : decode cX8_does 162 = .ok (.aload_n 0, 1) := by decide +kernel
theorem dX8_does_163 : decode cX8_does 163 = .ok (.iload_n 2, 1) := by decide +kernel
theorem dX8_does_164 : decode cX8_does 164 = .ok (.iload_n 3, 1) := by decide +kernel
theorem dX8_does_165 : decode cX8_does 165 = .ok (.invokevirtual 150, 3) := by decide +kernel
theorem dX8_does_168 : decode cX8_does 168 = .ok (.pop, 1) := by decide +kernel
theorem dX8_does_169 : decode cX8_does 169 = .ok (.goto 26, 3) := by decide +kernel
theorem dX8_does_172 : decode cX8_does 172 = .ok (.aload_n 0, 1) := by decide +kernel
theorem dX8_does_173 : decode cX8_does 173 = .ok (.iload_n 2, 1) := by decide +kernel
theorem dX8_does_174 : decode cX8_does 174 = .ok (.invokevirtual 157, 3) := by decide +kernel
theorem dX8_does_177 : decode cX8_does 177 = .ok (.pop, 1) := by decide +kernel
theorem dX8_does_178 : decode cX8_does 178 = .ok (.goto 17, 3) := by decide +kernel
theorem dX8_does_181 : decode cX8_does 181 = .ok (.aload_n 0, 1) := by decide +kernel
theorem dX8_does_182 : decode cX8_does 182 = .ok (.invokevirtual 163, 3) := by decide +kernel
theorem dX8_does_185 : decode cX8_does 185 = .ok (.pop, 1) := by decide +kernel
theorem dX8_does_186 : decode cX8_does 186 = .ok (.goto 9, 3) := by decide +kernel
theorem dX8_does_189 : decode cX8_does 189 = .ok (.aload_n 0, 1) := by decide +kernel
theorem dX8_does_190 : decode cX8_does 190 = .ok (.iload_n 2, 1) := by decide +kernel
theorem dX8_does_191 : decode cX8_does 191 = .ok (.invokevirtual 171, 3) := by decide +kernel
theorem dX8_does_194 : decode cX8_does 194 = .ok (.pop, 1) := by decide +kernel
theorem dX8_does_195 : decode cX8_does 195 = .ok (.return_, 1) := by decide +kernel
theorem dX8_run_0 : decode cX8_run 0 = .ok (.aload_n 0, 1) := by decide +kernel
theorem dX8_run_1 : decode cX8_run 1 = .ok (.invokevirtual 99, 3) := by decide +kernel
theorem dX8_run_4 : decode cX8_run 4 = .ok (.aload_n 0, 1) := by decide +kernel
theorem dX8_run_5 : decode cX8_run 5 = .ok (.aload_n 0, 1) := by decide +kernel
theorem dX8_run_6 : decode cX8_run 6 = .ok (.getfield 212, 3) := by decide +kernel
theorem dX8_run_9 : decode cX8_run 9 = .ok (.putfield 218, 3) := by decide +kernel
theorem dX8_run_12 : decode cX8_run 12 = .ok (.aload_n 0, 1) := by decide +kernel
theorem dX8_run_13 : decode cX8_run 13 = .ok (.iconst 0, 1) := by decide +kernel
theorem dX8_run_14 : decode cX8_run 14 = .ok (.putfield 212, 3) := by decide +kernel
theorem dX8_run_17 : decode cX8_run 17 = .ok (.aload_n 0, 1) := by decide +kernel
theorem dX8_run_18 : decode cX8_run 18 = .ok (.iconst 0, 1) := by decide +kernel
theorem dX8_run_19 : decode cX8_run 19 = .ok (.putfield 215, 3) := by decide +kernel
theorem dX8_run_22 : decode cX8_run 22 = .ok (.aload_n 0, 1) := by decide +kernel
theorem dX8_run_23 : decode cX8_run 23 = .ok (.iconst 0, 1) := by decide +kernel
theorem dX8_run_24 : decode cX8_run 24 = .ok (.putfield 247, 3) := by decide +kernel
theorem dX8_run_27 : decode cX8_run 27 = .ok (.aload_n 0, 1) := by decide +kernel
theorem dX8_run_28 : decode cX8_run 28 = .ok (.iconst 0, 1) := by decide +kernel
theorem dX8_run_29 : decode cX8_run 29 = .ok (.putfield 221, 3) := by decide +kernel
theorem dX8_run_32 : decode cX8_run 32 = .ok (.iconst 1, 1) := by decide +kernel
theorem dX8_run_33 : decode cX8_run 33 = .ok (.istore_n 1, 1) := by decide +kernel
theorem dX8_run_34 : decode cX8_run 34 = .ok (.iload_n 1, 1) := by decide +kernel
theorem dX8_run_35 : decode cX8_run 35 = .ok (.ifCond .eq 57, 3) := by decide +kernel
theorem dX8_run_38 : decode cX8_run 38 = .ok (.aload_n 0, 1) := by decide +kernel
theorem dX8_run_39 : decode cX8_run 39 = .ok (.invokevirtual 256, 3) := by decide +kernel
theorem dX8_run_42 : decode cX8_run 42 = .ok (.aload_n 0, 1) := by decide +kernel
theorem dX8_run_43 : decode cX8_run 43 = .ok (.getfield 221, 3) := by decide +kernel
theorem dX8_run_46 : decode cX8_run 46 = .ok (.ifCond .ne 18, 3) := by decide +kernel
theorem dX8_run_49 : decode cX8_run 49 = .ok (.aload_n 0, 1) := by decide +kernel
theorem dX8_run_50 : decode cX8_run 50 = .ok (.getfield 215, 3) := by decide +kernel
theorem dX8_run_53 : decode cX8_run 53 = .ok (.aload_n 0, 1) := by decide +kernel
theorem dX8_run_54 : decode cX8_run 54 = .ok (.getfield 218, 3) := by decide +kernel
theorem dX8_run_57 : decode cX8_run 57 = .ok (.if_icmp .ge 7, 3) := by decide +kernel
theorem dX8_run_60 : decode cX8_run 60 = .ok (.iconst 1, 1) := by decide +kernel
theorem dX8_run_61 : decode cX8_run 61 = .ok (.goto 4, 3) := by decide +kernel
theorem dX8_run_64 : decode cX8_run 64 = .ok (.iconst 0, 1) := by decide +kernel
theorem dX8_run_65 : decode cX8_run 65 = .ok (.istore_n 1, 1) := by decide +kernel
theorem dX8_run_66 : decode cX8_run 66 = .ok (.iload_n 1, 1) := by decide +kernel
theorem dX8_run_67 : decode cX8_run 67 = .ok (.ifCond .eq (-33), 3) := by decide +kernel
theorem dX8_run_70 : decode cX8_run 70 = .ok (.aload_n 0, 1) := by decide +kernel
theorem dX8_run_71 : decode cX8_run 71 = .ok (.bipush 59, 2) := by decide +kernel
theorem dX8_run_73 : decode cX8_run 73 = .ok (.invokevirtual 235, 3) := by decide +kernel
theorem dX8_run_76 : decode cX8_run 76 = .ok (.aload_n 0, 1) := by decide +kernel
theorem dX8_run_77 : decode cX8_run 77 = .ok (.getfield 221, 3) := by decide +kernel
theorem dX8_run_80 : decode cX8_run 80 = .ok (.ifCond .ne 7, 3) := by decide +kernel
theorem dX8_run_83 : decode cX8_run 83 = .ok (.iconst 1, 1) := by decide +kernel
theorem dX8_run_84 : decode cX8_run 84 = .ok (.goto 4, 3) := by decide +kernel
theorem dX8_run_87 : decode cX8_run 87 = .ok (.iconst 0, 1) := by decide +kernel
theorem dX8_run_88 : decode cX8_run 88 = .ok (.istore_n 1, 1) := by decide +kernel
theorem dX8_run_89 : decode cX8_run 89 = .ok (.goto (-55), 3) := by decide +kernel
theorem dX8_run_92 : decode cX8_run 92 = .ok (.aload_n 0, 1) := by decide +kernel
theorem dX8_run_93 : decode cX8_run 93 = .ok (.getfield 221, 3) := by decide +kernel
theorem dX8_run_96 : decode cX8_run 96 = .ok (.ifCond .eq 17, 3) := by decide +kernel
theorem dX8_run_99 : decode cX8_run 99 = .ok (.aload_n 0, 1) := by decide +kernel
theorem dX8_run_100 : decode cX8_run 100 = .ok (.aload_n 0, 1) := by decide +kernel
theorem dX8_run_101 : decode cX8_run 101 = .ok (.getfield 215, 3) := by decide +kernel
theorem dX8_run_104 : decode cX8_run 104 = .ok (.putfield 25, 3) := by decide +kernel
theorem dX8_run_107 : decode cX8_run 107 = .ok (.aload_n 0, 1) := by decide +kernel
theorem dX8_run_108 : decode cX8_run 108 = .ok (.iconst 1, 1) := by decide +kernel
theorem dX8_run_109 : decode cX8_run 109 = .ok (.invokevirtual 96, 3) := by decide +kernel
theorem dX8_run_112 : decode cX8_run 112 = .ok (.ireturn, 1) := by decide +kernel
theorem dX8_run_113 : decode cX8_run 113 = .ok (.iconst 0, 1) := by decide +kernel
theorem dX8_run_114 : decode cX8_run 114 = .ok (.istore_n 2, 1) := by decide +kernel
theorem dX8_run_115 : decode cX8_run 115 = .ok (.iload_n 2, 1) := by decide +kernel
theorem dX8_run_116 : decode cX8_run 116 = .ok (.aload_n 0, 1) := by decide +kernel
theorem dX8_run_117 : decode cX8_run 117 = .ok (.getfield 247, 3) := by decide +kernel
theorem dX8_run_120 : decode cX8_run 120 = .ok (.if_icmp .ge 61, 3) := by decide +kernel
theorem dX8_run_123 : decode cX8_run 123 = .ok (.aload_n 0, 1) := by decide +kernel
theorem dX8_run_124 : decode cX8_run 124 = .ok (.iconst 5, 1) := by decide +kernel
theorem dX8_run_125 : decode cX8_run 125 = .ok (.iload_n 2, 1) := by decide +kernel
theorem dX8_run_126 : decode cX8_run 126 = .ok (.imul, 1) := by decide +kernel
theorem dX8_run_127 : decode cX8_run 127 = .ok (.invokevirtual 259, 3) := by decide +kernel
theorem dX8_run_130 : decode cX8_run 130 = .ok (.aload_n 0, 1) := by decide +kernel
theorem dX8_run_131 : decode cX8_run 131 = .ok (.getfield 54, 3) := by decide +kernel
theorem dX8_run_134 : decode cX8_run 134 = .ok (.ifCond .le 41, 3) := by decide +kernel
theorem dX8_run_137 : decode cX8_run 137 = .ok (.iconst 0, 1) := by decide +kernel
theorem dX8_run_138 : decode cX8_run 138 = .ok (.istore_n 3, 1) := by decide +kernel
theorem dX8_run_139 : decode cX8_run 139 = .ok (.iload_n 3, 1) := by decide +kernel
theorem dX8_run_140 : decode cX8_run 140 = .ok (.sipush 192, 3) := by decide +kernel
theorem dX8_run_143 : decode cX8_run 143 = .ok (.if_icmp .ge 21, 3) := by decide +kernel
theorem dX8_run_146 : decode cX8_run 146 = .ok (.aload_n 0, 1) := by decide +kernel
theorem dX8_run_147 : decode cX8_run 147 = .ok (.getfield 9, 3) := by decide +kernel
theorem dX8_run_150 : decode cX8_run 150 = .ok (.iload_n 3, 1) := by decide +kernel
theorem dX8_run_151 : decode cX8_run 151 = .ok (.aload_n 0, 1) := by decide +kernel
theorem dX8_run_152 : decode cX8_run 152 = .ok (.getfield 13, 3) := by decide +kernel
theorem dX8_run_155 : decode cX8_run 155 = .ok (.iload_n 3, 1) := by decide +kernel
theorem dX8_run_156 : decode cX8_run 156 = .ok (.iaload, 1) := by decide +kernel
theorem dX8_run_157 : decode cX8_run 157 = .ok (.iastore, 1) := by decide +kernel
theorem dX8_run_158 : decode cX8_run 158 = .ok (.iinc 3 1, 3) := by decide +kernel
theorem dX8_run_161 : decode cX8_run 161 = .ok (.goto (-22), 3) := by decide +kernel
theorem dX8_run_164 : decode cX8_run 164 = .ok (.aload_n 0, 1) := by decide +kernel
theorem dX8_run_165 : decode cX8_run 165 = .ok (.iload_n 2, 1) := by decide +kernel
theorem dX8_run_166 : decode cX8_run 166 = .ok (.putfield 29, 3) := by decide +kernel
theorem dX8_run_169 : decode cX8_run 169 = .ok (.aload_n 0, 1) := by decide +kernel
theorem dX8_run_170 : decode cX8_run 170 = .ok (.iconst 2, 1) := by decide +kernel
theorem dX8_run_171 : decode cX8_run 171 = .ok (.invokevirtual 96, 3) := by decide +kernel
theorem dX8_run_174 : decode cX8_run 174 = .ok (.ireturn, 1) := by decide +kernel
theorem dX8_run_175 : decode cX8_run 175 = .ok (.iinc 2 1, 3) := by decide +kernel
theorem dX8_run_178 : decode cX8_run 178 = .ok (.goto (-63), 3) := by decide +kernel
theorem dX8_run_181 : decode cX8_run 181 = .ok (.aload_n 0, 1) := by decide +kernel
theorem dX8_run_182 : decode cX8_run 182 = .ok (.aload_n 0, 1) := by decide +kernel
theorem dX8_run_183 : decode cX8_run 183 = .ok (.getfield 247, 3) := by decide +kernel
theorem dX8_run_186 : decode cX8_run 186 = .ok (.invokevirtual 106, 3) := by decide +kernel
theorem dX8_run_189 : decode cX8_run 189 = .ok (.ireturn, 1) := by decide +kernel
theorem dX8_errorPosition_0 : decode cX8_errorPosition 0 = .ok (.aload_n 0, 1) := by decide +kernel
theorem dX8_errorPosition_1 : decode cX8_errorPosition 1 = .ok (.iconst 0, 1) := by decide +kernel
theorem dX8_errorPosition_2 : decode cX8_errorPosition 2 = .ok (.putfield 54, 3) := by decide +kernel
theorem dX8_errorPosition_5 : decode cX8_errorPosition 5 = .ok (.aload_n 0, 1) := by decide +kernel
theorem dX8_errorPosition_6 : decode cX8_errorPosition 6 = .ok (.getfield 25, 3) := by decide +kernel
theorem dX8_errorPosition_9 : decode cX8_errorPosition 9 = .ok (.iconst (-1), 1) := by decide +kernel
theorem dX8_errorPosition_10 : decode cX8_errorPosition 10 = .ok (.if_icmp .ne 11, 3) := by decide +kernel
theorem dX8_errorPosition_13 : decode cX8_errorPosition 13 = .ok (.aload_n 0, 1) := by decide +kernel
theorem dX8_errorPosition_14 : decode cX8_errorPosition 14 = .ok (.iconst 1, 1) := by decide +kernel
theorem dX8_errorPosition_15 : decode cX8_errorPosition 15 = .ok (.invokevirtual 96, 3) := by decide +kernel
theorem dX8_errorPosition_18 : decode cX8_errorPosition 18 = .ok (.goto 7, 3) := by decide +kernel
theorem dX8_errorPosition_21 : decode cX8_errorPosition 21 = .ok (.aload_n 0, 1) := by decide +kernel
theorem dX8_errorPosition_22 : decode cX8_errorPosition 22 = .ok (.getfield 25, 3) := by decide +kernel
theorem dX8_errorPosition_25 : decode cX8_errorPosition 25 = .ok (.ireturn, 1) := by decide +kernel
theorem dX8_failedCommand_0 : decode cX8_failedCommand 0 = .ok (.aload_n 0, 1) := by decide +kernel
theorem dX8_failedCommand_1 : decode cX8_failedCommand 1 = .ok (.iconst 0, 1) := by decide +kernel
theorem dX8_failedCommand_2 : decode cX8_failedCommand 2 = .ok (.putfield 54, 3) := by decide +kernel
theorem dX8_failedCommand_5 : decode cX8_failedCommand 5 = .ok (.aload_n 0, 1) := by decide +kernel
theorem dX8_failedCommand_6 : decode cX8_failedCommand 6 = .ok (.getfield 29, 3) := by decide +kernel
theorem dX8_failedCommand_9 : decode cX8_failedCommand 9 = .ok (.iconst (-1), 1) := by decide +kernel
theorem dX8_failedCommand_10 : decode cX8_failedCommand 10 = .ok (.if_icmp .ne 11, 3) := by decide +kernel
theorem dX8_failedCommand_13 : decode cX8_failedCommand 13 = .ok (.aload_n 0, 1) := by decide +kernel
theorem dX8_failedCommand_14 : decode cX8_failedCommand 14 = .ok (.iconst 1, 1) := by decide +kernel
theorem dX8_failedCommand_15 : decode cX8_failedCommand 15 = .ok (.invokevirtual 96, 3) := by decide +kernel
theorem dX8_failedCommand_18 : decode cX8_failedCommand 18 = .ok (.goto 7, 3) := by decide +kernel
theorem dX8_failedCommand_21 : decode cX8_failedCommand 21 = .ok (.aload_n 0, 1) := by decide +kernel
theorem dX8_failedCommand_22 : decode cX8_failedCommand 22 = .ok (.getfield 29, 3) := by decide +kernel
theorem dX8_failedCommand_25 : decode cX8_failedCommand 25 = .ok (.ireturn, 1) := by decide +kernel
theorem dX8_undoableCount_0 : decode cX8_undoableCount 0 = .ok (.aload_n 0, 1) := by decide +kernel
theorem dX8_undoableCount_1 : decode cX8_undoableCount 1 = .ok (.iconst 0, 1) := by decide +kernel
theorem dX8_undoableCount_2 : decode cX8_undoableCount 2 = .ok (.putfield 54, 3) := by decide +kernel
theorem dX8_undoableCount_5 : decode cX8_undoableCount 5 = .ok (.aload_n 0, 1) := by decide +kernel
theorem dX8_undoableCount_6 : decode cX8_undoableCount 6 = .ok (.getfield 57, 3) := by decide +kernel
theorem dX8_undoableCount_9 : decode cX8_undoableCount 9 = .ok (.ireturn, 1) := by decide +kernel
theorem dX8_undo_0 : decode cX8_undo 0 = .ok (.aload_n 0, 1) := by decide +kernel
theorem dX8_undo_1 : decode cX8_undo 1 = .ok (.iconst 0, 1) := by decide +kernel
theorem dX8_undo_2 : decode cX8_undo 2 = .ok (.putfield 54, 3) := by decide +kernel
theorem dX8_undo_5 : decode cX8_undo 5 = .ok (.aload_n 0, 1) := by decide +kernel
theorem dX8_undo_6 : decode cX8_undo 6 = .ok (.getfield 57, 3) := by decide +kernel
theorem dX8_undo_9 : decode cX8_undo 9 = .ok (.ifCond .ne 9, 3) := by decide +kernel
theorem dX8_undo_12 : decode cX8_undo 12 = .ok (.aload_n 0, 1) := by decide +kernel
theorem dX8_undo_13 : decode cX8_undo 13 = .ok (.iconst 1, 1) := by decide +kernel
theorem dX8_undo_14 : decode cX8_undo 14 = .ok (.invokevirtual 96, 3) := by decide +kernel
theorem dX8_undo_17 : decode cX8_undo 17 = .ok (.ireturn, 1) := by decide +kernel
theorem dX8_undo_18 : decode cX8_undo 18 = .ok (.aload_n 0, 1) := by decide +kernel
theorem dX8_undo_19 : decode cX8_undo 19 = .ok (.dup, 1) := by decide +kernel
theorem dX8_undo_20 : decode cX8_undo 20 = .ok (.getfield 57, 3) := by decide +kernel
theorem dX8_undo_23 : decode cX8_undo 23 = .ok (.iconst 1, 1) := by decide +kernel
theorem dX8_undo_24 : decode cX8_undo 24 = .ok (.isub, 1) := by decide +kernel
theorem dX8_undo_25 : decode cX8_undo 25 = .ok (.putfield 57, 3) := by decide +kernel
theorem dX8_undo_28 : decode cX8_undo 28 = .ok (.iconst 0, 1) := by decide +kernel
theorem dX8_undo_29 : decode cX8_undo 29 = .ok (.istore_n 1, 1) := by decide +kernel
theorem dX8_undo_30 : decode cX8_undo 30 = .ok (.iload_n 1, 1) := by decide +kernel
theorem dX8_undo_31 : decode cX8_undo 31 = .ok (.sipush 192, 3) := by decide +kernel
theorem dX8_undo_34 : decode cX8_undo 34 = .ok (.if_icmp .ge 30, 3) := by decide +kernel
theorem dX8_undo_37 : decode cX8_undo 37 = .ok (.aload_n 0, 1) := by decide +kernel
theorem dX8_undo_38 : decode cX8_undo 38 = .ok (.getfield 9, 3) := by decide +kernel
theorem dX8_undo_41 : decode cX8_undo 41 = .ok (.iload_n 1, 1) := by decide +kernel
theorem dX8_undo_42 : decode cX8_undo 42 = .ok (.aload_n 0, 1) := by decide +kernel
theorem dX8_undo_43 : decode cX8_undo 43 = .ok (.getfield 22, 3) := by decide +kernel
theorem dX8_undo_46 : decode cX8_undo 46 = .ok (.sipush 192, 3) := by decide +kernel
theorem dX8_undo_49 : decode cX8_undo 49 = .ok (.aload_n 0, 1) := by decide +kernel
theorem dX8_undo_50 : decode cX8_undo 50 = .ok (.getfield 57, 3) := by decide +kernel
theorem dX8_undo_53 : decode cX8_undo 53 = .ok (.imul, 1) := by decide +kernel
theorem dX8_undo_54 : decode cX8_undo 54 = .ok (.iload_n 1, 1) := by decide +kernel
theorem dX8_undo_55 : decode cX8_undo 55 = .ok (.iadd, 1) := by decide +kernel
theorem dX8_undo_56 : decode cX8_undo 56 = .ok (.iaload, 1) := by decide +kernel
theorem dX8_undo_57 : decode cX8_undo 57 = .ok (.iastore, 1) := by decide +kernel
theorem dX8_undo_58 : decode cX8_undo 58 = .ok (.iinc 1 1, 3) := by decide +kernel
theorem dX8_undo_61 : decode cX8_undo 61 = .ok (.goto (-31), 3) := by decide +kernel
theorem dX8_undo_64 : decode cX8_undo 64 = .ok (.aload_n 0, 1) := by decide +kernel
theorem dX8_undo_65 : decode cX8_undo 65 = .ok (.getfield 57, 3) := by decide +kernel
theorem dX8_undo_68 : decode cX8_undo 68 = .ok (.ireturn, 1) := by decide +kernel
theorem dX8_save_0 : decode cX8_save 0 = .ok (.aload_n 0, 1) := by decide +kernel
theorem dX8_save_1 : decode cX8_save 1 = .ok (.iconst 0, 1) := by decide +kernel
theorem dX8_save_2 : decode cX8_save 2 = .ok (.putfield 54, 3) := by decide +kernel
theorem dX8_save_5 : decode cX8_save 5 = .ok (.iconst 0, 1) := by decide +kernel
theorem dX8_save_6 : decode cX8_save 6 = .ok (.istore_n 1, 1) := by decide +kernel
theorem dX8_save_7 : decode cX8_save 7 = .ok (.iload_n 1, 1) := by decide +kernel
theorem dX8_save_8 : decode cX8_save 8 = .ok (.sipush 192, 3) := by decide +kernel
theorem dX8_save_11 : decode cX8_save 11 = .ok (.if_icmp .ge 21, 3) := by decide +kernel
theorem dX8_save_14 : decode cX8_save 14 = .ok (.aload_n 0, 1) := by decide +kernel
theorem dX8_save_15 : decode cX8_save 15 = .ok (.getfield 19, 3) := by decide +kernel
theorem dX8_save_18 : decode cX8_save 18 = .ok (.iload_n 1, 1) := by decide +kernel
theorem dX8_save_19 : decode cX8_save 19 = .ok (.aload_n 0, 1) := by decide +kernel
theorem dX8_save_20 : decode cX8_save 20 = .ok (.getfield 9, 3) := by decide +kernel
theorem dX8_save_23 : decode cX8_save 23 = .ok (.iload_n 1, 1) := by decide +kernel
theorem dX8_save_24 : decode cX8_save 24 = .ok (.iaload, 1) := by decide +kernel
theorem dX8_save_25 : decode cX8_save 25 = .ok (.iastore, 1) := by decide +kernel
theorem dX8_save_26 : decode cX8_save 26 = .ok (.iinc 1 1, 3) := by decide +kernel
theorem dX8_save_29 : decode cX8_save 29 = .ok (.goto (-22), 3) := by decide +kernel
theorem dX8_save_32 : decode cX8_save 32 = .ok (.aload_n 0, 1) := by decide +kernel
theorem dX8_save_33 : decode cX8_save 33 = .ok (.iconst 1, 1) := by decide +kernel
theorem dX8_save_34 : decode cX8_save 34 = .ok (.putfield 262, 3) := by decide +kernel
theorem dX8_save_37 : decode cX8_save 37 = .ok (.aload_n 0, 1) := by decide +kernel
theorem dX8_save_38 : decode cX8_save 38 = .ok (.getfield 9, 3) := by decide +kernel
theorem dX8_save_41 : decode cX8_save 41 = .ok (.iconst 0, 1) := by decide +kernel
theorem dX8_save_42 : decode cX8_save 42 = .ok (.iaload, 1) := by decide +kernel
theorem dX8_save_43 : decode cX8_save 43 = .ok (.ireturn, 1) := by decide +kernel
theorem dX8_restore_0 : decode cX8_restore 0 = .ok (.aload_n 0, 1) := by decide +kernel
theorem dX8_restore_1 : decode cX8_restore 1 = .ok (.iconst 0, 1) := by decide +kernel
theorem dX8_restore_2 : decode cX8_restore 2 = .ok (.putfield 54, 3) := by decide +kernel
theorem dX8_restore_5 : decode cX8_restore 5 = .ok (.aload_n 0, 1) := by decide +kernel
theorem dX8_restore_6 : decode cX8_restore 6 = .ok (.getfield 262, 3) := by decide +kernel
theorem dX8_restore_9 : decode cX8_restore 9 = .ok (.ifCond .ne 9, 3) := by decide +kernel
theorem dX8_restore_12 : decode cX8_restore 12 = .ok (.aload_n 0, 1) := by decide +kernel
theorem dX8_restore_13 : decode cX8_restore 13 = .ok (.iconst 1, 1) := by decide +kernel
theorem dX8_restore_14 : decode cX8_restore 14 = .ok (.invokevirtual 96, 3) := by decide +kernel
theorem dX8_restore_17 : decode cX8_restore 17 = .ok (.ireturn, 1) := by decide +kernel
theorem dX8_restore_18 : decode cX8_restore 18 = .ok (.iconst 0, 1) := by decide +kernel
theorem dX8_restore_19 : decode cX8_restore 19 = .ok (.istore_n 1, 1) := by decide +kernel
theorem dX8_restore_20 : decode cX8_restore 20 = .ok (.iload_n 1, 1) := by decide +kernel
theorem dX8_restore_21 : decode cX8_restore 21 = .ok (.sipush 192, 3) := by decide +kernel
theorem dX8_restore_24 : decode cX8_restore 24 = .ok (.if_icmp .ge 21, 3) := by decide +kernel
theorem dX8_restore_27 : decode cX8_restore 27 = .ok (.aload_n 0, 1) := by decide +kernel
theorem dX8_restore_28 : decode cX8_restore 28 = .ok (.getfield 9, 3) := by decide +kernel
theorem dX8_restore_31 : decode cX8_restore 31 = .ok (.iload_n 1, 1) := by decide +kernel
theorem dX8_restore_32 : decode cX8_restore 32 = .ok (.aload_n 0, 1) := by decide +kernel
theorem dX8_restore_33 : decode cX8_restore 33 = .ok (.getfield 19, 3) := by decide +kernel
theorem dX8_restore_36 : decode cX8_restore 36 = .ok (.iload_n 1, 1) := by decide +kernel
theorem dX8_restore_37 : decode cX8_restore 37 = .ok (.iaload, 1) := by decide +kernel
theorem dX8_restore_38 : decode cX8_restore 38 = .ok (.iastore, 1) := by decide +kernel
theorem dX8_restore_39 : decode cX8_restore 39 = .ok (.iinc 1 1, 3) := by decide +kernel
theorem dX8_restore_42 : decode cX8_restore 42 = .ok (.goto (-22), 3) := by decide +kernel
theorem dX8_restore_45 : decode cX8_restore 45 = .ok (.aload_n 0, 1) := by decide +kernel
theorem dX8_restore_46 : decode cX8_restore 46 = .ok (.iconst 0, 1) := by decide +kernel
theorem dX8_restore_47 : decode cX8_restore 47 = .ok (.putfield 57, 3) := by decide +kernel
theorem dX8_restore_50 : decode cX8_restore 50 = .ok (.aload_n 0, 1) := by decide +kernel
theorem dX8_restore_51 : decode cX8_restore 51 = .ok (.getfield 9, 3) := by decide +kernel
theorem dX8_restore_54 : decode cX8_restore 54 = .ok (.iconst 0, 1) := by decide +kernel
theorem dX8_restore_55 : decode cX8_restore 55 = .ok (.iaload, 1) := by decide +kernel
theorem dX8_restore_56 : decode cX8_restore 56 = .ok (.ireturn, 1) := by decide +kernel
