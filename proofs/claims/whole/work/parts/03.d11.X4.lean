theorem dX4_init_0 : decode cX4_init 0 = .ok (.aload_n 0, 1) := by decide +kernel
theorem dX4_init_1 : decode cX4_init 1 = .ok (.invokespecial 1, 3) := by decide +kernel
theorem dX4_init_4 : decode cX4_init 4 = .ok (.aload_n 0, 1) := by decide +kernel
theorem dX4_init_5 : decode cX4_init 5 = .ok (.bipush 120, 2) := by decide +kernel
theorem dX4_init_7 : decode cX4_init 7 = .ok (.newarray .int, 2) := by decide +kernel
theorem dX4_init_9 : decode cX4_init 9 = .ok (.putfield 7, 3) := by decide +kernel
theorem dX4_init_12 : decode cX4_init 12 = .ok (.aload_n 0, 1) := by decide +kernel
theorem dX4_init_13 : decode cX4_init 13 = .ok (.iconst 4, 1) := by decide +kernel
theorem dX4_init_14 : decode cX4_init 14 = .ok (.newarray .int, 2) := by decide +kernel
theorem dX4_init_16 : decode cX4_init 16 = .ok (.putfield 13, 3) := by decide +kernel
theorem dX4_init_19 : decode cX4_init 19 = .ok (.aload_n 0, 1) := by decide +kernel
theorem dX4_init_20 : decode cX4_init 20 = .ok (.bipush 6, 2) := by decide +kernel
theorem dX4_init_22 : decode cX4_init 22 = .ok (.newarray .int, 2) := by decide +kernel
theorem dX4_init_24 : decode cX4_init 24 = .ok (.putfield 16, 3) := by decide +kernel
theorem dX4_init_27 : decode cX4_init 27 = .ok (.aload_n 0, 1) := by decide +kernel
theorem dX4_init_28 : decode cX4_init 28 = .ok (.bipush 20, 2) := by decide +kernel
theorem dX4_init_30 : decode cX4_init 30 = .ok (.putfield 19, 3) := by decide +kernel
theorem dX4_init_33 : decode cX4_init 33 = .ok (.aload_n 0, 1) := by decide +kernel
theorem dX4_init_34 : decode cX4_init 34 = .ok (.bipush 20, 2) := by decide +kernel
theorem dX4_init_36 : decode cX4_init 36 = .ok (.newarray .int, 2) := by decide +kernel
theorem dX4_init_38 : decode cX4_init 38 = .ok (.putfield 23, 3) := by decide +kernel
theorem dX4_init_41 : decode cX4_init 41 = .ok (.aload_n 0, 1) := by decide +kernel
theorem dX4_init_42 : decode cX4_init 42 = .ok (.iconst 4, 1) := by decide +kernel
theorem dX4_init_43 : decode cX4_init 43 = .ok (.newarray .int, 2) := by decide +kernel
theorem dX4_init_45 : decode cX4_init 45 = .ok (.putfield 26, 3) := by decide +kernel
theorem dX4_init_48 : decode cX4_init 48 = .ok (.aload_n 0, 1) := by decide +kernel
theorem dX4_init_49 : decode cX4_init 49 = .ok (.bipush 6, 2) := by decide +kernel
theorem dX4_init_51 : decode cX4_init 51 = .ok (.newarray .int, 2) := by decide +kernel
theorem dX4_init_53 : decode cX4_init 53 = .ok (.putfield 29, 3) := by decide +kernel
theorem dX4_init_56 : decode cX4_init 56 = .ok (.aload_n 0, 1) := by decide +kernel
theorem dX4_init_57 : decode cX4_init 57 = .ok (.sipush 160, 3) := by decide +kernel
theorem dX4_init_60 : decode cX4_init 60 = .ok (.newarray .int, 2) := by decide +kernel
theorem dX4_init_62 : decode cX4_init 62 = .ok (.putfield 32, 3) := by decide +kernel
theorem dX4_init_65 : decode cX4_init 65 = .ok (.aload_n 0, 1) := by decide +kernel
theorem dX4_init_66 : decode cX4_init 66 = .ok (.bipush 18, 2) := by decide +kernel
theorem dX4_init_68 : decode cX4_init 68 = .ok (.newarray .int, 2) := by decide +kernel
theorem dX4_init_70 : decode cX4_init 70 = .ok (.dup, 1) := by decide +kernel
theorem dX4_init_71 : decode cX4_init 71 = .ok (.iconst 0, 1) := by decide +kernel
theorem dX4_init_72 : decode cX4_init 72 = .ok (.iconst 0, 1) := by decide +kernel
theorem dX4_init_73 : decode cX4_init 73 = .ok (.iastore, 1) := by decide +kernel
theorem dX4_init_74 : decode cX4_init 74 = .ok (.dup, 1) := by decide +kernel
theorem dX4_init_75 : decode cX4_init 75 = .ok (.iconst 1, 1) := by decide +kernel
theorem dX4_init_76 : decode cX4_init 76 = .ok (.iconst 3, 1) := by decide +kernel
theorem dX4_init_77 : decode cX4_init 77 = .ok (.iastore, 1) := by decide +kernel
theorem dX4_init_78 : decode cX4_init 78 = .ok (.dup, 1) := by decide +kernel
theorem dX4_init_79 : decode cX4_init 79 = .ok (.iconst 2, 1) := by decide +kernel
theorem dX4_init_80 : decode cX4_init 80 = .ok (.bipush 9, 2) := by decide +kernel
theorem dX4_init_82 : decode cX4_init 82 = .ok (.iastore, 1) := by decide +kernel
theorem dX4_init_83 : decode cX4_init 83 = .ok (.dup, 1) := by decide +kernel
theorem dX4_init_84 : decode cX4_init 84 = .ok (.iconst 3, 1) := by decide +kernel
theorem dX4_init_85 : decode cX4_init 85 = .ok (.bipush 13, 2) := by decide +kernel
theorem dX4_init_87 : decode cX4_init 87 = .ok (.iastore, 1) := by decide +kernel
theorem dX4_init_88 : decode cX4_init 88 = .ok (.dup, 1) := by decide +kernel
theorem dX4_init_89 : decode cX4_init 89 = .ok (.iconst 4, 1) := by decide +kernel
theorem dX4_init_90 : decode cX4_init 90 = .ok (.bipush 17, 2) := by decide +kernel
theorem dX4_init_92 : decode cX4_init 92 = .ok (.iastore, 1) := by decide +kernel
theorem dX4_init_93 : decode cX4_init 93 = .ok (.dup, 1) := by decide +kernel
theorem dX4_init_94 : decode cX4_init 94 = .ok (.iconst 5, 1) := by decide +kernel
theorem dX4_init_95 : decode cX4_init 95 = .ok (.bipush 20, 2) := by decide +kernel
theorem dX4_init_97 : decode cX4_init 97 = .ok (.iastore, 1) := by decide +kernel
theorem dX4_init_98 : decode cX4_init 98 = .ok (.dup, 1) := by decide +kernel
theorem dX4_init_99 : decode cX4_init 99 = .ok (.bipush 6, 2) := by decide +kernel
theorem dX4_init_101 : decode cX4_init 101 = .ok (.bipush 25, 2) := by decide +kernel
theorem dX4_init_103 : decode cX4_init 103 = .ok (.iastore, 1) := by decide +kernel
theorem dX4_init_104 : decode cX4_init 104 = .ok (.dup, 1) := by decide +kernel
theorem dX4_init_105 : decode cX4_init 105 = .ok (.bipush 7, 2) := by decide +kernel
theorem dX4_init_107 : decode cX4_init 107 = .ok (.bipush 29, 2) := by decide +kernel
theorem dX4_init_109 : decode cX4_init 109 = .ok (.iastore, 1) := by decide +kernel
theorem dX4_init_110 : decode cX4_init 110 = .ok (.dup, 1) := by decide +kernel
theorem dX4_init_111 : decode cX4_init 111 = .ok (.bipush 8, 2) := by decide +kernel
theorem dX4_init_113 : decode cX4_init 113 = .ok (.bipush 32, 2) := by decide +kernel
theorem dX4_init_115 : decode cX4_init 115 = .ok (.iastore, 1) := by decide +kernel
theorem dX4_init_116 : decode cX4_init 116 = .ok (.dup, 1) := by decide +kernel
theorem dX4_init_117 : decode cX4_init 117 = .ok (.bipush 9, 2) := by decide +kernel
theorem dX4_init_119 : decode cX4_init 119 = .ok (.bipush 40, 2) := by decide +kernel
theorem dX4_init_121 : decode cX4_init 121 = .ok (.iastore, 1) := by decide +kernel
theorem dX4_init_122 : decode cX4_init 122 = .ok (.dup, 1) := by decide +kernel
theorem dX4_init_123 : decode cX4_init 123 = .ok (.bipush 10, 2) := by decide +kernel
theorem dX4_init_125 : decode cX4_init 125 = .ok (.bipush 47, 2) := by decide +kernel
theorem dX4_init_127 : decode cX4_init 127 = .ok (.iastore, 1) := by decide +kernel
theorem dX4_init_128 : decode cX4_init 128 = .ok (.dup, 1) := by decide +kernel
theorem dX4_init_129 : decode cX4_init 129 = .ok (.bipush 11, 2) := by decide +kernel
theorem dX4_init_131 : decode cX4_init 131 = .ok (.bipush 50, 2) := by decide +kernel
theorem dX4_init_133 : decode cX4_init 133 = .ok (.iastore, 1) := by decide +kernel
theorem dX4_init_134 : decode cX4_init 134 = .ok (.dup, 1) := by decide +kernel
theorem dX4_init_135 : decode cX4_init 135 = .ok (.bipush 12, 2) := by decide +kernel
theorem dX4_init_137 : decode cX4_init 137 = .ok (.bipush 54, 2) := by decide +kernel
theorem dX4_init_139 : decode cX4_init 139 = .ok (.iastore, 1) := by decide +kernel
theorem dX4_init_140 : decode cX4_init 140 = .ok (.dup, 1) := by decide +kernel
theorem dX4_init_141 : decode cX4_init 141 = .ok (.bipush 13, 2) := by decide +kernel
theorem dX4_init_143 : decode cX4_init 143 = .ok (.bipush 59, 2) := by decide +kernel
theorem dX4_init_145 : decode cX4_init 145 = .ok (.iastore, 1) := by decide +kernel
theorem dX4_init_146 : decode cX4_init 146 = .ok (.dup, 1) := by decide +kernel
theorem dX4_init_147 : decode cX4_init 147 = .ok (.bipush 14, 2) := by decide +kernel
theorem dX4_init_149 : decode cX4_init 149 = .ok (.bipush 64, 2) := by decide +kernel
theorem dX4_init_151 : decode cX4_init 151 = .ok (.iastore, 1) := by decide +kernel
theorem dX4_init_152 : decode cX4_init 152 = .ok (.dup, 1) := by decide +kernel
theorem dX4_init_153 : decode cX4_init 153 = .ok (.bipush 15, 2) := by decide +kernel
theorem dX4_init_155 : decode cX4_init 155 = .ok (.bipush 67, 2) := by decide +kernel
theorem dX4_init_157 : decode cX4_init 157 = .ok (.iastore, 1) := by decide +kernel
theorem dX4_init_158 : decode cX4_init 158 = .ok (.dup, 1) := by decide +kernel
theorem dX4_init_159 : decode cX4_init 159 = .ok (.bipush 16, 2) := by decide +kernel
theorem dX4_init_161 : decode cX4_init 161 = .ok (.bipush 70, 2) := by decide +kernel
theorem dX4_init_163 : decode cX4_init 163 = .ok (.iastore, 1) := by decide +kernel
theorem dX4_init_164 : decode cX4_init 164 = .ok (.dup, 1) := by decide +kernel
theorem dX4_init_165 : decode cX4_init 165 = .ok (.bipush 17, 2) := by decide +kernel
theorem dX4_init_167 : decode cX4_init 167 = .ok (.bipush 74, 2) := by decide +kernel
theorem dX4_init_169 : decode cX4_init 169 = .ok (.iastore, 1) := by decide +kernel
theorem dX4_init_170 : decode cX4_init 170 = .ok (.putfield 35, 3) := by decide +kernel
theorem dX4_init_173 : decode cX4_init 173 = .ok (.aload_n 0, 1) := by decide +kernel
theorem dX4_init_174 : decode cX4_init 174 = .ok (.bipush 74, 2) := by decide +kernel
theorem dX4_init_176 : decode cX4_init 176 = .ok (.newarray .int, 2) := by decide +kernel
theorem dX4_init_178 : decode cX4_init 178 = .ok (.dup, 1) := by decide +kernel
theorem dX4_init_179 : decode cX4_init 179 = .ok (.iconst 0, 1) := by decide +kernel
theorem dX4_init_180 : decode cX4_init 180 = .ok (.bipush 111, 2) := by decide +kernel
theorem dX4_init_182 : decode cX4_init 182 = .ok (.iastore, 1) := by decide +kernel
theorem dX4_init_183 : decode cX4_init 183 = .ok (.dup, 1) := by decide +kernel
theorem dX4_init_184 : decode cX4_init 184 = .ok (.iconst 1, 1) := by decide +kernel
theorem dX4_init_185 : decode cX4_init 185 = .ok (.bipush 110, 2) := by decide +kernel
theorem dX4_init_187 : decode cX4_init 187 = .ok (.iastore, 1) := by decide +kernel
theorem dX4_init_188 : decode cX4_init 188 = .ok (.dup, 1) := by decide +kernel
theorem dX4_init_189 : decode cX4_init 189 = .ok (.iconst 2, 1) := by decide +kernel
theorem dX4_init_190 : decode cX4_init 190 = .ok (.bipush 101, 2) := by decide +kernel
theorem dX4_init_192 : decode cX4_init 192 = .ok (.iastore, 1) := by decide +kernel
theorem dX4_init_193 : decode cX4_init 193 = .ok (.dup, 1) := by decide +kernel
theorem dX4_init_194 : decode cX4_init 194 = .ok (.iconst 3, 1) := by decide +kernel
theorem dX4_init_195 : decode cX4_init 195 = .ok (.bipush 98, 2) := by decide +kernel
theorem dX4_init_197 : decode cX4_init 197 = .ok (.iastore, 1) := by decide +kernel
theorem dX4_init_198 : decode cX4_init 198 = .ok (.dup, 1) := by decide +kernel
theorem dX4_init_199 : decode cX4_init 199 = .ok (.iconst 4, 1) := by decide +kernel
theorem dX4_init_200 : decode cX4_init 200 = .ok (.bipush 111, 2) := by decide +kernel
theorem dX4_init_202 : decode cX4_init 202 = .ok (.iastore, 1) := by decide +kernel
theorem dX4_init_203 : decode cX4_init 203 = .ok (.dup, 1) := by decide +kernel
theorem dX4_init_204 : decode cX4_init 204 = .ok (.iconst 5, 1) := by decide +kernel
theorem dX4_init_205 : decode cX4_init 205 = .ok (.bipush 116, 2) := by decide +kernel
theorem dX4_init_207 : decode cX4_init 207 = .ok (.iastore, 1) := by decide +kernel
theorem dX4_init_208 : decode cX4_init 208 = .ok (.dup, 1) := by decide +kernel
theorem dX4_init_209 : decode cX4_init 209 = .ok (.bipush 6, 2) := by decide +kernel
theorem dX4_init_211 : decode cX4_init 211 = .ok (.bipush 116, 2) := by decide +kernel
theorem dX4_init_213 : decode cX4_init 213 = .ok (.iastore, 1) := by decide +kernel
theorem dX4_init_214 : decode cX4_init 214 = .ok (.dup, 1) := by decide +kernel
theorem dX4_init_215 : decode cX4_init 215 = .ok (.bipush 7, 2) := by decide +kernel
theorem dX4_init_217 : decode cX4_init 217 = .ok (.bipush 108, 2) := by decide +kernel
theorem dX4_init_219 : decode cX4_init 219 = .ok (.iastore, 1) := by decide +kernel
theorem dX4_init_220 : decode cX4_init 220 = .ok (.dup, 1) := by decide +kernel
theorem dX4_init_221 : decode cX4_init 221 = .ok (.bipush 8, 2) := by decide +kernel
theorem dX4_init_223 : decode cX4_init 223 = .ok (.bipush 101, 2) := by decide +kernel
theorem dX4_init_225 : decode cX4_init 225 = .ok (.iastore, 1) := by decide +kernel
theorem dX4_init_226 : decode cX4_init 226 = .ok (.dup, 1) := by decide +kernel
theorem dX4_init_227 : decode cX4_init 227 = .ok (.bipush 9, 2) := by decide +kernel
theorem dX4_init_229 : decode cX4_init 229 = .ok (.bipush 103, 2) := by decide +kernel
theorem dX4_init_231 : decode cX4_init 231 = .ok (.iastore, 1) := by decide +kernel
theorem dX4_init_232 : decode cX4_init 232 = .ok (.dup, 1) := by decide +kernel
theorem dX4_init_233 : decode cX4_init 233 = .ok (.bipush 10, 2) := by decide +kernel
theorem dX4_init_235 : decode cX4_init 235 = .ok (.bipush 111, 2) := by decide +kernel
theorem dX4_init_237 : decode cX4_init 237 = .ok (.iastore, 1) := by decide +kernel
theorem dX4_init_238 : decode cX4_init 238 = .ok (.dup, 1) := by decide +kernel
theorem dX4_init_239 : decode cX4_init 239 = .ok (.bipush 11, 2) := by decide +kernel
theorem dX4_init_241 : decode cX4_init 241 = .ok (.bipush 97, 2) := by decide +kernel
theorem dX4_init_243 : decode cX4_init 243 = .ok (.iastore, 1) := by decide +kernel
theorem dX4_init_244 : decode cX4_init 244 = .ok (.dup, 1) := by decide +kernel
theorem dX4_init_245 : decode cX4_init 245 = .ok (.bipush 12, 2) := by decide +kernel
theorem dX4_init_247 : decode cX4_init 247 = .ok (.bipush 108, 2) := by decide +kernel
theorem dX4_init_249 : decode cX4_init 249 = .ok (.iastore, 1) := by decide +kernel
theorem dX4_init_250 : decode cX4_init 250 = .ok (.dup, 1) := by decide +kernel
theorem dX4_init_251 : decode cX4_init 251 = .ok (.bipush 13, 2) := by decide +kernel
theorem dX4_init_253 : decode cX4_init 253 = .ok (.bipush 112, 2) := by decide +kernel
theorem dX4_init_255 : decode cX4_init 255 = .ok (.iastore, 1) := by decide +kernel
theorem dX4_init_256 : decode cX4_init 256 = .ok (.dup, 1) := by decide +kernel
theorem dX4_init_257 : decode cX4_init 257 = .ok (.bipush 14, 2) := by decide +kernel
theorem dX4_init_259 : decode cX4_init 259 = .ok (.bipush 108, 2) := by decide +kernel
theorem dX4_init_261 : decode cX4_init 261 = .ok (.iastore, 1) := by decide +kernel
theorem dX4_init_262 : decode cX4_init 262 = .ok (.dup, 1) := by decide +kernel
theorem dX4_init_263 : decode cX4_init 263 = .ok (.bipush 15, 2) := by decide +kernel
theorem dX4_init_265 : decode cX4_init 265 = .ok (.bipush 97, 2) := by decide +kernel
theorem dX4_init_267 : decode cX4_init 267 = .ok (.iastore, 1) := by decide +kernel
theorem dX4_init_268 : decode cX4_init 268 = .ok (.dup, 1) := by decide +kernel
theorem dX4_init_269 : decode cX4_init 269 = .ok (.bipush 16, 2) := by decide +kernel
theorem dX4_init_271 : decode cX4_init 271 = .ok (.bipush 110, 2) := by decide +kernel
theorem dX4_init_273 : decode cX4_init 273 = .ok (.iastore, 1) := by decide +kernel
theorem dX4_init_274 : decode cX4_init 274 = .ok (.dup, 1) := by decide +kernel
theorem dX4_init_275 : decode cX4_init 275 = .ok (.bipush 17, 2) := by decide +kernel
theorem dX4_init_277 : decode cX4_init 277 = .ok (.bipush 100, 2) := by decide +kernel
theorem dX4_init_279 : decode cX4_init 279 = .ok (.iastore, 1) := by decide +kernel
theorem dX4_init_280 : decode cX4_init 280 = .ok (.dup, 1) := by decide +kernel
theorem dX4_init_281 : decode cX4_init 281 = .ok (.bipush 18, 2) := by decide +kernel
theorem dX4_init_283 : decode cX4_init 283 = .ok (.bipush 101, 2) := by decide +kernel
theorem dX4_init_285 : decode cX4_init 285 = .ok (.iastore, 1) := by decide +kernel
theorem dX4_init_286 : decode cX4_init 286 = .ok (.dup, 1) := by decide +kernel
theorem dX4_init_287 : decode cX4_init 287 = .ok (.bipush 19, 2) := by decide +kernel
theorem dX4_init_289 : decode cX4_init 289 = .ok (.bipush 119, 2) := by decide +kernel
theorem dX4_init_291 : decode cX4_init 291 = .ok (.iastore, 1) := by decide +kernel
theorem dX4_init_292 : decode cX4_init 292 = .ok (.dup, 1) := by decide +kernel
theorem dX4_init_293 : decode cX4_init 293 = .ok (.bipush 20, 2) := by decide +kernel
theorem dX4_init_295 : decode cX4_init 295 = .ok (.bipush 102, 2) := by decide +kernel
theorem dX4_init_297 : decode cX4_init 297 = .ok (.iastore, 1) := by decide +kernel
theorem dX4_init_298 : decode cX4_init 298 = .ok (.dup, 1) := by decide +kernel
theorem dX4_init_299 : decode cX4_init 299 = .ok (.bipush 21, 2) := by decide +kernel
theorem dX4_init_301 : decode cX4_init 301 = .ok (.bipush 111, 2) := by decide +kernel
theorem dX4_init_303 : decode cX4_init 303 = .ok (.iastore, 1) := by decide +kernel
theorem dX4_init_304 : decode cX4_init 304 = .ok (.dup, 1) := by decide +kernel
theorem dX4_init_305 : decode cX4_init 305 = .ok (.bipush 22, 2) := by decide +kernel
theorem dX4_init_307 : decode cX4_init 307 = .ok (.bipush 117, 2) := by decide +kernel
theorem dX4_init_309 : decode cX4_init 309 = .ok (.iastore, 1) := by decide +kernel
theorem dX4_init_310 : decode cX4_init 310 = .ok (.dup, 1) := by decide +kernel
theorem dX4_init_311 : decode cX4_init 311 = .ok (.bipush 23, 2) := by decide +kernel
theorem dX4_init_313 : decode cX4_init 313 = .ok (.bipush 110, 2) := by decide +kernel
theorem dX4_init_315 : decode cX4_init 315 = .ok (.iastore, 1) := by decide +kernel
theorem dX4_init_316 : decode cX4_init 316 = .ok (.dup, 1) := by decide +kernel
theorem dX4_init_317 : decode cX4_init 317 = .ok (.bipush 24, 2) := by decide +kernel
theorem dX4_init_319 : decode cX4_init 319 = .ok (.bipush 100, 2) := by decide +kernel
theorem dX4_init_321 : decode cX4_init 321 = .ok (.iastore, 1) := by decide +kernel
theorem dX4_init_322 : decode cX4_init 322 = .ok (.dup, 1) := by decide +kernel
theorem dX4_init_323 : decode cX4_init 323 = .ok (.bipush 25, 2) := by decide +kernel
theorem dX4_init_325 : decode cX4_init 325 = .ok (.bipush 119, 2) := by decide +kernel
theorem dX4_init_327 : decode cX4_init 327 = .ok (.iastore, 1) := by decide +kernel
theorem dX4_init_328 : decode cX4_init 328 = .ok (.dup, 1) := by decide +kernel
theorem dX4_init_329 : decode cX4_init 329 = .ok (.bipush 26, 2) := by decide +kernel
theorem dX4_init_331 : decode cX4_init 331 = .ok (.bipush 101, 2) := by decide +kernel
theorem dX4_init_333 : decode cX4_init 333 = .ok (.iastore, 1) := by decide +kernel
theorem dX4_init_334 : decode cX4_init 334 = .ok (.dup, 1) := by decide +kernel
theorem dX4_init_335 : decode cX4_init 335 = .ok (.bipush 27, 2) := by decide +kernel
theorem dX4_init_337 : decode cX4_init 337 = .ok (.bipush 108, 2) := by decide +kernel
theorem dX4_init_339 : decode cX4_init 339 = .ok (.iastore, 1) := by decide +kernel
theorem dX4_init_340 : decode cX4_init 340 = .ok (.dup, 1) := by decide +kernel
theorem dX4_init_341 : decode cX4_init 341 = .ok (.bipush 28, 2) := by decide +kernel
theorem dX4_init_343 : decode cX4_init 343 = .ok (.bipush 108, 2) := by decide +kernel
theorem dX4_init_345 : decode cX4_init 345 = .ok (.iastore, 1) := by decide +kernel
theorem dX4_init_346 : decode cX4_init 346 = .ok (.dup, 1) := by decide +kernel
theorem dX4_init_347 : decode cX4_init 347 = .ok (.bipush 29, 2) := by decide +kernel
theorem dX4_init_349 : decode cX4_init 349 = .ok (.bipush 100, 2) := by decide +kernel
theorem dX4_init_351 : decode cX4_init 351 = .ok (.iastore, 1) := by decide +kernel
theorem dX4_init_352 : decode cX4_init 352 = .ok (.dup, 1) := by decide +kernel
theorem dX4_init_353 : decode cX4_init 353 = .ok (.bipush 30, 2) := by decide +kernel
theorem dX4_init_355 : decode cX4_init 355 = .ok (.bipush 114, 2) := by decide +kernel
theorem dX4_init_357 : decode cX4_init 357 = .ok (.iastore, 1) := by decide +kernel
theorem dX4_init_358 : decode cX4_init 358 = .ok (.dup, 1) := by decide +kernel
theorem dX4_init_359 : decode cX4_init 359 = .ok (.bipush 31, 2) := by decide +kernel
theorem dX4_init_361 : decode cX4_init 361 = .ok (.bipush 121, 2) := by decide +kernel
theorem dX4_init_363 : decode cX4_init 363 = .ok (.iastore, 1) := by decide +kernel
theorem dX4_init_364 : decode cX4_init 364 = .ok (.dup, 1) := by decide +kernel
theorem dX4_init_365 : decode cX4_init 365 = .ok (.bipush 32, 2) := by decide +kernel
theorem dX4_init_367 : decode cX4_init 367 = .ok (.bipush 109, 2) := by decide +kernel
theorem dX4_init_369 : decode cX4_init 369 = .ok (.iastore, 1) := by decide +kernel
theorem dX4_init_370 : decode cX4_init 370 = .ok (.dup, 1) := by decide +kernel
theorem dX4_init_371 : decode cX4_init 371 = .ok (.bipush 33, 2) := by decide +kernel
theorem dX4_init_373 : decode cX4_init 373 = .ok (.bipush 101, 2) := by decide +kernel
theorem dX4_init_375 : decode cX4_init 375 = .ok (.iastore, 1) := by decide +kernel
theorem dX4_init_376 : decode cX4_init 376 = .ok (.dup, 1) := by decide +kernel
theorem dX4_init_377 : decode cX4_init 377 = .ok (.bipush 34, 2) := by decide +kernel
theorem dX4_init_379 : decode cX4_init 379 = .ok (.bipush 97, 2) := by decide +kernel
theorem dX4_init_381 : decode cX4_init 381 = .ok (.iastore, 1) := by decide +kernel
theorem dX4_init_382 : decode cX4_init 382 = .ok (.dup, 1) := by decide +kernel
theorem dX4_init_383 : decode cX4_init 383 = .ok (.bipush 35, 2) := by decide +kernel
theorem dX4_init_385 : decode cX4_init 385 = .ok (.bipush 115, 2) := by decide +kernel
theorem dX4_init_387 : decode cX4_init 387 = .ok (.iastore, 1) := by decide +kernel
theorem dX4_init_388 : decode cX4_init 388 = .ok (.dup, 1) := by decide +kernel
theorem dX4_init_389 : decode cX4_init 389 = .ok (.bipush 36, 2) := by decide +kernel
theorem dX4_init_391 : decode cX4_init 391 = .ok (.bipush 117, 2) := by decide +kernel
theorem dX4_init_393 : decode cX4_init 393 = .ok (.iastore, 1) := by decide +kernel
theorem dX4_init_394 : decode cX4_init 394 = .ok (.dup, 1) := by decide +kernel
theorem dX4_init_395 : decode cX4_init 395 = .ok (.bipush 37, 2) := by decide +kernel
theorem dX4_init_397 : decode cX4_init 397 = .ok (.bipush 114, 2) := by decide +kernel
theorem dX4_init_399 : decode cX4_init 399 = .ok (.iastore, 1) := by decide +kernel
theorem dX4_init_400 : decode cX4_init 400 = .ok (.dup, 1) := by decide +kernel
theorem dX4_init_401 : decode cX4_init 401 = .ok (.bipush 38, 2) := by decide +kernel
theorem dX4_init_403 : decode cX4_init 403 = .ok (.bipush 101, 2) := by decide +kernel
theorem dX4_init_405 : decode cX4_init 405 = .ok (.iastore, 1) := by decide +kernel
theorem dX4_init_406 : decode cX4_init 406 = .ok (.dup, 1) := by decide +kernel
theorem dX4_init_407 : decode cX4_init 407 = .ok (.bipush 39, 2) := by decide +kernel
theorem dX4_init_409 : decode cX4_init 409 = .ok (.bipush 100, 2) := by decide +kernel
theorem dX4_init_411 : decode cX4_init 411 = .ok (.iastore, 1) := by decide +kernel
theorem dX4_init_412 : decode cX4_init 412 = .ok (.dup, 1) := by decide +kernel
theorem dX4_init_413 : decode cX4_init 413 = .ok (.bipush 40, 2) := by decide +kernel
theorem dX4_init_415 : decode cX4_init 415 = .ok (.bipush 116, 2) := by decide +kernel
theorem dX4_init_417 : decode cX4_init 417 = .ok (.iastore, 1) := by decide +kernel
theorem dX4_init_418 : decode cX4_init 418 = .ok (.dup, 1) := by decide +kernel
theorem dX4_init_419 : decode cX4_init 419 = .ok (.bipush 41, 2) := by decide +kernel
theorem dX4_init_421 : decode cX4_init 421 = .ok (.bipush 104, 2) := by decide +kernel
theorem dX4_init_423 : decode cX4_init 423 = .ok (.iastore, 1) := by decide +kernel
theorem dX4_init_424 : decode cX4_init 424 = .ok (.dup, 1) := by decide +kernel
theorem dX4_init_425 : decode cX4_init 425 = .ok (.bipush 42, 2) := by decide +kernel
theorem dX4_init_427 : decode cX4_init 427 = .ok (.bipush 105, 2) := by decide +kernel
theorem dX4_init_429 : decode cX4_init 429 = .ok (.iastore, 1) := by decide +kernel
theorem dX4_init_430 : decode cX4_init 430 = .ok (.dup, 1) := by decide +kernel
theorem dX4_init_431 : decode cX4_init 431 = .ok (.bipush 43, 2) := by decide +kernel
theorem dX4_init_433 : decode cX4_init 433 = .ok (.bipush 114, 2) := by decide +kernel
theorem dX4_init_435 : decode cX4_init 435 = .ok (.iastore, 1) := by decide +kernel
theorem dX4_init_436 : decode cX4_init 436 = .ok (.dup, 1) := by decide +kernel
theorem dX4_init_437 : decode cX4_init 437 = .ok (.bipush 44, 2) := by decide +kernel
theorem dX4_init_439 : decode cX4_init 439 = .ok (.bipush 115, 2) := by decide +kernel
theorem dX4_init_441 : decode cX4_init 441 = .ok (.iastore, 1) := by decide +kernel
theorem dX4_init_442 : decode cX4_init 442 = .ok (.dup, 1) := by decide +kernel
theorem dX4_init_443 : decode cX4_init 443 = .ok (.bipush 45, 2) := by decide +kernel
theorem dX4_init_445 : decode cX4_init 445 = .ok (.bipush 116, 2) := by decide +kernel
theorem dX4_init_447 : decode cX4_init 447 = .ok (.iastore, 1) := by decide +kernel
theorem dX4_init_448 : decode cX4_init 448 = .ok (.dup, 1) := by decide +kernel
theorem dX4_init_449 : decode cX4_init 449 = .ok (.bipush 46, 2) := by decide +kernel
theorem dX4_init_451 : decode cX4_init 451 = .ok (.bipush 121, 2) := by decide +kernel
theorem dX4_init_453 : decode cX4_init 453 = .ok (.iastore, 1) := by decide +kernel
theorem dX4_init_454 : decode cX4_init 454 = .ok (.dup, 1) := by decide +kernel
theorem dX4_init_455 : decode cX4_init 455 = .ok (.bipush 47, 2) := by decide +kernel
theorem dX4_init_457 : decode cX4_init 457 = .ok (.bipush 115, 2) := by decide +kernel
theorem dX4_init_459 : decode cX4_init 459 = .ok (.iastore, 1) := by decide +kernel
theorem dX4_init_460 : decode cX4_init 460 = .ok (.dup, 1) := by decide +kernel
theorem dX4_init_461 : decode cX4_init 461 = .ok (.bipush 48, 2) := by decide +kernel
theorem dX4_init_463 : decode cX4_init 463 = .ok (.bipush 108, 2) := by decide +kernel
theorem dX4_init_465 : decode cX4_init 465 = .ok (.iastore, 1) := by decide +kernel
theorem dX4_init_466 : decode cX4_init 466 = .ok (.dup, 1) := by decide +kernel
theorem dX4_init_467 : decode cX4_init 467 = .ok (.bipush 49, 2) := by decide +kernel
theorem dX4_init_469 : decode cX4_init 469 = .ok (.bipush 121, 2) := by decide +kernel
theorem dX4_init_471 : decode cX4_init 471 = .ok (.iastore, 1) := by decide +kernel
theorem dX4_init_472 : decode cX4_init 472 = .ok (.dup, 1) := by decide +kernel
theorem dX4_init_473 : decode cX4_init 473 = .ok (.bipush 50, 2) := by decide +kernel
theorem dX4_init_475 : decode cX4_init 475 = .ok (.bipush 108, 2) := by decide +kernel
theorem dX4_init_477 : decode cX4_init 477 = .ok (.iastore, 1) := by decide +kernel
theorem dX4_init_478 : decode cX4_init 478 = .ok (.dup, 1) := by decide +kernel
theorem dX4_init_479 : decode cX4_init 479 = .ok (.bipush 51, 2) := by decide +kernel
theorem dX4_init_481 : decode cX4_init 481 = .ok (.bipush 97, 2) := by decide +kernel
theorem dX4_init_483 : decode cX4_init 483 = .ok (.iastore, 1) := by decide +kernel
theorem dX4_init_484 : decode cX4_init 484 = .ok (.dup, 1) := by decide +kernel
theorem dX4_init_485 : decode cX4_init 485 = .ok (.bipush 52, 2) := by decide +kernel
theorem dX4_init_487 : decode cX4_init 487 = .ok (.bipush 115, 2) := by decide +kernel
theorem dX4_init_489 : decode cX4_init 489 = .ok (.iastore, 1) := by decide +kernel
theorem dX4_init_490 : decode cX4_init 490 = .ok (.dup, 1) := by decide +kernel
theorem dX4_init_491 : decode cX4_init 491 = .ok (.bipush 53, 2) := by decide +kernel
theorem dX4_init_493 : decode cX4_init 493 = .ok (.bipush 116, 2) := by decide +kernel
theorem dX4_init_495 : decode cX4_init 495 = .ok (.iastore, 1) := by decide +kernel
theorem dX4_init_496 : decode cX4_init 496 = .ok (.dup, 1) := by decide +kernel
theorem dX4_init_497 : decode cX4_init 497 = .ok (.bipush 54, 2) := by decide +kernel
theorem dX4_init_499 : decode cX4_init 499 = .ok (.bipush 103, 2) := by decide +kernel
theorem dX4_init_501 : decode cX4_init 501 = .ok (.iastore, 1) := by decide +kernel
theorem dX4_init_502 : decode cX4_init 502 = .ok (.dup, 1) := by decide +kernel
theorem dX4_init_503 : decode cX4_init 503 = .ok (.bipush 55, 2) := by decide +kernel
theorem dX4_init_505 : decode cX4_init 505 = .ok (.bipush 105, 2) := by decide +kernel
theorem dX4_init_507 : decode cX4_init 507 = .ok (.iastore, 1) := by decide +kernel
theorem dX4_init_508 : decode cX4_init 508 = .ok (.dup, 1) := by decide +kernel
theorem dX4_init_509 : decode cX4_init 509 = .ok (.bipush 56, 2) := by decide +kernel
theorem dX4_init_511 : decode cX4_init 511 = .ok (.bipush 118, 2) := by decide +kernel
theorem dX4_init_513 : decode cX4_init 513 = .ok (.iastore, 1) := by decide +kernel
theorem dX4_init_514 : decode cX4_init 514 = .ok (.dup, 1) := by decide +kernel
theorem dX4_init_515 : decode cX4_init 515 = .ok (.bipush 57, 2) := by decide +kernel
theorem dX4_init_517 : decode cX4_init 517 = .ok (.bipush 101, 2) := by decide +kernel
theorem dX4_init_519 : decode cX4_init 519 = .ok (.iastore, 1) := by decide +kernel
theorem dX4_init_520 : decode cX4_init 520 = .ok (.dup, 1) := by decide +kernel
theorem dX4_init_521 : decode cX4_init 521 = .ok (.bipush 58, 2) := by decide +kernel
theorem dX4_init_523 : decode cX4_init 523 = .ok (.bipush 114, 2) := by decide +kernel
theorem dX4_init_525 : decode cX4_init 525 = .ok (.iastore, 1) := by decide +kernel
theorem dX4_init_526 : decode cX4_init 526 = .ok (.dup, 1) := by decide +kernel
theorem dX4_init_527 : decode cX4_init 527 = .ok (.bipush 59, 2) := by decide +kernel
theorem dX4_init_529 : decode cX4_init 529 = .ok (.bipush 110, 2) := by decide +kernel
theorem dX4_init_531 : decode cX4_init 531 = .ok (.iastore, 1) := by decide +kernel
theorem dX4_init_532 : decode cX4_init 532 = .ok (.dup, 1) := by decide +kernel
theorem dX4_init_533 : decode cX4_init 533 = .ok (.bipush 60, 2) := by decide +kernel
theorem dX4_init_535 : decode cX4_init 535 = .ok (.bipush 105, 2) := by decide +kernel
theorem dX4_init_537 : decode cX4_init 537 = .ok (.iastore, 1) := by decide +kernel
theorem dX4_init_538 : decode cX4_init 538 = .ok (.dup, 1) := by decide +kernel
theorem dX4_init_539 : decode cX4_init 539 = .ok (.bipush 61, 2) := by decide +kernel
theorem dX4_init_541 : decode cX4_init 541 = .ok (.bipush 103, 2) := by decide +kernel
theorem dX4_init_543 : decode cX4_init 543 = .ok (.iastore, 1) := by decide +kernel
theorem dX4_init_544 : decode cX4_init 544 = .ok (.dup, 1) := by decide +kernel
theorem dX4_init_545 : decode cX4_init 545 = .ok (.bipush 62, 2) := by decide +kernel
theorem dX4_init_547 : decode cX4_init 547 = .ok (.bipush 104, 2) := by decide +kernel
theorem dX4_init_549 : decode cX4_init 549 = .ok (.iastore, 1) := by decide +kernel
theorem dX4_init_550 : decode cX4_init 550 = .ok (.dup, 1) := by decide +kernel
theorem dX4_init_551 : decode cX4_init 551 = .ok (.bipush 63, 2) := by decide +kernel
theorem dX4_init_553 : decode cX4_init 553 = .ok (.bipush 116, 2) := by decide +kernel
theorem dX4_init_555 : decode cX4_init 555 = .ok (.iastore, 1) := by decide +kernel
theorem dX4_init_556 : decode cX4_init 556 = .ok (.dup, 1) := by decide +kernel
theorem dX4_init_557 : decode cX4_init 557 = .ok (.bipush 64, 2) := by decide +kernel
theorem dX4_init_559 : decode cX4_init 559 = .ok (.bipush 100, 2) := by decide +kernel
theorem dX4_init_561 : decode cX4_init 561 = .ok (.iastore, 1) := by decide +kernel
theorem dX4_init_562 : decode cX4_init 562 = .ok (.dup, 1) := by decide +kernel
theorem dX4_init_563 : decode cX4_init 563 = .ok (.bipush 65, 2) := by decide +kernel
theorem dX4_init_565 : decode cX4_init 565 = .ok (.bipush 97, 2) := by decide +kernel
theorem dX4_init_567 : decode cX4_init 567 = .ok (.iastore, 1) := by decide +kernel
theorem dX4_init_568 : decode cX4_init 568 = .ok (.dup, 1) := by decide +kernel
theorem dX4_init_569 : decode cX4_init 569 = .ok (.bipush 66, 2) := by decide +kernel
theorem dX4_init_571 : decode cX4_init 571 = .ok (.bipush 121, 2) := by decide +kernel
theorem dX4_init_573 : decode cX4_init 573 = .ok (.iastore, 1) := by decide +kernel
theorem dX4_init_574 : decode cX4_init 574 = .ok (.dup, 1) := by decide +kernel
theorem dX4_init_575 : decode cX4_init 575 = .ok (.bipush 67, 2) := by decide +kernel
theorem dX4_init_577 : decode cX4_init 577 = .ok (.bipush 97, 2) := by decide +kernel
theorem dX4_init_579 : decode cX4_init 579 = .ok (.iastore, 1) := by decide +kernel
theorem dX4_init_580 : decode cX4_init 580 = .ok (.dup, 1) := by decide +kernel
theorem dX4_init_581 : decode cX4_init 581 = .ok (.bipush 68, 2) := by decide +kernel
theorem dX4_init_583 : decode cX4_init 583 = .ok (.bipush 108, 2) := by decide +kernel
theorem dX4_init_585 : decode cX4_init 585 = .ok (.iastore, 1) := by decide +kernel
theorem dX4_init_586 : decode cX4_init 586 = .ok (.dup, 1) := by decide +kernel
theorem dX4_init_587 : decode cX4_init 587 = .ok (.bipush 69, 2) := by decide +kernel
theorem dX4_init_589 : decode cX4_init 589 = .ok (.bipush 108, 2) := by decide +kernel
theorem dX4_init_591 : decode cX4_init 591 = .ok (.iastore, 1) := by decide +kernel
theorem dX4_init_592 : decode cX4_init 592 = .ok (.dup, 1) := by decide +kernel
theorem dX4_init_593 : decode cX4_init 593 = .ok (.bipush 70, 2) := by decide +kernel
theorem dX4_init_595 : decode cX4_init 595 = .ok (.bipush 115, 2) := by decide +kernel
theorem dX4_init_597 : decode cX4_init 597 = .ok (.iastore, 1) := by decide +kernel
theorem dX4_init_598 : decode cX4_init 598 = .ok (.dup, 1) := by decide +kernel
theorem dX4_init_599 : decode cX4_init 599 = .ok (.bipush 71, 2) := by decide +kernel
theorem dX4_init_601 : decode cX4_init 601 = .ok (.bipush 116, 2) := by decide +kernel
theorem dX4_init_603 : decode cX4_init 603 = .ok (.iastore, 1) := by decide +kernel
theorem dX4_init_604 : decode cX4_init 604 = .ok (.dup, 1) := by decide +kernel
theorem dX4_init_605 : decode cX4_init 605 = .ok (.bipush 72, 2) := by decide +kernel
theorem dX4_init_607 : decode cX4_init 607 = .ok (.bipush 97, 2) := by decide +kernel
theorem dX4_init_609 : decode cX4_init 609 = .ok (.iastore, 1) := by decide +kernel
theorem dX4_init_610 : decode cX4_init 610 = .ok (.dup, 1) := by decide +kernel
theorem dX4_init_611 : decode cX4_init 611 = .ok (.bipush 73, 2) := by decide +kernel
theorem dX4_init_613 : decode cX4_init 613 = .ok (.bipush 121, 2) := by decide +kernel
theorem dX4_init_615 : decode cX4_init 615 = .ok (.iastore, 1) := by decide +kernel
theorem dX4_init_616 : decode cX4_init 616 = .ok (.putfield 38, 3) := by decide +kernel
theorem dX4_init_619 : decode cX4_init 619 = .ok (.aload_n 0, 1) := by decide +kernel
theorem dX4_init_620 : decode cX4_init 620 = .ok (.bipush 12, 2) := by decide +kernel
theorem dX4_init_622 : decode cX4_init 622 = .ok (.newarray .int, 2) := by decide +kernel
theorem dX4_init_624 : decode cX4_init 624 = .ok (.putfield 41, 3) := by decide +kernel
theorem dX4_init_627 : decode cX4_init 627 = .ok (.aload_n 0, 1) := by decide +kernel
theorem dX4_init_628 : decode cX4_init 628 = .ok (.iconst 2, 1) := by decide +kernel
theorem dX4_init_629 : decode cX4_init 629 = .ok (.newarray .boolean, 2) := by decide +kernel
theorem dX4_init_631 : decode cX4_init 631 = .ok (.putfield 44, 3) := by decide +kernel
theorem dX4_init_634 : decode cX4_init 634 = .ok (.aload_n 0, 1) := by decide +kernel
theorem dX4_init_635 : decode cX4_init 635 = .ok (.iconst 4, 1) := by decide +kernel
theorem dX4_init_636 : decode cX4_init 636 = .ok (.newarray .int, 2) := by decide +kernel
theorem dX4_init_638 : decode cX4_init 638 = .ok (.dup, 1) := by decide +kernel
theorem dX4_init_639 : decode cX4_init 639 = .ok (.iconst 0, 1) := by decide +kernel
theorem dX4_init_640 : decode cX4_init 640 = .ok (.bipush (-4), 2) := by decide +kernel
theorem dX4_init_642 : decode cX4_init 642 = .ok (.iastore, 1) := by decide +kernel
theorem dX4_init_643 : decode cX4_init 643 = .ok (.dup, 1) := by decide +kernel
theorem dX4_init_644 : decode cX4_init 644 = .ok (.iconst 1, 1) := by decide +kernel
theorem dX4_init_645 : decode cX4_init 645 = .ok (.bipush (-4), 2) := by decide +kernel
theorem dX4_init_647 : decode cX4_init 647 = .ok (.iastore, 1) := by decide +kernel
theorem dX4_init_648 : decode cX4_init 648 = .ok (.dup, 1) := by decide +kernel
theorem dX4_init_649 : decode cX4_init 649 = .ok (.iconst 2, 1) := by decide +kernel
theorem dX4_init_650 : decode cX4_init 650 = .ok (.bipush (-4), 2) := by decide +kernel
theorem dX4_init_652 : decode cX4_init 652 = .ok (.iastore, 1) := by decide +kernel
theorem dX4_init_653 : decode cX4_init 653 = .ok (.dup, 1) := by decide +kernel
theorem dX4_init_654 : decode cX4_init 654 = .ok (.iconst 3, 1) := by decide +kernel
theorem dX4_init_655 : decode cX4_init 655 = .ok (.bipush (-4), 2) := by decide +kernel
theorem dX4_init_657 : decode cX4_init 657 = .ok (.iastore, 1) := by decide +kernel
theorem dX4_init_658 : decode cX4_init 658 = .ok (.putfield 48, 3) := by decide +kernel
theorem dX4_init_661 : decode cX4_init 661 = .ok (.aload_n 0, 1) := by decide +kernel
theorem dX4_init_662 : decode cX4_init 662 = .ok (.iconst 4, 1) := by decide +kernel
theorem dX4_init_663 : decode cX4_init 663 = .ok (.newarray .int, 2) := by decide +kernel
theorem dX4_init_665 : decode cX4_init 665 = .ok (.putfield 51, 3) := by decide +kernel
theorem dX4_init_668 : decode cX4_init 668 = .ok (.aload_n 0, 1) := by decide +kernel
theorem dX4_init_669 : decode cX4_init 669 = .ok (.sipush 160, 3) := by decide +kernel
theorem dX4_init_672 : decode cX4_init 672 = .ok (.newarray .int, 2) := by decide +kernel
theorem dX4_init_674 : decode cX4_init 674 = .ok (.putfield 54, 3) := by decide +kernel
theorem dX4_init_677 : decode cX4_init 677 = .ok (.return_, 1) := by decide +kernel
theorem dX4_in_0 : decode cX4_in 0 = .ok (.lload_n 0, 1) := by decide +kernel
theorem dX4_in_1 : decode cX4_in 1 = .ok (.lload_n 2, 1) := by decide +kernel
theorem dX4_in_2 : decode cX4_in 2 = .ok (.lcmp, 1) := by decide +kernel
theorem dX4_in_3 : decode cX4_in 3 = .ok (.ifCond .lt 14, 3) := by decide +kernel
theorem dX4_in_6 : decode cX4_in 6 = .ok (.lload_n 0, 1) := by decide +kernel
theorem dX4_in_7 : decode cX4_in 7 = .ok (.lload 4, 2) := by decide +kernel
theorem dX4_in_9 : decode cX4_in 9 = .ok (.lcmp, 1) := by decide +kernel
theorem dX4_in_10 : decode cX4_in 10 = .ok (.ifCond .gt 7, 3) := by decide +kernel
theorem dX4_in_13 : decode cX4_in 13 = .ok (.iconst 1, 1) := by decide +kernel
theorem dX4_in_14 : decode cX4_in 14 = .ok (.goto 4, 3) := by decide +kernel
theorem dX4_in_17 : decode cX4_in 17 = .ok (.iconst 0, 1) := by decide +kernel
theorem dX4_in_18 : decode cX4_in 18 = .ok (.ireturn, 1) := by decide +kernel
theorem dX4_feed_0 : decode cX4_feed 0 = .ok (.iload_n 1, 1) := by decide +kernel
theorem dX4_feed_1 : decode cX4_feed 1 = .ok (.i2l, 1) := by decide +kernel
theorem dX4_feed_2 : decode cX4_feed 2 = .ok (.lconst 0, 1) := by decide +kernel
theorem dX4_feed_3 : decode cX4_feed 3 = .ok (.ldc2_w 57, 3) := by decide +kernel
theorem dX4_feed_6 : decode cX4_feed 6 = .ok (.invokestatic 59, 3) := by decide +kernel
theorem dX4_feed_9 : decode cX4_feed 9 = .ok (.ifCond .ne 5, 3) := by decide +kernel
theorem dX4_feed_12 : decode cX4_feed 12 = .ok (.iconst (-1), 1) := by decide +kernel
theorem dX4_feed_13 : decode cX4_feed 13 = .ok (.ireturn, 1) := by decide +kernel
theorem dX4_feed_14 : decode cX4_feed 14 = .ok (.aload_n 0, 1) := by decide +kernel
theorem dX4_feed_15 : decode cX4_feed 15 = .ok (.getfield 63, 3) := by decide +kernel
theorem dX4_feed_18 : decode cX4_feed 18 = .ok (.sipush 160, 3) := by decide +kernel
theorem dX4_feed_21 : decode cX4_feed 21 = .ok (.if_icmp .ne 6, 3) := by decide +kernel
theorem dX4_feed_24 : decode cX4_feed 24 = .ok (.bipush (-3), 2) := by decide +kernel
theorem dX4_feed_26 : decode cX4_feed 26 = .ok (.ireturn, 1) := by decide +kernel
theorem dX4_feed_27 : decode cX4_feed 27 = .ok (.aload_n 0, 1) := by decide +kernel
theorem dX4_feed_28 : decode cX4_feed 28 = .ok (.getfield 32, 3) := by decide +kernel
theorem dX4_feed_31 : decode cX4_feed 31 = .ok (.aload_n 0, 1) := by decide +kernel
theorem dX4_feed_32 : decode cX4_feed 32 = .ok (.getfield 63, 3) := by decide +kernel
theorem dX4_feed_35 : decode cX4_feed 35 = .ok (.iload_n 1, 1) := by decide +kernel
theorem dX4_feed_36 : decode cX4_feed 36 = .ok (.iastore, 1) := by decide +kernel
theorem dX4_feed_37 : decode cX4_feed 37 = .ok (.aload_n 0, 1) := by decide +kernel
theorem dX4_feed_38 : decode cX4_feed 38 = .ok (.dup, 1) := by decide +kernel
theorem dX4_feed_39 : decode cX4_feed 39 = .ok (.getfield 63, 3) := by decide +kernel
theorem dX4_feed_42 : decode cX4_feed 42 = .ok (.iconst 1, 1) := by decide +kernel
theorem dX4_feed_43 : decode cX4_feed 43 = .ok (.iadd, 1) := by decide +kernel
theorem dX4_feed_44 : decode cX4_feed 44 = .ok (.putfield 63, 3) := by decide +kernel
theorem dX4_feed_47 : decode cX4_feed 47 = .ok (.aload_n 0, 1) := by decide +kernel
theorem dX4_feed_48 : decode cX4_feed 48 = .ok (.getfield 63, 3) := by decide +kernel
theorem dX4_feed_51 : decode cX4_feed 51 = .ok (.ireturn, 1) := by decide +kernel
theorem dX4_end_0 : decode cX4_end 0 = .ok (.iload_n 1, 1) := by decide +kernel
theorem dX4_end_1 : decode cX4_end 1 = .ok (.i2l, 1) := by decide +kernel
theorem dX4_end_2 : decode cX4_end 2 = .ok (.lconst 0, 1) := by decide +kernel
theorem dX4_end_3 : decode cX4_end 3 = .ok (.aload_n 0, 1) := by decide +kernel
theorem dX4_end_4 : decode cX4_end 4 = .ok (.getfield 63, 3) := by decide +kernel
theorem dX4_end_7 : decode cX4_end 7 = .ok (.i2l, 1) := by decide +kernel
theorem dX4_end_8 : decode cX4_end 8 = .ok (.invokestatic 59, 3) := by decide +kernel
theorem dX4_end_11 : decode cX4_end 11 = .ok (.ifCond .ne 5, 3) := by decide +kernel
theorem dX4_end_14 : decode cX4_end 14 = .ok (.iconst (-1), 1) := by decide +kernel
theorem dX4_end_15 : decode cX4_end 15 = .ok (.ireturn, 1) := by decide +kernel
theorem dX4_end_16 : decode cX4_end 16 = .ok (.aload_n 0, 1) := by decide +kernel
theorem dX4_end_17 : decode cX4_end 17 = .ok (.getfield 63, 3) := by decide +kernel
theorem dX4_end_20 : decode cX4_end 20 = .ok (.istore_n 2, 1) := by decide +kernel
theorem dX4_end_21 : decode cX4_end 21 = .ok (.aload_n 0, 1) := by decide +kernel
theorem dX4_end_22 : decode cX4_end 22 = .ok (.iload_n 1, 1) := by decide +kernel
theorem dX4_end_23 : decode cX4_end 23 = .ok (.putfield 63, 3) := by decide +kernel
theorem dX4_end_26 : decode cX4_end 26 = .ok (.iload_n 2, 1) := by decide +kernel
theorem dX4_end_27 : decode cX4_end 27 = .ok (.ireturn, 1) := by decide +kernel
theorem dX4_byteAt_0 : decode cX4_byteAt 0 = .ok (.iload_n 1, 1) := by decide +kernel
theorem dX4_byteAt_1 : decode cX4_byteAt 1 = .ok (.aload_n 0, 1) := by decide +kernel
theorem dX4_byteAt_2 : decode cX4_byteAt 2 = .ok (.getfield 63, 3) := by decide +kernel
theorem dX4_byteAt_5 : decode cX4_byteAt 5 = .ok (.if_icmp .ge 12, 3) := by decide +kernel
theorem dX4_byteAt_8 : decode cX4_byteAt 8 = .ok (.aload_n 0, 1) := by decide +kernel
theorem dX4_byteAt_9 : decode cX4_byteAt 9 = .ok (.getfield 32, 3) := by decide +kernel
theorem dX4_byteAt_12 : decode cX4_byteAt 12 = .ok (.iload_n 1, 1) := by decide +kernel
theorem dX4_byteAt_13 : decode cX4_byteAt 13 = .ok (.iaload, 1) := by decide +kernel
theorem dX4_byteAt_14 : decode cX4_byteAt 14 = .ok (.goto 5, 3) := by decide +kernel
theorem dX4_byteAt_17 : decode cX4_byteAt 17 = .ok (.bipush (-4), 2) := by decide +kernel
theorem dX4_byteAt_19 : decode cX4_byteAt 19 = .ok (.ireturn, 1) := by decide +kernel
theorem dX4_fails_0 : decode cX4_fails 0 = .ok (.aload_n 0, 1) := by decide +kernel
theorem dX4_fails_1 : decode cX4_fails 1 = .ok (.getfield 66, 3) := by decide +kernel
theorem dX4_fails_4 : decode cX4_fails 4 = .ok (.ifCond .ne 16, 3) := by decide +kernel
theorem dX4_fails_7 : decode cX4_fails 7 = .ok (.aload_n 0, 1) := by decide +kernel
theorem dX4_fails_8 : decode cX4_fails 8 = .ok (.iload_n 1, 1) := by decide +kernel
theorem dX4_fails_9 : decode cX4_fails 9 = .ok (.putfield 66, 3) := by decide +kernel
theorem dX4_fails_12 : decode cX4_fails 12 = .ok (.aload_n 0, 1) := by decide +kernel
theorem dX4_fails_13 : decode cX4_fails 13 = .ok (.aload_n 0, 1) := by decide +kernel
theorem dX4_fails_14 : decode cX4_fails 14 = .ok (.getfield 69, 3) := by decide +kernel
theorem dX4_fails_17 : decode cX4_fails 17 = .ok (.putfield 72, 3) := by decide +kernel
theorem dX4_fails_20 : decode cX4_fails 20 = .ok (.return_, 1) := by decide +kernel
theorem dX4_nameHere_0 : decode cX4_nameHere 0 = .ok (.iconst 0, 1) := by decide +kernel
theorem dX4_nameHere_1 : decode cX4_nameHere 1 = .ok (.istore_n 1, 1) := by decide +kernel
theorem dX4_nameHere_2 : decode cX4_nameHere 2 = .ok (.iload_n 1, 1) := by decide +kernel
theorem dX4_nameHere_3 : decode cX4_nameHere 3 = .ok (.bipush 17, 2) := by decide +kernel
theorem dX4_nameHere_5 : decode cX4_nameHere 5 = .ok (.if_icmp .ge 113, 3) := by decide +kernel
theorem dX4_nameHere_8 : decode cX4_nameHere 8 = .ok (.aload_n 0, 1) := by decide +kernel
theorem dX4_nameHere_9 : decode cX4_nameHere 9 = .ok (.getfield 75, 3) := by decide +kernel
theorem dX4_nameHere_12 : decode cX4_nameHere 12 = .ok (.iconst 1, 1) := by decide +kernel
theorem dX4_nameHere_13 : decode cX4_nameHere 13 = .ok (.if_icmp .ne 105, 3) := by decide +kernel
theorem dX4_nameHere_16 : decode cX4_nameHere 16 = .ok (.aload_n 0, 1) := by decide +kernel
theorem dX4_nameHere_17 : decode cX4_nameHere 17 = .ok (.getfield 78, 3) := by decide +kernel
theorem dX4_nameHere_20 : decode cX4_nameHere 20 = .ok (.aload_n 0, 1) := by decide +kernel
theorem dX4_nameHere_21 : decode cX4_nameHere 21 = .ok (.getfield 69, 3) := by decide +kernel
theorem dX4_nameHere_24 : decode cX4_nameHere 24 = .ok (.isub, 1) := by decide +kernel
theorem dX4_nameHere_25 : decode cX4_nameHere 25 = .ok (.aload_n 0, 1) := by decide +kernel
theorem dX4_nameHere_26 : decode cX4_nameHere 26 = .ok (.getfield 35, 3) := by decide +kernel
theorem dX4_nameHere_29 : decode cX4_nameHere 29 = .ok (.iload_n 1, 1) := by decide +kernel
theorem dX4_nameHere_30 : decode cX4_nameHere 30 = .ok (.iconst 1, 1) := by decide +kernel
theorem dX4_nameHere_31 : decode cX4_nameHere 31 = .ok (.iadd, 1) := by decide +kernel
theorem dX4_nameHere_32 : decode cX4_nameHere 32 = .ok (.iaload, 1) := by decide +kernel
theorem dX4_nameHere_33 : decode cX4_nameHere 33 = .ok (.aload_n 0, 1) := by decide +kernel
theorem dX4_nameHere_34 : decode cX4_nameHere 34 = .ok (.getfield 35, 3) := by decide +kernel
theorem dX4_nameHere_37 : decode cX4_nameHere 37 = .ok (.iload_n 1, 1) := by decide +kernel
theorem dX4_nameHere_38 : decode cX4_nameHere 38 = .ok (.iaload, 1) := by decide +kernel
theorem dX4_nameHere_39 : decode cX4_nameHere 39 = .ok (.isub, 1) := by decide +kernel
theorem dX4_nameHere_40 : decode cX4_nameHere 40 = .ok (.if_icmp .ne 7, 3) := by decide +kernel
theorem dX4_nameHere_43 : decode cX4_nameHere 43 = .ok (.iconst 1, 1) := by decide +kernel
theorem dX4_nameHere_44 : decode cX4_nameHere 44 = .ok (.goto 4, 3) := by decide +kernel
theorem dX4_nameHere_47 : decode cX4_nameHere 47 = .ok (.iconst 0, 1) := by decide +kernel
theorem dX4_nameHere_48 : decode cX4_nameHere 48 = .ok (.istore_n 2, 1) := by decide +kernel
theorem dX4_nameHere_49 : decode cX4_nameHere 49 = .ok (.iconst 0, 1) := by decide +kernel
theorem dX4_nameHere_50 : decode cX4_nameHere 50 = .ok (.istore_n 3, 1) := by decide +kernel
theorem dX4_nameHere_51 : decode cX4_nameHere 51 = .ok (.iload_n 2, 1) := by decide +kernel
theorem dX4_nameHere_52 : decode cX4_nameHere 52 = .ok (.ifCond .eq 54, 3) := by decide +kernel
theorem dX4_nameHere_55 : decode cX4_nameHere 55 = .ok (.iload_n 3, 1) := by decide +kernel
theorem dX4_nameHere_56 : decode cX4_nameHere 56 = .ok (.aload_n 0, 1) := by decide +kernel
theorem dX4_nameHere_57 : decode cX4_nameHere 57 = .ok (.getfield 78, 3) := by decide +kernel
theorem dX4_nameHere_60 : decode cX4_nameHere 60 = .ok (.aload_n 0, 1) := by decide +kernel
theorem dX4_nameHere_61 : decode cX4_nameHere 61 = .ok (.getfield 69, 3) := by decide +kernel
theorem dX4_nameHere_64 : decode cX4_nameHere 64 = .ok (.isub, 1) := by decide +kernel
theorem dX4_nameHere_65 : decode cX4_nameHere 65 = .ok (.if_icmp .ge 41, 3) := by decide +kernel
theorem dX4_nameHere_68 : decode cX4_nameHere 68 = .ok (.aload_n 0, 1) := by decide +kernel
theorem dX4_nameHere_69 : decode cX4_nameHere 69 = .ok (.aload_n 0, 1) := by decide +kernel
theorem dX4_nameHere_70 : decode cX4_nameHere 70 = .ok (.getfield 69, 3) := by decide +kernel
theorem dX4_nameHere_73 : decode cX4_nameHere 73 = .ok (.iload_n 3, 1) := by decide +kernel
theorem dX4_nameHere_74 : decode cX4_nameHere 74 = .ok (.iadd, 1) := by decide +kernel
theorem dX4_nameHere_75 : decode cX4_nameHere 75 = .ok (.invokevirtual 81, 3) := by decide +kernel
theorem dX4_nameHere_78 : decode cX4_nameHere 78 = .ok (.aload_n 0, 1) := by decide +kernel
theorem dX4_nameHere_79 : decode cX4_nameHere 79 = .ok (.getfield 38, 3) := by decide +kernel
theorem dX4_nameHere_82 : decode cX4_nameHere 82 = .ok (.aload_n 0, 1) := by decide +kernel
theorem dX4_nameHere_83 : decode cX4_nameHere 83 = .ok (.getfield 35, 3) := by decide +kernel
theorem dX4_nameHere_86 : decode cX4_nameHere 86 = .ok (.iload_n 1, 1) := by decide +kernel
theorem dX4_nameHere_87 : decode cX4_nameHere 87 = .ok (.iaload, 1) := by decide +kernel
theorem dX4_nameHere_88 : decode cX4_nameHere 88 = .ok (.iload_n 3, 1) := by decide +kernel
theorem dX4_nameHere_89 : decode cX4_nameHere 89 = .ok (.iadd, 1) := by decide +kernel
theorem dX4_nameHere_90 : decode cX4_nameHere 90 = .ok (.iaload, 1) := by decide +kernel
theorem dX4_nameHere_91 : decode cX4_nameHere 91 = .ok (.if_icmp .ne 7, 3) := by decide +kernel
theorem dX4_nameHere_94 : decode cX4_nameHere 94 = .ok (.iconst 1, 1) := by decide +kernel
theorem dX4_nameHere_95 : decode cX4_nameHere 95 = .ok (.goto 4, 3) := by decide +kernel
theorem dX4_nameHere_98 : decode cX4_nameHere 98 = .ok (.iconst 0, 1) := by decide +kernel
theorem dX4_nameHere_99 : decode cX4_nameHere 99 = .ok (.istore_n 2, 1) := by decide +kernel
theorem dX4_nameHere_100 : decode cX4_nameHere 100 = .ok (.iinc 3 1, 3) := by decide +kernel
theorem dX4_nameHere_103 : decode cX4_nameHere 103 = .ok (.goto (-52), 3) := by decide +kernel
theorem dX4_nameHere_106 : decode cX4_nameHere 106 = .ok (.iload_n 2, 1) := by decide +kernel
theorem dX4_nameHere_107 : decode cX4_nameHere 107 = .ok (.ifCond .eq 5, 3) := by decide +kernel
theorem dX4_nameHere_110 : decode cX4_nameHere 110 = .ok (.iload_n 1, 1) := by decide +kernel
theorem dX4_nameHere_111 : decode cX4_nameHere 111 = .ok (.ireturn, 1) := by decide +kernel
theorem dX4_nameHere_112 : decode cX4_nameHere 112 = .ok (.iinc 1 1, 3) := by decide +kernel
theorem dX4_nameHere_115 : decode cX4_nameHere 115 = .ok (.goto (-113), 3) := by decide +kernel
theorem dX4_nameHere_118 : decode cX4_nameHere 118 = .ok (.bipush (-4), 2) := by decide +kernel
theorem dX4_nameHere_120 : decode cX4_nameHere 120 = .ok (.ireturn, 1) := by decide +kernel
theorem dX4_step_0 : decode cX4_step 0 = .ok (.aload_n 0, 1) := by decide +kernel
theorem dX4_step_1 : decode cX4_step 1 = .ok (.getfield 66, 3) := by decide +kernel
theorem dX4_step_4 : decode cX4_step 4 = .ok (.ifCond .le 4, 3) := by decide +kernel
theorem dX4_step_7 : decode cX4_step 7 = .ok (.return_, 1) := by decide +kernel
theorem dX4_step_8 : decode cX4_step 8 = .ok (.aload_n 0, 1) := by decide +kernel
theorem dX4_step_9 : decode cX4_step 9 = .ok (.aload_n 0, 1) := by decide +kernel
theorem dX4_step_10 : decode cX4_step 10 = .ok (.getfield 78, 3) := by decide +kernel
theorem dX4_step_13 : decode cX4_step 13 = .ok (.invokevirtual 81, 3) := by decide +kernel
theorem dX4_step_16 : decode cX4_step 16 = .ok (.bipush 32, 2) := by decide +kernel
theorem dX4_step_18 : decode cX4_step 18 = .ok (.if_icmp .ne 16, 3) := by decide +kernel
theorem dX4_step_21 : decode cX4_step 21 = .ok (.aload_n 0, 1) := by decide +kernel
theorem dX4_step_22 : decode cX4_step 22 = .ok (.dup, 1) := by decide +kernel
theorem dX4_step_23 : decode cX4_step 23 = .ok (.getfield 78, 3) := by decide +kernel
theorem dX4_step_26 : decode cX4_step 26 = .ok (.iconst 1, 1) := by decide +kernel
theorem dX4_step_27 : decode cX4_step 27 = .ok (.iadd, 1) := by decide +kernel
theorem dX4_step_28 : decode cX4_step 28 = .ok (.putfield 78, 3) := by decide +kernel
theorem dX4_step_31 : decode cX4_step 31 = .ok (.goto (-23), 3) := by decide +kernel
theorem dX4_step_34 : decode cX4_step 34 = .ok (.aload_n 0, 1) := by decide +kernel
theorem dX4_step_35 : decode cX4_step 35 = .ok (.aload_n 0, 1) := by decide +kernel
theorem dX4_step_36 : decode cX4_step 36 = .ok (.getfield 78, 3) := by decide +kernel
theorem dX4_step_39 : decode cX4_step 39 = .ok (.putfield 69, 3) := by decide +kernel
theorem dX4_step_42 : decode cX4_step 42 = .ok (.aload_n 0, 1) := by decide +kernel
theorem dX4_step_43 : decode cX4_step 43 = .ok (.aload_n 0, 1) := by decide +kernel
theorem dX4_step_44 : decode cX4_step 44 = .ok (.getfield 78, 3) := by decide +kernel
theorem dX4_step_47 : decode cX4_step 47 = .ok (.invokevirtual 81, 3) := by decide +kernel
theorem dX4_step_50 : decode cX4_step 50 = .ok (.istore_n 1, 1) := by decide +kernel
theorem dX4_step_51 : decode cX4_step 51 = .ok (.aload_n 0, 1) := by decide +kernel
theorem dX4_step_52 : decode cX4_step 52 = .ok (.iconst 0, 1) := by decide +kernel
theorem dX4_step_53 : decode cX4_step 53 = .ok (.putfield 85, 3) := by decide +kernel
theorem dX4_step_56 : decode cX4_step 56 = .ok (.iload_n 1, 1) := by decide +kernel
theorem dX4_step_57 : decode cX4_step 57 = .ok (.bipush (-4), 2) := by decide +kernel
theorem dX4_step_59 : decode cX4_step 59 = .ok (.if_icmp .ne 11, 3) := by decide +kernel
theorem dX4_step_62 : decode cX4_step 62 = .ok (.aload_n 0, 1) := by decide +kernel
theorem dX4_step_63 : decode cX4_step 63 = .ok (.iconst 0, 1) := by decide +kernel
theorem dX4_step_64 : decode cX4_step 64 = .ok (.putfield 75, 3) := by decide +kernel
theorem dX4_step_67 : decode cX4_step 67 = .ok (.goto 202, 3) := by decide +kernel
theorem dX4_step_70 : decode cX4_step 70 = .ok (.iload_n 1, 1) := by decide +kernel
theorem dX4_step_71 : decode cX4_step 71 = .ok (.i2l, 1) := by decide +kernel
theorem dX4_step_72 : decode cX4_step 72 = .ok (.ldc2_w 88, 3) := by decide +kernel
theorem dX4_step_75 : decode cX4_step 75 = .ok (.ldc2_w 90, 3) := by decide +kernel
theorem dX4_step_78 : decode cX4_step 78 = .ok (.invokestatic 59, 3) := by decide +kernel
theorem dX4_step_81 : decode cX4_step 81 = .ok (.ifCond .eq 45, 3) := by decide +kernel
theorem dX4_step_84 : decode cX4_step 84 = .ok (.aload_n 0, 1) := by decide +kernel
theorem dX4_step_85 : decode cX4_step 85 = .ok (.aload_n 0, 1) := by decide +kernel
theorem dX4_step_86 : decode cX4_step 86 = .ok (.getfield 78, 3) := by decide +kernel
theorem dX4_step_89 : decode cX4_step 89 = .ok (.invokevirtual 81, 3) := by decide +kernel
theorem dX4_step_92 : decode cX4_step 92 = .ok (.i2l, 1) := by decide +kernel
theorem dX4_step_93 : decode cX4_step 93 = .ok (.ldc2_w 88, 3) := by decide +kernel
theorem dX4_step_96 : decode cX4_step 96 = .ok (.ldc2_w 90, 3) := by decide +kernel
theorem dX4_step_99 : decode cX4_step 99 = .ok (.invokestatic 59, 3) := by decide +kernel
theorem dX4_step_102 : decode cX4_step 102 = .ok (.ifCond .eq 16, 3) := by decide +kernel
theorem dX4_step_105 : decode cX4_step 105 = .ok (.aload_n 0, 1) := by decide +kernel
theorem dX4_step_106 : decode cX4_step 106 = .ok (.dup, 1) := by decide +kernel
theorem dX4_step_107 : decode cX4_step 107 = .ok (.getfield 78, 3) := by decide +kernel
theorem dX4_step_110 : decode cX4_step 110 = .ok (.iconst 1, 1) := by decide +kernel
theorem dX4_step_111 : decode cX4_step 111 = .ok (.iadd, 1) := by decide +kernel
theorem dX4_step_112 : decode cX4_step 112 = .ok (.putfield 78, 3) := by decide +kernel
theorem dX4_step_115 : decode cX4_step 115 = .ok (.goto (-31), 3) := by decide +kernel
theorem dX4_step_118 : decode cX4_step 118 = .ok (.aload_n 0, 1) := by decide +kernel
theorem dX4_step_119 : decode cX4_step 119 = .ok (.iconst 1, 1) := by decide +kernel
theorem dX4_step_120 : decode cX4_step 120 = .ok (.putfield 75, 3) := by decide +kernel
theorem dX4_step_123 : decode cX4_step 123 = .ok (.goto 146, 3) := by decide +kernel
theorem dX4_step_126 : decode cX4_step 126 = .ok (.iload_n 1, 1) := by decide +kernel
theorem dX4_step_127 : decode cX4_step 127 = .ok (.i2l, 1) := by decide +kernel
theorem dX4_step_128 : decode cX4_step 128 = .ok (.ldc2_w 92, 3) := by decide +kernel
theorem dX4_step_131 : decode cX4_step 131 = .ok (.ldc2_w 94, 3) := by decide +kernel
theorem dX4_step_134 : decode cX4_step 134 = .ok (.invokestatic 59, 3) := by decide +kernel
theorem dX4_step_137 : decode cX4_step 137 = .ok (.ifCond .eq 106, 3) := by decide +kernel
theorem dX4_step_140 : decode cX4_step 140 = .ok (.aload_n 0, 1) := by decide +kernel
theorem dX4_step_141 : decode cX4_step 141 = .ok (.aload_n 0, 1) := by decide +kernel
theorem dX4_step_142 : decode cX4_step 142 = .ok (.getfield 78, 3) := by decide +kernel
theorem dX4_step_145 : decode cX4_step 145 = .ok (.invokevirtual 81, 3) := by decide +kernel
theorem dX4_step_148 : decode cX4_step 148 = .ok (.i2l, 1) := by decide +kernel
theorem dX4_step_149 : decode cX4_step 149 = .ok (.ldc2_w 92, 3) := by decide +kernel
theorem dX4_step_152 : decode cX4_step 152 = .ok (.ldc2_w 94, 3) := by decide +kernel
theorem dX4_step_155 : decode cX4_step 155 = .ok (.invokestatic 59, 3) := by decide +kernel
theorem dX4_step_158 : decode cX4_step 158 = .ok (.ifCond .eq 59, 3) := by decide +kernel
theorem dX4_step_161 : decode cX4_step 161 = .ok (.aload_n 0, 1) := by decide +kernel
theorem dX4_step_162 : decode cX4_step 162 = .ok (.aload_n 0, 1) := by decide +kernel
theorem dX4_step_163 : decode cX4_step 163 = .ok (.getfield 78, 3) := by decide +kernel
theorem dX4_step_166 : decode cX4_step 166 = .ok (.aload_n 0, 1) := by decide +kernel
theorem dX4_step_167 : decode cX4_step 167 = .ok (.getfield 69, 3) := by decide +kernel
theorem dX4_step_170 : decode cX4_step 170 = .ok (.isub, 1) := by decide +kernel
theorem dX4_step_171 : decode cX4_step 171 = .ok (.iconst 2, 1) := by decide +kernel
theorem dX4_step_172 : decode cX4_step 172 = .ok (.if_icmp .ge 25, 3) := by decide +kernel
theorem dX4_step_175 : decode cX4_step 175 = .ok (.bipush 10, 2) := by decide +kernel
theorem dX4_step_177 : decode cX4_step 177 = .ok (.aload_n 0, 1) := by decide +kernel
theorem dX4_step_178 : decode cX4_step 178 = .ok (.getfield 85, 3) := by decide +kernel
theorem dX4_step_181 : decode cX4_step 181 = .ok (.imul, 1) := by decide +kernel
theorem dX4_step_182 : decode cX4_step 182 = .ok (.aload_n 0, 1) := by decide +kernel
theorem dX4_step_183 : decode cX4_step 183 = .ok (.aload_n 0, 1) := by decide +kernel
theorem dX4_step_184 : decode cX4_step 184 = .ok (.getfield 78, 3) := by decide +kernel
theorem dX4_step_187 : decode cX4_step 187 = .ok (.invokevirtual 81, 3) := by decide +kernel
theorem dX4_step_190 : decode cX4_step 190 = .ok (.iadd, 1) := by decide +kernel
theorem dX4_step_191 : decode cX4_step 191 = .ok (.bipush 48, 2) := by decide +kernel
theorem dX4_step_193 : decode cX4_step 193 = .ok (.isub, 1) := by decide +kernel
theorem dX4_step_194 : decode cX4_step 194 = .ok (.goto 7, 3) := by decide +kernel
theorem dX4_step_197 : decode cX4_step 197 = .ok (.aload_n 0, 1) := by decide +kernel
theorem dX4_step_198 : decode cX4_step 198 = .ok (.getfield 85, 3) := by decide +kernel
theorem dX4_step_201 : decode cX4_step 201 = .ok (.putfield 85, 3) := by decide +kernel
theorem dX4_step_204 : decode cX4_step 204 = .ok (.aload_n 0, 1) := by decide +kernel
theorem dX4_step_205 : decode cX4_step 205 = .ok (.dup, 1) := by decide +kernel
theorem dX4_step_206 : decode cX4_step 206 = .ok (.getfield 78, 3) := by decide +kernel
theorem dX4_step_209 : decode cX4_step 209 = .ok (.iconst 1, 1) := by decide +kernel
theorem dX4_step_210 : decode cX4_step 210 = .ok (.iadd, 1) := by decide +kernel
theorem dX4_step_211 : decode cX4_step 211 = .ok (.putfield 78, 3) := by decide +kernel
theorem dX4_step_214 : decode cX4_step 214 = .ok (.goto (-74), 3) := by decide +kernel
theorem dX4_step_217 : decode cX4_step 217 = .ok (.aload_n 0, 1) := by decide +kernel
theorem dX4_step_218 : decode cX4_step 218 = .ok (.iconst 2, 1) := by decide +kernel
theorem dX4_step_219 : decode cX4_step 219 = .ok (.putfield 75, 3) := by decide +kernel
theorem dX4_step_222 : decode cX4_step 222 = .ok (.aload_n 0, 1) := by decide +kernel
theorem dX4_step_223 : decode cX4_step 223 = .ok (.getfield 78, 3) := by decide +kernel
theorem dX4_step_226 : decode cX4_step 226 = .ok (.aload_n 0, 1) := by decide +kernel
theorem dX4_step_227 : decode cX4_step 227 = .ok (.getfield 69, 3) := by decide +kernel
theorem dX4_step_230 : decode cX4_step 230 = .ok (.isub, 1) := by decide +kernel
theorem dX4_step_231 : decode cX4_step 231 = .ok (.iconst 2, 1) := by decide +kernel
theorem dX4_step_232 : decode cX4_step 232 = .ok (.if_icmp .le 37, 3) := by decide +kernel
theorem dX4_step_235 : decode cX4_step 235 = .ok (.aload_n 0, 1) := by decide +kernel
theorem dX4_step_236 : decode cX4_step 236 = .ok (.iconst 1, 1) := by decide +kernel
theorem dX4_step_237 : decode cX4_step 237 = .ok (.invokevirtual 96, 3) := by decide +kernel
theorem dX4_step_240 : decode cX4_step 240 = .ok (.goto 29, 3) := by decide +kernel
theorem dX4_step_243 : decode cX4_step 243 = .ok (.aload_n 0, 1) := by decide +kernel
theorem dX4_step_244 : decode cX4_step 244 = .ok (.iconst 3, 1) := by decide +kernel
theorem dX4_step_245 : decode cX4_step 245 = .ok (.putfield 75, 3) := by decide +kernel
theorem dX4_step_248 : decode cX4_step 248 = .ok (.aload_n 0, 1) := by decide +kernel
theorem dX4_step_249 : decode cX4_step 249 = .ok (.dup, 1) := by decide +kernel
theorem dX4_step_250 : decode cX4_step 250 = .ok (.getfield 78, 3) := by decide +kernel
theorem dX4_step_253 : decode cX4_step 253 = .ok (.iconst 1, 1) := by decide +kernel
theorem dX4_step_254 : decode cX4_step 254 = .ok (.iadd, 1) := by decide +kernel
theorem dX4_step_255 : decode cX4_step 255 = .ok (.putfield 78, 3) := by decide +kernel
theorem dX4_step_258 : decode cX4_step 258 = .ok (.iload_n 1, 1) := by decide +kernel
theorem dX4_step_259 : decode cX4_step 259 = .ok (.bipush 59, 2) := by decide +kernel
theorem dX4_step_261 : decode cX4_step 261 = .ok (.if_icmp .eq 8, 3) := by decide +kernel
theorem dX4_step_264 : decode cX4_step 264 = .ok (.aload_n 0, 1) := by decide +kernel
theorem dX4_step_265 : decode cX4_step 265 = .ok (.iconst 1, 1) := by decide +kernel
theorem dX4_step_266 : decode cX4_step 266 = .ok (.invokevirtual 96, 3) := by decide +kernel
theorem dX4_step_269 : decode cX4_step 269 = .ok (.return_, 1) := by decide +kernel
theorem dX4_number_0 : decode cX4_number 0 = .ok (.aload_n 0, 1) := by decide +kernel
theorem dX4_number_1 : decode cX4_number 1 = .ok (.getfield 66, 3) := by decide +kernel
theorem dX4_number_4 : decode cX4_number 4 = .ok (.ifCond .ne 16, 3) := by decide +kernel
theorem dX4_number_7 : decode cX4_number 7 = .ok (.aload_n 0, 1) := by decide +kernel
theorem dX4_number_8 : decode cX4_number 8 = .ok (.getfield 75, 3) := by decide +kernel
theorem dX4_number_11 : decode cX4_number 11 = .ok (.iconst 2, 1) := by decide +kernel
theorem dX4_number_12 : decode cX4_number 12 = .ok (.if_icmp .eq 8, 3) := by decide +kernel
theorem dX4_number_15 : decode cX4_number 15 = .ok (.aload_n 0, 1) := by decide +kernel
theorem dX4_number_16 : decode cX4_number 16 = .ok (.iconst 2, 1) := by decide +kernel
theorem dX4_number_17 : decode cX4_number 17 = .ok (.invokevirtual 96, 3) := by decide +kernel
theorem dX4_number_20 : decode cX4_number 20 = .ok (.aload_n 0, 1) := by decide +kernel
theorem dX4_number_21 : decode cX4_number 21 = .ok (.getfield 66, 3) := by decide +kernel
theorem dX4_number_24 : decode cX4_number 24 = .ok (.ifCond .ne 23, 3) := by decide +kernel
theorem dX4_number_27 : decode cX4_number 27 = .ok (.aload_n 0, 1) := by decide +kernel
theorem dX4_number_28 : decode cX4_number 28 = .ok (.getfield 85, 3) := by decide +kernel
theorem dX4_number_31 : decode cX4_number 31 = .ok (.i2l, 1) := by decide +kernel
theorem dX4_number_32 : decode cX4_number 32 = .ok (.iload_n 1, 1) := by decide +kernel
theorem dX4_number_33 : decode cX4_number 33 = .ok (.i2l, 1) := by decide +kernel
theorem dX4_number_34 : decode cX4_number 34 = .ok (.iload_n 2, 1) := by decide +kernel
theorem dX4_number_35 : decode cX4_number 35 = .ok (.i2l, 1) := by decide +kernel
theorem dX4_number_36 : decode cX4_number 36 = .ok (.invokestatic 59, 3) := by decide +kernel
theorem dX4_number_39 : decode cX4_number 39 = .ok (.ifCond .ne 8, 3) := by decide +kernel
theorem dX4_number_42 : decode cX4_number 42 = .ok (.aload_n 0, 1) := by decide +kernel
theorem dX4_number_43 : decode cX4_number 43 = .ok (.iconst 3, 1) := by decide +kernel
theorem dX4_number_44 : decode cX4_number 44 = .ok (.invokevirtual 96, 3) := by decide +kernel
theorem dX4_number_47 : decode cX4_number 47 = .ok (.aload_n 0, 1) := by decide +kernel
theorem dX4_number_48 : decode cX4_number 48 = .ok (.getfield 66, 3) := by decide +kernel
theorem dX4_number_51 : decode cX4_number 51 = .ok (.ifCond .ne 10, 3) := by decide +kernel
theorem dX4_number_54 : decode cX4_number 54 = .ok (.aload_n 0, 1) := by decide +kernel
theorem dX4_number_55 : decode cX4_number 55 = .ok (.getfield 85, 3) := by decide +kernel
theorem dX4_number_58 : decode cX4_number 58 = .ok (.goto 4, 3) := by decide +kernel
theorem dX4_number_61 : decode cX4_number 61 = .ok (.iload_n 1, 1) := by decide +kernel
theorem dX4_number_62 : decode cX4_number 62 = .ok (.istore_n 3, 1) := by decide +kernel
theorem dX4_number_63 : decode cX4_number 63 = .ok (.aload_n 0, 1) := by decide +kernel
theorem dX4_number_64 : decode cX4_number 64 = .ok (.invokevirtual 100, 3) := by decide +kernel
theorem dX4_number_67 : decode cX4_number 67 = .ok (.iload_n 3, 1) := by decide +kernel
theorem dX4_number_68 : decode cX4_number 68 = .ok (.ireturn, 1) := by decide +kernel
theorem dX4_named_0 : decode cX4_named 0 = .ok (.aload_n 0, 1) := by decide +kernel
theorem dX4_named_1 : decode cX4_named 1 = .ok (.invokevirtual 103, 3) := by decide +kernel
theorem dX4_named_4 : decode cX4_named 4 = .ok (.iload_n 1, 1) := by decide +kernel
theorem dX4_named_5 : decode cX4_named 5 = .ok (.isub, 1) := by decide +kernel
theorem dX4_named_6 : decode cX4_named 6 = .ok (.istore_n 3, 1) := by decide +kernel
theorem dX4_named_7 : decode cX4_named 7 = .ok (.aload_n 0, 1) := by decide +kernel
theorem dX4_named_8 : decode cX4_named 8 = .ok (.getfield 66, 3) := by decide +kernel
theorem dX4_named_11 : decode cX4_named 11 = .ok (.ifCond .ne 21, 3) := by decide +kernel
theorem dX4_named_14 : decode cX4_named 14 = .ok (.iload_n 3, 1) := by decide +kernel
theorem dX4_named_15 : decode cX4_named 15 = .ok (.i2l, 1) := by decide +kernel
theorem dX4_named_16 : decode cX4_named 16 = .ok (.lconst 0, 1) := by decide +kernel
theorem dX4_named_17 : decode cX4_named 17 = .ok (.iload_n 2, 1) := by decide +kernel
theorem dX4_named_18 : decode cX4_named 18 = .ok (.iconst 1, 1) := by decide +kernel
theorem dX4_named_19 : decode cX4_named 19 = .ok (.isub, 1) := by decide +kernel
theorem dX4_named_20 : decode cX4_named 20 = .ok (.i2l, 1) := by decide +kernel
theorem dX4_named_21 : decode cX4_named 21 = .ok (.invokestatic 59, 3) := by decide +kernel
theorem dX4_named_24 : decode cX4_named 24 = .ok (.ifCond .ne 8, 3) := by decide +kernel
theorem dX4_named_27 : decode cX4_named 27 = .ok (.aload_n 0, 1) := by decide +kernel
theorem dX4_named_28 : decode cX4_named 28 = .ok (.iconst 2, 1) := by decide +kernel
theorem dX4_named_29 : decode cX4_named 29 = .ok (.invokevirtual 96, 3) := by decide +kernel
theorem dX4_named_32 : decode cX4_named 32 = .ok (.aload_n 0, 1) := by decide +kernel
theorem dX4_named_33 : decode cX4_named 33 = .ok (.invokevirtual 100, 3) := by decide +kernel
theorem dX4_named_36 : decode cX4_named 36 = .ok (.iload_n 3, 1) := by decide +kernel
theorem dX4_named_37 : decode cX4_named 37 = .ok (.i2l, 1) := by decide +kernel
theorem dX4_named_38 : decode cX4_named 38 = .ok (.lconst 0, 1) := by decide +kernel
theorem dX4_named_39 : decode cX4_named 39 = .ok (.iload_n 2, 1) := by decide +kernel
theorem dX4_named_40 : decode cX4_named 40 = .ok (.iconst 1, 1) := by decide +kernel
theorem dX4_named_41 : decode cX4_named 41 = .ok (.isub, 1) := by decide +kernel
theorem dX4_named_42 : decode cX4_named 42 = .ok (.i2l, 1) := by decide +kernel
theorem dX4_named_43 : decode cX4_named 43 = .ok (.invokestatic 59, 3) := by decide +kernel
theorem dX4_named_46 : decode cX4_named 46 = .ok (.ifCond .eq 7, 3) := by decide +kernel
theorem dX4_named_49 : decode cX4_named 49 = .ok (.iload_n 3, 1) := by decide +kernel
theorem dX4_named_50 : decode cX4_named 50 = .ok (.goto 4, 3) := by decide +kernel
theorem dX4_named_53 : decode cX4_named 53 = .ok (.iconst 0, 1) := by decide +kernel
theorem dX4_named_54 : decode cX4_named 54 = .ok (.ireturn, 1) := by decide +kernel
theorem dX4_readOnce_0 : decode cX4_readOnce 0 = .ok (.iload_n 1, 1) := by decide +kernel
theorem dX4_readOnce_1 : decode cX4_readOnce 1 = .ok (.iconst 1, 1) := by decide +kernel
theorem dX4_readOnce_2 : decode cX4_readOnce 2 = .ok (.if_icmp .ne 20, 3) := by decide +kernel
theorem dX4_readOnce_5 : decode cX4_readOnce 5 = .ok (.aload_n 0, 1) := by decide +kernel
theorem dX4_readOnce_6 : decode cX4_readOnce 6 = .ok (.getfield 23, 3) := by decide +kernel
theorem dX4_readOnce_9 : decode cX4_readOnce 9 = .ok (.bipush 8, 2) := by decide +kernel
theorem dX4_readOnce_11 : decode cX4_readOnce 11 = .ok (.aload_n 0, 1) := by decide +kernel
theorem dX4_readOnce_12 : decode cX4_readOnce 12 = .ok (.iconst 0, 1) := by decide +kernel
theorem dX4_readOnce_13 : decode cX4_readOnce 13 = .ok (.bipush 60, 2) := by decide +kernel
theorem dX4_readOnce_15 : decode cX4_readOnce 15 = .ok (.invokevirtual 107, 3) := by decide +kernel
theorem dX4_readOnce_18 : decode cX4_readOnce 18 = .ok (.iastore, 1) := by decide +kernel
theorem dX4_readOnce_19 : decode cX4_readOnce 19 = .ok (.goto 97, 3) := by decide +kernel
theorem dX4_readOnce_22 : decode cX4_readOnce 22 = .ok (.iload_n 1, 1) := by decide +kernel
theorem dX4_readOnce_23 : decode cX4_readOnce 23 = .ok (.iconst 2, 1) := by decide +kernel
theorem dX4_readOnce_24 : decode cX4_readOnce 24 = .ok (.if_icmp .ne 34, 3) := by decide +kernel
theorem dX4_readOnce_27 : decode cX4_readOnce 27 = .ok (.aload_n 0, 1) := by decide +kernel
theorem dX4_readOnce_28 : decode cX4_readOnce 28 = .ok (.aload_n 0, 1) := by decide +kernel
theorem dX4_readOnce_29 : decode cX4_readOnce 29 = .ok (.iconst 0, 1) := by decide +kernel
theorem dX4_readOnce_30 : decode cX4_readOnce 30 = .ok (.bipush 60, 2) := by decide +kernel
theorem dX4_readOnce_32 : decode cX4_readOnce 32 = .ok (.invokevirtual 107, 3) := by decide +kernel
theorem dX4_readOnce_35 : decode cX4_readOnce 35 = .ok (.putfield 111, 3) := by decide +kernel
theorem dX4_readOnce_38 : decode cX4_readOnce 38 = .ok (.aload_n 0, 1) := by decide +kernel
theorem dX4_readOnce_39 : decode cX4_readOnce 39 = .ok (.getfield 23, 3) := by decide +kernel
theorem dX4_readOnce_42 : decode cX4_readOnce 42 = .ok (.bipush 10, 2) := by decide +kernel
theorem dX4_readOnce_44 : decode cX4_readOnce 44 = .ok (.aload_n 0, 1) := by decide +kernel
theorem dX4_readOnce_45 : decode cX4_readOnce 45 = .ok (.iconst 0, 1) := by decide +kernel
theorem dX4_readOnce_46 : decode cX4_readOnce 46 = .ok (.bipush 23, 2) := by decide +kernel
theorem dX4_readOnce_48 : decode cX4_readOnce 48 = .ok (.invokevirtual 107, 3) := by decide +kernel
theorem dX4_readOnce_51 : decode cX4_readOnce 51 = .ok (.bipush 18, 2) := by decide +kernel
theorem dX4_readOnce_53 : decode cX4_readOnce 53 = .ok (.isub, 1) := by decide +kernel
theorem dX4_readOnce_54 : decode cX4_readOnce 54 = .ok (.iastore, 1) := by decide +kernel
theorem dX4_readOnce_55 : decode cX4_readOnce 55 = .ok (.goto 61, 3) := by decide +kernel
theorem dX4_readOnce_58 : decode cX4_readOnce 58 = .ok (.iload_n 1, 1) := by decide +kernel
theorem dX4_readOnce_59 : decode cX4_readOnce 59 = .ok (.iconst 3, 1) := by decide +kernel
theorem dX4_readOnce_60 : decode cX4_readOnce 60 = .ok (.if_icmp .ne 20, 3) := by decide +kernel
theorem dX4_readOnce_63 : decode cX4_readOnce 63 = .ok (.aload_n 0, 1) := by decide +kernel
theorem dX4_readOnce_64 : decode cX4_readOnce 64 = .ok (.getfield 23, 3) := by decide +kernel
theorem dX4_readOnce_67 : decode cX4_readOnce 67 = .ok (.bipush 11, 2) := by decide +kernel
theorem dX4_readOnce_69 : decode cX4_readOnce 69 = .ok (.aload_n 0, 1) := by decide +kernel
theorem dX4_readOnce_70 : decode cX4_readOnce 70 = .ok (.bipush 13, 2) := by decide +kernel
theorem dX4_readOnce_72 : decode cX4_readOnce 72 = .ok (.iconst 4, 1) := by decide +kernel
theorem dX4_readOnce_73 : decode cX4_readOnce 73 = .ok (.invokevirtual 114, 3) := by decide +kernel
theorem dX4_readOnce_76 : decode cX4_readOnce 76 = .ok (.iastore, 1) := by decide +kernel
theorem dX4_readOnce_77 : decode cX4_readOnce 77 = .ok (.goto 39, 3) := by decide +kernel
theorem dX4_readOnce_80 : decode cX4_readOnce 80 = .ok (.iload_n 1, 1) := by decide +kernel
theorem dX4_readOnce_81 : decode cX4_readOnce 81 = .ok (.iconst 4, 1) := by decide +kernel
theorem dX4_readOnce_82 : decode cX4_readOnce 82 = .ok (.if_icmp .ne 20, 3) := by decide +kernel
theorem dX4_readOnce_85 : decode cX4_readOnce 85 = .ok (.aload_n 0, 1) := by decide +kernel
theorem dX4_readOnce_86 : decode cX4_readOnce 86 = .ok (.getfield 23, 3) := by decide +kernel
theorem dX4_readOnce_89 : decode cX4_readOnce 89 = .ok (.bipush 12, 2) := by decide +kernel
theorem dX4_readOnce_91 : decode cX4_readOnce 91 = .ok (.aload_n 0, 1) := by decide +kernel
theorem dX4_readOnce_92 : decode cX4_readOnce 92 = .ok (.iconst 0, 1) := by decide +kernel
theorem dX4_readOnce_93 : decode cX4_readOnce 93 = .ok (.bipush 9, 2) := by decide +kernel
theorem dX4_readOnce_95 : decode cX4_readOnce 95 = .ok (.invokevirtual 107, 3) := by decide +kernel
theorem dX4_readOnce_98 : decode cX4_readOnce 98 = .ok (.iastore, 1) := by decide +kernel
theorem dX4_readOnce_99 : decode cX4_readOnce 99 = .ok (.goto 17, 3) := by decide +kernel
theorem dX4_readOnce_102 : decode cX4_readOnce 102 = .ok (.aload_n 0, 1) := by decide +kernel
theorem dX4_readOnce_103 : decode cX4_readOnce 103 = .ok (.getfield 23, 3) := by decide +kernel
theorem dX4_readOnce_106 : decode cX4_readOnce 106 = .ok (.bipush 13, 2) := by decide +kernel
theorem dX4_readOnce_108 : decode cX4_readOnce 108 = .ok (.aload_n 0, 1) := by decide +kernel
theorem dX4_readOnce_109 : decode cX4_readOnce 109 = .ok (.iconst 0, 1) := by decide +kernel
theorem dX4_readOnce_110 : decode cX4_readOnce 110 = .ok (.bipush 10, 2) := by decide +kernel
theorem dX4_readOnce_112 : decode cX4_readOnce 112 = .ok (.invokevirtual 107, 3) := by decide +kernel
theorem dX4_readOnce_115 : decode cX4_readOnce 115 = .ok (.iastore, 1) := by decide +kernel
theorem dX4_readOnce_116 : decode cX4_readOnce 116 = .ok (.return_, 1) := by decide +kernel
theorem dX4_readMore_0 : decode cX4_readMore 0 = .ok (.iload_n 1, 1) := by decide +kernel
theorem dX4_readMore_1 : decode cX4_readMore 1 = .ok (.ifCond .ne 65, 3) := by decide +kernel
theorem dX4_readMore_4 : decode cX4_readMore 4 = .ok (.aload_n 0, 1) := by decide +kernel
theorem dX4_readMore_5 : decode cX4_readMore 5 = .ok (.getfield 23, 3) := by decide +kernel
theorem dX4_readMore_8 : decode cX4_readMore 8 = .ok (.aload_n 0, 1) := by decide +kernel
theorem dX4_readMore_9 : decode cX4_readMore 9 = .ok (.getfield 117, 3) := by decide +kernel
theorem dX4_readMore_12 : decode cX4_readMore 12 = .ok (.aload_n 0, 1) := by decide +kernel
theorem dX4_readMore_13 : decode cX4_readMore 13 = .ok (.bipush 8, 2) := by decide +kernel
theorem dX4_readMore_15 : decode cX4_readMore 15 = .ok (.iconst 5, 1) := by decide +kernel
theorem dX4_readMore_16 : decode cX4_readMore 16 = .ok (.invokevirtual 114, 3) := by decide +kernel
theorem dX4_readMore_19 : decode cX4_readMore 19 = .ok (.iastore, 1) := by decide +kernel
theorem dX4_readMore_20 : decode cX4_readMore 20 = .ok (.aload_n 0, 1) := by decide +kernel
theorem dX4_readMore_21 : decode cX4_readMore 21 = .ok (.getfield 26, 3) := by decide +kernel
theorem dX4_readMore_24 : decode cX4_readMore 24 = .ok (.aload_n 0, 1) := by decide +kernel
theorem dX4_readMore_25 : decode cX4_readMore 25 = .ok (.getfield 117, 3) := by decide +kernel
theorem dX4_readMore_28 : decode cX4_readMore 28 = .ok (.aload_n 0, 1) := by decide +kernel
theorem dX4_readMore_29 : decode cX4_readMore 29 = .ok (.iconst 1, 1) := by decide +kernel
theorem dX4_readMore_30 : decode cX4_readMore 30 = .ok (.iconst 3, 1) := by decide +kernel
theorem dX4_readMore_31 : decode cX4_readMore 31 = .ok (.invokevirtual 107, 3) := by decide +kernel
theorem dX4_readMore_34 : decode cX4_readMore 34 = .ok (.iastore, 1) := by decide +kernel
theorem dX4_readMore_35 : decode cX4_readMore 35 = .ok (.aload_n 0, 1) := by decide +kernel
theorem dX4_readMore_36 : decode cX4_readMore 36 = .ok (.getfield 23, 3) := by decide +kernel
theorem dX4_readMore_39 : decode cX4_readMore 39 = .ok (.iconst 4, 1) := by decide +kernel
theorem dX4_readMore_40 : decode cX4_readMore 40 = .ok (.aload_n 0, 1) := by decide +kernel
theorem dX4_readMore_41 : decode cX4_readMore 41 = .ok (.getfield 117, 3) := by decide +kernel
theorem dX4_readMore_44 : decode cX4_readMore 44 = .ok (.iadd, 1) := by decide +kernel
theorem dX4_readMore_45 : decode cX4_readMore 45 = .ok (.aload_n 0, 1) := by decide +kernel
theorem dX4_readMore_46 : decode cX4_readMore 46 = .ok (.iconst 0, 1) := by decide +kernel
theorem dX4_readMore_47 : decode cX4_readMore 47 = .ok (.bipush 20, 2) := by decide +kernel
theorem dX4_readMore_49 : decode cX4_readMore 49 = .ok (.invokevirtual 107, 3) := by decide +kernel
theorem dX4_readMore_52 : decode cX4_readMore 52 = .ok (.iastore, 1) := by decide +kernel
theorem dX4_readMore_53 : decode cX4_readMore 53 = .ok (.aload_n 0, 1) := by decide +kernel
theorem dX4_readMore_54 : decode cX4_readMore 54 = .ok (.dup, 1) := by decide +kernel
theorem dX4_readMore_55 : decode cX4_readMore 55 = .ok (.getfield 117, 3) := by decide +kernel
theorem dX4_readMore_58 : decode cX4_readMore 58 = .ok (.iconst 1, 1) := by decide +kernel
theorem dX4_readMore_59 : decode cX4_readMore 59 = .ok (.iadd, 1) := by decide +kernel
theorem dX4_readMore_60 : decode cX4_readMore 60 = .ok (.putfield 117, 3) := by decide +kernel
theorem dX4_readMore_63 : decode cX4_readMore 63 = .ok (.goto 178, 3) := by decide +kernel
theorem dX4_readMore_66 : decode cX4_readMore 66 = .ok (.iload_n 1, 1) := by decide +kernel
theorem dX4_readMore_67 : decode cX4_readMore 67 = .ok (.bipush 6, 2) := by decide +kernel
theorem dX4_readMore_69 : decode cX4_readMore 69 = .ok (.if_icmp .ne 73, 3) := by decide +kernel
theorem dX4_readMore_72 : decode cX4_readMore 72 = .ok (.aload_n 0, 1) := by decide +kernel
theorem dX4_readMore_73 : decode cX4_readMore 73 = .ok (.getfield 29, 3) := by decide +kernel
theorem dX4_readMore_76 : decode cX4_readMore 76 = .ok (.iconst 2, 1) := by decide +kernel
theorem dX4_readMore_77 : decode cX4_readMore 77 = .ok (.aload_n 0, 1) := by decide +kernel
theorem dX4_readMore_78 : decode cX4_readMore 78 = .ok (.getfield 120, 3) := by decide +kernel
theorem dX4_readMore_81 : decode cX4_readMore 81 = .ok (.imul, 1) := by decide +kernel
theorem dX4_readMore_82 : decode cX4_readMore 82 = .ok (.aload_n 0, 1) := by decide +kernel
theorem dX4_readMore_83 : decode cX4_readMore 83 = .ok (.iconst 1, 1) := by decide +kernel
theorem dX4_readMore_84 : decode cX4_readMore 84 = .ok (.bipush 60, 2) := by decide +kernel
theorem dX4_readMore_86 : decode cX4_readMore 86 = .ok (.invokevirtual 107, 3) := by decide +kernel
theorem dX4_readMore_89 : decode cX4_readMore 89 = .ok (.iastore, 1) := by decide +kernel
theorem dX4_readMore_90 : decode cX4_readMore 90 = .ok (.aload_n 0, 1) := by decide +kernel
theorem dX4_readMore_91 : decode cX4_readMore 91 = .ok (.getfield 23, 3) := by decide +kernel
theorem dX4_readMore_94 : decode cX4_readMore 94 = .ok (.bipush 17, 2) := by decide +kernel
theorem dX4_readMore_96 : decode cX4_readMore 96 = .ok (.aload_n 0, 1) := by decide +kernel
theorem dX4_readMore_97 : decode cX4_readMore 97 = .ok (.getfield 120, 3) := by decide +kernel
theorem dX4_readMore_100 : decode cX4_readMore 100 = .ok (.iadd, 1) := by decide +kernel
theorem dX4_readMore_101 : decode cX4_readMore 101 = .ok (.aload_n 0, 1) := by decide +kernel
theorem dX4_readMore_102 : decode cX4_readMore 102 = .ok (.iconst 0, 1) := by decide +kernel
theorem dX4_readMore_103 : decode cX4_readMore 103 = .ok (.bipush 10, 2) := by decide +kernel
theorem dX4_readMore_105 : decode cX4_readMore 105 = .ok (.invokevirtual 107, 3) := by decide +kernel
theorem dX4_readMore_108 : decode cX4_readMore 108 = .ok (.iastore, 1) := by decide +kernel
theorem dX4_readMore_109 : decode cX4_readMore 109 = .ok (.aload_n 0, 1) := by decide +kernel
theorem dX4_readMore_110 : decode cX4_readMore 110 = .ok (.getfield 29, 3) := by decide +kernel
theorem dX4_readMore_113 : decode cX4_readMore 113 = .ok (.iconst 2, 1) := by decide +kernel
theorem dX4_readMore_114 : decode cX4_readMore 114 = .ok (.aload_n 0, 1) := by decide +kernel
theorem dX4_readMore_115 : decode cX4_readMore 115 = .ok (.getfield 120, 3) := by decide +kernel
theorem dX4_readMore_118 : decode cX4_readMore 118 = .ok (.imul, 1) := by decide +kernel
theorem dX4_readMore_119 : decode cX4_readMore 119 = .ok (.iconst 1, 1) := by decide +kernel
theorem dX4_readMore_120 : decode cX4_readMore 120 = .ok (.iadd, 1) := by decide +kernel
theorem dX4_readMore_121 : decode cX4_readMore 121 = .ok (.aload_n 0, 1) := by decide +kernel
theorem dX4_readMore_122 : decode cX4_readMore 122 = .ok (.iconst 1, 1) := by decide +kernel
theorem dX4_readMore_123 : decode cX4_readMore 123 = .ok (.bipush 20, 2) := by decide +kernel
theorem dX4_readMore_125 : decode cX4_readMore 125 = .ok (.invokevirtual 107, 3) := by decide +kernel
theorem dX4_readMore_128 : decode cX4_readMore 128 = .ok (.iastore, 1) := by decide +kernel
theorem dX4_readMore_129 : decode cX4_readMore 129 = .ok (.aload_n 0, 1) := by decide +kernel
theorem dX4_readMore_130 : decode cX4_readMore 130 = .ok (.dup, 1) := by decide +kernel
theorem dX4_readMore_131 : decode cX4_readMore 131 = .ok (.getfield 120, 3) := by decide +kernel
theorem dX4_readMore_134 : decode cX4_readMore 134 = .ok (.iconst 1, 1) := by decide +kernel
theorem dX4_readMore_135 : decode cX4_readMore 135 = .ok (.iadd, 1) := by decide +kernel
theorem dX4_readMore_136 : decode cX4_readMore 136 = .ok (.putfield 120, 3) := by decide +kernel
theorem dX4_readMore_139 : decode cX4_readMore 139 = .ok (.goto 102, 3) := by decide +kernel
theorem dX4_readMore_142 : decode cX4_readMore 142 = .ok (.aload_n 0, 1) := by decide +kernel
theorem dX4_readMore_143 : decode cX4_readMore 143 = .ok (.getfield 66, 3) := by decide +kernel
theorem dX4_readMore_146 : decode cX4_readMore 146 = .ok (.ifCond .ne 46, 3) := by decide +kernel
theorem dX4_readMore_149 : decode cX4_readMore 149 = .ok (.aload_n 0, 1) := by decide +kernel
theorem dX4_readMore_150 : decode cX4_readMore 150 = .ok (.getfield 75, 3) := by decide +kernel
theorem dX4_readMore_153 : decode cX4_readMore 153 = .ok (.iconst 2, 1) := by decide +kernel
theorem dX4_readMore_154 : decode cX4_readMore 154 = .ok (.if_icmp .ne 38, 3) := by decide +kernel
theorem dX4_readMore_157 : decode cX4_readMore 157 = .ok (.aload_n 0, 1) := by decide +kernel
theorem dX4_readMore_158 : decode cX4_readMore 158 = .ok (.getfield 85, 3) := by decide +kernel
theorem dX4_readMore_161 : decode cX4_readMore 161 = .ok (.i2l, 1) := by decide +kernel
theorem dX4_readMore_162 : decode cX4_readMore 162 = .ok (.lconst 0, 1) := by decide +kernel
theorem dX4_readMore_163 : decode cX4_readMore 163 = .ok (.ldc2_w 123, 3) := by decide +kernel
theorem dX4_readMore_166 : decode cX4_readMore 166 = .ok (.invokestatic 59, 3) := by decide +kernel
theorem dX4_readMore_169 : decode cX4_readMore 169 = .ok (.ifCond .eq 23, 3) := by decide +kernel
theorem dX4_readMore_172 : decode cX4_readMore 172 = .ok (.aload_n 0, 1) := by decide +kernel
theorem dX4_readMore_173 : decode cX4_readMore 173 = .ok (.getfield 125, 3) := by decide +kernel
theorem dX4_readMore_176 : decode cX4_readMore 176 = .ok (.aload_n 0, 1) := by decide +kernel
theorem dX4_readMore_177 : decode cX4_readMore 177 = .ok (.getfield 85, 3) := by decide +kernel
theorem dX4_readMore_180 : decode cX4_readMore 180 = .ok (.ishr, 1) := by decide +kernel
theorem dX4_readMore_181 : decode cX4_readMore 181 = .ok (.iconst 1, 1) := by decide +kernel
theorem dX4_readMore_182 : decode cX4_readMore 182 = .ok (.iand, 1) := by decide +kernel
theorem dX4_readMore_183 : decode cX4_readMore 183 = .ok (.iconst 1, 1) := by decide +kernel
theorem dX4_readMore_184 : decode cX4_readMore 184 = .ok (.if_icmp .ne 8, 3) := by decide +kernel
theorem dX4_readMore_187 : decode cX4_readMore 187 = .ok (.aload_n 0, 1) := by decide +kernel
theorem dX4_readMore_188 : decode cX4_readMore 188 = .ok (.iconst 4, 1) := by decide +kernel
theorem dX4_readMore_189 : decode cX4_readMore 189 = .ok (.invokevirtual 96, 3) := by decide +kernel
theorem dX4_readMore_192 : decode cX4_readMore 192 = .ok (.aload_n 0, 1) := by decide +kernel
theorem dX4_readMore_193 : decode cX4_readMore 193 = .ok (.iconst 0, 1) := by decide +kernel
theorem dX4_readMore_194 : decode cX4_readMore 194 = .ok (.iconst 2, 1) := by decide +kernel
theorem dX4_readMore_195 : decode cX4_readMore 195 = .ok (.invokevirtual 107, 3) := by decide +kernel
theorem dX4_readMore_198 : decode cX4_readMore 198 = .ok (.istore_n 2, 1) := by decide +kernel
theorem dX4_readMore_199 : decode cX4_readMore 199 = .ok (.aload_n 0, 1) := by decide +kernel
theorem dX4_readMore_200 : decode cX4_readMore 200 = .ok (.dup, 1) := by decide +kernel
theorem dX4_readMore_201 : decode cX4_readMore 201 = .ok (.getfield 125, 3) := by decide +kernel
theorem dX4_readMore_204 : decode cX4_readMore 204 = .ok (.iconst 1, 1) := by decide +kernel
theorem dX4_readMore_205 : decode cX4_readMore 205 = .ok (.iload_n 2, 1) := by decide +kernel
theorem dX4_readMore_206 : decode cX4_readMore 206 = .ok (.ishl, 1) := by decide +kernel
theorem dX4_readMore_207 : decode cX4_readMore 207 = .ok (.ior, 1) := by decide +kernel
theorem dX4_readMore_208 : decode cX4_readMore 208 = .ok (.putfield 125, 3) := by decide +kernel
theorem dX4_readMore_211 : decode cX4_readMore 211 = .ok (.aload_n 0, 1) := by decide +kernel
theorem dX4_readMore_212 : decode cX4_readMore 212 = .ok (.iload_n 2, 1) := by decide +kernel
theorem dX4_readMore_213 : decode cX4_readMore 213 = .ok (.aload_n 0, 1) := by decide +kernel
theorem dX4_readMore_214 : decode cX4_readMore 214 = .ok (.getfield 128, 3) := by decide +kernel
theorem dX4_readMore_217 : decode cX4_readMore 217 = .ok (.if_icmp .le 7, 3) := by decide +kernel
theorem dX4_readMore_220 : decode cX4_readMore 220 = .ok (.iload_n 2, 1) := by decide +kernel
theorem dX4_readMore_221 : decode cX4_readMore 221 = .ok (.goto 7, 3) := by decide +kernel
theorem dX4_readMore_224 : decode cX4_readMore 224 = .ok (.aload_n 0, 1) := by decide +kernel
theorem dX4_readMore_225 : decode cX4_readMore 225 = .ok (.getfield 128, 3) := by decide +kernel
theorem dX4_readMore_228 : decode cX4_readMore 228 = .ok (.putfield 128, 3) := by decide +kernel
theorem dX4_readMore_231 : decode cX4_readMore 231 = .ok (.aload_n 0, 1) := by decide +kernel
theorem dX4_readMore_232 : decode cX4_readMore 232 = .ok (.getfield 23, 3) := by decide +kernel
theorem dX4_readMore_235 : decode cX4_readMore 235 = .ok (.bipush 14, 2) := by decide +kernel
theorem dX4_readMore_237 : decode cX4_readMore 237 = .ok (.iload_n 2, 1) := by decide +kernel
theorem dX4_readMore_238 : decode cX4_readMore 238 = .ok (.iadd, 1) := by decide +kernel
theorem dX4_readMore_239 : decode cX4_readMore 239 = .ok (.iconst 1, 1) := by decide +kernel
theorem dX4_readMore_240 : decode cX4_readMore 240 = .ok (.iastore, 1) := by decide +kernel
theorem dX4_readMore_241 : decode cX4_readMore 241 = .ok (.return_, 1) := by decide +kernel
theorem dX4_readLine_0 : decode cX4_readLine 0 = .ok (.aload_n 0, 1) := by decide +kernel
theorem dX4_readLine_1 : decode cX4_readLine 1 = .ok (.invokevirtual 103, 3) := by decide +kernel
theorem dX4_readLine_4 : decode cX4_readLine 4 = .ok (.istore_n 1, 1) := by decide +kernel
theorem dX4_readLine_5 : decode cX4_readLine 5 = .ok (.iload_n 1, 1) := by decide +kernel
theorem dX4_readLine_6 : decode cX4_readLine 6 = .ok (.i2l, 1) := by decide +kernel
theorem dX4_readLine_7 : decode cX4_readLine 7 = .ok (.lconst 0, 1) := by decide +kernel
theorem dX4_readLine_8 : decode cX4_readLine 8 = .ok (.ldc2_w 131, 3) := by decide +kernel
theorem dX4_readLine_11 : decode cX4_readLine 11 = .ok (.invokestatic 59, 3) := by decide +kernel
theorem dX4_readLine_14 : decode cX4_readLine 14 = .ok (.ifCond .ne 9, 3) := by decide +kernel
theorem dX4_readLine_17 : decode cX4_readLine 17 = .ok (.aload_n 0, 1) := by decide +kernel
theorem dX4_readLine_18 : decode cX4_readLine 18 = .ok (.iconst 2, 1) := by decide +kernel
theorem dX4_readLine_19 : decode cX4_readLine 19 = .ok (.invokevirtual 96, 3) := by decide +kernel
theorem dX4_readLine_22 : decode cX4_readLine 22 = .ok (.return_, 1) := by decide +kernel
theorem dX4_readLine_23 : decode cX4_readLine 23 = .ok (.iload_n 1, 1) := by decide +kernel
theorem dX4_readLine_24 : decode cX4_readLine 24 = .ok (.ifCond .ne 11, 3) := by decide +kernel
theorem dX4_readLine_27 : decode cX4_readLine 27 = .ok (.aload_n 0, 1) := by decide +kernel
theorem dX4_readLine_28 : decode cX4_readLine 28 = .ok (.getfield 117, 3) := by decide +kernel
theorem dX4_readLine_31 : decode cX4_readLine 31 = .ok (.iconst 4, 1) := by decide +kernel
theorem dX4_readLine_32 : decode cX4_readLine 32 = .ok (.if_icmp .eq 17, 3) := by decide +kernel
theorem dX4_readLine_35 : decode cX4_readLine 35 = .ok (.iload_n 1, 1) := by decide +kernel
theorem dX4_readLine_36 : decode cX4_readLine 36 = .ok (.bipush 6, 2) := by decide +kernel
theorem dX4_readLine_38 : decode cX4_readLine 38 = .ok (.if_icmp .ne 16, 3) := by decide +kernel
theorem dX4_readLine_41 : decode cX4_readLine 41 = .ok (.aload_n 0, 1) := by decide +kernel
theorem dX4_readLine_42 : decode cX4_readLine 42 = .ok (.getfield 120, 3) := by decide +kernel
theorem dX4_readLine_45 : decode cX4_readLine 45 = .ok (.iconst 3, 1) := by decide +kernel
theorem dX4_readLine_46 : decode cX4_readLine 46 = .ok (.if_icmp .ne 8, 3) := by decide +kernel
theorem dX4_readLine_49 : decode cX4_readLine 49 = .ok (.aload_n 0, 1) := by decide +kernel
theorem dX4_readLine_50 : decode cX4_readLine 50 = .ok (.iconst 5, 1) := by decide +kernel
theorem dX4_readLine_51 : decode cX4_readLine 51 = .ok (.invokevirtual 96, 3) := by decide +kernel
theorem dX4_readLine_54 : decode cX4_readLine 54 = .ok (.iload_n 1, 1) := by decide +kernel
theorem dX4_readLine_55 : decode cX4_readLine 55 = .ok (.i2l, 1) := by decide +kernel
theorem dX4_readLine_56 : decode cX4_readLine 56 = .ok (.lconst 1, 1) := by decide +kernel
theorem dX4_readLine_57 : decode cX4_readLine 57 = .ok (.ldc2_w 133, 3) := by decide +kernel
theorem dX4_readLine_60 : decode cX4_readLine 60 = .ok (.invokestatic 59, 3) := by decide +kernel
theorem dX4_readLine_63 : decode cX4_readLine 63 = .ok (.ifCond .eq 20, 3) := by decide +kernel
theorem dX4_readLine_66 : decode cX4_readLine 66 = .ok (.aload_n 0, 1) := by decide +kernel
theorem dX4_readLine_67 : decode cX4_readLine 67 = .ok (.getfield 135, 3) := by decide +kernel
theorem dX4_readLine_70 : decode cX4_readLine 70 = .ok (.iload_n 1, 1) := by decide +kernel
theorem dX4_readLine_71 : decode cX4_readLine 71 = .ok (.ishr, 1) := by decide +kernel
theorem dX4_readLine_72 : decode cX4_readLine 72 = .ok (.iconst 1, 1) := by decide +kernel
theorem dX4_readLine_73 : decode cX4_readLine 73 = .ok (.iand, 1) := by decide +kernel
theorem dX4_readLine_74 : decode cX4_readLine 74 = .ok (.iconst 1, 1) := by decide +kernel
theorem dX4_readLine_75 : decode cX4_readLine 75 = .ok (.if_icmp .ne 8, 3) := by decide +kernel
theorem dX4_readLine_78 : decode cX4_readLine 78 = .ok (.aload_n 0, 1) := by decide +kernel
theorem dX4_readLine_79 : decode cX4_readLine 79 = .ok (.iconst 4, 1) := by decide +kernel
theorem dX4_readLine_80 : decode cX4_readLine 80 = .ok (.invokevirtual 96, 3) := by decide +kernel
theorem dX4_readLine_83 : decode cX4_readLine 83 = .ok (.aload_n 0, 1) := by decide +kernel
theorem dX4_readLine_84 : decode cX4_readLine 84 = .ok (.dup, 1) := by decide +kernel
theorem dX4_readLine_85 : decode cX4_readLine 85 = .ok (.getfield 135, 3) := by decide +kernel
theorem dX4_readLine_88 : decode cX4_readLine 88 = .ok (.iconst 1, 1) := by decide +kernel
theorem dX4_readLine_89 : decode cX4_readLine 89 = .ok (.iload_n 1, 1) := by decide +kernel
theorem dX4_readLine_90 : decode cX4_readLine 90 = .ok (.ishl, 1) := by decide +kernel
theorem dX4_readLine_91 : decode cX4_readLine 91 = .ok (.ior, 1) := by decide +kernel
theorem dX4_readLine_92 : decode cX4_readLine 92 = .ok (.putfield 135, 3) := by decide +kernel
theorem dX4_readLine_95 : decode cX4_readLine 95 = .ok (.aload_n 0, 1) := by decide +kernel
theorem dX4_readLine_96 : decode cX4_readLine 96 = .ok (.invokevirtual 100, 3) := by decide +kernel
theorem dX4_readLine_99 : decode cX4_readLine 99 = .ok (.aload_n 0, 1) := by decide +kernel
theorem dX4_readLine_100 : decode cX4_readLine 100 = .ok (.getfield 66, 3) := by decide +kernel
theorem dX4_readLine_103 : decode cX4_readLine 103 = .ok (.ifCond .le 4, 3) := by decide +kernel
theorem dX4_readLine_106 : decode cX4_readLine 106 = .ok (.return_, 1) := by decide +kernel
theorem dX4_readLine_107 : decode cX4_readLine 107 = .ok (.iload_n 1, 1) := by decide +kernel
theorem dX4_readLine_108 : decode cX4_readLine 108 = .ok (.i2l, 1) := by decide +kernel
theorem dX4_readLine_109 : decode cX4_readLine 109 = .ok (.lconst 1, 1) := by decide +kernel
theorem dX4_readLine_110 : decode cX4_readLine 110 = .ok (.ldc2_w 133, 3) := by decide +kernel
theorem dX4_readLine_113 : decode cX4_readLine 113 = .ok (.invokestatic 59, 3) := by decide +kernel
theorem dX4_readLine_116 : decode cX4_readLine 116 = .ok (.ifCond .eq 11, 3) := by decide +kernel
theorem dX4_readLine_119 : decode cX4_readLine 119 = .ok (.aload_n 0, 1) := by decide +kernel
theorem dX4_readLine_120 : decode cX4_readLine 120 = .ok (.iload_n 1, 1) := by decide +kernel
theorem dX4_readLine_121 : decode cX4_readLine 121 = .ok (.invokevirtual 138, 3) := by decide +kernel
theorem dX4_readLine_124 : decode cX4_readLine 124 = .ok (.goto 8, 3) := by decide +kernel
theorem dX4_readLine_127 : decode cX4_readLine 127 = .ok (.aload_n 0, 1) := by decide +kernel
theorem dX4_readLine_128 : decode cX4_readLine 128 = .ok (.iload_n 1, 1) := by decide +kernel
theorem dX4_readLine_129 : decode cX4_readLine 129 = .ok (.invokevirtual 141, 3) := by decide +kernel
theorem dX4_readLine_132 : decode cX4_readLine 132 = .ok (.aload_n 0, 1) := by decide +kernel
theorem dX4_readLine_133 : decode cX4_readLine 133 = .ok (.getfield 66, 3) := by decide +kernel
theorem dX4_readLine_136 : decode cX4_readLine 136 = .ok (.ifCond .ne 16, 3) := by decide +kernel
theorem dX4_readLine_139 : decode cX4_readLine 139 = .ok (.aload_n 0, 1) := by decide +kernel
theorem dX4_readLine_140 : decode cX4_readLine 140 = .ok (.getfield 75, 3) := by decide +kernel
theorem dX4_readLine_143 : decode cX4_readLine 143 = .ok (.iconst 3, 1) := by decide +kernel
theorem dX4_readLine_144 : decode cX4_readLine 144 = .ok (.if_icmp .eq 8, 3) := by decide +kernel
theorem dX4_readLine_147 : decode cX4_readLine 147 = .ok (.aload_n 0, 1) := by decide +kernel
theorem dX4_readLine_148 : decode cX4_readLine 148 = .ok (.iconst 2, 1) := by decide +kernel
theorem dX4_readLine_149 : decode cX4_readLine 149 = .ok (.invokevirtual 96, 3) := by decide +kernel
theorem dX4_readLine_152 : decode cX4_readLine 152 = .ok (.aload_n 0, 1) := by decide +kernel
theorem dX4_readLine_153 : decode cX4_readLine 153 = .ok (.invokevirtual 100, 3) := by decide +kernel
theorem dX4_readLine_156 : decode cX4_readLine 156 = .ok (.return_, 1) := by decide +kernel
theorem dX4_text_0 : decode cX4_text 0 = .ok (.aload_n 0, 1) := by decide +kernel
theorem dX4_text_1 : decode cX4_text 1 = .ok (.iconst 0, 1) := by decide +kernel
theorem dX4_text_2 : decode cX4_text 2 = .ok (.putfield 66, 3) := by decide +kernel
theorem dX4_text_5 : decode cX4_text 5 = .ok (.aload_n 0, 1) := by decide +kernel
theorem dX4_text_6 : decode cX4_text 6 = .ok (.iconst 0, 1) := by decide +kernel
theorem dX4_text_7 : decode cX4_text 7 = .ok (.putfield 78, 3) := by decide +kernel
theorem dX4_text_10 : decode cX4_text 10 = .ok (.aload_n 0, 1) := by decide +kernel
theorem dX4_text_11 : decode cX4_text 11 = .ok (.iconst 0, 1) := by decide +kernel
theorem dX4_text_12 : decode cX4_text 12 = .ok (.putfield 117, 3) := by decide +kernel
theorem dX4_text_15 : decode cX4_text 15 = .ok (.aload_n 0, 1) := by decide +kernel
theorem dX4_text_16 : decode cX4_text 16 = .ok (.iconst 0, 1) := by decide +kernel
theorem dX4_text_17 : decode cX4_text 17 = .ok (.putfield 120, 3) := by decide +kernel
theorem dX4_text_20 : decode cX4_text 20 = .ok (.aload_n 0, 1) := by decide +kernel
theorem dX4_text_21 : decode cX4_text 21 = .ok (.bipush 20, 2) := by decide +kernel
theorem dX4_text_23 : decode cX4_text 23 = .ok (.putfield 111, 3) := by decide +kernel
theorem dX4_text_26 : decode cX4_text 26 = .ok (.aload_n 0, 1) := by decide +kernel
theorem dX4_text_27 : decode cX4_text 27 = .ok (.iconst 0, 1) := by decide +kernel
theorem dX4_text_28 : decode cX4_text 28 = .ok (.putfield 135, 3) := by decide +kernel
theorem dX4_text_31 : decode cX4_text 31 = .ok (.aload_n 0, 1) := by decide +kernel
theorem dX4_text_32 : decode cX4_text 32 = .ok (.iconst 0, 1) := by decide +kernel
theorem dX4_text_33 : decode cX4_text 33 = .ok (.putfield 125, 3) := by decide +kernel
theorem dX4_text_36 : decode cX4_text 36 = .ok (.aload_n 0, 1) := by decide +kernel
theorem dX4_text_37 : decode cX4_text 37 = .ok (.iconst (-1), 1) := by decide +kernel
theorem dX4_text_38 : decode cX4_text 38 = .ok (.putfield 128, 3) := by decide +kernel
theorem dX4_text_41 : decode cX4_text 41 = .ok (.iconst 0, 1) := by decide +kernel
theorem dX4_text_42 : decode cX4_text 42 = .ok (.istore_n 1, 1) := by decide +kernel
theorem dX4_text_43 : decode cX4_text 43 = .ok (.iconst 0, 1) := by decide +kernel
theorem dX4_text_44 : decode cX4_text 44 = .ok (.istore_n 2, 1) := by decide +kernel
theorem dX4_text_45 : decode cX4_text 45 = .ok (.iload_n 2, 1) := by decide +kernel
theorem dX4_text_46 : decode cX4_text 46 = .ok (.bipush 20, 2) := by decide +kernel
theorem dX4_text_48 : decode cX4_text 48 = .ok (.if_icmp .ge 16, 3) := by decide +kernel
theorem dX4_text_51 : decode cX4_text 51 = .ok (.aload_n 0, 1) := by decide +kernel
theorem dX4_text_52 : decode cX4_text 52 = .ok (.getfield 23, 3) := by decide +kernel
theorem dX4_text_55 : decode cX4_text 55 = .ok (.iload_n 2, 1) := by decide +kernel
theorem dX4_text_56 : decode cX4_text 56 = .ok (.iconst 0, 1) := by decide +kernel
theorem dX4_text_57 : decode cX4_text 57 = .ok (.iastore, 1) := by decide +kernel
theorem dX4_text_58 : decode cX4_text 58 = .ok (.iinc 2 1, 3) := by decide +kernel
theorem dX4_text_61 : decode cX4_text 61 = .ok (.goto (-16), 3) := by decide +kernel
theorem dX4_text_64 : decode cX4_text 64 = .ok (.aload_n 0, 1) := by decide +kernel
theorem dX4_text_65 : decode cX4_text 65 = .ok (.invokevirtual 100, 3) := by decide +kernel
theorem dX4_text_68 : decode cX4_text 68 = .ok (.aload_n 0, 1) := by decide +kernel
theorem dX4_text_69 : decode cX4_text 69 = .ok (.getfield 66, 3) := by decide +kernel
theorem dX4_text_72 : decode cX4_text 72 = .ok (.ifCond .ne 20, 3) := by decide +kernel
theorem dX4_text_75 : decode cX4_text 75 = .ok (.aload_n 0, 1) := by decide +kernel
theorem dX4_text_76 : decode cX4_text 76 = .ok (.getfield 75, 3) := by decide +kernel
theorem dX4_text_79 : decode cX4_text 79 = .ok (.ifCond .eq 13, 3) := by decide +kernel
theorem dX4_text_82 : decode cX4_text 82 = .ok (.aload_n 0, 1) := by decide +kernel
theorem dX4_text_83 : decode cX4_text 83 = .ok (.invokevirtual 144, 3) := by decide +kernel
theorem dX4_text_86 : decode cX4_text 86 = .ok (.iinc 1 1, 3) := by decide +kernel
theorem dX4_text_89 : decode cX4_text 89 = .ok (.goto (-21), 3) := by decide +kernel
theorem dX4_text_92 : decode cX4_text 92 = .ok (.aload_n 0, 1) := by decide +kernel
theorem dX4_text_93 : decode cX4_text 93 = .ok (.getfield 66, 3) := by decide +kernel
theorem dX4_text_96 : decode cX4_text 96 = .ok (.ifCond .ne 20, 3) := by decide +kernel
theorem dX4_text_99 : decode cX4_text 99 = .ok (.aload_n 0, 1) := by decide +kernel
theorem dX4_text_100 : decode cX4_text 100 = .ok (.getfield 128, 3) := by decide +kernel
theorem dX4_text_103 : decode cX4_text 103 = .ok (.aload_n 0, 1) := by decide +kernel
theorem dX4_text_104 : decode cX4_text 104 = .ok (.getfield 120, 3) := by decide +kernel
theorem dX4_text_107 : decode cX4_text 107 = .ok (.if_icmp .lt 9, 3) := by decide +kernel
theorem dX4_text_110 : decode cX4_text 110 = .ok (.aload_n 0, 1) := by decide +kernel
theorem dX4_text_111 : decode cX4_text 111 = .ok (.bipush 6, 2) := by decide +kernel
theorem dX4_text_113 : decode cX4_text 113 = .ok (.invokevirtual 96, 3) := by decide +kernel
theorem dX4_text_116 : decode cX4_text 116 = .ok (.aload_n 0, 1) := by decide +kernel
theorem dX4_text_117 : decode cX4_text 117 = .ok (.iconst 0, 1) := by decide +kernel
theorem dX4_text_118 : decode cX4_text 118 = .ok (.putfield 63, 3) := by decide +kernel
theorem dX4_text_121 : decode cX4_text 121 = .ok (.aload_n 0, 1) := by decide +kernel
theorem dX4_text_122 : decode cX4_text 122 = .ok (.aload_n 0, 1) := by decide +kernel
theorem dX4_text_123 : decode cX4_text 123 = .ok (.getfield 66, 3) := by decide +kernel
theorem dX4_text_126 : decode cX4_text 126 = .ok (.putfield 147, 3) := by decide +kernel
theorem dX4_text_129 : decode cX4_text 129 = .ok (.aload_n 0, 1) := by decide +kernel
theorem dX4_text_130 : decode cX4_text 130 = .ok (.getfield 66, 3) := by decide +kernel
theorem dX4_text_133 : decode cX4_text 133 = .ok (.ifCond .le 11, 3) := by decide +kernel
theorem dX4_text_136 : decode cX4_text 136 = .ok (.bipush (-10), 2) := by decide +kernel
theorem dX4_text_138 : decode cX4_text 138 = .ok (.aload_n 0, 1) := by decide +kernel
theorem dX4_text_139 : decode cX4_text 139 = .ok (.getfield 72, 3) := by decide +kernel
theorem dX4_text_142 : decode cX4_text 142 = .ok (.isub, 1) := by decide +kernel
theorem dX4_text_143 : decode cX4_text 143 = .ok (.ireturn, 1) := by decide +kernel
theorem dX4_text_144 : decode cX4_text 144 = .ok (.iconst 0, 1) := by decide +kernel
theorem dX4_text_145 : decode cX4_text 145 = .ok (.istore_n 2, 1) := by decide +kernel
theorem dX4_text_146 : decode cX4_text 146 = .ok (.iload_n 2, 1) := by decide +kernel
theorem dX4_text_147 : decode cX4_text 147 = .ok (.bipush 20, 2) := by decide +kernel
theorem dX4_text_149 : decode cX4_text 149 = .ok (.if_icmp .ge 55, 3) := by decide +kernel
theorem dX4_text_152 : decode cX4_text 152 = .ok (.aload_n 0, 1) := by decide +kernel
theorem dX4_text_153 : decode cX4_text 153 = .ok (.getfield 7, 3) := by decide +kernel
theorem dX4_text_156 : decode cX4_text 156 = .ok (.iload_n 2, 1) := by decide +kernel
theorem dX4_text_157 : decode cX4_text 157 = .ok (.aload_n 0, 1) := by decide +kernel
theorem dX4_text_158 : decode cX4_text 158 = .ok (.getfield 23, 3) := by decide +kernel
theorem dX4_text_161 : decode cX4_text 161 = .ok (.iload_n 2, 1) := by decide +kernel
theorem dX4_text_162 : decode cX4_text 162 = .ok (.iaload, 1) := by decide +kernel
theorem dX4_text_163 : decode cX4_text 163 = .ok (.iastore, 1) := by decide +kernel
theorem dX4_text_164 : decode cX4_text 164 = .ok (.aload_n 0, 1) := by decide +kernel
theorem dX4_text_165 : decode cX4_text 165 = .ok (.getfield 13, 3) := by decide +kernel
theorem dX4_text_168 : decode cX4_text 168 = .ok (.iload_n 2, 1) := by decide +kernel
theorem dX4_text_169 : decode cX4_text 169 = .ok (.iconst 4, 1) := by decide +kernel
theorem dX4_text_170 : decode cX4_text 170 = .ok (.irem, 1) := by decide +kernel
theorem dX4_text_171 : decode cX4_text 171 = .ok (.aload_n 0, 1) := by decide +kernel
theorem dX4_text_172 : decode cX4_text 172 = .ok (.getfield 26, 3) := by decide +kernel
theorem dX4_text_175 : decode cX4_text 175 = .ok (.iload_n 2, 1) := by decide +kernel
theorem dX4_text_176 : decode cX4_text 176 = .ok (.iconst 4, 1) := by decide +kernel
theorem dX4_text_177 : decode cX4_text 177 = .ok (.irem, 1) := by decide +kernel
theorem dX4_text_178 : decode cX4_text 178 = .ok (.iaload, 1) := by decide +kernel
theorem dX4_text_179 : decode cX4_text 179 = .ok (.iastore, 1) := by decide +kernel
theorem dX4_text_180 : decode cX4_text 180 = .ok (.aload_n 0, 1) := by decide +kernel
theorem dX4_text_181 : decode cX4_text 181 = .ok (.getfield 16, 3) := by decide +kernel
theorem dX4_text_184 : decode cX4_text 184 = .ok (.iload_n 2, 1) := by decide +kernel
theorem dX4_text_185 : decode cX4_text 185 = .ok (.bipush 6, 2) := by decide +kernel
theorem dX4_text_187 : decode cX4_text 187 = .ok (.irem, 1) := by decide +kernel
theorem dX4_text_188 : decode cX4_text 188 = .ok (.aload_n 0, 1) := by decide +kernel
theorem dX4_text_189 : decode cX4_text 189 = .ok (.getfield 29, 3) := by decide +kernel
theorem dX4_text_192 : decode cX4_text 192 = .ok (.iload_n 2, 1) := by decide +kernel
theorem dX4_text_193 : decode cX4_text 193 = .ok (.bipush 6, 2) := by decide +kernel
theorem dX4_text_195 : decode cX4_text 195 = .ok (.irem, 1) := by decide +kernel
theorem dX4_text_196 : decode cX4_text 196 = .ok (.iaload, 1) := by decide +kernel
theorem dX4_text_197 : decode cX4_text 197 = .ok (.iastore, 1) := by decide +kernel
theorem dX4_text_198 : decode cX4_text 198 = .ok (.iinc 2 1, 3) := by decide +kernel
theorem dX4_text_201 : decode cX4_text 201 = .ok (.goto (-55), 3) := by decide +kernel
theorem dX4_text_204 : decode cX4_text 204 = .ok (.aload_n 0, 1) := by decide +kernel
theorem dX4_text_205 : decode cX4_text 205 = .ok (.aload_n 0, 1) := by decide +kernel
theorem dX4_text_206 : decode cX4_text 206 = .ok (.getfield 117, 3) := by decide +kernel
theorem dX4_text_209 : decode cX4_text 209 = .ok (.putfield 150, 3) := by decide +kernel
theorem dX4_text_212 : decode cX4_text 212 = .ok (.aload_n 0, 1) := by decide +kernel
theorem dX4_text_213 : decode cX4_text 213 = .ok (.aload_n 0, 1) := by decide +kernel
theorem dX4_text_214 : decode cX4_text 214 = .ok (.getfield 120, 3) := by decide +kernel
theorem dX4_text_217 : decode cX4_text 217 = .ok (.putfield 153, 3) := by decide +kernel
theorem dX4_text_220 : decode cX4_text 220 = .ok (.aload_n 0, 1) := by decide +kernel
theorem dX4_text_221 : decode cX4_text 221 = .ok (.aload_n 0, 1) := by decide +kernel
theorem dX4_text_222 : decode cX4_text 222 = .ok (.getfield 111, 3) := by decide +kernel
theorem dX4_text_225 : decode cX4_text 225 = .ok (.putfield 19, 3) := by decide +kernel
theorem dX4_text_228 : decode cX4_text 228 = .ok (.aload_n 0, 1) := by decide +kernel
theorem dX4_text_229 : decode cX4_text 229 = .ok (.iconst 0, 1) := by decide +kernel
theorem dX4_text_230 : decode cX4_text 230 = .ok (.putfield 156, 3) := by decide +kernel
theorem dX4_text_233 : decode cX4_text 233 = .ok (.aload_n 0, 1) := by decide +kernel
theorem dX4_text_234 : decode cX4_text 234 = .ok (.aload_n 0, 1) := by decide +kernel
theorem dX4_text_235 : decode cX4_text 235 = .ok (.getfield 150, 3) := by decide +kernel
theorem dX4_text_238 : decode cX4_text 238 = .ok (.putfield 159, 3) := by decide +kernel
theorem dX4_text_241 : decode cX4_text 241 = .ok (.aload_n 0, 1) := by decide +kernel
theorem dX4_text_242 : decode cX4_text 242 = .ok (.iconst 0, 1) := by decide +kernel
theorem dX4_text_243 : decode cX4_text 243 = .ok (.putfield 162, 3) := by decide +kernel
theorem dX4_text_246 : decode cX4_text 246 = .ok (.aload_n 0, 1) := by decide +kernel
theorem dX4_text_247 : decode cX4_text 247 = .ok (.getfield 44, 3) := by decide +kernel
theorem dX4_text_250 : decode cX4_text 250 = .ok (.iconst 0, 1) := by decide +kernel
theorem dX4_text_251 : decode cX4_text 251 = .ok (.iconst 0, 1) := by decide +kernel
theorem dX4_text_252 : decode cX4_text 252 = .ok (.bastore, 1) := by decide +kernel
theorem dX4_text_253 : decode cX4_text 253 = .ok (.aload_n 0, 1) := by decide +kernel
theorem dX4_text_254 : decode cX4_text 254 = .ok (.getfield 44, 3) := by decide +kernel
theorem dX4_text_257 : decode cX4_text 257 = .ok (.iconst 1, 1) := by decide +kernel
theorem dX4_text_258 : decode cX4_text 258 = .ok (.iconst 0, 1) := by decide +kernel
theorem dX4_text_259 : decode cX4_text 259 = .ok (.bastore, 1) := by decide +kernel
theorem dX4_text_260 : decode cX4_text 260 = .ok (.iload_n 1, 1) := by decide +kernel
theorem dX4_text_261 : decode cX4_text 261 = .ok (.ireturn, 1) := by decide +kernel
theorem dX4_fault_0 : decode cX4_fault 0 = .ok (.aload_n 0, 1) := by decide +kernel
theorem dX4_fault_1 : decode cX4_fault 1 = .ok (.getfield 147, 3) := by decide +kernel
theorem dX4_fault_4 : decode cX4_fault 4 = .ok (.ireturn, 1) := by decide +kernel
theorem dX4_isOne_0 : decode cX4_isOne 0 = .ok (.iload_n 1, 1) := by decide +kernel
theorem dX4_isOne_1 : decode cX4_isOne 1 = .ok (.i2l, 1) := by decide +kernel
theorem dX4_isOne_2 : decode cX4_isOne 2 = .ok (.lconst 0, 1) := by decide +kernel
theorem dX4_isOne_3 : decode cX4_isOne 3 = .ok (.aload_n 0, 1) := by decide +kernel
theorem dX4_isOne_4 : decode cX4_isOne 4 = .ok (.getfield 150, 3) := by decide +kernel
theorem dX4_isOne_7 : decode cX4_isOne 7 = .ok (.iconst 1, 1) := by decide +kernel
theorem dX4_isOne_8 : decode cX4_isOne 8 = .ok (.isub, 1) := by decide +kernel
theorem dX4_isOne_9 : decode cX4_isOne 9 = .ok (.i2l, 1) := by decide +kernel
theorem dX4_isOne_10 : decode cX4_isOne 10 = .ok (.invokestatic 59, 3) := by decide +kernel
theorem dX4_isOne_13 : decode cX4_isOne 13 = .ok (.ireturn, 1) := by decide +kernel
theorem dX4_isWell_0 : decode cX4_isWell 0 = .ok (.iload_n 1, 1) := by decide +kernel
theorem dX4_isWell_1 : decode cX4_isWell 1 = .ok (.i2l, 1) := by decide +kernel
theorem dX4_isWell_2 : decode cX4_isWell 2 = .ok (.lconst 0, 1) := by decide +kernel
theorem dX4_isWell_3 : decode cX4_isWell 3 = .ok (.aload_n 0, 1) := by decide +kernel
theorem dX4_isWell_4 : decode cX4_isWell 4 = .ok (.getfield 153, 3) := by decide +kernel
theorem dX4_isWell_7 : decode cX4_isWell 7 = .ok (.iconst 1, 1) := by decide +kernel
theorem dX4_isWell_8 : decode cX4_isWell 8 = .ok (.isub, 1) := by decide +kernel
theorem dX4_isWell_9 : decode cX4_isWell 9 = .ok (.i2l, 1) := by decide +kernel
theorem dX4_isWell_10 : decode cX4_isWell 10 = .ok (.invokestatic 59, 3) := by decide +kernel
theorem dX4_isWell_13 : decode cX4_isWell 13 = .ok (.ireturn, 1) := by decide +kernel
theorem dX4_isPlan_0 : decode cX4_isPlan 0 = .ok (.iload_n 0, 1) := by decide +kernel
theorem dX4_isPlan_1 : decode cX4_isPlan 1 = .ok (.i2l, 1) := by decide +kernel
theorem dX4_isPlan_2 : decode cX4_isPlan 2 = .ok (.lconst 0, 1) := by decide +kernel
theorem dX4_isPlan_3 : decode cX4_isPlan 3 = .ok (.ldc2_w 165, 3) := by decide +kernel
theorem dX4_isPlan_6 : decode cX4_isPlan 6 = .ok (.invokestatic 59, 3) := by decide +kernel
theorem dX4_isPlan_9 : decode cX4_isPlan 9 = .ok (.ireturn, 1) := by decide +kernel
theorem dX4_hourOn_0 : decode cX4_hourOn 0 = .ok (.aload_n 0, 1) := by decide +kernel
theorem dX4_hourOn_1 : decode cX4_hourOn 1 = .ok (.getfield 7, 3) := by decide +kernel
theorem dX4_hourOn_4 : decode cX4_hourOn 4 = .ok (.iload_n 1, 1) := by decide +kernel
theorem dX4_hourOn_5 : decode cX4_hourOn 5 = .ok (.bipush 10, 2) := by decide +kernel
theorem dX4_hourOn_7 : decode cX4_hourOn 7 = .ok (.iadd, 1) := by decide +kernel
theorem dX4_hourOn_8 : decode cX4_hourOn 8 = .ok (.iaload, 1) := by decide +kernel
theorem dX4_hourOn_9 : decode cX4_hourOn 9 = .ok (.bipush 18, 2) := by decide +kernel
theorem dX4_hourOn_11 : decode cX4_hourOn 11 = .ok (.iadd, 1) := by decide +kernel
theorem dX4_hourOn_12 : decode cX4_hourOn 12 = .ok (.ireturn, 1) := by decide +kernel
theorem dX4_isDown_0 : decode cX4_isDown 0 = .ok (.aload_n 0, 1) := by decide +kernel
theorem dX4_isDown_1 : decode cX4_isDown 1 = .ok (.getfield 7, 3) := by decide +kernel
theorem dX4_isDown_4 : decode cX4_isDown 4 = .ok (.iload_n 1, 1) := by decide +kernel
theorem dX4_isDown_5 : decode cX4_isDown 5 = .ok (.iconst 4, 1) := by decide +kernel
theorem dX4_isDown_6 : decode cX4_isDown 6 = .ok (.iadd, 1) := by decide +kernel
theorem dX4_isDown_7 : decode cX4_isDown 7 = .ok (.iload_n 2, 1) := by decide +kernel
theorem dX4_isDown_8 : decode cX4_isDown 8 = .ok (.iadd, 1) := by decide +kernel
theorem dX4_isDown_9 : decode cX4_isDown 9 = .ok (.iaload, 1) := by decide +kernel
theorem dX4_isDown_10 : decode cX4_isDown 10 = .ok (.ifCond .ne 7, 3) := by decide +kernel
theorem dX4_isDown_13 : decode cX4_isDown 13 = .ok (.iconst 1, 1) := by decide +kernel
theorem dX4_isDown_14 : decode cX4_isDown 14 = .ok (.goto 4, 3) := by decide +kernel
theorem dX4_isDown_17 : decode cX4_isDown 17 = .ok (.iconst 0, 1) := by decide +kernel
theorem dX4_isDown_18 : decode cX4_isDown 18 = .ok (.ireturn, 1) := by decide +kernel
theorem dX4_upOn_0 : decode cX4_upOn 0 = .ok (.iconst 0, 1) := by decide +kernel
theorem dX4_upOn_1 : decode cX4_upOn 1 = .ok (.istore_n 2, 1) := by decide +kernel
theorem dX4_upOn_2 : decode cX4_upOn 2 = .ok (.aload_n 0, 1) := by decide +kernel
theorem dX4_upOn_3 : decode cX4_upOn 3 = .ok (.getfield 156, 3) := by decide +kernel
theorem dX4_upOn_6 : decode cX4_upOn 6 = .ok (.istore_n 3, 1) := by decide +kernel
theorem dX4_upOn_7 : decode cX4_upOn 7 = .ok (.iload_n 3, 1) := by decide +kernel
theorem dX4_upOn_8 : decode cX4_upOn 8 = .ok (.aload_n 0, 1) := by decide +kernel
theorem dX4_upOn_9 : decode cX4_upOn 9 = .ok (.getfield 156, 3) := by decide +kernel
theorem dX4_upOn_12 : decode cX4_upOn 12 = .ok (.aload_n 0, 1) := by decide +kernel
theorem dX4_upOn_13 : decode cX4_upOn 13 = .ok (.getfield 159, 3) := by decide +kernel
theorem dX4_upOn_16 : decode cX4_upOn 16 = .ok (.iadd, 1) := by decide +kernel
theorem dX4_upOn_17 : decode cX4_upOn 17 = .ok (.if_icmp .ge 26, 3) := by decide +kernel
theorem dX4_upOn_20 : decode cX4_upOn 20 = .ok (.iload_n 2, 1) := by decide +kernel
theorem dX4_upOn_21 : decode cX4_upOn 21 = .ok (.aload_n 0, 1) := by decide +kernel
theorem dX4_upOn_22 : decode cX4_upOn 22 = .ok (.iload_n 1, 1) := by decide +kernel
theorem dX4_upOn_23 : decode cX4_upOn 23 = .ok (.iload_n 3, 1) := by decide +kernel
theorem dX4_upOn_24 : decode cX4_upOn 24 = .ok (.invokevirtual 167, 3) := by decide +kernel
theorem dX4_upOn_27 : decode cX4_upOn 27 = .ok (.ifCond .eq 7, 3) := by decide +kernel
theorem dX4_upOn_30 : decode cX4_upOn 30 = .ok (.iconst 0, 1) := by decide +kernel
theorem dX4_upOn_31 : decode cX4_upOn 31 = .ok (.goto 4, 3) := by decide +kernel
theorem dX4_upOn_34 : decode cX4_upOn 34 = .ok (.iconst 1, 1) := by decide +kernel
theorem dX4_upOn_35 : decode cX4_upOn 35 = .ok (.iadd, 1) := by decide +kernel
theorem dX4_upOn_36 : decode cX4_upOn 36 = .ok (.istore_n 2, 1) := by decide +kernel
theorem dX4_upOn_37 : decode cX4_upOn 37 = .ok (.iinc 3 1, 3) := by decide +kernel
theorem dX4_upOn_40 : decode cX4_upOn 40 = .ok (.goto (-33), 3) := by decide +kernel
theorem dX4_upOn_43 : decode cX4_upOn 43 = .ok (.iload_n 2, 1) := by decide +kernel
theorem dX4_upOn_44 : decode cX4_upOn 44 = .ok (.ireturn, 1) := by decide +kernel
theorem dX4_pourer_0 : decode cX4_pourer 0 = .ok (.aload_n 0, 1) := by decide +kernel
theorem dX4_pourer_1 : decode cX4_pourer 1 = .ok (.getfield 159, 3) := by decide +kernel
theorem dX4_pourer_4 : decode cX4_pourer 4 = .ok (.ifCond .ne 8, 3) := by decide +kernel
theorem dX4_pourer_7 : decode cX4_pourer 7 = .ok (.bipush (-4), 2) := by decide +kernel
theorem dX4_pourer_9 : decode cX4_pourer 9 = .ok (.goto 18, 3) := by decide +kernel
theorem dX4_pourer_12 : decode cX4_pourer 12 = .ok (.aload_n 0, 1) := by decide +kernel
theorem dX4_pourer_13 : decode cX4_pourer 13 = .ok (.getfield 156, 3) := by decide +kernel
theorem dX4_pourer_16 : decode cX4_pourer 16 = .ok (.aload_n 0, 1) := by decide +kernel
theorem dX4_pourer_17 : decode cX4_pourer 17 = .ok (.iload_n 1, 1) := by decide +kernel
theorem dX4_pourer_18 : decode cX4_pourer 18 = .ok (.invokevirtual 171, 3) := by decide +kernel
theorem dX4_pourer_21 : decode cX4_pourer 21 = .ok (.aload_n 0, 1) := by decide +kernel
theorem dX4_pourer_22 : decode cX4_pourer 22 = .ok (.getfield 159, 3) := by decide +kernel
theorem dX4_pourer_25 : decode cX4_pourer 25 = .ok (.irem, 1) := by decide +kernel
theorem dX4_pourer_26 : decode cX4_pourer 26 = .ok (.iadd, 1) := by decide +kernel
theorem dX4_pourer_27 : decode cX4_pourer 27 = .ok (.ireturn, 1) := by decide +kernel
theorem dX4_wantOf_0 : decode cX4_wantOf 0 = .ok (.aload_n 0, 1) := by decide +kernel
theorem dX4_wantOf_1 : decode cX4_wantOf 1 = .ok (.getfield 7, 3) := by decide +kernel
theorem dX4_wantOf_4 : decode cX4_wantOf 4 = .ok (.iload_n 1, 1) := by decide +kernel
theorem dX4_wantOf_5 : decode cX4_wantOf 5 = .ok (.iconst 4, 1) := by decide +kernel
theorem dX4_wantOf_6 : decode cX4_wantOf 6 = .ok (.iadd, 1) := by decide +kernel
theorem dX4_wantOf_7 : decode cX4_wantOf 7 = .ok (.iload_n 2, 1) := by decide +kernel
theorem dX4_wantOf_8 : decode cX4_wantOf 8 = .ok (.iadd, 1) := by decide +kernel
theorem dX4_wantOf_9 : decode cX4_wantOf 9 = .ok (.iaload, 1) := by decide +kernel
theorem dX4_wantOf_10 : decode cX4_wantOf 10 = .ok (.istore_n 3, 1) := by decide +kernel
theorem dX4_wantOf_11 : decode cX4_wantOf 11 = .ok (.aload_n 0, 1) := by decide +kernel
theorem dX4_wantOf_12 : decode cX4_wantOf 12 = .ok (.getfield 7, 3) := by decide +kernel
theorem dX4_wantOf_15 : decode cX4_wantOf 15 = .ok (.iload_n 1, 1) := by decide +kernel
theorem dX4_wantOf_16 : decode cX4_wantOf 16 = .ok (.iload_n 2, 1) := by decide +kernel
theorem dX4_wantOf_17 : decode cX4_wantOf 17 = .ok (.iadd, 1) := by decide +kernel
theorem dX4_wantOf_18 : decode cX4_wantOf 18 = .ok (.iaload, 1) := by decide +kernel
theorem dX4_wantOf_19 : decode cX4_wantOf 19 = .ok (.tableswitch 66 1 3 #[25, 40, 55], 25) := by decide +kernel
theorem dX4_wantOf_44 : decode cX4_wantOf 44 = .ok (.iload_n 3, 1) := by decide +kernel
theorem dX4_wantOf_45 : decode cX4_wantOf 45 = .ok (.bipush 10, 2) := by decide +kernel
theorem dX4_wantOf_47 : decode cX4_wantOf 47 = .ok (.if_icmp .ge 10, 3) := by decide +kernel
theorem dX4_wantOf_50 : decode cX4_wantOf 50 = .ok (.bipush 10, 2) := by decide +kernel
theorem dX4_wantOf_52 : decode cX4_wantOf 52 = .ok (.iload_n 3, 1) := by decide +kernel
theorem dX4_wantOf_53 : decode cX4_wantOf 53 = .ok (.isub, 1) := by decide +kernel
theorem dX4_wantOf_54 : decode cX4_wantOf 54 = .ok (.goto 4, 3) := by decide +kernel
theorem dX4_wantOf_57 : decode cX4_wantOf 57 = .ok (.iconst 0, 1) := by decide +kernel
theorem dX4_wantOf_58 : decode cX4_wantOf 58 = .ok (.ireturn, 1) := by decide +kernel
theorem dX4_wantOf_59 : decode cX4_wantOf 59 = .ok (.aload_n 0, 1) := by decide +kernel
theorem dX4_wantOf_60 : decode cX4_wantOf 60 = .ok (.iload_n 1, 1) := by decide +kernel
theorem dX4_wantOf_61 : decode cX4_wantOf 61 = .ok (.invokevirtual 174, 3) := by decide +kernel
theorem dX4_wantOf_64 : decode cX4_wantOf 64 = .ok (.iload_n 2, 1) := by decide +kernel
theorem dX4_wantOf_65 : decode cX4_wantOf 65 = .ok (.if_icmp .ne 7, 3) := by decide +kernel
theorem dX4_wantOf_68 : decode cX4_wantOf 68 = .ok (.iconst 2, 1) := by decide +kernel
theorem dX4_wantOf_69 : decode cX4_wantOf 69 = .ok (.goto 4, 3) := by decide +kernel
theorem dX4_wantOf_72 : decode cX4_wantOf 72 = .ok (.iconst 1, 1) := by decide +kernel
theorem dX4_wantOf_73 : decode cX4_wantOf 73 = .ok (.ireturn, 1) := by decide +kernel
theorem dX4_wantOf_74 : decode cX4_wantOf 74 = .ok (.iload_n 3, 1) := by decide +kernel
theorem dX4_wantOf_75 : decode cX4_wantOf 75 = .ok (.iconst 4, 1) := by decide +kernel
theorem dX4_wantOf_76 : decode cX4_wantOf 76 = .ok (.if_icmp .gt 7, 3) := by decide +kernel
theorem dX4_wantOf_79 : decode cX4_wantOf 79 = .ok (.iconst 2, 1) := by decide +kernel
theorem dX4_wantOf_80 : decode cX4_wantOf 80 = .ok (.goto 4, 3) := by decide +kernel
theorem dX4_wantOf_83 : decode cX4_wantOf 83 = .ok (.iconst 0, 1) := by decide +kernel
theorem dX4_wantOf_84 : decode cX4_wantOf 84 = .ok (.ireturn, 1) := by decide +kernel
theorem dX4_wantOf_85 : decode cX4_wantOf 85 = .ok (.iconst 1, 1) := by decide +kernel
theorem dX4_wantOf_86 : decode cX4_wantOf 86 = .ok (.ireturn, 1) := by decide +kernel
theorem dX4_rule_0 : decode cX4_rule 0 = .ok (.iload_n 1, 1) := by decide +kernel
theorem dX4_rule_1 : decode cX4_rule 1 = .ok (.tableswitch 101 0 8 #[51, 56, 61, 66, 74, 80, 88, 88, 88], 51) := by decide +kernel
theorem dX4_rule_52 : decode cX4_rule 52 = .ok (.aload_n 0, 1) := by decide +kernel
theorem dX4_rule_53 : decode cX4_rule 53 = .ok (.getfield 150, 3) := by decide +kernel
theorem dX4_rule_56 : decode cX4_rule 56 = .ok (.ireturn, 1) := by decide +kernel
theorem dX4_rule_57 : decode cX4_rule 57 = .ok (.aload_n 0, 1) := by decide +kernel
theorem dX4_rule_58 : decode cX4_rule 58 = .ok (.getfield 153, 3) := by decide +kernel
theorem dX4_rule_61 : decode cX4_rule 61 = .ok (.ireturn, 1) := by decide +kernel
theorem dX4_rule_62 : decode cX4_rule 62 = .ok (.aload_n 0, 1) := by decide +kernel
theorem dX4_rule_63 : decode cX4_rule 63 = .ok (.getfield 19, 3) := by decide +kernel
theorem dX4_rule_66 : decode cX4_rule 66 = .ok (.ireturn, 1) := by decide +kernel
theorem dX4_rule_67 : decode cX4_rule 67 = .ok (.aload_n 0, 1) := by decide +kernel
theorem dX4_rule_68 : decode cX4_rule 68 = .ok (.getfield 7, 3) := by decide +kernel
theorem dX4_rule_71 : decode cX4_rule 71 = .ok (.bipush 9, 2) := by decide +kernel
theorem dX4_rule_73 : decode cX4_rule 73 = .ok (.iaload, 1) := by decide +kernel
theorem dX4_rule_74 : decode cX4_rule 74 = .ok (.ireturn, 1) := by decide +kernel
theorem dX4_rule_75 : decode cX4_rule 75 = .ok (.aload_n 0, 1) := by decide +kernel
theorem dX4_rule_76 : decode cX4_rule 76 = .ok (.iconst 0, 1) := by decide +kernel
theorem dX4_rule_77 : decode cX4_rule 77 = .ok (.invokevirtual 171, 3) := by decide +kernel
theorem dX4_rule_80 : decode cX4_rule 80 = .ok (.ireturn, 1) := by decide +kernel
theorem dX4_rule_81 : decode cX4_rule 81 = .ok (.aload_n 0, 1) := by decide +kernel
theorem dX4_rule_82 : decode cX4_rule 82 = .ok (.getfield 7, 3) := by decide +kernel
theorem dX4_rule_85 : decode cX4_rule 85 = .ok (.bipush 8, 2) := by decide +kernel
theorem dX4_rule_87 : decode cX4_rule 87 = .ok (.iaload, 1) := by decide +kernel
theorem dX4_rule_88 : decode cX4_rule 88 = .ok (.ireturn, 1) := by decide +kernel
theorem dX4_rule_89 : decode cX4_rule 89 = .ok (.aload_n 0, 1) := by decide +kernel
theorem dX4_rule_90 : decode cX4_rule 90 = .ok (.getfield 7, 3) := by decide +kernel
theorem dX4_rule_93 : decode cX4_rule 93 = .ok (.bipush 11, 2) := by decide +kernel
theorem dX4_rule_95 : decode cX4_rule 95 = .ok (.iload_n 1, 1) := by decide +kernel
theorem dX4_rule_96 : decode cX4_rule 96 = .ok (.iadd, 1) := by decide +kernel
theorem dX4_rule_97 : decode cX4_rule 97 = .ok (.bipush 6, 2) := by decide +kernel
theorem dX4_rule_99 : decode cX4_rule 99 = .ok (.isub, 1) := by decide +kernel
theorem dX4_rule_100 : decode cX4_rule 100 = .ok (.iaload, 1) := by decide +kernel
theorem dX4_rule_101 : decode cX4_rule 101 = .ok (.ireturn, 1) := by decide +kernel
theorem dX4_rule_102 : decode cX4_rule 102 = .ok (.iconst (-1), 1) := by decide +kernel
theorem dX4_rule_103 : decode cX4_rule 103 = .ok (.ireturn, 1) := by decide +kernel
theorem dX4_one_0 : decode cX4_one 0 = .ok (.aload_n 0, 1) := by decide +kernel
theorem dX4_one_1 : decode cX4_one 1 = .ok (.iload_n 1, 1) := by decide +kernel
theorem dX4_one_2 : decode cX4_one 2 = .ok (.invokevirtual 177, 3) := by decide +kernel
theorem dX4_one_5 : decode cX4_one 5 = .ok (.ifCond .ne 5, 3) := by decide +kernel
theorem dX4_one_8 : decode cX4_one 8 = .ok (.iconst (-1), 1) := by decide +kernel
theorem dX4_one_9 : decode cX4_one 9 = .ok (.ireturn, 1) := by decide +kernel
theorem dX4_one_10 : decode cX4_one 10 = .ok (.iload_n 2, 1) := by decide +kernel
theorem dX4_one_11 : decode cX4_one 11 = .ok (.tableswitch 72 0 3 #[29, 36, 43, 52], 29) := by decide +kernel
theorem dX4_one_40 : decode cX4_one 40 = .ok (.aload_n 0, 1) := by decide +kernel
theorem dX4_one_41 : decode cX4_one 41 = .ok (.getfield 7, 3) := by decide +kernel
theorem dX4_one_44 : decode cX4_one 44 = .ok (.iload_n 1, 1) := by decide +kernel
theorem dX4_one_45 : decode cX4_one 45 = .ok (.iaload, 1) := by decide +kernel
theorem dX4_one_46 : decode cX4_one 46 = .ok (.ireturn, 1) := by decide +kernel
theorem dX4_one_47 : decode cX4_one 47 = .ok (.aload_n 0, 1) := by decide +kernel
theorem dX4_one_48 : decode cX4_one 48 = .ok (.getfield 13, 3) := by decide +kernel
theorem dX4_one_51 : decode cX4_one 51 = .ok (.iload_n 1, 1) := by decide +kernel
theorem dX4_one_52 : decode cX4_one 52 = .ok (.iaload, 1) := by decide +kernel
theorem dX4_one_53 : decode cX4_one 53 = .ok (.ireturn, 1) := by decide +kernel
theorem dX4_one_54 : decode cX4_one 54 = .ok (.aload_n 0, 1) := by decide +kernel
theorem dX4_one_55 : decode cX4_one 55 = .ok (.getfield 7, 3) := by decide +kernel
theorem dX4_one_58 : decode cX4_one 58 = .ok (.iconst 4, 1) := by decide +kernel
theorem dX4_one_59 : decode cX4_one 59 = .ok (.iload_n 1, 1) := by decide +kernel
theorem dX4_one_60 : decode cX4_one 60 = .ok (.iadd, 1) := by decide +kernel
theorem dX4_one_61 : decode cX4_one 61 = .ok (.iaload, 1) := by decide +kernel
theorem dX4_one_62 : decode cX4_one 62 = .ok (.ireturn, 1) := by decide +kernel
theorem dX4_one_63 : decode cX4_one 63 = .ok (.aload_n 0, 1) := by decide +kernel
theorem dX4_one_64 : decode cX4_one 64 = .ok (.iconst 0, 1) := by decide +kernel
theorem dX4_one_65 : decode cX4_one 65 = .ok (.iload_n 1, 1) := by decide +kernel
theorem dX4_one_66 : decode cX4_one 66 = .ok (.invokevirtual 167, 3) := by decide +kernel
theorem dX4_one_69 : decode cX4_one 69 = .ok (.ifCond .eq 7, 3) := by decide +kernel
theorem dX4_one_72 : decode cX4_one 72 = .ok (.iconst 0, 1) := by decide +kernel
theorem dX4_one_73 : decode cX4_one 73 = .ok (.goto 9, 3) := by decide +kernel
theorem dX4_one_76 : decode cX4_one 76 = .ok (.aload_n 0, 1) := by decide +kernel
theorem dX4_one_77 : decode cX4_one 77 = .ok (.iconst 0, 1) := by decide +kernel
theorem dX4_one_78 : decode cX4_one 78 = .ok (.iload_n 1, 1) := by decide +kernel
theorem dX4_one_79 : decode cX4_one 79 = .ok (.invokevirtual 181, 3) := by decide +kernel
theorem dX4_one_82 : decode cX4_one 82 = .ok (.ireturn, 1) := by decide +kernel
theorem dX4_one_83 : decode cX4_one 83 = .ok (.iconst (-1), 1) := by decide +kernel
theorem dX4_one_84 : decode cX4_one 84 = .ok (.ireturn, 1) := by decide +kernel
theorem dX4_well_0 : decode cX4_well 0 = .ok (.aload_n 0, 1) := by decide +kernel
theorem dX4_well_1 : decode cX4_well 1 = .ok (.iload_n 1, 1) := by decide +kernel
theorem dX4_well_2 : decode cX4_well 2 = .ok (.invokevirtual 184, 3) := by decide +kernel
theorem dX4_well_5 : decode cX4_well 5 = .ok (.ifCond .ne 5, 3) := by decide +kernel
theorem dX4_well_8 : decode cX4_well 8 = .ok (.iconst (-1), 1) := by decide +kernel
theorem dX4_well_9 : decode cX4_well 9 = .ok (.ireturn, 1) := by decide +kernel
theorem dX4_well_10 : decode cX4_well 10 = .ok (.iload_n 2, 1) := by decide +kernel
theorem dX4_well_11 : decode cX4_well 11 = .ok (.tableswitch 71 0 3 #[29, 38, 48, 59], 29) := by decide +kernel
theorem dX4_well_40 : decode cX4_well 40 = .ok (.aload_n 0, 1) := by decide +kernel
theorem dX4_well_41 : decode cX4_well 41 = .ok (.getfield 16, 3) := by decide +kernel
theorem dX4_well_44 : decode cX4_well 44 = .ok (.iconst 2, 1) := by decide +kernel
theorem dX4_well_45 : decode cX4_well 45 = .ok (.iload_n 1, 1) := by decide +kernel
theorem dX4_well_46 : decode cX4_well 46 = .ok (.imul, 1) := by decide +kernel
theorem dX4_well_47 : decode cX4_well 47 = .ok (.iaload, 1) := by decide +kernel
theorem dX4_well_48 : decode cX4_well 48 = .ok (.ireturn, 1) := by decide +kernel
theorem dX4_well_49 : decode cX4_well 49 = .ok (.aload_n 0, 1) := by decide +kernel
theorem dX4_well_50 : decode cX4_well 50 = .ok (.getfield 7, 3) := by decide +kernel
theorem dX4_well_53 : decode cX4_well 53 = .ok (.bipush 17, 2) := by decide +kernel
theorem dX4_well_55 : decode cX4_well 55 = .ok (.iload_n 1, 1) := by decide +kernel
theorem dX4_well_56 : decode cX4_well 56 = .ok (.iadd, 1) := by decide +kernel
theorem dX4_well_57 : decode cX4_well 57 = .ok (.iaload, 1) := by decide +kernel
theorem dX4_well_58 : decode cX4_well 58 = .ok (.ireturn, 1) := by decide +kernel
theorem dX4_well_59 : decode cX4_well 59 = .ok (.aload_n 0, 1) := by decide +kernel
theorem dX4_well_60 : decode cX4_well 60 = .ok (.getfield 16, 3) := by decide +kernel
theorem dX4_well_63 : decode cX4_well 63 = .ok (.iconst 2, 1) := by decide +kernel
theorem dX4_well_64 : decode cX4_well 64 = .ok (.iload_n 1, 1) := by decide +kernel
theorem dX4_well_65 : decode cX4_well 65 = .ok (.imul, 1) := by decide +kernel
theorem dX4_well_66 : decode cX4_well 66 = .ok (.iconst 1, 1) := by decide +kernel
theorem dX4_well_67 : decode cX4_well 67 = .ok (.iadd, 1) := by decide +kernel
theorem dX4_well_68 : decode cX4_well 68 = .ok (.iaload, 1) := by decide +kernel
theorem dX4_well_69 : decode cX4_well 69 = .ok (.ireturn, 1) := by decide +kernel
theorem dX4_well_70 : decode cX4_well 70 = .ok (.iconst 1, 1) := by decide +kernel
theorem dX4_well_71 : decode cX4_well 71 = .ok (.aload_n 0, 1) := by decide +kernel
theorem dX4_well_72 : decode cX4_well 72 = .ok (.getfield 7, 3) := by decide +kernel
theorem dX4_well_75 : decode cX4_well 75 = .ok (.bipush 14, 2) := by decide +kernel
theorem dX4_well_77 : decode cX4_well 77 = .ok (.iload_n 1, 1) := by decide +kernel
theorem dX4_well_78 : decode cX4_well 78 = .ok (.iadd, 1) := by decide +kernel
theorem dX4_well_79 : decode cX4_well 79 = .ok (.iaload, 1) := by decide +kernel
theorem dX4_well_80 : decode cX4_well 80 = .ok (.isub, 1) := by decide +kernel
theorem dX4_well_81 : decode cX4_well 81 = .ok (.ireturn, 1) := by decide +kernel
theorem dX4_well_82 : decode cX4_well 82 = .ok (.iconst (-1), 1) := by decide +kernel
theorem dX4_well_83 : decode cX4_well 83 = .ok (.ireturn, 1) := by decide +kernel
