theorem dX8_init_28 : decode cX8_init 28 = .ok (.newarray .int, 2) := by decide +kernel
theorem dX8_init_30 : decode cX8_init 30 = .ok (.dup, 1) := by decide +kernel
theorem dX8_init_31 : decode cX8_init 31 = .ok (.iconst 0, 1) := by decide +kernel
theorem dX8_init_32 : decode cX8_init 32 = .ok (.iconst 0, 1) := by decide +kernel
theorem dX8_init_33 : decode cX8_init 33 = .ok (.iastore, 1) := by decide +kernel
theorem dX8_init_34 : decode cX8_init 34 = .ok (.dup, 1) := by decide +kernel
theorem dX8_init_35 : decode cX8_init 35 = .ok (.iconst 1, 1) := by decide +kernel
theorem dX8_init_36 : decode cX8_init 36 = .ok (.iconst 1, 1) := by decide +kernel
theorem dX8_init_37 : decode cX8_init 37 = .ok (.iastore, 1) := by decide +kernel
theorem dX8_init_38 : decode cX8_init 38 = .ok (.dup, 1) := by decide +kernel
theorem dX8_init_39 : decode cX8_init 39 = .ok (.iconst 2, 1) := by decide +kernel
theorem dX8_init_40 : decode cX8_init 40 = .ok (.iconst 0, 1) := by decide +kernel
theorem dX8_init_41 : decode cX8_init 41 = .ok (.iastore, 1) := by decide +kernel
theorem dX8_init_42 : decode cX8_init 42 = .ok (.dup, 1) := by decide +kernel
theorem dX8_init_43 : decode cX8_init 43 = .ok (.iconst 3, 1) := by decide +kernel
theorem dX8_init_44 : decode cX8_init 44 = .ok (.iconst 3, 1) := by decide +kernel
theorem dX8_init_45 : decode cX8_init 45 = .ok (.iastore, 1) := by decide +kernel
theorem dX8_init_46 : decode cX8_init 46 = .ok (.dup, 1) := by decide +kernel
theorem dX8_init_47 : decode cX8_init 47 = .ok (.iconst 4, 1) := by decide +kernel
theorem dX8_init_48 : decode cX8_init 48 = .ok (.iconst 5, 1) := by decide +kernel
theorem dX8_init_49 : decode cX8_init 49 = .ok (.iastore, 1) := by decide +kernel
theorem dX8_init_50 : decode cX8_init 50 = .ok (.dup, 1) := by decide +kernel
theorem dX8_init_51 : decode cX8_init 51 = .ok (.iconst 5, 1) := by decide +kernel
theorem dX8_init_52 : decode cX8_init 52 = .ok (.iconst 0, 1) := by decide +kernel
theorem dX8_init_53 : decode cX8_init 53 = .ok (.iastore, 1) := by decide +kernel
theorem dX8_init_54 : decode cX8_init 54 = .ok (.dup, 1) := by decide +kernel
theorem dX8_init_55 : decode cX8_init 55 = .ok (.bipush 6, 2) := by decide +kernel
theorem dX8_init_57 : decode cX8_init 57 = .ok (.iconst 0, 1) := by decide +kernel
theorem dX8_init_58 : decode cX8_init 58 = .ok (.iastore, 1) := by decide +kernel
theorem dX8_init_59 : decode cX8_init 59 = .ok (.dup, 1) := by decide +kernel
theorem dX8_init_60 : decode cX8_init 60 = .ok (.bipush 7, 2) := by decide +kernel
theorem dX8_init_62 : decode cX8_init 62 = .ok (.iconst 0, 1) := by decide +kernel
theorem dX8_init_63 : decode cX8_init 63 = .ok (.iastore, 1) := by decide +kernel
theorem dX8_init_64 : decode cX8_init 64 = .ok (.dup, 1) := by decide +kernel
theorem dX8_init_65 : decode cX8_init 65 = .ok (.bipush 8, 2) := by decide +kernel
theorem dX8_init_67 : decode cX8_init 67 = .ok (.iconst 1, 1) := by decide +kernel
theorem dX8_init_68 : decode cX8_init 68 = .ok (.iastore, 1) := by decide +kernel
theorem dX8_init_69 : decode cX8_init 69 = .ok (.dup, 1) := by decide +kernel
theorem dX8_init_70 : decode cX8_init 70 = .ok (.bipush 9, 2) := by decide +kernel
theorem dX8_init_72 : decode cX8_init 72 = .ok (.iconst 2, 1) := by decide +kernel
theorem dX8_init_73 : decode cX8_init 73 = .ok (.iastore, 1) := by decide +kernel
theorem dX8_init_74 : decode cX8_init 74 = .ok (.dup, 1) := by decide +kernel
theorem dX8_init_75 : decode cX8_init 75 = .ok (.bipush 10, 2) := by decide +kernel
theorem dX8_init_77 : decode cX8_init 77 = .ok (.iconst 0, 1) := by decide +kernel
theorem dX8_init_78 : decode cX8_init 78 = .ok (.iastore, 1) := by decide +kernel
theorem dX8_init_79 : decode cX8_init 79 = .ok (.dup, 1) := by decide +kernel
theorem dX8_init_80 : decode cX8_init 80 = .ok (.bipush 11, 2) := by decide +kernel
theorem dX8_init_82 : decode cX8_init 82 = .ok (.iconst 2, 1) := by decide +kernel
theorem dX8_init_83 : decode cX8_init 83 = .ok (.iastore, 1) := by decide +kernel
theorem dX8_init_84 : decode cX8_init 84 = .ok (.dup, 1) := by decide +kernel
theorem dX8_init_85 : decode cX8_init 85 = .ok (.bipush 12, 2) := by decide +kernel
theorem dX8_init_87 : decode cX8_init 87 = .ok (.iconst 1, 1) := by decide +kernel
theorem dX8_init_88 : decode cX8_init 88 = .ok (.iastore, 1) := by decide +kernel
theorem dX8_init_89 : decode cX8_init 89 = .ok (.dup, 1) := by decide +kernel
theorem dX8_init_90 : decode cX8_init 90 = .ok (.bipush 13, 2) := by decide +kernel
theorem dX8_init_92 : decode cX8_init 92 = .ok (.iconst 4, 1) := by decide +kernel
theorem dX8_init_93 : decode cX8_init 93 = .ok (.iastore, 1) := by decide +kernel
theorem dX8_init_94 : decode cX8_init 94 = .ok (.dup, 1) := by decide +kernel
theorem dX8_init_95 : decode cX8_init 95 = .ok (.bipush 14, 2) := by decide +kernel
theorem dX8_init_97 : decode cX8_init 97 = .ok (.bipush 6, 2) := by decide +kernel
theorem dX8_init_99 : decode cX8_init 99 = .ok (.iastore, 1) := by decide +kernel
theorem dX8_init_100 : decode cX8_init 100 = .ok (.dup, 1) := by decide +kernel
theorem dX8_init_101 : decode cX8_init 101 = .ok (.bipush 15, 2) := by decide +kernel
theorem dX8_init_103 : decode cX8_init 103 = .ok (.iconst 0, 1) := by decide +kernel
theorem dX8_init_104 : decode cX8_init 104 = .ok (.iastore, 1) := by decide +kernel
theorem dX8_init_105 : decode cX8_init 105 = .ok (.dup, 1) := by decide +kernel
theorem dX8_init_106 : decode cX8_init 106 = .ok (.bipush 16, 2) := by decide +kernel
theorem dX8_init_108 : decode cX8_init 108 = .ok (.iconst 0, 1) := by decide +kernel
theorem dX8_init_109 : decode cX8_init 109 = .ok (.iastore, 1) := by decide +kernel
theorem dX8_init_110 : decode cX8_init 110 = .ok (.dup, 1) := by decide +kernel
theorem dX8_init_111 : decode cX8_init 111 = .ok (.bipush 17, 2) := by decide +kernel
theorem dX8_init_113 : decode cX8_init 113 = .ok (.iconst 2, 1) := by decide +kernel
theorem dX8_init_114 : decode cX8_init 114 = .ok (.iastore, 1) := by decide +kernel
theorem dX8_init_115 : decode cX8_init 115 = .ok (.dup, 1) := by decide +kernel
theorem dX8_init_116 : decode cX8_init 116 = .ok (.bipush 18, 2) := by decide +kernel
theorem dX8_init_118 : decode cX8_init 118 = .ok (.iconst 3, 1) := by decide +kernel
theorem dX8_init_119 : decode cX8_init 119 = .ok (.iastore, 1) := by decide +kernel
theorem dX8_init_120 : decode cX8_init 120 = .ok (.dup, 1) := by decide +kernel
theorem dX8_init_121 : decode cX8_init 121 = .ok (.bipush 19, 2) := by decide +kernel
theorem dX8_init_123 : decode cX8_init 123 = .ok (.iconst 5, 1) := by decide +kernel
theorem dX8_init_124 : decode cX8_init 124 = .ok (.iastore, 1) := by decide +kernel
theorem dX8_init_125 : decode cX8_init 125 = .ok (.putfield 20, 3) := by decide +kernel
theorem dX8_init_128 : decode cX8_init 128 = .ok (.aload_n 0, 1) := by decide +kernel
theorem dX8_init_129 : decode cX8_init 129 = .ok (.bipush 25, 2) := by decide +kernel
theorem dX8_init_131 : decode cX8_init 131 = .ok (.newarray .int, 2) := by decide +kernel
theorem dX8_init_133 : decode cX8_init 133 = .ok (.putfield 23, 3) := by decide +kernel
theorem dX8_init_136 : decode cX8_init 136 = .ok (.aload_n 0, 1) := by decide +kernel
theorem dX8_init_137 : decode cX8_init 137 = .ok (.bipush 8, 2) := by decide +kernel
theorem dX8_init_139 : decode cX8_init 139 = .ok (.newarray .int, 2) := by decide +kernel
theorem dX8_init_141 : decode cX8_init 141 = .ok (.putfield 26, 3) := by decide +kernel
theorem dX8_init_144 : decode cX8_init 144 = .ok (.aload_n 0, 1) := by decide +kernel
theorem dX8_init_145 : decode cX8_init 145 = .ok (.sipush 160, 3) := by decide +kernel
theorem dX8_init_148 : decode cX8_init 148 = .ok (.newarray .int, 2) := by decide +kernel
theorem dX8_init_150 : decode cX8_init 150 = .ok (.putfield 29, 3) := by decide +kernel
theorem dX8_init_153 : decode cX8_init 153 = .ok (.aload_n 0, 1) := by decide +kernel
theorem dX8_init_154 : decode cX8_init 154 = .ok (.bipush 14, 2) := by decide +kernel
theorem dX8_init_156 : decode cX8_init 156 = .ok (.newarray .int, 2) := by decide +kernel
theorem dX8_init_158 : decode cX8_init 158 = .ok (.dup, 1) := by decide +kernel
theorem dX8_init_159 : decode cX8_init 159 = .ok (.iconst 0, 1) := by decide +kernel
theorem dX8_init_160 : decode cX8_init 160 = .ok (.iconst 0, 1) := by decide +kernel
theorem dX8_init_161 : decode cX8_init 161 = .ok (.iastore, 1) := by decide +kernel
theorem dX8_init_162 : decode cX8_init 162 = .ok (.dup, 1) := by decide +kernel
theorem dX8_init_163 : decode cX8_init 163 = .ok (.iconst 1, 1) := by decide +kernel
theorem dX8_init_164 : decode cX8_init 164 = .ok (.bipush 6, 2) := by decide +kernel
theorem dX8_init_166 : decode cX8_init 166 = .ok (.iastore, 1) := by decide +kernel
theorem dX8_init_167 : decode cX8_init 167 = .ok (.dup, 1) := by decide +kernel
theorem dX8_init_168 : decode cX8_init 168 = .ok (.iconst 2, 1) := by decide +kernel
theorem dX8_init_169 : decode cX8_init 169 = .ok (.bipush 11, 2) := by decide +kernel
theorem dX8_init_171 : decode cX8_init 171 = .ok (.iastore, 1) := by decide +kernel
theorem dX8_init_172 : decode cX8_init 172 = .ok (.dup, 1) := by decide +kernel
theorem dX8_init_173 : decode cX8_init 173 = .ok (.iconst 3, 1) := by decide +kernel
theorem dX8_init_174 : decode cX8_init 174 = .ok (.bipush 14, 2) := by decide +kernel
theorem dX8_init_176 : decode cX8_init 176 = .ok (.iastore, 1) := by decide +kernel
theorem dX8_init_177 : decode cX8_init 177 = .ok (.dup, 1) := by decide +kernel
theorem dX8_init_178 : decode cX8_init 178 = .ok (.iconst 4, 1) := by decide +kernel
theorem dX8_init_179 : decode cX8_init 179 = .ok (.bipush 20, 2) := by decide +kernel
theorem dX8_init_181 : decode cX8_init 181 = .ok (.iastore, 1) := by decide +kernel
theorem dX8_init_182 : decode cX8_init 182 = .ok (.dup, 1) := by decide +kernel
theorem dX8_init_183 : decode cX8_init 183 = .ok (.iconst 5, 1) := by decide +kernel
theorem dX8_init_184 : decode cX8_init 184 = .ok (.bipush 25, 2) := by decide +kernel
theorem dX8_init_186 : decode cX8_init 186 = .ok (.iastore, 1) := by decide +kernel
theorem dX8_init_187 : decode cX8_init 187 = .ok (.dup, 1) := by decide +kernel
theorem dX8_init_188 : decode cX8_init 188 = .ok (.bipush 6, 2) := by decide +kernel
theorem dX8_init_190 : decode cX8_init 190 = .ok (.bipush 32, 2) := by decide +kernel
theorem dX8_init_192 : decode cX8_init 192 = .ok (.iastore, 1) := by decide +kernel
theorem dX8_init_193 : decode cX8_init 193 = .ok (.dup, 1) := by decide +kernel
theorem dX8_init_194 : decode cX8_init 194 = .ok (.bipush 7, 2) := by decide +kernel
theorem dX8_init_196 : decode cX8_init 196 = .ok (.bipush 38, 2) := by decide +kernel
theorem dX8_init_198 : decode cX8_init 198 = .ok (.iastore, 1) := by decide +kernel
theorem dX8_init_199 : decode cX8_init 199 = .ok (.dup, 1) := by decide +kernel
theorem dX8_init_200 : decode cX8_init 200 = .ok (.bipush 8, 2) := by decide +kernel
theorem dX8_init_202 : decode cX8_init 202 = .ok (.bipush 45, 2) := by decide +kernel
theorem dX8_init_204 : decode cX8_init 204 = .ok (.iastore, 1) := by decide +kernel
theorem dX8_init_205 : decode cX8_init 205 = .ok (.dup, 1) := by decide +kernel
theorem dX8_init_206 : decode cX8_init 206 = .ok (.bipush 9, 2) := by decide +kernel
theorem dX8_init_208 : decode cX8_init 208 = .ok (.bipush 51, 2) := by decide +kernel
theorem dX8_init_210 : decode cX8_init 210 = .ok (.iastore, 1) := by decide +kernel
theorem dX8_init_211 : decode cX8_init 211 = .ok (.dup, 1) := by decide +kernel
theorem dX8_init_212 : decode cX8_init 212 = .ok (.bipush 10, 2) := by decide +kernel
theorem dX8_init_214 : decode cX8_init 214 = .ok (.bipush 56, 2) := by decide +kernel
theorem dX8_init_216 : decode cX8_init 216 = .ok (.iastore, 1) := by decide +kernel
theorem dX8_init_217 : decode cX8_init 217 = .ok (.dup, 1) := by decide +kernel
theorem dX8_init_218 : decode cX8_init 218 = .ok (.bipush 11, 2) := by decide +kernel
theorem dX8_init_220 : decode cX8_init 220 = .ok (.bipush 60, 2) := by decide +kernel
theorem dX8_init_222 : decode cX8_init 222 = .ok (.iastore, 1) := by decide +kernel
theorem dX8_init_223 : decode cX8_init 223 = .ok (.dup, 1) := by decide +kernel
theorem dX8_init_224 : decode cX8_init 224 = .ok (.bipush 12, 2) := by decide +kernel
theorem dX8_init_226 : decode cX8_init 226 = .ok (.bipush 62, 2) := by decide +kernel
theorem dX8_init_228 : decode cX8_init 228 = .ok (.iastore, 1) := by decide +kernel
theorem dX8_init_229 : decode cX8_init 229 = .ok (.dup, 1) := by decide +kernel
theorem dX8_init_230 : decode cX8_init 230 = .ok (.bipush 13, 2) := by decide +kernel
theorem dX8_init_232 : decode cX8_init 232 = .ok (.bipush 66, 2) := by decide +kernel
theorem dX8_init_234 : decode cX8_init 234 = .ok (.iastore, 1) := by decide +kernel
theorem dX8_init_235 : decode cX8_init 235 = .ok (.putfield 32, 3) := by decide +kernel
theorem dX8_init_238 : decode cX8_init 238 = .ok (.aload_n 0, 1) := by decide +kernel
theorem dX8_init_239 : decode cX8_init 239 = .ok (.bipush 66, 2) := by decide +kernel
theorem dX8_init_241 : decode cX8_init 241 = .ok (.newarray .int, 2) := by decide +kernel
theorem dX8_init_243 : decode cX8_init 243 = .ok (.dup, 1) := by decide +kernel
theorem dX8_init_244 : decode cX8_init 244 = .ok (.iconst 0, 1) := by decide +kernel
theorem dX8_init_245 : decode cX8_init 245 = .ok (.bipush 109, 2) := by decide +kernel
theorem dX8_init_247 : decode cX8_init 247 = .ok (.iastore, 1) := by decide +kernel
theorem dX8_init_248 : decode cX8_init 248 = .ok (.dup, 1) := by decide +kernel
theorem dX8_init_249 : decode cX8_init 249 = .ok (.iconst 1, 1) := by decide +kernel
theorem dX8_init_250 : decode cX8_init 250 = .ok (.bipush 97, 2) := by decide +kernel
theorem dX8_init_252 : decode cX8_init 252 = .ok (.iastore, 1) := by decide +kernel
theorem dX8_init_253 : decode cX8_init 253 = .ok (.dup, 1) := by decide +kernel
theorem dX8_init_254 : decode cX8_init 254 = .ok (.iconst 2, 1) := by decide +kernel
theorem dX8_init_255 : decode cX8_init 255 = .ok (.bipush 103, 2) := by decide +kernel
theorem dX8_init_257 : decode cX8_init 257 = .ok (.iastore, 1) := by decide +kernel
theorem dX8_init_258 : decode cX8_init 258 = .ok (.dup, 1) := by decide +kernel
theorem dX8_init_259 : decode cX8_init 259 = .ok (.iconst 3, 1) := by decide +kernel
theorem dX8_init_260 : decode cX8_init 260 = .ok (.bipush 112, 2) := by decide +kernel
theorem dX8_init_262 : decode cX8_init 262 = .ok (.iastore, 1) := by decide +kernel
theorem dX8_init_263 : decode cX8_init 263 = .ok (.dup, 1) := by decide +kernel
theorem dX8_init_264 : decode cX8_init 264 = .ok (.iconst 4, 1) := by decide +kernel
theorem dX8_init_265 : decode cX8_init 265 = .ok (.bipush 105, 2) := by decide +kernel
theorem dX8_init_267 : decode cX8_init 267 = .ok (.iastore, 1) := by decide +kernel
theorem dX8_init_268 : decode cX8_init 268 = .ok (.dup, 1) := by decide +kernel
theorem dX8_init_269 : decode cX8_init 269 = .ok (.iconst 5, 1) := by decide +kernel
theorem dX8_init_270 : decode cX8_init 270 = .ok (.bipush 101, 2) := by decide +kernel
theorem dX8_init_272 : decode cX8_init 272 = .ok (.iastore, 1) := by decide +kernel
theorem dX8_init_273 : decode cX8_init 273 = .ok (.dup, 1) := by decide +kernel
theorem dX8_init_274 : decode cX8_init 274 = .ok (.bipush 6, 2) := by decide +kernel
theorem dX8_init_276 : decode cX8_init 276 = .ok (.bipush 115, 2) := by decide +kernel
theorem dX8_init_278 : decode cX8_init 278 = .ok (.iastore, 1) := by decide +kernel
theorem dX8_init_279 : decode cX8_init 279 = .ok (.dup, 1) := by decide +kernel
theorem dX8_init_280 : decode cX8_init 280 = .ok (.bipush 7, 2) := by decide +kernel
theorem dX8_init_282 : decode cX8_init 282 = .ok (.bipush 119, 2) := by decide +kernel
theorem dX8_init_284 : decode cX8_init 284 = .ok (.iastore, 1) := by decide +kernel
theorem dX8_init_285 : decode cX8_init 285 = .ok (.dup, 1) := by decide +kernel
theorem dX8_init_286 : decode cX8_init 286 = .ok (.bipush 8, 2) := by decide +kernel
theorem dX8_init_288 : decode cX8_init 288 = .ok (.bipush 101, 2) := by decide +kernel
theorem dX8_init_290 : decode cX8_init 290 = .ok (.iastore, 1) := by decide +kernel
theorem dX8_init_291 : decode cX8_init 291 = .ok (.dup, 1) := by decide +kernel
theorem dX8_init_292 : decode cX8_init 292 = .ok (.bipush 9, 2) := by decide +kernel
theorem dX8_init_294 : decode cX8_init 294 = .ok (.bipush 101, 2) := by decide +kernel
theorem dX8_init_296 : decode cX8_init 296 = .ok (.iastore, 1) := by decide +kernel
theorem dX8_init_297 : decode cX8_init 297 = .ok (.dup, 1) := by decide +kernel
theorem dX8_init_298 : decode cX8_init 298 = .ok (.bipush 10, 2) := by decide +kernel
theorem dX8_init_300 : decode cX8_init 300 = .ok (.bipush 112, 2) := by decide +kernel
theorem dX8_init_302 : decode cX8_init 302 = .ok (.iastore, 1) := by decide +kernel
theorem dX8_init_303 : decode cX8_init 303 = .ok (.dup, 1) := by decide +kernel
theorem dX8_init_304 : decode cX8_init 304 = .ok (.bipush 11, 2) := by decide +kernel
theorem dX8_init_306 : decode cX8_init 306 = .ok (.bipush 99, 2) := by decide +kernel
theorem dX8_init_308 : decode cX8_init 308 = .ok (.iastore, 1) := by decide +kernel
theorem dX8_init_309 : decode cX8_init 309 = .ok (.dup, 1) := by decide +kernel
theorem dX8_init_310 : decode cX8_init 310 = .ok (.bipush 12, 2) := by decide +kernel
theorem dX8_init_312 : decode cX8_init 312 = .ok (.bipush 97, 2) := by decide +kernel
theorem dX8_init_314 : decode cX8_init 314 = .ok (.iastore, 1) := by decide +kernel
theorem dX8_init_315 : decode cX8_init 315 = .ok (.dup, 1) := by decide +kernel
theorem dX8_init_316 : decode cX8_init 316 = .ok (.bipush 13, 2) := by decide +kernel
theorem dX8_init_318 : decode cX8_init 318 = .ok (.bipush 116, 2) := by decide +kernel
theorem dX8_init_320 : decode cX8_init 320 = .ok (.iastore, 1) := by decide +kernel
theorem dX8_init_321 : decode cX8_init 321 = .ok (.dup, 1) := by decide +kernel
theorem dX8_init_322 : decode cX8_init 322 = .ok (.bipush 14, 2) := by decide +kernel
theorem dX8_init_324 : decode cX8_init 324 = .ok (.bipush 104, 2) := by decide +kernel
theorem dX8_init_326 : decode cX8_init 326 = .ok (.iastore, 1) := by decide +kernel
theorem dX8_init_327 : decode cX8_init 327 = .ok (.dup, 1) := by decide +kernel
theorem dX8_init_328 : decode cX8_init 328 = .ok (.bipush 15, 2) := by decide +kernel
theorem dX8_init_330 : decode cX8_init 330 = .ok (.bipush 101, 2) := by decide +kernel
theorem dX8_init_332 : decode cX8_init 332 = .ok (.iastore, 1) := by decide +kernel
theorem dX8_init_333 : decode cX8_init 333 = .ok (.dup, 1) := by decide +kernel
theorem dX8_init_334 : decode cX8_init 334 = .ok (.bipush 16, 2) := by decide +kernel
theorem dX8_init_336 : decode cX8_init 336 = .ok (.bipush 97, 2) := by decide +kernel
theorem dX8_init_338 : decode cX8_init 338 = .ok (.iastore, 1) := by decide +kernel
theorem dX8_init_339 : decode cX8_init 339 = .ok (.dup, 1) := by decide +kernel
theorem dX8_init_340 : decode cX8_init 340 = .ok (.bipush 17, 2) := by decide +kernel
theorem dX8_init_342 : decode cX8_init 342 = .ok (.bipush 114, 2) := by decide +kernel
theorem dX8_init_344 : decode cX8_init 344 = .ok (.iastore, 1) := by decide +kernel
theorem dX8_init_345 : decode cX8_init 345 = .ok (.dup, 1) := by decide +kernel
theorem dX8_init_346 : decode cX8_init 346 = .ok (.bipush 18, 2) := by decide +kernel
theorem dX8_init_348 : decode cX8_init 348 = .ok (.bipush 115, 2) := by decide +kernel
theorem dX8_init_350 : decode cX8_init 350 = .ok (.iastore, 1) := by decide +kernel
theorem dX8_init_351 : decode cX8_init 351 = .ok (.dup, 1) := by decide +kernel
theorem dX8_init_352 : decode cX8_init 352 = .ok (.bipush 19, 2) := by decide +kernel
theorem dX8_init_354 : decode cX8_init 354 = .ok (.bipush 101, 2) := by decide +kernel
theorem dX8_init_356 : decode cX8_init 356 = .ok (.iastore, 1) := by decide +kernel
theorem dX8_init_357 : decode cX8_init 357 = .ok (.dup, 1) := by decide +kernel
theorem dX8_init_358 : decode cX8_init 358 = .ok (.bipush 20, 2) := by decide +kernel
theorem dX8_init_360 : decode cX8_init 360 = .ok (.bipush 112, 2) := by decide +kernel
theorem dX8_init_362 : decode cX8_init 362 = .ok (.iastore, 1) := by decide +kernel
theorem dX8_init_363 : decode cX8_init 363 = .ok (.dup, 1) := by decide +kernel
theorem dX8_init_364 : decode cX8_init 364 = .ok (.bipush 21, 2) := by decide +kernel
theorem dX8_init_366 : decode cX8_init 366 = .ok (.bipush 108, 2) := by decide +kernel
theorem dX8_init_368 : decode cX8_init 368 = .ok (.iastore, 1) := by decide +kernel
theorem dX8_init_369 : decode cX8_init 369 = .ok (.dup, 1) := by decide +kernel
theorem dX8_init_370 : decode cX8_init 370 = .ok (.bipush 22, 2) := by decide +kernel
theorem dX8_init_372 : decode cX8_init 372 = .ok (.bipush 97, 2) := by decide +kernel
theorem dX8_init_374 : decode cX8_init 374 = .ok (.iastore, 1) := by decide +kernel
theorem dX8_init_375 : decode cX8_init 375 = .ok (.dup, 1) := by decide +kernel
theorem dX8_init_376 : decode cX8_init 376 = .ok (.bipush 23, 2) := by decide +kernel
theorem dX8_init_378 : decode cX8_init 378 = .ok (.bipush 105, 2) := by decide +kernel
theorem dX8_init_380 : decode cX8_init 380 = .ok (.iastore, 1) := by decide +kernel
theorem dX8_init_381 : decode cX8_init 381 = .ok (.dup, 1) := by decide +kernel
theorem dX8_init_382 : decode cX8_init 382 = .ok (.bipush 24, 2) := by decide +kernel
theorem dX8_init_384 : decode cX8_init 384 = .ok (.bipush 110, 2) := by decide +kernel
theorem dX8_init_386 : decode cX8_init 386 = .ok (.iastore, 1) := by decide +kernel
theorem dX8_init_387 : decode cX8_init 387 = .ok (.dup, 1) := by decide +kernel
theorem dX8_init_388 : decode cX8_init 388 = .ok (.bipush 25, 2) := by decide +kernel
theorem dX8_init_390 : decode cX8_init 390 = .ok (.bipush 115, 2) := by decide +kernel
theorem dX8_init_392 : decode cX8_init 392 = .ok (.iastore, 1) := by decide +kernel
theorem dX8_init_393 : decode cX8_init 393 = .ok (.dup, 1) := by decide +kernel
theorem dX8_init_394 : decode cX8_init 394 = .ok (.bipush 26, 2) := by decide +kernel
theorem dX8_init_396 : decode cX8_init 396 = .ok (.bipush 99, 2) := by decide +kernel
theorem dX8_init_398 : decode cX8_init 398 = .ok (.iastore, 1) := by decide +kernel
theorem dX8_init_399 : decode cX8_init 399 = .ok (.dup, 1) := by decide +kernel
theorem dX8_init_400 : decode cX8_init 400 = .ok (.bipush 27, 2) := by decide +kernel
theorem dX8_init_402 : decode cX8_init 402 = .ok (.bipush 101, 2) := by decide +kernel
theorem dX8_init_404 : decode cX8_init 404 = .ok (.iastore, 1) := by decide +kernel
theorem dX8_init_405 : decode cX8_init 405 = .ok (.dup, 1) := by decide +kernel
theorem dX8_init_406 : decode cX8_init 406 = .ok (.bipush 28, 2) := by decide +kernel
theorem dX8_init_408 : decode cX8_init 408 = .ok (.bipush 112, 2) := by decide +kernel
theorem dX8_init_410 : decode cX8_init 410 = .ok (.iastore, 1) := by decide +kernel
theorem dX8_init_411 : decode cX8_init 411 = .ok (.dup, 1) := by decide +kernel
theorem dX8_init_412 : decode cX8_init 412 = .ok (.bipush 29, 2) := by decide +kernel
theorem dX8_init_414 : decode cX8_init 414 = .ok (.bipush 116, 2) := by decide +kernel
theorem dX8_init_416 : decode cX8_init 416 = .ok (.iastore, 1) := by decide +kernel
theorem dX8_init_417 : decode cX8_init 417 = .ok (.dup, 1) := by decide +kernel
theorem dX8_init_418 : decode cX8_init 418 = .ok (.bipush 30, 2) := by decide +kernel
theorem dX8_init_420 : decode cX8_init 420 = .ok (.bipush 105, 2) := by decide +kernel
theorem dX8_init_422 : decode cX8_init 422 = .ok (.iastore, 1) := by decide +kernel
theorem dX8_init_423 : decode cX8_init 423 = .ok (.dup, 1) := by decide +kernel
theorem dX8_init_424 : decode cX8_init 424 = .ok (.bipush 31, 2) := by decide +kernel
theorem dX8_init_426 : decode cX8_init 426 = .ok (.bipush 99, 2) := by decide +kernel
theorem dX8_init_428 : decode cX8_init 428 = .ok (.iastore, 1) := by decide +kernel
theorem dX8_init_429 : decode cX8_init 429 = .ok (.dup, 1) := by decide +kernel
theorem dX8_init_430 : decode cX8_init 430 = .ok (.bipush 32, 2) := by decide +kernel
theorem dX8_init_432 : decode cX8_init 432 = .ok (.bipush 100, 2) := by decide +kernel
theorem dX8_init_434 : decode cX8_init 434 = .ok (.iastore, 1) := by decide +kernel
theorem dX8_init_435 : decode cX8_init 435 = .ok (.dup, 1) := by decide +kernel
theorem dX8_init_436 : decode cX8_init 436 = .ok (.bipush 33, 2) := by decide +kernel
theorem dX8_init_438 : decode cX8_init 438 = .ok (.bipush 101, 2) := by decide +kernel
theorem dX8_init_440 : decode cX8_init 440 = .ok (.iastore, 1) := by decide +kernel
theorem dX8_init_441 : decode cX8_init 441 = .ok (.dup, 1) := by decide +kernel
theorem dX8_init_442 : decode cX8_init 442 = .ok (.bipush 34, 2) := by decide +kernel
theorem dX8_init_444 : decode cX8_init 444 = .ok (.bipush 118, 2) := by decide +kernel
theorem dX8_init_446 : decode cX8_init 446 = .ok (.iastore, 1) := by decide +kernel
theorem dX8_init_447 : decode cX8_init 447 = .ok (.dup, 1) := by decide +kernel
theorem dX8_init_448 : decode cX8_init 448 = .ok (.bipush 35, 2) := by decide +kernel
theorem dX8_init_450 : decode cX8_init 450 = .ok (.bipush 111, 2) := by decide +kernel
theorem dX8_init_452 : decode cX8_init 452 = .ok (.iastore, 1) := by decide +kernel
theorem dX8_init_453 : decode cX8_init 453 = .ok (.dup, 1) := by decide +kernel
theorem dX8_init_454 : decode cX8_init 454 = .ok (.bipush 36, 2) := by decide +kernel
theorem dX8_init_456 : decode cX8_init 456 = .ok (.bipush 117, 2) := by decide +kernel
theorem dX8_init_458 : decode cX8_init 458 = .ok (.iastore, 1) := by decide +kernel
theorem dX8_init_459 : decode cX8_init 459 = .ok (.dup, 1) := by decide +kernel
theorem dX8_init_460 : decode cX8_init 460 = .ok (.bipush 37, 2) := by decide +kernel
theorem dX8_init_462 : decode cX8_init 462 = .ok (.bipush 116, 2) := by decide +kernel
theorem dX8_init_464 : decode cX8_init 464 = .ok (.iastore, 1) := by decide +kernel
theorem dX8_init_465 : decode cX8_init 465 = .ok (.dup, 1) := by decide +kernel
theorem dX8_init_466 : decode cX8_init 466 = .ok (.bipush 38, 2) := by decide +kernel
theorem dX8_init_468 : decode cX8_init 468 = .ok (.bipush 104, 2) := by decide +kernel
theorem dX8_init_470 : decode cX8_init 470 = .ok (.iastore, 1) := by decide +kernel
theorem dX8_init_471 : decode cX8_init 471 = .ok (.dup, 1) := by decide +kernel
theorem dX8_init_472 : decode cX8_init 472 = .ok (.bipush 39, 2) := by decide +kernel
theorem dX8_init_474 : decode cX8_init 474 = .ok (.bipush 101, 2) := by decide +kernel
theorem dX8_init_476 : decode cX8_init 476 = .ok (.iastore, 1) := by decide +kernel
theorem dX8_init_477 : decode cX8_init 477 = .ok (.dup, 1) := by decide +kernel
theorem dX8_init_478 : decode cX8_init 478 = .ok (.bipush 40, 2) := by decide +kernel
theorem dX8_init_480 : decode cX8_init 480 = .ok (.bipush 97, 2) := by decide +kernel
theorem dX8_init_482 : decode cX8_init 482 = .ok (.iastore, 1) := by decide +kernel
theorem dX8_init_483 : decode cX8_init 483 = .ok (.dup, 1) := by decide +kernel
theorem dX8_init_484 : decode cX8_init 484 = .ok (.bipush 41, 2) := by decide +kernel
theorem dX8_init_486 : decode cX8_init 486 = .ok (.bipush 116, 2) := by decide +kernel
theorem dX8_init_488 : decode cX8_init 488 = .ok (.iastore, 1) := by decide +kernel
theorem dX8_init_489 : decode cX8_init 489 = .ok (.dup, 1) := by decide +kernel
theorem dX8_init_490 : decode cX8_init 490 = .ok (.bipush 42, 2) := by decide +kernel
theorem dX8_init_492 : decode cX8_init 492 = .ok (.bipush 104, 2) := by decide +kernel
theorem dX8_init_494 : decode cX8_init 494 = .ok (.iastore, 1) := by decide +kernel
theorem dX8_init_495 : decode cX8_init 495 = .ok (.dup, 1) := by decide +kernel
theorem dX8_init_496 : decode cX8_init 496 = .ok (.bipush 43, 2) := by decide +kernel
theorem dX8_init_498 : decode cX8_init 498 = .ok (.bipush 101, 2) := by decide +kernel
theorem dX8_init_500 : decode cX8_init 500 = .ok (.iastore, 1) := by decide +kernel
theorem dX8_init_501 : decode cX8_init 501 = .ok (.dup, 1) := by decide +kernel
theorem dX8_init_502 : decode cX8_init 502 = .ok (.bipush 44, 2) := by decide +kernel
theorem dX8_init_504 : decode cX8_init 504 = .ok (.bipush 110, 2) := by decide +kernel
theorem dX8_init_506 : decode cX8_init 506 = .ok (.iastore, 1) := by decide +kernel
theorem dX8_init_507 : decode cX8_init 507 = .ok (.dup, 1) := by decide +kernel
theorem dX8_init_508 : decode cX8_init 508 = .ok (.bipush 45, 2) := by decide +kernel
theorem dX8_init_510 : decode cX8_init 510 = .ok (.bipush 98, 2) := by decide +kernel
theorem dX8_init_512 : decode cX8_init 512 = .ok (.iastore, 1) := by decide +kernel
theorem dX8_init_513 : decode cX8_init 513 = .ok (.dup, 1) := by decide +kernel
theorem dX8_init_514 : decode cX8_init 514 = .ok (.bipush 46, 2) := by decide +kernel
theorem dX8_init_516 : decode cX8_init 516 = .ok (.bipush 108, 2) := by decide +kernel
theorem dX8_init_518 : decode cX8_init 518 = .ok (.iastore, 1) := by decide +kernel
theorem dX8_init_519 : decode cX8_init 519 = .ok (.dup, 1) := by decide +kernel
theorem dX8_init_520 : decode cX8_init 520 = .ok (.bipush 47, 2) := by decide +kernel
theorem dX8_init_522 : decode cX8_init 522 = .ok (.bipush 111, 2) := by decide +kernel
theorem dX8_init_524 : decode cX8_init 524 = .ok (.iastore, 1) := by decide +kernel
theorem dX8_init_525 : decode cX8_init 525 = .ok (.dup, 1) := by decide +kernel
theorem dX8_init_526 : decode cX8_init 526 = .ok (.bipush 48, 2) := by decide +kernel
theorem dX8_init_528 : decode cX8_init 528 = .ok (.bipush 99, 2) := by decide +kernel
theorem dX8_init_530 : decode cX8_init 530 = .ok (.iastore, 1) := by decide +kernel
theorem dX8_init_531 : decode cX8_init 531 = .ok (.dup, 1) := by decide +kernel
theorem dX8_init_532 : decode cX8_init 532 = .ok (.bipush 49, 2) := by decide +kernel
theorem dX8_init_534 : decode cX8_init 534 = .ok (.bipush 107, 2) := by decide +kernel
theorem dX8_init_536 : decode cX8_init 536 = .ok (.iastore, 1) := by decide +kernel
theorem dX8_init_537 : decode cX8_init 537 = .ok (.dup, 1) := by decide +kernel
theorem dX8_init_538 : decode cX8_init 538 = .ok (.bipush 50, 2) := by decide +kernel
theorem dX8_init_540 : decode cX8_init 540 = .ok (.bipush 115, 2) := by decide +kernel
theorem dX8_init_542 : decode cX8_init 542 = .ok (.iastore, 1) := by decide +kernel
theorem dX8_init_543 : decode cX8_init 543 = .ok (.dup, 1) := by decide +kernel
theorem dX8_init_544 : decode cX8_init 544 = .ok (.bipush 51, 2) := by decide +kernel
theorem dX8_init_546 : decode cX8_init 546 = .ok (.bipush 103, 2) := by decide +kernel
theorem dX8_init_548 : decode cX8_init 548 = .ok (.iastore, 1) := by decide +kernel
theorem dX8_init_549 : decode cX8_init 549 = .ok (.dup, 1) := by decide +kernel
theorem dX8_init_550 : decode cX8_init 550 = .ok (.bipush 52, 2) := by decide +kernel
theorem dX8_init_552 : decode cX8_init 552 = .ok (.bipush 117, 2) := by decide +kernel
theorem dX8_init_554 : decode cX8_init 554 = .ok (.iastore, 1) := by decide +kernel
theorem dX8_init_555 : decode cX8_init 555 = .ok (.dup, 1) := by decide +kernel
theorem dX8_init_556 : decode cX8_init 556 = .ok (.bipush 53, 2) := by decide +kernel
theorem dX8_init_558 : decode cX8_init 558 = .ok (.bipush 97, 2) := by decide +kernel
theorem dX8_init_560 : decode cX8_init 560 = .ok (.iastore, 1) := by decide +kernel
theorem dX8_init_561 : decode cX8_init 561 = .ok (.dup, 1) := by decide +kernel
theorem dX8_init_562 : decode cX8_init 562 = .ok (.bipush 54, 2) := by decide +kernel
theorem dX8_init_564 : decode cX8_init 564 = .ok (.bipush 114, 2) := by decide +kernel
theorem dX8_init_566 : decode cX8_init 566 = .ok (.iastore, 1) := by decide +kernel
theorem dX8_init_567 : decode cX8_init 567 = .ok (.dup, 1) := by decide +kernel
theorem dX8_init_568 : decode cX8_init 568 = .ok (.bipush 55, 2) := by decide +kernel
theorem dX8_init_570 : decode cX8_init 570 = .ok (.bipush 100, 2) := by decide +kernel
theorem dX8_init_572 : decode cX8_init 572 = .ok (.iastore, 1) := by decide +kernel
theorem dX8_init_573 : decode cX8_init 573 = .ok (.dup, 1) := by decide +kernel
theorem dX8_init_574 : decode cX8_init 574 = .ok (.bipush 56, 2) := by decide +kernel
theorem dX8_init_576 : decode cX8_init 576 = .ok (.bipush 108, 2) := by decide +kernel
theorem dX8_init_578 : decode cX8_init 578 = .ok (.iastore, 1) := by decide +kernel
theorem dX8_init_579 : decode cX8_init 579 = .ok (.dup, 1) := by decide +kernel
theorem dX8_init_580 : decode cX8_init 580 = .ok (.bipush 57, 2) := by decide +kernel
theorem dX8_init_582 : decode cX8_init 582 = .ok (.bipush 111, 2) := by decide +kernel
theorem dX8_init_584 : decode cX8_init 584 = .ok (.iastore, 1) := by decide +kernel
theorem dX8_init_585 : decode cX8_init 585 = .ok (.dup, 1) := by decide +kernel
theorem dX8_init_586 : decode cX8_init 586 = .ok (.bipush 58, 2) := by decide +kernel
theorem dX8_init_588 : decode cX8_init 588 = .ok (.bipush 99, 2) := by decide +kernel
theorem dX8_init_590 : decode cX8_init 590 = .ok (.iastore, 1) := by decide +kernel
theorem dX8_init_591 : decode cX8_init 591 = .ok (.dup, 1) := by decide +kernel
theorem dX8_init_592 : decode cX8_init 592 = .ok (.bipush 59, 2) := by decide +kernel
theorem dX8_init_594 : decode cX8_init 594 = .ok (.bipush 107, 2) := by decide +kernel
theorem dX8_init_596 : decode cX8_init 596 = .ok (.iastore, 1) := by decide +kernel
theorem dX8_init_597 : decode cX8_init 597 = .ok (.dup, 1) := by decide +kernel
theorem dX8_init_598 : decode cX8_init 598 = .ok (.bipush 60, 2) := by decide +kernel
theorem dX8_init_600 : decode cX8_init 600 = .ok (.bipush 117, 2) := by decide +kernel
theorem dX8_init_602 : decode cX8_init 602 = .ok (.iastore, 1) := by decide +kernel
theorem dX8_init_603 : decode cX8_init 603 = .ok (.dup, 1) := by decide +kernel
theorem dX8_init_604 : decode cX8_init 604 = .ok (.bipush 61, 2) := by decide +kernel
theorem dX8_init_606 : decode cX8_init 606 = .ok (.bipush 112, 2) := by decide +kernel
theorem dX8_init_608 : decode cX8_init 608 = .ok (.iastore, 1) := by decide +kernel
theorem dX8_init_609 : decode cX8_init 609 = .ok (.dup, 1) := by decide +kernel
theorem dX8_init_610 : decode cX8_init 610 = .ok (.bipush 62, 2) := by decide +kernel
theorem dX8_init_612 : decode cX8_init 612 = .ok (.bipush 100, 2) := by decide +kernel
theorem dX8_init_614 : decode cX8_init 614 = .ok (.iastore, 1) := by decide +kernel
theorem dX8_init_615 : decode cX8_init 615 = .ok (.dup, 1) := by decide +kernel
theorem dX8_init_616 : decode cX8_init 616 = .ok (.bipush 63, 2) := by decide +kernel
theorem dX8_init_618 : decode cX8_init 618 = .ok (.bipush 111, 2) := by decide +kernel
theorem dX8_init_620 : decode cX8_init 620 = .ok (.iastore, 1) := by decide +kernel
theorem dX8_init_621 : decode cX8_init 621 = .ok (.dup, 1) := by decide +kernel
theorem dX8_init_622 : decode cX8_init 622 = .ok (.bipush 64, 2) := by decide +kernel
theorem dX8_init_624 : decode cX8_init 624 = .ok (.bipush 119, 2) := by decide +kernel
theorem dX8_init_626 : decode cX8_init 626 = .ok (.iastore, 1) := by decide +kernel
theorem dX8_init_627 : decode cX8_init 627 = .ok (.dup, 1) := by decide +kernel
theorem dX8_init_628 : decode cX8_init 628 = .ok (.bipush 65, 2) := by decide +kernel
theorem dX8_init_630 : decode cX8_init 630 = .ok (.bipush 110, 2) := by decide +kernel
theorem dX8_init_632 : decode cX8_init 632 = .ok (.iastore, 1) := by decide +kernel
theorem dX8_init_633 : decode cX8_init 633 = .ok (.putfield 35, 3) := by decide +kernel
theorem dX8_init_636 : decode cX8_init 636 = .ok (.aload_n 0, 1) := by decide +kernel
theorem dX8_init_637 : decode cX8_init 637 = .ok (.iconst 4, 1) := by decide +kernel
theorem dX8_init_638 : decode cX8_init 638 = .ok (.newarray .int, 2) := by decide +kernel
theorem dX8_init_640 : decode cX8_init 640 = .ok (.putfield 38, 3) := by decide +kernel
theorem dX8_init_643 : decode cX8_init 643 = .ok (.aload_n 0, 1) := by decide +kernel
theorem dX8_init_644 : decode cX8_init 644 = .ok (.iconst 4, 1) := by decide +kernel
theorem dX8_init_645 : decode cX8_init 645 = .ok (.newarray .int, 2) := by decide +kernel
theorem dX8_init_647 : decode cX8_init 647 = .ok (.putfield 41, 3) := by decide +kernel
theorem dX8_init_650 : decode cX8_init 650 = .ok (.aload_n 0, 1) := by decide +kernel
theorem dX8_init_651 : decode cX8_init 651 = .ok (.iconst 4, 1) := by decide +kernel
theorem dX8_init_652 : decode cX8_init 652 = .ok (.newarray .boolean, 2) := by decide +kernel
theorem dX8_init_654 : decode cX8_init 654 = .ok (.putfield 44, 3) := by decide +kernel
theorem dX8_init_657 : decode cX8_init 657 = .ok (.aload_n 0, 1) := by decide +kernel
theorem dX8_init_658 : decode cX8_init 658 = .ok (.iconst 4, 1) := by decide +kernel
theorem dX8_init_659 : decode cX8_init 659 = .ok (.newarray .int, 2) := by decide +kernel
theorem dX8_init_661 : decode cX8_init 661 = .ok (.putfield 48, 3) := by decide +kernel
theorem dX8_init_664 : decode cX8_init 664 = .ok (.aload_n 0, 1) := by decide +kernel
theorem dX8_init_665 : decode cX8_init 665 = .ok (.sipush 480, 3) := by decide +kernel
theorem dX8_init_668 : decode cX8_init 668 = .ok (.newarray .int, 2) := by decide +kernel
theorem dX8_init_670 : decode cX8_init 670 = .ok (.putfield 51, 3) := by decide +kernel
theorem dX8_init_673 : decode cX8_init 673 = .ok (.aload_n 0, 1) := by decide +kernel
theorem dX8_init_674 : decode cX8_init 674 = .ok (.bipush 18, 2) := by decide +kernel
theorem dX8_init_676 : decode cX8_init 676 = .ok (.newarray .int, 2) := by decide +kernel
theorem dX8_init_678 : decode cX8_init 678 = .ok (.putfield 54, 3) := by decide +kernel
theorem dX8_init_681 : decode cX8_init 681 = .ok (.aload_n 0, 1) := by decide +kernel
theorem dX8_init_682 : decode cX8_init 682 = .ok (.sipush 480, 3) := by decide +kernel
theorem dX8_init_685 : decode cX8_init 685 = .ok (.newarray .int, 2) := by decide +kernel
theorem dX8_init_687 : decode cX8_init 687 = .ok (.putfield 57, 3) := by decide +kernel
theorem dX8_init_690 : decode cX8_init 690 = .ok (.aload_n 0, 1) := by decide +kernel
theorem dX8_init_691 : decode cX8_init 691 = .ok (.iconst 2, 1) := by decide +kernel
theorem dX8_init_692 : decode cX8_init 692 = .ok (.newarray .boolean, 2) := by decide +kernel
theorem dX8_init_694 : decode cX8_init 694 = .ok (.putfield 60, 3) := by decide +kernel
theorem dX8_init_697 : decode cX8_init 697 = .ok (.aload_n 0, 1) := by decide +kernel
theorem dX8_init_698 : decode cX8_init 698 = .ok (.iconst 4, 1) := by decide +kernel
theorem dX8_init_699 : decode cX8_init 699 = .ok (.newarray .int, 2) := by decide +kernel
theorem dX8_init_701 : decode cX8_init 701 = .ok (.dup, 1) := by decide +kernel
theorem dX8_init_702 : decode cX8_init 702 = .ok (.iconst 0, 1) := by decide +kernel
theorem dX8_init_703 : decode cX8_init 703 = .ok (.bipush (-4), 2) := by decide +kernel
theorem dX8_init_705 : decode cX8_init 705 = .ok (.iastore, 1) := by decide +kernel
theorem dX8_init_706 : decode cX8_init 706 = .ok (.dup, 1) := by decide +kernel
theorem dX8_init_707 : decode cX8_init 707 = .ok (.iconst 1, 1) := by decide +kernel
theorem dX8_init_708 : decode cX8_init 708 = .ok (.bipush (-4), 2) := by decide +kernel
theorem dX8_init_710 : decode cX8_init 710 = .ok (.iastore, 1) := by decide +kernel
theorem dX8_init_711 : decode cX8_init 711 = .ok (.dup, 1) := by decide +kernel
theorem dX8_init_712 : decode cX8_init 712 = .ok (.iconst 2, 1) := by decide +kernel
theorem dX8_init_713 : decode cX8_init 713 = .ok (.bipush (-4), 2) := by decide +kernel
theorem dX8_init_715 : decode cX8_init 715 = .ok (.iastore, 1) := by decide +kernel
theorem dX8_init_716 : decode cX8_init 716 = .ok (.dup, 1) := by decide +kernel
theorem dX8_init_717 : decode cX8_init 717 = .ok (.iconst 3, 1) := by decide +kernel
theorem dX8_init_718 : decode cX8_init 718 = .ok (.bipush (-4), 2) := by decide +kernel
theorem dX8_init_720 : decode cX8_init 720 = .ok (.iastore, 1) := by decide +kernel
theorem dX8_init_721 : decode cX8_init 721 = .ok (.putfield 63, 3) := by decide +kernel
theorem dX8_init_724 : decode cX8_init 724 = .ok (.aload_n 0, 1) := by decide +kernel
theorem dX8_init_725 : decode cX8_init 725 = .ok (.iconst 4, 1) := by decide +kernel
theorem dX8_init_726 : decode cX8_init 726 = .ok (.newarray .int, 2) := by decide +kernel
theorem dX8_init_728 : decode cX8_init 728 = .ok (.putfield 66, 3) := by decide +kernel
theorem dX8_init_731 : decode cX8_init 731 = .ok (.aload_n 0, 1) := by decide +kernel
theorem dX8_init_732 : decode cX8_init 732 = .ok (.sipush 160, 3) := by decide +kernel
theorem dX8_init_735 : decode cX8_init 735 = .ok (.newarray .int, 2) := by decide +kernel
theorem dX8_init_737 : decode cX8_init 737 = .ok (.putfield 69, 3) := by decide +kernel
theorem dX8_init_740 : decode cX8_init 740 = .ok (.return_, 1) := by decide +kernel
theorem dX8_in_0 : decode cX8_in 0 = .ok (.lload_n 0, 1) := by decide +kernel
theorem dX8_in_1 : decode cX8_in 1 = .ok (.lload_n 2, 1) := by decide +kernel
theorem dX8_in_2 : decode cX8_in 2 = .ok (.lcmp, 1) := by decide +kernel
theorem dX8_in_3 : decode cX8_in 3 = .ok (.ifCond .lt 14, 3) := by decide +kernel
theorem dX8_in_6 : decode cX8_in 6 = .ok (.lload_n 0, 1) := by decide +kernel
theorem dX8_in_7 : decode cX8_in 7 = .ok (.lload 4, 2) := by decide +kernel
theorem dX8_in_9 : decode cX8_in 9 = .ok (.lcmp, 1) := by decide +kernel
theorem dX8_in_10 : decode cX8_in 10 = .ok (.ifCond .gt 7, 3) := by decide +kernel
theorem dX8_in_13 : decode cX8_in 13 = .ok (.iconst 1, 1) := by decide +kernel
theorem dX8_in_14 : decode cX8_in 14 = .ok (.goto 4, 3) := by decide +kernel
theorem dX8_in_17 : decode cX8_in 17 = .ok (.iconst 0, 1) := by decide +kernel
theorem dX8_in_18 : decode cX8_in 18 = .ok (.ireturn, 1) := by decide +kernel
theorem dX8_feed_0 : decode cX8_feed 0 = .ok (.iload_n 1, 1) := by decide +kernel
theorem dX8_feed_1 : decode cX8_feed 1 = .ok (.i2l, 1) := by decide +kernel
theorem dX8_feed_2 : decode cX8_feed 2 = .ok (.lconst 0, 1) := by decide +kernel
theorem dX8_feed_3 : decode cX8_feed 3 = .ok (.ldc2_w 72, 3) := by decide +kernel
theorem dX8_feed_6 : decode cX8_feed 6 = .ok (.invokestatic 74, 3) := by decide +kernel
theorem dX8_feed_9 : decode cX8_feed 9 = .ok (.ifCond .ne 5, 3) := by decide +kernel
theorem dX8_feed_12 : decode cX8_feed 12 = .ok (.iconst (-1), 1) := by decide +kernel
theorem dX8_feed_13 : decode cX8_feed 13 = .ok (.ireturn, 1) := by decide +kernel
theorem dX8_feed_14 : decode cX8_feed 14 = .ok (.aload_n 0, 1) := by decide +kernel
theorem dX8_feed_15 : decode cX8_feed 15 = .ok (.getfield 78, 3) := by decide +kernel
theorem dX8_feed_18 : decode cX8_feed 18 = .ok (.sipush 160, 3) := by decide +kernel
theorem dX8_feed_21 : decode cX8_feed 21 = .ok (.if_icmp .ne 6, 3) := by decide +kernel
theorem dX8_feed_24 : decode cX8_feed 24 = .ok (.bipush (-3), 2) := by decide +kernel
theorem dX8_feed_26 : decode cX8_feed 26 = .ok (.ireturn, 1) := by decide +kernel
theorem dX8_feed_27 : decode cX8_feed 27 = .ok (.aload_n 0, 1) := by decide +kernel
theorem dX8_feed_28 : decode cX8_feed 28 = .ok (.getfield 29, 3) := by decide +kernel
theorem dX8_feed_31 : decode cX8_feed 31 = .ok (.aload_n 0, 1) := by decide +kernel
theorem dX8_feed_32 : decode cX8_feed 32 = .ok (.getfield 78, 3) := by decide +kernel
theorem dX8_feed_35 : decode cX8_feed 35 = .ok (.iload_n 1, 1) := by decide +kernel
theorem dX8_feed_36 : decode cX8_feed 36 = .ok (.iastore, 1) := by decide +kernel
theorem dX8_feed_37 : decode cX8_feed 37 = .ok (.aload_n 0, 1) := by decide +kernel
theorem dX8_feed_38 : decode cX8_feed 38 = .ok (.dup, 1) := by decide +kernel
theorem dX8_feed_39 : decode cX8_feed 39 = .ok (.getfield 78, 3) := by decide +kernel
theorem dX8_feed_42 : decode cX8_feed 42 = .ok (.iconst 1, 1) := by decide +kernel
theorem dX8_feed_43 : decode cX8_feed 43 = .ok (.iadd, 1) := by decide +kernel
theorem dX8_feed_44 : decode cX8_feed 44 = .ok (.putfield 78, 3) := by decide +kernel
theorem dX8_feed_47 : decode cX8_feed 47 = .ok (.aload_n 0, 1) := by decide +kernel
theorem dX8_feed_48 : decode cX8_feed 48 = .ok (.getfield 78, 3) := by decide +kernel
theorem dX8_feed_51 : decode cX8_feed 51 = .ok (.ireturn, 1) := by decide +kernel
theorem dX8_end_0 : decode cX8_end 0 = .ok (.iload_n 1, 1) := by decide +kernel
theorem dX8_end_1 : decode cX8_end 1 = .ok (.i2l, 1) := by decide +kernel
theorem dX8_end_2 : decode cX8_end 2 = .ok (.lconst 0, 1) := by decide +kernel
theorem dX8_end_3 : decode cX8_end 3 = .ok (.aload_n 0, 1) := by decide +kernel
theorem dX8_end_4 : decode cX8_end 4 = .ok (.getfield 78, 3) := by decide +kernel
theorem dX8_end_7 : decode cX8_end 7 = .ok (.i2l, 1) := by decide +kernel
theorem dX8_end_8 : decode cX8_end 8 = .ok (.invokestatic 74, 3) := by decide +kernel
theorem dX8_end_11 : decode cX8_end 11 = .ok (.ifCond .ne 5, 3) := by decide +kernel
theorem dX8_end_14 : decode cX8_end 14 = .ok (.iconst (-1), 1) := by decide +kernel
theorem dX8_end_15 : decode cX8_end 15 = .ok (.ireturn, 1) := by decide +kernel
theorem dX8_end_16 : decode cX8_end 16 = .ok (.aload_n 0, 1) := by decide +kernel
theorem dX8_end_17 : decode cX8_end 17 = .ok (.getfield 78, 3) := by decide +kernel
theorem dX8_end_20 : decode cX8_end 20 = .ok (.istore_n 2, 1) := by decide +kernel
theorem dX8_end_21 : decode cX8_end 21 = .ok (.aload_n 0, 1) := by decide +kernel
theorem dX8_end_22 : decode cX8_end 22 = .ok (.iload_n 1, 1) := by decide +kernel
theorem dX8_end_23 : decode cX8_end 23 = .ok (.putfield 78, 3) := by decide +kernel
theorem dX8_end_26 : decode cX8_end 26 = .ok (.iload_n 2, 1) := by decide +kernel
theorem dX8_end_27 : decode cX8_end 27 = .ok (.ireturn, 1) := by decide +kernel
theorem dX8_byteAt_0 : decode cX8_byteAt 0 = .ok (.iload_n 1, 1) := by decide +kernel
theorem dX8_byteAt_1 : decode cX8_byteAt 1 = .ok (.aload_n 0, 1) := by decide +kernel
theorem dX8_byteAt_2 : decode cX8_byteAt 2 = .ok (.getfield 78, 3) := by decide +kernel
theorem dX8_byteAt_5 : decode cX8_byteAt 5 = .ok (.if_icmp .ge 12, 3) := by decide +kernel
theorem dX8_byteAt_8 : decode cX8_byteAt 8 = .ok (.aload_n 0, 1) := by decide +kernel
theorem dX8_byteAt_9 : decode cX8_byteAt 9 = .ok (.getfield 29, 3) := by decide +kernel
theorem dX8_byteAt_12 : decode cX8_byteAt 12 = .ok (.iload_n 1, 1) := by decide +kernel
theorem dX8_byteAt_13 : decode cX8_byteAt 13 = .ok (.iaload, 1) := by decide +kernel
theorem dX8_byteAt_14 : decode cX8_byteAt 14 = .ok (.goto 5, 3) := by decide +kernel
theorem dX8_byteAt_17 : decode cX8_byteAt 17 = .ok (.bipush (-4), 2) := by decide +kernel
theorem dX8_byteAt_19 : decode cX8_byteAt 19 = .ok (.ireturn, 1) := by decide +kernel
theorem dX8_fails_0 : decode cX8_fails 0 = .ok (.aload_n 0, 1) := by decide +kernel
theorem dX8_fails_1 : decode cX8_fails 1 = .ok (.getfield 81, 3) := by decide +kernel
theorem dX8_fails_4 : decode cX8_fails 4 = .ok (.ifCond .ne 16, 3) := by decide +kernel
theorem dX8_fails_7 : decode cX8_fails 7 = .ok (.aload_n 0, 1) := by decide +kernel
theorem dX8_fails_8 : decode cX8_fails 8 = .ok (.iload_n 1, 1) := by decide +kernel
theorem dX8_fails_9 : decode cX8_fails 9 = .ok (.putfield 81, 3) := by decide +kernel
theorem dX8_fails_12 : decode cX8_fails 12 = .ok (.aload_n 0, 1) := by decide +kernel
theorem dX8_fails_13 : decode cX8_fails 13 = .ok (.aload_n 0, 1) := by decide +kernel
theorem dX8_fails_14 : decode cX8_fails 14 = .ok (.getfield 84, 3) := by decide +kernel
theorem dX8_fails_17 : decode cX8_fails 17 = .ok (.putfield 87, 3) := by decide +kernel
theorem dX8_fails_20 : decode cX8_fails 20 = .ok (.return_, 1) := by decide +kernel
theorem dX8_nameHere_0 : decode cX8_nameHere 0 = .ok (.iconst 0, 1) := by decide +kernel
theorem dX8_nameHere_1 : decode cX8_nameHere 1 = .ok (.istore_n 1, 1) := by decide +kernel
theorem dX8_nameHere_2 : decode cX8_nameHere 2 = .ok (.iload_n 1, 1) := by decide +kernel
theorem dX8_nameHere_3 : decode cX8_nameHere 3 = .ok (.bipush 13, 2) := by decide +kernel
theorem dX8_nameHere_5 : decode cX8_nameHere 5 = .ok (.if_icmp .ge 113, 3) := by decide +kernel
theorem dX8_nameHere_8 : decode cX8_nameHere 8 = .ok (.aload_n 0, 1) := by decide +kernel
theorem dX8_nameHere_9 : decode cX8_nameHere 9 = .ok (.getfield 90, 3) := by decide +kernel
theorem dX8_nameHere_12 : decode cX8_nameHere 12 = .ok (.iconst 1, 1) := by decide +kernel
theorem dX8_nameHere_13 : decode cX8_nameHere 13 = .ok (.if_icmp .ne 105, 3) := by decide +kernel
theorem dX8_nameHere_16 : decode cX8_nameHere 16 = .ok (.aload_n 0, 1) := by decide +kernel
theorem dX8_nameHere_17 : decode cX8_nameHere 17 = .ok (.getfield 93, 3) := by decide +kernel
theorem dX8_nameHere_20 : decode cX8_nameHere 20 = .ok (.aload_n 0, 1) := by decide +kernel
theorem dX8_nameHere_21 : decode cX8_nameHere 21 = .ok (.getfield 84, 3) := by decide +kernel
theorem dX8_nameHere_24 : decode cX8_nameHere 24 = .ok (.isub, 1) := by decide +kernel
theorem dX8_nameHere_25 : decode cX8_nameHere 25 = .ok (.aload_n 0, 1) := by decide +kernel
theorem dX8_nameHere_26 : decode cX8_nameHere 26 = .ok (.getfield 32, 3) := by decide +kernel
theorem dX8_nameHere_29 : decode cX8_nameHere 29 = .ok (.iload_n 1, 1) := by decide +kernel
theorem dX8_nameHere_30 : decode cX8_nameHere 30 = .ok (.iconst 1, 1) := by decide +kernel
theorem dX8_nameHere_31 : decode cX8_nameHere 31 = .ok (.iadd, 1) := by decide +kernel
theorem dX8_nameHere_32 : decode cX8_nameHere 32 = .ok (.iaload, 1) := by decide +kernel
theorem dX8_nameHere_33 : decode cX8_nameHere 33 = .ok (.aload_n 0, 1) := by decide +kernel
theorem dX8_nameHere_34 : decode cX8_nameHere 34 = .ok (.getfield 32, 3) := by decide +kernel
theorem dX8_nameHere_37 : decode cX8_nameHere 37 = .ok (.iload_n 1, 1) := by decide +kernel
theorem dX8_nameHere_38 : decode cX8_nameHere 38 = .ok (.iaload, 1) := by decide +kernel
theorem dX8_nameHere_39 : decode cX8_nameHere 39 = .ok (.isub, 1) := by decide +kernel
theorem dX8_nameHere_40 : decode cX8_nameHere 40 = .ok (.if_icmp .ne 7, 3) := by decide +kernel
theorem dX8_nameHere_43 : decode cX8_nameHere 43 = .ok (.iconst 1, 1) := by decide +kernel
theorem dX8_nameHere_44 : decode cX8_nameHere 44 = .ok (.goto 4, 3) := by decide +kernel
theorem dX8_nameHere_47 : decode cX8_nameHere 47 = .ok (.iconst 0, 1) := by decide +kernel
theorem dX8_nameHere_48 : decode cX8_nameHere 48 = .ok (.istore_n 2, 1) := by decide +kernel
theorem dX8_nameHere_49 : decode cX8_nameHere 49 = .ok (.iconst 0, 1) := by decide +kernel
theorem dX8_nameHere_50 : decode cX8_nameHere 50 = .ok (.istore_n 3, 1) := by decide +kernel
theorem dX8_nameHere_51 : decode cX8_nameHere 51 = .ok (.iload_n 2, 1) := by decide +kernel
theorem dX8_nameHere_52 : decode cX8_nameHere 52 = .ok (.ifCond .eq 54, 3) := by decide +kernel
theorem dX8_nameHere_55 : decode cX8_nameHere 55 = .ok (.iload_n 3, 1) := by decide +kernel
theorem dX8_nameHere_56 : decode cX8_nameHere 56 = .ok (.aload_n 0, 1) := by decide +kernel
theorem dX8_nameHere_57 : decode cX8_nameHere 57 = .ok (.getfield 93, 3) := by decide +kernel
theorem dX8_nameHere_60 : decode cX8_nameHere 60 = .ok (.aload_n 0, 1) := by decide +kernel
theorem dX8_nameHere_61 : decode cX8_nameHere 61 = .ok (.getfield 84, 3) := by decide +kernel
theorem dX8_nameHere_64 : decode cX8_nameHere 64 = .ok (.isub, 1) := by decide +kernel
theorem dX8_nameHere_65 : decode cX8_nameHere 65 = .ok (.if_icmp .ge 41, 3) := by decide +kernel
theorem dX8_nameHere_68 : decode cX8_nameHere 68 = .ok (.aload_n 0, 1) := by decide +kernel
theorem dX8_nameHere_69 : decode cX8_nameHere 69 = .ok (.aload_n 0, 1) := by decide +kernel
theorem dX8_nameHere_70 : decode cX8_nameHere 70 = .ok (.getfield 84, 3) := by decide +kernel
theorem dX8_nameHere_73 : decode cX8_nameHere 73 = .ok (.iload_n 3, 1) := by decide +kernel
theorem dX8_nameHere_74 : decode cX8_nameHere 74 = .ok (.iadd, 1) := by decide +kernel
theorem dX8_nameHere_75 : decode cX8_nameHere 75 = .ok (.invokevirtual 96, 3) := by decide +kernel
theorem dX8_nameHere_78 : decode cX8_nameHere 78 = .ok (.aload_n 0, 1) := by decide +kernel
theorem dX8_nameHere_79 : decode cX8_nameHere 79 = .ok (.getfield 35, 3) := by decide +kernel
theorem dX8_nameHere_82 : decode cX8_nameHere 82 = .ok (.aload_n 0, 1) := by decide +kernel
theorem dX8_nameHere_83 : decode cX8_nameHere 83 = .ok (.getfield 32, 3) := by decide +kernel
theorem dX8_nameHere_86 : decode cX8_nameHere 86 = .ok (.iload_n 1, 1) := by decide +kernel
theorem dX8_nameHere_87 : decode cX8_nameHere 87 = .ok (.iaload, 1) := by decide +kernel
theorem dX8_nameHere_88 : decode cX8_nameHere 88 = .ok (.iload_n 3, 1) := by decide +kernel
theorem dX8_nameHere_89 : decode cX8_nameHere 89 = .ok (.iadd, 1) := by decide +kernel
theorem dX8_nameHere_90 : decode cX8_nameHere 90 = .ok (.iaload, 1) := by decide +kernel
theorem dX8_nameHere_91 : decode cX8_nameHere 91 = .ok (.if_icmp .ne 7, 3) := by decide +kernel
theorem dX8_nameHere_94 : decode cX8_nameHere 94 = .ok (.iconst 1, 1) := by decide +kernel
theorem dX8_nameHere_95 : decode cX8_nameHere 95 = .ok (.goto 4, 3) := by decide +kernel
theorem dX8_nameHere_98 : decode cX8_nameHere 98 = .ok (.iconst 0, 1) := by decide +kernel
theorem dX8_nameHere_99 : decode cX8_nameHere 99 = .ok (.istore_n 2, 1) := by decide +kernel
theorem dX8_nameHere_100 : decode cX8_nameHere 100 = .ok (.iinc 3 1, 3) := by decide +kernel
theorem dX8_nameHere_103 : decode cX8_nameHere 103 = .ok (.goto (-52), 3) := by decide +kernel
theorem dX8_nameHere_106 : decode cX8_nameHere 106 = .ok (.iload_n 2, 1) := by decide +kernel
theorem dX8_nameHere_107 : decode cX8_nameHere 107 = .ok (.ifCond .eq 5, 3) := by decide +kernel
theorem dX8_nameHere_110 : decode cX8_nameHere 110 = .ok (.iload_n 1, 1) := by decide +kernel
theorem dX8_nameHere_111 : decode cX8_nameHere 111 = .ok (.ireturn, 1) := by decide +kernel
theorem dX8_nameHere_112 : decode cX8_nameHere 112 = .ok (.iinc 1 1, 3) := by decide +kernel
theorem dX8_nameHere_115 : decode cX8_nameHere 115 = .ok (.goto (-113), 3) := by decide +kernel
theorem dX8_nameHere_118 : decode cX8_nameHere 118 = .ok (.bipush (-4), 2) := by decide +kernel
theorem dX8_nameHere_120 : decode cX8_nameHere 120 = .ok (.ireturn, 1) := by decide +kernel
theorem dX8_step_0 : decode cX8_step 0 = .ok (.aload_n 0, 1) := by decide +kernel
theorem dX8_step_1 : decode cX8_step 1 = .ok (.getfield 81, 3) := by decide +kernel
theorem dX8_step_4 : decode cX8_step 4 = .ok (.ifCond .le 4, 3) := by decide +kernel
theorem dX8_step_7 : decode cX8_step 7 = .ok (.return_, 1) := by decide +kernel
theorem dX8_step_8 : decode cX8_step 8 = .ok (.aload_n 0, 1) := by decide +kernel
theorem dX8_step_9 : decode cX8_step 9 = .ok (.aload_n 0, 1) := by decide +kernel
theorem dX8_step_10 : decode cX8_step 10 = .ok (.getfield 93, 3) := by decide +kernel
theorem dX8_step_13 : decode cX8_step 13 = .ok (.invokevirtual 96, 3) := by decide +kernel
theorem dX8_step_16 : decode cX8_step 16 = .ok (.bipush 32, 2) := by decide +kernel
theorem dX8_step_18 : decode cX8_step 18 = .ok (.if_icmp .ne 16, 3) := by decide +kernel
theorem dX8_step_21 : decode cX8_step 21 = .ok (.aload_n 0, 1) := by decide +kernel
theorem dX8_step_22 : decode cX8_step 22 = .ok (.dup, 1) := by decide +kernel
theorem dX8_step_23 : decode cX8_step 23 = .ok (.getfield 93, 3) := by decide +kernel
theorem dX8_step_26 : decode cX8_step 26 = .ok (.iconst 1, 1) := by decide +kernel
theorem dX8_step_27 : decode cX8_step 27 = .ok (.iadd, 1) := by decide +kernel
theorem dX8_step_28 : decode cX8_step 28 = .ok (.putfield 93, 3) := by decide +kernel
theorem dX8_step_31 : decode cX8_step 31 = .ok (.goto (-23), 3) := by decide +kernel
theorem dX8_step_34 : decode cX8_step 34 = .ok (.aload_n 0, 1) := by decide +kernel
theorem dX8_step_35 : decode cX8_step 35 = .ok (.aload_n 0, 1) := by decide +kernel
theorem dX8_step_36 : decode cX8_step 36 = .ok (.getfield 93, 3) := by decide +kernel
theorem dX8_step_39 : decode cX8_step 39 = .ok (.putfield 84, 3) := by decide +kernel
theorem dX8_step_42 : decode cX8_step 42 = .ok (.aload_n 0, 1) := by decide +kernel
theorem dX8_step_43 : decode cX8_step 43 = .ok (.aload_n 0, 1) := by decide +kernel
theorem dX8_step_44 : decode cX8_step 44 = .ok (.getfield 93, 3) := by decide +kernel
theorem dX8_step_47 : decode cX8_step 47 = .ok (.invokevirtual 96, 3) := by decide +kernel
theorem dX8_step_50 : decode cX8_step 50 = .ok (.istore_n 1, 1) := by decide +kernel
theorem dX8_step_51 : decode cX8_step 51 = .ok (.aload_n 0, 1) := by decide +kernel
theorem dX8_step_52 : decode cX8_step 52 = .ok (.iconst 0, 1) := by decide +kernel
theorem dX8_step_53 : decode cX8_step 53 = .ok (.putfield 100, 3) := by decide +kernel
theorem dX8_step_56 : decode cX8_step 56 = .ok (.iload_n 1, 1) := by decide +kernel
theorem dX8_step_57 : decode cX8_step 57 = .ok (.bipush (-4), 2) := by decide +kernel
theorem dX8_step_59 : decode cX8_step 59 = .ok (.if_icmp .ne 11, 3) := by decide +kernel
theorem dX8_step_62 : decode cX8_step 62 = .ok (.aload_n 0, 1) := by decide +kernel
theorem dX8_step_63 : decode cX8_step 63 = .ok (.iconst 0, 1) := by decide +kernel
theorem dX8_step_64 : decode cX8_step 64 = .ok (.putfield 90, 3) := by decide +kernel
theorem dX8_step_67 : decode cX8_step 67 = .ok (.goto 202, 3) := by decide +kernel
theorem dX8_step_70 : decode cX8_step 70 = .ok (.iload_n 1, 1) := by decide +kernel
theorem dX8_step_71 : decode cX8_step 71 = .ok (.i2l, 1) := by decide +kernel
theorem dX8_step_72 : decode cX8_step 72 = .ok (.ldc2_w 103, 3) := by decide +kernel
theorem dX8_step_75 : decode cX8_step 75 = .ok (.ldc2_w 105, 3) := by decide +kernel
theorem dX8_step_78 : decode cX8_step 78 = .ok (.invokestatic 74, 3) := by decide +kernel
theorem dX8_step_81 : decode cX8_step 81 = .ok (.ifCond .eq 45, 3) := by decide +kernel
theorem dX8_step_84 : decode cX8_step 84 = .ok (.aload_n 0, 1) := by decide +kernel
theorem dX8_step_85 : decode cX8_step 85 = .ok (.aload_n 0, 1) := by decide +kernel
theorem dX8_step_86 : decode cX8_step 86 = .ok (.getfield 93, 3) := by decide +kernel
theorem dX8_step_89 : decode cX8_step 89 = .ok (.invokevirtual 96, 3) := by decide +kernel
theorem dX8_step_92 : decode cX8_step 92 = .ok (.i2l, 1) := by decide +kernel
theorem dX8_step_93 : decode cX8_step 93 = .ok (.ldc2_w 103, 3) := by decide +kernel
theorem dX8_step_96 : decode cX8_step 96 = .ok (.ldc2_w 105, 3) := by decide +kernel
theorem dX8_step_99 : decode cX8_step 99 = .ok (.invokestatic 74, 3) := by decide +kernel
theorem dX8_step_102 : decode cX8_step 102 = .ok (.ifCond .eq 16, 3) := by decide +kernel
theorem dX8_step_105 : decode cX8_step 105 = .ok (.aload_n 0, 1) := by decide +kernel
theorem dX8_step_106 : decode cX8_step 106 = .ok (.dup, 1) := by decide +kernel
theorem dX8_step_107 : decode cX8_step 107 = .ok (.getfield 93, 3) := by decide +kernel
theorem dX8_step_110 : decode cX8_step 110 = .ok (.iconst 1, 1) := by decide +kernel
theorem dX8_step_111 : decode cX8_step 111 = .ok (.iadd, 1) := by decide +kernel
theorem dX8_step_112 : decode cX8_step 112 = .ok (.putfield 93, 3) := by decide +kernel
theorem dX8_step_115 : decode cX8_step 115 = .ok (.goto (-31), 3) := by decide +kernel
theorem dX8_step_118 : decode cX8_step 118 = .ok (.aload_n 0, 1) := by decide +kernel
theorem dX8_step_119 : decode cX8_step 119 = .ok (.iconst 1, 1) := by decide +kernel
theorem dX8_step_120 : decode cX8_step 120 = .ok (.putfield 90, 3) := by decide +kernel
theorem dX8_step_123 : decode cX8_step 123 = .ok (.goto 146, 3) := by decide +kernel
theorem dX8_step_126 : decode cX8_step 126 = .ok (.iload_n 1, 1) := by decide +kernel
theorem dX8_step_127 : decode cX8_step 127 = .ok (.i2l, 1) := by decide +kernel
theorem dX8_step_128 : decode cX8_step 128 = .ok (.ldc2_w 107, 3) := by decide +kernel
theorem dX8_step_131 : decode cX8_step 131 = .ok (.ldc2_w 109, 3) := by decide +kernel
theorem dX8_step_134 : decode cX8_step 134 = .ok (.invokestatic 74, 3) := by decide +kernel
theorem dX8_step_137 : decode cX8_step 137 = .ok (.ifCond .eq 106, 3) := by decide +kernel
theorem dX8_step_140 : decode cX8_step 140 = .ok (.aload_n 0, 1) := by decide +kernel
theorem dX8_step_141 : decode cX8_step 141 = .ok (.aload_n 0, 1) := by decide +kernel
theorem dX8_step_142 : decode cX8_step 142 = .ok (.getfield 93, 3) := by decide +kernel
theorem dX8_step_145 : decode cX8_step 145 = .ok (.invokevirtual 96, 3) := by decide +kernel
theorem dX8_step_148 : decode cX8_step 148 = .ok (.i2l, 1) := by decide +kernel
theorem dX8_step_149 : decode cX8_step 149 = .ok (.ldc2_w 107, 3) := by decide +kernel
theorem dX8_step_152 : decode cX8_step 152 = .ok (.ldc2_w 109, 3) := by decide +kernel
theorem dX8_step_155 : decode cX8_step 155 = .ok (.invokestatic 74, 3) := by decide +kernel
theorem dX8_step_158 : decode cX8_step 158 = .ok (.ifCond .eq 59, 3) := by decide +kernel
theorem dX8_step_161 : decode cX8_step 161 = .ok (.aload_n 0, 1) := by decide +kernel
theorem dX8_step_162 : decode cX8_step 162 = .ok (.aload_n 0, 1) := by decide +kernel
theorem dX8_step_163 : decode cX8_step 163 = .ok (.getfield 93, 3) := by decide +kernel
theorem dX8_step_166 : decode cX8_step 166 = .ok (.aload_n 0, 1) := by decide +kernel
theorem dX8_step_167 : decode cX8_step 167 = .ok (.getfield 84, 3) := by decide +kernel
theorem dX8_step_170 : decode cX8_step 170 = .ok (.isub, 1) := by decide +kernel
theorem dX8_step_171 : decode cX8_step 171 = .ok (.iconst 2, 1) := by decide +kernel
theorem dX8_step_172 : decode cX8_step 172 = .ok (.if_icmp .ge 25, 3) := by decide +kernel
theorem dX8_step_175 : decode cX8_step 175 = .ok (.bipush 10, 2) := by decide +kernel
theorem dX8_step_177 : decode cX8_step 177 = .ok (.aload_n 0, 1) := by decide +kernel
theorem dX8_step_178 : decode cX8_step 178 = .ok (.getfield 100, 3) := by decide +kernel
theorem dX8_step_181 : decode cX8_step 181 = .ok (.imul, 1) := by decide +kernel
theorem dX8_step_182 : decode cX8_step 182 = .ok (.aload_n 0, 1) := by decide +kernel
theorem dX8_step_183 : decode cX8_step 183 = .ok (.aload_n 0, 1) := by decide +kernel
theorem dX8_step_184 : decode cX8_step 184 = .ok (.getfield 93, 3) := by decide +kernel
theorem dX8_step_187 : decode cX8_step 187 = .ok (.invokevirtual 96, 3) := by decide +kernel
theorem dX8_step_190 : decode cX8_step 190 = .ok (.iadd, 1) := by decide +kernel
theorem dX8_step_191 : decode cX8_step 191 = .ok (.bipush 48, 2) := by decide +kernel
theorem dX8_step_193 : decode cX8_step 193 = .ok (.isub, 1) := by decide +kernel
theorem dX8_step_194 : decode cX8_step 194 = .ok (.goto 7, 3) := by decide +kernel
theorem dX8_step_197 : decode cX8_step 197 = .ok (.aload_n 0, 1) := by decide +kernel
theorem dX8_step_198 : decode cX8_step 198 = .ok (.getfield 100, 3) := by decide +kernel
theorem dX8_step_201 : decode cX8_step 201 = .ok (.putfield 100, 3) := by decide +kernel
theorem dX8_step_204 : decode cX8_step 204 = .ok (.aload_n 0, 1) := by decide +kernel
theorem dX8_step_205 : decode cX8_step 205 = .ok (.dup, 1) := by decide +kernel
theorem dX8_step_206 : decode cX8_step 206 = .ok (.getfield 93, 3) := by decide +kernel
theorem dX8_step_209 : decode cX8_step 209 = .ok (.iconst 1, 1) := by decide +kernel
theorem dX8_step_210 : decode cX8_step 210 = .ok (.iadd, 1) := by decide +kernel
theorem dX8_step_211 : decode cX8_step 211 = .ok (.putfield 93, 3) := by decide +kernel
theorem dX8_step_214 : decode cX8_step 214 = .ok (.goto (-74), 3) := by decide +kernel
theorem dX8_step_217 : decode cX8_step 217 = .ok (.aload_n 0, 1) := by decide +kernel
theorem dX8_step_218 : decode cX8_step 218 = .ok (.iconst 2, 1) := by decide +kernel
theorem dX8_step_219 : decode cX8_step 219 = .ok (.putfield 90, 3) := by decide +kernel
theorem dX8_step_222 : decode cX8_step 222 = .ok (.aload_n 0, 1) := by decide +kernel
theorem dX8_step_223 : decode cX8_step 223 = .ok (.getfield 93, 3) := by decide +kernel
theorem dX8_step_226 : decode cX8_step 226 = .ok (.aload_n 0, 1) := by decide +kernel
theorem dX8_step_227 : decode cX8_step 227 = .ok (.getfield 84, 3) := by decide +kernel
theorem dX8_step_230 : decode cX8_step 230 = .ok (.isub, 1) := by decide +kernel
theorem dX8_step_231 : decode cX8_step 231 = .ok (.iconst 2, 1) := by decide +kernel
theorem dX8_step_232 : decode cX8_step 232 = .ok (.if_icmp .le 37, 3) := by decide +kernel
theorem dX8_step_235 : decode cX8_step 235 = .ok (.aload_n 0, 1) := by decide +kernel
theorem dX8_step_236 : decode cX8_step 236 = .ok (.iconst 1, 1) := by decide +kernel
theorem dX8_step_237 : decode cX8_step 237 = .ok (.invokevirtual 111, 3) := by decide +kernel
theorem dX8_step_240 : decode cX8_step 240 = .ok (.goto 29, 3) := by decide +kernel
theorem dX8_step_243 : decode cX8_step 243 = .ok (.aload_n 0, 1) := by decide +kernel
theorem dX8_step_244 : decode cX8_step 244 = .ok (.iconst 3, 1) := by decide +kernel
theorem dX8_step_245 : decode cX8_step 245 = .ok (.putfield 90, 3) := by decide +kernel
theorem dX8_step_248 : decode cX8_step 248 = .ok (.aload_n 0, 1) := by decide +kernel
theorem dX8_step_249 : decode cX8_step 249 = .ok (.dup, 1) := by decide +kernel
theorem dX8_step_250 : decode cX8_step 250 = .ok (.getfield 93, 3) := by decide +kernel
theorem dX8_step_253 : decode cX8_step 253 = .ok (.iconst 1, 1) := by decide +kernel
theorem dX8_step_254 : decode cX8_step 254 = .ok (.iadd, 1) := by decide +kernel
theorem dX8_step_255 : decode cX8_step 255 = .ok (.putfield 93, 3) := by decide +kernel
theorem dX8_step_258 : decode cX8_step 258 = .ok (.iload_n 1, 1) := by decide +kernel
theorem dX8_step_259 : decode cX8_step 259 = .ok (.bipush 59, 2) := by decide +kernel
theorem dX8_step_261 : decode cX8_step 261 = .ok (.if_icmp .eq 8, 3) := by decide +kernel
theorem dX8_step_264 : decode cX8_step 264 = .ok (.aload_n 0, 1) := by decide +kernel
theorem dX8_step_265 : decode cX8_step 265 = .ok (.iconst 1, 1) := by decide +kernel
theorem dX8_step_266 : decode cX8_step 266 = .ok (.invokevirtual 111, 3) := by decide +kernel
theorem dX8_step_269 : decode cX8_step 269 = .ok (.return_, 1) := by decide +kernel
theorem dX8_other_0 : decode cX8_other 0 = .ok (.aload_n 0, 1) := by decide +kernel
theorem dX8_other_1 : decode cX8_other 1 = .ok (.getfield 81, 3) := by decide +kernel
theorem dX8_other_4 : decode cX8_other 4 = .ok (.ifCond .ne 16, 3) := by decide +kernel
theorem dX8_other_7 : decode cX8_other 7 = .ok (.aload_n 0, 1) := by decide +kernel
theorem dX8_other_8 : decode cX8_other 8 = .ok (.getfield 90, 3) := by decide +kernel
theorem dX8_other_11 : decode cX8_other 11 = .ok (.iconst 2, 1) := by decide +kernel
theorem dX8_other_12 : decode cX8_other 12 = .ok (.if_icmp .eq 8, 3) := by decide +kernel
theorem dX8_other_15 : decode cX8_other 15 = .ok (.aload_n 0, 1) := by decide +kernel
theorem dX8_other_16 : decode cX8_other 16 = .ok (.iconst 2, 1) := by decide +kernel
theorem dX8_other_17 : decode cX8_other 17 = .ok (.invokevirtual 111, 3) := by decide +kernel
theorem dX8_other_20 : decode cX8_other 20 = .ok (.aload_n 0, 1) := by decide +kernel
theorem dX8_other_21 : decode cX8_other 21 = .ok (.getfield 81, 3) := by decide +kernel
theorem dX8_other_24 : decode cX8_other 24 = .ok (.ifCond .ne 23, 3) := by decide +kernel
theorem dX8_other_27 : decode cX8_other 27 = .ok (.aload_n 0, 1) := by decide +kernel
theorem dX8_other_28 : decode cX8_other 28 = .ok (.getfield 100, 3) := by decide +kernel
theorem dX8_other_31 : decode cX8_other 31 = .ok (.i2l, 1) := by decide +kernel
theorem dX8_other_32 : decode cX8_other 32 = .ok (.iload_n 1, 1) := by decide +kernel
theorem dX8_other_33 : decode cX8_other 33 = .ok (.i2l, 1) := by decide +kernel
theorem dX8_other_34 : decode cX8_other 34 = .ok (.iload_n 2, 1) := by decide +kernel
theorem dX8_other_35 : decode cX8_other 35 = .ok (.i2l, 1) := by decide +kernel
theorem dX8_other_36 : decode cX8_other 36 = .ok (.invokestatic 74, 3) := by decide +kernel
theorem dX8_other_39 : decode cX8_other 39 = .ok (.ifCond .ne 8, 3) := by decide +kernel
theorem dX8_other_42 : decode cX8_other 42 = .ok (.aload_n 0, 1) := by decide +kernel
theorem dX8_other_43 : decode cX8_other 43 = .ok (.iconst 3, 1) := by decide +kernel
theorem dX8_other_44 : decode cX8_other 44 = .ok (.invokevirtual 111, 3) := by decide +kernel
theorem dX8_other_47 : decode cX8_other 47 = .ok (.aload_n 0, 1) := by decide +kernel
theorem dX8_other_48 : decode cX8_other 48 = .ok (.getfield 81, 3) := by decide +kernel
theorem dX8_other_51 : decode cX8_other 51 = .ok (.ifCond .ne 20, 3) := by decide +kernel
theorem dX8_other_54 : decode cX8_other 54 = .ok (.iload_n 3, 1) := by decide +kernel
theorem dX8_other_55 : decode cX8_other 55 = .ok (.aload_n 0, 1) := by decide +kernel
theorem dX8_other_56 : decode cX8_other 56 = .ok (.getfield 100, 3) := by decide +kernel
theorem dX8_other_59 : decode cX8_other 59 = .ok (.ishr, 1) := by decide +kernel
theorem dX8_other_60 : decode cX8_other 60 = .ok (.iconst 1, 1) := by decide +kernel
theorem dX8_other_61 : decode cX8_other 61 = .ok (.iand, 1) := by decide +kernel
theorem dX8_other_62 : decode cX8_other 62 = .ok (.iconst 1, 1) := by decide +kernel
theorem dX8_other_63 : decode cX8_other 63 = .ok (.if_icmp .ne 8, 3) := by decide +kernel
theorem dX8_other_66 : decode cX8_other 66 = .ok (.aload_n 0, 1) := by decide +kernel
theorem dX8_other_67 : decode cX8_other 67 = .ok (.iconst 4, 1) := by decide +kernel
theorem dX8_other_68 : decode cX8_other 68 = .ok (.invokevirtual 111, 3) := by decide +kernel
theorem dX8_other_71 : decode cX8_other 71 = .ok (.aload_n 0, 1) := by decide +kernel
theorem dX8_other_72 : decode cX8_other 72 = .ok (.getfield 81, 3) := by decide +kernel
theorem dX8_other_75 : decode cX8_other 75 = .ok (.ifCond .ne 10, 3) := by decide +kernel
theorem dX8_other_78 : decode cX8_other 78 = .ok (.aload_n 0, 1) := by decide +kernel
theorem dX8_other_79 : decode cX8_other 79 = .ok (.getfield 100, 3) := by decide +kernel
theorem dX8_other_82 : decode cX8_other 82 = .ok (.goto 4, 3) := by decide +kernel
theorem dX8_other_85 : decode cX8_other 85 = .ok (.iload_n 1, 1) := by decide +kernel
theorem dX8_other_86 : decode cX8_other 86 = .ok (.istore 4, 2) := by decide +kernel
theorem dX8_other_88 : decode cX8_other 88 = .ok (.aload_n 0, 1) := by decide +kernel
theorem dX8_other_89 : decode cX8_other 89 = .ok (.invokevirtual 115, 3) := by decide +kernel
theorem dX8_other_92 : decode cX8_other 92 = .ok (.iload 4, 2) := by decide +kernel
theorem dX8_other_94 : decode cX8_other 94 = .ok (.ireturn, 1) := by decide +kernel
theorem dX8_blockHere_0 : decode cX8_blockHere 0 = .ok (.aload_n 0, 1) := by decide +kernel
theorem dX8_blockHere_1 : decode cX8_blockHere 1 = .ok (.iconst 0, 1) := by decide +kernel
theorem dX8_blockHere_2 : decode cX8_blockHere 2 = .ok (.bipush 7, 2) := by decide +kernel
theorem dX8_blockHere_4 : decode cX8_blockHere 4 = .ok (.iload_n 1, 1) := by decide +kernel
theorem dX8_blockHere_5 : decode cX8_blockHere 5 = .ok (.invokevirtual 118, 3) := by decide +kernel
theorem dX8_blockHere_8 : decode cX8_blockHere 8 = .ok (.istore_n 2, 1) := by decide +kernel
theorem dX8_blockHere_9 : decode cX8_blockHere 9 = .ok (.aload_n 0, 1) := by decide +kernel
theorem dX8_blockHere_10 : decode cX8_blockHere 10 = .ok (.iload_n 2, 1) := by decide +kernel
theorem dX8_blockHere_11 : decode cX8_blockHere 11 = .ok (.aload_n 0, 1) := by decide +kernel
theorem dX8_blockHere_12 : decode cX8_blockHere 12 = .ok (.getfield 122, 3) := by decide +kernel
theorem dX8_blockHere_15 : decode cX8_blockHere 15 = .ok (.if_icmp .le 7, 3) := by decide +kernel
theorem dX8_blockHere_18 : decode cX8_blockHere 18 = .ok (.iload_n 2, 1) := by decide +kernel
theorem dX8_blockHere_19 : decode cX8_blockHere 19 = .ok (.goto 7, 3) := by decide +kernel
theorem dX8_blockHere_22 : decode cX8_blockHere 22 = .ok (.aload_n 0, 1) := by decide +kernel
theorem dX8_blockHere_23 : decode cX8_blockHere 23 = .ok (.getfield 122, 3) := by decide +kernel
theorem dX8_blockHere_26 : decode cX8_blockHere 26 = .ok (.putfield 122, 3) := by decide +kernel
theorem dX8_blockHere_29 : decode cX8_blockHere 29 = .ok (.iload_n 2, 1) := by decide +kernel
theorem dX8_blockHere_30 : decode cX8_blockHere 30 = .ok (.ireturn, 1) := by decide +kernel
theorem dX8_readLock_0 : decode cX8_readLock 0 = .ok (.aload_n 0, 1) := by decide +kernel
theorem dX8_readLock_1 : decode cX8_readLock 1 = .ok (.iconst 0, 1) := by decide +kernel
theorem dX8_readLock_2 : decode cX8_readLock 2 = .ok (.invokevirtual 125, 3) := by decide +kernel
theorem dX8_readLock_5 : decode cX8_readLock 5 = .ok (.istore_n 1, 1) := by decide +kernel
theorem dX8_readLock_6 : decode cX8_readLock 6 = .ok (.aload_n 0, 1) := by decide +kernel
theorem dX8_readLock_7 : decode cX8_readLock 7 = .ok (.getfield 81, 3) := by decide +kernel
theorem dX8_readLock_10 : decode cX8_readLock 10 = .ok (.ifCond .ne 24, 3) := by decide +kernel
theorem dX8_readLock_13 : decode cX8_readLock 13 = .ok (.aload_n 0, 1) := by decide +kernel
theorem dX8_readLock_14 : decode cX8_readLock 14 = .ok (.getfield 90, 3) := by decide +kernel
theorem dX8_readLock_17 : decode cX8_readLock 17 = .ok (.iconst 2, 1) := by decide +kernel
theorem dX8_readLock_18 : decode cX8_readLock 18 = .ok (.if_icmp .ne 16, 3) := by decide +kernel
theorem dX8_readLock_21 : decode cX8_readLock 21 = .ok (.aload_n 0, 1) := by decide +kernel
theorem dX8_readLock_22 : decode cX8_readLock 22 = .ok (.getfield 100, 3) := by decide +kernel
theorem dX8_readLock_25 : decode cX8_readLock 25 = .ok (.iload_n 1, 1) := by decide +kernel
theorem dX8_readLock_26 : decode cX8_readLock 26 = .ok (.if_icmp .ne 8, 3) := by decide +kernel
theorem dX8_readLock_29 : decode cX8_readLock 29 = .ok (.aload_n 0, 1) := by decide +kernel
theorem dX8_readLock_30 : decode cX8_readLock 30 = .ok (.iconst 3, 1) := by decide +kernel
theorem dX8_readLock_31 : decode cX8_readLock 31 = .ok (.invokevirtual 111, 3) := by decide +kernel
theorem dX8_readLock_34 : decode cX8_readLock 34 = .ok (.aload_n 0, 1) := by decide +kernel
theorem dX8_readLock_35 : decode cX8_readLock 35 = .ok (.getfield 26, 3) := by decide +kernel
theorem dX8_readLock_38 : decode cX8_readLock 38 = .ok (.iconst 2, 1) := by decide +kernel
theorem dX8_readLock_39 : decode cX8_readLock 39 = .ok (.aload_n 0, 1) := by decide +kernel
theorem dX8_readLock_40 : decode cX8_readLock 40 = .ok (.getfield 128, 3) := by decide +kernel
theorem dX8_readLock_43 : decode cX8_readLock 43 = .ok (.imul, 1) := by decide +kernel
theorem dX8_readLock_44 : decode cX8_readLock 44 = .ok (.iload_n 1, 1) := by decide +kernel
theorem dX8_readLock_45 : decode cX8_readLock 45 = .ok (.iastore, 1) := by decide +kernel
theorem dX8_readLock_46 : decode cX8_readLock 46 = .ok (.aload_n 0, 1) := by decide +kernel
theorem dX8_readLock_47 : decode cX8_readLock 47 = .ok (.getfield 26, 3) := by decide +kernel
theorem dX8_readLock_50 : decode cX8_readLock 50 = .ok (.iconst 2, 1) := by decide +kernel
theorem dX8_readLock_51 : decode cX8_readLock 51 = .ok (.aload_n 0, 1) := by decide +kernel
theorem dX8_readLock_52 : decode cX8_readLock 52 = .ok (.getfield 128, 3) := by decide +kernel
theorem dX8_readLock_55 : decode cX8_readLock 55 = .ok (.imul, 1) := by decide +kernel
theorem dX8_readLock_56 : decode cX8_readLock 56 = .ok (.iconst 1, 1) := by decide +kernel
theorem dX8_readLock_57 : decode cX8_readLock 57 = .ok (.iadd, 1) := by decide +kernel
theorem dX8_readLock_58 : decode cX8_readLock 58 = .ok (.aload_n 0, 1) := by decide +kernel
theorem dX8_readLock_59 : decode cX8_readLock 59 = .ok (.iconst 0, 1) := by decide +kernel
theorem dX8_readLock_60 : decode cX8_readLock 60 = .ok (.invokevirtual 125, 3) := by decide +kernel
theorem dX8_readLock_63 : decode cX8_readLock 63 = .ok (.iastore, 1) := by decide +kernel
theorem dX8_readLock_64 : decode cX8_readLock 64 = .ok (.aload_n 0, 1) := by decide +kernel
theorem dX8_readLock_65 : decode cX8_readLock 65 = .ok (.dup, 1) := by decide +kernel
theorem dX8_readLock_66 : decode cX8_readLock 66 = .ok (.getfield 128, 3) := by decide +kernel
theorem dX8_readLock_69 : decode cX8_readLock 69 = .ok (.iconst 1, 1) := by decide +kernel
theorem dX8_readLock_70 : decode cX8_readLock 70 = .ok (.iadd, 1) := by decide +kernel
theorem dX8_readLock_71 : decode cX8_readLock 71 = .ok (.putfield 128, 3) := by decide +kernel
theorem dX8_readLock_74 : decode cX8_readLock 74 = .ok (.return_, 1) := by decide +kernel
theorem dX8_readTrain_0 : decode cX8_readTrain 0 = .ok (.aload_n 0, 1) := by decide +kernel
theorem dX8_readTrain_1 : decode cX8_readTrain 1 = .ok (.invokevirtual 131, 3) := by decide +kernel
theorem dX8_readTrain_4 : decode cX8_readTrain 4 = .ok (.bipush 11, 2) := by decide +kernel
theorem dX8_readTrain_6 : decode cX8_readTrain 6 = .ok (.isub, 1) := by decide +kernel
theorem dX8_readTrain_7 : decode cX8_readTrain 7 = .ok (.istore_n 2, 1) := by decide +kernel
theorem dX8_readTrain_8 : decode cX8_readTrain 8 = .ok (.aload_n 0, 1) := by decide +kernel
theorem dX8_readTrain_9 : decode cX8_readTrain 9 = .ok (.getfield 81, 3) := by decide +kernel
theorem dX8_readTrain_12 : decode cX8_readTrain 12 = .ok (.ifCond .ne 18, 3) := by decide +kernel
theorem dX8_readTrain_15 : decode cX8_readTrain 15 = .ok (.iload_n 2, 1) := by decide +kernel
theorem dX8_readTrain_16 : decode cX8_readTrain 16 = .ok (.i2l, 1) := by decide +kernel
theorem dX8_readTrain_17 : decode cX8_readTrain 17 = .ok (.lconst 0, 1) := by decide +kernel
theorem dX8_readTrain_18 : decode cX8_readTrain 18 = .ok (.lconst 1, 1) := by decide +kernel
theorem dX8_readTrain_19 : decode cX8_readTrain 19 = .ok (.invokestatic 74, 3) := by decide +kernel
theorem dX8_readTrain_22 : decode cX8_readTrain 22 = .ok (.ifCond .ne 8, 3) := by decide +kernel
theorem dX8_readTrain_25 : decode cX8_readTrain 25 = .ok (.aload_n 0, 1) := by decide +kernel
theorem dX8_readTrain_26 : decode cX8_readTrain 26 = .ok (.iconst 2, 1) := by decide +kernel
theorem dX8_readTrain_27 : decode cX8_readTrain 27 = .ok (.invokevirtual 111, 3) := by decide +kernel
theorem dX8_readTrain_30 : decode cX8_readTrain 30 = .ok (.aload_n 0, 1) := by decide +kernel
theorem dX8_readTrain_31 : decode cX8_readTrain 31 = .ok (.invokevirtual 115, 3) := by decide +kernel
theorem dX8_readTrain_34 : decode cX8_readTrain 34 = .ok (.aload_n 0, 1) := by decide +kernel
theorem dX8_readTrain_35 : decode cX8_readTrain 35 = .ok (.getfield 23, 3) := by decide +kernel
theorem dX8_readTrain_38 : decode cX8_readTrain 38 = .ok (.bipush 9, 2) := by decide +kernel
theorem dX8_readTrain_40 : decode cX8_readTrain 40 = .ok (.aload_n 0, 1) := by decide +kernel
theorem dX8_readTrain_41 : decode cX8_readTrain 41 = .ok (.getfield 135, 3) := by decide +kernel
theorem dX8_readTrain_44 : decode cX8_readTrain 44 = .ok (.iadd, 1) := by decide +kernel
theorem dX8_readTrain_45 : decode cX8_readTrain 45 = .ok (.iload_n 1, 1) := by decide +kernel
theorem dX8_readTrain_46 : decode cX8_readTrain 46 = .ok (.iastore, 1) := by decide +kernel
theorem dX8_readTrain_47 : decode cX8_readTrain 47 = .ok (.aload_n 0, 1) := by decide +kernel
theorem dX8_readTrain_48 : decode cX8_readTrain 48 = .ok (.getfield 23, 3) := by decide +kernel
theorem dX8_readTrain_51 : decode cX8_readTrain 51 = .ok (.bipush 13, 2) := by decide +kernel
theorem dX8_readTrain_53 : decode cX8_readTrain 53 = .ok (.aload_n 0, 1) := by decide +kernel
theorem dX8_readTrain_54 : decode cX8_readTrain 54 = .ok (.getfield 135, 3) := by decide +kernel
theorem dX8_readTrain_57 : decode cX8_readTrain 57 = .ok (.iadd, 1) := by decide +kernel
theorem dX8_readTrain_58 : decode cX8_readTrain 58 = .ok (.iload_n 2, 1) := by decide +kernel
theorem dX8_readTrain_59 : decode cX8_readTrain 59 = .ok (.iastore, 1) := by decide +kernel
theorem dX8_readTrain_60 : decode cX8_readTrain 60 = .ok (.aload_n 0, 1) := by decide +kernel
theorem dX8_readTrain_61 : decode cX8_readTrain 61 = .ok (.getfield 23, 3) := by decide +kernel
theorem dX8_readTrain_64 : decode cX8_readTrain 64 = .ok (.bipush 17, 2) := by decide +kernel
theorem dX8_readTrain_66 : decode cX8_readTrain 66 = .ok (.aload_n 0, 1) := by decide +kernel
theorem dX8_readTrain_67 : decode cX8_readTrain 67 = .ok (.getfield 135, 3) := by decide +kernel
theorem dX8_readTrain_70 : decode cX8_readTrain 70 = .ok (.iadd, 1) := by decide +kernel
theorem dX8_readTrain_71 : decode cX8_readTrain 71 = .ok (.aload_n 0, 1) := by decide +kernel
theorem dX8_readTrain_72 : decode cX8_readTrain 72 = .ok (.iconst 0, 1) := by decide +kernel
theorem dX8_readTrain_73 : decode cX8_readTrain 73 = .ok (.bipush 9, 2) := by decide +kernel
theorem dX8_readTrain_75 : decode cX8_readTrain 75 = .ok (.iconst 0, 1) := by decide +kernel
theorem dX8_readTrain_76 : decode cX8_readTrain 76 = .ok (.invokevirtual 118, 3) := by decide +kernel
theorem dX8_readTrain_79 : decode cX8_readTrain 79 = .ok (.iastore, 1) := by decide +kernel
theorem dX8_readTrain_80 : decode cX8_readTrain 80 = .ok (.aload_n 0, 1) := by decide +kernel
theorem dX8_readTrain_81 : decode cX8_readTrain 81 = .ok (.getfield 23, 3) := by decide +kernel
theorem dX8_readTrain_84 : decode cX8_readTrain 84 = .ok (.bipush 21, 2) := by decide +kernel
theorem dX8_readTrain_86 : decode cX8_readTrain 86 = .ok (.aload_n 0, 1) := by decide +kernel
theorem dX8_readTrain_87 : decode cX8_readTrain 87 = .ok (.getfield 135, 3) := by decide +kernel
theorem dX8_readTrain_90 : decode cX8_readTrain 90 = .ok (.iadd, 1) := by decide +kernel
theorem dX8_readTrain_91 : decode cX8_readTrain 91 = .ok (.aload_n 0, 1) := by decide +kernel
theorem dX8_readTrain_92 : decode cX8_readTrain 92 = .ok (.iconst 0, 1) := by decide +kernel
theorem dX8_readTrain_93 : decode cX8_readTrain 93 = .ok (.bipush 9, 2) := by decide +kernel
theorem dX8_readTrain_95 : decode cX8_readTrain 95 = .ok (.iconst 0, 1) := by decide +kernel
theorem dX8_readTrain_96 : decode cX8_readTrain 96 = .ok (.invokevirtual 118, 3) := by decide +kernel
theorem dX8_readTrain_99 : decode cX8_readTrain 99 = .ok (.iastore, 1) := by decide +kernel
theorem dX8_readTrain_100 : decode cX8_readTrain 100 = .ok (.aload_n 0, 1) := by decide +kernel
theorem dX8_readTrain_101 : decode cX8_readTrain 101 = .ok (.dup, 1) := by decide +kernel
theorem dX8_readTrain_102 : decode cX8_readTrain 102 = .ok (.getfield 135, 3) := by decide +kernel
theorem dX8_readTrain_105 : decode cX8_readTrain 105 = .ok (.iconst 1, 1) := by decide +kernel
theorem dX8_readTrain_106 : decode cX8_readTrain 106 = .ok (.iadd, 1) := by decide +kernel
theorem dX8_readTrain_107 : decode cX8_readTrain 107 = .ok (.putfield 135, 3) := by decide +kernel
theorem dX8_readTrain_110 : decode cX8_readTrain 110 = .ok (.return_, 1) := by decide +kernel
theorem dX8_readMore_0 : decode cX8_readMore 0 = .ok (.iload_n 1, 1) := by decide +kernel
theorem dX8_readMore_1 : decode cX8_readMore 1 = .ok (.iconst 3, 1) := by decide +kernel
theorem dX8_readMore_2 : decode cX8_readMore 2 = .ok (.if_icmp .gt 36, 3) := by decide +kernel
theorem dX8_readMore_5 : decode cX8_readMore 5 = .ok (.aload_n 0, 1) := by decide +kernel
theorem dX8_readMore_6 : decode cX8_readMore 6 = .ok (.aload_n 0, 1) := by decide +kernel
theorem dX8_readMore_7 : decode cX8_readMore 7 = .ok (.getfield 138, 3) := by decide +kernel
theorem dX8_readMore_10 : decode cX8_readMore 10 = .ok (.invokevirtual 125, 3) := by decide +kernel
theorem dX8_readMore_13 : decode cX8_readMore 13 = .ok (.istore_n 2, 1) := by decide +kernel
theorem dX8_readMore_14 : decode cX8_readMore 14 = .ok (.aload_n 0, 1) := by decide +kernel
theorem dX8_readMore_15 : decode cX8_readMore 15 = .ok (.dup, 1) := by decide +kernel
theorem dX8_readMore_16 : decode cX8_readMore 16 = .ok (.getfield 138, 3) := by decide +kernel
theorem dX8_readMore_19 : decode cX8_readMore 19 = .ok (.iconst 1, 1) := by decide +kernel
theorem dX8_readMore_20 : decode cX8_readMore 20 = .ok (.iload_n 2, 1) := by decide +kernel
theorem dX8_readMore_21 : decode cX8_readMore 21 = .ok (.ishl, 1) := by decide +kernel
theorem dX8_readMore_22 : decode cX8_readMore 22 = .ok (.ior, 1) := by decide +kernel
theorem dX8_readMore_23 : decode cX8_readMore 23 = .ok (.putfield 138, 3) := by decide +kernel
theorem dX8_readMore_26 : decode cX8_readMore 26 = .ok (.aload_n 0, 1) := by decide +kernel
theorem dX8_readMore_27 : decode cX8_readMore 27 = .ok (.getfield 23, 3) := by decide +kernel
theorem dX8_readMore_30 : decode cX8_readMore 30 = .ok (.iload_n 2, 1) := by decide +kernel
theorem dX8_readMore_31 : decode cX8_readMore 31 = .ok (.iload_n 1, 1) := by decide +kernel
theorem dX8_readMore_32 : decode cX8_readMore 32 = .ok (.iconst 1, 1) := by decide +kernel
theorem dX8_readMore_33 : decode cX8_readMore 33 = .ok (.iadd, 1) := by decide +kernel
theorem dX8_readMore_34 : decode cX8_readMore 34 = .ok (.iastore, 1) := by decide +kernel
theorem dX8_readMore_35 : decode cX8_readMore 35 = .ok (.goto 76, 3) := by decide +kernel
theorem dX8_readMore_38 : decode cX8_readMore 38 = .ok (.iload_n 1, 1) := by decide +kernel
theorem dX8_readMore_39 : decode cX8_readMore 39 = .ok (.bipush 7, 2) := by decide +kernel
theorem dX8_readMore_41 : decode cX8_readMore 41 = .ok (.if_icmp .gt 13, 3) := by decide +kernel
theorem dX8_readMore_44 : decode cX8_readMore 44 = .ok (.aload_n 0, 1) := by decide +kernel
theorem dX8_readMore_45 : decode cX8_readMore 45 = .ok (.iload_n 1, 1) := by decide +kernel
theorem dX8_readMore_46 : decode cX8_readMore 46 = .ok (.iconst 4, 1) := by decide +kernel
theorem dX8_readMore_47 : decode cX8_readMore 47 = .ok (.isub, 1) := by decide +kernel
theorem dX8_readMore_48 : decode cX8_readMore 48 = .ok (.invokevirtual 141, 3) := by decide +kernel
theorem dX8_readMore_51 : decode cX8_readMore 51 = .ok (.goto 60, 3) := by decide +kernel
theorem dX8_readMore_54 : decode cX8_readMore 54 = .ok (.iload_n 1, 1) := by decide +kernel
theorem dX8_readMore_55 : decode cX8_readMore 55 = .ok (.bipush 8, 2) := by decide +kernel
theorem dX8_readMore_57 : decode cX8_readMore 57 = .ok (.if_icmp .ne 18, 3) := by decide +kernel
theorem dX8_readMore_60 : decode cX8_readMore 60 = .ok (.aload_n 0, 1) := by decide +kernel
theorem dX8_readMore_61 : decode cX8_readMore 61 = .ok (.aload_n 0, 1) := by decide +kernel
theorem dX8_readMore_62 : decode cX8_readMore 62 = .ok (.iconst 2, 1) := by decide +kernel
theorem dX8_readMore_63 : decode cX8_readMore 63 = .ok (.bipush 8, 2) := by decide +kernel
theorem dX8_readMore_65 : decode cX8_readMore 65 = .ok (.iconst 0, 1) := by decide +kernel
theorem dX8_readMore_66 : decode cX8_readMore 66 = .ok (.invokevirtual 118, 3) := by decide +kernel
theorem dX8_readMore_69 : decode cX8_readMore 69 = .ok (.putfield 144, 3) := by decide +kernel
theorem dX8_readMore_72 : decode cX8_readMore 72 = .ok (.goto 39, 3) := by decide +kernel
theorem dX8_readMore_75 : decode cX8_readMore 75 = .ok (.iload_n 1, 1) := by decide +kernel
theorem dX8_readMore_76 : decode cX8_readMore 76 = .ok (.bipush 9, 2) := by decide +kernel
theorem dX8_readMore_78 : decode cX8_readMore 78 = .ok (.if_icmp .ne 29, 3) := by decide +kernel
theorem dX8_readMore_81 : decode cX8_readMore 81 = .ok (.aload_n 0, 1) := by decide +kernel
theorem dX8_readMore_82 : decode cX8_readMore 82 = .ok (.getfield 23, 3) := by decide +kernel
theorem dX8_readMore_85 : decode cX8_readMore 85 = .ok (.bipush 8, 2) := by decide +kernel
theorem dX8_readMore_87 : decode cX8_readMore 87 = .ok (.dup2, 1) := by decide +kernel
theorem dX8_readMore_88 : decode cX8_readMore 88 = .ok (.iaload, 1) := by decide +kernel
theorem dX8_readMore_89 : decode cX8_readMore 89 = .ok (.iconst 1, 1) := by decide +kernel
theorem dX8_readMore_90 : decode cX8_readMore 90 = .ok (.aload_n 0, 1) := by decide +kernel
theorem dX8_readMore_91 : decode cX8_readMore 91 = .ok (.aload_n 0, 1) := by decide +kernel
theorem dX8_readMore_92 : decode cX8_readMore 92 = .ok (.getfield 23, 3) := by decide +kernel
theorem dX8_readMore_95 : decode cX8_readMore 95 = .ok (.bipush 8, 2) := by decide +kernel
theorem dX8_readMore_97 : decode cX8_readMore 97 = .ok (.iaload, 1) := by decide +kernel
theorem dX8_readMore_98 : decode cX8_readMore 98 = .ok (.invokevirtual 125, 3) := by decide +kernel
theorem dX8_readMore_101 : decode cX8_readMore 101 = .ok (.ishl, 1) := by decide +kernel
theorem dX8_readMore_102 : decode cX8_readMore 102 = .ok (.ior, 1) := by decide +kernel
theorem dX8_readMore_103 : decode cX8_readMore 103 = .ok (.iastore, 1) := by decide +kernel
theorem dX8_readMore_104 : decode cX8_readMore 104 = .ok (.goto 7, 3) := by decide +kernel
theorem dX8_readMore_107 : decode cX8_readMore 107 = .ok (.aload_n 0, 1) := by decide +kernel
theorem dX8_readMore_108 : decode cX8_readMore 108 = .ok (.invokevirtual 147, 3) := by decide +kernel
theorem dX8_readMore_111 : decode cX8_readMore 111 = .ok (.return_, 1) := by decide +kernel
theorem dX8_readLine_0 : decode cX8_readLine 0 = .ok (.aload_n 0, 1) := by decide +kernel
theorem dX8_readLine_1 : decode cX8_readLine 1 = .ok (.invokevirtual 131, 3) := by decide +kernel
theorem dX8_readLine_4 : decode cX8_readLine 4 = .ok (.istore_n 1, 1) := by decide +kernel
theorem dX8_readLine_5 : decode cX8_readLine 5 = .ok (.iload_n 1, 1) := by decide +kernel
theorem dX8_readLine_6 : decode cX8_readLine 6 = .ok (.i2l, 1) := by decide +kernel
theorem dX8_readLine_7 : decode cX8_readLine 7 = .ok (.lconst 0, 1) := by decide +kernel
theorem dX8_readLine_8 : decode cX8_readLine 8 = .ok (.ldc2_w 150, 3) := by decide +kernel
theorem dX8_readLine_11 : decode cX8_readLine 11 = .ok (.invokestatic 74, 3) := by decide +kernel
theorem dX8_readLine_14 : decode cX8_readLine 14 = .ok (.ifCond .ne 9, 3) := by decide +kernel
theorem dX8_readLine_17 : decode cX8_readLine 17 = .ok (.aload_n 0, 1) := by decide +kernel
theorem dX8_readLine_18 : decode cX8_readLine 18 = .ok (.iconst 2, 1) := by decide +kernel
theorem dX8_readLine_19 : decode cX8_readLine 19 = .ok (.invokevirtual 111, 3) := by decide +kernel
theorem dX8_readLine_22 : decode cX8_readLine 22 = .ok (.return_, 1) := by decide +kernel
theorem dX8_readLine_23 : decode cX8_readLine 23 = .ok (.iload_n 1, 1) := by decide +kernel
theorem dX8_readLine_24 : decode cX8_readLine 24 = .ok (.bipush 10, 2) := by decide +kernel
theorem dX8_readLine_26 : decode cX8_readLine 26 = .ok (.if_icmp .ne 11, 3) := by decide +kernel
theorem dX8_readLine_29 : decode cX8_readLine 29 = .ok (.aload_n 0, 1) := by decide +kernel
theorem dX8_readLine_30 : decode cX8_readLine 30 = .ok (.getfield 128, 3) := by decide +kernel
theorem dX8_readLine_33 : decode cX8_readLine 33 = .ok (.iconst 4, 1) := by decide +kernel
theorem dX8_readLine_34 : decode cX8_readLine 34 = .ok (.if_icmp .eq 25, 3) := by decide +kernel
theorem dX8_readLine_37 : decode cX8_readLine 37 = .ok (.iload_n 1, 1) := by decide +kernel
theorem dX8_readLine_38 : decode cX8_readLine 38 = .ok (.i2l, 1) := by decide +kernel
theorem dX8_readLine_39 : decode cX8_readLine 39 = .ok (.ldc2_w 152, 3) := by decide +kernel
theorem dX8_readLine_42 : decode cX8_readLine 42 = .ok (.ldc2_w 154, 3) := by decide +kernel
theorem dX8_readLine_45 : decode cX8_readLine 45 = .ok (.invokestatic 74, 3) := by decide +kernel
theorem dX8_readLine_48 : decode cX8_readLine 48 = .ok (.ifCond .eq 16, 3) := by decide +kernel
theorem dX8_readLine_51 : decode cX8_readLine 51 = .ok (.aload_n 0, 1) := by decide +kernel
theorem dX8_readLine_52 : decode cX8_readLine 52 = .ok (.getfield 135, 3) := by decide +kernel
theorem dX8_readLine_55 : decode cX8_readLine 55 = .ok (.iconst 4, 1) := by decide +kernel
theorem dX8_readLine_56 : decode cX8_readLine 56 = .ok (.if_icmp .ne 8, 3) := by decide +kernel
theorem dX8_readLine_59 : decode cX8_readLine 59 = .ok (.aload_n 0, 1) := by decide +kernel
theorem dX8_readLine_60 : decode cX8_readLine 60 = .ok (.iconst 5, 1) := by decide +kernel
theorem dX8_readLine_61 : decode cX8_readLine 61 = .ok (.invokevirtual 111, 3) := by decide +kernel
theorem dX8_readLine_64 : decode cX8_readLine 64 = .ok (.iload_n 1, 1) := by decide +kernel
theorem dX8_readLine_65 : decode cX8_readLine 65 = .ok (.bipush 8, 2) := by decide +kernel
theorem dX8_readLine_67 : decode cX8_readLine 67 = .ok (.if_icmp .ne 15, 3) := by decide +kernel
theorem dX8_readLine_70 : decode cX8_readLine 70 = .ok (.aload_n 0, 1) := by decide +kernel
theorem dX8_readLine_71 : decode cX8_readLine 71 = .ok (.getfield 156, 3) := by decide +kernel
theorem dX8_readLine_74 : decode cX8_readLine 74 = .ok (.ifCond .eq 8, 3) := by decide +kernel
theorem dX8_readLine_77 : decode cX8_readLine 77 = .ok (.aload_n 0, 1) := by decide +kernel
theorem dX8_readLine_78 : decode cX8_readLine 78 = .ok (.iconst 4, 1) := by decide +kernel
theorem dX8_readLine_79 : decode cX8_readLine 79 = .ok (.invokevirtual 111, 3) := by decide +kernel
theorem dX8_readLine_82 : decode cX8_readLine 82 = .ok (.aload_n 0, 1) := by decide +kernel
theorem dX8_readLine_83 : decode cX8_readLine 83 = .ok (.aload_n 0, 1) := by decide +kernel
theorem dX8_readLine_84 : decode cX8_readLine 84 = .ok (.getfield 156, 3) := by decide +kernel
theorem dX8_readLine_87 : decode cX8_readLine 87 = .ok (.ifCond .ne 9, 3) := by decide +kernel
theorem dX8_readLine_90 : decode cX8_readLine 90 = .ok (.iload_n 1, 1) := by decide +kernel
theorem dX8_readLine_91 : decode cX8_readLine 91 = .ok (.bipush 8, 2) := by decide +kernel
theorem dX8_readLine_93 : decode cX8_readLine 93 = .ok (.if_icmp .ne 7, 3) := by decide +kernel
theorem dX8_readLine_96 : decode cX8_readLine 96 = .ok (.iconst 1, 1) := by decide +kernel
theorem dX8_readLine_97 : decode cX8_readLine 97 = .ok (.goto 4, 3) := by decide +kernel
theorem dX8_readLine_100 : decode cX8_readLine 100 = .ok (.iconst 0, 1) := by decide +kernel
theorem dX8_readLine_101 : decode cX8_readLine 101 = .ok (.putfield 156, 3) := by decide +kernel
theorem dX8_readLine_104 : decode cX8_readLine 104 = .ok (.aload_n 0, 1) := by decide +kernel
theorem dX8_readLine_105 : decode cX8_readLine 105 = .ok (.invokevirtual 115, 3) := by decide +kernel
theorem dX8_readLine_108 : decode cX8_readLine 108 = .ok (.aload_n 0, 1) := by decide +kernel
theorem dX8_readLine_109 : decode cX8_readLine 109 = .ok (.getfield 81, 3) := by decide +kernel
theorem dX8_readLine_112 : decode cX8_readLine 112 = .ok (.ifCond .le 4, 3) := by decide +kernel
theorem dX8_readLine_115 : decode cX8_readLine 115 = .ok (.return_, 1) := by decide +kernel
theorem dX8_readLine_116 : decode cX8_readLine 116 = .ok (.aload_n 0, 1) := by decide +kernel
theorem dX8_readLine_117 : decode cX8_readLine 117 = .ok (.iload_n 1, 1) := by decide +kernel
theorem dX8_readLine_118 : decode cX8_readLine 118 = .ok (.invokevirtual 160, 3) := by decide +kernel
theorem dX8_readLine_121 : decode cX8_readLine 121 = .ok (.aload_n 0, 1) := by decide +kernel
theorem dX8_readLine_122 : decode cX8_readLine 122 = .ok (.getfield 81, 3) := by decide +kernel
theorem dX8_readLine_125 : decode cX8_readLine 125 = .ok (.ifCond .ne 16, 3) := by decide +kernel
theorem dX8_readLine_128 : decode cX8_readLine 128 = .ok (.aload_n 0, 1) := by decide +kernel
theorem dX8_readLine_129 : decode cX8_readLine 129 = .ok (.getfield 90, 3) := by decide +kernel
theorem dX8_readLine_132 : decode cX8_readLine 132 = .ok (.iconst 3, 1) := by decide +kernel
theorem dX8_readLine_133 : decode cX8_readLine 133 = .ok (.if_icmp .eq 8, 3) := by decide +kernel
theorem dX8_readLine_136 : decode cX8_readLine 136 = .ok (.aload_n 0, 1) := by decide +kernel
theorem dX8_readLine_137 : decode cX8_readLine 137 = .ok (.iconst 2, 1) := by decide +kernel
theorem dX8_readLine_138 : decode cX8_readLine 138 = .ok (.invokevirtual 111, 3) := by decide +kernel
theorem dX8_readLine_141 : decode cX8_readLine 141 = .ok (.aload_n 0, 1) := by decide +kernel
theorem dX8_readLine_142 : decode cX8_readLine 142 = .ok (.invokevirtual 115, 3) := by decide +kernel
theorem dX8_readLine_145 : decode cX8_readLine 145 = .ok (.return_, 1) := by decide +kernel
theorem dX8_areBothHung_0 : decode cX8_areBothHung 0 = .ok (.iconst 0, 1) := by decide +kernel
theorem dX8_areBothHung_1 : decode cX8_areBothHung 1 = .ok (.istore_n 1, 1) := by decide +kernel
theorem dX8_areBothHung_2 : decode cX8_areBothHung 2 = .ok (.iconst 0, 1) := by decide +kernel
theorem dX8_areBothHung_3 : decode cX8_areBothHung 3 = .ok (.istore_n 2, 1) := by decide +kernel
theorem dX8_areBothHung_4 : decode cX8_areBothHung 4 = .ok (.iload_n 2, 1) := by decide +kernel
theorem dX8_areBothHung_5 : decode cX8_areBothHung 5 = .ok (.aload_n 0, 1) := by decide +kernel
theorem dX8_areBothHung_6 : decode cX8_areBothHung 6 = .ok (.getfield 128, 3) := by decide +kernel
theorem dX8_areBothHung_9 : decode cX8_areBothHung 9 = .ok (.if_icmp .ge 53, 3) := by decide +kernel
theorem dX8_areBothHung_12 : decode cX8_areBothHung 12 = .ok (.iload_n 1, 1) := by decide +kernel
theorem dX8_areBothHung_13 : decode cX8_areBothHung 13 = .ok (.ifCond .ne 37, 3) := by decide +kernel
theorem dX8_areBothHung_16 : decode cX8_areBothHung 16 = .ok (.aload_n 0, 1) := by decide +kernel
theorem dX8_areBothHung_17 : decode cX8_areBothHung 17 = .ok (.getfield 23, 3) := by decide +kernel
theorem dX8_areBothHung_20 : decode cX8_areBothHung 20 = .ok (.aload_n 0, 1) := by decide +kernel
theorem dX8_areBothHung_21 : decode cX8_areBothHung 21 = .ok (.getfield 26, 3) := by decide +kernel
theorem dX8_areBothHung_24 : decode cX8_areBothHung 24 = .ok (.iconst 2, 1) := by decide +kernel
theorem dX8_areBothHung_25 : decode cX8_areBothHung 25 = .ok (.iload_n 2, 1) := by decide +kernel
theorem dX8_areBothHung_26 : decode cX8_areBothHung 26 = .ok (.imul, 1) := by decide +kernel
theorem dX8_areBothHung_27 : decode cX8_areBothHung 27 = .ok (.iaload, 1) := by decide +kernel
theorem dX8_areBothHung_28 : decode cX8_areBothHung 28 = .ok (.iaload, 1) := by decide +kernel
theorem dX8_areBothHung_29 : decode cX8_areBothHung 29 = .ok (.ifCond .le 25, 3) := by decide +kernel
theorem dX8_areBothHung_32 : decode cX8_areBothHung 32 = .ok (.aload_n 0, 1) := by decide +kernel
theorem dX8_areBothHung_33 : decode cX8_areBothHung 33 = .ok (.getfield 23, 3) := by decide +kernel
theorem dX8_areBothHung_36 : decode cX8_areBothHung 36 = .ok (.aload_n 0, 1) := by decide +kernel
theorem dX8_areBothHung_37 : decode cX8_areBothHung 37 = .ok (.getfield 26, 3) := by decide +kernel
theorem dX8_areBothHung_40 : decode cX8_areBothHung 40 = .ok (.iconst 2, 1) := by decide +kernel
theorem dX8_areBothHung_41 : decode cX8_areBothHung 41 = .ok (.iload_n 2, 1) := by decide +kernel
theorem dX8_areBothHung_42 : decode cX8_areBothHung 42 = .ok (.imul, 1) := by decide +kernel
theorem dX8_areBothHung_43 : decode cX8_areBothHung 43 = .ok (.iconst 1, 1) := by decide +kernel
theorem dX8_areBothHung_44 : decode cX8_areBothHung 44 = .ok (.iadd, 1) := by decide +kernel
theorem dX8_areBothHung_45 : decode cX8_areBothHung 45 = .ok (.iaload, 1) := by decide +kernel
theorem dX8_areBothHung_46 : decode cX8_areBothHung 46 = .ok (.iaload, 1) := by decide +kernel
theorem dX8_areBothHung_47 : decode cX8_areBothHung 47 = .ok (.ifCond .le 7, 3) := by decide +kernel
theorem dX8_areBothHung_50 : decode cX8_areBothHung 50 = .ok (.iconst 1, 1) := by decide +kernel
theorem dX8_areBothHung_51 : decode cX8_areBothHung 51 = .ok (.goto 4, 3) := by decide +kernel
theorem dX8_areBothHung_54 : decode cX8_areBothHung 54 = .ok (.iconst 0, 1) := by decide +kernel
theorem dX8_areBothHung_55 : decode cX8_areBothHung 55 = .ok (.istore_n 1, 1) := by decide +kernel
theorem dX8_areBothHung_56 : decode cX8_areBothHung 56 = .ok (.iinc 2 1, 3) := by decide +kernel
theorem dX8_areBothHung_59 : decode cX8_areBothHung 59 = .ok (.goto (-55), 3) := by decide +kernel
theorem dX8_areBothHung_62 : decode cX8_areBothHung 62 = .ok (.iload_n 1, 1) := by decide +kernel
theorem dX8_areBothHung_63 : decode cX8_areBothHung 63 = .ok (.ireturn, 1) := by decide +kernel
theorem dX8_text_0 : decode cX8_text 0 = .ok (.aload_n 0, 1) := by decide +kernel
theorem dX8_text_1 : decode cX8_text 1 = .ok (.iconst 0, 1) := by decide +kernel
theorem dX8_text_2 : decode cX8_text 2 = .ok (.putfield 81, 3) := by decide +kernel
theorem dX8_text_5 : decode cX8_text 5 = .ok (.aload_n 0, 1) := by decide +kernel
theorem dX8_text_6 : decode cX8_text 6 = .ok (.iconst 0, 1) := by decide +kernel
theorem dX8_text_7 : decode cX8_text 7 = .ok (.putfield 93, 3) := by decide +kernel
theorem dX8_text_10 : decode cX8_text 10 = .ok (.aload_n 0, 1) := by decide +kernel
theorem dX8_text_11 : decode cX8_text 11 = .ok (.iconst 4, 1) := by decide +kernel
theorem dX8_text_12 : decode cX8_text 12 = .ok (.putfield 144, 3) := by decide +kernel
theorem dX8_text_15 : decode cX8_text 15 = .ok (.aload_n 0, 1) := by decide +kernel
theorem dX8_text_16 : decode cX8_text 16 = .ok (.iconst 0, 1) := by decide +kernel
theorem dX8_text_17 : decode cX8_text 17 = .ok (.putfield 135, 3) := by decide +kernel
theorem dX8_text_20 : decode cX8_text 20 = .ok (.aload_n 0, 1) := by decide +kernel
theorem dX8_text_21 : decode cX8_text 21 = .ok (.iconst 0, 1) := by decide +kernel
theorem dX8_text_22 : decode cX8_text 22 = .ok (.putfield 128, 3) := by decide +kernel
theorem dX8_text_25 : decode cX8_text 25 = .ok (.aload_n 0, 1) := by decide +kernel
theorem dX8_text_26 : decode cX8_text 26 = .ok (.iconst 0, 1) := by decide +kernel
theorem dX8_text_27 : decode cX8_text 27 = .ok (.putfield 156, 3) := by decide +kernel
theorem dX8_text_30 : decode cX8_text 30 = .ok (.aload_n 0, 1) := by decide +kernel
theorem dX8_text_31 : decode cX8_text 31 = .ok (.iconst 0, 1) := by decide +kernel
theorem dX8_text_32 : decode cX8_text 32 = .ok (.putfield 138, 3) := by decide +kernel
theorem dX8_text_35 : decode cX8_text 35 = .ok (.aload_n 0, 1) := by decide +kernel
theorem dX8_text_36 : decode cX8_text 36 = .ok (.iconst (-1), 1) := by decide +kernel
theorem dX8_text_37 : decode cX8_text 37 = .ok (.putfield 122, 3) := by decide +kernel
theorem dX8_text_40 : decode cX8_text 40 = .ok (.iconst 0, 1) := by decide +kernel
theorem dX8_text_41 : decode cX8_text 41 = .ok (.istore_n 1, 1) := by decide +kernel
theorem dX8_text_42 : decode cX8_text 42 = .ok (.iconst 0, 1) := by decide +kernel
theorem dX8_text_43 : decode cX8_text 43 = .ok (.istore_n 2, 1) := by decide +kernel
theorem dX8_text_44 : decode cX8_text 44 = .ok (.iload_n 2, 1) := by decide +kernel
theorem dX8_text_45 : decode cX8_text 45 = .ok (.bipush 25, 2) := by decide +kernel
theorem dX8_text_47 : decode cX8_text 47 = .ok (.if_icmp .ge 16, 3) := by decide +kernel
theorem dX8_text_50 : decode cX8_text 50 = .ok (.aload_n 0, 1) := by decide +kernel
theorem dX8_text_51 : decode cX8_text 51 = .ok (.getfield 23, 3) := by decide +kernel
theorem dX8_text_54 : decode cX8_text 54 = .ok (.iload_n 2, 1) := by decide +kernel
theorem dX8_text_55 : decode cX8_text 55 = .ok (.iconst 0, 1) := by decide +kernel
theorem dX8_text_56 : decode cX8_text 56 = .ok (.iastore, 1) := by decide +kernel
theorem dX8_text_57 : decode cX8_text 57 = .ok (.iinc 2 1, 3) := by decide +kernel
theorem dX8_text_60 : decode cX8_text 60 = .ok (.goto (-16), 3) := by decide +kernel
theorem dX8_text_63 : decode cX8_text 63 = .ok (.aload_n 0, 1) := by decide +kernel
theorem dX8_text_64 : decode cX8_text 64 = .ok (.invokevirtual 115, 3) := by decide +kernel
theorem dX8_text_67 : decode cX8_text 67 = .ok (.aload_n 0, 1) := by decide +kernel
theorem dX8_text_68 : decode cX8_text 68 = .ok (.getfield 81, 3) := by decide +kernel
theorem dX8_text_71 : decode cX8_text 71 = .ok (.ifCond .ne 20, 3) := by decide +kernel
theorem dX8_text_74 : decode cX8_text 74 = .ok (.aload_n 0, 1) := by decide +kernel
theorem dX8_text_75 : decode cX8_text 75 = .ok (.getfield 90, 3) := by decide +kernel
theorem dX8_text_78 : decode cX8_text 78 = .ok (.ifCond .eq 13, 3) := by decide +kernel
theorem dX8_text_81 : decode cX8_text 81 = .ok (.aload_n 0, 1) := by decide +kernel
theorem dX8_text_82 : decode cX8_text 82 = .ok (.invokevirtual 163, 3) := by decide +kernel
theorem dX8_text_85 : decode cX8_text 85 = .ok (.iinc 1 1, 3) := by decide +kernel
theorem dX8_text_88 : decode cX8_text 88 = .ok (.goto (-21), 3) := by decide +kernel
theorem dX8_text_91 : decode cX8_text 91 = .ok (.aload_n 0, 1) := by decide +kernel
theorem dX8_text_92 : decode cX8_text 92 = .ok (.getfield 81, 3) := by decide +kernel
theorem dX8_text_95 : decode cX8_text 95 = .ok (.ifCond .ne 20, 3) := by decide +kernel
theorem dX8_text_98 : decode cX8_text 98 = .ok (.aload_n 0, 1) := by decide +kernel
theorem dX8_text_99 : decode cX8_text 99 = .ok (.getfield 122, 3) := by decide +kernel
theorem dX8_text_102 : decode cX8_text 102 = .ok (.aload_n 0, 1) := by decide +kernel
theorem dX8_text_103 : decode cX8_text 103 = .ok (.getfield 144, 3) := by decide +kernel
theorem dX8_text_106 : decode cX8_text 106 = .ok (.if_icmp .lt 9, 3) := by decide +kernel
theorem dX8_text_109 : decode cX8_text 109 = .ok (.aload_n 0, 1) := by decide +kernel
theorem dX8_text_110 : decode cX8_text 110 = .ok (.bipush 6, 2) := by decide +kernel
theorem dX8_text_112 : decode cX8_text 112 = .ok (.invokevirtual 111, 3) := by decide +kernel
theorem dX8_text_115 : decode cX8_text 115 = .ok (.aload_n 0, 1) := by decide +kernel
theorem dX8_text_116 : decode cX8_text 116 = .ok (.getfield 81, 3) := by decide +kernel
theorem dX8_text_119 : decode cX8_text 119 = .ok (.ifCond .ne 16, 3) := by decide +kernel
theorem dX8_text_122 : decode cX8_text 122 = .ok (.aload_n 0, 1) := by decide +kernel
theorem dX8_text_123 : decode cX8_text 123 = .ok (.invokevirtual 166, 3) := by decide +kernel
theorem dX8_text_126 : decode cX8_text 126 = .ok (.ifCond .eq 9, 3) := by decide +kernel
theorem dX8_text_129 : decode cX8_text 129 = .ok (.aload_n 0, 1) := by decide +kernel
theorem dX8_text_130 : decode cX8_text 130 = .ok (.bipush 7, 2) := by decide +kernel
theorem dX8_text_132 : decode cX8_text 132 = .ok (.invokevirtual 111, 3) := by decide +kernel
theorem dX8_text_135 : decode cX8_text 135 = .ok (.aload_n 0, 1) := by decide +kernel
theorem dX8_text_136 : decode cX8_text 136 = .ok (.iconst 0, 1) := by decide +kernel
theorem dX8_text_137 : decode cX8_text 137 = .ok (.putfield 78, 3) := by decide +kernel
theorem dX8_text_140 : decode cX8_text 140 = .ok (.aload_n 0, 1) := by decide +kernel
theorem dX8_text_141 : decode cX8_text 141 = .ok (.aload_n 0, 1) := by decide +kernel
theorem dX8_text_142 : decode cX8_text 142 = .ok (.getfield 81, 3) := by decide +kernel
theorem dX8_text_145 : decode cX8_text 145 = .ok (.putfield 170, 3) := by decide +kernel
theorem dX8_text_148 : decode cX8_text 148 = .ok (.aload_n 0, 1) := by decide +kernel
theorem dX8_text_149 : decode cX8_text 149 = .ok (.getfield 81, 3) := by decide +kernel
theorem dX8_text_152 : decode cX8_text 152 = .ok (.ifCond .le 11, 3) := by decide +kernel
theorem dX8_text_155 : decode cX8_text 155 = .ok (.bipush (-10), 2) := by decide +kernel
theorem dX8_text_157 : decode cX8_text 157 = .ok (.aload_n 0, 1) := by decide +kernel
theorem dX8_text_158 : decode cX8_text 158 = .ok (.getfield 87, 3) := by decide +kernel
theorem dX8_text_161 : decode cX8_text 161 = .ok (.isub, 1) := by decide +kernel
theorem dX8_text_162 : decode cX8_text 162 = .ok (.ireturn, 1) := by decide +kernel
theorem dX8_text_163 : decode cX8_text 163 = .ok (.iconst 0, 1) := by decide +kernel
theorem dX8_text_164 : decode cX8_text 164 = .ok (.istore_n 2, 1) := by decide +kernel
theorem dX8_text_165 : decode cX8_text 165 = .ok (.iload_n 2, 1) := by decide +kernel
theorem dX8_text_166 : decode cX8_text 166 = .ok (.bipush 25, 2) := by decide +kernel
theorem dX8_text_168 : decode cX8_text 168 = .ok (.if_icmp .ge 39, 3) := by decide +kernel
theorem dX8_text_171 : decode cX8_text 171 = .ok (.aload_n 0, 1) := by decide +kernel
theorem dX8_text_172 : decode cX8_text 172 = .ok (.getfield 7, 3) := by decide +kernel
theorem dX8_text_175 : decode cX8_text 175 = .ok (.iload_n 2, 1) := by decide +kernel
theorem dX8_text_176 : decode cX8_text 176 = .ok (.aload_n 0, 1) := by decide +kernel
theorem dX8_text_177 : decode cX8_text 177 = .ok (.getfield 23, 3) := by decide +kernel
theorem dX8_text_180 : decode cX8_text 180 = .ok (.iload_n 2, 1) := by decide +kernel
theorem dX8_text_181 : decode cX8_text 181 = .ok (.iaload, 1) := by decide +kernel
theorem dX8_text_182 : decode cX8_text 182 = .ok (.iastore, 1) := by decide +kernel
theorem dX8_text_183 : decode cX8_text 183 = .ok (.aload_n 0, 1) := by decide +kernel
theorem dX8_text_184 : decode cX8_text 184 = .ok (.getfield 17, 3) := by decide +kernel
theorem dX8_text_187 : decode cX8_text 187 = .ok (.iload_n 2, 1) := by decide +kernel
theorem dX8_text_188 : decode cX8_text 188 = .ok (.bipush 8, 2) := by decide +kernel
theorem dX8_text_190 : decode cX8_text 190 = .ok (.irem, 1) := by decide +kernel
theorem dX8_text_191 : decode cX8_text 191 = .ok (.aload_n 0, 1) := by decide +kernel
theorem dX8_text_192 : decode cX8_text 192 = .ok (.getfield 26, 3) := by decide +kernel
theorem dX8_text_195 : decode cX8_text 195 = .ok (.iload_n 2, 1) := by decide +kernel
theorem dX8_text_196 : decode cX8_text 196 = .ok (.bipush 8, 2) := by decide +kernel
theorem dX8_text_198 : decode cX8_text 198 = .ok (.irem, 1) := by decide +kernel
theorem dX8_text_199 : decode cX8_text 199 = .ok (.iaload, 1) := by decide +kernel
theorem dX8_text_200 : decode cX8_text 200 = .ok (.iastore, 1) := by decide +kernel
theorem dX8_text_201 : decode cX8_text 201 = .ok (.iinc 2 1, 3) := by decide +kernel
theorem dX8_text_204 : decode cX8_text 204 = .ok (.goto (-39), 3) := by decide +kernel
theorem dX8_text_207 : decode cX8_text 207 = .ok (.aload_n 0, 1) := by decide +kernel
theorem dX8_text_208 : decode cX8_text 208 = .ok (.aload_n 0, 1) := by decide +kernel
theorem dX8_text_209 : decode cX8_text 209 = .ok (.getfield 144, 3) := by decide +kernel
theorem dX8_text_212 : decode cX8_text 212 = .ok (.putfield 13, 3) := by decide +kernel
theorem dX8_text_215 : decode cX8_text 215 = .ok (.aload_n 0, 1) := by decide +kernel
theorem dX8_text_216 : decode cX8_text 216 = .ok (.aload_n 0, 1) := by decide +kernel
theorem dX8_text_217 : decode cX8_text 217 = .ok (.getfield 135, 3) := by decide +kernel
theorem dX8_text_220 : decode cX8_text 220 = .ok (.putfield 173, 3) := by decide +kernel
theorem dX8_text_223 : decode cX8_text 223 = .ok (.aload_n 0, 1) := by decide +kernel
theorem dX8_text_224 : decode cX8_text 224 = .ok (.aload_n 0, 1) := by decide +kernel
theorem dX8_text_225 : decode cX8_text 225 = .ok (.getfield 128, 3) := by decide +kernel
theorem dX8_text_228 : decode cX8_text 228 = .ok (.putfield 176, 3) := by decide +kernel
theorem dX8_text_231 : decode cX8_text 231 = .ok (.aload_n 0, 1) := by decide +kernel
theorem dX8_text_232 : decode cX8_text 232 = .ok (.iconst 0, 1) := by decide +kernel
theorem dX8_text_233 : decode cX8_text 233 = .ok (.putfield 179, 3) := by decide +kernel
theorem dX8_text_236 : decode cX8_text 236 = .ok (.aload_n 0, 1) := by decide +kernel
theorem dX8_text_237 : decode cX8_text 237 = .ok (.getfield 60, 3) := by decide +kernel
theorem dX8_text_240 : decode cX8_text 240 = .ok (.iconst 0, 1) := by decide +kernel
theorem dX8_text_241 : decode cX8_text 241 = .ok (.iconst 0, 1) := by decide +kernel
theorem dX8_text_242 : decode cX8_text 242 = .ok (.bastore, 1) := by decide +kernel
theorem dX8_text_243 : decode cX8_text 243 = .ok (.aload_n 0, 1) := by decide +kernel
theorem dX8_text_244 : decode cX8_text 244 = .ok (.getfield 60, 3) := by decide +kernel
theorem dX8_text_247 : decode cX8_text 247 = .ok (.iconst 1, 1) := by decide +kernel
theorem dX8_text_248 : decode cX8_text 248 = .ok (.iconst 0, 1) := by decide +kernel
theorem dX8_text_249 : decode cX8_text 249 = .ok (.bastore, 1) := by decide +kernel
theorem dX8_text_250 : decode cX8_text 250 = .ok (.iload_n 1, 1) := by decide +kernel
theorem dX8_text_251 : decode cX8_text 251 = .ok (.ireturn, 1) := by decide +kernel
theorem dX8_fault_0 : decode cX8_fault 0 = .ok (.aload_n 0, 1) := by decide +kernel
theorem dX8_fault_1 : decode cX8_fault 1 = .ok (.getfield 170, 3) := by decide +kernel
theorem dX8_fault_4 : decode cX8_fault 4 = .ok (.ireturn, 1) := by decide +kernel
theorem dX8_isBlock_0 : decode cX8_isBlock 0 = .ok (.iload_n 1, 1) := by decide +kernel
theorem dX8_isBlock_1 : decode cX8_isBlock 1 = .ok (.i2l, 1) := by decide +kernel
theorem dX8_isBlock_2 : decode cX8_isBlock 2 = .ok (.lconst 0, 1) := by decide +kernel
theorem dX8_isBlock_3 : decode cX8_isBlock 3 = .ok (.aload_n 0, 1) := by decide +kernel
theorem dX8_isBlock_4 : decode cX8_isBlock 4 = .ok (.getfield 13, 3) := by decide +kernel
theorem dX8_isBlock_7 : decode cX8_isBlock 7 = .ok (.iconst 1, 1) := by decide +kernel
theorem dX8_isBlock_8 : decode cX8_isBlock 8 = .ok (.isub, 1) := by decide +kernel
theorem dX8_isBlock_9 : decode cX8_isBlock 9 = .ok (.i2l, 1) := by decide +kernel
theorem dX8_isBlock_10 : decode cX8_isBlock 10 = .ok (.invokestatic 74, 3) := by decide +kernel
theorem dX8_isBlock_13 : decode cX8_isBlock 13 = .ok (.ireturn, 1) := by decide +kernel
theorem dX8_isTrain_0 : decode cX8_isTrain 0 = .ok (.iload_n 1, 1) := by decide +kernel
theorem dX8_isTrain_1 : decode cX8_isTrain 1 = .ok (.i2l, 1) := by decide +kernel
theorem dX8_isTrain_2 : decode cX8_isTrain 2 = .ok (.lconst 0, 1) := by decide +kernel
theorem dX8_isTrain_3 : decode cX8_isTrain 3 = .ok (.aload_n 0, 1) := by decide +kernel
theorem dX8_isTrain_4 : decode cX8_isTrain 4 = .ok (.getfield 173, 3) := by decide +kernel
theorem dX8_isTrain_7 : decode cX8_isTrain 7 = .ok (.iconst 1, 1) := by decide +kernel
theorem dX8_isTrain_8 : decode cX8_isTrain 8 = .ok (.isub, 1) := by decide +kernel
theorem dX8_isTrain_9 : decode cX8_isTrain 9 = .ok (.i2l, 1) := by decide +kernel
theorem dX8_isTrain_10 : decode cX8_isTrain 10 = .ok (.invokestatic 74, 3) := by decide +kernel
theorem dX8_isTrain_13 : decode cX8_isTrain 13 = .ok (.ireturn, 1) := by decide +kernel
theorem dX8_omens_0 : decode cX8_omens 0 = .ok (.iconst 0, 1) := by decide +kernel
theorem dX8_omens_1 : decode cX8_omens 1 = .ok (.istore_n 1, 1) := by decide +kernel
theorem dX8_omens_2 : decode cX8_omens 2 = .ok (.iconst 0, 1) := by decide +kernel
theorem dX8_omens_3 : decode cX8_omens 3 = .ok (.istore_n 2, 1) := by decide +kernel
theorem dX8_omens_4 : decode cX8_omens 4 = .ok (.iload_n 2, 1) := by decide +kernel
theorem dX8_omens_5 : decode cX8_omens 5 = .ok (.aload_n 0, 1) := by decide +kernel
theorem dX8_omens_6 : decode cX8_omens 6 = .ok (.getfield 13, 3) := by decide +kernel
theorem dX8_omens_9 : decode cX8_omens 9 = .ok (.if_icmp .ge 28, 3) := by decide +kernel
theorem dX8_omens_12 : decode cX8_omens 12 = .ok (.iload_n 1, 1) := by decide +kernel
theorem dX8_omens_13 : decode cX8_omens 13 = .ok (.aload_n 0, 1) := by decide +kernel
theorem dX8_omens_14 : decode cX8_omens 14 = .ok (.getfield 7, 3) := by decide +kernel
theorem dX8_omens_17 : decode cX8_omens 17 = .ok (.iload_n 2, 1) := by decide +kernel
theorem dX8_omens_18 : decode cX8_omens 18 = .ok (.iaload, 1) := by decide +kernel
theorem dX8_omens_19 : decode cX8_omens 19 = .ok (.ifCond .le 9, 3) := by decide +kernel
theorem dX8_omens_22 : decode cX8_omens 22 = .ok (.iconst 1, 1) := by decide +kernel
theorem dX8_omens_23 : decode cX8_omens 23 = .ok (.iload_n 2, 1) := by decide +kernel
theorem dX8_omens_24 : decode cX8_omens 24 = .ok (.ishl, 1) := by decide +kernel
theorem dX8_omens_25 : decode cX8_omens 25 = .ok (.goto 4, 3) := by decide +kernel
theorem dX8_omens_28 : decode cX8_omens 28 = .ok (.iconst 0, 1) := by decide +kernel
theorem dX8_omens_29 : decode cX8_omens 29 = .ok (.ior, 1) := by decide +kernel
theorem dX8_omens_30 : decode cX8_omens 30 = .ok (.istore_n 1, 1) := by decide +kernel
theorem dX8_omens_31 : decode cX8_omens 31 = .ok (.iinc 2 1, 3) := by decide +kernel
theorem dX8_omens_34 : decode cX8_omens 34 = .ok (.goto (-30), 3) := by decide +kernel
theorem dX8_omens_37 : decode cX8_omens 37 = .ok (.iload_n 1, 1) := by decide +kernel
theorem dX8_omens_38 : decode cX8_omens 38 = .ok (.ireturn, 1) := by decide +kernel
theorem dX8_rule_0 : decode cX8_rule 0 = .ok (.iload_n 1, 1) := by decide +kernel
theorem dX8_rule_1 : decode cX8_rule 1 = .ok (.tableswitch 63 0 4 #[35, 40, 45, 50, 58], 35) := by decide +kernel
theorem dX8_rule_36 : decode cX8_rule 36 = .ok (.aload_n 0, 1) := by decide +kernel
theorem dX8_rule_37 : decode cX8_rule 37 = .ok (.getfield 13, 3) := by decide +kernel
theorem dX8_rule_40 : decode cX8_rule 40 = .ok (.ireturn, 1) := by decide +kernel
theorem dX8_rule_41 : decode cX8_rule 41 = .ok (.aload_n 0, 1) := by decide +kernel
theorem dX8_rule_42 : decode cX8_rule 42 = .ok (.getfield 173, 3) := by decide +kernel
theorem dX8_rule_45 : decode cX8_rule 45 = .ok (.ireturn, 1) := by decide +kernel
theorem dX8_rule_46 : decode cX8_rule 46 = .ok (.aload_n 0, 1) := by decide +kernel
theorem dX8_rule_47 : decode cX8_rule 47 = .ok (.getfield 176, 3) := by decide +kernel
theorem dX8_rule_50 : decode cX8_rule 50 = .ok (.ireturn, 1) := by decide +kernel
theorem dX8_rule_51 : decode cX8_rule 51 = .ok (.aload_n 0, 1) := by decide +kernel
theorem dX8_rule_52 : decode cX8_rule 52 = .ok (.getfield 7, 3) := by decide +kernel
theorem dX8_rule_55 : decode cX8_rule 55 = .ok (.bipush 8, 2) := by decide +kernel
theorem dX8_rule_57 : decode cX8_rule 57 = .ok (.iaload, 1) := by decide +kernel
theorem dX8_rule_58 : decode cX8_rule 58 = .ok (.ireturn, 1) := by decide +kernel
theorem dX8_rule_59 : decode cX8_rule 59 = .ok (.aload_n 0, 1) := by decide +kernel
theorem dX8_rule_60 : decode cX8_rule 60 = .ok (.invokevirtual 182, 3) := by decide +kernel
theorem dX8_rule_63 : decode cX8_rule 63 = .ok (.ireturn, 1) := by decide +kernel
theorem dX8_rule_64 : decode cX8_rule 64 = .ok (.iconst (-1), 1) := by decide +kernel
theorem dX8_rule_65 : decode cX8_rule 65 = .ok (.ireturn, 1) := by decide +kernel
theorem dX8_lockedWith_0 : decode cX8_lockedWith 0 = .ok (.iconst 0, 1) := by decide +kernel
theorem dX8_lockedWith_1 : decode cX8_lockedWith 1 = .ok (.istore_n 2, 1) := by decide +kernel
theorem dX8_lockedWith_2 : decode cX8_lockedWith 2 = .ok (.iconst 0, 1) := by decide +kernel
theorem dX8_lockedWith_3 : decode cX8_lockedWith 3 = .ok (.istore_n 3, 1) := by decide +kernel
theorem dX8_lockedWith_4 : decode cX8_lockedWith 4 = .ok (.iload_n 3, 1) := by decide +kernel
theorem dX8_lockedWith_5 : decode cX8_lockedWith 5 = .ok (.aload_n 0, 1) := by decide +kernel
theorem dX8_lockedWith_6 : decode cX8_lockedWith 6 = .ok (.getfield 176, 3) := by decide +kernel
theorem dX8_lockedWith_9 : decode cX8_lockedWith 9 = .ok (.if_icmp .ge 71, 3) := by decide +kernel
theorem dX8_lockedWith_12 : decode cX8_lockedWith 12 = .ok (.iload_n 2, 1) := by decide +kernel
theorem dX8_lockedWith_13 : decode cX8_lockedWith 13 = .ok (.aload_n 0, 1) := by decide +kernel
theorem dX8_lockedWith_14 : decode cX8_lockedWith 14 = .ok (.getfield 17, 3) := by decide +kernel
theorem dX8_lockedWith_17 : decode cX8_lockedWith 17 = .ok (.iconst 2, 1) := by decide +kernel
theorem dX8_lockedWith_18 : decode cX8_lockedWith 18 = .ok (.iload_n 3, 1) := by decide +kernel
theorem dX8_lockedWith_19 : decode cX8_lockedWith 19 = .ok (.imul, 1) := by decide +kernel
theorem dX8_lockedWith_20 : decode cX8_lockedWith 20 = .ok (.iaload, 1) := by decide +kernel
theorem dX8_lockedWith_21 : decode cX8_lockedWith 21 = .ok (.iload_n 1, 1) := by decide +kernel
theorem dX8_lockedWith_22 : decode cX8_lockedWith 22 = .ok (.if_icmp .ne 18, 3) := by decide +kernel
theorem dX8_lockedWith_25 : decode cX8_lockedWith 25 = .ok (.iconst 1, 1) := by decide +kernel
theorem dX8_lockedWith_26 : decode cX8_lockedWith 26 = .ok (.aload_n 0, 1) := by decide +kernel
theorem dX8_lockedWith_27 : decode cX8_lockedWith 27 = .ok (.getfield 17, 3) := by decide +kernel
theorem dX8_lockedWith_30 : decode cX8_lockedWith 30 = .ok (.iconst 2, 1) := by decide +kernel
theorem dX8_lockedWith_31 : decode cX8_lockedWith 31 = .ok (.iload_n 3, 1) := by decide +kernel
theorem dX8_lockedWith_32 : decode cX8_lockedWith 32 = .ok (.imul, 1) := by decide +kernel
theorem dX8_lockedWith_33 : decode cX8_lockedWith 33 = .ok (.iconst 1, 1) := by decide +kernel
theorem dX8_lockedWith_34 : decode cX8_lockedWith 34 = .ok (.iadd, 1) := by decide +kernel
theorem dX8_lockedWith_35 : decode cX8_lockedWith 35 = .ok (.iaload, 1) := by decide +kernel
theorem dX8_lockedWith_36 : decode cX8_lockedWith 36 = .ok (.ishl, 1) := by decide +kernel
theorem dX8_lockedWith_37 : decode cX8_lockedWith 37 = .ok (.goto 4, 3) := by decide +kernel
theorem dX8_lockedWith_40 : decode cX8_lockedWith 40 = .ok (.iconst 0, 1) := by decide +kernel
theorem dX8_lockedWith_41 : decode cX8_lockedWith 41 = .ok (.ior, 1) := by decide +kernel
theorem dX8_lockedWith_42 : decode cX8_lockedWith 42 = .ok (.istore_n 2, 1) := by decide +kernel
theorem dX8_lockedWith_43 : decode cX8_lockedWith 43 = .ok (.iload_n 2, 1) := by decide +kernel
theorem dX8_lockedWith_44 : decode cX8_lockedWith 44 = .ok (.aload_n 0, 1) := by decide +kernel
theorem dX8_lockedWith_45 : decode cX8_lockedWith 45 = .ok (.getfield 17, 3) := by decide +kernel
theorem dX8_lockedWith_48 : decode cX8_lockedWith 48 = .ok (.iconst 2, 1) := by decide +kernel
theorem dX8_lockedWith_49 : decode cX8_lockedWith 49 = .ok (.iload_n 3, 1) := by decide +kernel
theorem dX8_lockedWith_50 : decode cX8_lockedWith 50 = .ok (.imul, 1) := by decide +kernel
theorem dX8_lockedWith_51 : decode cX8_lockedWith 51 = .ok (.iconst 1, 1) := by decide +kernel
theorem dX8_lockedWith_52 : decode cX8_lockedWith 52 = .ok (.iadd, 1) := by decide +kernel
theorem dX8_lockedWith_53 : decode cX8_lockedWith 53 = .ok (.iaload, 1) := by decide +kernel
theorem dX8_lockedWith_54 : decode cX8_lockedWith 54 = .ok (.iload_n 1, 1) := by decide +kernel
theorem dX8_lockedWith_55 : decode cX8_lockedWith 55 = .ok (.if_icmp .ne 16, 3) := by decide +kernel
theorem dX8_lockedWith_58 : decode cX8_lockedWith 58 = .ok (.iconst 1, 1) := by decide +kernel
theorem dX8_lockedWith_59 : decode cX8_lockedWith 59 = .ok (.aload_n 0, 1) := by decide +kernel
theorem dX8_lockedWith_60 : decode cX8_lockedWith 60 = .ok (.getfield 17, 3) := by decide +kernel
theorem dX8_lockedWith_63 : decode cX8_lockedWith 63 = .ok (.iconst 2, 1) := by decide +kernel
theorem dX8_lockedWith_64 : decode cX8_lockedWith 64 = .ok (.iload_n 3, 1) := by decide +kernel
theorem dX8_lockedWith_65 : decode cX8_lockedWith 65 = .ok (.imul, 1) := by decide +kernel
theorem dX8_lockedWith_66 : decode cX8_lockedWith 66 = .ok (.iaload, 1) := by decide +kernel
theorem dX8_lockedWith_67 : decode cX8_lockedWith 67 = .ok (.ishl, 1) := by decide +kernel
theorem dX8_lockedWith_68 : decode cX8_lockedWith 68 = .ok (.goto 4, 3) := by decide +kernel
theorem dX8_lockedWith_71 : decode cX8_lockedWith 71 = .ok (.iconst 0, 1) := by decide +kernel
theorem dX8_lockedWith_72 : decode cX8_lockedWith 72 = .ok (.ior, 1) := by decide +kernel
theorem dX8_lockedWith_73 : decode cX8_lockedWith 73 = .ok (.istore_n 2, 1) := by decide +kernel
theorem dX8_lockedWith_74 : decode cX8_lockedWith 74 = .ok (.iinc 3 1, 3) := by decide +kernel
theorem dX8_lockedWith_77 : decode cX8_lockedWith 77 = .ok (.goto (-73), 3) := by decide +kernel
theorem dX8_lockedWith_80 : decode cX8_lockedWith 80 = .ok (.iload_n 2, 1) := by decide +kernel
theorem dX8_lockedWith_81 : decode cX8_lockedWith 81 = .ok (.ireturn, 1) := by decide +kernel
theorem dX8_block_0 : decode cX8_block 0 = .ok (.aload_n 0, 1) := by decide +kernel
theorem dX8_block_1 : decode cX8_block 1 = .ok (.iload_n 1, 1) := by decide +kernel
theorem dX8_block_2 : decode cX8_block 2 = .ok (.invokevirtual 185, 3) := by decide +kernel
theorem dX8_block_5 : decode cX8_block 5 = .ok (.ifCond .eq 15, 3) := by decide +kernel
theorem dX8_block_8 : decode cX8_block 8 = .ok (.iload_n 2, 1) := by decide +kernel
theorem dX8_block_9 : decode cX8_block 9 = .ok (.i2l, 1) := by decide +kernel
theorem dX8_block_10 : decode cX8_block 10 = .ok (.lconst 0, 1) := by decide +kernel
theorem dX8_block_11 : decode cX8_block 11 = .ok (.ldc2_w 189, 3) := by decide +kernel
theorem dX8_block_14 : decode cX8_block 14 = .ok (.invokestatic 74, 3) := by decide +kernel
theorem dX8_block_17 : decode cX8_block 17 = .ok (.ifCond .ne 5, 3) := by decide +kernel
theorem dX8_block_20 : decode cX8_block 20 = .ok (.iconst (-1), 1) := by decide +kernel
theorem dX8_block_21 : decode cX8_block 21 = .ok (.ireturn, 1) := by decide +kernel
theorem dX8_block_22 : decode cX8_block 22 = .ok (.iload_n 2, 1) := by decide +kernel
theorem dX8_block_23 : decode cX8_block 23 = .ok (.ifCond .ne 12, 3) := by decide +kernel
theorem dX8_block_26 : decode cX8_block 26 = .ok (.aload_n 0, 1) := by decide +kernel
theorem dX8_block_27 : decode cX8_block 27 = .ok (.getfield 7, 3) := by decide +kernel
theorem dX8_block_30 : decode cX8_block 30 = .ok (.iload_n 1, 1) := by decide +kernel
theorem dX8_block_31 : decode cX8_block 31 = .ok (.iaload, 1) := by decide +kernel
theorem dX8_block_32 : decode cX8_block 32 = .ok (.goto 27, 3) := by decide +kernel
theorem dX8_block_35 : decode cX8_block 35 = .ok (.iload_n 2, 1) := by decide +kernel
theorem dX8_block_36 : decode cX8_block 36 = .ok (.iconst 1, 1) := by decide +kernel
theorem dX8_block_37 : decode cX8_block 37 = .ok (.if_icmp .ne 17, 3) := by decide +kernel
theorem dX8_block_40 : decode cX8_block 40 = .ok (.aload_n 0, 1) := by decide +kernel
theorem dX8_block_41 : decode cX8_block 41 = .ok (.getfield 7, 3) := by decide +kernel
theorem dX8_block_44 : decode cX8_block 44 = .ok (.bipush 8, 2) := by decide +kernel
theorem dX8_block_46 : decode cX8_block 46 = .ok (.iaload, 1) := by decide +kernel
theorem dX8_block_47 : decode cX8_block 47 = .ok (.iload_n 1, 1) := by decide +kernel
theorem dX8_block_48 : decode cX8_block 48 = .ok (.ishr, 1) := by decide +kernel
theorem dX8_block_49 : decode cX8_block 49 = .ok (.iconst 1, 1) := by decide +kernel
theorem dX8_block_50 : decode cX8_block 50 = .ok (.iand, 1) := by decide +kernel
theorem dX8_block_51 : decode cX8_block 51 = .ok (.goto 8, 3) := by decide +kernel
theorem dX8_block_54 : decode cX8_block 54 = .ok (.aload_n 0, 1) := by decide +kernel
theorem dX8_block_55 : decode cX8_block 55 = .ok (.iload_n 1, 1) := by decide +kernel
theorem dX8_block_56 : decode cX8_block 56 = .ok (.invokevirtual 191, 3) := by decide +kernel
theorem dX8_block_59 : decode cX8_block 59 = .ok (.ireturn, 1) := by decide +kernel
theorem dX8_lock_0 : decode cX8_lock 0 = .ok (.iload_n 1, 1) := by decide +kernel
theorem dX8_lock_1 : decode cX8_lock 1 = .ok (.i2l, 1) := by decide +kernel
theorem dX8_lock_2 : decode cX8_lock 2 = .ok (.lconst 0, 1) := by decide +kernel
theorem dX8_lock_3 : decode cX8_lock 3 = .ok (.aload_n 0, 1) := by decide +kernel
theorem dX8_lock_4 : decode cX8_lock 4 = .ok (.getfield 176, 3) := by decide +kernel
theorem dX8_lock_7 : decode cX8_lock 7 = .ok (.iconst 1, 1) := by decide +kernel
theorem dX8_lock_8 : decode cX8_lock 8 = .ok (.isub, 1) := by decide +kernel
theorem dX8_lock_9 : decode cX8_lock 9 = .ok (.i2l, 1) := by decide +kernel
theorem dX8_lock_10 : decode cX8_lock 10 = .ok (.invokestatic 74, 3) := by decide +kernel
theorem dX8_lock_13 : decode cX8_lock 13 = .ok (.ifCond .eq 26, 3) := by decide +kernel
theorem dX8_lock_16 : decode cX8_lock 16 = .ok (.iload_n 2, 1) := by decide +kernel
theorem dX8_lock_17 : decode cX8_lock 17 = .ok (.i2l, 1) := by decide +kernel
theorem dX8_lock_18 : decode cX8_lock 18 = .ok (.lconst 0, 1) := by decide +kernel
theorem dX8_lock_19 : decode cX8_lock 19 = .ok (.lconst 1, 1) := by decide +kernel
theorem dX8_lock_20 : decode cX8_lock 20 = .ok (.invokestatic 74, 3) := by decide +kernel
theorem dX8_lock_23 : decode cX8_lock 23 = .ok (.ifCond .eq 16, 3) := by decide +kernel
theorem dX8_lock_26 : decode cX8_lock 26 = .ok (.aload_n 0, 1) := by decide +kernel
theorem dX8_lock_27 : decode cX8_lock 27 = .ok (.getfield 17, 3) := by decide +kernel
theorem dX8_lock_30 : decode cX8_lock 30 = .ok (.iconst 2, 1) := by decide +kernel
theorem dX8_lock_31 : decode cX8_lock 31 = .ok (.iload_n 1, 1) := by decide +kernel
theorem dX8_lock_32 : decode cX8_lock 32 = .ok (.imul, 1) := by decide +kernel
theorem dX8_lock_33 : decode cX8_lock 33 = .ok (.iload_n 2, 1) := by decide +kernel
theorem dX8_lock_34 : decode cX8_lock 34 = .ok (.iadd, 1) := by decide +kernel
theorem dX8_lock_35 : decode cX8_lock 35 = .ok (.iaload, 1) := by decide +kernel
theorem dX8_lock_36 : decode cX8_lock 36 = .ok (.goto 4, 3) := by decide +kernel
theorem dX8_lock_39 : decode cX8_lock 39 = .ok (.iconst (-1), 1) := by decide +kernel
theorem dX8_lock_40 : decode cX8_lock 40 = .ok (.ireturn, 1) := by decide +kernel
theorem dX8_train_0 : decode cX8_train 0 = .ok (.aload_n 0, 1) := by decide +kernel
theorem dX8_train_1 : decode cX8_train 1 = .ok (.iload_n 1, 1) := by decide +kernel
theorem dX8_train_2 : decode cX8_train 2 = .ok (.invokevirtual 194, 3) := by decide +kernel
theorem dX8_train_5 : decode cX8_train 5 = .ok (.ifCond .eq 31, 3) := by decide +kernel
theorem dX8_train_8 : decode cX8_train 8 = .ok (.iload_n 2, 1) := by decide +kernel
theorem dX8_train_9 : decode cX8_train 9 = .ok (.i2l, 1) := by decide +kernel
theorem dX8_train_10 : decode cX8_train 10 = .ok (.lconst 0, 1) := by decide +kernel
theorem dX8_train_11 : decode cX8_train 11 = .ok (.ldc2_w 197, 3) := by decide +kernel
theorem dX8_train_14 : decode cX8_train 14 = .ok (.invokestatic 74, 3) := by decide +kernel
theorem dX8_train_17 : decode cX8_train 17 = .ok (.ifCond .eq 19, 3) := by decide +kernel
theorem dX8_train_20 : decode cX8_train 20 = .ok (.aload_n 0, 1) := by decide +kernel
theorem dX8_train_21 : decode cX8_train 21 = .ok (.getfield 7, 3) := by decide +kernel
theorem dX8_train_24 : decode cX8_train 24 = .ok (.bipush 9, 2) := by decide +kernel
theorem dX8_train_26 : decode cX8_train 26 = .ok (.iconst 4, 1) := by decide +kernel
theorem dX8_train_27 : decode cX8_train 27 = .ok (.iload_n 2, 1) := by decide +kernel
theorem dX8_train_28 : decode cX8_train 28 = .ok (.imul, 1) := by decide +kernel
theorem dX8_train_29 : decode cX8_train 29 = .ok (.iadd, 1) := by decide +kernel
theorem dX8_train_30 : decode cX8_train 30 = .ok (.iload_n 1, 1) := by decide +kernel
theorem dX8_train_31 : decode cX8_train 31 = .ok (.iadd, 1) := by decide +kernel
theorem dX8_train_32 : decode cX8_train 32 = .ok (.iaload, 1) := by decide +kernel
theorem dX8_train_33 : decode cX8_train 33 = .ok (.goto 4, 3) := by decide +kernel
theorem dX8_train_36 : decode cX8_train 36 = .ok (.iconst (-1), 1) := by decide +kernel
theorem dX8_train_37 : decode cX8_train 37 = .ok (.ireturn, 1) := by decide +kernel
theorem dX8_waits_0 : decode cX8_waits 0 = .ok (.iload_n 1, 1) := by decide +kernel
theorem dX8_waits_1 : decode cX8_waits 1 = .ok (.i2l, 1) := by decide +kernel
theorem dX8_waits_2 : decode cX8_waits 2 = .ok (.lconst 0, 1) := by decide +kernel
theorem dX8_waits_3 : decode cX8_waits 3 = .ok (.ldc2_w 197, 3) := by decide +kernel
theorem dX8_waits_6 : decode cX8_waits 6 = .ok (.invokestatic 74, 3) := by decide +kernel
theorem dX8_waits_9 : decode cX8_waits 9 = .ok (.ifCond .eq 28, 3) := by decide +kernel
theorem dX8_waits_12 : decode cX8_waits 12 = .ok (.iload_n 2, 1) := by decide +kernel
theorem dX8_waits_13 : decode cX8_waits 13 = .ok (.i2l, 1) := by decide +kernel
theorem dX8_waits_14 : decode cX8_waits 14 = .ok (.lconst 0, 1) := by decide +kernel
theorem dX8_waits_15 : decode cX8_waits 15 = .ok (.ldc2_w 152, 3) := by decide +kernel
theorem dX8_waits_18 : decode cX8_waits 18 = .ok (.invokestatic 74, 3) := by decide +kernel
theorem dX8_waits_21 : decode cX8_waits 21 = .ok (.ifCond .eq 16, 3) := by decide +kernel
theorem dX8_waits_24 : decode cX8_waits 24 = .ok (.aload_n 0, 1) := by decide +kernel
theorem dX8_waits_25 : decode cX8_waits 25 = .ok (.getfield 20, 3) := by decide +kernel
theorem dX8_waits_28 : decode cX8_waits 28 = .ok (.iconst 5, 1) := by decide +kernel
theorem dX8_waits_29 : decode cX8_waits 29 = .ok (.iload_n 1, 1) := by decide +kernel
theorem dX8_waits_30 : decode cX8_waits 30 = .ok (.imul, 1) := by decide +kernel
theorem dX8_waits_31 : decode cX8_waits 31 = .ok (.iload_n 2, 1) := by decide +kernel
theorem dX8_waits_32 : decode cX8_waits 32 = .ok (.iadd, 1) := by decide +kernel
theorem dX8_waits_33 : decode cX8_waits 33 = .ok (.iaload, 1) := by decide +kernel
theorem dX8_waits_34 : decode cX8_waits 34 = .ok (.goto 4, 3) := by decide +kernel
theorem dX8_waits_37 : decode cX8_waits 37 = .ok (.iconst (-1), 1) := by decide +kernel
theorem dX8_waits_38 : decode cX8_waits 38 = .ok (.ireturn, 1) := by decide +kernel
theorem dX8_hangs_0 : decode cX8_hangs 0 = .ok (.aload_n 0, 1) := by decide +kernel
theorem dX8_hangs_1 : decode cX8_hangs 1 = .ok (.iload_n 1, 1) := by decide +kernel
theorem dX8_hangs_2 : decode cX8_hangs 2 = .ok (.invokevirtual 185, 3) := by decide +kernel
theorem dX8_hangs_5 : decode cX8_hangs 5 = .ok (.ifCond .eq 15, 3) := by decide +kernel
theorem dX8_hangs_8 : decode cX8_hangs 8 = .ok (.iload_n 2, 1) := by decide +kernel
theorem dX8_hangs_9 : decode cX8_hangs 9 = .ok (.i2l, 1) := by decide +kernel
theorem dX8_hangs_10 : decode cX8_hangs 10 = .ok (.lconst 0, 1) := by decide +kernel
theorem dX8_hangs_11 : decode cX8_hangs 11 = .ok (.ldc2_w 152, 3) := by decide +kernel
theorem dX8_hangs_14 : decode cX8_hangs 14 = .ok (.invokestatic 74, 3) := by decide +kernel
theorem dX8_hangs_17 : decode cX8_hangs 17 = .ok (.ifCond .ne 5, 3) := by decide +kernel
theorem dX8_hangs_20 : decode cX8_hangs 20 = .ok (.iconst (-1), 1) := by decide +kernel
theorem dX8_hangs_21 : decode cX8_hangs 21 = .ok (.ireturn, 1) := by decide +kernel
theorem dX8_hangs_22 : decode cX8_hangs 22 = .ok (.iload_n 2, 1) := by decide +kernel
theorem dX8_hangs_23 : decode cX8_hangs 23 = .ok (.ifCond .le 19, 3) := by decide +kernel
theorem dX8_hangs_26 : decode cX8_hangs 26 = .ok (.aload_n 0, 1) := by decide +kernel
theorem dX8_hangs_27 : decode cX8_hangs 27 = .ok (.iload_n 1, 1) := by decide +kernel
theorem dX8_hangs_28 : decode cX8_hangs 28 = .ok (.invokevirtual 191, 3) := by decide +kernel
theorem dX8_hangs_31 : decode cX8_hangs 31 = .ok (.aload_n 0, 1) := by decide +kernel
theorem dX8_hangs_32 : decode cX8_hangs 32 = .ok (.invokevirtual 182, 3) := by decide +kernel
theorem dX8_hangs_35 : decode cX8_hangs 35 = .ok (.iand, 1) := by decide +kernel
theorem dX8_hangs_36 : decode cX8_hangs 36 = .ok (.ifCond .eq 6, 3) := by decide +kernel
theorem dX8_hangs_39 : decode cX8_hangs 39 = .ok (.bipush (-2), 2) := by decide +kernel
theorem dX8_hangs_41 : decode cX8_hangs 41 = .ok (.ireturn, 1) := by decide +kernel
theorem dX8_hangs_42 : decode cX8_hangs 42 = .ok (.aload_n 0, 1) := by decide +kernel
theorem dX8_hangs_43 : decode cX8_hangs 43 = .ok (.getfield 7, 3) := by decide +kernel
theorem dX8_hangs_46 : decode cX8_hangs 46 = .ok (.iload_n 1, 1) := by decide +kernel
theorem dX8_hangs_47 : decode cX8_hangs 47 = .ok (.iaload, 1) := by decide +kernel
theorem dX8_hangs_48 : decode cX8_hangs 48 = .ok (.istore_n 3, 1) := by decide +kernel
theorem dX8_hangs_49 : decode cX8_hangs 49 = .ok (.aload_n 0, 1) := by decide +kernel
theorem dX8_hangs_50 : decode cX8_hangs 50 = .ok (.getfield 7, 3) := by decide +kernel
theorem dX8_hangs_53 : decode cX8_hangs 53 = .ok (.iload_n 1, 1) := by decide +kernel
theorem dX8_hangs_54 : decode cX8_hangs 54 = .ok (.iload_n 2, 1) := by decide +kernel
theorem dX8_hangs_55 : decode cX8_hangs 55 = .ok (.iastore, 1) := by decide +kernel
theorem dX8_hangs_56 : decode cX8_hangs 56 = .ok (.iload_n 3, 1) := by decide +kernel
theorem dX8_hangs_57 : decode cX8_hangs 57 = .ok (.ireturn, 1) := by decide +kernel
theorem dX8_hang_0 : decode cX8_hang 0 = .ok (.aload_n 0, 1) := by decide +kernel
theorem dX8_hang_1 : decode cX8_hang 1 = .ok (.iload_n 1, 1) := by decide +kernel
theorem dX8_hang_2 : decode cX8_hang 2 = .ok (.iload_n 2, 1) := by decide +kernel
theorem dX8_hang_3 : decode cX8_hang 3 = .ok (.invokevirtual 199, 3) := by decide +kernel
theorem dX8_hang_6 : decode cX8_hang 6 = .ok (.ireturn, 1) := by decide +kernel
theorem dX8_guard_0 : decode cX8_guard 0 = .ok (.aload_n 0, 1) := by decide +kernel
theorem dX8_guard_1 : decode cX8_guard 1 = .ok (.iload_n 1, 1) := by decide +kernel
theorem dX8_guard_2 : decode cX8_guard 2 = .ok (.invokevirtual 185, 3) := by decide +kernel
theorem dX8_guard_5 : decode cX8_guard 5 = .ok (.ifCond .ne 5, 3) := by decide +kernel
theorem dX8_guard_8 : decode cX8_guard 8 = .ok (.iconst (-1), 1) := by decide +kernel
theorem dX8_guard_9 : decode cX8_guard 9 = .ok (.ireturn, 1) := by decide +kernel
theorem dX8_guard_10 : decode cX8_guard 10 = .ok (.aload_n 0, 1) := by decide +kernel
theorem dX8_guard_11 : decode cX8_guard 11 = .ok (.getfield 7, 3) := by decide +kernel
theorem dX8_guard_14 : decode cX8_guard 14 = .ok (.bipush 8, 2) := by decide +kernel
theorem dX8_guard_16 : decode cX8_guard 16 = .ok (.iaload, 1) := by decide +kernel
theorem dX8_guard_17 : decode cX8_guard 17 = .ok (.iload_n 1, 1) := by decide +kernel
theorem dX8_guard_18 : decode cX8_guard 18 = .ok (.ishr, 1) := by decide +kernel
theorem dX8_guard_19 : decode cX8_guard 19 = .ok (.iconst 1, 1) := by decide +kernel
theorem dX8_guard_20 : decode cX8_guard 20 = .ok (.iand, 1) := by decide +kernel
theorem dX8_guard_21 : decode cX8_guard 21 = .ok (.istore_n 3, 1) := by decide +kernel
theorem dX8_guard_22 : decode cX8_guard 22 = .ok (.aload_n 0, 1) := by decide +kernel
theorem dX8_guard_23 : decode cX8_guard 23 = .ok (.getfield 7, 3) := by decide +kernel
theorem dX8_guard_26 : decode cX8_guard 26 = .ok (.bipush 8, 2) := by decide +kernel
theorem dX8_guard_28 : decode cX8_guard 28 = .ok (.aload_n 0, 1) := by decide +kernel
theorem dX8_guard_29 : decode cX8_guard 29 = .ok (.getfield 7, 3) := by decide +kernel
theorem dX8_guard_32 : decode cX8_guard 32 = .ok (.bipush 8, 2) := by decide +kernel
theorem dX8_guard_34 : decode cX8_guard 34 = .ok (.iaload, 1) := by decide +kernel
theorem dX8_guard_35 : decode cX8_guard 35 = .ok (.iconst 1, 1) := by decide +kernel
theorem dX8_guard_36 : decode cX8_guard 36 = .ok (.iload_n 1, 1) := by decide +kernel
theorem dX8_guard_37 : decode cX8_guard 37 = .ok (.ishl, 1) := by decide +kernel
theorem dX8_guard_38 : decode cX8_guard 38 = .ok (.iconst (-1), 1) := by decide +kernel
theorem dX8_guard_39 : decode cX8_guard 39 = .ok (.ixor, 1) := by decide +kernel
theorem dX8_guard_40 : decode cX8_guard 40 = .ok (.iand, 1) := by decide +kernel
theorem dX8_guard_41 : decode cX8_guard 41 = .ok (.iload_n 2, 1) := by decide +kernel
theorem dX8_guard_42 : decode cX8_guard 42 = .ok (.ifCond .eq 9, 3) := by decide +kernel
theorem dX8_guard_45 : decode cX8_guard 45 = .ok (.iconst 1, 1) := by decide +kernel
theorem dX8_guard_46 : decode cX8_guard 46 = .ok (.iload_n 1, 1) := by decide +kernel
theorem dX8_guard_47 : decode cX8_guard 47 = .ok (.ishl, 1) := by decide +kernel
theorem dX8_guard_48 : decode cX8_guard 48 = .ok (.goto 4, 3) := by decide +kernel
theorem dX8_guard_51 : decode cX8_guard 51 = .ok (.iconst 0, 1) := by decide +kernel
theorem dX8_guard_52 : decode cX8_guard 52 = .ok (.ior, 1) := by decide +kernel
theorem dX8_guard_53 : decode cX8_guard 53 = .ok (.iastore, 1) := by decide +kernel
theorem dX8_guard_54 : decode cX8_guard 54 = .ok (.iload_n 3, 1) := by decide +kernel
theorem dX8_guard_55 : decode cX8_guard 55 = .ok (.ireturn, 1) := by decide +kernel
theorem dX8_set_0 : decode cX8_set 0 = .ok (.aload_n 0, 1) := by decide +kernel
theorem dX8_set_1 : decode cX8_set 1 = .ok (.iload_n 1, 1) := by decide +kernel
theorem dX8_set_2 : decode cX8_set 2 = .ok (.invokevirtual 194, 3) := by decide +kernel
theorem dX8_set_5 : decode cX8_set 5 = .ok (.ifCond .eq 46, 3) := by decide +kernel
theorem dX8_set_8 : decode cX8_set 8 = .ok (.iload_n 2, 1) := by decide +kernel
theorem dX8_set_9 : decode cX8_set 9 = .ok (.i2l, 1) := by decide +kernel
theorem dX8_set_10 : decode cX8_set 10 = .ok (.lconst 0, 1) := by decide +kernel
theorem dX8_set_11 : decode cX8_set 11 = .ok (.ldc2_w 197, 3) := by decide +kernel
theorem dX8_set_14 : decode cX8_set 14 = .ok (.invokestatic 74, 3) := by decide +kernel
theorem dX8_set_17 : decode cX8_set 17 = .ok (.ifCond .eq 34, 3) := by decide +kernel
theorem dX8_set_20 : decode cX8_set 20 = .ok (.iload_n 3, 1) := by decide +kernel
theorem dX8_set_21 : decode cX8_set 21 = .ok (.i2l, 1) := by decide +kernel
theorem dX8_set_22 : decode cX8_set 22 = .ok (.lconst 0, 1) := by decide +kernel
theorem dX8_set_23 : decode cX8_set 23 = .ok (.iload_n 2, 1) := by decide +kernel
theorem dX8_set_24 : decode cX8_set 24 = .ok (.ifCond .ne 9, 3) := by decide +kernel
theorem dX8_set_27 : decode cX8_set 27 = .ok (.ldc2_w 197, 3) := by decide +kernel
theorem dX8_set_30 : decode cX8_set 30 = .ok (.goto 15, 3) := by decide +kernel
theorem dX8_set_33 : decode cX8_set 33 = .ok (.iload_n 2, 1) := by decide +kernel
theorem dX8_set_34 : decode cX8_set 34 = .ok (.iconst 1, 1) := by decide +kernel
theorem dX8_set_35 : decode cX8_set 35 = .ok (.if_icmp .ne 7, 3) := by decide +kernel
theorem dX8_set_38 : decode cX8_set 38 = .ok (.lconst 1, 1) := by decide +kernel
theorem dX8_set_39 : decode cX8_set 39 = .ok (.goto 6, 3) := by decide +kernel
theorem dX8_set_42 : decode cX8_set 42 = .ok (.ldc2_w 203, 3) := by decide +kernel
theorem dX8_set_45 : decode cX8_set 45 = .ok (.invokestatic 74, 3) := by decide +kernel
theorem dX8_set_48 : decode cX8_set 48 = .ok (.ifCond .ne 5, 3) := by decide +kernel
theorem dX8_set_51 : decode cX8_set 51 = .ok (.iconst (-1), 1) := by decide +kernel
theorem dX8_set_52 : decode cX8_set 52 = .ok (.ireturn, 1) := by decide +kernel
theorem dX8_set_53 : decode cX8_set 53 = .ok (.aload_n 0, 1) := by decide +kernel
theorem dX8_set_54 : decode cX8_set 54 = .ok (.getfield 7, 3) := by decide +kernel
theorem dX8_set_57 : decode cX8_set 57 = .ok (.bipush 9, 2) := by decide +kernel
theorem dX8_set_59 : decode cX8_set 59 = .ok (.iconst 4, 1) := by decide +kernel
theorem dX8_set_60 : decode cX8_set 60 = .ok (.iload_n 2, 1) := by decide +kernel
theorem dX8_set_61 : decode cX8_set 61 = .ok (.imul, 1) := by decide +kernel
theorem dX8_set_62 : decode cX8_set 62 = .ok (.iadd, 1) := by decide +kernel
theorem dX8_set_63 : decode cX8_set 63 = .ok (.iload_n 1, 1) := by decide +kernel
theorem dX8_set_64 : decode cX8_set 64 = .ok (.iadd, 1) := by decide +kernel
theorem dX8_set_65 : decode cX8_set 65 = .ok (.iaload, 1) := by decide +kernel
theorem dX8_set_66 : decode cX8_set 66 = .ok (.istore 4, 2) := by decide +kernel
theorem dX8_set_68 : decode cX8_set 68 = .ok (.aload_n 0, 1) := by decide +kernel
theorem dX8_set_69 : decode cX8_set 69 = .ok (.getfield 7, 3) := by decide +kernel
theorem dX8_set_72 : decode cX8_set 72 = .ok (.bipush 9, 2) := by decide +kernel
theorem dX8_set_74 : decode cX8_set 74 = .ok (.iconst 4, 1) := by decide +kernel
theorem dX8_set_75 : decode cX8_set 75 = .ok (.iload_n 2, 1) := by decide +kernel
theorem dX8_set_76 : decode cX8_set 76 = .ok (.imul, 1) := by decide +kernel
theorem dX8_set_77 : decode cX8_set 77 = .ok (.iadd, 1) := by decide +kernel
theorem dX8_set_78 : decode cX8_set 78 = .ok (.iload_n 1, 1) := by decide +kernel
theorem dX8_set_79 : decode cX8_set 79 = .ok (.iadd, 1) := by decide +kernel
theorem dX8_set_80 : decode cX8_set 80 = .ok (.iload_n 3, 1) := by decide +kernel
theorem dX8_set_81 : decode cX8_set 81 = .ok (.iastore, 1) := by decide +kernel
theorem dX8_set_82 : decode cX8_set 82 = .ok (.iload 4, 2) := by decide +kernel
theorem dX8_set_84 : decode cX8_set 84 = .ok (.ireturn, 1) := by decide +kernel
theorem dX8_isUp_0 : decode cX8_isUp 0 = .ok (.aload_n 0, 1) := by decide +kernel
theorem dX8_isUp_1 : decode cX8_isUp 1 = .ok (.getfield 7, 3) := by decide +kernel
theorem dX8_isUp_4 : decode cX8_isUp 4 = .ok (.bipush 13, 2) := by decide +kernel
theorem dX8_isUp_6 : decode cX8_isUp 6 = .ok (.iload_n 1, 1) := by decide +kernel
theorem dX8_isUp_7 : decode cX8_isUp 7 = .ok (.iadd, 1) := by decide +kernel
theorem dX8_isUp_8 : decode cX8_isUp 8 = .ok (.iaload, 1) := by decide +kernel
theorem dX8_isUp_9 : decode cX8_isUp 9 = .ok (.ifCond .ne 7, 3) := by decide +kernel
theorem dX8_isUp_12 : decode cX8_isUp 12 = .ok (.iconst 1, 1) := by decide +kernel
theorem dX8_isUp_13 : decode cX8_isUp 13 = .ok (.goto 4, 3) := by decide +kernel
theorem dX8_isUp_16 : decode cX8_isUp 16 = .ok (.iconst 0, 1) := by decide +kernel
theorem dX8_isUp_17 : decode cX8_isUp 17 = .ok (.ireturn, 1) := by decide +kernel
theorem dX8_nextBlock_0 : decode cX8_nextBlock 0 = .ok (.aload_n 0, 1) := by decide +kernel
theorem dX8_nextBlock_1 : decode cX8_nextBlock 1 = .ok (.getfield 38, 3) := by decide +kernel
theorem dX8_nextBlock_4 : decode cX8_nextBlock 4 = .ok (.iload_n 1, 1) := by decide +kernel
theorem dX8_nextBlock_5 : decode cX8_nextBlock 5 = .ok (.iaload, 1) := by decide +kernel
theorem dX8_nextBlock_6 : decode cX8_nextBlock 6 = .ok (.bipush (-4), 2) := by decide +kernel
theorem dX8_nextBlock_8 : decode cX8_nextBlock 8 = .ok (.if_icmp .ne 24, 3) := by decide +kernel
theorem dX8_nextBlock_11 : decode cX8_nextBlock 11 = .ok (.aload_n 0, 1) := by decide +kernel
theorem dX8_nextBlock_12 : decode cX8_nextBlock 12 = .ok (.iload_n 1, 1) := by decide +kernel
theorem dX8_nextBlock_13 : decode cX8_nextBlock 13 = .ok (.invokevirtual 205, 3) := by decide +kernel
theorem dX8_nextBlock_16 : decode cX8_nextBlock 16 = .ok (.ifCond .eq 7, 3) := by decide +kernel
theorem dX8_nextBlock_19 : decode cX8_nextBlock 19 = .ok (.iconst 0, 1) := by decide +kernel
theorem dX8_nextBlock_20 : decode cX8_nextBlock 20 = .ok (.goto 39, 3) := by decide +kernel
theorem dX8_nextBlock_23 : decode cX8_nextBlock 23 = .ok (.aload_n 0, 1) := by decide +kernel
theorem dX8_nextBlock_24 : decode cX8_nextBlock 24 = .ok (.getfield 13, 3) := by decide +kernel
theorem dX8_nextBlock_27 : decode cX8_nextBlock 27 = .ok (.iconst 1, 1) := by decide +kernel
theorem dX8_nextBlock_28 : decode cX8_nextBlock 28 = .ok (.isub, 1) := by decide +kernel
theorem dX8_nextBlock_29 : decode cX8_nextBlock 29 = .ok (.goto 30, 3) := by decide +kernel
theorem dX8_nextBlock_32 : decode cX8_nextBlock 32 = .ok (.aload_n 0, 1) := by decide +kernel
theorem dX8_nextBlock_33 : decode cX8_nextBlock 33 = .ok (.iload_n 1, 1) := by decide +kernel
theorem dX8_nextBlock_34 : decode cX8_nextBlock 34 = .ok (.invokevirtual 205, 3) := by decide +kernel
theorem dX8_nextBlock_37 : decode cX8_nextBlock 37 = .ok (.ifCond .eq 14, 3) := by decide +kernel
theorem dX8_nextBlock_40 : decode cX8_nextBlock 40 = .ok (.aload_n 0, 1) := by decide +kernel
theorem dX8_nextBlock_41 : decode cX8_nextBlock 41 = .ok (.getfield 38, 3) := by decide +kernel
theorem dX8_nextBlock_44 : decode cX8_nextBlock 44 = .ok (.iload_n 1, 1) := by decide +kernel
theorem dX8_nextBlock_45 : decode cX8_nextBlock 45 = .ok (.iaload, 1) := by decide +kernel
theorem dX8_nextBlock_46 : decode cX8_nextBlock 46 = .ok (.iconst 1, 1) := by decide +kernel
theorem dX8_nextBlock_47 : decode cX8_nextBlock 47 = .ok (.iadd, 1) := by decide +kernel
theorem dX8_nextBlock_48 : decode cX8_nextBlock 48 = .ok (.goto 11, 3) := by decide +kernel
theorem dX8_nextBlock_51 : decode cX8_nextBlock 51 = .ok (.aload_n 0, 1) := by decide +kernel
theorem dX8_nextBlock_52 : decode cX8_nextBlock 52 = .ok (.getfield 38, 3) := by decide +kernel
theorem dX8_nextBlock_55 : decode cX8_nextBlock 55 = .ok (.iload_n 1, 1) := by decide +kernel
theorem dX8_nextBlock_56 : decode cX8_nextBlock 56 = .ok (.iaload, 1) := by decide +kernel
theorem dX8_nextBlock_57 : decode cX8_nextBlock 57 = .ok (.iconst 1, 1) := by decide +kernel
theorem dX8_nextBlock_58 : decode cX8_nextBlock 58 = .ok (.isub, 1) := by decide +kernel
theorem dX8_nextBlock_59 : decode cX8_nextBlock 59 = .ok (.ireturn, 1) := by decide +kernel
theorem dX8_otherIn_0 : decode cX8_otherIn 0 = .ok (.bipush (-4), 2) := by decide +kernel
theorem dX8_otherIn_2 : decode cX8_otherIn 2 = .ok (.istore_n 3, 1) := by decide +kernel
theorem dX8_otherIn_3 : decode cX8_otherIn 3 = .ok (.iconst 0, 1) := by decide +kernel
theorem dX8_otherIn_4 : decode cX8_otherIn 4 = .ok (.istore 4, 2) := by decide +kernel
theorem dX8_otherIn_6 : decode cX8_otherIn 6 = .ok (.iload 4, 2) := by decide +kernel
theorem dX8_otherIn_8 : decode cX8_otherIn 8 = .ok (.aload_n 0, 1) := by decide +kernel
theorem dX8_otherIn_9 : decode cX8_otherIn 9 = .ok (.getfield 173, 3) := by decide +kernel
theorem dX8_otherIn_12 : decode cX8_otherIn 12 = .ok (.if_icmp .ge 33, 3) := by decide +kernel
theorem dX8_otherIn_15 : decode cX8_otherIn 15 = .ok (.iload 4, 2) := by decide +kernel
theorem dX8_otherIn_17 : decode cX8_otherIn 17 = .ok (.iload_n 1, 1) := by decide +kernel
theorem dX8_otherIn_18 : decode cX8_otherIn 18 = .ok (.if_icmp .eq 19, 3) := by decide +kernel
theorem dX8_otherIn_21 : decode cX8_otherIn 21 = .ok (.aload_n 0, 1) := by decide +kernel
theorem dX8_otherIn_22 : decode cX8_otherIn 22 = .ok (.getfield 38, 3) := by decide +kernel
theorem dX8_otherIn_25 : decode cX8_otherIn 25 = .ok (.iload 4, 2) := by decide +kernel
theorem dX8_otherIn_27 : decode cX8_otherIn 27 = .ok (.iaload, 1) := by decide +kernel
theorem dX8_otherIn_28 : decode cX8_otherIn 28 = .ok (.iload_n 2, 1) := by decide +kernel
theorem dX8_otherIn_29 : decode cX8_otherIn 29 = .ok (.if_icmp .ne 8, 3) := by decide +kernel
